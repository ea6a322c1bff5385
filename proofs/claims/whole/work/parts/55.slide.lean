/-! ===== a year passes over the wet ===== -/
def Fr (a : Nat) (g g' : Sg) : Prop := (∀ i, i ≠ a → g'.1 i = g.1 i) ∧ g'.2 = g.2
theorem Fr.refl {a : Nat} {g : Sg} : Fr a g g := ⟨fun _ _ => rfl, rfl⟩
theorem Fr.trans {a : Nat} {g g1 g2 : Sg} (h : Fr a g g1) (h2 : Fr a g1 g2) : Fr a g g2 := ⟨fun i hi => (h2.1 i hi).trans (h.1 i hi), h2.2.trans h.2⟩
theorem Fr.pu {a : Nat} {g : Sg} {j : Nat} {v : Int32} : Fr a g (pu g a j v) := ⟨fun i hi => pu_ne hi, rfl⟩
def W6 (g : Sg) (a : Nat) (w : Nat → Nat) : Prop := ∀ c, c < 6 → g.1 a c = nI (w c)
def yUp (w : Nat → Nat) (c : Nat) : Nat := min (w c + 1) 9
def ySum (w : Nat → Nat) (c : Nat) : Nat := (if c = 0 then 0 else w (c - 1)) + w c + (if c = 5 then 0 else w (c + 1))
def ySl (S : Nat) (w : Nat → Nat) (c : Nat) : Bool := decide (S ≤ ySum (yUp w) c)
def ySet (S : Nat) (w : Nat → Nat) : Nat := bitsN (ySl S w) 6 0 0
def yNext (S : Nat) (w : Nat → Nat) (c : Nat) : Nat := if ySl S w c then 0 else yUp w c
theorem yUp_le {w : Nat → Nat} {c : Nat} : yUp w c ≤ 9 := Nat.min_le_right _ _
theorem yNext_le {S : Nat} {w : Nat → Nat} {c : Nat} : yNext S w c ≤ 9 := by
  unfold yNext
  split
  · omega
  · exact yUp_le
theorem ySum_le {w : Nat → Nat} {c : Nat} : ySum (yUp w) c ≤ 27 := by
  unfold ySum
  have h1 := yUp_le (w := w) (c := c - 1)
  have h2 := yUp_le (w := w) (c := c)
  have h3 := yUp_le (w := w) (c := c + 1)
  split <;> split <;> omega
theorem ySet_lt {S : Nat} {w : Nat → Nat} : ySet S w < 256 := bitsN_lt 6 0 0 (by omega) (by omega)
theorem ySet_bit {S : Nat} {w : Nat → Nat} {c : Nat} (h : c < 6) : (ySet S w).testBit c = ySl S w c := by
  unfold ySet
  rw [bitsN_bit, Nat.zero_testBit, Bool.false_or, show decide (0 ≤ c ∧ c < 0 + 6) = true from decide_eq_true (by omega), Bool.true_and]
def wk (k : Nat) (u w : Nat → Nat) (c : Nat) : Nat := if c < k then u c else w c
theorem W6.step {g : Sg} {a k : Nat} {u w : Nat → Nat} {v : Int32} (h : W6 g a (wk k u w)) (hv : v = nI (u k)) : W6 (pu g a k v) a (wk (k + 1) u w) := by
  intro c hc
  rw [pu_eq]
  by_cases e : c = k
  · subst e
    rw [up_eq, hv, wk, if_pos (by omega)]
  · rw [up_ne e, h c hc, wk, wk]
    congr 1
    by_cases l : c < k
    · rw [if_pos l, if_pos (by omega)]
    · rw [if_neg l, if_neg (by omega)]
theorem W6.skip {g : Sg} {a k : Nat} {u w : Nat → Nat} (h : W6 g a (wk k u w)) (hv : u k = w k) : W6 g a (wk (k + 1) u w) := by
  intro c hc
  rw [h c hc, wk, wk]
  congr 1
  by_cases l : c < k
  · rw [if_pos l, if_pos (by omega)]
  · rw [if_neg l]
    by_cases e : c = k
    · subst e
      rw [if_pos (by omega), hv]
    · rw [if_neg (by omega)]
theorem W6.done {g : Sg} {a : Nat} {u w : Nat → Nat} (h : W6 g a (wk 6 u w)) : W6 g a u := by
  intro c hc
  rw [h c hc, wk, if_pos hc]
theorem W6.wk0 {g : Sg} {a : Nat} {u w : Nat → Nat} (h : W6 g a w) : W6 g a (wk 0 u w) := by
  intro c hc
  rw [h c hc, wk, if_neg (by omega)]
theorem W6.at {g : Sg} {a k : Nat} {u w : Nat → Nat} (h : W6 g a (wk k u w)) (hk : k < 6) : g.1 a k = nI (w k) := by
  rw [h k hk, wk, if_neg (by omega)]
theorem W6.fr {g g' : Sg} {a : Nat} {w : Nat → Nat} (h : W6 g a w) (e : g'.1 a = g.1 a) : W6 g' a w := by
  intro c hc
  rw [e]
  exact h c hc
theorem yUp_eq {w : Nat → Nat} {c : Nat} (h : w c ≤ 9) : (if w c + 1 < 9 then nI (w c + 1) else (9 : Int32)) = nI (yUp w c) := by
  rw [yUp]
  by_cases l : w c + 1 < 9
  · rw [if_pos l, Nat.min_eq_left (by omega)]
  · rw [if_neg l, Nat.min_eq_right (by omega)]
    rfl
/-! the class -/
theorem holds_y {g : Sg} {s k : Nat} (hs : s < 256) (hk : k < 8) (h : s.testBit k = true) : f5_holds (nI s) (nI k) g = some (1, g) := by
  unfold f5_holds
  rw [if_neg (nI_pos (by omega)), if_pos ((tb_N s hs k hk).2 h), rz1]
theorem holds_n {g : Sg} {s k : Nat} (hs : s < 256) (hk : k < 8) (h : s.testBit k = false) : f5_holds (nI s) (nI k) g = some (0, g) := by
  unfold f5_holds
  rw [if_neg (nI_pos (by omega)), if_neg (fun e => by rw [(tb_N s hs k hk).1 e] at h; exact absurd h (by decide)), rz0]
theorem year1_x {a : Nat} {w : Nat → Nat} (hw : ∀ c, c < 6 → w c ≤ 9) : ∀ (n k f : Nat) (g : Sg), k + n = 6 → n < f → W6 g a (wk k (yUp w) w) → ∃ g', f5_letYearPass_b2 a f (nI k) g = f5_letYearPass_b31 a 1000 0 0 g' ∧ W6 g' a (yUp w) ∧ Fr a g g'
  | 0, k, f + 1, g, hk, _, h => by
    obtain rfl : k = 6 := by omega
    exact ⟨g, rfl, h.done, Fr.refl⟩
  | n + 1, k, f + 1, g, hk, hf, h => by
    have e := h.at (show k < 6 by omega)
    have hl := hw k (by omega)
    unfold f5_letYearPass_b2
    obtain ⟨g', e1, e2, e3⟩ := year1_x hw n (k + 1) f _ (by omega) (by omega) (h.step (yUp_eq hl))
    simp (disch := omega) only [ix_ok, cl, lit_add, add_lit, lit_mul, mul_lit, nI_add, sub_lit, le_nn, lt_nn, eq_nn, le_ln, lt_ln, le_nl, lt_nl, eq_nl, eq_ln, ne_m9, ne_m1, bd_some, bd2_some, ↓nx_eq, rz0, rz1, one_ne0, ↓reduceIte, if_pos, if_neg, e]
    exact ⟨g', e1, e2, Fr.pu.trans e3⟩
theorem wa_step {a f k s j v : Nat} {g : Sg} (hk : k < 6) (hs : s ≤ 100) (h1 : j ≤ k + 1) (h2 : j < 6) (hv : v ≤ 9) (h : g.1 a j = nI v) : f5_wetAround_b10 a (f + 1) (nI k) (nI s) (nI j) g = f5_wetAround_b10 a f (nI k) (nI (s + v)) (nI (j + 1)) g := by
  rw [f5_wetAround_b10]
  simp (disch := omega) only [ix_ok, cl, lit_add, add_lit, lit_mul, mul_lit, nI_add, sub_lit, le_nn, lt_nn, eq_nn, le_ln, lt_ln, le_nl, lt_nl, eq_nl, eq_ln, ne_m9, ne_m1, bd_some, bd2_some, ↓nx_eq, rz0, rz1, one_ne0, ↓reduceIte, if_pos, if_neg, h]
theorem wa_stop {a f k j : Nat} {s : Int32} {g : Sg} (hk : k < 6) (hj : j ≤ 8) (h : k + 1 < j ∨ 6 ≤ j) : f5_wetAround_b10 a (f + 1) (nI k) s (nI j) g = some (s, g) := by
  rw [f5_wetAround_b10]
  by_cases l : k + 1 < j
  · simp (disch := omega) only [ix_ok, cl, lit_add, add_lit, lit_mul, mul_lit, nI_add, sub_lit, le_nn, lt_nn, eq_nn, le_ln, lt_ln, le_nl, lt_nl, eq_nl, eq_ln, ne_m9, ne_m1, bd_some, bd2_some, ↓nx_eq, rz0, rz1, one_ne0, ↓reduceIte, if_pos, if_neg]
  · simp (disch := omega) only [ix_ok, cl, lit_add, add_lit, lit_mul, mul_lit, nI_add, sub_lit, le_nn, lt_nn, eq_nn, le_ln, lt_ln, le_nl, lt_nl, eq_nl, eq_ln, ne_m9, ne_m1, bd_some, bd2_some, ↓nx_eq, rz0, rz1, one_ne0, ↓reduceIte, if_pos, if_neg]
theorem sum_x {a : Nat} {u : Nat → Nat} {g : Sg} (hu : ∀ c, u c ≤ 9) (h : W6 g a u) {k : Nat} (hk : k < 6) : f5_wetAround a (nI k) g = some (nI (ySum u k), g) := by
  have q0 := hu (k - 1)
  have q1 := hu k
  have q2 := hu (k + 1)
  unfold f5_wetAround ySum
  by_cases h0 : k = 0
  · subst h0
    rw [show (if (0 : Int32) < nI 0 - 1 then nI 0 - 1 else 0) = nI 0 from by decide, nx_eq, show (0 : Int32) = nI 0 from rfl, show (1000 : Nat) = 997 + 1 + 1 + 1 from rfl, wa_step (v := u 0) (by omega) (by omega) (by omega) (by omega) q1 (h 0 (by omega)), wa_step (v := u 1) (by omega) (by omega) (by omega) (by omega) q2 (h 1 (by omega)), wa_stop (by omega) (by omega) (by omega)]
    rfl
  · have e : (if (0 : Int32) < nI k - 1 then nI k - 1 else 0) = nI (k - 1) := by
      by_cases l : 0 < k - 1
      · simp (disch := omega) only [ix_ok, cl, lit_add, add_lit, lit_mul, mul_lit, nI_add, sub_lit, le_nn, lt_nn, eq_nn, le_ln, lt_ln, le_nl, lt_nl, eq_nl, eq_ln, ne_m9, ne_m1, bd_some, bd2_some, ↓nx_eq, rz0, rz1, one_ne0, ↓reduceIte, if_pos, if_neg]
      · obtain rfl : k = 1 := by omega
        rfl
    rw [e, nx_eq, if_neg h0, show (0 : Int32) = nI 0 from rfl, show (1000 : Nat) = 996 + 1 + 1 + 1 + 1 from rfl, wa_step (v := u (k - 1)) (by omega) (by omega) (by omega) (by omega) q0 (h (k - 1) (by omega)), show k - 1 + 1 = k by omega, wa_step (v := u k) (by omega) (by omega) (by omega) (by omega) q1 (h k (by omega))]
    by_cases h5 : k = 5
    · rw [wa_stop (by omega) (by omega) (by omega), if_pos h5, Nat.zero_add, Nat.add_zero]
    · rw [wa_step (v := u (k + 1)) (by omega) (by omega) (by omega) (by omega) q2 (h (k + 1) (by omega)), wa_stop (by omega) (by omega) (by omega), if_neg h5, Nat.zero_add]
theorem year2_x {a S : Nat} {w : Nat → Nat} {g : Sg} (hS : g.1 90 3 = nI S) (hS2 : S ≤ 27) (h : W6 g a (yUp w)) : ∀ (n k f : Nat) (s : Int32), k + n = 6 → n < f → f5_letYearPass_b31 a f s (nI k) g = f5_letYearPass_b66 a 1000 (bitsF (ySl S w) n k s) 0 g
  | 0, k, f + 1, s, hk, _ => by
    obtain rfl : k = 6 := by omega
    rfl
  | n + 1, k, f + 1, s, hk, hf => by
    have hl := ySum_le (w := w) (c := k)
    unfold f5_letYearPass_b31
    rw [sum_x (u := yUp w) (fun c => yUp_le) h (show k < 6 by omega), bitsF, bd2_some, hS]
    by_cases l : S ≤ ySum (yUp w) k
    · rw [show ySl S w k = true from decide_eq_true l]
      simp (disch := omega) only [ix_ok, cl, lit_add, add_lit, lit_mul, mul_lit, nI_add, sub_lit, le_nn, lt_nn, eq_nn, le_ln, lt_ln, le_nl, lt_nl, eq_nl, eq_ln, ne_m9, ne_m1, bd_some, bd2_some, ↓nx_eq, rz0, rz1, one_ne0, ↓reduceIte, if_pos, if_neg, f5_letYearPass_b58]
      exact year2_x hS hS2 h n (k + 1) f _ (by omega) (by omega)
    · rw [show ySl S w k = false from decide_eq_false l]
      simp (disch := omega) only [ix_ok, cl, lit_add, add_lit, lit_mul, mul_lit, nI_add, sub_lit, le_nn, lt_nn, eq_nn, le_ln, lt_ln, le_nl, lt_nl, eq_nl, eq_ln, ne_m9, ne_m1, bd_some, bd2_some, ↓nx_eq, rz0, rz1, one_ne0, ↓reduceIte, if_pos, if_neg, f5_letYearPass_b58]
      exact year2_x hS hS2 h n (k + 1) f _ (by omega) (by omega)
theorem year3_x {a S : Nat} {w : Nat → Nat} : ∀ (n k f : Nat) (g : Sg), k + n = 6 → n < f → W6 g a (wk k (yNext S w) (yUp w)) → ∃ g', f5_letYearPass_b66 a f (nI (ySet S w)) (nI k) g = some (nI (ySet S w), g') ∧ W6 g' a (yNext S w) ∧ Fr a g g'
  | 0, k, f + 1, g, hk, _, h => by
    obtain rfl : k = 6 := by omega
    exact ⟨g, rfl, h.done, Fr.refl⟩
  | n + 1, k, f + 1, g, hk, hf, h => by
    unfold f5_letYearPass_b66
    by_cases l : ySl S w k = true
    · rw [holds_y ySet_lt (by omega) ((ySet_bit (by omega)).trans l)]
      obtain ⟨g', e1, e2, e3⟩ := year3_x n (k + 1) f _ (by omega) (by omega) (h.step (v := 0) (by rw [yNext, if_pos l]; rfl))
      simp (disch := omega) only [ix_ok, cl, lit_add, add_lit, lit_mul, mul_lit, nI_add, sub_lit, le_nn, lt_nn, eq_nn, le_ln, lt_ln, le_nl, lt_nl, eq_nl, eq_ln, ne_m9, ne_m1, bd_some, bd2_some, ↓nx_eq, rz0, rz1, one_ne0, ↓reduceIte, if_pos, if_neg, f5_letYearPass_b84]
      exact ⟨g', e1, e2, Fr.pu.trans e3⟩
    · rw [holds_n ySet_lt (by omega) ((ySet_bit (by omega)).trans (Bool.not_eq_true _ ▸ l))]
      obtain ⟨g', e1, e2, e3⟩ := year3_x n (k + 1) f _ (by omega) (by omega) (h.skip (by rw [yNext, if_neg l]))
      simp (disch := omega) only [ix_ok, cl, lit_add, add_lit, lit_mul, mul_lit, nI_add, sub_lit, le_nn, lt_nn, eq_nn, le_ln, lt_ln, le_nl, lt_nl, eq_nl, eq_ln, ne_m9, ne_m1, bd_some, bd2_some, ↓nx_eq, rz0, rz1, one_ne0, ↓reduceIte, if_pos, if_neg, f5_letYearPass_b84]
      exact ⟨g', e1, e2, e3⟩
theorem yearX {a S : Nat} {w : Nat → Nat} {g : Sg} (ha : 90 ≠ a) (hS : g.1 90 3 = nI S) (hS2 : S ≤ 27) (hw : ∀ c, c < 6 → w c ≤ 9) (h : W6 g a w) : ∃ g', f5_letYearPass a g = some (nI (ySet S w), g') ∧ W6 g' a (yNext S w) ∧ Fr a g g' := by
  obtain ⟨g1, a1, a2, a3⟩ := year1_x hw 6 0 1000 g (by omega) (by omega) h.wk0
  have hS1 : g1.1 90 3 = nI S := by rw [a3.1 90 ha]; exact hS
  have b := year2_x hS1 hS2 a2 6 0 1000 0 (by omega) (by omega)
  obtain ⟨g2, c1, c2, c3⟩ := year3_x (S := S) 6 0 1000 g1 (by omega) (by omega) a2.wk0
  refine ⟨g2, ?_, c2, a3.trans c3⟩
  unfold f5_letYearPass
  rw [show (0 : Int32) = nI 0 from rfl, a1]
  refine b.trans ?_
  rw [show (0 : Int32) = nI 0 from rfl, bitsF_N 6 0 0 (by omega)]
  exact c1
/-! the reference -/
theorem year1_m {w : Nat → Nat} (hw : ∀ c, c < 6 → w c ≤ 9) : ∀ (n k f : Nat) (g : Sg), k + n = 6 → n < f → W6 g 28 (wk k (yUp w) w) → ∃ g', f6_slidesOf_b4 f 0 (nI k) g = f6_slidesOf_b48 1000 0 0 g' ∧ W6 g' 28 (yUp w) ∧ Fr 28 g g'
  | 0, k, f + 1, g, hk, _, h => by
    obtain rfl : k = 6 := by omega
    refine ⟨g, ?_, h.done, Fr.refl⟩
    unfold f6_slidesOf_b4
    simp (disch := omega) only [ix_ok, cl, lit_add, add_lit, lit_mul, mul_lit, nI_add, sub_lit, le_nn, lt_nn, eq_nn, le_ln, lt_ln, le_nl, lt_nl, eq_nl, eq_ln, ne_m9, ne_m1, bd_some, bd2_some, ↓nx_eq, rz0, rz1, one_ne0, ↓reduceIte, if_pos, if_neg]
  | n + 1, k, f + 1, g, hk, hf, h => by
    have e := h.at (show k < 6 by omega)
    have hl := hw k (by omega)
    unfold f6_slidesOf_b4
    by_cases l : 9 ≤ w k
    · obtain ⟨g', e1, e2, e3⟩ := year1_m hw n (k + 1) f _ (by omega) (by omega) (h.step (v := 9) (by rw [yUp, Nat.min_eq_right (by omega)]; rfl))
      simp (disch := omega) only [ix_ok, cl, lit_add, add_lit, lit_mul, mul_lit, nI_add, sub_lit, le_nn, lt_nn, eq_nn, le_ln, lt_ln, le_nl, lt_nl, eq_nl, eq_ln, ne_m9, ne_m1, bd_some, bd2_some, ↓nx_eq, rz0, rz1, one_ne0, ↓reduceIte, if_pos, if_neg, e, f6_slidesOf_b39]
      exact ⟨g', e1, e2, Fr.pu.trans e3⟩
    · obtain ⟨g', e1, e2, e3⟩ := year1_m hw n (k + 1) f _ (by omega) (by omega) (h.step (v := nI (w k + 1)) (by rw [yUp, Nat.min_eq_left (by omega)]))
      simp (disch := omega) only [ix_ok, cl, lit_add, add_lit, lit_mul, mul_lit, nI_add, sub_lit, le_nn, lt_nn, eq_nn, le_ln, lt_ln, le_nl, lt_nl, eq_nl, eq_ln, ne_m9, ne_m1, bd_some, bd2_some, ↓nx_eq, rz0, rz1, one_ne0, ↓reduceIte, if_pos, if_neg, e, f6_slidesOf_b39]
      exact ⟨g', e1, e2, Fr.pu.trans e3⟩
theorem year2_m {S : Nat} {w : Nat → Nat} {g : Sg} (hS : g.1 9 3 = nI S) (hS2 : S ≤ 27) (h : W6 g 28 (yUp w)) : ∀ (n k f : Nat) (s : Int32), k + n = 6 → n < f → f6_slidesOf_b48 f s (nI k) g = f6_slidesOf_b124 1000 (bitsF (ySl S w) n k s) 0 g
  | 0, k, f + 1, s, hk, _ => by
    obtain rfl : k = 6 := by omega
    rfl
  | n + 1, k, f + 1, s, hk, hf => by
    have hl := ySum_le (w := w) (c := k)
    have key := year2_m hS hS2 h n (k + 1) f
    have one : ∀ s, f6_slidesOf_b94 (f6_slidesOf_b48 f) s (nI k) (if k = 5 then 0 else nI (yUp w (k + 1))) (if k = 0 then nI (yUp w k) else nI (yUp w (k - 1) + yUp w k)) g = f6_slidesOf_b124 1000 (bitsF (ySl S w) (n + 1) k s) 0 g := by
      intro s
      have es : (if k = 0 then nI (yUp w k) else nI (yUp w (k - 1) + yUp w k)) + (if k = 5 then 0 else nI (yUp w (k + 1))) = nI (ySum (yUp w) k) := by
        unfold ySum
        by_cases h0 : k = 0
        · rw [if_pos h0, if_pos h0]
          by_cases h5 : k = 5
          · omega
          · rw [if_neg h5, if_neg h5, nI_add, Nat.zero_add]
        · rw [if_neg h0, if_neg h0]
          by_cases h5 : k = 5
          · rw [if_pos h5, if_pos h5, Int32.add_zero, Nat.add_zero]
          · rw [if_neg h5, if_neg h5, nI_add]
      unfold f6_slidesOf_b94
      rw [es, bitsF, nx_eq, hS]
      by_cases l : S ≤ ySum (yUp w) k
      · rw [show ySl S w k = true from decide_eq_true l]
        simp (disch := omega) only [ix_ok, cl, lit_add, add_lit, lit_mul, mul_lit, nI_add, sub_lit, le_nn, lt_nn, eq_nn, le_ln, lt_ln, le_nl, lt_nl, eq_nl, eq_ln, ne_m9, ne_m1, bd_some, bd2_some, ↓nx_eq, rz0, rz1, one_ne0, ↓reduceIte, if_pos, if_neg, f6_slidesOf_b114]
        exact key _ (by omega) (by omega)
      · rw [show ySl S w k = false from decide_eq_false l]
        simp (disch := omega) only [ix_ok, cl, lit_add, add_lit, lit_mul, mul_lit, nI_add, sub_lit, le_nn, lt_nn, eq_nn, le_ln, lt_ln, le_nl, lt_nl, eq_nl, eq_ln, ne_m9, ne_m1, bd_some, bd2_some, ↓nx_eq, rz0, rz1, one_ne0, ↓reduceIte, if_pos, if_neg, f6_slidesOf_b114, or0]
        exact key _ (by omega) (by omega)
    have e := h k (by omega)
    unfold f6_slidesOf_b48 f6_slidesOf_b76
    rw [← one]
    by_cases h0 : k = 0
    · subst h0
      have e1 := h 1 (by omega)
      simp (disch := omega) only [ix_ok, cl, lit_add, add_lit, lit_mul, mul_lit, nI_add, sub_lit, le_nn, lt_nn, eq_nn, le_ln, lt_ln, le_nl, lt_nl, eq_nl, eq_ln, ne_m9, ne_m1, bd_some, bd2_some, ↓nx_eq, rz0, rz1, one_ne0, ↓reduceIte, if_pos, if_neg, e, e1, Int32.add_zero]
    · have e0 := h (k - 1) (by omega)
      by_cases h5 : k = 5
      · subst h5
        simp (disch := omega) only [ix_ok, cl, lit_add, add_lit, lit_mul, mul_lit, nI_add, sub_lit, le_nn, lt_nn, eq_nn, le_ln, lt_ln, le_nl, lt_nl, eq_nl, eq_ln, ne_m9, ne_m1, bd_some, bd2_some, ↓nx_eq, rz0, rz1, one_ne0, ↓reduceIte, if_pos, if_neg, e, e0]
        rw [Nat.add_comm]
      · have e1 := h (k + 1) (by omega)
        simp (disch := omega) only [ix_ok, cl, lit_add, add_lit, lit_mul, mul_lit, nI_add, sub_lit, le_nn, lt_nn, eq_nn, le_ln, lt_ln, le_nl, lt_nl, eq_nl, eq_ln, ne_m9, ne_m1, bd_some, bd2_some, ↓nx_eq, rz0, rz1, one_ne0, ↓reduceIte, if_pos, if_neg, e, e0, e1]
        rw [Nat.add_comm (yUp w k)]
theorem year3_m {S : Nat} {w : Nat → Nat} : ∀ (n k f : Nat) (g : Sg), k + n = 6 → n < f → W6 g 28 (wk k (yNext S w) (yUp w)) → ∃ g', f6_slidesOf_b124 f (nI (ySet S w)) (nI k) g = some (nI (ySet S w), g') ∧ W6 g' 28 (yNext S w) ∧ Fr 28 g g'
  | 0, k, f + 1, g, hk, _, h => by
    obtain rfl : k = 6 := by omega
    exact ⟨g, rfl, h.done, Fr.refl⟩
  | n + 1, k, f + 1, g, hk, hf, h => by
    unfold f6_slidesOf_b124
    have e := h.at (show k < 6 by omega)
    by_cases l : ySl S w k = true
    · have t := (tb_N (ySet S w) ySet_lt k (by omega)).2 ((ySet_bit (by omega)).trans l)
      obtain ⟨g', e1, e2, e3⟩ := year3_m n (k + 1) f _ (by omega) (by omega) (h.step (v := 0) (by rw [yNext, if_pos l]; rfl))
      rw [if_pos t]
      simp (disch := omega) only [ix_ok, cl, lit_add, add_lit, lit_mul, mul_lit, nI_add, sub_lit, le_nn, lt_nn, eq_nn, le_ln, lt_ln, le_nl, lt_nl, eq_nl, eq_ln, ne_m9, ne_m1, bd_some, bd2_some, ↓nx_eq, rz0, rz1, one_ne0, ↓reduceIte, if_pos, if_neg, f6_slidesOf_b154]
      exact ⟨g', e1, e2, Fr.pu.trans e3⟩
    · have t : ¬ ((nI (ySet S w) >>> (nI k &&& 31)) &&& 1) = (1 : Int32) := fun q => l ((ySet_bit (by omega)).symm.trans ((tb_N (ySet S w) ySet_lt k (by omega)).1 q))
      obtain ⟨g', e1, e2, e3⟩ := year3_m n (k + 1) f _ (by omega) (by omega) (h.step (v := nI (yUp w k)) (by rw [yNext, if_neg l]))
      rw [if_neg t]
      simp (disch := omega) only [ix_ok, cl, lit_add, add_lit, lit_mul, mul_lit, nI_add, sub_lit, le_nn, lt_nn, eq_nn, le_ln, lt_ln, le_nl, lt_nl, eq_nl, eq_ln, ne_m9, ne_m1, bd_some, bd2_some, ↓nx_eq, rz0, rz1, one_ne0, ↓reduceIte, if_pos, if_neg, e, f6_slidesOf_b154]
      exact ⟨g', e1, e2, Fr.pu.trans e3⟩
theorem yearM {S : Nat} {w : Nat → Nat} {g : Sg} (hS : g.1 9 3 = nI S) (hS2 : S ≤ 27) (hw : ∀ c, c < 6 → w c ≤ 9) (h : W6 g 28 w) : ∃ g', f6_slidesOf g = some (nI (ySet S w), g') ∧ W6 g' 28 (yNext S w) ∧ Fr 28 g g' := by
  obtain ⟨g1, a1, a2, a3⟩ := year1_m hw 6 0 1000 g (by omega) (by omega) h.wk0
  have hS1 : g1.1 9 3 = nI S := by rw [a3.1 9 (by omega)]; exact hS
  have b := year2_m hS1 hS2 a2 6 0 1000 0 (by omega) (by omega)
  obtain ⟨g2, c1, c2, c3⟩ := year3_m (S := S) 6 0 1000 g1 (by omega) (by omega) a2.wk0
  refine ⟨g2, ?_, c2, a3.trans c3⟩
  unfold f6_slidesOf
  rw [show f6_slidesOf_b4 1000 0 0 g = f6_slidesOf_b4 1000 0 (nI 0) g from rfl, a1]
  refine b.trans ?_
  rw [show (0 : Int32) = nI 0 from rfl, bitsF_N 6 0 0 (by omega)]
  exact c1
