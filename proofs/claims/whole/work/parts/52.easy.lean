/-! ===== the small ones ===== -/
theorem in_n {g : Sg} {x a b : Int32} (h : x < a ∨ b < x) : f6_in x a b g = some (0, g) := by
  unfold f6_in
  rcases h with h | h
  · rw [if_pos h, rz0]
  · rw [rz0, if_pos h]
    split <;> rfl
theorem in_t {g : Sg} {x a b : Int32} (h1 : ¬ x < a) (h2 : ¬ b < x) : f6_in x a b g = some (1, g) := by
  unfold f6_in
  rw [if_neg h1, if_neg h2, rz1]
theorem pred_lt {Q : Nat} {a : Int32} (hQ : Q < 2147483648) (h : nI Q ≤ a) : nI Q - 1 < a := by
  rw [Int32.le_iff_toInt_le, nI_toInt hQ] at h
  rw [Int32.lt_iff_toInt_lt]
  rcases Nat.eq_zero_or_pos Q with h0 | h0
  · subst h0
    have e : (nI 0 - 1 : Int32).toInt = -1 := by decide
    rw [e]; omega
  · have e : nI Q - 1 = nI (Q - 1) := pk_sub (b := 1) h0
    rw [e, nI_toInt (by omega)]; omega
theorem isP_y {g : Sg} {k Q : Nat} (hm : g.1 9 1 = nI Q) (hQ : Q ≤ 8) (h : k < Q) : f6_isPromise (nI k) g = some (1, g) := by
  unfold f6_isPromise
  simp (disch := omega) only [ix_ok, cl, lit_add, add_lit, lit_mul, mul_lit, nI_add, sub_lit, le_nn, lt_nn, eq_nn, le_ln, lt_ln, le_nl, lt_nl, eq_nl, eq_ln, ne_m9, ne_m1, bd_some, bd2_some, ↓nx_eq, rz0, rz1, one_ne0, ↓reduceIte, if_pos, if_neg, hm, f6_in]
theorem isP_n {g : Sg} {a : Int32} {Q : Nat} (hm : g.1 9 1 = nI Q) (hQ : Q ≤ 8) (h : a < 0 ∨ nI Q ≤ a) : f6_isPromise a g = some (0, g) := by
  unfold f6_isPromise
  rw [hm, in_n (h.imp id (fun q => pred_lt (by omega) q))]
  rfl
theorem hasP_y {g : Sg} {k Q : Nat} (hm : g.1 90 1 = nI Q) (hQ : Q ≤ 8) (h : k < Q) : f4_hasPromise (nI k) g = some (1, g) := by
  unfold f4_hasPromise
  simp (disch := omega) only [ix_ok, cl, lit_add, add_lit, lit_mul, mul_lit, nI_add, sub_lit, le_nn, lt_nn, eq_nn, le_ln, lt_ln, le_nl, lt_nl, eq_nl, eq_ln, ne_m9, ne_m1, bd_some, bd2_some, ↓nx_eq, rz0, rz1, one_ne0, ↓reduceIte, if_pos, if_neg, hm]
theorem hasP_n {g : Sg} {a : Int32} {Q : Nat} (hm : g.1 90 1 = nI Q) (h : a < 0 ∨ nI Q ≤ a) : f4_hasPromise a g = some (0, g) := by
  unfold f4_hasPromise
  rcases h with h | h
  · rw [if_pos h, rz0]
  · rw [hm, if_pos h, rz0]
    split <;> rfl
theorem hasPe_y {g : Sg} {k Q : Nat} (hm : g.1 90 0 = nI Q) (hQ : Q ≤ 6) (h : k < Q) : f4_hasPerson (nI k) g = some (1, g) := by
  unfold f4_hasPerson
  simp (disch := omega) only [ix_ok, cl, lit_add, add_lit, lit_mul, mul_lit, nI_add, sub_lit, le_nn, lt_nn, eq_nn, le_ln, lt_ln, le_nl, lt_nl, eq_nl, eq_ln, ne_m9, ne_m1, bd_some, bd2_some, ↓nx_eq, rz0, rz1, one_ne0, ↓reduceIte, if_pos, if_neg, hm]
theorem hasPe_n {g : Sg} {a : Int32} {Q : Nat} (hm : g.1 90 0 = nI Q) (h : a < 0 ∨ nI Q ≤ a) : f4_hasPerson a g = some (0, g) := by
  unfold f4_hasPerson
  rcases h with h | h
  · rw [if_pos h, rz0]
  · rw [hm, if_pos h, rz0]
    split <;> rfl
theorem cell_y {g : Sg} {k : Nat} (h : k < 6) : f5_isCell (nI k) g = some (1, g) ∧ f6_isCell (nI k) g = some (1, g) := by
  unfold f5_isCell f6_isCell
  simp (disch := omega) only [ix_ok, cl, lit_add, add_lit, lit_mul, mul_lit, nI_add, sub_lit, le_nn, lt_nn, eq_nn, le_ln, lt_ln, le_nl, lt_nl, eq_nl, eq_ln, ne_m9, ne_m1, bd_some, bd2_some, ↓nx_eq, rz0, rz1, one_ne0, ↓reduceIte, if_pos, if_neg, f6_in, and_self]
theorem lt_of_le6 {n : Nat} {a : Int32} (hn : n + 1 < 2147483648) (h : nI (n + 1) ≤ a) : nI n < a := by
  have := pred_lt (Q := n + 1) hn h
  rwa [nI_pred] at this
theorem cell_n {g : Sg} {a : Int32} (h : a < 0 ∨ nI 6 ≤ a) : f5_isCell a g = some (0, g) ∧ f6_isCell a g = some (0, g) := by
  unfold f5_isCell f6_isCell
  have e : f6_in a 0 5 g = some (0, g) := in_n (h.imp id (fun q => lt_of_le6 (n := 5) (by omega) q))
  rw [e]
  refine ⟨?_, rfl⟩
  rcases h with h | h
  · rw [if_pos h, rz0]
  · rw [if_pos (show (6 : Int32) ≤ a from h), rz0]
    split <;> rfl
/-- an answer that leaves the class as it is, and of the reference but 'thrown' -/
theorem St.ro {F G : Sg → Option (Int32 × Sg)} (h : ∀ gx gm P Q A S, RelX gx.1 gm.1 P Q A S → gx.2 = gm.2 → ∃ r, F gx = some (r, gx) ∧ G gm = some (r, t0 gm)) : St Rel F G := by
  intro gx gm hr
  obtain ⟨⟨P, Q, A, S, h1⟩, h2⟩ := id hr
  obtain ⟨r, e1, e2⟩ := h gx gm P Q A S h1 h2
  exact ⟨r, gx, t0 gm, e1, e2, hr.t⟩
theorem s_trace : StL Rel f5_trace f6_trace := by
  intro gx gm hr
  exact ⟨gx.2, gx, t0 gm, rfl, by rw [hr.2]; rfl, hr.t⟩
theorem lm1 (k : Nat) (h : k ≤ 1000000000) : (nI k - 1 : Int32).toInt = (k : Int) - 1 := pk_sub_toInt (a := k) (b := 1) (by omega) (by omega)
/-- the common guard of the reference -/
theorem in_ok {g : Sg} {k lo hi : Nat} (h1 : lo ≤ k) (h2 : k ≤ hi) (hh : hi < 2147483648) : f6_in (nI k) (nI lo) (nI hi) g = some (1, g) := by
  unfold f6_in
  simp (disch := omega) only [ix_ok, cl, lit_add, add_lit, lit_mul, mul_lit, nI_add, sub_lit, le_nn, lt_nn, eq_nn, le_ln, lt_ln, le_nl, lt_nl, eq_nl, eq_ln, ne_m9, ne_m1, bd_some, bd2_some, ↓nx_eq, rz0, rz1, one_ne0, ↓reduceIte, if_pos, if_neg]
theorem in_no {g : Sg} {a : Int32} {hi : Nat} (hh : hi + 1 < 2147483648) (h : a < 0 ∨ nI (hi + 1) ≤ a) : f6_in a 0 (nI hi) g = some (0, g) := in_n (h.imp id (fun q => lt_of_le6 hh q))
theorem s_person (a b : Int32) : St Rel (f5_person a b) (f6_person a b) := by
  refine St.ro (fun gx gm P Q A S h _ => ?_)
  obtain ⟨hx, hm, hP⟩ := h.t.P_
  unfold f5_person f6_person
  rw [nx_eq]
  rcases tri a (n := P) (by omega) with ⟨k, hk, rfl⟩ | hn
  · obtain ⟨e1, -, e2, -⟩ := h.t.per hk
    rcases tri b (n := 2) (by omega) with ⟨j, hj, rfl⟩ | q
    · rcases (show j = 0 ∨ j = 1 by omega) with rfl | rfl
      · simp (disch := omega) only [ix_ok, cl, lit_add, add_lit, lit_mul, mul_lit, nI_add, sub_lit, le_nn, lt_nn, eq_nn, le_ln, lt_ln, le_nl, lt_nl, eq_nl, eq_ln, ne_m9, ne_m1, bd_some, bd2_some, ↓nx_eq, rz0, rz1, one_ne0, ↓reduceIte, if_pos, if_neg, hasPe_y hx hP hk, hm, f6_in, e1]
        exact ⟨_, rfl, rfl⟩
      · simp (disch := omega) only [ix_ok, cl, lit_add, add_lit, lit_mul, mul_lit, nI_add, sub_lit, le_nn, lt_nn, eq_nn, le_ln, lt_ln, le_nl, lt_nl, eq_nl, eq_ln, ne_m9, ne_m1, bd_some, bd2_some, ↓nx_eq, rz0, rz1, one_ne0, ↓reduceIte, if_pos, if_neg, hasPe_y hx hP hk, hm, f6_in, e2]
        exact ⟨_, rfl, rfl⟩
    · have hb : f6_in b 0 1 (t0 gm) = some (0, t0 gm) := in_no (hi := 1) (by omega) q
      have b0 : ¬ b = 0 := fun e => by subst e; exact absurd q (by decide)
      have b1 : ¬ b = 1 := fun e => by subst e; exact absurd q (by decide)
      have ha : f6_in (nI k) 0 (nI P - 1) (t0 gm) = some (1, t0 gm) := by
        simp (disch := omega) only [ix_ok, cl, lit_add, add_lit, lit_mul, mul_lit, nI_add, sub_lit, le_nn, lt_nn, eq_nn, le_ln, lt_ln, le_nl, lt_nl, eq_nl, eq_ln, ne_m9, ne_m1, bd_some, bd2_some, ↓nx_eq, rz0, rz1, one_ne0, ↓reduceIte, if_pos, if_neg, f6_in]
      rw [hasPe_y hx hP hk, hm, ha]
      simp only [bd2_some, hb, if_neg b0, if_neg b1, one_ne0, if_false, if_true]
      exact ⟨_, rfl, rfl⟩
  · rw [hasPe_n hx hn, bd2_some, if_pos rfl, hm, in_n (hn.imp id (fun q => pred_lt (by omega) q)), bd2_some, if_pos rfl]
    exact ⟨_, rfl, rfl⟩
theorem s_promise (a b : Int32) : St Rel (f5_promise a b) (f6_promise a b) := by
  refine St.ro (fun gx gm P Q A S h _ => ?_)
  obtain ⟨hx, hm, hQ⟩ := h.t.Q_
  unfold f5_promise f6_promise
  rw [nx_eq]
  rcases tri a (n := Q) (by omega) with ⟨k, hk, rfl⟩ | hn
  · have e1 := (h.t.who hk).1
    have e2 := (h.t.cel hk).1
    have e3 := (h.t.dep hk).1
    have e4 := (h.t.spa hk).1
    have e5 := (h.t.due hk).1
    have e6 := (h.t.wds hk).1
    have e7 := (h.t.cla hk).1
    have e8 := (h.t.is hk).1
    rw [hasP_y hx hQ hk, isP_y hm hQ hk]
    rcases tri b (n := 8) (by omega) with ⟨j, hj, rfl⟩ | q
    · rcases (show j = 0 ∨ j = 1 ∨ j = 2 ∨ j = 3 ∨ j = 4 ∨ j = 5 ∨ j = 6 ∨ j = 7 by omega) with rfl | rfl | rfl | rfl | rfl | rfl | rfl | rfl
      all_goals
        simp (disch := omega) only [ix_ok, cl, lit_add, add_lit, lit_mul, mul_lit, nI_add, sub_lit, le_nn, lt_nn, eq_nn, le_ln, lt_ln, le_nl, lt_nl, eq_nl, eq_ln, ne_m9, ne_m1, bd_some, bd2_some, ↓nx_eq, rz0, rz1, one_ne0, ↓reduceIte, if_pos, if_neg, f6_in, e1, e2, e3, e4, e5, e6, e7, e8]
        exact ⟨_, rfl, rfl⟩
    · have hb : f6_in b 0 7 (t0 gm) = some (0, t0 gm) := in_no (hi := 7) (by omega) q
      have b0 : ¬ b = 0 := fun e => by subst e; exact absurd q (by decide)
      have b1 : ¬ b = 1 := fun e => by subst e; exact absurd q (by decide)
      have b2 : ¬ b = 2 := fun e => by subst e; exact absurd q (by decide)
      have b3 : ¬ b = 3 := fun e => by subst e; exact absurd q (by decide)
      have b4 : ¬ b = 4 := fun e => by subst e; exact absurd q (by decide)
      have b5 : ¬ b = 5 := fun e => by subst e; exact absurd q (by decide)
      have b6 : ¬ b = 6 := fun e => by subst e; exact absurd q (by decide)
      have b7 : ¬ b = 7 := fun e => by subst e; exact absurd q (by decide)
      simp only [bd2_some, hb, if_neg b0, if_neg b1, if_neg b2, if_neg b3, if_neg b4, if_neg b5, if_neg b6, if_neg b7, one_ne0, if_false, if_true]
      exact ⟨_, rfl, rfl⟩
  · rw [hasP_n hx hn, isP_n hm hQ hn, bd2_some, bd2_some, if_pos rfl, if_pos rfl]
    exact ⟨_, rfl, rfl⟩
/-! how many words are left -/
theorem val1 {n q d : Nat} (hn : n ≤ 4) (hq : q ≤ 100000) (hd : d ≤ 9) : (if (1 : Int32) < nI n - nI q - nI d then nI n - nI q - nI d else 1) = nI (max 1 (n - (q + d))) ∧ (if (1 : Int32) ≤ nI n - nI q - nI d then nI n - nI q - nI d else 1) = nI (max 1 (n - (q + d))) := by
  have e : nI n - nI q - nI d = nI n - nI (q + d) := by
    rw [← nI_add, Int32.sub_eq_add_neg, Int32.sub_eq_add_neg, Int32.sub_eq_add_neg, Int32.neg_add, Int32.sub_eq_add_neg, Int32.add_assoc]
  have e1 : (nI n - nI q - nI d).toInt = (n : Int) - ((q + d : Nat) : Int) := by rw [e]; exact pk_sub_toInt (by omega) (by omega)
  have l1 : (1 : Int32).toInt = 1 := by decide
  by_cases h : q + d < n
  · have e2 : nI n - nI q - nI d = nI (n - (q + d)) := by rw [e, pk_sub (by omega)]
    rw [e2]
    rw [if_pos (show (1 : Int32) ≤ nI (n - (q + d)) from nI_le (a := 1) (by omega) (by omega))]
    refine ⟨?_, by rw [Nat.max_eq_right (by omega)]⟩
    by_cases h2 : 1 < n - (q + d)
    · rw [if_pos (show (1 : Int32) < nI (n - (q + d)) from nI_lt (a := 1) (by omega) (by omega)), Nat.max_eq_right (by omega)]
    · rw [if_neg (show ¬ (1 : Int32) < nI (n - (q + d)) from nI_nlt (a := 1) (by omega) (by omega)), Nat.max_eq_left (by omega)]
      rfl
  · have n1 : ¬ (1 : Int32) < nI n - nI q - nI d := by rw [Int32.lt_iff_toInt_lt, e1, l1]; omega
    have n2 : ¬ (1 : Int32) ≤ nI n - nI q - nI d := by rw [Int32.le_iff_toInt_le, e1, l1]; omega
    rw [if_neg n1, if_neg n2, Nat.max_eq_left (by omega)]
    exact ⟨rfl, rfl⟩
theorem left_ok {gx gm : Sg} {P Q A S k a : Nat} (h : RelX gx.1 gm.1 P Q A S) (hk : k < Q) (ha : a ≤ 99) : ∃ y l n, gm.1 21 0 = nI y ∧ y ≤ 999 ∧ gx.1 87 k = nI n ∧ l ≤ n ∧ n ≤ 4 ∧ f5_leftIn (nI k) (nI a) gx = some (nI l, gx) ∧ f6_leftIn (nI k) (nI (y + a)) gm = some (nI l, gm) := by
  obtain ⟨hx, hm, hQ⟩ := h.Q_
  obtain ⟨y, hy, y1, y2⟩ := h.yr
  obtain ⟨w1, n, n1, n4, w2, -⟩ := h.wds hk
  obtain ⟨i1, s, hs, i2⟩ := h.is hk
  obtain ⟨a1, a2, a3, a4⟩ := h.A_
  obtain ⟨d1, d, hd, d2⟩ := h.dep hk
  obtain ⟨f1, f, hf, f2⟩ := h.dri hk
  obtain ⟨l1, n', l, l2, l3, l4, l5⟩ := h.lef hk
  have hn' : n' = n := (nI_eq (by omega) (by omega)).1 (l2.symm.trans w2)
  subst hn'
  have hq : (y + a) * (d + 1) ≤ 1098 * 6 := Nat.mul_le_mul (by omega) (by omega)
  have hq2 : (y + a) * (d + 1) / A ≤ 1098 * 6 := Nat.le_trans (Nat.div_le_self _ _) hq
  have hv := val1 (n := n') (q := (y + a) * (d + 1) / A) (d := f) n4 (by omega) hf
  have ed : (nI (y + a) * nI (d + 1)) / nI A = nI ((y + a) * (d + 1) / A) := by rw [pk_mul, pk_div (by omega) (by omega) (by omega)]
  unfold f5_leftIn f6_leftIn
  rw [hasP_y hx hQ hk]
  by_cases h0 : s = 0
  · subst h0
    refine ⟨y, max 1 (n' - ((y + a) * (d + 1) / A + f)), n', y2, hy, w2, Nat.max_le.2 ⟨n1, Nat.sub_le _ _⟩, n4, ?_, ?_⟩
    · simp (disch := omega) only [ix_ok, cl, lit_add, add_lit, lit_mul, mul_lit, nI_add, sub_lit, le_nn, lt_nn, eq_nn, le_ln, lt_ln, le_nl, lt_nl, eq_nl, eq_ln, ne_m9, ne_m1, bd_some, bd2_some, ↓nx_eq, rz0, rz1, one_ne0, ↓reduceIte, if_pos, if_neg, i2, f5_lyingLeft, a1, w2, y1, d2, f2, nz, f5_lyingLeft_b27, ed, pk_div, hv.1]
    · simp (disch := omega) only [ix_ok, cl, lit_add, add_lit, lit_mul, mul_lit, nI_add, sub_lit, le_nn, lt_nn, eq_nn, le_ln, lt_ln, le_nl, lt_nl, eq_nl, eq_ln, ne_m9, ne_m1, bd_some, bd2_some, ↓nx_eq, rz0, rz1, one_ne0, ↓reduceIte, if_pos, if_neg, i1, i2, a2, w1, w2, d1, d2, f1, f2, nz, ed, hv.2]
      rw [← hv.2]
      split <;> rfl
  · by_cases h3 : s = 3
    · subst h3
      refine ⟨y, 0, n', y2, hy, w2, by omega, n4, ?_, ?_⟩
      · simp (disch := omega) only [ix_ok, cl, lit_add, add_lit, lit_mul, mul_lit, nI_add, sub_lit, le_nn, lt_nn, eq_nn, le_ln, lt_ln, le_nl, lt_nl, eq_nl, eq_ln, ne_m9, ne_m1, bd_some, bd2_some, ↓nx_eq, rz0, rz1, one_ne0, ↓reduceIte, if_pos, if_neg, i2]
        rfl
      · simp (disch := omega) only [ix_ok, cl, lit_add, add_lit, lit_mul, mul_lit, nI_add, sub_lit, le_nn, lt_nn, eq_nn, le_ln, lt_ln, le_nl, lt_nl, eq_nl, eq_ln, ne_m9, ne_m1, bd_some, bd2_some, ↓nx_eq, rz0, rz1, one_ne0, ↓reduceIte, if_pos, if_neg, i1, i2]
        rfl
    · refine ⟨y, l, n', y2, hy, w2, l4, n4, ?_, ?_⟩
      · simp (disch := omega) only [ix_ok, cl, lit_add, add_lit, lit_mul, mul_lit, nI_add, sub_lit, le_nn, lt_nn, eq_nn, le_ln, lt_ln, le_nl, lt_nl, eq_nl, eq_ln, ne_m9, ne_m1, bd_some, bd2_some, ↓nx_eq, rz0, rz1, one_ne0, ↓reduceIte, if_pos, if_neg, i2, l3]
      · simp (disch := omega) only [ix_ok, cl, lit_add, add_lit, lit_mul, mul_lit, nI_add, sub_lit, le_nn, lt_nn, eq_nn, le_ln, lt_ln, le_nl, lt_nl, eq_nl, eq_ln, ne_m9, ne_m1, bd_some, bd2_some, ↓nx_eq, rz0, rz1, one_ne0, ↓reduceIte, if_pos, if_neg, i1, i2, l1, l3]
