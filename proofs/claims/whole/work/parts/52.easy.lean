/-! ===== the small ones ===== -/
theorem in_n {g : Sg} {x a b : Int32} (h : x < a ∨ b < x) : f6_in x a b g = some (0, g) := by
  unfold f6_in
  rcases h with h | h
  · rw [if_pos h, rz0]
  · rw [rz0, if_pos h]
    split <;> rfl
theorem in_t {g : Sg} {x a b : Int32} (h1 : ¬ x < a) (h2 : ¬ b < x) : f6_in x a b g = some (1, g) := by
  unfold f6_in
  rw [if_neg h1, if_neg h2, rz1]
theorem pred_lt {Q : Nat} {a : Int32} (hQ : Q < 2147483648) (h : nI Q ≤ a) : nI Q - 1 < a := by
  rw [Int32.le_iff_toInt_le, nI_toInt hQ] at h
  rw [Int32.lt_iff_toInt_lt]
  rcases Nat.eq_zero_or_pos Q with h0 | h0
  · subst h0
    have e : (nI 0 - 1 : Int32).toInt = -1 := by decide
    rw [e]; omega
  · have e : nI Q - 1 = nI (Q - 1) := pk_sub (b := 1) h0
    rw [e, nI_toInt (by omega)]; omega
theorem isP_y {g : Sg} {k Q : Nat} (hm : g.1 9 1 = nI Q) (hQ : Q ≤ 8) (h : k < Q) : f6_isPromise (nI k) g = some (1, g) := by
  unfold f6_isPromise
  simp (disch := omega) only [ix_ok, cl, lit_add, add_lit, lit_mul, mul_lit, nI_add, sub_lit, le_nn, lt_nn, eq_nn, le_ln, lt_ln, le_nl, lt_nl, eq_nl, eq_ln, ne_m9, ne_m1, bd_some, bd2_some, nx_eq, rz0, rz1, one_ne0, if_pos, if_neg, hm, f6_in]
theorem isP_n {g : Sg} {a : Int32} {Q : Nat} (hm : g.1 9 1 = nI Q) (hQ : Q ≤ 8) (h : a < 0 ∨ nI Q ≤ a) : f6_isPromise a g = some (0, g) := by
  unfold f6_isPromise
  rw [hm, in_n (h.imp id (fun q => pred_lt (by omega) q))]
  rfl
theorem hasP_y {g : Sg} {k Q : Nat} (hm : g.1 90 1 = nI Q) (hQ : Q ≤ 8) (h : k < Q) : f4_hasPromise (nI k) g = some (1, g) := by
  unfold f4_hasPromise
  simp (disch := omega) only [ix_ok, cl, lit_add, add_lit, lit_mul, mul_lit, nI_add, sub_lit, le_nn, lt_nn, eq_nn, le_ln, lt_ln, le_nl, lt_nl, eq_nl, eq_ln, ne_m9, ne_m1, bd_some, bd2_some, nx_eq, rz0, rz1, one_ne0, if_pos, if_neg, hm]
theorem hasP_n {g : Sg} {a : Int32} {Q : Nat} (hm : g.1 90 1 = nI Q) (h : a < 0 ∨ nI Q ≤ a) : f4_hasPromise a g = some (0, g) := by
  unfold f4_hasPromise
  rcases h with h | h
  · rw [if_pos h, rz0]
  · rw [hm, if_pos h, rz0]
    split <;> rfl
theorem hasPe_y {g : Sg} {k Q : Nat} (hm : g.1 90 0 = nI Q) (hQ : Q ≤ 6) (h : k < Q) : f4_hasPerson (nI k) g = some (1, g) := by
  unfold f4_hasPerson
  simp (disch := omega) only [ix_ok, cl, lit_add, add_lit, lit_mul, mul_lit, nI_add, sub_lit, le_nn, lt_nn, eq_nn, le_ln, lt_ln, le_nl, lt_nl, eq_nl, eq_ln, ne_m9, ne_m1, bd_some, bd2_some, nx_eq, rz0, rz1, one_ne0, if_pos, if_neg, hm]
theorem hasPe_n {g : Sg} {a : Int32} {Q : Nat} (hm : g.1 90 0 = nI Q) (h : a < 0 ∨ nI Q ≤ a) : f4_hasPerson a g = some (0, g) := by
  unfold f4_hasPerson
  rcases h with h | h
  · rw [if_pos h, rz0]
  · rw [hm, if_pos h, rz0]
    split <;> rfl
theorem cell_y {g : Sg} {k : Nat} (h : k < 6) : f5_isCell (nI k) g = some (1, g) ∧ f6_isCell (nI k) g = some (1, g) := by
  unfold f5_isCell f6_isCell
  simp (disch := omega) only [ix_ok, cl, lit_add, add_lit, lit_mul, mul_lit, nI_add, sub_lit, le_nn, lt_nn, eq_nn, le_ln, lt_ln, le_nl, lt_nl, eq_nl, eq_ln, ne_m9, ne_m1, bd_some, bd2_some, nx_eq, rz0, rz1, one_ne0, if_pos, if_neg, f6_in, and_self]
theorem lt_of_le6 {n : Nat} {a : Int32} (hn : n + 1 < 2147483648) (h : nI (n + 1) ≤ a) : nI n < a := by
  have := pred_lt (Q := n + 1) hn h
  rwa [nI_pred] at this
theorem cell_n {g : Sg} {a : Int32} (h : a < 0 ∨ nI 6 ≤ a) : f5_isCell a g = some (0, g) ∧ f6_isCell a g = some (0, g) := by
  unfold f5_isCell f6_isCell
  rw [in_n (h.imp id (fun q => lt_of_le6 (n := 5) (by omega) q))]
  refine ⟨?_, rfl⟩
  rcases h with h | h
  · rw [if_pos h, rz0]
  · rw [if_pos (show (6 : Int32) ≤ a from h), rz0]
    split <;> rfl
/-- an answer that leaves the class as it is, and of the reference but 'thrown' -/
theorem St.ro {F G : Sg → Option (Int32 × Sg)} (h : ∀ gx gm P Q A S, RelX gx.1 gm.1 P Q A S → gx.2 = gm.2 → ∃ r, F gx = some (r, gx) ∧ G gm = some (r, t0 gm)) : St Rel F G := by
  intro gx gm hr
  obtain ⟨⟨P, Q, A, S, h1⟩, h2⟩ := id hr
  obtain ⟨r, e1, e2⟩ := h gx gm P Q A S h1 h2
  exact ⟨r, gx, t0 gm, e1, e2, hr.t⟩
theorem s_trace : StL Rel f5_trace f6_trace := by
  intro gx gm hr
  exact ⟨gx.2, gx, t0 gm, rfl, by rw [hr.2]; rfl, hr.t⟩
theorem s_person (a b : Int32) : St Rel (f5_person a b) (f6_person a b) := by
  refine St.ro (fun gx gm P Q A S h _ => ?_)
  have ht := h.t
  obtain ⟨⟨⟨hx, hm, hP⟩, -, -, -, hp, -⟩, -⟩ := ht
  unfold f5_person f6_person
  rw [nx_eq]
  rcases tri a (n := P) (by omega) with ⟨k, hk, rfl⟩ | hn
  · obtain ⟨e1, -, e2, -⟩ := hp k hk
    rcases tri b (n := 2) (by omega) with ⟨j, hj, rfl⟩ | q
    · rcases (show j = 0 ∨ j = 1 by omega) with rfl | rfl
      · simp (disch := omega) only [ix_ok, cl, lit_add, add_lit, lit_mul, mul_lit, nI_add, sub_lit, le_nn, lt_nn, eq_nn, le_ln, lt_ln, le_nl, lt_nl, eq_nl, eq_ln, ne_m9, ne_m1, bd_some, bd2_some, nx_eq, rz0, rz1, one_ne0, if_pos, if_neg, hasPe_y hx hP hk, hm, f6_in, e1]
        exact ⟨_, rfl, rfl⟩
      · simp (disch := omega) only [ix_ok, cl, lit_add, add_lit, lit_mul, mul_lit, nI_add, sub_lit, le_nn, lt_nn, eq_nn, le_ln, lt_ln, le_nl, lt_nl, eq_nl, eq_ln, ne_m9, ne_m1, bd_some, bd2_some, nx_eq, rz0, rz1, one_ne0, if_pos, if_neg, hasPe_y hx hP hk, hm, f6_in, e2]
        exact ⟨_, rfl, rfl⟩
    · have hb : f6_in b 0 1 (t0 gm) = some (0, t0 gm) := in_n (q.imp id (fun q => lt_of_le6 (n := 1) (by omega) q))
      have b0 : ¬ b = 0 := fun e => by subst e; exact absurd q (by decide)
      have b1 : ¬ b = 1 := fun e => by subst e; exact absurd q (by decide)
      have ha : f6_in (nI k) 0 (nI P - 1) (t0 gm) = some (1, t0 gm) := by
        simp (disch := omega) only [ix_ok, cl, lit_add, add_lit, lit_mul, mul_lit, nI_add, sub_lit, le_nn, lt_nn, eq_nn, le_ln, lt_ln, le_nl, lt_nl, eq_nl, eq_ln, ne_m9, ne_m1, bd_some, bd2_some, nx_eq, rz0, rz1, one_ne0, if_pos, if_neg, f6_in]
      rw [hasPe_y hx hP hk, hm, ha]
      simp only [bd2_some, hb, if_neg b0, if_neg b1, one_ne0, if_false, if_true]
      exact ⟨_, rfl, rfl⟩
  · rw [hasPe_n hx hn, bd2_some, if_pos rfl, hm, in_n (hn.imp id (fun q => pred_lt (by omega) q)), bd2_some, if_pos rfl]
    exact ⟨_, rfl, rfl⟩
