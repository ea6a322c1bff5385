/-! ===== keep, back, undo ===== -/
theorem RelX.b0 {x m : Nat → Nat → Int32} {P Q A S : Nat} (h : RelX x m P Q A S) : B0 x m Q := h.2.1
theorem keep_m {a : Nat} (ha : a < 2) : ∀ (n k f : Nat) (g : Sg), k + n = 37 → n < f → ∃ g', f6_keep_b18 f (nI a) (nI k) g = some (g.1 21 0, g') ∧ (∀ i, i ≠ 22 → i ≠ 23 → g'.1 i = g.1 i) ∧ g'.1 23 = upd (g.1 23) a 1 ∧ g'.2 = g.2 ∧ (∀ j, k ≤ j → j < 37 → g'.1 22 (37 * a + j) = g.1 21 j) ∧ (∀ j, (j < 37 * a + k ∨ 37 * a + 37 ≤ j) → g'.1 22 j = g.1 22 j)
  | 0, k, f + 1, g, hk, _ => by
    obtain rfl : k = 37 := by omega
    unfold f6_keep_b18
    rw [if_pos (show (37 : Int32) ≤ nI 37 from by decide), ix_ok ha (by omega), cl (by omega), nx_eq]
    refine ⟨pu g 23 a 1, ?_, fun i h1 h2 => ?_, ?_, rfl, fun j h1 h2 => by omega, fun j hj => ?_⟩
    · rw [pu_ne (by omega)]
    · rw [pu_ne h2]
    · rw [pu_eq]
    · rw [pu_ne (by omega)]
  | n + 1, k, f + 1, g, hk, hf => by
    obtain ⟨g', e1, e2, e3, e4, e5, e6⟩ := keep_m ha n (k + 1) f (pu g 22 (37 * a + k) (g.1 21 k)) (by omega) (by omega)
    unfold f6_keep_b18
    simp (disch := omega) only [ix_ok, cl, lit_add, add_lit, lit_mul, mul_lit, nI_add, sub_lit, le_nn, lt_nn, eq_nn, le_ln, lt_ln, le_nl, lt_nl, eq_nl, eq_ln, ne_m9, ne_m1, bd_some, bd2_some, ↓nx_eq, rz0, rz1, one_ne0, ↓reduceIte, if_pos, if_neg]
    refine ⟨g', ?_, fun i h1 h2 => ?_, ?_, e4, fun j h1 h2 => ?_, fun j hj => ?_⟩
    · rw [e1, pu_ne (by omega)]
    · rw [e2 i h1 h2, pu_ne h1]
    · rw [e3, pu_ne (by omega)]
    · by_cases e : j = k
      · subst e
        rw [e6 _ (by omega), pu_eq, up_eq]
      · rw [e5 j (by omega) h2, pu_ne (by omega)]
    · rw [e6 j (by omega), pu_eq, up_ne (by omega)]
theorem ge_of {a : Int32} {n : Nat} (h : nI n ≤ a) {b : Int32} (hb : b = nI n) : b ≤ a := hb ▸ h
theorem s_keep (a : Int32) : St Rel (f5_keep a) (f6_keep a) := by
  intro gx gm hr
  obtain ⟨⟨P, Q, A, S, h⟩, h2⟩ := id hr.t
  obtain ⟨y, hy, y1, y2⟩ := h.yr
  unfold f5_keep f6_keep
  rcases tri a (n := 2) (by omega) with ⟨k, hk, rfl⟩ | q
  · have ea : f6_in (nI k) 0 1 (t0 gm) = some (1, t0 gm) := in_ok (lo := 0) (hi := 1) (by omega) (by omega) (by omega)
    obtain ⟨a1, a2, a3, a4, a5, a6⟩ := h
    have hQ : Q ≤ 8 := a1.2.1.2.2
    obtain ⟨gm', d1, d2, d3, d4, d5, d6⟩ := keep_m hk 37 0 1000 (t0 gm) (by omega) (by omega)
    obtain ⟨g1, e1, e2, e3, e4, e5, e6, e7, e8, e9⟩ := become_x (g := gx) (b1 := k + 1) (b2 := 0) (by omega)
    have d1' : f6_keep_b18 1000 (nI k) 0 (t0 gm) = some (nI y, gm') := by rw [← y2]; exact d1
    have fx : ∀ i, i < 6 * (k + 1) ∨ (6 * (k + 1) + 5 < i ∧ i ≠ 133) → (pu g1 133 k 1).1 i = gx.1 i := fun i hi => by
      rw [pu_ne (by omega), e2 i (by omega)]
    refine ⟨nI y, pu g1 133 k 1, gm', ?_, ?_, ⟨P, Q, A, S, a1.cong (fun i i1 i2 => fx i (by omega)) (fun i j hl => by rw [d2 i (by unfold lowp at hl; omega) (by unfold lowp at hl; omega)]), a2.cong (fun i i1 => fx i (by omega)) (fx 87 (by omega)) (d2 21 (by omega) (by omega)), a3.cong hQ (fun i i1 i2 => fx i (by omega)) (fx 87 (by omega)) (fx 123 (by omega)) (d2 24 (by omega) (by omega)) (by rw [d2 0 (by omega) (by omega)]), ?_, a5.cong (fx 130 (by omega)) (fx 134 (by omega)) (d2 26 (by omega) (by omega)) (by rw [d2 0 (by omega) (by omega)]), a6.cong (fx 120 (by omega)) (by rw [fx 121 (by omega)]) (d2 2 (by omega) (by omega)) (by rw [d2 0 (by omega) (by omega)])⟩, e3.trans (h2.trans d4.symm)⟩
    · simp (disch := omega) only [ix_ok, cl, lit_add, add_lit, lit_mul, mul_lit, nI_add, sub_lit, le_nn, lt_nn, eq_nn, le_ln, lt_ln, le_nl, lt_nl, eq_nl, eq_ln, ne_m9, ne_m1, bd_some, bd2_some, ↓nx_eq, rz0, rz1, one_ne0, ↓reduceIte, if_pos, if_neg, e1, pu_ne]
      rw [e2 5 (by omega), y1]
    · rw [nx_eq, ea, bd2_some, if_neg one_ne0.mp, d1']
    · intro i hi
      by_cases e : i = k
      · subst e
        refine Or.inr ⟨by rw [pu_eq, up_eq], by rw [d3, up_eq], ?_⟩
        have f2 : ∀ i, i ≠ 133 → ∀ v, (pu g1 133 v 1).1 i = g1.1 i := fun i hi v => pu_ne hi
        refine a2.br.copy hQ (fun c hc => ?_) (fun c hc => ?_) (fun c hc => ?_) (fun c hc => ?_) (fun c hc => ?_) ?_ ?_ (fun j hj => ?_)
        · rw [f2 _ (by omega)]; exact e4 c hc
        · rw [f2 _ (by omega)]; exact e5 c hc
        · rw [f2 _ (by omega)]; exact e6 c hc
        · rw [f2 _ (by omega)]; exact e7 c hc
        · rw [f2 _ (by omega)]; exact e8 c hc
        · rw [f2 _ (by omega)]; exact e9
        · exact fx 87 (by omega)
        · rw [d5 j (by omega) hj, Nat.zero_add]
      · have fr : ∀ d, d ≤ 5 → (pu g1 133 k 1).1 (6 * (i + 1) + d) = gx.1 (6 * (i + 1) + d) := fun d hd => fx _ (by omega)
        rcases a4 i hi with ⟨q1, q2⟩ | ⟨q1, q2, q3⟩
        · refine Or.inl ⟨?_, ?_⟩
          · rw [pu_eq, up_ne e, e2 133 (by omega), q1]
          · rw [d3, up_ne e, q2]
        · refine Or.inr ⟨?_, ?_, ?_⟩
          · rw [pu_eq, up_ne e, e2 133 (by omega), q1]
          · rw [d3, up_ne e, q2]
          · exact q3.copy hQ (fun c _ => congrFun (fr 0 (by omega)) c) (fun c _ => congrFun (fr 1 (by omega)) c) (fun c _ => congrFun (fr 2 (by omega)) c) (fun c _ => congrFun (fr 3 (by omega)) c) (fun c _ => congrFun (fr 4 (by omega)) c) (congrFun (fr 5 (by omega)) 0) (fx 87 (by omega)) (fun j hj => d6 _ (by omega))
  · have ea : f6_in a 0 1 (t0 gm) = some (0, t0 gm) := in_no (hi := 1) (by omega) q
    refine ⟨-1, gx, t0 gm, ?_, by rw [nx_eq, ea, bd2_some, if_pos rfl], hr.t⟩
    rcases q with q | q
    · rw [if_pos q]
    · rw [if_pos (show (2 : Int32) ≤ a from q)]
      split <;> rfl
/-! back -/
theorem back_m {a : Nat} (ha : a < 2) : ∀ (n k f : Nat) (g : Sg), k + n = 37 → n < f → ∃ g', f6_back_b30 f (nI a) (nI k) g = some (g'.1 21 0, g') ∧ (∀ i, i ≠ 0 → i ≠ 21 → g'.1 i = g.1 i) ∧ (∀ j, j ≠ 25 → g'.1 0 j = g.1 0 j) ∧ g'.1 0 25 = 0 ∧ g'.2 = g.2 ∧ (∀ j, k ≤ j → j < 37 → g'.1 21 j = g.1 22 (37 * a + j)) ∧ (∀ j, j < k → g'.1 21 j = g.1 21 j)
  | 0, k, f + 1, g, hk, _ => by
    obtain rfl : k = 37 := by omega
    unfold f6_back_b30
    rw [if_pos (show (37 : Int32) ≤ nI 37 from by decide), nx_eq]
    refine ⟨pu g 0 25 0, rfl, fun i h1 h2 => ?_, fun j hj => ?_, ?_, rfl, fun j h1 h2 => by omega, fun j hj => ?_⟩
    · rw [pu_ne h1]
    · rw [pu_eq, up_ne hj]
    · rw [pu_eq, up_eq]
    · rw [pu_ne (by omega)]
  | n + 1, k, f + 1, g, hk, hf => by
    obtain ⟨g', e1, e2, e3, e4, e5, e6, e7⟩ := back_m ha n (k + 1) f (pu g 21 k (g.1 22 (37 * a + k))) (by omega) (by omega)
    unfold f6_back_b30
    simp (disch := omega) only [ix_ok, cl, lit_add, add_lit, lit_mul, mul_lit, nI_add, sub_lit, le_nn, lt_nn, eq_nn, le_ln, lt_ln, le_nl, lt_nl, eq_nl, eq_ln, ne_m9, ne_m1, bd_some, bd2_some, ↓nx_eq, rz0, rz1, one_ne0, ↓reduceIte, if_pos, if_neg]
    refine ⟨g', e1, fun i h1 h2 => ?_, fun j hj => ?_, e4, e5, fun j h1 h2 => ?_, fun j hj => ?_⟩
    · rw [e2 i h1 h2, pu_ne h2]
    · rw [e3 j hj, pu_ne (by omega)]
    · by_cases e : j = k
      · subst e
        rw [e7 _ (by omega), pu_eq, up_eq]
      · rw [e6 j (by omega) h2, pu_ne (by omega)]
    · rw [e7 j (by omega), pu_eq, up_ne (by omega)]
theorem s_back (a : Int32) : St Rel (f5_back a) (f6_back a) := by
  intro gx gm hr
  obtain ⟨⟨P, Q, A, S, h⟩, h2⟩ := id hr.t
  unfold f5_back f6_back
  rcases tri a (n := 2) (by omega) with ⟨k, hk, rfl⟩ | q
  · have ea : f6_in (nI k) 0 1 (t0 gm) = some (1, t0 gm) := in_ok (lo := 0) (hi := 1) (by omega) (by omega) (by omega)
    obtain ⟨a1, a2, a3, a4, a5, a6⟩ := h
    have hQ : Q ≤ 8 := a1.2.1.2.2
    rcases a4 k hk with ⟨q1, q2⟩ | ⟨q1, q2, q3⟩
    · simp (disch := omega) only [ix_ok, cl, lit_add, add_lit, lit_mul, mul_lit, nI_add, sub_lit, le_nn, lt_nn, eq_nn, le_ln, lt_ln, le_nl, lt_nl, eq_nl, eq_ln, ne_m9, ne_m1, bd_some, bd2_some, ↓nx_eq, rz0, rz1, one_ne0, ↓reduceIte, if_pos, if_neg, ea, q1, q2]
      exact ⟨_, _, _, rfl, rfl, hr.t⟩
    · obtain ⟨gm', d1, d2, d3, d4, d5, d6, d7⟩ := back_m hk 37 0 1000 (t0 gm) (by omega) (by omega)
      obtain ⟨g1, e1, e2, e3, e4, e5, e6, e7, e8, e9⟩ := become_x (g := gx) (b1 := 0) (b2 := k + 1) (by omega)
      have fx : ∀ i, 5 < i ∧ i ≠ 123 → (pu g1 123 1 0).1 i = gx.1 i := fun i hi => by
        rw [pu_ne (by omega), e2 i (by omega)]
      have f2 : ∀ i, i ≠ 123 → (pu g1 123 1 0).1 i = g1.1 i := fun i hi => pu_ne hi
      have nb : BR (pu g1 123 1 0).1 gm'.1 0 21 0 Q := by
        refine q3.copy hQ (fun c hc => ?_) (fun c hc => ?_) (fun c hc => ?_) (fun c hc => ?_) (fun c hc => ?_) ?_ ?_ (fun j hj => ?_)
        · rw [f2 _ (by omega)]; exact e4 c hc
        · rw [f2 _ (by omega)]; exact e5 c hc
        · rw [f2 _ (by omega)]; exact e6 c hc
        · rw [f2 _ (by omega)]; exact e7 c hc
        · rw [f2 _ (by omega)]; exact e8 c hc
        · rw [f2 _ (by omega)]; exact e9
        · exact fx 87 (by omega)
        · rw [Nat.zero_add, d6 j (by omega) hj]
      obtain ⟨y, hy, y1, y2⟩ := nb.1
      have y1' : g1.1 5 0 = nI y := by rw [← f2 5 (by omega)]; exact y1
      have y2' : gm'.1 21 0 = nI y := y2
      refine ⟨nI y, pu g1 123 1 0, gm', ?_, ?_, ⟨P, Q, A, S, a1.cong (fun i i1 i2 => fx i (by omega)) (fun i j hl => by rw [d2 i (by unfold lowp at hl; omega) (by unfold lowp at hl; omega)]), nb.b0, ⟨0, ?_⟩, a4.cong hQ (fun i i1 i2 => fx i (by omega)) (fx 87 (by omega)) (fx 133 (by omega)) (d2 22 (by omega) (by omega)) (d2 23 (by omega) (by omega)), a5.cong (fx 130 (by omega)) (fx 134 (by omega)) (d2 26 (by omega) (by omega)) (d3 27 (by omega)), a6.cong (fx 120 (by omega)) (by rw [fx 121 (by omega)]) (d2 2 (by omega) (by omega)) (d3 3 (by omega))⟩, e3.trans (h2.trans d5.symm)⟩
      · rw [if_neg (nI_pos (by omega)), if_neg (show ¬ (2 : Int32) ≤ nI k from nI_ge (b := 2) hk (by omega)), ix_ok hk (by omega), ix_ok hk (by omega), cl (by omega), q1, if_neg one_ne0.mp, ix_ok hk (by omega), e1, bd_some]
        unfold f1_empty
        rw [nx_eq, bd_some, pu_ne (by omega), y1']
      · rw [nx_eq, ea, bd2_some, if_neg one_ne0.mp, ix_ok hk (by omega), cl (by omega), q2, if_neg one_ne0.mp, show f6_back_b30 1000 (nI k) 0 (t0 gm) = f6_back_b30 1000 (nI k) (nI 0) (t0 gm) from rfl, d1, y2']
      · obtain ⟨n, z, hn, hz, x1, m1, x0, -⟩ := a3
        refine ⟨z, by omega, hz, ?_, ?_, ?_, fun j hj => absurd hj (by omega)⟩
        · rw [pu_eq, up_eq]; rfl
        · rw [d4]; rfl
        · rw [pu_eq, up_ne (by omega), e2 123 (by omega)]
          exact x0
  · have ea : f6_in a 0 1 (t0 gm) = some (0, t0 gm) := in_no (hi := 1) (by omega) q
    refine ⟨-1, gx, t0 gm, ?_, by rw [nx_eq, ea, bd2_some, if_pos rfl], hr.t⟩
    rcases q with q | q
    · rw [if_pos q]
    · rw [if_pos (show (2 : Int32) ≤ a from q)]
      split <;> rfl
/-! undo -/
theorem undo_m {u : Nat} (hu : u < 10) : ∀ (n k f : Nat) (g : Sg), k + n = 37 → n < f → g.1 0 25 = nI u → ∃ g', f6_undo_b27 f (nI k) g = some (nI u, g') ∧ (∀ i, i ≠ 21 → g'.1 i = g.1 i) ∧ g'.2 = g.2 ∧ (∀ j, k ≤ j → j < 37 → g'.1 21 j = g.1 24 (37 * u + j)) ∧ (∀ j, j < k → g'.1 21 j = g.1 21 j)
  | 0, k, f + 1, g, hk, _, hg => by
    obtain rfl : k = 37 := by omega
    unfold f6_undo_b27
    rw [if_pos (show (37 : Int32) ≤ nI 37 from by decide), hg]
    exact ⟨g, rfl, fun i h1 => rfl, rfl, fun j h1 h2 => by omega, fun j hj => rfl⟩
  | n + 1, k, f + 1, g, hk, hf, hg => by
    obtain ⟨g', e1, e2, e5, e6, e7⟩ := undo_m hu n (k + 1) f (pu g 21 k (g.1 24 (37 * u + k))) (by omega) (by omega) (by rw [pu_ne (by omega)]; exact hg)
    unfold f6_undo_b27
    simp (disch := omega) only [ix_ok, cl, lit_add, add_lit, lit_mul, mul_lit, nI_add, sub_lit, le_nn, lt_nn, eq_nn, le_ln, lt_ln, le_nl, lt_nl, eq_nl, eq_ln, ne_m9, ne_m1, bd_some, bd2_some, ↓nx_eq, rz0, rz1, one_ne0, ↓reduceIte, if_pos, if_neg, hg]
    refine ⟨g', e1, fun i h1 => ?_, e5, fun j h1 h2 => ?_, fun j hj => ?_⟩
    · rw [e2 i h1, pu_ne h1]
    · by_cases e : j = k
      · subst e
        rw [e7 _ (by omega), pu_eq, up_eq]
      · rw [e6 j (by omega) h2, pu_ne (by omega)]
    · rw [e7 j (by omega), pu_eq, up_ne (by omega)]
theorem s_undo : St Rel (f5_undo) (f6_undo) := by
  intro gx gm hr
  obtain ⟨⟨P, Q, A, S, h⟩, h2⟩ := id hr.t
  obtain ⟨a1, a2, a3, a4, a5, a6⟩ := h
  have hQ : Q ≤ 8 := a1.2.1.2.2
  obtain ⟨n, z, hn, hz, x1, m1, x0, hb⟩ := a3
  unfold f5_undo f6_undo
  by_cases n0 : n = 0
  · subst n0
    refine ⟨-2, gx, t0 gm, ?_, ?_, hr.t⟩
    · rw [x1, if_pos nI_0]
    · rw [nx_eq, m1, if_pos nI_0]
  · have z9 : (z + 9) % 10 < 10 := Nat.mod_lt _ (by omega)
    obtain ⟨gm', d1, d2, d4, d5, -⟩ := undo_m (u := n - 1) (by omega) 37 0 1000 (pu (t0 gm) 0 25 (nI (n - 1))) (by omega) (by omega) (by rw [pu_eq, up_eq])
    obtain ⟨g1, e1, e2, e3, e4, e5, e6, e7, e8, e9⟩ := become_x (g := gx) (b1 := 0) (b2 := (z + 9) % 10 + 3) (by omega)
    have ex : f1_giveBack gx = some (pu (pu g1 123 0 (nI ((z + 9) % 10))) 123 1 (nI (n - 1))) := by
      have q1 : g1.1 123 1 = nI n := by rw [e2 123 (by omega)]; exact x1
      have gb : ∀ y, y = (z + 9) % 10 → f1_giveBack_b18 (nI y) gx = some (pu (pu g1 123 0 (nI ((z + 9) % 10))) 123 1 (nI (n - 1))) := fun y hy => by
        subst hy
        unfold f1_giveBack_b18
        rw [x1, if_neg (nI_nle (by omega) (by omega)), if_neg (show ¬ (10 : Int32) ≤ nI ((z + 9) % 10) from nI_ge (b := 10) z9 (by omega)), ix_ok z9 (by omega), ix_ok z9 (by omega), cl (by omega), e1, bd_some, nx_eq, nx_eq, pu_eq, up_ne (by omega), q1, show nI n - 1 = nI (n - 1) from pk_sub (b := 1) (by omega)]
      unfold f1_giveBack
      rw [x0]
      by_cases l : z = 0
      · subst l
        rw [if_pos (show nI 0 ≤ (0 : Int32) from by decide), show (9 : Int32) = nI 9 from rfl]
        exact gb 9 (by omega)
      · rw [if_neg (nI_nle (by omega) (by omega)), show nI z - 1 = nI (z - 1) from pk_sub (b := 1) (by omega)]
        exact gb (z - 1) (by omega)
    have fx : ∀ i, 5 < i ∧ i ≠ 123 → (pu (pu g1 123 0 (nI ((z + 9) % 10))) 123 1 (nI (n - 1))).1 i = gx.1 i := fun i hi => by
      rw [pu_ne (by omega), pu_ne (by omega), e2 i (by omega)]
    have f2 : ∀ i, i ≠ 123 → (pu (pu g1 123 0 (nI ((z + 9) % 10))) 123 1 (nI (n - 1))).1 i = g1.1 i := fun i hi => by
      rw [pu_ne hi, pu_ne hi]
    have dm : ∀ i, i ≠ 0 → i ≠ 21 → gm'.1 i = (t0 gm).1 i := fun i h0 h1 => by
      rw [d2 i h1, pu_ne h0]
    have d0 : ∀ j, j ≠ 25 → gm'.1 0 j = (t0 gm).1 0 j := fun j hj => by
      rw [d2 0 (by omega), pu_eq, up_ne hj]
    have top := hb (n - 1) (by omega)
    rw [show (z + 10 - n + (n - 1)) % 10 = (z + 9) % 10 by omega] at top
    have nb : BR (pu (pu g1 123 0 (nI ((z + 9) % 10))) 123 1 (nI (n - 1))).1 gm'.1 0 21 0 Q := by
      refine top.copy hQ (fun c hc => ?_) (fun c hc => ?_) (fun c hc => ?_) (fun c hc => ?_) (fun c hc => ?_) ?_ ?_ (fun j hj => ?_)
      · rw [f2 _ (by omega)]; exact e4 c hc
      · rw [f2 _ (by omega)]; exact e5 c hc
      · rw [f2 _ (by omega)]; exact e6 c hc
      · rw [f2 _ (by omega)]; exact e7 c hc
      · rw [f2 _ (by omega)]; exact e8 c hc
      · rw [f2 _ (by omega)]; exact e9
      · exact fx 87 (by omega)
      · rw [Nat.zero_add, d5 j (by omega) hj, pu_ne (by omega)]
    refine ⟨nI (n - 1), pu (pu g1 123 0 (nI ((z + 9) % 10))) 123 1 (nI (n - 1)), gm', ?_, ?_, ⟨P, Q, A, S, a1.cong (fun i i1 i2 => fx i (by omega)) (fun i j hl => by rw [dm i (by unfold lowp at hl; omega) (by unfold lowp at hl; omega)]), nb.b0, ⟨n - 1, (z + 9) % 10, by omega, z9, ?_, ?_, ?_, fun j hj => ?_⟩, a4.cong hQ (fun i i1 i2 => fx i (by omega)) (fx 87 (by omega)) (fx 133 (by omega)) (dm 22 (by omega) (by omega)) (dm 23 (by omega) (by omega)), a5.cong (fx 130 (by omega)) (fx 134 (by omega)) (dm 26 (by omega) (by omega)) (d0 27 (by omega)), a6.cong (fx 120 (by omega)) (by rw [fx 121 (by omega)]) (dm 2 (by omega) (by omega)) (d0 3 (by omega))⟩, e3.trans (h2.trans d4.symm)⟩
    · rw [x1, if_neg (nI_ne0 (by omega) (by omega)), ex, bd_some, pu_eq, up_eq]
    · rw [nx_eq, m1, if_neg (nI_ne0 (by omega) (by omega)), show nI n - 1 = nI (n - 1) from pk_sub (b := 1) (by omega), nx_eq]
      exact d1
    · rw [pu_eq, up_eq]
    · rw [d2 0 (by omega), pu_eq, up_eq]
    · rw [pu_eq, up_ne (by omega), pu_eq, up_eq]
    · rw [show ((z + 9) % 10 + 10 - (n - 1) + j) % 10 = (z + 10 - n + j) % 10 by omega]
      have fr : ∀ d, d ≤ 5 → (pu (pu g1 123 0 (nI ((z + 9) % 10))) 123 1 (nI (n - 1))).1 (6 * ((z + 10 - n + j) % 10 + 3) + d) = gx.1 (6 * ((z + 10 - n + j) % 10 + 3) + d) := fun d hd => fx _ (by omega)
      exact (hb j (by omega)).copy hQ (fun c _ => congrFun (fr 0 (by omega)) c) (fun c _ => congrFun (fr 1 (by omega)) c) (fun c _ => congrFun (fr 2 (by omega)) c) (fun c _ => congrFun (fr 3 (by omega)) c) (fun c _ => congrFun (fr 4 (by omega)) c) (congrFun (fr 5 (by omega)) 0) (fx 87 (by omega)) (fun k hk => by rw [dm 24 (by omega) (by omega)])
