/-! ===== what was read becomes what is told ===== -/
theorem upd_at {f : Nat → Int32} {k j : Nat} {v : Int32} : upd f k v j = if j = k then v else f j := rfl
theorem set9 : ∀ (n k f : Nat) (g : Sg), k + n = 4 → n < f → ∃ g', f6_settles_b2 f (nI k) g = f6_settles_b29 1000 0 g' ∧ (∀ i, i ≠ 9 → g'.1 i = g.1 i) ∧ g'.2 = g.2 ∧ (∀ j, k ≤ j → j < 4 → g'.1 9 j = g.1 9 (4 + j)) ∧ (∀ j, j < k ∨ 4 ≤ j → g'.1 9 j = g.1 9 j)
  | 0, k, f + 1, g, hk, _ => by
    obtain rfl : k = 4 := by omega
    refine ⟨g, ?_, fun _ _ => rfl, rfl, fun j h1 h2 => by omega, fun _ _ => rfl⟩
    unfold f6_settles_b2
    simp (disch := omega) only [ix_ok, cl, lit_add, add_lit, lit_mul, mul_lit, nI_add, sub_lit, le_nn, lt_nn, eq_nn, le_ln, lt_ln, le_nl, lt_nl, eq_nl, eq_ln, ne_m9, ne_m1, bd_some, bd2_some, ↓nx_eq, rz0, rz1, one_ne0, ↓reduceIte, if_pos, if_neg]
  | n + 1, k, f + 1, g, hk, hf => by
    obtain ⟨g', e1, e2, e3, e4, e5⟩ := set9 n (k + 1) f (pu g 9 k (g.1 9 (4 + k))) (by omega) (by omega)
    unfold f6_settles_b2
    simp (disch := omega) only [ix_ok, cl, lit_add, add_lit, lit_mul, mul_lit, nI_add, sub_lit, le_nn, lt_nn, eq_nn, le_ln, lt_ln, le_nl, lt_nl, eq_nl, eq_ln, ne_m9, ne_m1, bd_some, bd2_some, ↓nx_eq, rz0, rz1, one_ne0, ↓reduceIte, if_pos, if_neg]
    refine ⟨g', e1, fun i hi => by rw [e2 i hi, pu_ne hi], e3, fun j h1 h2 => ?_, fun j hj => by rw [e5 j (by omega), pu_eq, up_ne (by omega)]⟩
    by_cases e : j = k
    · subst e
      rw [e5 _ (by omega), pu_eq, up_eq]
    · rw [e4 j (by omega) h2, pu_eq, up_ne (by omega)]
theorem set11 : ∀ (n k f : Nat) (g : Sg), k + n = 6 → n < f → ∃ g', f6_settles_b29 f (nI k) g = f6_settles_b73 1000 0 g' ∧ (∀ i, ¬ (i = 11 ∨ i = 12) → g'.1 i = g.1 i) ∧ g'.2 = g.2 ∧ (∀ i, (i = 11 ∨ i = 12) → (∀ j, k ≤ j → j < 6 → g'.1 i j = g.1 i (6 + j)) ∧ ∀ j, j < k ∨ 6 ≤ j → g'.1 i j = g.1 i j)
  | 0, k, f + 1, g, hk, _ => by
    obtain rfl : k = 6 := by omega
    refine ⟨g, ?_, fun _ _ => rfl, rfl, fun i _ => ⟨fun j h1 h2 => by omega, fun _ _ => rfl⟩⟩
    unfold f6_settles_b29
    simp (disch := omega) only [ix_ok, cl, lit_add, add_lit, lit_mul, mul_lit, nI_add, sub_lit, le_nn, lt_nn, eq_nn, le_ln, lt_ln, le_nl, lt_nl, eq_nl, eq_ln, ne_m9, ne_m1, bd_some, bd2_some, ↓nx_eq, rz0, rz1, one_ne0, ↓reduceIte, if_pos, if_neg]
  | n + 1, k, f + 1, g, hk, hf => by
    obtain ⟨g', e1, e2, e3, e4⟩ := set11 n (k + 1) f (pu (pu g 11 k (g.1 11 (6 + k))) 12 k (g.1 12 (6 + k))) (by omega) (by omega)
    have hb : ∀ i, (i = 11 ∨ i = 12) → (pu (pu g 11 k (g.1 11 (6 + k))) 12 k (g.1 12 (6 + k))).1 i = upd (g.1 i) k (g.1 i (6 + k)) := fun i hi => by
      rcases hi with rfl | rfl
      · rw [pu_ne (by omega), pu_eq]
      · rw [pu_eq, pu_ne (by omega)]
    unfold f6_settles_b29
    simp (disch := omega) only [ix_ok, cl, lit_add, add_lit, lit_mul, mul_lit, nI_add, sub_lit, le_nn, lt_nn, eq_nn, le_ln, lt_ln, le_nl, lt_nl, eq_nl, eq_ln, ne_m9, ne_m1, bd_some, bd2_some, ↓nx_eq, rz0, rz1, one_ne0, ↓reduceIte, if_pos, if_neg, pu_ne]
    refine ⟨g', e1, fun i hi => by rw [e2 i hi, pu_ne (by omega), pu_ne (by omega)], e3, fun i hi => ⟨fun j h1 h2 => ?_, fun j hj => by rw [(e4 i hi).2 j (by omega), hb i hi, up_ne (by omega)]⟩⟩
    by_cases e : j = k
    · subst e
      rw [(e4 i hi).2 _ (by omega), hb i hi, up_eq]
    · rw [(e4 i hi).1 j (by omega) h2, hb i hi, up_ne (by omega)]
def R8 (i : Nat) : Prop := (13 ≤ i ∧ i ≤ 18) ∨ i = 20
def big8 (g : Sg) (k : Nat) : Sg := pu (pu (pu (pu (pu (pu (pu g 13 k (g.1 13 (8 + k))) 14 k (g.1 14 (8 + k))) 15 k (g.1 15 (8 + k))) 16 k (g.1 16 (8 + k))) 17 k (g.1 17 (8 + k))) 18 k (g.1 18 (8 + k))) 20 k (g.1 20 (8 + k))
theorem big8_in {g : Sg} {k i : Nat} (h : R8 i) : (big8 g k).1 i = upd (g.1 i) k (g.1 i (8 + k)) := by
  unfold R8 at h
  unfold big8
  rcases (show i = 13 ∨ i = 14 ∨ i = 15 ∨ i = 16 ∨ i = 17 ∨ i = 18 ∨ i = 20 by omega) with rfl | rfl | rfl | rfl | rfl | rfl | rfl
  all_goals simp (disch := omega) only [pu_ne, pu_eq]
theorem big8_out {g : Sg} {k i : Nat} (h : ¬ R8 i) : (big8 g k).1 i = g.1 i := by
  unfold R8 at h
  unfold big8
  simp (disch := omega) only [pu_ne]
theorem set13 : ∀ (n k f : Nat) (g : Sg), k + n = 8 → n < f → ∃ g', f6_settles_b73 f (nI k) g = f6_settles_b192 1000 0 g' ∧ (∀ i, ¬ R8 i → g'.1 i = g.1 i) ∧ g'.2 = g.2 ∧ (∀ i, R8 i → (∀ j, k ≤ j → j < 8 → g'.1 i j = g.1 i (8 + j)) ∧ ∀ j, j < k ∨ 8 ≤ j → g'.1 i j = g.1 i j)
  | 0, k, f + 1, g, hk, _ => by
    obtain rfl : k = 8 := by omega
    refine ⟨g, ?_, fun _ _ => rfl, rfl, fun i _ => ⟨fun j h1 h2 => by omega, fun _ _ => rfl⟩⟩
    unfold f6_settles_b73
    simp (disch := omega) only [ix_ok, cl, lit_add, add_lit, lit_mul, mul_lit, nI_add, sub_lit, le_nn, lt_nn, eq_nn, le_ln, lt_ln, le_nl, lt_nl, eq_nl, eq_ln, ne_m9, ne_m1, bd_some, bd2_some, ↓nx_eq, rz0, rz1, one_ne0, ↓reduceIte, if_pos, if_neg]
  | n + 1, k, f + 1, g, hk, hf => by
    obtain ⟨g', e1, e2, e3, e4⟩ := set13 n (k + 1) f (big8 g k) (by omega) (by omega)
    unfold f6_settles_b73
    simp (disch := omega) only [ix_ok, cl, lit_add, add_lit, lit_mul, mul_lit, nI_add, sub_lit, le_nn, lt_nn, eq_nn, le_ln, lt_ln, le_nl, lt_nl, eq_nl, eq_ln, ne_m9, ne_m1, bd_some, bd2_some, ↓nx_eq, rz0, rz1, one_ne0, ↓reduceIte, if_pos, if_neg, pu_ne]
    refine ⟨g', e1, fun i hi => by rw [e2 i hi, big8_out hi], e3, fun i hi => ⟨fun j h1 h2 => ?_, fun j hj => by rw [(e4 i hi).2 j (by omega), big8_in hi, up_ne (by omega)]⟩⟩
    by_cases e : j = k
    · subst e
      rw [(e4 i hi).2 _ (by omega), big8_in hi, up_eq]
    · rw [(e4 i hi).1 j (by omega) h2, big8_in hi, up_ne (by omega)]
theorem set19 : ∀ (n k f : Nat) (g : Sg), k + n = 32 → n < f → ∃ g', f6_settles_b192 f (nI k) g = f6_settles_b221 1000 0 g' ∧ (∀ i, i ≠ 19 → g'.1 i = g.1 i) ∧ g'.2 = g.2 ∧ (∀ j, k ≤ j → j < 32 → g'.1 19 j = g.1 19 (32 + j)) ∧ (∀ j, j < k ∨ 32 ≤ j → g'.1 19 j = g.1 19 j)
  | 0, k, f + 1, g, hk, _ => by
    obtain rfl : k = 32 := by omega
    refine ⟨g, ?_, fun _ _ => rfl, rfl, fun j h1 h2 => by omega, fun _ _ => rfl⟩
    unfold f6_settles_b192
    simp (disch := omega) only [ix_ok, cl, lit_add, add_lit, lit_mul, mul_lit, nI_add, sub_lit, le_nn, lt_nn, eq_nn, le_ln, lt_ln, le_nl, lt_nl, eq_nl, eq_ln, ne_m9, ne_m1, bd_some, bd2_some, ↓nx_eq, rz0, rz1, one_ne0, ↓reduceIte, if_pos, if_neg]
  | n + 1, k, f + 1, g, hk, hf => by
    obtain ⟨g', e1, e2, e3, e4, e5⟩ := set19 n (k + 1) f (pu g 19 k (g.1 19 (32 + k))) (by omega) (by omega)
    unfold f6_settles_b192
    simp (disch := omega) only [ix_ok, cl, lit_add, add_lit, lit_mul, mul_lit, nI_add, sub_lit, le_nn, lt_nn, eq_nn, le_ln, lt_ln, le_nl, lt_nl, eq_nl, eq_ln, ne_m9, ne_m1, bd_some, bd2_some, ↓nx_eq, rz0, rz1, one_ne0, ↓reduceIte, if_pos, if_neg]
    refine ⟨g', e1, fun i hi => by rw [e2 i hi, pu_ne hi], e3, fun j h1 h2 => ?_, fun j hj => by rw [e5 j (by omega), pu_eq, up_ne (by omega)]⟩
    by_cases e : j = k
    · subst e
      rw [e5 _ (by omega), pu_eq, up_eq]
    · rw [e4 j (by omega) h2, pu_eq, up_ne (by omega)]
theorem set21 : ∀ (n k f : Nat) (g : Sg), k + n = 37 → n < f → ∃ g', f6_settles_b221 f (nI k) g = some g' ∧ (∀ i, i ≠ 21 → i ≠ 0 → i ≠ 23 → g'.1 i = g.1 i) ∧ g'.2 = g.2 ∧ (∀ j, k ≤ j → j < 37 → g'.1 21 j = 0) ∧ (∀ j, j < k → g'.1 21 j = g.1 21 j) ∧ g'.1 0 3 = 0 ∧ g'.1 0 27 = 0 ∧ g'.1 0 25 = 0 ∧ (∀ i, i < 2 → g'.1 23 i = 0)
  | 0, k, f + 1, g, hk, _ => by
    obtain rfl : k = 37 := by omega
    unfold f6_settles_b221
    rw [if_pos (show (37 : Int32) ≤ nI 37 from nI_le (a := 37) (Nat.le_refl _) (by omega)), nx_eq, nx_eq, nx_eq, nx_eq, nx_eq]
    refine ⟨_, rfl, fun i i1 i2 i3 => ?_, rfl, fun j h1 h2 => by omega, fun j hj => ?_, ?_, ?_, ?_, fun i hi => ?_⟩
    · rw [pu_ne i3, pu_ne i3, pu_ne i2, pu_ne i2, pu_ne i2]
    · rw [pu_ne (by omega), pu_ne (by omega), pu_ne (by omega), pu_ne (by omega), pu_ne (by omega)]
    · rw [pu_ne (by omega), pu_ne (by omega), pu_eq, up_ne (by omega), pu_eq, up_ne (by omega), pu_eq, up_eq]
    · rw [pu_ne (by omega), pu_ne (by omega), pu_eq, up_ne (by omega), pu_eq, up_eq]
    · rw [pu_ne (by omega), pu_ne (by omega), pu_eq, up_eq]
    · rcases (show i = 0 ∨ i = 1 by omega) with rfl | rfl
      · rw [pu_eq, up_ne (by omega), pu_eq, up_eq]
      · rw [pu_eq, up_eq]
  | n + 1, k, f + 1, g, hk, hf => by
    obtain ⟨g', e1, e2, e3, e4, e5, e6⟩ := set21 n (k + 1) f (pu g 21 k 0) (by omega) (by omega)
    unfold f6_settles_b221
    simp (disch := omega) only [ix_ok, cl, lit_add, add_lit, lit_mul, mul_lit, nI_add, sub_lit, le_nn, lt_nn, eq_nn, le_ln, lt_ln, le_nl, lt_nl, eq_nl, eq_ln, ne_m9, ne_m1, bd_some, bd2_some, ↓nx_eq, rz0, rz1, one_ne0, ↓reduceIte, if_pos, if_neg]
    refine ⟨g', e1, fun i i1 i2 i3 => by rw [e2 i i1 i2 i3, pu_ne i1], e3, fun j h1 h2 => ?_, fun j hj => by rw [e5 j (by omega), pu_eq, up_ne (by omega)], e6⟩
    by_cases e : j = k
    · subst e
      rw [e5 _ (by omega), pu_eq, up_eq]
    · exact e4 j (by omega) h2
theorem settlesM (g : Sg) : ∃ g', f6_settles g = some g' ∧ g'.2 = g.2 ∧ (∀ j, j < 4 → g'.1 9 j = g.1 9 (4 + j)) ∧ (∀ i j, (i = 11 ∨ i = 12) → j < 6 → g'.1 i j = g.1 i (6 + j)) ∧ (∀ i j, R8 i → j < 8 → g'.1 i j = g.1 i (8 + j)) ∧ (∀ j, j < 32 → g'.1 19 j = g.1 19 (32 + j)) ∧ (∀ j, j < 37 → g'.1 21 j = 0) ∧ g'.1 0 3 = 0 ∧ g'.1 0 27 = 0 ∧ g'.1 0 25 = 0 ∧ (∀ i, i < 2 → g'.1 23 i = 0) := by
  obtain ⟨g1, a1, a2, a3, a4, -⟩ := set9 4 0 1000 g (by omega) (by omega)
  obtain ⟨g2, b1, b2, b3, b4⟩ := set11 6 0 1000 g1 (by omega) (by omega)
  obtain ⟨g3, c1, c2, c3, c4⟩ := set13 8 0 1000 g2 (by omega) (by omega)
  obtain ⟨g4, d1, d2, d3, d4, -⟩ := set19 32 0 1000 g3 (by omega) (by omega)
  obtain ⟨g5, e1, e2, e3, e4, -, e5, e6, e7, e8⟩ := set21 37 0 1000 g4 (by omega) (by omega)
  rw [nI_0] at a1 b1 c1 d1 e1
  refine ⟨g5, ?_, e3.trans (d3.trans (c3.trans (b3.trans a3))), fun j hj => ?_, fun i j hi hj => ?_, fun i j hi hj => ?_, fun j hj => ?_, fun j hj => e4 j (Nat.zero_le _) hj, e5, e6, e7, e8⟩
  · unfold f6_settles
    exact a1.trans (b1.trans (c1.trans (d1.trans e1)))
  · rw [e2 9 (by omega) (by omega) (by omega), d2 9 (by omega), c2 9 (by unfold R8; omega), b2 9 (by omega)]
    exact a4 j (Nat.zero_le _) hj
  · rw [e2 i (by omega) (by omega) (by omega), d2 i (by omega), c2 i (by unfold R8; omega), (b4 i hi).1 j (Nat.zero_le _) hj, a2 i (by omega)]
  · have hi' := hi
    unfold R8 at hi'
    rw [e2 i (by omega) (by omega) (by omega), d2 i (by omega), (c4 i hi).1 j (Nat.zero_le _) hj, b2 i (by omega), a2 i (by omega)]
  · rw [e2 19 (by omega) (by omega) (by omega), d4 j (Nat.zero_le _) hj, c2 19 (by unfold R8; omega), b2 19 (by omega), a2 19 (by omega)]
