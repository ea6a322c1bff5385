/-! ===== moss ===== -/
theorem becomeX (g : Sg) : ∃ g', f4_become g = some g' ∧ g'.2 = g.2 ∧ (∀ i j, (i = 80 ∨ i = 81) → j < 6 → g'.1 i j = g.1 (i + 20) j) ∧ (∀ i j, ((82 ≤ i ∧ i ≤ 87) ∨ i = 89) → j < 8 → g'.1 i j = g.1 (i + 20) j) ∧ (∀ j, j < 32 → g'.1 88 j = g.1 108 j) ∧ (∀ k, k < 4 → g'.1 90 k = g.1 110 k) ∧ (∀ i, i < 80 ∨ 90 < i → g'.1 i = g.1 i) := by
  unfold f4_become
  rw [nx_eq, nx_eq, nx_eq, nx_eq, nx_eq, nx_eq, nx_eq, nx_eq, nx_eq, nx_eq, nx_eq, nx_eq, nx_eq, nx_eq]
  refine ⟨_, rfl, rfl, fun i j hi hj => ?_, fun i j hi hj => ?_, fun j hj => ?_, fun k hk => ?_, fun i hi => ?_⟩
  · rcases hi with rfl | rfl
    · simp (disch := omega) only [pu_ne, pr_ne, pr_eq, cpy0]
    · simp (disch := omega) only [pu_ne, pr_ne, pr_eq, cpy0]
  · rcases (show i = 82 ∨ i = 83 ∨ i = 84 ∨ i = 85 ∨ i = 86 ∨ i = 87 ∨ i = 89 by omega) with rfl | rfl | rfl | rfl | rfl | rfl | rfl
    all_goals simp (disch := omega) only [pu_ne, pr_ne, pr_eq, cpy0]
  · simp (disch := omega) only [pu_ne, pr_ne, pr_eq, cpy0]
  · rcases (show k = 0 ∨ k = 1 ∨ k = 2 ∨ k = 3 by omega) with rfl | rfl | rfl | rfl
    all_goals simp (disch := omega) only [pu_eq, up_eq, up_ne, pu_ne, pr_ne]
  · simp (disch := omega) only [pu_ne, pr_ne]
theorem again2 : ∀ (n k f : Nat) (g : Sg), k + n = 8 → n < f → ∃ g', f0_beginAgain_b30 f (nI k) g = some g' ∧ (∀ i, i < 2 ∨ 5 < i → g'.1 i = g.1 i) ∧ g'.2 = g.2 ∧ g'.1 5 0 = 0 ∧ (∀ i, 2 ≤ i → i ≤ 4 → (∀ j, k ≤ j → j < 8 → g'.1 i j = 0) ∧ ∀ j, j < k → g'.1 i j = g.1 i j)
  | 0, k, f + 1, g, hk, _ => by
    obtain rfl : k = 8 := by omega
    unfold f0_beginAgain_b30
    rw [if_pos (show (8 : Int32) ≤ nI 8 from nI_le (a := 8) (Nat.le_refl _) (by omega)), nx_eq]
    exact ⟨_, rfl, fun i hi => pu_ne (by omega), rfl, by rw [pu_eq, up_eq], fun i h1 h2 => ⟨fun j j1 j2 => by omega, fun j _ => by rw [pu_ne (by omega)]⟩⟩
  | n + 1, k, f + 1, g, hk, hf => by
    obtain ⟨g', e1, e2, e3, e4, e5⟩ := again2 n (k + 1) f (pu (pu (pu g 2 k 0) 3 k 0) 4 k 0) (by omega) (by omega)
    have hb : ∀ i, 2 ≤ i → i ≤ 4 → (pu (pu (pu g 2 k 0) 3 k 0) 4 k 0).1 i = upd (g.1 i) k 0 := fun i h1 h2 => by
      rcases (show i = 2 ∨ i = 3 ∨ i = 4 by omega) with rfl | rfl | rfl
      all_goals simp (disch := omega) only [pu_ne, pu_eq]
    unfold f0_beginAgain_b30
    simp (disch := omega) only [ix_ok, cl, lit_add, add_lit, lit_mul, mul_lit, nI_add, sub_lit, le_nn, lt_nn, eq_nn, le_ln, lt_ln, le_nl, lt_nl, eq_nl, eq_ln, ne_m9, ne_m1, bd_some, bd2_some, ↓nx_eq, rz0, rz1, one_ne0, ↓reduceIte, if_pos, if_neg]
    refine ⟨g', e1, fun i hi => by rw [e2 i hi, pu_ne (by omega), pu_ne (by omega), pu_ne (by omega)], e3, e4, fun i h1 h2 => ⟨fun j j1 j2 => ?_, fun j hj => by rw [(e5 i h1 h2).2 j (by omega), hb i h1 h2, up_ne (by omega)]⟩⟩
    by_cases e : j = k
    · subst e
      rw [(e5 i h1 h2).2 _ (by omega), hb i h1 h2, up_eq]
    · exact (e5 i h1 h2).1 j (by omega) j2
theorem again1 : ∀ (n k f : Nat) (g : Sg), k + n = 6 → n < f → ∃ g', f0_beginAgain_b2 f (nI k) g = f0_beginAgain_b30 1000 0 g' ∧ (∀ i, 1 < i → g'.1 i = g.1 i) ∧ g'.2 = g.2 ∧ (∀ i, i < 2 → (∀ j, k ≤ j → j < 6 → g'.1 i j = 0) ∧ ∀ j, j < k → g'.1 i j = g.1 i j)
  | 0, k, f + 1, g, hk, _ => by
    obtain rfl : k = 6 := by omega
    refine ⟨g, ?_, fun _ _ => rfl, rfl, fun i _ => ⟨fun j j1 j2 => by omega, fun _ _ => rfl⟩⟩
    unfold f0_beginAgain_b2
    simp (disch := omega) only [ix_ok, cl, lit_add, add_lit, lit_mul, mul_lit, nI_add, sub_lit, le_nn, lt_nn, eq_nn, le_ln, lt_ln, le_nl, lt_nl, eq_nl, eq_ln, ne_m9, ne_m1, bd_some, bd2_some, ↓nx_eq, rz0, rz1, one_ne0, ↓reduceIte, if_pos, if_neg]
  | n + 1, k, f + 1, g, hk, hf => by
    obtain ⟨g', e1, e2, e3, e5⟩ := again1 n (k + 1) f (pu (pu g 0 k 0) 1 k 0) (by omega) (by omega)
    have hb : ∀ i, i < 2 → (pu (pu g 0 k 0) 1 k 0).1 i = upd (g.1 i) k 0 := fun i h2 => by
      rcases (show i = 0 ∨ i = 1 by omega) with rfl | rfl
      all_goals simp (disch := omega) only [pu_ne, pu_eq]
    unfold f0_beginAgain_b2
    simp (disch := omega) only [ix_ok, cl, lit_add, add_lit, lit_mul, mul_lit, nI_add, sub_lit, le_nn, lt_nn, eq_nn, le_ln, lt_ln, le_nl, lt_nl, eq_nl, eq_ln, ne_m9, ne_m1, bd_some, bd2_some, ↓nx_eq, rz0, rz1, one_ne0, ↓reduceIte, if_pos, if_neg]
    refine ⟨g', e1, fun i hi => by rw [e2 i hi, pu_ne (by omega), pu_ne (by omega)], e3, fun i h2 => ⟨fun j j1 j2 => ?_, fun j hj => by rw [(e5 i h2).2 j (by omega), hb i h2, up_ne (by omega)]⟩⟩
    by_cases e : j = k
    · subst e
      rw [(e5 i h2).2 _ (by omega), hb i h2, up_eq]
    · exact (e5 i h2).1 j (by omega) j2
theorem againX (g : Sg) : ∃ g', f0_beginAgain g = some g' ∧ (∀ i, 5 < i → g'.1 i = g.1 i) ∧ g'.2 = g.2 ∧ g'.1 5 0 = 0 ∧ (∀ i j, i < 2 → j < 6 → g'.1 i j = 0) ∧ (∀ i j, 2 ≤ i → i ≤ 4 → j < 8 → g'.1 i j = 0) := by
  obtain ⟨g1, a1, a2, a3, a4⟩ := again1 6 0 1000 g (by omega) (by omega)
  obtain ⟨g2, b1, b2, b3, b4, b5⟩ := again2 8 0 1000 g1 (by omega) (by omega)
  rw [nI_0] at a1 b1
  refine ⟨g2, a1.trans b1, fun i hi => (b2 i (by omega)).trans (a2 i (by omega)), b3.trans a3, b4, fun i j hi hj => ?_, fun i j h1 h2 hj => (b5 i h1 h2).1 j (Nat.zero_le _) hj⟩
  rw [b2 i (by omega)]
  exact (a4 i hi).1 j (Nat.zero_le _) hj
theorem fresh {x m : Nat → Nat → Int32} {P Q A S : Nat} (h0 : T0 x m P Q A S) (r01 : ∀ i c, i < 2 → c < 6 → x i c = 0) (r24 : ∀ i q, 2 ≤ i → i ≤ 4 → q < 8 → x i q = 0) (r5 : x 5 0 = 0) (m21 : ∀ j, j < 37 → m 21 j = 0) (hz : ∃ z, z < 10 ∧ x 123 0 = nI z) (x1231 : x 123 1 = 0) (m25 : m 0 25 = 0) (x133 : ∀ i, i < 2 → x 133 i = 0) (m23 : ∀ i, i < 2 → m 23 i = 0) (x134 : x 134 0 = 0) (m27 : m 0 27 = 0) (x121 : x 121 0 = 0) (m3 : m 0 3 = 0) : RelX x m P Q A S := by
  have hQ : Q ≤ 8 := h0.2.1.2.2
  obtain ⟨z, z10, hz⟩ := hz
  refine ⟨h0, ⟨⟨0, by omega, r5, m21 0 (by omega)⟩, fun c hc => ?_, fun q hq => ?_⟩, ⟨0, z, by omega, z10, x1231, m25, hz, fun j hj => absurd hj (by omega)⟩, fun i hi => Or.inl ⟨x133 i hi, m23 i hi⟩, ⟨0, by omega, x134, m27, fun j hj => absurd hj (by omega)⟩, ⟨0, by omega, x121, m3, fun j hj => absurd hj (by omega)⟩⟩
  · rw [m21 (1 + c) (by omega), m21 (7 + c) (by omega), r01 0 c (by omega) hc, r01 1 c (by omega) hc]
    exact ⟨rfl, ⟨0, by omega, rfl⟩, rfl, 0, by omega, rfl⟩
  · obtain ⟨n, n1, n4, n2, -⟩ := (h0.2.2.2.2.2 q hq).2.2.2.2.2.2.2.2.2.2.2.1
    rw [m21 (13 + q) (by omega), m21 (21 + q) (by omega), m21 (29 + q) (by omega), r24 2 q (by omega) (by omega) (by omega), r24 3 q (by omega) (by omega) (by omega), r24 4 q (by omega) (by omega) (by omega)]
    exact ⟨rfl, ⟨0, by omega, rfl⟩, rfl, rfl, ⟨0, by omega, rfl⟩, n, 0, n2, rfl, by omega, n4⟩
theorem T1.t0 {x m x' m' : Nat → Nat → Int32} {P Q A S : Nat} (h : T1 x m P Q A S) (h90 : ∀ k, k < 4 → x' 90 k = x 110 k) (h80 : ∀ i j, (i = 80 ∨ i = 81) → j < 6 → x' i j = x (i + 20) j) (h82 : ∀ i j, ((82 ≤ i ∧ i ≤ 87) ∨ i = 89) → j < 8 → x' i j = x (i + 20) j) (h88 : ∀ j, j < 32 → x' 88 j = x 108 j) (m9 : ∀ j, j < 4 → m' 9 j = m 9 (4 + j)) (m11 : ∀ i j, (i = 11 ∨ i = 12) → j < 6 → m' i j = m i (6 + j)) (m13 : ∀ i j, R8 i → j < 8 → m' i j = m i (8 + j)) (m19 : ∀ j, j < 32 → m' 19 j = m 19 (32 + j)) : T0 x' m' P Q A S := by
  obtain ⟨p, q, a, s, hp, hq⟩ := h
  have hP : P ≤ 6 := p.2.2
  have hQ : Q ≤ 8 := q.2.2
  unfold T0
  rw [h90 0 (by omega), h90 1 (by omega), h90 2 (by omega), h90 3 (by omega), m9 0 (by omega), m9 1 (by omega), m9 2 (by omega), m9 3 (by omega)]
  refine ⟨p, q, a, s, fun k hk => ?_, fun k hk => ?_⟩
  · rw [h80 80 k (by omega) (by omega), h80 81 k (by omega) (by omega), m11 11 k (by omega) (by omega), m11 12 k (by omega) (by omega)]
    exact hp k hk
  · obtain ⟨a1, a2, a3, a4, a5, a6, a7, a8, a9, a10, a11, ⟨n, b0, b1, b2, b3⟩, a12⟩ := hq k hk
    rw [h82 82 k (by omega) (by omega), h82 83 k (by omega) (by omega), h82 84 k (by omega) (by omega), h82 85 k (by omega) (by omega), h82 86 k (by omega) (by omega), h82 87 k (by omega) (by omega), h82 89 k (by omega) (by omega), m13 13 k (by unfold R8; omega) (by omega), m13 14 k (by unfold R8; omega) (by omega), m13 15 k (by unfold R8; omega) (by omega), m13 16 k (by unfold R8; omega) (by omega), m13 17 k (by unfold R8; omega) (by omega), m13 18 k (by unfold R8; omega) (by omega), m13 20 k (by unfold R8; omega) (by omega)]
    refine ⟨a1, a2, a3, a4, a5, a6, a7, a8, a9, a10, a11, ⟨n, b0, b1, b2, fun j hj => ?_⟩, a12⟩
    rw [h88 _ (by omega), m19 _ (by omega), show 32 + (4 * k + j) = 4 * (8 + k) + j by omega]
    exact b3 j hj
theorem begin20 : ∀ (n k f : Nat) (g : Sg), k + n = 16 → n < f → ∃ g', f6_begins_b40 f (nI k) g = some g' ∧ (∀ i, i ≠ 20 → g'.1 i = g.1 i) ∧ g'.2 = g.2 ∧ (∀ j, k ≤ j → j < 16 → g'.1 20 j = 0) ∧ (∀ j, j < k → g'.1 20 j = g.1 20 j)
  | 0, k, f + 1, g, hk, _ => by
    obtain rfl : k = 16 := by omega
    refine ⟨g, ?_, fun _ _ => rfl, rfl, fun j h1 h2 => by omega, fun _ _ => rfl⟩
    unfold f6_begins_b40
    simp (disch := omega) only [ix_ok, cl, lit_add, add_lit, lit_mul, mul_lit, nI_add, sub_lit, le_nn, lt_nn, eq_nn, le_ln, lt_ln, le_nl, lt_nl, eq_nl, eq_ln, ne_m9, ne_m1, bd_some, bd2_some, ↓nx_eq, rz0, rz1, one_ne0, ↓reduceIte, if_pos, if_neg]
  | n + 1, k, f + 1, g, hk, hf => by
    obtain ⟨g', e1, e2, e3, e4, e5⟩ := begin20 n (k + 1) f (pu g 20 k 0) (by omega) (by omega)
    unfold f6_begins_b40
    simp (disch := omega) only [ix_ok, cl, lit_add, add_lit, lit_mul, mul_lit, nI_add, sub_lit, le_nn, lt_nn, eq_nn, le_ln, lt_ln, le_nl, lt_nl, eq_nl, eq_ln, ne_m9, ne_m1, bd_some, bd2_some, ↓nx_eq, rz0, rz1, one_ne0, ↓reduceIte, if_pos, if_neg]
    refine ⟨g', e1, fun i hi => by rw [e2 i hi, pu_ne hi], e3, fun j h1 h2 => ?_, fun j hj => by rw [e5 j (by omega), pu_eq, up_ne (by omega)]⟩
    by_cases e : j = k
    · subst e
      rw [e5 _ (by omega), pu_eq, up_eq]
    · exact e4 j (by omega) h2
theorem beginsM (g : Sg) : ∃ g', f6_begins g = some g' ∧ KM g g' ∧ (∀ j, j ≠ 10 → g'.1 0 j = g.1 0 j) ∧ g'.1 0 10 = 0 ∧ g'.1 9 4 = 0 ∧ g'.1 9 5 = 0 ∧ g'.1 9 6 = 10 ∧ g'.1 9 7 = 12 ∧ (∀ q, q < 8 → g'.1 20 (8 + q) = 0) := by
  obtain ⟨g', e1, e2, e3, e4, e5⟩ := begin20 8 8 1000 (pu (pu (pu (pu (pu g 0 10 0) 9 4 0) 9 5 0) 9 6 10) 9 7 12) (by omega) (by omega)
  have k1 : KM g (pu (pu (pu (pu (pu g 0 10 0) 9 4 0) 9 5 0) 9 6 10) 9 7 12) := ((((KM.p0 (by omega)).trans (KM.pu (by omega) (by omega) (by omega) (by unfold lowp; omega))).trans (KM.pu (by omega) (by omega) (by omega) (by unfold lowp; omega))).trans (KM.pu (by omega) (by omega) (by omega) (by unfold lowp; omega))).trans (KM.pu (by omega) (by omega) (by omega) (by unfold lowp; omega))
  have k2 : KM (pu (pu (pu (pu (pu g 0 10 0) 9 4 0) 9 5 0) 9 6 10) 9 7 12) g' := by
    refine ⟨fun i j i0 hi => ?_, fun j _ => by rw [e2 0 (by omega)], e3⟩
    by_cases e : i = 20
    · subst e
      exact e5 j (by unfold lowp at hi; omega)
    · rw [e2 i e]
  refine ⟨g', ?_, k1.trans k2, fun j hj => ?_, ?_, ?_, ?_, ?_, ?_, fun q hq => e4 _ (by omega) (by omega)⟩
  · unfold f6_begins
    rw [nx_eq, nx_eq, nx_eq, nx_eq, nx_eq]
    exact e1
  · rw [e2 0 (by omega), pu_ne (by omega), pu_ne (by omega), pu_ne (by omega), pu_ne (by omega), pu_eq, up_ne hj]
  · rw [e2 0 (by omega), pu_ne (by omega), pu_ne (by omega), pu_ne (by omega), pu_ne (by omega), pu_eq, up_eq]
  · rw [e2 9 (by omega)]
    simp (disch := omega) only [pu_eq, up_eq, up_ne]
  · rw [e2 9 (by omega)]
    simp (disch := omega) only [pu_eq, up_eq, up_ne]
  · rw [e2 9 (by omega)]
    simp (disch := omega) only [pu_eq, up_eq, up_ne]
  · rw [e2 9 (by omega)]
    simp (disch := omega) only [pu_eq, up_eq, up_ne]
