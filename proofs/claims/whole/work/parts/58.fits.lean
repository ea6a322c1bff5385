/-! ===== sees, fits, likely ===== -/
theorem RelX.see {x m x' m' : Nat → Nat → Int32} {P Q A S : Nat} (h : RelX x m P Q A S) (hx : ∀ i, i ≠ 130 → i ≠ 134 → x' i = x i) (hm : ∀ i, i ≠ 0 → i ≠ 26 → m' i = m i) (h0 : ∀ j, j ≠ 0 → j ≠ 27 → m' 0 j = m 0 j) (hs : SE x' m') : RelX x' m' P Q A S := by
  obtain ⟨a1, a2, a3, a4, a5, a6⟩ := h
  have hQ : Q ≤ 8 := a1.2.1.2.2
  exact ⟨a1.cong (fun i i1 i2 => hx i (by omega) (by omega)) (fun i j hl => by rw [hm i (by unfold lowp at hl; omega) (by unfold lowp at hl; omega)]), a2.cong (fun i i1 => hx i (by omega) (by omega)) (hx 87 (by omega) (by omega)) (hm 21 (by omega) (by omega)), a3.cong hQ (fun i i1 i2 => hx i (by omega) (by omega)) (hx 87 (by omega) (by omega)) (hx 123 (by omega) (by omega)) (hm 24 (by omega) (by omega)) (h0 25 (by omega) (by omega)), a4.cong hQ (fun i i1 i2 => hx i (by omega) (by omega)) (hx 87 (by omega) (by omega)) (hx 133 (by omega) (by omega)) (hm 22 (by omega) (by omega)) (hm 23 (by omega) (by omega)), hs, a6.cong (hx 120 (by omega) (by omega)) (by rw [hx 121 (by omega) (by omega)]) (hm 2 (by omega) (by omega)) (h0 3 (by omega) (by omega))⟩
theorem s_sees (a : Int32) : St Rel (f5_sees a) (f6_sees a) := by
  intro gx gm hr
  obtain ⟨⟨P, Q, A, S, h⟩, h2⟩ := id hr.t
  obtain ⟨n, n4, e1, e2, e3⟩ := h.2.2.2.2.1
  unfold f5_sees f6_sees
  rcases tri a (n := 10) (by omega) with ⟨k, hk, rfl⟩ | q
  · have ea : f6_in (nI k) 0 9 (t0 gm) = some (1, t0 gm) := in_ok (lo := 0) (hi := 9) (by omega) (by omega) (by omega)
    by_cases l : n = 4
    · subst l
      simp (disch := omega) only [ix_ok, cl, lit_add, add_lit, lit_mul, mul_lit, nI_add, sub_lit, le_nn, lt_nn, eq_nn, le_ln, lt_ln, le_nl, lt_nl, eq_nl, eq_ln, ne_m9, ne_m1, bd_some, bd2_some, ↓nx_eq, rz0, rz1, one_ne0, ↓reduceIte, if_pos, if_neg, ea, e1, e2]
      exact ⟨_, _, _, rfl, rfl, hr.t⟩
    · simp (disch := omega) only [ix_ok, cl, lit_add, add_lit, lit_mul, mul_lit, nI_add, sub_lit, le_nn, lt_nn, eq_nn, le_ln, lt_ln, le_nl, lt_nl, eq_nl, eq_ln, ne_m9, ne_m1, bd_some, bd2_some, ↓nx_eq, rz0, rz1, one_ne0, ↓reduceIte, if_pos, if_neg, ea, e1, e2, pu_eq, up_eq, pu_ne]
      refine ⟨_, _, _, rfl, rfl, ⟨P, Q, A, S, ?_⟩, ?_⟩
      · refine h.see (fun i i1 i2 => ?_) (fun i i1 i2 => ?_) (fun j j1 j2 => ?_) ⟨n + 1, by omega, ?_, ?_, fun j hj => ?_⟩
        · rw [pu_ne i2, pu_ne i1]
        · rw [pu_ne i1, pu_ne i2]
        · rw [pu_eq, up_ne j2, pu_ne (by omega)]
        · rw [pu_eq, up_eq]
        · rw [pu_eq, up_eq]
        · rw [pu_ne (show 26 ≠ 0 by omega), pu_eq, pu_ne (show 130 ≠ 134 by omega), pu_eq]
          by_cases e : j = n
          · subst e
            rw [up_eq, up_eq]
            exact ⟨rfl, k, by omega, rfl⟩
          · rw [up_ne e, up_ne e]
            exact e3 j (by omega)
      · exact h2
  · have ea : f6_in a 0 9 (t0 gm) = some (0, t0 gm) := in_no (hi := 9) (by omega) q
    refine ⟨-1, gx, t0 gm, ?_, by rw [nx_eq, ea, bd2_some, if_pos rfl], hr.t⟩
    rcases q with q | q
    · rw [if_pos q]
    · rw [if_neg (show ¬ a ≤ (9 : Int32) from fun e => by
        have q2 : (9 : Int32) < a := lt_of_le6 (n := 9) (by omega) q
        rw [Int32.le_iff_toInt_le] at e
        rw [Int32.lt_iff_toInt_lt] at q2
        omega)]
      split <;> rfl
theorem s_forget : St Rel (f5_forget) (f6_forget) := by
  intro gx gm hr
  obtain ⟨⟨P, Q, A, S, h⟩, h2⟩ := id hr.t
  obtain ⟨n, n4, e1, e2, e3⟩ := h.2.2.2.2.1
  unfold f5_forget f6_forget
  simp (disch := omega) only [ix_ok, cl, lit_add, add_lit, lit_mul, mul_lit, nI_add, sub_lit, le_nn, lt_nn, eq_nn, le_ln, lt_ln, le_nl, lt_nl, eq_nl, eq_ln, ne_m9, ne_m1, bd_some, bd2_some, ↓nx_eq, rz0, rz1, one_ne0, ↓reduceIte, if_pos, if_neg, e1, e2]
  refine ⟨_, _, _, rfl, rfl, ⟨P, Q, A, S, ?_⟩, h2⟩
  refine h.see (fun i i1 i2 => ?_) (fun i i1 i2 => ?_) (fun j j1 j2 => ?_) ⟨0, by omega, ?_, ?_, fun j hj => absurd hj (by omega)⟩
  · rw [pu_ne i2]
  · rw [pu_ne i1]
  · rw [pu_eq, up_ne j2]
  · rw [pu_eq, up_eq]; rfl
  · rw [pu_eq, up_eq]; rfl
/-! fits -/
theorem leftNow_ok {gx gm : Sg} {P Q A S k : Nat} (h : RelX gx.1 gm.1 P Q A S) (hk : k < Q) : ∃ l n, gx.1 87 k = nI n ∧ l ≤ n ∧ n ≤ 4 ∧ f5_leftIn (nI k) 0 gx = some (nI l, gx) ∧ f6_leftNow (nI k) gm = some (nI l, gm) := by
  obtain ⟨y, l, n, e1, e2, e3, e4, e5, e6, e7⟩ := left_ok h hk (a := 0) (by omega)
  refine ⟨l, n, e3, e4, e5, e6, ?_⟩
  unfold f6_leftNow
  rw [Nat.add_zero] at e7
  rw [e1, e7, bd2_some]
theorem can_m0 {gm : Sg} {k n : Nat} (e2 : gm.1 0 27 = nI n) (hn : n ≤ 4) (hk : k < 8) : ∀ (d j f : Nat), j + d = n → d < f → f6_canBe_b32 f (nI k) 0 (nI j) gm = some (0, gm)
  | 0, j, f + 1, hj, _ => by
    unfold f6_canBe_b32
    simp (disch := omega) only [ix_ok, cl, lit_add, add_lit, lit_mul, mul_lit, nI_add, sub_lit, le_nn, lt_nn, eq_nn, le_ln, lt_ln, le_nl, lt_nl, eq_nl, eq_ln, ne_m9, ne_m1, bd_some, bd2_some, ↓nx_eq, rz0, rz1, one_ne0, ↓reduceIte, if_pos, if_neg, e2]
  | d + 1, j, f + 1, hj, hf => by
    unfold f6_canBe_b32
    simp (disch := omega) only [ix_ok, cl, lit_add, add_lit, lit_mul, mul_lit, nI_add, sub_lit, le_nn, lt_nn, eq_nn, le_ln, lt_ln, le_nl, lt_nl, eq_nl, eq_ln, ne_m9, ne_m1, bd_some, bd2_some, ↓nx_eq, rz0, rz1, one_ne0, ↓reduceIte, if_pos, if_neg, e2, f6_canBe_b67, f6_canBe_b68]
    exact can_m0 e2 hn hk d (j + 1) f (by omega) (by omega)
theorem can_go {gx gm : Sg} {P Q A S k n w : Nat} (h : RelX gx.1 gm.1 P Q A S) (hk : k < Q) (e1 : gx.1 134 0 = nI n) (e2 : gm.1 0 27 = nI n) (hn : n ≤ 4) (e3 : ∀ j, j < n → gm.1 26 j = gx.1 130 j) (hw : gx.1 87 k = nI w) (hw4 : w ≤ 4) (hnw : n ≤ w) : ∀ (d j f1 f2 : Nat), j + d = n → d < f1 → d + 1 < f2 → ∃ r : Int32, (r = 0 ∨ r = 1) ∧ f5_beginsAsSeen_b26 f1 (nI k) (nI j) gx = some (r, gx) ∧ f6_canBe_b32 f2 (nI k) 1 (nI j) gm = some (r, gm)
  | 0, j, f1 + 1, f2 + 1, hj, _, _ => by
    refine ⟨1, Or.inr rfl, ?_, ?_⟩
    · unfold f5_beginsAsSeen_b26
      simp (disch := omega) only [ix_ok, cl, lit_add, add_lit, lit_mul, mul_lit, nI_add, sub_lit, le_nn, lt_nn, eq_nn, le_ln, lt_ln, le_nl, lt_nl, eq_nl, eq_ln, ne_m9, ne_m1, bd_some, bd2_some, ↓nx_eq, rz0, rz1, one_ne0, ↓reduceIte, if_pos, if_neg, e1]
    · unfold f6_canBe_b32
      simp (disch := omega) only [ix_ok, cl, lit_add, add_lit, lit_mul, mul_lit, nI_add, sub_lit, le_nn, lt_nn, eq_nn, le_ln, lt_ln, le_nl, lt_nl, eq_nl, eq_ln, ne_m9, ne_m1, bd_some, bd2_some, ↓nx_eq, rz0, rz1, one_ne0, ↓reduceIte, if_pos, if_neg, e2]
  | d + 1, j, f1 + 1, f2 + 1 + 1, hj, h1, h2 => by
    obtain ⟨hx, -, hQ⟩ := h.Q_
    obtain ⟨-, n', n1', n4', w2, w3⟩ := h.wds hk
    have hn' : n' = w := (nI_eq (by omega) (by omega)).1 (w2.symm.trans hw)
    subst hn'
    have d1 := (w3 j (by omega)).1
    have d2 := e3 j (by omega)
    have wa := wordAt_y hx hQ hk hw hw4 (show j < n' by omega)
    unfold f5_beginsAsSeen_b26 f6_canBe_b32
    by_cases l : gx.1 88 (4 * k + j) = gx.1 130 j
    · obtain ⟨r, r0, r1, r2⟩ := can_go h hk e1 e2 hn e3 hw hw4 hnw d (j + 1) f1 (f2 + 1) (by omega) (by omega) (by omega)
      simp (disch := omega) only [ix_ok, cl, lit_add, add_lit, lit_mul, mul_lit, nI_add, sub_lit, le_nn, lt_nn, eq_nn, le_ln, lt_ln, le_nl, lt_nl, eq_nl, eq_ln, ne_m9, ne_m1, bd_some, bd2_some, ↓nx_eq, rz0, rz1, one_ne0, ↓reduceIte, if_pos, if_neg, e1, e2, wa, d1, d2, l, f6_canBe_b68]
      exact ⟨r, r0, r1, r2⟩
    · refine ⟨0, Or.inl rfl, ?_, ?_⟩
      · simp (disch := omega) only [ix_ok, cl, lit_add, add_lit, lit_mul, mul_lit, nI_add, sub_lit, le_nn, lt_nn, eq_nn, le_ln, lt_ln, le_nl, lt_nl, eq_nl, eq_ln, ne_m9, ne_m1, bd_some, bd2_some, ↓nx_eq, rz0, rz1, one_ne0, ↓reduceIte, if_pos, if_neg, e1, wa, l]
      · simp (disch := omega) only [ix_ok, cl, lit_add, add_lit, lit_mul, mul_lit, nI_add, sub_lit, le_nn, lt_nn, eq_nn, le_ln, lt_ln, le_nl, lt_nl, eq_nl, eq_ln, ne_m9, ne_m1, bd_some, bd2_some, ↓nx_eq, rz0, rz1, one_ne0, ↓reduceIte, if_pos, if_neg, e2, d1, d2, l, f6_canBe_b67, f6_canBe_b68]
        exact can_m0 e2 hn (by omega) d (j + 1) (f2 + 1) (by omega) (by omega)
theorem can_ok {gx gm : Sg} {P Q A S k : Nat} (h : RelX gx.1 gm.1 P Q A S) (hk : k < Q) : ∃ r : Int32, (r = 0 ∨ r = 1) ∧ f5_beginsAsSeen (nI k) gx = some (r, gx) ∧ f6_canBe (nI k) gm = some (r, gm) := by
  obtain ⟨hx, -, hQ⟩ := h.Q_
  obtain ⟨n, n4, e1, e2, e3⟩ := h.2.2.2.2.1
  obtain ⟨l, w, w1, lw, w4, l1, l2⟩ := leftNow_ok h hk
  obtain ⟨i1, s, hs, i2⟩ := h.is hk
  have z := can_m0 (gm := gm) e2 n4 (show k < 8 by omega) n 0 1000 (by omega) (by omega)
  rw [nI_0] at z
  unfold f5_beginsAsSeen f6_canBe
  by_cases hi : gx.1 2 k = 0
  · rw [isNow_y hx hQ hk hi]
    by_cases hl : n ≤ l
    · obtain ⟨r, r0, r1, r2⟩ := can_go h hk e1 e2 n4 (fun j hj => (e3 j hj).1) w1 w4 (by omega) n 0 1000 1000 (by omega) (by omega) (by omega)
      rw [nI_0] at r1 r2
      simp (disch := omega) only [ix_ok, cl, lit_add, add_lit, lit_mul, mul_lit, nI_add, sub_lit, le_nn, lt_nn, eq_nn, le_ln, lt_ln, le_nl, lt_nl, eq_nl, eq_ln, ne_m9, ne_m1, bd_some, bd2_some, ↓nx_eq, rz0, rz1, one_ne0, ↓reduceIte, if_pos, if_neg, i1, hi, l1, l2, e1, e2, f6_canBe_b29, r1, r2]
      exact ⟨r, r0, rfl, rfl⟩
    · simp (disch := omega) only [ix_ok, cl, lit_add, add_lit, lit_mul, mul_lit, nI_add, sub_lit, le_nn, lt_nn, eq_nn, le_ln, lt_ln, le_nl, lt_nl, eq_nl, eq_ln, ne_m9, ne_m1, bd_some, bd2_some, ↓nx_eq, rz0, rz1, one_ne0, ↓reduceIte, if_pos, if_neg, i1, hi, l1, l2, e1, e2, f6_canBe_b28, f6_canBe_b29, z]
      exact ⟨0, Or.inl rfl, rfl, rfl⟩
  · rw [isNow_n hx hQ (by omega) (fun q => hi q.2)]
    simp (disch := omega) only [ix_ok, cl, lit_add, add_lit, lit_mul, mul_lit, nI_add, sub_lit, le_nn, lt_nn, eq_nn, le_ln, lt_ln, le_nl, lt_nl, eq_nl, eq_ln, ne_m9, ne_m1, bd_some, bd2_some, ↓nx_eq, rz0, rz1, one_ne0, ↓reduceIte, if_pos, if_neg, i1, hi, f6_canBe_b28, f6_canBe_b29, z]
    exact ⟨0, Or.inl rfl, rfl, rfl⟩
theorem can_l {gx : Sg} {Q k : Nat} (hx : gx.1 90 1 = nI Q) (hQ : Q ≤ 8) (h1 : Q ≤ k) (h2 : k < 8) : f5_beginsAsSeen (nI k) gx = some (0, gx) := by
  unfold f5_beginsAsSeen
  rw [isNow_n hx hQ h2 (fun q => by omega), bd2_some, if_pos rfl, rz0]
theorem fits_l {gx : Sg} {Q : Nat} (hx : gx.1 90 1 = nI Q) (hQ : Q ≤ 8) : ∀ (n k f : Nat) (s : Int32), k + n = 8 → n < f → Q ≤ k → f5_fits_b4 f s (nI k) gx = some (s, gx)
  | 0, k, f + 1, s, hk, _, _ => by
    obtain rfl : k = 8 := by omega
    rfl
  | n + 1, k, f + 1, s, hk, hf, hl => by
    unfold f5_fits_b4
    rw [can_l hx hQ hl (by omega)]
    simp (disch := omega) only [ix_ok, cl, lit_add, add_lit, lit_mul, mul_lit, nI_add, sub_lit, le_nn, lt_nn, eq_nn, le_ln, lt_ln, le_nl, lt_nl, eq_nl, eq_ln, ne_m9, ne_m1, bd_some, bd2_some, ↓nx_eq, rz0, rz1, one_ne0, ↓reduceIte, if_pos, if_neg, f5_fits_b24]
    exact fits_l hx hQ n (k + 1) f s (by omega) (by omega) (by omega)
theorem fits_go {gx gm : Sg} {P Q A S : Nat} (h : RelX gx.1 gm.1 P Q A S) : ∀ (n k f1 f2 : Nat) (s : Int32), k + n = Q → 8 - k < f1 → n < f2 → ∃ r, f5_fits_b4 f1 s (nI k) gx = some (r, gx) ∧ f6_fits_b9 f2 s (nI k) gm = some (r, gm)
  | 0, k, f1 + 1, f2 + 1, s, hk, h1, _ => by
    obtain ⟨hx, hm, hQ⟩ := h.Q_
    obtain rfl : k = Q := by omega
    refine ⟨s, fits_l hx hQ (8 - k) k (f1 + 1) s (by omega) (by omega) (by omega), ?_⟩
    unfold f6_fits_b9
    simp (disch := omega) only [ix_ok, cl, lit_add, add_lit, lit_mul, mul_lit, nI_add, sub_lit, le_nn, lt_nn, eq_nn, le_ln, lt_ln, le_nl, lt_nl, eq_nl, eq_ln, ne_m9, ne_m1, bd_some, bd2_some, ↓nx_eq, rz0, rz1, one_ne0, ↓reduceIte, if_pos, if_neg, hm]
  | n + 1, k, f1 + 1, f2 + 1, s, hk, h1, h2 => by
    obtain ⟨hx, hm, hQ⟩ := h.Q_
    obtain ⟨r, r0, r1, r2⟩ := can_ok h (k := k) (by omega)
    unfold f5_fits_b4 f6_fits_b9
    rw [r1, r2]
    rcases r0 with rfl | rfl
    · simp (disch := omega) only [ix_ok, cl, lit_add, add_lit, lit_mul, mul_lit, nI_add, sub_lit, le_nn, lt_nn, eq_nn, le_ln, lt_ln, le_nl, lt_nl, eq_nl, eq_ln, ne_m9, ne_m1, bd_some, bd2_some, ↓nx_eq, rz0, rz1, one_ne0, ↓reduceIte, if_pos, if_neg, hm, f5_fits_b24, f6_fits_b35, or0]
      exact fits_go h n (k + 1) f1 f2 s (by omega) (by omega) (by omega)
    · simp (disch := omega) only [ix_ok, cl, lit_add, add_lit, lit_mul, mul_lit, nI_add, sub_lit, le_nn, lt_nn, eq_nn, le_ln, lt_ln, le_nl, lt_nl, eq_nl, eq_ln, ne_m9, ne_m1, bd_some, bd2_some, ↓nx_eq, rz0, rz1, one_ne0, ↓reduceIte, if_pos, if_neg, hm, f5_fits_b24, f6_fits_b35, or0]
      exact fits_go h n (k + 1) f1 f2 _ (by omega) (by omega) (by omega)
theorem s_fits : St Rel (f5_fits) (f6_fits) := by
  refine St.ro (fun gx gm P Q A S h _ => ?_)
  have hQ := h.t.Q_.2.2
  obtain ⟨r, r1, r2⟩ := fits_go h.t Q 0 1000 1000 0 (by omega) (by omega) (by omega)
  unfold f5_fits f6_fits
  rw [nx_eq, show f5_fits_b4 1000 0 0 gx = f5_fits_b4 1000 0 (nI 0) gx from rfl, show f6_fits_b9 1000 0 0 (t0 gm) = f6_fits_b9 1000 0 (nI 0) (t0 gm) from rfl]
  exact ⟨r, r1, r2⟩
/-! likely -/
theorem lk_x0 {u : Nat → Nat} (hu : ∀ d, u d = 0) : ∀ (n k f : Nat) (g : Sg), k + n = 10 → n < f → WL g 132 k u → ∃ g', f5_likely_b2 f (nI k) g = f5_likely_b23 1000 0 g' ∧ WL g' 132 10 u ∧ Fr 132 g g'
  | 0, k, f + 1, g, hk, _, h => by
    obtain rfl : k = 10 := by omega
    refine ⟨g, ?_, h, Fr.refl⟩
    unfold f5_likely_b2
    simp (disch := omega) only [ix_ok, cl, lit_add, add_lit, lit_mul, mul_lit, nI_add, sub_lit, le_nn, lt_nn, eq_nn, le_ln, lt_ln, le_nl, lt_nl, eq_nl, eq_ln, ne_m9, ne_m1, bd_some, bd2_some, ↓nx_eq, rz0, rz1, one_ne0, ↓reduceIte, if_pos, if_neg]
  | n + 1, k, f + 1, g, hk, hf, h => by
    obtain ⟨g', e1, e2, e3⟩ := lk_x0 hu n (k + 1) f _ (by omega) (by omega) (h.step (v := 0) (by rw [hu]; rfl))
    unfold f5_likely_b2
    simp (disch := omega) only [ix_ok, cl, lit_add, add_lit, lit_mul, mul_lit, nI_add, sub_lit, le_nn, lt_nn, eq_nn, le_ln, lt_ln, le_nl, lt_nl, eq_nl, eq_ln, ne_m9, ne_m1, bd_some, bd2_some, ↓nx_eq, rz0, rz1, one_ne0, ↓reduceIte, if_pos, if_neg]
    exact ⟨g', e1, e2, Fr.pu.trans e3⟩
theorem lk_m0 {u : Nat → Nat} (hu : ∀ d, u d = 0) : ∀ (n k f : Nat) (g : Sg), k + n = 10 → n < f → WL g 29 k u → ∃ g', f6_likely_b7 f (nI k) g = f6_likely_b28 1000 0 g' ∧ WL g' 29 10 u ∧ Fr 29 g g'
  | 0, k, f + 1, g, hk, _, h => by
    obtain rfl : k = 10 := by omega
    refine ⟨g, ?_, h, Fr.refl⟩
    unfold f6_likely_b7
    simp (disch := omega) only [ix_ok, cl, lit_add, add_lit, lit_mul, mul_lit, nI_add, sub_lit, le_nn, lt_nn, eq_nn, le_ln, lt_ln, le_nl, lt_nl, eq_nl, eq_ln, ne_m9, ne_m1, bd_some, bd2_some, ↓nx_eq, rz0, rz1, one_ne0, ↓reduceIte, if_pos, if_neg]
  | n + 1, k, f + 1, g, hk, hf, h => by
    obtain ⟨g', e1, e2, e3⟩ := lk_m0 hu n (k + 1) f _ (by omega) (by omega) (h.step (v := 0) (by rw [hu]; rfl))
    unfold f6_likely_b7
    simp (disch := omega) only [ix_ok, cl, lit_add, add_lit, lit_mul, mul_lit, nI_add, sub_lit, le_nn, lt_nn, eq_nn, le_ln, lt_ln, le_nl, lt_nl, eq_nl, eq_ln, ne_m9, ne_m1, bd_some, bd2_some, ↓nx_eq, rz0, rz1, one_ne0, ↓reduceIte, if_pos, if_neg]
    exact ⟨g', e1, e2, Fr.pu.trans e3⟩
theorem lk_end {gx gm : Sg} {u : Nat → Nat} (hu : ∀ d, u d ≤ 8) (wx : WL gx 132 10 u) (wm : WL gm 29 10 u) : ∀ (n k f1 f2 b : Nat) (a : Int32), k + n = 10 → n < f1 → n < f2 → b ≤ 8 → ∃ r, f5_likely_b96 f1 a (nI b) (nI k) gx = some (r, gx) ∧ f6_likely_b93 f2 a (nI b) (nI k) gm = some (r, gm)
  | 0, k, f1 + 1, f2 + 1, b, a, hk, _, _, _ => by
    obtain rfl : k = 10 := by omega
    refine ⟨a, ?_, ?_⟩
    · unfold f5_likely_b96
      simp (disch := omega) only [ix_ok, cl, lit_add, add_lit, lit_mul, mul_lit, nI_add, sub_lit, le_nn, lt_nn, eq_nn, le_ln, lt_ln, le_nl, lt_nl, eq_nl, eq_ln, ne_m9, ne_m1, bd_some, bd2_some, ↓nx_eq, rz0, rz1, one_ne0, ↓reduceIte, if_pos, if_neg]
    · unfold f6_likely_b93
      simp (disch := omega) only [ix_ok, cl, lit_add, add_lit, lit_mul, mul_lit, nI_add, sub_lit, le_nn, lt_nn, eq_nn, le_ln, lt_ln, le_nl, lt_nl, eq_nl, eq_ln, ne_m9, ne_m1, bd_some, bd2_some, ↓nx_eq, rz0, rz1, one_ne0, ↓reduceIte, if_pos, if_neg]
  | n + 1, k, f1 + 1, f2 + 1, b, a, hk, h1, h2, hb => by
    have e1 := wx k (by omega)
    have e2 := wm k (by omega)
    have e3 := hu k
    unfold f5_likely_b96 f6_likely_b93
    by_cases l : u k ≤ b
    · simp (disch := omega) only [ix_ok, cl, lit_add, add_lit, lit_mul, mul_lit, nI_add, sub_lit, le_nn, lt_nn, eq_nn, le_ln, lt_ln, le_nl, lt_nl, eq_nl, eq_ln, ne_m9, ne_m1, bd_some, bd2_some, ↓nx_eq, rz0, rz1, one_ne0, ↓reduceIte, if_pos, if_neg, e1, e2, f5_likely_b121, f6_likely_b114, f6_likely_b135]
      exact lk_end hu wx wm n (k + 1) f1 f2 b a (by omega) (by omega) (by omega) hb
    · simp (disch := omega) only [ix_ok, cl, lit_add, add_lit, lit_mul, mul_lit, nI_add, sub_lit, le_nn, lt_nn, eq_nn, le_ln, lt_ln, le_nl, lt_nl, eq_nl, eq_ln, ne_m9, ne_m1, bd_some, bd2_some, ↓nx_eq, rz0, rz1, one_ne0, ↓reduceIte, if_pos, if_neg, e1, e2, f5_likely_b121, f6_likely_b114, f6_likely_b135]
      exact lk_end hu wx wm n (k + 1) f1 f2 (u k) _ (by omega) (by omega) (by omega) e3
theorem lk_l {Q : Nat} (hQ : Q ≤ 8) {gx : Sg} (hx : gx.1 90 1 = nI Q) : ∀ (n k f : Nat), k + n = 8 → n < f → Q ≤ k → f5_likely_b23 f (nI k) gx = f5_likely_b96 1000 (-9) 0 0 gx
  | 0, k, f + 1, hk, _, _ => by
    obtain rfl : k = 8 := by omega
    unfold f5_likely_b23
    simp (disch := omega) only [ix_ok, cl, lit_add, add_lit, lit_mul, mul_lit, nI_add, sub_lit, le_nn, lt_nn, eq_nn, le_ln, lt_ln, le_nl, lt_nl, eq_nl, eq_ln, ne_m9, ne_m1, bd_some, bd2_some, ↓nx_eq, rz0, rz1, one_ne0, ↓reduceIte, if_pos, if_neg]
  | n + 1, k, f + 1, hk, hf, hl => by
    unfold f5_likely_b23
    rw [can_l hx hQ hl (by omega)]
    simp (disch := omega) only [ix_ok, cl, lit_add, add_lit, lit_mul, mul_lit, nI_add, sub_lit, le_nn, lt_nn, eq_nn, le_ln, lt_ln, le_nl, lt_nl, eq_nl, eq_ln, ne_m9, ne_m1, bd_some, bd2_some, ↓nx_eq, rz0, rz1, one_ne0, ↓reduceIte, if_pos, if_neg, f5_likely_b83]
    exact lk_l hQ hx n (k + 1) f (by omega) (by omega) (by omega)
theorem WL.add {g : Sg} {a d : Nat} {u : Nat → Nat} (h : WL g a 10 u) : WL (pu g a d (nI (u d + 1))) a 10 (fun c => if c = d then u c + 1 else u c) := by
  intro c hc
  rw [pu_eq]
  by_cases e : c = d
  · subst e
    rw [up_eq]
    show nI (u c + 1) = nI (if c = c then u c + 1 else u c)
    rw [if_pos rfl]
  · rw [up_ne e, h c hc]
    show nI (u c) = nI (if c = d then u c + 1 else u c)
    rw [if_neg e]
theorem lk_go {P Q A S : Nat} : ∀ (n k f1 f2 : Nat) (gx gm : Sg) (u : Nat → Nat), RelX gx.1 gm.1 P Q A S → k + n = Q → 8 - k < f1 → n < f2 → (∀ d, u d ≤ k) → WL gx 132 10 u → WL gm 29 10 u → ∃ r gx' gm', f5_likely_b23 f1 (nI k) gx = some (r, gx') ∧ f6_likely_b28 f2 (nI k) gm = some (r, gm') ∧ FX gx gx' ∧ FM gm gm'
  | 0, k, f1 + 1, f2 + 1, gx, gm, u, h, hk, h1, _, hu, wx, wm => by
    obtain ⟨hx, hm, hQ⟩ := h.Q_
    obtain rfl : k = Q := by omega
    obtain ⟨r, r1, r2⟩ := lk_end (fun d => Nat.le_trans (hu d) hQ) wx wm 10 0 1000 1000 0 (-9) (by omega) (by omega) (by omega) (by omega)
    refine ⟨r, gx, gm, (lk_l hQ hx (8 - k) k (f1 + 1) (by omega) (by omega) (by omega)).trans r1, ?_, FX.refl, FM.refl⟩
    unfold f6_likely_b28
    simp (disch := omega) only [ix_ok, cl, lit_add, add_lit, lit_mul, mul_lit, nI_add, sub_lit, le_nn, lt_nn, eq_nn, le_ln, lt_ln, le_nl, lt_nl, eq_nl, eq_ln, ne_m9, ne_m1, bd_some, bd2_some, ↓nx_eq, rz0, rz1, one_ne0, ↓reduceIte, if_pos, if_neg, hm]
    exact r2
  | n + 1, k, f1 + 1, f2 + 1, gx, gm, u, h, hk, h1, h2, hu, wx, wm => by
    obtain ⟨hx, hm, hQ⟩ := h.Q_
    obtain ⟨r, r0, r1, r2⟩ := can_ok h (k := k) (by omega)
    obtain ⟨l, w, w1, lw, w4, l1, l2⟩ := leftNow_ok h (k := k) (by omega)
    obtain ⟨s, s4, e1, e2, -⟩ := h.2.2.2.2.1
    have hk8 : k < 8 := by omega
    have skip := lk_go n (k + 1) f1 f2 gx gm u h (by omega) (by omega) (by omega) (fun d => Nat.le_succ_of_le (hu d)) wx wm
    unfold f5_likely_b23 f6_likely_b28
    rw [r1, r2]
    rcases r0 with rfl | rfl
    · simp (disch := omega) only [ix_ok, cl, lit_add, add_lit, lit_mul, mul_lit, nI_add, sub_lit, le_nn, lt_nn, eq_nn, le_ln, lt_ln, le_nl, lt_nl, eq_nl, eq_ln, ne_m9, ne_m1, bd_some, bd2_some, ↓nx_eq, rz0, rz1, one_ne0, ↓reduceIte, if_pos, if_neg, hm, f5_likely_b83, f6_likely_b80]
      exact skip
    · by_cases hl : l ≤ s
      · simp (disch := omega) only [ix_ok, cl, lit_add, add_lit, lit_mul, mul_lit, nI_add, sub_lit, le_nn, lt_nn, eq_nn, le_ln, lt_ln, le_nl, lt_nl, eq_nl, eq_ln, ne_m9, ne_m1, bd_some, bd2_some, ↓nx_eq, rz0, rz1, one_ne0, ↓reduceIte, if_pos, if_neg, hm, l1, l2, e1, e2, f5_likely_b83, f6_likely_b80]
        exact skip
      · obtain ⟨-, n', n1', n4', w2, w3⟩ := h.wds (q := k) (by omega)
        have hn' : n' = w := (nI_eq (by omega) (by omega)).1 (w2.symm.trans w1)
        subst hn'
        obtain ⟨d1, d, d9, d2⟩ := w3 s (by omega)
        have wa := wordAt_y hx hQ (show k < Q by omega) w1 w4 (show s < n' by omega)
        have vx := wx d (by omega)
        have vm := wm d (by omega)
        have hud := hu d
        have a1 : FX gx (pu gx 132 d (nI (u d + 1))) := Fr.pu.x2
        have a2 : FM gm (pu gm 29 d (nI (u d + 1))) := Fr.pu.m2
        obtain ⟨r, gx', gm', c1, c2, c3, c4⟩ := lk_go n (k + 1) f1 f2 _ _ _ (h.fr a1 a2) (by omega) (by omega) (by omega) (fun c => by
          have := hu c
          by_cases e : c = d
          · show (if c = d then u c + 1 else u c) ≤ k + 1
            rw [if_pos e]; omega
          · show (if c = d then u c + 1 else u c) ≤ k + 1
            rw [if_neg e]; omega) wx.add wm.add
        simp (disch := omega) only [ix_ok, cl, lit_add, add_lit, lit_mul, mul_lit, nI_add, sub_lit, le_nn, lt_nn, eq_nn, le_ln, lt_ln, le_nl, lt_nl, eq_nl, eq_ln, ne_m9, ne_m1, bd_some, bd2_some, ↓nx_eq, rz0, rz1, one_ne0, ↓reduceIte, if_pos, if_neg, hm, l1, l2, e1, e2, wa, d1, d2, vx, vm, f5_likely_b83, f6_likely_b80]
        exact ⟨r, gx', gm', c1, c2, a1.trans c3, a2.trans c4⟩
theorem s_likely : St Rel (f5_likely) (f6_likely) := by
  refine St.fr (fun gx gm P Q A S h _ => ?_)
  have hQ := h.t.Q_.2.2
  obtain ⟨gx1, a1, a2, a3⟩ := lk_x0 (u := fun _ => 0) (fun _ => rfl) 10 0 1000 gx (by omega) (by omega) (fun c hc => absurd hc (by omega))
  obtain ⟨gm1, b1, b2, b3⟩ := lk_m0 (u := fun _ => 0) (fun _ => rfl) 10 0 1000 (t0 gm) (by omega) (by omega) (fun c hc => absurd hc (by omega))
  obtain ⟨r, gx', gm', c1, c2, c3, c4⟩ := lk_go Q 0 1000 1000 gx1 gm1 (fun _ => 0) (h.t.fr a3.x2 b3.m2) (by omega) (by omega) (by omega) (fun _ => Nat.le_refl 0) a2 b2
  refine ⟨r, gx', gm', ?_, ?_, a3.x2.trans c3, b3.m2.trans c4⟩
  · unfold f5_likely
    exact a1.trans c1
  · unfold f6_likely
    rw [nx_eq]
    exact b1.trans c2
