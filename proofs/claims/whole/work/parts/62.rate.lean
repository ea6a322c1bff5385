/-! ===== rate, count, type, clear ===== -/
theorem left_pl {gx gm : Sg} {P Q A S k : Nat} (h : RelX gx.1 gm.1 P Q A S) (hk : k < Q) : ∃ l n, l ≤ n ∧ n ≤ 4 ∧ (∀ t, f5_leftIn (nI k) 0 (pl gx t) = some (nI l, pl gx t)) ∧ f6_leftNow (nI k) gm = some (nI l, gm) := by
  obtain ⟨l, n, e1, e2, e3, e4, e5⟩ := leftNow_ok h hk
  refine ⟨l, n, e2, e3, fun t => ?_, e5⟩
  obtain ⟨l', n', -, -, -, d4, d5⟩ := leftNow_ok (gx := pl gx t) (gm := gm) (P := P) (Q := Q) (A := A) (S := S) h hk
  have e : nI l' = nI l := by
    have := d5.symm.trans e5
    exact congrArg (fun q => q.1) (Option.some.inj this)
  rw [d4, e]
theorem i64_2 (t a b : Int64) : t + a + b = t + (a + b) := Int64.add_assoc t a b
theorem pl_pl {g : Sg} {t u : Int64} : pl (pl g t) u = pl g u := rfl
theorem St.pl {gx gm : Sg} {t : Int64} (hr : Rel gx gm) : Rel (pl gx (gx.2 + t)) (pl (t0 gm) ((t0 gm).2 + t)) := by
  obtain ⟨⟨P, Q, A, S, h⟩, h2⟩ := hr.t
  refine ⟨⟨P, Q, A, S, h⟩, ?_⟩
  show gx.2 + t = (t0 gm).2 + t
  rw [h2]
theorem s_rate (a b : Int32) : St Rel (f5_rate a b) (f6_rate a b) := by
  intro gx gm hr
  obtain ⟨⟨P, Q, A, S, h⟩, h2⟩ := id hr.t
  obtain ⟨hx, hm, hQ⟩ := h.Q_
  rcases tri b (n := Q) (by omega) with ⟨k, hk, rfl⟩ | hn
  · obtain ⟨l, n, ln, n4, lx, lm⟩ := left_pl h hk
    have e3 := (h.dep hk).1
    have e4 := (h.spa hk).1
    obtain ⟨y, hy, y1, y2⟩ := h.yr
    have ex := hasP_y (g := gx) hx hQ hk
    have em := isP_y (g := t0 gm) hm hQ hk
    rcases tri a (n := 6) (by omega) with ⟨j, hj, rfl⟩ | q
    · have ea : f6_in (nI j) 0 5 (t0 gm) = some (1, t0 gm) := in_ok (lo := 0) (hi := 5) (by omega) (by omega) (by omega)
      have hk8 : k < 8 := by omega
      rcases (show j = 0 ∨ j = 1 ∨ j = 2 ∨ j = 3 ∨ j = 4 ∨ j = 5 by omega) with rfl | rfl | rfl | rfl | rfl | rfl
      · refine ⟨nI l, _, _, ?_, ?_, St.pl (t := 1) hr⟩
        · unfold f5_rate f5_asWord
          simp (disch := omega) only [ix_ok, cl, lit_add, add_lit, lit_mul, mul_lit, nI_add, sub_lit, le_nn, lt_nn, eq_nn, le_ln, lt_ln, le_nl, lt_nl, eq_nl, eq_ln, ne_m9, ne_m1, bd_some, bd2_some, ↓nx_eq, rz0, rz1, one_ne0, ↓reduceIte, if_pos, if_neg, ex, lx]
        · unfold f6_rate
          simp (disch := omega) only [ix_ok, cl, lit_add, add_lit, lit_mul, mul_lit, nI_add, sub_lit, le_nn, lt_nn, eq_nn, le_ln, lt_ln, le_nl, lt_nl, eq_nl, eq_ln, ne_m9, ne_m1, bd_some, bd2_some, ↓nx_eq, rz0, rz1, one_ne0, ↓reduceIte, if_pos, if_neg, ea, em, lm, f6_rate_b111]
      · refine ⟨nI l + gx.1 84 k, _, _, ?_, ?_, St.pl (t := 11) hr⟩
        · unfold f5_rate f5_asVow f5_asWord
          simp (disch := omega) only [ix_ok, cl, lit_add, add_lit, lit_mul, mul_lit, nI_add, sub_lit, le_nn, lt_nn, eq_nn, le_ln, lt_ln, le_nl, lt_nl, eq_nl, eq_ln, ne_m9, ne_m1, bd_some, bd2_some, ↓nx_eq, rz0, rz1, one_ne0, ↓reduceIte, if_pos, if_neg, ex, lx, pl_1, pl_2, pl_pl, i64_2]
          rfl
        · unfold f6_rate
          simp (disch := omega) only [ix_ok, cl, lit_add, add_lit, lit_mul, mul_lit, nI_add, sub_lit, le_nn, lt_nn, eq_nn, le_ln, lt_ln, le_nl, lt_nl, eq_nl, eq_ln, ne_m9, ne_m1, bd_some, bd2_some, ↓nx_eq, rz0, rz1, one_ne0, ↓reduceIte, if_pos, if_neg, ea, em, lm, e3, f6_rate_b111]
      · refine ⟨nI l - gx.1 85 k, _, _, ?_, ?_, St.pl (t := 101) hr⟩
        · unfold f5_rate f5_asLoan f5_asWord
          simp (disch := omega) only [ix_ok, cl, lit_add, add_lit, lit_mul, mul_lit, nI_add, sub_lit, le_nn, lt_nn, eq_nn, le_ln, lt_ln, le_nl, lt_nl, eq_nl, eq_ln, ne_m9, ne_m1, bd_some, bd2_some, ↓nx_eq, rz0, rz1, one_ne0, ↓reduceIte, if_pos, if_neg, ex, lx, pl_1, pl_2, pl_pl, i64_2]
          rfl
        · unfold f6_rate
          simp (disch := omega) only [ix_ok, cl, lit_add, add_lit, lit_mul, mul_lit, nI_add, sub_lit, le_nn, lt_nn, eq_nn, le_ln, lt_ln, le_nl, lt_nl, eq_nl, eq_ln, ne_m9, ne_m1, bd_some, bd2_some, ↓nx_eq, rz0, rz1, one_ne0, ↓reduceIte, if_pos, if_neg, ea, em, lm, e4, f6_rate_b111]
      · refine ⟨2 * (nI l + gx.1 84 k), _, _, ?_, ?_, St.pl (t := 1011) hr⟩
        · unfold f5_rate f5_asBride f5_asVow f5_asWord
          simp (disch := omega) only [ix_ok, cl, lit_add, add_lit, lit_mul, mul_lit, nI_add, sub_lit, le_nn, lt_nn, eq_nn, le_ln, lt_ln, le_nl, lt_nl, eq_nl, eq_ln, ne_m9, ne_m1, bd_some, bd2_some, ↓nx_eq, rz0, rz1, one_ne0, ↓reduceIte, if_pos, if_neg, ex, lx, pl_1, pl_2, pl_pl, i64_2]
          rfl
        · unfold f6_rate
          simp (disch := omega) only [ix_ok, cl, lit_add, add_lit, lit_mul, mul_lit, nI_add, sub_lit, le_nn, lt_nn, eq_nn, le_ln, lt_ln, le_nl, lt_nl, eq_nl, eq_ln, ne_m9, ne_m1, bd_some, bd2_some, ↓nx_eq, rz0, rz1, one_ne0, ↓reduceIte, if_pos, if_neg, ea, em, lm, e3, f6_rate_b111]
      · refine ⟨nI l - gx.1 85 k + nI k, _, _, ?_, ?_, St.pl (t := 10101) hr⟩
        · unfold f5_rate f5_asOak f5_asLoan f5_asWord
          simp (disch := omega) only [ix_ok, cl, lit_add, add_lit, lit_mul, mul_lit, nI_add, sub_lit, le_nn, lt_nn, eq_nn, le_ln, lt_ln, le_nl, lt_nl, eq_nl, eq_ln, ne_m9, ne_m1, bd_some, bd2_some, ↓nx_eq, rz0, rz1, one_ne0, ↓reduceIte, if_pos, if_neg, ex, lx, pl_1, pl_2, pl_pl, i64_2]
          rfl
        · unfold f6_rate
          simp (disch := omega) only [ix_ok, cl, lit_add, add_lit, lit_mul, mul_lit, nI_add, sub_lit, le_nn, lt_nn, eq_nn, le_ln, lt_ln, le_nl, lt_nl, eq_nl, eq_ln, ne_m9, ne_m1, bd_some, bd2_some, ↓nx_eq, rz0, rz1, one_ne0, ↓reduceIte, if_pos, if_neg, ea, em, lm, e4, f6_rate_b111]
      · refine ⟨nI (l + y), _, _, ?_, ?_, St.pl (t := 100001) hr⟩
        · unfold f5_rate f5_asThumb f5_asWord
          simp (disch := omega) only [ix_ok, cl, lit_add, add_lit, lit_mul, mul_lit, nI_add, sub_lit, le_nn, lt_nn, eq_nn, le_ln, lt_ln, le_nl, lt_nl, eq_nl, eq_ln, ne_m9, ne_m1, bd_some, bd2_some, ↓nx_eq, rz0, rz1, one_ne0, ↓reduceIte, if_pos, if_neg, ex, lx, pl_1, pl_2, pl_pl, i64_2, y1]
          rfl
        · unfold f6_rate
          simp (disch := omega) only [ix_ok, cl, lit_add, add_lit, lit_mul, mul_lit, nI_add, sub_lit, le_nn, lt_nn, eq_nn, le_ln, lt_ln, le_nl, lt_nl, eq_nl, eq_ln, ne_m9, ne_m1, bd_some, bd2_some, ↓nx_eq, rz0, rz1, one_ne0, ↓reduceIte, if_pos, if_neg, ea, em, lm, f6_rate_b111, pl_1, y2]
    · have hb : f6_in a 0 5 (t0 gm) = some (0, t0 gm) := in_no (hi := 5) (by omega) q
      have b0 : ¬ a = 0 := fun e => by subst e; exact absurd q (by decide)
      have b1 : ¬ a = 1 := fun e => by subst e; exact absurd q (by decide)
      have b2 : ¬ a = 2 := fun e => by subst e; exact absurd q (by decide)
      have b3 : ¬ a = 3 := fun e => by subst e; exact absurd q (by decide)
      have b4 : ¬ a = 4 := fun e => by subst e; exact absurd q (by decide)
      have b5 : ¬ a = 5 := fun e => by subst e; exact absurd q (by decide)
      unfold f5_rate f6_rate
      rw [ex, bd2_some, if_neg one_ne0.mp, if_neg b0, if_neg b1, if_neg b2, if_neg b3, if_neg b4, if_neg b5, nx_eq (v := pu gm 0 0 0), hb, bd2_some, if_pos rfl]
      exact ⟨_, _, _, rfl, rfl, hr.t⟩
  · unfold f5_rate f6_rate
    rw [hasP_n hx hn, bd2_some, if_pos rfl, nx_eq (v := pu gm 0 0 0)]
    refine ⟨-1000000, gx, t0 gm, rfl, ?_, hr.t⟩
    unfold f6_in
    by_cases z1 : a < 0
    · rw [if_pos z1, rz0, bd2_some, if_pos rfl]
    · rw [if_neg z1]
      by_cases z2 : (5 : Int32) < a
      · rw [if_pos z2, rz0, bd2_some, if_pos rfl]
      · rw [if_neg z2, rz1, bd2_some, if_neg one_ne0.mp, isP_n hm hQ hn, bd2_some, if_pos rfl]
theorem s_count (a : Int32) : St Rel (f5_count a) (f6_count a) := by
  refine St.ro (fun gx gm P Q A S h _ => ?_)
  obtain ⟨p1, p2, -⟩ := h.t.P_
  obtain ⟨q1, q2, -⟩ := h.t.Q_
  obtain ⟨a1, a2, -⟩ := h.t.A_
  obtain ⟨s1, s2, -⟩ := h.t.S_
  obtain ⟨n, -, e1, e2, -⟩ := h.t.2.2.2.2.1
  obtain ⟨t, -, f1, f2, -⟩ := h.t.2.2.2.2.2
  unfold f5_count f6_count
  rw [nx_eq]
  rcases tri a (n := 6) (by omega) with ⟨k, hk, rfl⟩ | q
  · rcases (show k = 0 ∨ k = 1 ∨ k = 2 ∨ k = 3 ∨ k = 4 ∨ k = 5 by omega) with rfl | rfl | rfl | rfl | rfl | rfl
    all_goals
      simp (disch := omega) only [ix_ok, cl, lit_add, add_lit, lit_mul, mul_lit, nI_add, sub_lit, le_nn, lt_nn, eq_nn, le_ln, lt_ln, le_nl, lt_nl, eq_nl, eq_ln, ne_m9, ne_m1, bd_some, bd2_some, ↓nx_eq, rz0, rz1, one_ne0, ↓reduceIte, if_pos, if_neg, f6_in, p1, p2, q1, q2, a1, a2, s1, s2, e1, e2, f1, f2]
      exact ⟨_, rfl, rfl⟩
  · have hb : f6_in a 0 3 (t0 gm) = some (0, t0 gm) := in_n (q.imp id (fun z => by
      have z2 : (5 : Int32) < a := lt_of_le6 (n := 5) (by omega) z
      exact Int32.lt_trans (by decide) z2))
    have b0 : ¬ a = 0 := fun e => by subst e; exact absurd q (by decide)
    have b1 : ¬ a = 1 := fun e => by subst e; exact absurd q (by decide)
    have b2 : ¬ a = 2 := fun e => by subst e; exact absurd q (by decide)
    have b3 : ¬ a = 3 := fun e => by subst e; exact absurd q (by decide)
    have b4 : ¬ a = 4 := fun e => by subst e; exact absurd q (by decide)
    have b5 : ¬ a = 5 := fun e => by subst e; exact absurd q (by decide)
    rw [if_neg b0, if_neg b1, if_neg b2, if_neg b3, if_neg b4, if_neg b5, hb, bd2_some, if_pos rfl, if_neg b4, if_neg b5]
    exact ⟨_, rfl, rfl⟩
theorem RelX.txt {x m x' m' : Nat → Nat → Int32} {P Q A S : Nat} (h : RelX x m P Q A S) (hx : ∀ i, (i < 100 ∨ 122 < i) → x' i = x i) (hm : ∀ i j, i ≠ 0 → i ≠ 2 → (lowp i j ∨ (20 < i ∧ i < 28)) → m' i j = m i j) (h0 : ∀ j, j = 25 ∨ j = 27 → m' 0 j = m 0 j) (ht : TX x' m') : RelX x' m' P Q A S := by
  obtain ⟨a1, a2, a3, a4, a5, a6⟩ := h
  have hQ : Q ≤ 8 := a1.2.1.2.2
  have hr : ∀ i, 20 < i → i < 28 → m' i = m i := fun i i1 i2 => funext (fun j => hm i j (by omega) (by omega) (Or.inr ⟨i1, i2⟩))
  exact ⟨a1.cong (fun i i1 i2 => hx i (by omega)) (fun i j hl => hm i j (by unfold lowp at hl; omega) (by unfold lowp at hl; omega) (Or.inl hl)), a2.cong (fun i i1 => hx i (by omega)) (hx 87 (by omega)) (hr 21 (by omega) (by omega)), a3.cong hQ (fun i i1 i2 => hx i (by omega)) (hx 87 (by omega)) (hx 123 (by omega)) (hr 24 (by omega) (by omega)) (h0 25 (by omega)), a4.cong hQ (fun i i1 i2 => hx i (by omega)) (hx 87 (by omega)) (hx 133 (by omega)) (hr 22 (by omega) (by omega)) (hr 23 (by omega) (by omega)), a5.cong (hx 130 (by omega)) (hx 134 (by omega)) (hr 26 (by omega) (by omega)) (h0 27 (by omega)), ht⟩
theorem s_type (a : Int32) : St Rel (f5_type a) (f6_type a) := by
  intro gx gm hr
  obtain ⟨⟨P, Q, A, S, h⟩, h2⟩ := id hr.t
  obtain ⟨n, n4, e1, e2, e3⟩ := h.2.2.2.2.2
  unfold f5_type f6_type
  rcases tri a (n := 256) (by omega) with ⟨k, hk, rfl⟩ | q
  · have ea : f6_in (nI k) 0 255 (t0 gm) = some (1, t0 gm) := in_ok (lo := 0) (hi := 255) (by omega) (by omega) (by omega)
    unfold f3_add
    by_cases l : n = 200
    · subst l
      simp (disch := omega) only [ix_ok, cl, lit_add, add_lit, lit_mul, mul_lit, nI_add, sub_lit, le_nn, lt_nn, eq_nn, le_ln, lt_ln, le_nl, lt_nl, eq_nl, eq_ln, ne_m9, ne_m1, bd_some, bd2_some, ↓nx_eq, rz0, rz1, one_ne0, ↓reduceIte, if_pos, if_neg, ea, e1, e2]
      exact ⟨_, _, _, rfl, rfl, hr.t⟩
    · simp (disch := omega) only [ix_ok, cl, lit_add, add_lit, lit_mul, mul_lit, nI_add, sub_lit, le_nn, lt_nn, eq_nn, le_ln, lt_ln, le_nl, lt_nl, eq_nl, eq_ln, ne_m9, ne_m1, bd_some, bd2_some, ↓nx_eq, rz0, rz1, one_ne0, ↓reduceIte, if_pos, if_neg, ea, e1, e2, pu_eq, up_eq, pu_ne]
      refine ⟨_, _, _, rfl, rfl, ⟨P, Q, A, S, ?_⟩, h2⟩
      refine h.txt (fun i i1 => ?_) (fun i j i1 i2 i3 => ?_) (fun j j1 => ?_) ⟨n + 1, by omega, ?_, ?_, fun j hj => ?_⟩
      · rw [pu_ne (by omega), pu_ne (by omega)]
      · rw [pu_ne (by omega), pu_ne (by omega)]
      · rw [pu_eq, up_ne (by omega), pu_ne (by omega)]
      · rw [pu_eq, up_eq]
      · rw [pu_eq, up_eq]
      · rw [pu_ne (show 2 ≠ 0 by omega), pu_eq, pu_ne (show 120 ≠ 121 by omega), pu_eq]
        by_cases e : j = n
        · subst e
          rw [up_eq, up_eq]
          exact ⟨rfl, k, by omega, rfl⟩
        · rw [up_ne e, up_ne e]
          exact e3 j (by omega)
  · have ea : f6_in a 0 255 (t0 gm) = some (0, t0 gm) := in_no (hi := 255) (by omega) q
    refine ⟨-1, gx, t0 gm, ?_, by rw [nx_eq, ea, bd2_some, if_pos rfl], hr.t⟩
    rcases q with q | q
    · rw [if_pos q]
    · rw [if_neg (show ¬ a ≤ (255 : Int32) from fun e => by
        have q2 : (255 : Int32) < a := lt_of_le6 (n := 255) (by omega) q
        rw [Int32.le_iff_toInt_le] at e
        rw [Int32.lt_iff_toInt_lt] at q2
        omega)]
      split <;> rfl
theorem s_clear : St Rel (f5_clear) (f6_clear) := by
  intro gx gm hr
  obtain ⟨⟨P, Q, A, S, h⟩, h2⟩ := id hr.t
  obtain ⟨n, n4, e1, e2, e3⟩ := h.2.2.2.2.2
  unfold f5_clear f6_clear
  simp (disch := omega) only [ix_ok, cl, lit_add, add_lit, lit_mul, mul_lit, nI_add, sub_lit, le_nn, lt_nn, eq_nn, le_ln, lt_ln, le_nl, lt_nl, eq_nl, eq_ln, ne_m9, ne_m1, bd_some, bd2_some, ↓nx_eq, rz0, rz1, one_ne0, ↓reduceIte, if_pos, if_neg, e1, e2]
  refine ⟨_, _, _, rfl, rfl, ⟨P, Q, A, S, ?_⟩, h2⟩
  refine h.txt (fun i i1 => ?_) (fun i j i1 i2 i3 => ?_) (fun j j1 => ?_) ⟨0, by omega, ?_, ?_, fun j hj => absurd hj (by omega)⟩
  · rw [pu_ne (by omega)]
  · rw [pu_ne i1]
  · rw [pu_eq, up_ne (by omega)]
  · rw [pu_eq, up_eq]; rfl
  · rw [pu_eq, up_eq]; rfl
