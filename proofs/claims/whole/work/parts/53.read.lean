/-! ===== the ones that only look ===== -/
theorem told_y {g : Sg} {k : Nat} (h : k < 100) : f5_isToldYear (nI k) g = some (1, g) := by
  unfold f5_isToldYear
  simp (disch := omega) only [ix_ok, cl, lit_add, add_lit, lit_mul, mul_lit, nI_add, sub_lit, le_nn, lt_nn, eq_nn, le_ln, lt_ln, le_nl, lt_nl, eq_nl, eq_ln, ne_m9, ne_m1, bd_some, bd2_some, ↓nx_eq, rz0, rz1, one_ne0, ↓reduceIte, if_pos, if_neg]
theorem told_n {g : Sg} {a : Int32} (h : a < 0 ∨ nI 100 ≤ a) : f5_isToldYear a g = some (0, g) := by
  unfold f5_isToldYear
  rcases h with h | h
  · rw [if_pos h, rz0]
  · rw [if_pos (show (99 : Int32) < a from lt_of_le6 (n := 99) (by omega) h), rz0]
    split <;> rfl
theorem s_left (a b : Int32) : St Rel (f5_left a b) (f6_left a b) := by
  refine St.ro (fun gx gm P Q A S h _ => ?_)
  obtain ⟨hx, hm, hQ⟩ := h.t.Q_
  unfold f5_left f6_left
  rw [nx_eq]
  rcases tri a (n := Q) (by omega) with ⟨k, hk, rfl⟩ | hn
  · rw [hasP_y hx hQ hk, isP_y hm hQ hk]
    rcases tri b (n := 100) (by omega) with ⟨j, hj, rfl⟩ | q
    · obtain ⟨y, l, n, e1, e2, e3, e4, e5, e6, e7⟩ := left_ok h.t hk (a := j) (by omega)
      have hb : f6_in (nI j) 0 99 (t0 gm) = some (1, t0 gm) := in_ok (lo := 0) (hi := 99) (by omega) (by omega) (by omega)
      simp (disch := omega) only [ix_ok, cl, lit_add, add_lit, lit_mul, mul_lit, nI_add, sub_lit, le_nn, lt_nn, eq_nn, le_ln, lt_ln, le_nl, lt_nl, eq_nl, eq_ln, ne_m9, ne_m1, bd_some, bd2_some, ↓nx_eq, rz0, rz1, one_ne0, ↓reduceIte, if_pos, if_neg, told_y hj, hb, e1, e6, e7]
      exact ⟨_, rfl, rfl⟩
    · have hb : f6_in b 0 99 (t0 gm) = some (0, t0 gm) := in_no (hi := 99) (by omega) q
      simp only [bd2_some, hb, told_n q, one_ne0, if_false, if_true]
      exact ⟨_, rfl, rfl⟩
  · rw [hasP_n hx hn, isP_n hm hQ hn, bd2_some, bd2_some, if_pos rfl, if_pos rfl]
    exact ⟨_, rfl, rfl⟩
theorem wordAt_y {gx : Sg} {Q k j n : Nat} (hx : gx.1 90 1 = nI Q) (hQ : Q ≤ 8) (hk : k < Q) (hw : gx.1 87 k = nI n) (hn : n ≤ 4) (hj : j < n) : f4_wordAt (nI k) (nI j) gx = some (gx.1 88 (4 * k + j), gx) := by
  unfold f4_wordAt
  rw [hasP_y hx hQ hk]
  simp (disch := omega) only [ix_ok, cl, lit_add, add_lit, lit_mul, mul_lit, nI_add, sub_lit, le_nn, lt_nn, eq_nn, le_ln, lt_ln, le_nl, lt_nl, eq_nl, eq_ln, ne_m9, ne_m1, bd_some, bd2_some, ↓nx_eq, rz0, rz1, one_ne0, ↓reduceIte, if_pos, if_neg, hw]
  rw [Nat.mul_comm k 4]
theorem s_word (a b : Int32) : St Rel (f5_word a b) (f6_word a b) := by
  refine St.ro (fun gx gm P Q A S h _ => ?_)
  obtain ⟨hx, hm, hQ⟩ := h.t.Q_
  unfold f5_word f6_word
  rw [nx_eq]
  rcases tri a (n := Q) (by omega) with ⟨k, hk, rfl⟩ | hn
  · rw [hasP_y hx hQ hk, isP_y hm hQ hk]
    rcases tri b (n := 4) (by omega) with ⟨j, hj, rfl⟩ | q
    · obtain ⟨y, l, n, e1, e2, e3, e4, e5, e6, e7⟩ := left_ok h.t hk (a := 0) (by omega)
      have e6' : f5_leftIn (nI k) 0 gx = some (nI l, gx) := e6
      have hb : f6_in (nI j) 0 3 (t0 gm) = some (1, t0 gm) := in_ok (lo := 0) (hi := 3) (by omega) (by omega) (by omega)
      have e7' : f6_leftNow (nI k) (t0 gm) = some (nI l, t0 gm) := by
        unfold f6_leftNow
        rw [e1]
        rw [Nat.add_zero] at e7
        rw [e7, bd2_some]
      by_cases hl : l ≤ j
      · simp (disch := omega) only [ix_ok, cl, lit_add, add_lit, lit_mul, mul_lit, nI_add, sub_lit, le_nn, lt_nn, eq_nn, le_ln, lt_ln, le_nl, lt_nl, eq_nl, eq_ln, ne_m9, ne_m1, bd_some, bd2_some, ↓nx_eq, rz0, rz1, one_ne0, ↓reduceIte, if_pos, if_neg, hb, e6', e7']
        exact ⟨_, rfl, rfl⟩
      · obtain ⟨-, n', n1, n4, w1, w2⟩ := h.t.wds hk
        have hn' : n' = n := (nI_eq (by omega) (by omega)).1 (w1.symm.trans e3)
        subst hn'
        have hd := (w2 j (by omega)).1
        simp (disch := omega) only [ix_ok, cl, lit_add, add_lit, lit_mul, mul_lit, nI_add, sub_lit, le_nn, lt_nn, eq_nn, le_ln, lt_ln, le_nl, lt_nl, eq_nl, eq_ln, ne_m9, ne_m1, bd_some, bd2_some, ↓nx_eq, rz0, rz1, one_ne0, ↓reduceIte, if_pos, if_neg, hb, e6', e7', wordAt_y hx hQ hk e3 e5 (show j < n' by omega), hd]
        exact ⟨_, rfl, rfl⟩
    · have hb : f6_in b 0 3 (t0 gm) = some (0, t0 gm) := in_no (hi := 3) (by omega) q
      simp only [bd2_some, hb, one_ne0, if_false, if_true]
      refine ⟨-1, ?_, rfl⟩
      rcases q with q | q
      · rw [if_pos q]
      · rw [if_neg (show ¬ b < (4 : Int32) from fun e => by
          have e2 : nI 4 ≤ b := q
          rw [Int32.le_iff_toInt_le] at e2
          rw [Int32.lt_iff_toInt_lt] at e
          have e3 : (nI 4).toInt = (4 : Int32).toInt := rfl
          omega)]
        split <;> rfl
  · rw [hasP_n hx hn, isP_n hm hQ hn, bd2_some, bd2_some, if_pos rfl, if_pos rfl]
    exact ⟨_, rfl, rfl⟩
/-! the words to the depth -/
theorem lying_ok {gx : Sg} {A n d t : Nat} (ha : gx.1 90 2 = nI A) (h1 : 1 ≤ A) (h2 : A ≤ 20) (hn : n ≤ 4) (hd : d ≤ 5) (ht : t ≤ 99) : f5_lyingLeft (nI n) (nI d) (nI t) 0 gx = some (nI (max 1 (n - t * (d + 1) / A)), gx) := by
  have hq : t * (d + 1) ≤ 99 * 6 := Nat.mul_le_mul ht (by omega)
  have hq2 : t * (d + 1) / A ≤ 99 * 6 := Nat.le_trans (Nat.div_le_self _ _) hq
  have hv := (val1 (n := n) (q := t * (d + 1) / A) (d := 0) hn (by omega) (by omega)).1
  have ed : (nI t * nI (d + 1)) / nI A = nI (t * (d + 1) / A) := by rw [pk_mul, pk_div (by omega) (by omega) (by omega)]
  unfold f5_lyingLeft
  simp (disch := omega) only [ix_ok, cl, lit_add, add_lit, lit_mul, mul_lit, nI_add, sub_lit, le_nn, lt_nn, eq_nn, le_ln, lt_ln, le_nl, lt_nl, eq_nl, eq_ln, ne_m9, ne_m1, bd_some, bd2_some, ↓nx_eq, rz0, rz1, one_ne0, ↓reduceIte, if_pos, if_neg, ha, nz, f5_lyingLeft_b27, ed]
  exact congrArg (fun z => some (z, gx)) hv
def lv3 (n t A d : Nat) : Nat := max 1 (n - t * (d + 1) / A)
def lastD (n w t A : Nat) : Nat → Int32
  | 0 => -9
  | d + 1 => if lv3 n t A d < w then lastD n w t A d else nI d
theorem lv3_le {n t A d : Nat} (hn : n ≤ 4) : lv3 n t A d ≤ 4 := Nat.max_le.2 ⟨by omega, Nat.le_trans (Nat.sub_le _ _) hn⟩
theorem lasts_x {gx : Sg} {A n w t : Nat} (ha : gx.1 90 2 = nI A) (h1 : 1 ≤ A) (h2 : A ≤ 20) (hn : n ≤ 4) (hw : w ≤ 4) (ht : t ≤ 99) : ∀ (d f : Nat), d ≤ 6 → d < f → f5_lasts_b32 f (nI n) (nI w) (nI t) (nI d - 1) gx = some (lastD n w t A d, gx)
  | 0, f + 1, _, _ => rfl
  | d + 1, f + 1, hd, hf => by
    have hl := lv3_le (n := n) (t := t) (A := A) (d := d) hn
    unfold f5_lasts_b32
    rw [nI_pred]
    simp (disch := omega) only [ix_ok, cl, lit_add, add_lit, lit_mul, mul_lit, nI_add, sub_lit, le_nn, lt_nn, eq_nn, le_ln, lt_ln, le_nl, lt_nl, eq_nl, eq_ln, ne_m9, ne_m1, bd_some, bd2_some, ↓nx_eq, rz0, rz1, one_ne0, ↓reduceIte, if_pos, if_neg, lying_ok ha h1 h2 hn (show d ≤ 5 by omega) ht]
    rw [lastD]
    show (if nI (lv3 n t A d) < nI w then _ else _) = _
    rw [show nI d + (-1) = nI d - 1 from (Int32.sub_eq_add_neg _ _).symm, lasts_x ha h1 h2 hn hw ht d f (by omega) (by omega)]
    by_cases hlt : lv3 n t A d < w
    · rw [if_pos hlt, if_pos (nI_lt hlt (by omega))]
    · rw [if_neg hlt, if_neg (nI_nlt (by omega) (by omega))]
theorem lasts_m {gm : Sg} {A n w t : Nat} (ha : gm.1 9 2 = nI A) (h1 : 1 ≤ A) (h2 : A ≤ 20) (hn : n ≤ 4) (hw : w ≤ 4) (ht : t ≤ 99) : ∀ (e d f : Nat), d + e = 6 → e < f → f6_lasts_b42 f (nI n) (nI w) (nI t) (lastD n w t A d) (nI d) gm = some (lastD n w t A 6, gm)
  | 0, d, f + 1, hd, hf => by
    obtain rfl : d = 6 := by omega
    rfl
  | e + 1, d, f + 1, hd, hf => by
    have hl := lv3_le (n := n) (t := t) (A := A) (d := d) hn
    have hq : t * (d + 1) ≤ 99 * 6 := Nat.mul_le_mul ht (by omega)
    have hq2 : t * (d + 1) / A ≤ 99 * 6 := Nat.le_trans (Nat.div_le_self _ _) hq
    have hv := (val1 (n := n) (q := t * (d + 1) / A) (d := 0) hn (by omega) (by omega)).2
    rw [show nI n - nI (t * (d + 1) / A) - nI 0 = nI n - nI (t * (d + 1) / A) from by rw [nI_0, Int32.sub_zero]] at hv
    simp only [Nat.add_zero] at hv
    have ed : (nI t * nI (d + 1)) / nI A = nI (t * (d + 1) / A) := by rw [pk_mul, pk_div (by omega) (by omega) (by omega)]
    have key := lasts_m ha h1 h2 hn hw ht e (d + 1) f (by omega) (by omega)
    rw [lastD] at key
    unfold f6_lasts_b42
    rw [show nI d + 1 = nI (d + 1) from nI_1 d]
    simp (disch := omega) only [ix_ok, cl, lit_add, add_lit, lit_mul, mul_lit, nI_add, sub_lit, le_nn, lt_nn, eq_nn, le_ln, lt_ln, le_nl, lt_nl, eq_nl, eq_ln, ne_m9, ne_m1, bd_some, bd2_some, ↓nx_eq, rz0, rz1, one_ne0, ↓reduceIte, if_pos, if_neg, ha, nz, ed]
    have two : ∀ {X : Int32}, f6_lasts_b78 (f6_lasts_b42 f) (nI n) (nI w) (nI t) (lastD n w t A d) (nI d) X gm = if X < nI w then f6_lasts_b42 f (nI n) (nI w) (nI t) (lastD n w t A d) (nI (d + 1)) gm else f6_lasts_b42 f (nI n) (nI w) (nI t) (nI d) (nI (d + 1)) gm := fun {X} => by
      unfold f6_lasts_b78 f6_lasts_b89
      rw [show nI d + 1 = nI (d + 1) from nI_1 d, nx_eq, nx_eq]
    have fin : f6_lasts_b78 (f6_lasts_b42 f) (nI n) (nI w) (nI t) (lastD n w t A d) (nI d) (nI (lv3 n t A d)) gm = some (lastD n w t A 6, gm) := by
      rw [two]
      by_cases hlt : lv3 n t A d < w
      · rw [if_pos hlt] at key
        rw [if_pos (nI_lt hlt (by omega)), key]
      · rw [if_neg hlt] at key
        rw [if_neg (nI_nlt (by omega) (by omega)), key]
    rw [← fin, lv3, ← hv]
    split <;> rfl
theorem s_lasts (a b c : Int32) : St Rel (f5_lasts a b c) (f6_lasts a b c) := by
  refine St.ro (fun gx gm P Q A S h _ => ?_)
  obtain ⟨a1, a2, a3, a4⟩ := h.t.A_
  unfold f5_lasts f6_lasts
  rw [nx_eq]
  rcases tri a (n := 5) (by omega) with ⟨n, hn, rfl⟩ | q
  · by_cases n0 : n = 0
    · subst n0
      exact ⟨-1, rfl, rfl⟩
    have ea : f6_in (nI n) 1 4 (t0 gm) = some (1, t0 gm) := in_ok (lo := 1) (hi := 4) (by omega) (by omega) (by omega)
    rcases tri b (n := 5) (by omega) with ⟨w, hw, rfl⟩ | q
    · by_cases n0 : w = 0
      · subst n0
        simp (disch := omega) only [ix_ok, cl, lit_add, add_lit, lit_mul, mul_lit, nI_add, sub_lit, le_nn, lt_nn, eq_nn, le_ln, lt_ln, le_nl, lt_nl, eq_nl, eq_ln, ne_m9, ne_m1, bd_some, bd2_some, ↓nx_eq, rz0, rz1, one_ne0, ↓reduceIte, if_pos, if_neg, ea]
        exact ⟨-1, rfl, rfl⟩
      have eb : f6_in (nI w) 1 4 (t0 gm) = some (1, t0 gm) := in_ok (lo := 1) (hi := 4) (by omega) (by omega) (by omega)
      rcases tri c (n := 100) (by omega) with ⟨t, ht, rfl⟩ | q
      · have ec : f6_in (nI t) 0 99 (t0 gm) = some (1, t0 gm) := in_ok (lo := 0) (hi := 99) (by omega) (by omega) (by omega)
        have k1 : f5_lasts_b32 1000 (nI n) (nI w) (nI t) 5 gx = some (lastD n w t A 6, gx) := lasts_x a1 a3 a4 (by omega) (by omega) (by omega) 6 1000 (by omega) (by omega)
        have k2 : f6_lasts_b42 1000 (nI n) (nI w) (nI t) (-9) 0 (t0 gm) = some (lastD n w t A 6, t0 gm) := lasts_m a2 a3 a4 (by omega) (by omega) (by omega) 6 0 1000 (by omega) (by omega)
        simp (disch := omega) only [ix_ok, cl, lit_add, add_lit, lit_mul, mul_lit, nI_add, sub_lit, le_nn, lt_nn, eq_nn, le_ln, lt_ln, le_nl, lt_nl, eq_nl, eq_ln, ne_m9, ne_m1, bd_some, bd2_some, ↓nx_eq, rz0, rz1, one_ne0, ↓reduceIte, if_pos, if_neg, ea, eb, ec, told_y ht, k1, k2]
        exact ⟨_, rfl, rfl⟩
      · have ec : f6_in c 0 99 (t0 gm) = some (0, t0 gm) := in_no (hi := 99) (by omega) q
        simp (disch := omega) only [ix_ok, cl, lit_add, add_lit, lit_mul, mul_lit, nI_add, sub_lit, le_nn, lt_nn, eq_nn, le_ln, lt_ln, le_nl, lt_nl, eq_nl, eq_ln, ne_m9, ne_m1, bd_some, bd2_some, ↓nx_eq, rz0, rz1, one_ne0, ↓reduceIte, if_pos, if_neg, ea, eb, ec, told_n q]
        exact ⟨_, rfl, rfl⟩
    · have eb : f6_in b 1 4 (t0 gm) = some (0, t0 gm) := in_n (q.imp (fun z => Int32.lt_trans z (by decide)) (fun z => lt_of_le6 (n := 4) (by omega) z))
      simp (disch := omega) only [ix_ok, cl, lit_add, add_lit, lit_mul, mul_lit, nI_add, sub_lit, le_nn, lt_nn, eq_nn, le_ln, lt_ln, le_nl, lt_nl, eq_nl, eq_ln, ne_m9, ne_m1, bd_some, bd2_some, ↓nx_eq, rz0, rz1, one_ne0, ↓reduceIte, if_pos, if_neg, ea, eb]
      refine ⟨_, ?_, rfl⟩
      rcases q with z | z
      · rw [if_pos (Int32.lt_trans z (by decide))]
      · rw [if_pos (show (4 : Int32) < b from lt_of_le6 (n := 4) (by omega) z)]
        split <;> rfl
  · have ea : f6_in a 1 4 (t0 gm) = some (0, t0 gm) := in_n (q.imp (fun z => Int32.lt_trans z (by decide)) (fun z => lt_of_le6 (n := 4) (by omega) z))
    simp (disch := omega) only [ix_ok, cl, lit_add, add_lit, lit_mul, mul_lit, nI_add, sub_lit, le_nn, lt_nn, eq_nn, le_ln, lt_ln, le_nl, lt_nl, eq_nl, eq_ln, ne_m9, ne_m1, bd_some, bd2_some, ↓nx_eq, rz0, rz1, one_ne0, ↓reduceIte, if_pos, if_neg, ea]
    refine ⟨_, ?_, rfl⟩
    rcases q with z | z
    · rw [if_pos (Int32.lt_trans z (by decide))]
    · rw [if_pos (show (4 : Int32) < a from lt_of_le6 (n := 4) (by omega) z)]
      split <;> rfl
/-! who is on duty -/
theorem hasPe_m9 {g : Sg} : f4_hasPerson (-9) g = some (0, g) := rfl
theorem duty_end {gx gm : Sg} {t c f1 f2 : Nat} (hc : c ≤ 6) (h1 : 0 < f1) (h2 : 0 < f2) : f5_duty_b33 f1 (nI t) (-9) (nI c) gx = some (-9, gx) ∧ f6_duty_b32 f2 (nI t) (-9) gm = some (-9, gm) := by
  obtain ⟨f1, rfl⟩ : ∃ f, f1 = f + 1 := ⟨f1 - 1, by omega⟩
  obtain ⟨f2, rfl⟩ : ∃ f, f2 = f + 1 := ⟨f2 - 1, by omega⟩
  refine ⟨?_, rfl⟩
  unfold f5_duty_b33
  rw [hasPe_m9, bd2_some, if_pos rfl]
  split <;> rfl
theorem duty_go {gx gm : Sg} {P Q A S t : Nat} (h : RelX gx.1 gm.1 P Q A S) (ht : t ≤ 99) : ∀ (p c f1 f2 : Nat), p < P → c + p < 6 → p + 1 < f1 → p + 1 < f2 → ∃ r, f5_duty_b33 f1 (nI t) (nI p) (nI c) gx = some (r, gx) ∧ f6_duty_b32 f2 (nI t) (nI p) gm = some (r, gm) := by
  intro p
  induction p using Nat.strongRecOn with
  | _ p ih =>
    intro c f1 f2 hp hc h1 h2
    obtain ⟨f1, rfl⟩ : ∃ f, f1 = f + 1 := ⟨f1 - 1, by omega⟩
    obtain ⟨f2, rfl⟩ : ∃ f, f2 = f + 1 := ⟨f2 - 1, by omega⟩
    obtain ⟨hx, hm, hP⟩ := h.P_
    obtain ⟨y, hy, y1, y2⟩ := h.yr
    obtain ⟨e1, ⟨d, hd, e2⟩, e3, e4⟩ := h.per hp
    unfold f5_duty_b33 f6_duty_b32
    rw [hasPe_y hx hP hp]
    by_cases hdy : d ≤ y + t
    · simp (disch := omega) only [ix_ok, cl, lit_add, add_lit, lit_mul, mul_lit, nI_add, sub_lit, le_nn, lt_nn, eq_nn, le_ln, lt_ln, le_nl, lt_nl, eq_nl, eq_ln, ne_m9, ne_m1, bd_some, bd2_some, ↓nx_eq, rz0, rz1, one_ne0, ↓reduceIte, if_pos, if_neg, e1, e2, e3, y1, y2]
      rcases e4 with e4 | ⟨k, hk, e4⟩
      · rw [e4]
        obtain ⟨z1, z2⟩ := duty_end (gx := gx) (gm := gm) (t := t) (c := c + 1) (f1 := f1) (f2 := f2) (by omega) (by omega) (by omega)
        exact ⟨_, z1, z2⟩
      · rw [e4]
        exact ih k hk (c + 1) f1 f2 (by omega) (by omega) (by omega) (by omega)
    · simp (disch := omega) only [ix_ok, cl, lit_add, add_lit, lit_mul, mul_lit, nI_add, sub_lit, le_nn, lt_nn, eq_nn, le_ln, lt_ln, le_nl, lt_nl, eq_nl, eq_ln, ne_m9, ne_m1, bd_some, bd2_some, ↓nx_eq, rz0, rz1, one_ne0, ↓reduceIte, if_pos, if_neg, e1, e2, e3, y1, y2]
      exact ⟨_, rfl, rfl⟩
theorem s_duty (a b : Int32) : St Rel (f5_duty a b) (f6_duty a b) := by
  refine St.ro (fun gx gm P Q A S h _ => ?_)
  obtain ⟨hx, hm, hQ⟩ := h.t.Q_
  unfold f5_duty f6_duty
  rw [nx_eq]
  rcases tri a (n := Q) (by omega) with ⟨k, hk, rfl⟩ | hn
  · rw [hasP_y hx hQ hk, isP_y hm hQ hk]
    rcases tri b (n := 100) (by omega) with ⟨j, hj, rfl⟩ | q
    · have hb : f6_in (nI j) 0 99 (t0 gm) = some (1, t0 gm) := in_ok (lo := 0) (hi := 99) (by omega) (by omega) (by omega)
      obtain ⟨w1, w, hw, w2⟩ := h.t.who hk
      have hP := h.t.P_.2.2
      obtain ⟨r, r1, r2⟩ := duty_go h.t (t := j) (by omega) w 0 1000 1000 hw (by omega) (by omega) (by omega)
      have r1' : f5_duty_b33 1000 (nI j) (nI w) 0 gx = some (r, gx) := r1
      simp (disch := omega) only [ix_ok, cl, lit_add, add_lit, lit_mul, mul_lit, nI_add, sub_lit, le_nn, lt_nn, eq_nn, le_ln, lt_ln, le_nl, lt_nl, eq_nl, eq_ln, ne_m9, ne_m1, bd_some, bd2_some, ↓nx_eq, rz0, rz1, one_ne0, ↓reduceIte, if_pos, if_neg, told_y hj, hb, w1, w2, r1', r2]
      exact ⟨_, rfl, rfl⟩
    · have hb : f6_in b 0 99 (t0 gm) = some (0, t0 gm) := in_no (hi := 99) (by omega) q
      simp only [bd2_some, hb, told_n q, one_ne0, if_false, if_true]
      exact ⟨_, rfl, rfl⟩
  · rw [hasP_n hx hn, isP_n hm hQ hn, bd2_some, bd2_some, if_pos rfl, if_pos rfl]
    exact ⟨_, rfl, rfl⟩
