/-! ===== sets of promises ===== -/
theorem hasP_l {g : Sg} {k Q : Nat} (hm : g.1 90 1 = nI Q) (h : Q ≤ k) (hk : k < 8) : f4_hasPromise (nI k) g = some (0, g) := hasP_n hm (Or.inr (nI_le h (by omega)))
theorem isNow_y {g : Sg} {k Q : Nat} {c : Int32} (hm : g.1 90 1 = nI Q) (hQ : Q ≤ 8) (h : k < Q) (hc : g.1 2 k = c) : f5_isNow (nI k) c g = some (1, g) := by
  unfold f5_isNow
  rw [hasP_y hm hQ h]
  simp (disch := omega) only [ix_ok, cl, lit_add, add_lit, lit_mul, mul_lit, nI_add, sub_lit, le_nn, lt_nn, eq_nn, le_ln, lt_ln, le_nl, lt_nl, eq_nl, eq_ln, ne_m9, ne_m1, bd_some, bd2_some, ↓nx_eq, rz0, rz1, one_ne0, ↓reduceIte, if_pos, if_neg, hc]
theorem isNow_n {g : Sg} {k Q : Nat} {c : Int32} (hm : g.1 90 1 = nI Q) (hQ : Q ≤ 8) (hk : k < 8) (h : ¬ (k < Q ∧ g.1 2 k = c)) : f5_isNow (nI k) c g = some (0, g) := by
  unfold f5_isNow
  by_cases hq : k < Q
  · rw [hasP_y hm hQ hq]
    have hc : ¬ g.1 2 k = c := fun e => h ⟨hq, e⟩
    simp (disch := omega) only [ix_ok, cl, lit_add, add_lit, lit_mul, mul_lit, nI_add, sub_lit, le_nn, lt_nn, eq_nn, le_ln, lt_ln, le_nl, lt_nl, eq_nl, eq_ln, ne_m9, ne_m1, bd_some, bd2_some, ↓nx_eq, rz0, rz1, one_ne0, ↓reduceIte, if_pos, if_neg]
  · rw [hasP_l hm (by omega) hk]
    rfl
theorem liesIn_y {g : Sg} {k Q : Nat} {c : Int32} (hm : g.1 90 1 = nI Q) (hQ : Q ≤ 8) (h : k < Q) (hc : g.1 2 k = 0) (hd : g.1 83 k = c) : f5_liesIn (nI k) c g = some (1, g) := by
  unfold f5_liesIn
  rw [isNow_y hm hQ h hc]
  simp (disch := omega) only [ix_ok, cl, lit_add, add_lit, lit_mul, mul_lit, nI_add, sub_lit, le_nn, lt_nn, eq_nn, le_ln, lt_ln, le_nl, lt_nl, eq_nl, eq_ln, ne_m9, ne_m1, bd_some, bd2_some, ↓nx_eq, rz0, rz1, one_ne0, ↓reduceIte, if_pos, if_neg, hd]
theorem liesIn_n {g : Sg} {k Q : Nat} {c : Int32} (hm : g.1 90 1 = nI Q) (hQ : Q ≤ 8) (hk : k < 8) (h : ¬ (k < Q ∧ g.1 2 k = 0 ∧ g.1 83 k = c)) : f5_liesIn (nI k) c g = some (0, g) := by
  unfold f5_liesIn
  by_cases hq : k < Q ∧ g.1 2 k = 0
  · rw [isNow_y hm hQ hq.1 hq.2]
    have hc : ¬ g.1 83 k = c := fun e => h ⟨hq.1, hq.2, e⟩
    simp (disch := omega) only [ix_ok, cl, lit_add, add_lit, lit_mul, mul_lit, nI_add, sub_lit, le_nn, lt_nn, eq_nn, le_ln, lt_ln, le_nl, lt_nl, eq_nl, eq_ln, ne_m9, ne_m1, bd_some, bd2_some, ↓nx_eq, rz0, rz1, one_ne0, ↓reduceIte, if_pos, if_neg]
  · rw [isNow_n hm hQ hk hq]
    rfl
/-- those that are c, as a set -/
def pIs (x : Nat → Nat → Int32) (c : Int32) (Q : Nat) (j : Nat) : Bool := decide (j < Q ∧ x 2 j = c)
def pLy (x : Nat → Nat → Int32) (c : Int32) (Q : Nat) (j : Nat) : Bool := decide (j < Q ∧ x 2 j = 0 ∧ x 83 j = c)
theorem those_x {g : Sg} {Q : Nat} {c : Int32} (hm : g.1 90 1 = nI Q) (hQ : Q ≤ 8) : ∀ (n k f : Nat) (s : Int32), k + n = 8 → n < f → f5_thoseThatAre_b4 f c s (nI k) g = some (bitsF (pIs g.1 c Q) n k s, g)
  | 0, k, f + 1, s, hk, _ => by
    obtain rfl : k = 8 := by omega
    rfl
  | n + 1, k, f + 1, s, hk, hf => by
    unfold f5_thoseThatAre_b4
    rw [bitsF]
    by_cases h : k < Q ∧ g.1 2 k = c
    · rw [isNow_y hm hQ h.1 h.2, show pIs g.1 c Q k = true from decide_eq_true h]
      simp (disch := omega) only [ix_ok, cl, lit_add, add_lit, lit_mul, mul_lit, nI_add, sub_lit, le_nn, lt_nn, eq_nn, le_ln, lt_ln, le_nl, lt_nl, eq_nl, eq_ln, ne_m9, ne_m1, bd_some, bd2_some, ↓nx_eq, rz0, rz1, one_ne0, ↓reduceIte, if_pos, if_neg, f5_thoseThatAre_b25]
      exact those_x hm hQ n (k + 1) f _ (by omega) (by omega)
    · rw [isNow_n hm hQ (by omega) h, show pIs g.1 c Q k = false from decide_eq_false h]
      simp (disch := omega) only [ix_ok, cl, lit_add, add_lit, lit_mul, mul_lit, nI_add, sub_lit, le_nn, lt_nn, eq_nn, le_ln, lt_ln, le_nl, lt_nl, eq_nl, eq_ln, ne_m9, ne_m1, bd_some, bd2_some, ↓nx_eq, rz0, rz1, one_ne0, ↓reduceIte, if_pos, if_neg, f5_thoseThatAre_b25]
      exact those_x hm hQ n (k + 1) f _ (by omega) (by omega)
theorem those_m {gx gm : Sg} {P Q A S : Nat} {c : Int32} (h : RelX gx.1 gm.1 P Q A S) : ∀ (n k f : Nat) (s : Int32), k + n = Q → n < f → f6_those_b4 f c s (nI k) gm = some (bitsF (pIs gx.1 c Q) n k s, gm)
  | 0, k, f + 1, s, hk, _ => by
    obtain ⟨-, hm, hQ⟩ := h.Q_
    obtain rfl : k = Q := by omega
    unfold f6_those_b4
    simp (disch := omega) only [ix_ok, cl, lit_add, add_lit, lit_mul, mul_lit, nI_add, sub_lit, le_nn, lt_nn, eq_nn, le_ln, lt_ln, le_nl, lt_nl, eq_nl, eq_ln, ne_m9, ne_m1, bd_some, bd2_some, ↓nx_eq, rz0, rz1, one_ne0, ↓reduceIte, if_pos, if_neg, hm]
    rfl
  | n + 1, k, f + 1, s, hk, hf => by
    obtain ⟨-, hm, hQ⟩ := h.Q_
    obtain ⟨e, -⟩ := h.is (q := k) (by omega)
    unfold f6_those_b4
    rw [bitsF]
    by_cases hc : gx.1 2 k = c
    · rw [show pIs gx.1 c Q k = true from decide_eq_true ⟨by omega, hc⟩]
      simp (disch := omega) only [ix_ok, cl, lit_add, add_lit, lit_mul, mul_lit, nI_add, sub_lit, le_nn, lt_nn, eq_nn, le_ln, lt_ln, le_nl, lt_nl, eq_nl, eq_ln, ne_m9, ne_m1, bd_some, bd2_some, ↓nx_eq, rz0, rz1, one_ne0, ↓reduceIte, if_pos, if_neg, hm, e, hc, f6_those_b35]
      exact those_m h n (k + 1) f _ (by omega) (by omega)
    · rw [show pIs gx.1 c Q k = false from decide_eq_false (fun q => hc q.2)]
      simp (disch := omega) only [ix_ok, cl, lit_add, add_lit, lit_mul, mul_lit, nI_add, sub_lit, le_nn, lt_nn, eq_nn, le_ln, lt_ln, le_nl, lt_nl, eq_nl, eq_ln, ne_m9, ne_m1, bd_some, bd2_some, ↓nx_eq, rz0, rz1, one_ne0, ↓reduceIte, if_pos, if_neg, hm, e, hc, f6_those_b35, or0]
      exact those_m h n (k + 1) f _ (by omega) (by omega)
theorem pIs_cut {x : Nat → Nat → Int32} {c : Int32} {Q : Nat} (hQ : Q ≤ 8) (s : Int32) : bitsF (pIs x c Q) 8 0 s = bitsF (pIs x c Q) Q 0 s := by
  have := bitsF_cut (p := pIs x c Q) Q (8 - Q) 0 s (fun j h1 h2 => decide_eq_false (by omega))
  rw [← this]
  congr 1
  omega
def setIs (x : Nat → Nat → Int32) (c : Int32) (Q : Nat) : Nat := bitsN (pIs x c Q) Q 0 0
theorem setIs_lt {x : Nat → Nat → Int32} {c : Int32} {Q : Nat} (hQ : Q ≤ 8) : setIs x c Q < 256 := bitsN_lt Q 0 0 (by omega) (by omega)
theorem setIs_bit {x : Nat → Nat → Int32} {c : Int32} {Q j : Nat} : (setIs x c Q).testBit j = pIs x c Q j := by
  unfold setIs
  rw [bitsN_bit, Nat.zero_testBit, Bool.false_or, Nat.zero_add]
  by_cases h : j < Q
  · rw [show decide (0 ≤ j ∧ j < Q) = true from decide_eq_true ⟨Nat.zero_le _, h⟩, Bool.true_and]
  · rw [show decide (0 ≤ j ∧ j < Q) = false from decide_eq_false (fun q => h q.2), show pIs x c Q j = false from decide_eq_false (fun q => h q.1)]
    rfl
theorem thoseX {g : Sg} {Q : Nat} {c : Int32} (hm : g.1 90 1 = nI Q) (hQ : Q ≤ 8) : f5_thoseThatAre c g = some (nI (setIs g.1 c Q), g) := by
  unfold f5_thoseThatAre
  rw [show (0 : Int32) = nI 0 from rfl, those_x hm hQ 8 0 1000 _ (by omega) (by omega), pIs_cut hQ, bitsF_N Q 0 0 (by omega)]
  rfl
theorem thoseM {gx gm : Sg} {P Q A S : Nat} {c : Int32} (h : RelX gx.1 gm.1 P Q A S) : f6_those c gm = some (nI (setIs gx.1 c Q), gm) := by
  unfold f6_those
  have hQ := h.Q_.2.2
  rw [show (0 : Int32) = nI 0 from rfl, those_m h Q 0 1000 _ (by omega) (by omega), bitsF_N Q 0 0 (by omega)]
  rfl
/-! .. that lie in a cell -/
theorem lyIn_x {g : Sg} {Q : Nat} {c : Int32} (hm : g.1 90 1 = nI Q) (hQ : Q ≤ 8) : ∀ (n k f : Nat) (s : Int32), k + n = 8 → n < f → f5_lyingIn_b4 f c s (nI k) g = some (bitsF (pLy g.1 c Q) n k s, g)
  | 0, k, f + 1, s, hk, _ => by
    obtain rfl : k = 8 := by omega
    rfl
  | n + 1, k, f + 1, s, hk, hf => by
    unfold f5_lyingIn_b4
    rw [bitsF]
    by_cases h : k < Q ∧ g.1 2 k = 0 ∧ g.1 83 k = c
    · rw [liesIn_y hm hQ h.1 h.2.1 h.2.2, show pLy g.1 c Q k = true from decide_eq_true h]
      simp (disch := omega) only [ix_ok, cl, lit_add, add_lit, lit_mul, mul_lit, nI_add, sub_lit, le_nn, lt_nn, eq_nn, le_ln, lt_ln, le_nl, lt_nl, eq_nl, eq_ln, ne_m9, ne_m1, bd_some, bd2_some, ↓nx_eq, rz0, rz1, one_ne0, ↓reduceIte, if_pos, if_neg, f5_lyingIn_b25]
      exact lyIn_x hm hQ n (k + 1) f _ (by omega) (by omega)
    · rw [liesIn_n hm hQ (by omega) h, show pLy g.1 c Q k = false from decide_eq_false h]
      simp (disch := omega) only [ix_ok, cl, lit_add, add_lit, lit_mul, mul_lit, nI_add, sub_lit, le_nn, lt_nn, eq_nn, le_ln, lt_ln, le_nl, lt_nl, eq_nl, eq_ln, ne_m9, ne_m1, bd_some, bd2_some, ↓nx_eq, rz0, rz1, one_ne0, ↓reduceIte, if_pos, if_neg, f5_lyingIn_b25]
      exact lyIn_x hm hQ n (k + 1) f _ (by omega) (by omega)
theorem lyIn_m {gx gm : Sg} {P Q A S : Nat} {c : Int32} (h : RelX gx.1 gm.1 P Q A S) : ∀ (n k f : Nat) (s : Int32), k + n = Q → n < f → f6_lyingIn_b4 f c s (nI k) gm = some (bitsF (pLy gx.1 c Q) n k s, gm)
  | 0, k, f + 1, s, hk, _ => by
    obtain ⟨-, hm, hQ⟩ := h.Q_
    obtain rfl : k = Q := by omega
    unfold f6_lyingIn_b4
    simp (disch := omega) only [ix_ok, cl, lit_add, add_lit, lit_mul, mul_lit, nI_add, sub_lit, le_nn, lt_nn, eq_nn, le_ln, lt_ln, le_nl, lt_nl, eq_nl, eq_ln, ne_m9, ne_m1, bd_some, bd2_some, ↓nx_eq, rz0, rz1, one_ne0, ↓reduceIte, if_pos, if_neg, hm]
    rfl
  | n + 1, k, f + 1, s, hk, hf => by
    obtain ⟨-, hm, hQ⟩ := h.Q_
    obtain ⟨e, -⟩ := h.is (q := k) (by omega)
    obtain ⟨e2, -⟩ := h.cel (q := k) (by omega)
    unfold f6_lyingIn_b4
    rw [bitsF]
    by_cases hi : gx.1 2 k = 0
    · by_cases hc : gx.1 83 k = c
      · rw [show pLy gx.1 c Q k = true from decide_eq_true ⟨by omega, hi, hc⟩]
        simp (disch := omega) only [ix_ok, cl, lit_add, add_lit, lit_mul, mul_lit, nI_add, sub_lit, le_nn, lt_nn, eq_nn, le_ln, lt_ln, le_nl, lt_nl, eq_nl, eq_ln, ne_m9, ne_m1, bd_some, bd2_some, ↓nx_eq, rz0, rz1, one_ne0, ↓reduceIte, if_pos, if_neg, hm, e, e2, hi, hc, f6_lyingIn_b44]
        exact lyIn_m h n (k + 1) f _ (by omega) (by omega)
      · rw [show pLy gx.1 c Q k = false from decide_eq_false (fun q => hc q.2.2)]
        simp (disch := omega) only [ix_ok, cl, lit_add, add_lit, lit_mul, mul_lit, nI_add, sub_lit, le_nn, lt_nn, eq_nn, le_ln, lt_ln, le_nl, lt_nl, eq_nl, eq_ln, ne_m9, ne_m1, bd_some, bd2_some, ↓nx_eq, rz0, rz1, one_ne0, ↓reduceIte, if_pos, if_neg, hm, e, e2, hi, hc, f6_lyingIn_b44, f6_lyingIn_b43, or0]
        exact lyIn_m h n (k + 1) f _ (by omega) (by omega)
    · rw [show pLy gx.1 c Q k = false from decide_eq_false (fun q => hi q.2.1)]
      simp (disch := omega) only [ix_ok, cl, lit_add, add_lit, lit_mul, mul_lit, nI_add, sub_lit, le_nn, lt_nn, eq_nn, le_ln, lt_ln, le_nl, lt_nl, eq_nl, eq_ln, ne_m9, ne_m1, bd_some, bd2_some, ↓nx_eq, rz0, rz1, one_ne0, ↓reduceIte, if_pos, if_neg, hm, e, hi, f6_lyingIn_b44, f6_lyingIn_b43, or0]
      exact lyIn_m h n (k + 1) f _ (by omega) (by omega)
def setLy (x : Nat → Nat → Int32) (c : Int32) (Q : Nat) : Nat := bitsN (pLy x c Q) Q 0 0
theorem lyInX {g : Sg} {Q : Nat} {c : Int32} (hm : g.1 90 1 = nI Q) (hQ : Q ≤ 8) : f5_lyingIn c g = some (nI (setLy g.1 c Q), g) := by
  unfold f5_lyingIn
  rw [show (0 : Int32) = nI 0 from rfl, lyIn_x hm hQ 8 0 1000 _ (by omega) (by omega)]
  have := bitsF_cut (p := pLy g.1 c Q) Q (8 - Q) 0 (nI 0) (fun j h1 h2 => decide_eq_false (by omega))
  rw [show Q + (8 - Q) = 8 by omega] at this
  rw [this, bitsF_N Q 0 0 (by omega)]
  rfl
theorem lyInM {gx gm : Sg} {P Q A S : Nat} {c : Int32} (h : RelX gx.1 gm.1 P Q A S) : f6_lyingIn c gm = some (nI (setLy gx.1 c Q), gm) := by
  unfold f6_lyingIn
  have hQ := h.Q_.2.2
  rw [show (0 : Int32) = nI 0 from rfl, lyIn_m h Q 0 1000 _ (by omega) (by omega), bitsF_N Q 0 0 (by omega)]
  rfl
theorem setLy_bit {x : Nat → Nat → Int32} {c : Int32} {Q j : Nat} : (setLy x c Q).testBit j = pLy x c Q j := by
  unfold setLy
  rw [bitsN_bit, Nat.zero_testBit, Bool.false_or, Nat.zero_add]
  by_cases h : j < Q
  · rw [show decide (0 ≤ j ∧ j < Q) = true from decide_eq_true ⟨Nat.zero_le _, h⟩, Bool.true_and]
  · rw [show decide (0 ≤ j ∧ j < Q) = false from decide_eq_false (fun q => h q.2), show pLy x c Q j = false from decide_eq_false (fun q => h q.1)]
    rfl
theorem setLy_lt {x : Nat → Nat → Int32} {c : Int32} {Q : Nat} (hQ : Q ≤ 8) : setLy x c Q < 256 := bitsN_lt Q 0 0 (by omega) (by omega)
theorem s_now (a : Int32) : St Rel (f5_now a) (f6_now a) := by
  refine St.ro (fun gx gm P Q A S h _ => ?_)
  obtain ⟨hx, hm, hQ⟩ := h.t.Q_
  obtain ⟨y, hy, y1, y2⟩ := h.t.yr
  obtain ⟨n, z, n1, -, p1, p2, -⟩ := h.t.2.2.1
  unfold f5_now f6_now
  rw [nx_eq]
  rcases tri a (n := 6) (by omega) with ⟨k, hk, rfl⟩ | q
  · have ea : f6_in (nI k) 0 5 (t0 gm) = some (1, t0 gm) := in_ok (lo := 0) (hi := 5) (by omega) (by omega) (by omega)
    rw [ea]
    rcases (show k = 0 ∨ k = 1 ∨ k = 2 ∨ k = 3 ∨ k = 4 ∨ k = 5 by omega) with rfl | rfl | rfl | rfl | rfl | rfl
    · simp (disch := omega) only [ix_ok, cl, lit_add, add_lit, lit_mul, mul_lit, nI_add, sub_lit, le_nn, lt_nn, eq_nn, le_ln, lt_ln, le_nl, lt_nl, eq_nl, eq_ln, ne_m9, ne_m1, bd_some, bd2_some, ↓nx_eq, rz0, rz1, one_ne0, ↓reduceIte, if_pos, if_neg, y1, y2]
      exact ⟨_, rfl, rfl⟩
    · simp (disch := omega) only [ix_ok, cl, lit_add, add_lit, lit_mul, mul_lit, nI_add, sub_lit, le_nn, lt_nn, eq_nn, le_ln, lt_ln, le_nl, lt_nl, eq_nl, eq_ln, ne_m9, ne_m1, bd_some, bd2_some, ↓nx_eq, rz0, rz1, one_ne0, ↓reduceIte, if_pos, if_neg, thoseX hx hQ, thoseM h.t]
      exact ⟨_, rfl, rfl⟩
    · simp (disch := omega) only [ix_ok, cl, lit_add, add_lit, lit_mul, mul_lit, nI_add, sub_lit, le_nn, lt_nn, eq_nn, le_ln, lt_ln, le_nl, lt_nl, eq_nl, eq_ln, ne_m9, ne_m1, bd_some, bd2_some, ↓nx_eq, rz0, rz1, one_ne0, ↓reduceIte, if_pos, if_neg, thoseX hx hQ, thoseM h.t]
      exact ⟨_, rfl, rfl⟩
    · simp (disch := omega) only [ix_ok, cl, lit_add, add_lit, lit_mul, mul_lit, nI_add, sub_lit, le_nn, lt_nn, eq_nn, le_ln, lt_ln, le_nl, lt_nl, eq_nl, eq_ln, ne_m9, ne_m1, bd_some, bd2_some, ↓nx_eq, rz0, rz1, one_ne0, ↓reduceIte, if_pos, if_neg, thoseX hx hQ, thoseM h.t]
      exact ⟨_, rfl, rfl⟩
    · simp (disch := omega) only [ix_ok, cl, lit_add, add_lit, lit_mul, mul_lit, nI_add, sub_lit, le_nn, lt_nn, eq_nn, le_ln, lt_ln, le_nl, lt_nl, eq_nl, eq_ln, ne_m9, ne_m1, bd_some, bd2_some, ↓nx_eq, rz0, rz1, one_ne0, ↓reduceIte, if_pos, if_neg, thoseX hx hQ, thoseM h.t]
      exact ⟨_, rfl, rfl⟩
    · simp (disch := omega) only [ix_ok, cl, lit_add, add_lit, lit_mul, mul_lit, nI_add, sub_lit, le_nn, lt_nn, eq_nn, le_ln, lt_ln, le_nl, lt_nl, eq_nl, eq_ln, ne_m9, ne_m1, bd_some, bd2_some, ↓nx_eq, rz0, rz1, one_ne0, ↓reduceIte, if_pos, if_neg, p1, p2]
      exact ⟨_, rfl, rfl⟩
  · have hb : f6_in a 0 5 (t0 gm) = some (0, t0 gm) := in_no (hi := 5) (by omega) q
    have b0 : ¬ a = 0 := fun e => by subst e; exact absurd q (by decide)
    have b1 : ¬ a = 1 := fun e => by subst e; exact absurd q (by decide)
    have b2 : ¬ a = 2 := fun e => by subst e; exact absurd q (by decide)
    have b3 : ¬ a = 3 := fun e => by subst e; exact absurd q (by decide)
    have b4 : ¬ a = 4 := fun e => by subst e; exact absurd q (by decide)
    have b5 : ¬ a = 5 := fun e => by subst e; exact absurd q (by decide)
    simp only [bd2_some, hb, if_neg b0, if_neg b1, if_neg b2, if_neg b3, if_neg b4, if_neg b5, one_ne0, if_false, if_true]
    exact ⟨_, rfl, rfl⟩
