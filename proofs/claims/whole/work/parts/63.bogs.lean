/-! ===== bogs that are copied ===== -/
theorem BR.copy {x m x' m' : Nat → Nat → Int32} {b b1 r r' f f' Q : Nat} (h : BR x m b r f Q) (hQ : Q ≤ 8) (h0 : ∀ c, c < 6 → x' (6 * b1) c = x (6 * b) c) (h1 : ∀ c, c < 6 → x' (6 * b1 + 1) c = x (6 * b + 1) c) (h2 : ∀ q, q < 8 → x' (6 * b1 + 2) q = x (6 * b + 2) q) (h3 : ∀ q, q < 8 → x' (6 * b1 + 3) q = x (6 * b + 3) q) (h4 : ∀ q, q < 8 → x' (6 * b1 + 4) q = x (6 * b + 4) q) (h5 : x' (6 * b1 + 5) 0 = x (6 * b + 5) 0) (h87 : x' 87 = x 87) (hm : ∀ j, j < 37 → m' r' (f' + j) = m r (f + j)) : BR x' m' b1 r' f' Q := by
  obtain ⟨⟨y, y1, y2, y3⟩, hc, hq⟩ := h
  refine ⟨⟨y, y1, by rw [h5]; exact y2, by rw [hm 0 (by omega)]; exact y3⟩, fun c hc1 => ?_, fun q hq1 => ?_⟩
  · rw [hm (1 + c) (by omega), hm (7 + c) (by omega), h0 c hc1, h1 c hc1]
    exact hc c hc1
  · rw [hm (13 + q) (by omega), hm (21 + q) (by omega), hm (29 + q) (by omega), h2 q (by omega), h3 q (by omega), h4 q (by omega), h87]
    exact hq q hq1
theorem B0.br {x m : Nat → Nat → Int32} {Q : Nat} (h : B0 x m Q) : BR x m 0 21 0 Q := by
  obtain ⟨⟨y, y1, y2, y3⟩, hc, hq⟩ := h
  refine ⟨⟨y, y1, y2, y3⟩, fun c hc1 => ?_, fun q hq1 => ?_⟩
  · simpa only [Nat.zero_add, Nat.mul_zero] using hc c hc1
  · simpa only [Nat.zero_add, Nat.mul_zero] using hq q hq1
theorem BR.b0 {x m : Nat → Nat → Int32} {Q : Nat} (h : BR x m 0 21 0 Q) : B0 x m Q := by
  obtain ⟨⟨y, y1, y2, y3⟩, hc, hq⟩ := h
  refine ⟨⟨y, y1, y2, y3⟩, fun c hc1 => ?_, fun q hq1 => ?_⟩
  · simpa only [Nat.zero_add, Nat.mul_zero] using hc c hc1
  · simpa only [Nat.zero_add, Nat.mul_zero] using hq q hq1
/-- the class's copy -/
theorem become_x {g : Sg} {b1 b2 : Nat} (hb : b1 ≠ b2) : ∃ g', f0_become b1 b2 g = some g' ∧ (∀ i, i < 6 * b1 ∨ 6 * b1 + 5 < i → g'.1 i = g.1 i) ∧ g'.2 = g.2 ∧ (∀ c, c < 6 → g'.1 (6 * b1) c = g.1 (6 * b2) c) ∧ (∀ c, c < 6 → g'.1 (6 * b1 + 1) c = g.1 (6 * b2 + 1) c) ∧ (∀ q, q < 8 → g'.1 (6 * b1 + 2) q = g.1 (6 * b2 + 2) q) ∧ (∀ q, q < 8 → g'.1 (6 * b1 + 3) q = g.1 (6 * b2 + 3) q) ∧ (∀ q, q < 8 → g'.1 (6 * b1 + 4) q = g.1 (6 * b2 + 4) q) ∧ g'.1 (6 * b1 + 5) 0 = g.1 (6 * b2 + 5) 0 := by
  unfold f0_become
  rw [nx_eq, nx_eq, nx_eq, nx_eq, nx_eq, nx_eq]
  refine ⟨_, rfl, fun i hi => ?_, rfl, fun c hc => ?_, fun c hc => ?_, fun q hq => ?_, fun q hq => ?_, fun q hq => ?_, ?_⟩
  · rw [pu_ne (by omega), pr_ne (by omega), pr_ne (by omega), pr_ne (by omega), pr_ne (by omega), pr_ne (by omega)]
  · rw [pu_ne (by omega), pr_ne (by omega), pr_ne (by omega), pr_ne (by omega), pr_ne (by omega), pr_eq, cpy0 hc]
  · rw [pu_ne (by omega), pr_ne (by omega), pr_ne (by omega), pr_ne (by omega), pr_eq, cpy0 hc, pr_ne (by omega)]
  · rw [pu_ne (by omega), pr_ne (by omega), pr_ne (by omega), pr_eq, cpy0 hq, pr_ne (by omega), pr_ne (by omega)]
  · rw [pu_ne (by omega), pr_ne (by omega), pr_eq, cpy0 hq, pr_ne (by omega), pr_ne (by omega), pr_ne (by omega)]
  · rw [pu_ne (by omega), pr_eq, cpy0 hq, pr_ne (by omega), pr_ne (by omega), pr_ne (by omega), pr_ne (by omega)]
  · rw [pu_eq, up_eq, pr_ne (by omega), pr_ne (by omega), pr_ne (by omega), pr_ne (by omega), pr_ne (by omega)]
/-- the reference's -/
theorem note_m {u : Nat} (hu : u < 10) : ∀ (n k f : Nat) (g : Sg), k + n = 37 → n < f → g.1 0 25 = nI u → ∃ g', f6_notes_b47 f (nI k) g = some g' ∧ (∀ i, i ≠ 0 → i ≠ 24 → g'.1 i = g.1 i) ∧ (∀ j, j ≠ 25 → g'.1 0 j = g.1 0 j) ∧ g'.1 0 25 = nI (u + 1) ∧ g'.2 = g.2 ∧ (∀ j, k ≤ j → j < 37 → g'.1 24 (37 * u + j) = g.1 21 j) ∧ (∀ j, (j < 37 * u + k ∨ 37 * u + 37 ≤ j) → g'.1 24 j = g.1 24 j)
  | 0, k, f + 1, g, hk, _, hg => by
    obtain rfl : k = 37 := by omega
    unfold f6_notes_b47
    rw [if_pos (show (37 : Int32) ≤ nI 37 from by decide), hg, nI_1, nx_eq]
    refine ⟨_, rfl, fun i h1 h2 => ?_, fun j hj => ?_, ?_, rfl, fun j h1 h2 => by omega, fun j hj => ?_⟩
    · rw [pu_ne h1]
    · rw [pu_eq, up_ne hj]
    · rw [pu_eq, up_eq]
    · rw [pu_ne (by omega)]
  | n + 1, k, f + 1, g, hk, hf, hg => by
    obtain ⟨g', e1, e2, e3, e4, e5, e6, e7⟩ := note_m hu n (k + 1) f (pu g 24 (37 * u + k) (g.1 21 k)) (by omega) (by omega) (by rw [pu_ne (by omega)]; exact hg)
    unfold f6_notes_b47
    simp (disch := omega) only [ix_ok, cl, lit_add, add_lit, lit_mul, mul_lit, nI_add, sub_lit, le_nn, lt_nn, eq_nn, le_ln, lt_ln, le_nl, lt_nl, eq_nl, eq_ln, ne_m9, ne_m1, bd_some, bd2_some, ↓nx_eq, rz0, rz1, one_ne0, ↓reduceIte, if_pos, if_neg, hg]
    refine ⟨g', e1, fun i h1 h2 => ?_, fun j hj => ?_, e4, e5, fun j h1 h2 => ?_, fun j hj => ?_⟩
    · rw [e2 i h1 h2, pu_ne h2]
    · rw [e3 j hj, pu_ne (by omega)]
    · by_cases e : j = k
      · subst e
        rw [e7 _ (by omega), pu_eq, up_eq]
      · rw [e6 j (by omega) h2, pu_ne (by omega)]
    · rw [e7 j (by omega), pu_eq, up_ne (by omega)]
theorem shift_m : ∀ (n k f : Nat) (g : Sg), k + n = 333 → n < f → ∃ g', f6_notes_b11 f (nI k) g = f6_notes_b45 g' ∧ (∀ i, i ≠ 0 → i ≠ 24 → g'.1 i = g.1 i) ∧ (∀ j, j ≠ 25 → g'.1 0 j = g.1 0 j) ∧ g'.1 0 25 = 9 ∧ g'.2 = g.2 ∧ (∀ j, k ≤ j → j < 333 → g'.1 24 j = g.1 24 (j + 37)) ∧ (∀ j, j < k → g'.1 24 j = g.1 24 j)
  | 0, k, f + 1, g, hk, _ => by
    obtain rfl : k = 333 := by omega
    unfold f6_notes_b11
    rw [if_pos (show (333 : Int32) ≤ nI 333 from nI_le (a := 333) (Nat.le_refl _) (by omega)), nx_eq]
    refine ⟨_, rfl, fun i h1 h2 => ?_, fun j hj => ?_, ?_, rfl, fun j h1 h2 => by omega, fun j hj => ?_⟩
    · rw [pu_ne h1]
    · rw [pu_eq, up_ne hj]
    · rw [pu_eq, up_eq]
    · rw [pu_ne (by omega)]
  | n + 1, k, f + 1, g, hk, hf => by
    obtain ⟨g', e1, e2, e3, e4, e5, e6, e7⟩ := shift_m n (k + 1) f (pu g 24 k (g.1 24 (k + 37))) (by omega) (by omega)
    unfold f6_notes_b11
    rw [if_neg (show ¬ (333 : Int32) ≤ nI k from nI_ge (b := 333) (by omega) (by omega)), show nI k + 37 = nI (k + 37) from nI_add k 37, ix_ok (by omega) (by omega), ix_ok (by omega) (by omega), cl (by omega), cl (by omega), nx_eq, nI_1, nx_eq]
    refine ⟨g', e1, fun i h1 h2 => ?_, fun j hj => ?_, e4, e5, fun j h1 h2 => ?_, fun j hj => ?_⟩
    · rw [e2 i h1 h2, pu_ne h2]
    · rw [e3 j hj, pu_ne (by omega)]
    · by_cases e : j = k
      · subst e
        rw [e7 _ (by omega), pu_eq, up_eq]
      · rw [e6 j (by omega) h2, pu_eq, up_ne (by omega)]
    · rw [e7 j (by omega), pu_eq, up_ne (by omega)]
theorem notesM {g : Sg} {n : Nat} (hn : n ≤ 10) (hg : g.1 0 25 = nI n) : ∃ g', f6_notes g = some g' ∧ (∀ i, i ≠ 0 → i ≠ 24 → g'.1 i = g.1 i) ∧ (∀ j, j ≠ 25 → g'.1 0 j = g.1 0 j) ∧ g'.2 = g.2 ∧ ((n < 10 ∧ g'.1 0 25 = nI (n + 1) ∧ (∀ j, j < 37 → g'.1 24 (37 * n + j) = g.1 21 j) ∧ (∀ j, j < 37 * n → g'.1 24 j = g.1 24 j)) ∨ (n = 10 ∧ g'.1 0 25 = nI 10 ∧ (∀ j, j < 37 → g'.1 24 (37 * 9 + j) = g.1 21 j) ∧ (∀ j, j < 37 * 9 → g'.1 24 j = g.1 24 (j + 37)))) := by
  unfold f6_notes
  rw [hg]
  by_cases h10 : n = 10
  · subst h10
    obtain ⟨g1, e1, e2, e3, e4, e5, e6, -⟩ := shift_m 333 0 1000 g (by omega) (by omega)
    obtain ⟨g2, d1, d2, d3, d4, d5, d6, d7⟩ := note_m (u := 9) (by omega) 37 0 1000 g1 (by omega) (by omega) (e4.trans (show (9 : Int32) = nI 9 from rfl))
    rw [if_pos (show nI 10 = (10 : Int32) from rfl), show f6_notes_b11 1000 0 g = f6_notes_b11 1000 (nI 0) g from rfl, e1]
    refine ⟨g2, d1, fun i h1 h2 => (d2 i h1 h2).trans (e2 i h1 h2), fun j hj => (d3 j hj).trans (e3 j hj), d5.trans e5, Or.inr ⟨rfl, d4, fun j hj => ?_, fun j hj => ?_⟩⟩
    · rw [d6 j (by omega) hj, e2 21 (by omega) (by omega)]
    · rw [d7 j (by omega), e6 j (by omega) (by omega)]
  · obtain ⟨g2, d1, d2, d3, d4, d5, d6, d7⟩ := note_m (u := n) (by omega) 37 0 1000 g (by omega) (by omega) hg
    rw [if_neg (show ¬ nI n = (10 : Int32) from fun z => h10 ((nI_eq (b := 10) (by omega) (by omega)).1 z))]
    refine ⟨g2, d1, d2, d3, d5, Or.inl ⟨by omega, d4, fun j hj => d6 j (by omega) hj, fun j hj => d7 j (by omega)⟩⟩
/-- both write the bog down -/
theorem rem_ok {gx gm : Sg} {P Q A S : Nat} (h : RelX gx.1 gm.1 P Q A S) : ∃ gx' gm', f1_remember gx = some gx' ∧ f6_notes gm = some gm' ∧ RelX gx'.1 gm'.1 P Q A S ∧ gx'.2 = gx.2 ∧ gm'.2 = gm.2 ∧ (∀ i, i < 18 ∨ (77 < i ∧ i ≠ 123) → gx'.1 i = gx.1 i) ∧ (∀ i, i ≠ 0 → i ≠ 24 → gm'.1 i = gm.1 i) := by
  obtain ⟨a1, a2, a3, a4, a5, a6⟩ := h
  have hQ : Q ≤ 8 := a1.2.1.2.2
  obtain ⟨n, z, hn, hz, x1, m1, x0, hb⟩ := a3
  obtain ⟨gm', d1, d2, d3, d4, d5⟩ := notesM hn m1
  obtain ⟨g1, e1, e2, e3, e4, e5, e6, e7, e8, e9⟩ := become_x (g := gx) (b1 := z + 3) (b2 := 0) (by omega)
  -- the class's end
  have ex : f1_remember gx = some (pu (pu g1 123 0 (nI ((z + 1) % 10))) 123 1 (nI (min (n + 1) 10))) := by
    have q1 : g1.1 123 1 = nI n := by rw [e2 123 (by omega)]; exact x1
    have q0 : g1.1 123 0 = nI z := by rw [e2 123 (by omega)]; exact x0
    have en : (if (pu g1 123 0 (nI ((z + 1) % 10))).1 123 1 + 1 < (10 : Int32) then (pu g1 123 0 (nI ((z + 1) % 10))).1 123 1 + 1 else (10 : Int32)) = nI (min (n + 1) 10) := by
      rw [pu_eq, up_ne (by omega), q1, nI_1]
      by_cases l : n + 1 < 10
      · rw [if_pos (show nI (n + 1) < (10 : Int32) from nI_lt (b := 10) l (by omega)), Nat.min_eq_left (by omega)]
      · rw [if_neg (show ¬ nI (n + 1) < (10 : Int32) from nI_nlt (b := 10) (by omega) (by omega)), Nat.min_eq_right (by omega)]
        rfl
    unfold f1_remember f1_remember_b63
    rw [x0, if_neg (nI_pos (by omega)), if_neg (show ¬ (10 : Int32) ≤ nI z from nI_ge (b := 10) hz (by omega)), ix_ok hz (by omega), ix_ok hz (by omega), cl (by omega), e1, bd_some, q0, nI_1]
    by_cases l : z + 1 < 10
    · rw [if_neg (show ¬ (10 : Int32) ≤ nI (z + 1) from nI_ge (b := 10) l (by omega)), nx_eq, nx_eq]
      rw [Nat.mod_eq_of_lt l] at en ⊢
      rw [en]
    · obtain rfl : z = 9 := by omega
      rw [if_pos (show (10 : Int32) ≤ nI (9 + 1) from by decide), nx_eq, nx_eq]
      exact congrArg (fun v => some (pu (pu g1 123 0 0) 123 1 v)) en
  have fx : ∀ i, i < 18 ∨ (77 < i ∧ i ≠ 123) → (pu (pu g1 123 0 (nI ((z + 1) % 10))) 123 1 (nI (min (n + 1) 10))).1 i = gx.1 i := fun i hi => by
    rw [pu_ne (by omega), pu_ne (by omega), e2 i (by omega)]
  have f2 : ∀ i, i ≠ 123 → (pu (pu g1 123 0 (nI ((z + 1) % 10))) 123 1 (nI (min (n + 1) 10))).1 i = g1.1 i := fun i hi => by
    rw [pu_ne hi, pu_ne hi]
  refine ⟨_, gm', ex, d1, ⟨a1.cong (fun i i1 i2 => fx i (by omega)) (fun i j hl => by rw [d2 i (by unfold lowp at hl; omega) (by unfold lowp at hl; omega)]), a2.cong (fun i i1 => fx i (by omega)) (fx 87 (by omega)) (d2 21 (by omega) (by omega)), ?_, a4.cong hQ (fun i i1 i2 => fx i (by omega)) (fx 87 (by omega)) (fx 133 (by omega)) (d2 22 (by omega) (by omega)) (d2 23 (by omega) (by omega)), a5.cong (fx 130 (by omega)) (fx 134 (by omega)) (d2 26 (by omega) (by omega)) (d3 27 (by omega)), a6.cong (fx 120 (by omega)) (by rw [fx 121 (by omega)]) (d2 2 (by omega) (by omega)) (d3 3 (by omega))⟩, e3, d4, fx, d2⟩
  have new : ∀ j, (∀ k, k < 37 → gm'.1 24 (37 * j + k) = gm.1 21 k) → BR (pu (pu g1 123 0 (nI ((z + 1) % 10))) 123 1 (nI (min (n + 1) 10))).1 gm'.1 (z + 3) 24 (37 * j) Q := fun j hj => by
    refine a2.br.copy hQ (fun c hc => ?_) (fun c hc => ?_) (fun c hc => ?_) (fun c hc => ?_) (fun c hc => ?_) ?_ ?_ (fun k hk => ?_)
    · rw [f2 _ (by omega)]; exact e4 c hc
    · rw [f2 _ (by omega)]; exact e5 c hc
    · rw [f2 _ (by omega)]; exact e6 c hc
    · rw [f2 _ (by omega)]; exact e7 c hc
    · rw [f2 _ (by omega)]; exact e8 c hc
    · rw [f2 _ (by omega)]; exact e9
    · exact fx 87 (by omega)
    · rw [hj k hk, Nat.zero_add]
  have old : ∀ j j', j < n → (z + 10 - n + j) % 10 ≠ z → (∀ k, k < 37 → gm'.1 24 (37 * j' + k) = gm.1 24 (37 * j + k)) → BR (pu (pu g1 123 0 (nI ((z + 1) % 10))) 123 1 (nI (min (n + 1) 10))).1 gm'.1 ((z + 10 - n + j) % 10 + 3) 24 (37 * j') Q := fun j j' hj hne hm => by
    have fr : ∀ d, d ≤ 5 → (pu (pu g1 123 0 (nI ((z + 1) % 10))) 123 1 (nI (min (n + 1) 10))).1 (6 * ((z + 10 - n + j) % 10 + 3) + d) = gx.1 (6 * ((z + 10 - n + j) % 10 + 3) + d) := fun d hd => by
      rw [f2 _ (by omega), e2 _ (by omega)]
    exact (hb j hj).copy hQ (fun c _ => congrFun (fr 0 (by omega)) c) (fun c _ => congrFun (fr 1 (by omega)) c) (fun c _ => congrFun (fr 2 (by omega)) c) (fun c _ => congrFun (fr 3 (by omega)) c) (fun c _ => congrFun (fr 4 (by omega)) c) (congrFun (fr 5 (by omega)) 0) (fx 87 (by omega)) hm
  rcases d5 with ⟨n9, k1, k2, k3⟩ | ⟨n10, k1, k2, k3⟩
  · refine ⟨n + 1, (z + 1) % 10, by omega, by omega, ?_, k1, ?_, fun j hj => ?_⟩
    · rw [pu_eq, up_eq, Nat.min_eq_left (by omega)]
    · rw [pu_eq, up_ne (by omega), pu_eq, up_eq]
    · rw [show ((z + 1) % 10 + 10 - (n + 1) + j) % 10 = (z + 10 - n + j) % 10 by omega]
      by_cases e : j = n
      · subst e
        rw [show (z + 10 - j + j) % 10 = z by omega]
        exact new j k2
      · exact old j j (by omega) (by omega) (fun k hk => k3 _ (by omega))
  · subst n10
    refine ⟨10, (z + 1) % 10, by omega, by omega, ?_, k1, ?_, fun j hj => ?_⟩
    · rw [pu_eq, up_eq]
      rfl
    · rw [pu_eq, up_ne (by omega), pu_eq, up_eq]
    · by_cases e : j = 9
      · subst e
        rw [show ((z + 1) % 10 + 10 - 10 + 9) % 10 = z by omega]
        exact new 9 k2
      · rw [show ((z + 1) % 10 + 10 - 10 + j) % 10 = (z + 10 - 10 + (j + 1)) % 10 by omega]
        exact old (j + 1) j (by omega) (by omega) (fun k hk => by rw [k3 _ (by omega), show 37 * j + k + 37 = 37 * (j + 1) + k by omega])
