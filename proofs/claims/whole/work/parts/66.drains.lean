/-! ===== drains, year ===== -/
theorem drains_go {P Q A S c : Nat} {V : Int32} (hc : c < 6) : ∀ (n k f1 f2 : Nat) (gx gm : Sg), k + n = 8 → 9 - k < f1 → 9 - k < f2 → RelX gx.1 gm.1 P Q A S → ∃ r' gx' gm', f5_drains_b49 f1 (nI c) V (nI k) gx = some (r', gx') ∧ f6_drains_b55 f2 (nI c) V (nI (min k Q)) gm = some (r', gm') ∧ RelX gx'.1 gm'.1 P Q A S ∧ gx'.2 = gx.2 ∧ gm'.2 = gm.2
  | 0, k, f1 + 1, f2 + 1, gx, gm, hk, _, _, h => by
    obtain rfl : k = 8 := by omega
    obtain ⟨hx, hm, hQ⟩ := h.Q_
    rw [Nat.min_eq_right hQ]
    refine ⟨V, gx, gm, ?_, ?_, h, rfl, rfl⟩
    · unfold f5_drains_b49
      simp (disch := omega) only [ix_ok, cl, lit_add, add_lit, lit_mul, mul_lit, nI_add, sub_lit, le_nn, lt_nn, eq_nn, le_ln, lt_ln, le_nl, lt_nl, eq_nl, eq_ln, ne_m9, ne_m1, bd_some, bd2_some, ↓nx_eq, rz0, rz1, one_ne0, ↓reduceIte, if_pos, if_neg]
    · unfold f6_drains_b55
      simp (disch := omega) only [ix_ok, cl, lit_add, add_lit, lit_mul, mul_lit, nI_add, sub_lit, le_nn, lt_nn, eq_nn, le_ln, lt_ln, le_nl, lt_nl, eq_nl, eq_ln, ne_m9, ne_m1, bd_some, bd2_some, ↓nx_eq, rz0, rz1, one_ne0, ↓reduceIte, if_pos, if_neg, hm]
  | n + 1, k, f1 + 1, f2 + 1, gx, gm, hk, h1, h2, h => by
    obtain ⟨hx, hm, hQ⟩ := h.Q_
    by_cases hq : k < Q
    · rw [Nat.min_eq_left (by omega)]
      have nxt : ∀ (gx gm : Sg), RelX gx.1 gm.1 P Q A S → ∃ r' gx' gm', f5_drains_b49 f1 (nI c) V (nI (k + 1)) gx = some (r', gx') ∧ f6_drains_b55 f2 (nI c) V (nI (k + 1)) gm = some (r', gm') ∧ RelX gx'.1 gm'.1 P Q A S ∧ gx'.2 = gx.2 ∧ gm'.2 = gm.2 := fun gx gm h => by
        have := drains_go (V := V) hc n (k + 1) f1 f2 gx gm (by omega) (by omega) (by omega) h
        rw [Nat.min_eq_left (by omega)] at this
        exact this
      obtain ⟨e1, v, v9, e2⟩ := h.dri hq
      have hs := setLy_lt (x := gx.1) (c := nI c) hQ
      have same : pu gm 21 (29 + k) (nI v) = gm := by
        have := pu_same (g := gm) (i := 21) (j := 29 + k)
        rw [e1, e2] at this
        exact this
      unfold f5_drains_b49 f6_drains_b55
      rw [if_neg (show ¬ (8 : Int32) ≤ nI k from nI_ge (b := 8) (by omega) (by omega)), hm, if_neg (nI_ge hq (by omega)), lyInM h, bd2_some, show (29 : Int32) + nI k = nI (29 + k) from nI_add 29 k, ix_ok (show 29 + k < 37 by omega) (by omega), ix_ok (show 29 + k < 37 by omega) (by omega), cl (show 29 + k < 2147483648 by omega), e1, e2]
      unfold f5_drains_b89 f6_drains_b106 f6_drains_b107
      rw [Int32.add_zero, cl (show 29 + k < 2147483648 by omega), nI_1, nI_1, same]
      by_cases ly : k < Q ∧ gx.1 2 k = 0 ∧ gx.1 83 k = nI c
      · have tb : (setLy gx.1 (nI c) Q).testBit k = true := setLy_bit.trans (decide_eq_true ly)
        rw [liesIn_y hx hQ hq ly.2.1 ly.2.2, bd2_some, if_neg one_ne0.mp, ix_ok (show k < 8 by omega) (by omega), ix_ok (show k < 8 by omega) (by omega), cl (show k < 2147483648 by omega), e2, nI_1, nx_eq, nx_eq, if_pos ((tb_N _ hs k (by omega)).2 tb)]
        by_cases l9 : 9 ≤ v
        · obtain rfl : v = 9 := by omega
          have h' := h.pu (v := nI 9) (v' := nI 9) (by omega) (h.b0.dri hQ (show k < 8 by omega) (by omega))
          rw [same] at h'
          obtain ⟨r', gx', gm', c1, c2, c3, c4, c5⟩ := nxt _ _ h'
          refine ⟨r', gx', gm', ?_, ?_, c3, c4, c5⟩
          · rw [if_neg (show ¬ nI (9 + 1) < (9 : Int32) by decide), show (9 : Int32) = nI 9 from rfl]
            exact c1
          · rw [if_pos (show (9 : Int32) ≤ nI 9 by decide), nx_eq, nx_eq, ix_ok (show 29 + k < 37 by omega) (by omega)]
            exact c2
        · have h' := h.pu (v := nI (v + 1)) (v' := nI (v + 1)) (by omega) (h.b0.dri hQ (show k < 8 by omega) (by omega))
          obtain ⟨r', gx', gm', c1, c2, c3, c4, c5⟩ := nxt _ _ h'
          refine ⟨r', gx', gm', ?_, ?_, c3, c4, c5⟩
          · have q : (if nI (v + 1) < (9 : Int32) then nI (v + 1) else 9) = nI (v + 1) := by
              by_cases l : v + 1 < 9
              · rw [if_pos (show nI (v + 1) < (9 : Int32) from nI_lt (b := 9) l (by omega))]
              · obtain rfl : v = 8 := by omega
                rfl
            rw [q]
            exact c1
          · rw [if_neg (show ¬ (9 : Int32) ≤ nI v from nI_ge (b := 9) (by omega) (by omega)), nx_eq, nx_eq, ix_ok (show 29 + k < 37 by omega) (by omega)]
            exact c2
      · have tb : (setLy gx.1 (nI c) Q).testBit k = false := setLy_bit.trans (decide_eq_false ly)
        obtain ⟨r', gx', gm', c1, c2, c3, c4, c5⟩ := nxt gx gm h
        refine ⟨r', gx', gm', ?_, ?_, c3, c4, c5⟩
        · rw [liesIn_n hx hQ (by omega) ly, bd2_some, if_pos rfl, nx_eq]
          exact c1
        · rw [if_neg (fun z => by rw [(tb_N _ hs k (by omega)).1 z] at tb; exact absurd tb (by decide)), nx_eq, nx_eq, ix_ok (show 29 + k < 37 by omega) (by omega)]
          exact c2
    · obtain ⟨r', gx', gm', c1, c2, c3, c4, c5⟩ := drains_go (V := V) hc n (k + 1) f1 (f2 + 1) gx gm (by omega) (by omega) (by omega) h
      rw [show min (k + 1) Q = min k Q by omega] at c2
      refine ⟨r', gx', gm', ?_, c2, c3, c4, c5⟩
      unfold f5_drains_b49 f5_drains_b89
      rw [if_neg (show ¬ (8 : Int32) ≤ nI k from nI_ge (b := 8) (by omega) (by omega)), liesIn_n hx hQ (by omega) (fun z => hq z.1), bd2_some, if_pos rfl, nI_1, nx_eq]
      exact c1
theorem s_drains (a : Int32) : St Rel (f5_drains a) (f6_drains a) := by
  intro gx gm hr
  obtain ⟨⟨P, Q, A, S, h⟩, h2⟩ := id hr.t
  obtain ⟨hx, hm, hQ⟩ := h.Q_
  unfold f5_drains f6_drains
  rcases tri a (n := 6) (by omega) with ⟨k, hk, rfl⟩ | hn
  · rw [(cell_y (g := gx) hk).1, bd2_some, if_neg one_ne0.mp, ix_ok hk (by omega), cl (by omega), nx_eq (v := pu gm 0 0 0), (cell_y (g := t0 gm) hk).2, bd2_some, if_neg one_ne0.mp, show (7 : Int32) + nI k = nI (7 + k) from nI_add 7 k, ix_ok (show 7 + k < 37 by omega) (by omega), cl (show 7 + k < 2147483648 by omega)]
    obtain ⟨e1, d, d6, e2⟩ := h.wet hk
    rw [e1, e2, nx_eq]
    by_cases l : d = 0
    · subst l
      exact ⟨-2, gx, t0 gm, rfl, rfl, hr.t⟩
    · obtain ⟨gx1, gm1, r1, r2, r3, r4, r5, r6, r7⟩ := rem_ok h
      have h' := r3.pu (v := nI 0) (v' := nI 0) (by omega) (r3.b0.wet hQ hk (by omega))
      have e3 : gm1.1 21 (7 + k) = nI d := by rw [r7 21 (by omega) (by omega), e1, e2]
      obtain ⟨r', gx', gm', c1, c2, c3, c4, c5⟩ := drains_go (V := nI d) hk 8 0 1000 1000 _ _ (by omega) (by omega) (by omega) h'
      rw [Nat.zero_min] at c2
      refine ⟨r', gx', gm', ?_, ?_, ⟨P, Q, A, S, c3⟩, c4.trans (r4.trans (h2.trans (r5.symm.trans c5.symm)))⟩
      · rw [if_neg (nI_ne0 (by omega) (by omega)), r1, bd_some, ix_ok hk (by omega), nx_eq]
        exact c1
      · rw [if_neg (nI_ne0 (by omega) (by omega)), r2, bd_some, ix_ok (show 7 + k < 37 by omega) (by omega), e3, nx_eq, ix_ok (show 7 + k < 37 by omega) (by omega), nx_eq]
        exact c2
  · rw [(cell_n (g := gx) hn).1, bd2_some, if_pos rfl, nx_eq (v := pu gm 0 0 0), (cell_n (g := t0 gm) hn).2, bd2_some, if_pos rfl]
    exact ⟨_, _, _, rfl, rfl, hr.t⟩
/-! year -/
def YI (x0 m0 x m : Nat → Nat → Int32) (Q : Nat) : Prop := (∀ q, q < Q → m 21 (13 + q) = x 2 q ∧ In 3 (x 2 q)) ∧ (∀ i, i ≠ 2 → x i = x0 i) ∧ (∀ i, i ≠ 21 → m i = m0 i) ∧ ∀ j, (j < 13 ∨ 21 ≤ j) → m 21 j = m0 21 j
theorem year_go {x0 m0 : Nat → Nat → Int32} {Q s y : Nat} (hQ : Q ≤ 8) (hs : s < 256) (hx : x0 90 1 = nI Q) (hm : m0 9 1 = nI Q) (hc : ∀ q, q < Q → m0 14 q = x0 83 q ∧ ∃ k, k ≤ 5 ∧ x0 83 q = nI k) (hy : m0 21 0 = nI y) : ∀ (n k f1 f2 r : Nat) (gx gm : Sg), k + n = 8 → 9 - k < f1 → 9 - k < f2 → YI x0 m0 gx.1 gm.1 Q → ∃ r' gx' gm', f5_year_b56 f1 (nI s) (nI r) (nI k) gx = some (r', gx') ∧ f6_year_b66 f2 (nI s) (nI r) (nI (min k Q)) gm = some (r', pu gm' 21 0 (nI (y + 1))) ∧ YI x0 m0 gx'.1 gm'.1 Q ∧ gx'.2 = gx.2 ∧ gm'.2 = gm.2
  | 0, k, f1 + 1, f2 + 1, r, gx, gm, hk, _, _, h => by
    obtain rfl : k = 8 := by omega
    have hm' : gm.1 9 1 = nI Q := by rw [h.2.2.1 9 (by omega)]; exact hm
    have hy' : gm.1 21 0 = nI y := by rw [h.2.2.2 0 (by omega)]; exact hy
    rw [Nat.min_eq_right hQ]
    refine ⟨nI r, gx, gm, ?_, ?_, h, rfl, rfl⟩
    · unfold f5_year_b56
      simp (disch := omega) only [ix_ok, cl, lit_add, add_lit, lit_mul, mul_lit, nI_add, sub_lit, le_nn, lt_nn, eq_nn, le_ln, lt_ln, le_nl, lt_nl, eq_nl, eq_ln, ne_m9, ne_m1, bd_some, bd2_some, ↓nx_eq, rz0, rz1, one_ne0, ↓reduceIte, if_pos, if_neg]
    · unfold f6_year_b66
      simp (disch := omega) only [ix_ok, cl, lit_add, add_lit, lit_mul, mul_lit, nI_add, sub_lit, le_nn, lt_nn, eq_nn, le_ln, lt_ln, le_nl, lt_nl, eq_nl, eq_ln, ne_m9, ne_m1, bd_some, bd2_some, ↓nx_eq, rz0, rz1, one_ne0, ↓reduceIte, if_pos, if_neg, hm', hy']
  | n + 1, k, f1 + 1, f2 + 1, r, gx, gm, hk, h1, h2, h => by
    have hx' : gx.1 90 1 = nI Q := by rw [h.2.1 90 (by omega)]; exact hx
    have hm' : gm.1 9 1 = nI Q := by rw [h.2.2.1 9 (by omega)]; exact hm
    by_cases hq : k < Q
    · rw [Nat.min_eq_left (by omega)]
      have nxt : ∀ (r : Nat) (gx gm : Sg), YI x0 m0 gx.1 gm.1 Q → ∃ r' gx' gm', f5_year_b56 f1 (nI s) (nI r) (nI (k + 1)) gx = some (r', gx') ∧ f6_year_b66 f2 (nI s) (nI r) (nI (k + 1)) gm = some (r', pu gm' 21 0 (nI (y + 1))) ∧ YI x0 m0 gx'.1 gm'.1 Q ∧ gx'.2 = gx.2 ∧ gm'.2 = gm.2 := fun r gx gm h => by
        have := year_go hQ hs hx hm hc hy n (k + 1) f1 f2 r gx gm (by omega) (by omega) (by omega) h
        rw [Nat.min_eq_left (by omega)] at this
        exact this
      obtain ⟨e1, e2⟩ := h.1 k hq
      obtain ⟨c1, c, c5, c2⟩ := hc k hq
      have cx : gx.1 83 k = nI c := by rw [h.2.1 83 (by omega)]; exact c2
      have cm : gm.1 14 k = nI c := by rw [h.2.2.1 14 (by omega), c1]; exact c2
      have same : pu gm 21 (13 + k) (gx.1 2 k) = gm := by
        have := pu_same (g := gm) (i := 21) (j := 13 + k)
        rw [e1] at this
        exact this
      obtain ⟨r1, gx1, gm1, d1, d2, d3, d4, d5⟩ := nxt r gx gm h
      -- what the reference does when the promise stays
      have stays : f6_year_b106 (f6_year_b66 f2) (nI s) (nI r) (nI k) gm = some (r1, pu gm1 21 0 (nI (y + 1))) := by
        unfold f6_year_b106 f6_year_b107 f6_year_b135 f6_year_b147
        rw [if_pos rfl, show (13 : Int32) + nI k = nI (13 + k) from nI_add 13 k, ix_ok (show 13 + k < 37 by omega) (by omega), ix_ok (show 13 + k < 37 by omega) (by omega), cl (show 13 + k < 2147483648 by omega), e1, same, nx_eq, if_pos rfl, Int32.add_zero, nI_1, nx_eq, nx_eq]
        exact d2
      have stayx : f5_year_b100 (f5_year_b56 f1) (nI s) (nI r) (nI k) gx = some (r1, gx1) := by
        unfold f5_year_b100
        rw [nI_1, nx_eq]
        exact d1
      unfold f5_year_b56 f6_year_b66
      rw [if_neg (show ¬ (8 : Int32) ≤ nI k from nI_ge (b := 8) (by omega) (by omega)), hm', if_neg (nI_ge hq (by omega)), show (13 : Int32) + nI k = nI (13 + k) from nI_add 13 k, ix_ok (show 13 + k < 37 by omega) (by omega), cl (show 13 + k < 2147483648 by omega), e1]
      by_cases hi : gx.1 2 k = 0
      · rw [isNow_y hx' hQ hq hi, bd2_some, if_neg one_ne0.mp, ix_ok (show k < 8 by omega) (by omega), cl (show k < 2147483648 by omega), cx, if_pos hi, ix_ok (show k < 16 by omega) (by omega), cm]
        by_cases tb : s.testBit c = true
        · have h' : YI x0 m0 (pu gx 2 k (nI 3)).1 (pu gm 21 (13 + k) (nI 3)).1 Q := by
            refine ⟨fun q hq => ?_, fun i hi => ?_, fun i hi => ?_, fun j hj => ?_⟩
            · rw [pu_eq, pu_eq]
              by_cases e : q = k
              · subst e
                rw [up_eq, up_eq]
                exact ⟨rfl, 3, by omega, rfl⟩
              · rw [up_ne (by omega), up_ne e]
                exact h.1 q hq
            · rw [pu_ne hi]; exact h.2.1 i hi
            · rw [pu_ne hi]; exact h.2.2.1 i hi
            · rw [pu_eq, up_ne (by omega)]; exact h.2.2.2 j hj
          obtain ⟨r2, gx2, gm2, b1, b2, b3, b4, b5⟩ := nxt (r + 1) _ _ h'
          refine ⟨r2, gx2, gm2, ?_, ?_, b3, b4, b5⟩
          · rw [holds_y hs (by omega) tb, bd2_some, if_neg one_ne0.mp, ix_ok (show k < 8 by omega) (by omega), nx_eq, nI_1, nx_eq]
            unfold f5_year_b100
            rw [nI_1, nx_eq]
            exact b1
          · rw [if_pos ((tb_N s hs c (by omega)).2 tb)]
            unfold f6_year_b107 f6_year_b135 f6_year_b147
            rw [if_neg one_ne0.mp, show (13 : Int32) + nI k = nI (13 + k) from nI_add 13 k, ix_ok (show 13 + k < 37 by omega) (by omega), cl (show 13 + k < 2147483648 by omega), nx_eq, if_neg one_ne0.mp, nI_1, nI_1, nx_eq, nx_eq]
            exact b2
        · refine ⟨r1, gx1, gm1, ?_, ?_, d3, d4, d5⟩
          · rw [holds_n hs (by omega) (Bool.not_eq_true _ ▸ tb), bd2_some, if_pos rfl]
            exact stayx
          · rw [if_neg (fun z => tb ((tb_N s hs c (by omega)).1 z))]
            exact stays
      · refine ⟨r1, gx1, gm1, ?_, ?_, d3, d4, d5⟩
        · rw [isNow_n hx' hQ (by omega) (fun z => hi z.2), bd2_some, if_pos rfl]
          exact stayx
        · rw [if_neg hi]
          exact stays
    · obtain ⟨r', gx', gm', c1, c2, c3, c4, c5⟩ := year_go hQ hs hx hm hc hy n (k + 1) f1 (f2 + 1) r gx gm (by omega) (by omega) (by omega) h
      rw [show min (k + 1) Q = min k Q by omega] at c2
      refine ⟨r', gx', gm', ?_, c2, c3, c4, c5⟩
      unfold f5_year_b56 f5_year_b100
      rw [if_neg (show ¬ (8 : Int32) ≤ nI k from nI_ge (b := 8) (by omega) (by omega)), isNow_n hx' hQ (by omega) (fun z => hq z.1), bd2_some, if_pos rfl, nI_1, nx_eq]
      exact c1
theorem yearW_m {w : Nat → Nat} {X R : Int32} : ∀ (n k f : Nat) (g : Sg), k + n = 6 → n < f → W6 g 28 w → ∃ g', f6_year_b37 f X R (nI k) g = f6_year_b66 1000 X R 0 g' ∧ (∀ i, i ≠ 21 → g'.1 i = g.1 i) ∧ (∀ c, k ≤ c → c < 6 → g'.1 21 (7 + c) = nI (w c)) ∧ (∀ j, j < 7 + k ∨ 13 ≤ j → g'.1 21 j = g.1 21 j) ∧ g'.2 = g.2
  | 0, k, f + 1, g, hk, _, _ => by
    obtain rfl : k = 6 := by omega
    refine ⟨g, ?_, fun _ _ => rfl, fun c h1 h2 => by omega, fun _ _ => rfl, rfl⟩
    unfold f6_year_b37
    simp (disch := omega) only [ix_ok, cl, lit_add, add_lit, lit_mul, mul_lit, nI_add, sub_lit, le_nn, lt_nn, eq_nn, le_ln, lt_ln, le_nl, lt_nl, eq_nl, eq_ln, ne_m9, ne_m1, bd_some, bd2_some, ↓nx_eq, rz0, rz1, one_ne0, ↓reduceIte, if_pos, if_neg]
  | n + 1, k, f + 1, g, hk, hf, h => by
    have e := h k (by omega)
    obtain ⟨g', e1, e2, e3, e4, e5⟩ := yearW_m (X := X) (R := R) n (k + 1) f (pu g 21 (7 + k) (nI (w k))) (by omega) (by omega) (h.fr (pu_ne (by omega)))
    unfold f6_year_b37
    simp (disch := omega) only [ix_ok, cl, lit_add, add_lit, lit_mul, mul_lit, nI_add, sub_lit, le_nn, lt_nn, eq_nn, le_ln, lt_ln, le_nl, lt_nl, eq_nl, eq_ln, ne_m9, ne_m1, bd_some, bd2_some, ↓nx_eq, rz0, rz1, one_ne0, ↓reduceIte, if_pos, if_neg, e]
    refine ⟨g', e1, fun i hi => ?_, fun c h1 h2 => ?_, fun j hj => ?_, e5⟩
    · rw [e2 i hi, pu_ne hi]
    · by_cases q : c = k
      · subst q
        rw [e4 _ (by omega), pu_eq, up_eq]
      · exact e3 c (by omega) h2
    · rw [e4 j (by omega), pu_eq, up_ne (by omega)]
theorem s_year : St Rel (f5_year) (f6_year) := by
  intro gx gm hr
  obtain ⟨⟨P, Q, A, S, h⟩, h2⟩ := id hr.t
  obtain ⟨y, hy, y1, y2⟩ := h.yr
  unfold f5_year f6_year
  rw [y1, nx_eq (v := pu gm 0 0 0), y2]
  by_cases l : y = 999
  · subst l
    exact ⟨-2, gx, t0 gm, rfl, rfl, hr.t⟩
  · obtain ⟨gx1, gm1, r1, r2, r3, r4, r5, r6, r7⟩ := rem_ok h
    obtain ⟨w, w9, wx, wm⟩ := r3.wets
    obtain ⟨hx, hm, hQ⟩ := r3.Q_
    obtain ⟨sx, sm, -, hS⟩ := r3.S_
    have y1' : gx1.1 5 0 = nI y := by rw [r6 5 (by omega)]; exact y1
    have y2' : gm1.1 21 0 = nI y := by rw [r7 21 (by omega) (by omega)]; exact y2
    obtain ⟨gx2, a1, a2, a3⟩ := yearX (a := 1) (g := pu gx1 5 0 (nI (y + 1))) (by omega) (by rw [pu_ne (by omega)]; exact sx) hS (fun c _ => w9 c) (W6.fr (g := gx1) wx (pu_ne (by omega)))
    obtain ⟨gm2, b1, b2, b3⟩ := wetNowM wm
    obtain ⟨gm3, c1, c2, c3⟩ := yearM (by rw [b3.1 9 (by omega)]; exact sm) hS (fun c _ => w9 c) b2
    obtain ⟨gm4, d1, d2, d3, d4, d5⟩ := yearW_m (X := nI (ySet S w)) (R := nI 0) 6 0 1000 gm3 (by omega) (by omega) c2
    have f21 : gm3.1 21 = gm1.1 21 := (c3.1 21 (by omega)).trans (b3.1 21 (by omega))
    have fm : ∀ i, i ≠ 21 → i ≠ 28 → gm4.1 i = gm1.1 i := fun i h1 h2 => (d2 i h1).trans ((c3.1 i h2).trans (b3.1 i h2))
    have fx : ∀ i, i ≠ 1 → i ≠ 5 → gx2.1 i = gx1.1 i := fun i h1 h5 => by rw [a3.1 i h1, pu_ne h5]
    have inv : YI gx2.1 gm4.1 gx2.1 gm4.1 Q := ⟨fun q hq => by
      rw [d4 _ (by omega), f21, fx 2 (by omega) (by omega)]
      exact r3.is hq, fun _ _ => rfl, fun _ _ => rfl, fun _ _ => rfl⟩
    obtain ⟨r', gx', gm', e1, e2, e3, e4, e5⟩ := year_go (y := y) hQ (ySet_lt (S := S) (w := w)) (by rw [fx 90 (by omega) (by omega)]; exact hx) (by rw [fm 9 (by omega) (by omega)]; exact hm) (fun q hq => by rw [fm 14 (by omega) (by omega), fx 83 (by omega) (by omega)]; exact r3.cel hq) (by rw [d4 0 (by omega), f21]; exact y2') 8 0 1000 1000 0 gx2 gm4 (by omega) (by omega) (by omega) inv
    rw [Nat.zero_min] at e2
    obtain ⟨i1, i2, i3, i4⟩ := e3
    refine ⟨r', gx', pu gm' 21 0 (nI (y + 1)), ?_, ?_, ⟨P, Q, A, S, ?_⟩, ?_⟩
    · rw [if_pos (show nI y < (999 : Int32) from nI_lt (b := 999) (by omega) (by omega)), r1, bd_some, y1', nI_1, nx_eq, a1, bd2_some]
      exact e1
    · rw [if_neg (show ¬ nI y = (999 : Int32) from fun z => l ((nI_eq (b := 999) (by omega) (by omega)).1 z)), r2, bd_some, b1, bd_some, c1, bd2_some, show (0 : Int32) = nI 0 from rfl, d1]
      exact e2
    · have hb : B0 gx'.1 (pu gm' 21 0 (nI (y + 1))).1 Q := by
        refine ⟨⟨y + 1, by omega, ?_, ?_⟩, fun c hc => ?_, fun q hq => ?_⟩
        · rw [i2 5 (by omega), a3.1 5 (by omega), pu_eq, up_eq]
        · rw [pu_eq, up_eq]
        · rw [pu_eq, up_ne (by omega), up_ne (by omega), i4 (1 + c) (by omega), i4 (7 + c) (by omega), d4 (1 + c) (by omega), f21, d3 c (Nat.zero_le _) hc, i2 0 (by omega), i2 1 (by omega), fx 0 (by omega) (by omega), a2 c hc]
          exact ⟨(r3.cut hc).1, (r3.cut hc).2, rfl, yNext S w c, yNext_le, rfl⟩
        · rw [pu_eq, up_ne (by omega), up_ne (by omega), up_ne (by omega), i4 (21 + q) (by omega), i4 (29 + q) (by omega), d4 (21 + q) (by omega), d4 (29 + q) (by omega), f21, i2 4 (by omega), i2 3 (by omega), i2 87 (by omega), fx 4 (by omega) (by omega), fx 3 (by omega) (by omega), fx 87 (by omega) (by omega)]
          exact ⟨(i1 q hq).1, (i1 q hq).2, (r3.lef hq).1, (r3.dri hq).1, (r3.dri hq).2, (r3.lef hq).2⟩
      have h3 : RelX gx1.1 gm2.1 P Q A S := r3.fr FX.refl b3.m
      refine (r3.fr (FX.refl (g := gx1)) (b3.m.trans c3.m)).now (fun i hi => ?_) (fun i hi => ?_) hb
      · rw [i2 i (by omega), fx i (by omega) (by omega)]
      · rw [pu_ne hi, i3 i hi, d2 i hi]
    · exact e4.trans (a3.2.trans (r4.trans (h2.trans (r5.symm.trans (b3.2.symm.trans (c3.2.symm.trans (d5.symm.trans e5.symm)))))))
