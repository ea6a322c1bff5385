/-! ===== the bog that is now is changed ===== -/
theorem pu_same {g : Sg} {i j : Nat} : pu g i j (g.1 i j) = g := by
  refine Prod.ext (funext fun a => ?_) rfl
  show (if a = i then upd (g.1 i) j (g.1 i j) else g.1 a) = g.1 a
  by_cases h : a = i
  · rw [if_pos h, h]
    funext k
    by_cases e : k = j
    · rw [e, up_eq]
    · rw [up_ne e]
  · rw [if_neg h]
theorem RelX.now {x m x' m' : Nat → Nat → Int32} {P Q A S : Nat} (h : RelX x m P Q A S) (hx : ∀ i, 5 < i → x' i = x i) (hm : ∀ i, i ≠ 21 → m' i = m i) (hb : B0 x' m' Q) : RelX x' m' P Q A S := by
  obtain ⟨a1, a2, a3, a4, a5, a6⟩ := h
  have hQ : Q ≤ 8 := a1.2.1.2.2
  exact ⟨a1.cong (fun i i1 i2 => hx i (by omega)) (fun i j hl => by rw [hm i (by unfold lowp at hl; omega)]), hb, a3.cong hQ (fun i i1 i2 => hx i (by omega)) (hx 87 (by omega)) (hx 123 (by omega)) (hm 24 (by omega)) (by rw [hm 0 (by omega)]), a4.cong hQ (fun i i1 i2 => hx i (by omega)) (hx 87 (by omega)) (hx 133 (by omega)) (hm 22 (by omega)) (hm 23 (by omega)), a5.cong (hx 130 (by omega)) (hx 134 (by omega)) (hm 26 (by omega)) (by rw [hm 0 (by omega)]), a6.cong (hx 120 (by omega)) (by rw [hx 121 (by omega)]) (hm 2 (by omega)) (by rw [hm 0 (by omega)])⟩
theorem RelX.pu {gx gm : Sg} {P Q A S i j k : Nat} {v v' : Int32} (h : RelX gx.1 gm.1 P Q A S) (hi : i ≤ 5) (hb : B0 (pu gx i j v).1 (pu gm 21 k v').1 Q) : RelX (pu gx i j v).1 (pu gm 21 k v').1 P Q A S := h.now (fun a ha => pu_ne (by omega)) (fun a ha => pu_ne ha) hb
theorem B0.cut {gx gm : Sg} {Q c v : Nat} (h : B0 gx.1 gm.1 Q) (hQ : Q ≤ 8) (hc : c < 6) (hv : v ≤ 6) : B0 (pu gx 0 c (nI v)).1 (pu gm 21 (1 + c) (nI v)).1 Q := by
  obtain ⟨⟨y, hy, e1, e2⟩, h1, h2⟩ := h
  refine ⟨⟨y, hy, ?_, ?_⟩, fun d hd => ?_, fun q hq => ?_⟩
  · rw [pu_ne (by omega)]; exact e1
  · rw [pu_eq, up_ne (by omega)]; exact e2
  · rw [pu_eq, pu_eq, pu_ne (show 1 ≠ 0 by omega), up_ne (show 7 + d ≠ 1 + c by omega)]
    by_cases e : d = c
    · subst e
      rw [up_eq, up_eq]
      exact ⟨rfl, ⟨v, hv, rfl⟩, (h1 d hd).2.2⟩
    · rw [up_ne (by omega), up_ne e]
      exact h1 d hd
  · rw [pu_ne (show 2 ≠ 0 by omega), pu_ne (show 4 ≠ 0 by omega), pu_ne (show 3 ≠ 0 by omega), pu_ne (show 87 ≠ 0 by omega), pu_eq, up_ne (by omega), up_ne (by omega), up_ne (by omega)]
    exact h2 q hq
theorem B0.wet {gx gm : Sg} {Q c v : Nat} (h : B0 gx.1 gm.1 Q) (hQ : Q ≤ 8) (hc : c < 6) (hv : v ≤ 9) : B0 (pu gx 1 c (nI v)).1 (pu gm 21 (7 + c) (nI v)).1 Q := by
  obtain ⟨⟨y, hy, e1, e2⟩, h1, h2⟩ := h
  refine ⟨⟨y, hy, ?_, ?_⟩, fun d hd => ?_, fun q hq => ?_⟩
  · rw [pu_ne (by omega)]; exact e1
  · rw [pu_eq, up_ne (by omega)]; exact e2
  · rw [pu_eq, pu_eq, pu_ne (show 0 ≠ 1 by omega), up_ne (show 1 + d ≠ 7 + c by omega)]
    by_cases e : d = c
    · subst e
      rw [up_eq, up_eq]
      exact ⟨(h1 d hd).1, (h1 d hd).2.1, rfl, ⟨v, hv, rfl⟩⟩
    · rw [up_ne (by omega), up_ne e]
      exact h1 d hd
  · rw [pu_ne (show 2 ≠ 1 by omega), pu_ne (show 4 ≠ 1 by omega), pu_ne (show 3 ≠ 1 by omega), pu_ne (show 87 ≠ 1 by omega), pu_eq, up_ne (by omega), up_ne (by omega), up_ne (by omega)]
    exact h2 q hq
theorem B0.is {gx gm : Sg} {Q p v : Nat} (h : B0 gx.1 gm.1 Q) (hQ : Q ≤ 8) (hp : p < 8) (hv : v ≤ 3) : B0 (pu gx 2 p (nI v)).1 (pu gm 21 (13 + p) (nI v)).1 Q := by
  obtain ⟨⟨y, hy, e1, e2⟩, h1, h2⟩ := h
  refine ⟨⟨y, hy, ?_, ?_⟩, fun d hd => ?_, fun q hq => ?_⟩
  · rw [pu_ne (by omega)]; exact e1
  · rw [pu_eq, up_ne (by omega)]; exact e2
  · rw [pu_eq, pu_ne (show 0 ≠ 2 by omega), pu_ne (show 1 ≠ 2 by omega), up_ne (by omega), up_ne (by omega)]
    exact h1 d hd
  · rw [pu_eq, pu_eq, pu_ne (show 4 ≠ 2 by omega), pu_ne (show 3 ≠ 2 by omega), pu_ne (show 87 ≠ 2 by omega), up_ne (show 21 + q ≠ 13 + p by omega), up_ne (show 29 + q ≠ 13 + p by omega)]
    by_cases e : q = p
    · subst e
      rw [up_eq, up_eq]
      exact ⟨rfl, ⟨v, hv, rfl⟩, (h2 q hq).2.2⟩
    · rw [up_ne (by omega), up_ne e]
      exact h2 q hq
theorem B0.lef {gx gm : Sg} {Q p l n : Nat} (h : B0 gx.1 gm.1 Q) (hQ : Q ≤ 8) (hp : p < 8) (hn : gx.1 87 p = nI n) (hl : l ≤ n) (hn4 : n ≤ 4) : B0 (pu gx 4 p (nI l)).1 (pu gm 21 (21 + p) (nI l)).1 Q := by
  obtain ⟨⟨y, hy, e1, e2⟩, h1, h2⟩ := h
  refine ⟨⟨y, hy, ?_, ?_⟩, fun d hd => ?_, fun q hq => ?_⟩
  · rw [pu_ne (by omega)]; exact e1
  · rw [pu_eq, up_ne (by omega)]; exact e2
  · rw [pu_eq, pu_ne (show 0 ≠ 4 by omega), pu_ne (show 1 ≠ 4 by omega), up_ne (by omega), up_ne (by omega)]
    exact h1 d hd
  · rw [pu_eq, pu_eq, pu_ne (show 2 ≠ 4 by omega), pu_ne (show 3 ≠ 4 by omega), pu_ne (show 87 ≠ 4 by omega), up_ne (show 13 + q ≠ 21 + p by omega), up_ne (show 29 + q ≠ 21 + p by omega)]
    obtain ⟨k1, k2, k3, k4, k5, k6⟩ := h2 q hq
    by_cases e : q = p
    · subst e
      rw [up_eq, up_eq]
      exact ⟨k1, k2, rfl, k4, k5, n, l, hn, rfl, hl, hn4⟩
    · rw [up_ne (by omega), up_ne e]
      exact ⟨k1, k2, k3, k4, k5, k6⟩
theorem B0.dri {gx gm : Sg} {Q p v : Nat} (h : B0 gx.1 gm.1 Q) (hQ : Q ≤ 8) (hp : p < 8) (hv : v ≤ 9) : B0 (pu gx 3 p (nI v)).1 (pu gm 21 (29 + p) (nI v)).1 Q := by
  obtain ⟨⟨y, hy, e1, e2⟩, h1, h2⟩ := h
  refine ⟨⟨y, hy, ?_, ?_⟩, fun d hd => ?_, fun q hq => ?_⟩
  · rw [pu_ne (by omega)]; exact e1
  · rw [pu_eq, up_ne (by omega)]; exact e2
  · rw [pu_eq, pu_ne (show 0 ≠ 3 by omega), pu_ne (show 1 ≠ 3 by omega), up_ne (by omega), up_ne (by omega)]
    exact h1 d hd
  · rw [pu_eq, pu_eq, pu_ne (show 2 ≠ 3 by omega), pu_ne (show 4 ≠ 3 by omega), pu_ne (show 87 ≠ 3 by omega), up_ne (show 13 + q ≠ 29 + p by omega), up_ne (show 21 + q ≠ 29 + p by omega)]
    obtain ⟨k1, k2, k3, k4, k5, k6⟩ := h2 q hq
    by_cases e : q = p
    · subst e
      rw [up_eq, up_eq]
      exact ⟨k1, k2, k3, rfl, ⟨v, hv, rfl⟩, k6⟩
    · rw [up_ne (by omega), up_ne e]
      exact ⟨k1, k2, k3, k4, k5, k6⟩
/-! does -/
theorem s_does (a : Int32) : St Rel (f5_does a) (f6_does a) := by
  intro gx gm hr
  obtain ⟨⟨P, Q, A, S, h⟩, h2⟩ := id hr.t
  obtain ⟨hx, hm, hQ⟩ := h.Q_
  obtain ⟨c, hc, hcx⟩ := h.clas
  have hd := setIs_lt (x := gx.1) (c := 2) hQ
  unfold f5_does f6_does
  rcases tri a (n := Q) (by omega) with ⟨k, hk, rfl⟩ | hn
  · rw [hasP_y hx hQ hk, bd2_some, if_neg one_ne0.mp, thoseX hx hQ, bd2_some, may_x hx hQ hd hc (fun q hq => (hcx q hq).1) (by omega), bd2_some, nx_eq (v := pu gm 0 0 0), isP_y hm hQ hk, bd2_some, if_neg one_ne0.mp]
    have ei := (h.is hk).1
    by_cases hi : gx.1 2 k = 1
    · by_cases l : c k &&& setIs gx.1 2 Q = 0
      · obtain ⟨gx1, gm1, r1, r2, r3, r4, r5, r6, r7⟩ := rem_ok h
        have h' := r3.pu (v := nI 2) (v' := nI 2) (by omega) (r3.b0.is hQ (show k < 8 by omega) (by omega))
        obtain ⟨hx', hm', -⟩ := h'.Q_
        refine ⟨nI (pc (setIs (pu gx1 2 k (nI 2)).1 (nI 2) Q)), pu gx1 2 k (nI 2), pu gm1 21 (13 + k) (nI 2), ?_, ?_, ⟨P, Q, A, S, h'⟩, r4.trans (h2.trans r5.symm)⟩
        rotate_left
        · rw [ix_ok (by omega) (by omega), show (13 : Int32) + nI k = nI (13 + k) from nI_add 13 k, cl (by omega), ei, hi, if_pos rfl, ix_ok (by omega) (by omega), thoseM h, bd2_some, cl (by omega), (hcx k hk).2, if_pos ((and0 (hc k) hd).2 l), r2, bd_some, ix_ok (by omega) (by omega), nx_eq]
          rw [show (2 : Int32) = nI 2 from rfl, thoseM h', bd2_some, pcM (setIs_lt hQ), bd2_some]
        · rw [show pMay gx.1 c (setIs gx.1 2 Q) Q k = true from decide_eq_true ⟨hk, hi, l⟩, if_pos rfl, if_neg one_ne0.mp, r1, bd_some, ix_ok (by omega) (by omega), cl (by omega), nx_eq, show (2 : Int32) = nI 2 from rfl, thoseX hx' hQ, bd2_some, pcX (setIs_lt hQ), bd2_some]
      · refine ⟨-2, _, _, ?_, ?_, hr.t⟩
        · rw [show pMay gx.1 c (setIs gx.1 2 Q) Q k = false from decide_eq_false (fun z => l z.2.2)]
          rfl
        · rw [ix_ok (by omega) (by omega), show (13 : Int32) + nI k = nI (13 + k) from nI_add 13 k, cl (by omega), ei, hi, if_pos rfl, ix_ok (by omega) (by omega), thoseM h, bd2_some, cl (by omega), (hcx k hk).2, if_neg (fun z => l ((and0 (hc k) hd).1 z))]
    · refine ⟨-2, _, _, ?_, ?_, hr.t⟩
      · rw [show pMay gx.1 c (setIs gx.1 2 Q) Q k = false from decide_eq_false (fun z => hi z.2.1)]
        rfl
      · rw [show (13 : Int32) + nI k = nI (13 + k) from nI_add 13 k, ix_ok (show 13 + k < 37 by omega) (by omega), cl (by omega), ei, if_neg hi]
  · rw [hasP_n hx hn, bd2_some, if_pos rfl, nx_eq (v := pu gm 0 0 0), isP_n hm hQ hn, bd2_some, if_pos rfl]
    exact ⟨_, _, _, rfl, rfl, hr.t⟩
/-! cuts -/
theorem cuts_go {P Q A S c d s : Nat} (hc : c < 6) (hd : d < 6) (hs : s < 256) : ∀ (n k f1 f2 r : Nat) (gx gm : Sg), k + n = 8 → 9 - k < f1 → 9 - k < f2 → RelX gx.1 gm.1 P Q A S → gx.1 0 c = nI d → (∀ j, k ≤ j → s.testBit j = pLy gx.1 (nI c) Q j) → ∃ r' gx' gm', f5_cuts_b41 f1 (nI c) (nI r) (nI k) gx = some (r', gx') ∧ f6_cuts_b45 f2 (nI c) (nI r) (nI s) (nI (min k Q)) gm = some (r', gm') ∧ RelX gx'.1 gm'.1 P Q A S ∧ gx'.2 = gx.2 ∧ gm'.2 = gm.2
  | 0, k, f1 + 1, f2 + 1, r, gx, gm, hk, _, _, h, e0, _ => by
    obtain rfl : k = 8 := by omega
    obtain ⟨hx, hm, hQ⟩ := h.Q_
    have e1 := (h.cut hc).1
    rw [Nat.min_eq_right hQ]
    refine ⟨nI r, pu gx 0 c (nI (d + 1)), pu gm 21 (1 + c) (nI (d + 1)), ?_, ?_, h.pu (by omega) (h.b0.cut hQ hc (by omega)), rfl, rfl⟩
    · unfold f5_cuts_b41
      simp (disch := omega) only [ix_ok, cl, lit_add, add_lit, lit_mul, mul_lit, nI_add, sub_lit, le_nn, lt_nn, eq_nn, le_ln, lt_ln, le_nl, lt_nl, eq_nl, eq_ln, ne_m9, ne_m1, bd_some, bd2_some, ↓nx_eq, rz0, rz1, one_ne0, ↓reduceIte, if_pos, if_neg, e0]
    · unfold f6_cuts_b45
      simp (disch := omega) only [ix_ok, cl, lit_add, add_lit, lit_mul, mul_lit, nI_add, sub_lit, le_nn, lt_nn, eq_nn, le_ln, lt_ln, le_nl, lt_nl, eq_nl, eq_ln, ne_m9, ne_m1, bd_some, bd2_some, ↓nx_eq, rz0, rz1, one_ne0, ↓reduceIte, if_pos, if_neg, hm, e1, e0]
  | n + 1, k, f1 + 1, f2 + 1, r, gx, gm, hk, h1, h2, h, e0, hb => by
    obtain ⟨hx, hm, hQ⟩ := h.Q_
    by_cases hq : k < Q
    · rw [Nat.min_eq_left (by omega)]
      have nxt : ∀ (r : Nat) (gx gm : Sg), RelX gx.1 gm.1 P Q A S → gx.1 0 c = nI d → (∀ j, k + 1 ≤ j → s.testBit j = pLy gx.1 (nI c) Q j) → ∃ r' gx' gm', f5_cuts_b41 f1 (nI c) (nI r) (nI (k + 1)) gx = some (r', gx') ∧ f6_cuts_b45 f2 (nI c) (nI r) (nI s) (nI (k + 1)) gm = some (r', gm') ∧ RelX gx'.1 gm'.1 P Q A S ∧ gx'.2 = gx.2 ∧ gm'.2 = gm.2 := fun r gx gm h e hb => by
        have := cuts_go hc hd hs n (k + 1) f1 f2 r gx gm (by omega) (by omega) (by omega) h e hb
        rw [Nat.min_eq_left (by omega)] at this
        exact this
      have skip := nxt r gx gm h e0 (fun j hj => hb j (by omega))
      have e1 := (h.cut hc).1
      have e2 := (h.dep hq).1
      unfold f5_cuts_b41 f6_cuts_b45
      rw [if_neg (show ¬ (8 : Int32) ≤ nI k from nI_ge (b := 8) (by omega) (by omega)), hm, if_neg (nI_ge hq (by omega))]
      unfold f5_cuts_b105 f6_cuts_b114
      by_cases ly : k < Q ∧ gx.1 2 k = 0 ∧ gx.1 83 k = nI c
      · have tb : s.testBit k = true := (hb k (Nat.le_refl k)).trans (decide_eq_true ly)
        rw [liesIn_y hx hQ hq ly.2.1 ly.2.2, bd2_some, if_neg one_ne0.mp, ix_ok (show k < 8 by omega) (by omega), ix_ok hc (by omega), cl (by omega), cl (by omega), if_pos ((tb_N s hs k (by omega)).2 tb), ix_ok (show k < 16 by omega) (by omega), show (1 : Int32) + nI c = nI (1 + c) from nI_add 1 c, ix_ok (show 1 + c < 37 by omega) (by omega), cl (by omega), e1, e2]
        by_cases dp : gx.1 84 k = gx.1 0 c
        · obtain ⟨l, w, w1, lw, w4, l1, l2⟩ := leftNow_ok h hq
          have h' := h.pu (v := nI l) (v' := nI l) (by omega) (h.b0.lef hQ (show k < 8 by omega) w1 lw w4)
          have h'' := h'.pu (v := nI 1) (v' := nI 1) (by omega) (h'.b0.is hQ (show k < 8 by omega) (by omega))
          obtain ⟨r', gx', gm', c1, c2, c3, c4, c5⟩ := nxt (r + 1) _ _ h'' (by rw [pu_ne (by omega), pu_ne (by omega)]; exact e0) (fun j hj => by
            rw [hb j (by omega)]
            unfold pLy
            rw [pu_eq, up_ne (by omega), pu_ne (show 2 ≠ 4 by omega), pu_ne (show 83 ≠ 2 by omega), pu_ne (show 83 ≠ 4 by omega)])
          refine ⟨r', gx', gm', ?_, ?_, c3, c4, c5⟩
          · rw [if_pos dp, l1, bd2_some, ix_ok (show k < 8 by omega) (by omega), nx_eq, ix_ok (show k < 8 by omega) (by omega), nx_eq, nI_1, nx_eq, nI_1, nx_eq]
            exact c1
          · rw [if_pos dp, l2, bd2_some, show (21 : Int32) + nI k = nI (21 + k) from nI_add 21 k, ix_ok (show 21 + k < 37 by omega) (by omega), cl (by omega), nx_eq, show (13 : Int32) + nI k = nI (13 + k) from nI_add 13 k, ix_ok (show 13 + k < 37 by omega) (by omega), cl (by omega), nx_eq, nI_1, nx_eq, nI_1, nx_eq]
            exact c2
        · obtain ⟨r', gx', gm', c1, c2, c3, c4, c5⟩ := skip
          refine ⟨r', gx', gm', ?_, ?_, c3, c4, c5⟩
          · rw [if_neg dp, nI_1, nx_eq]
            exact c1
          · rw [if_neg dp, nI_1, nx_eq]
            exact c2
      · have tb : s.testBit k = false := (hb k (Nat.le_refl k)).trans (decide_eq_false ly)
        obtain ⟨r', gx', gm', c1, c2, c3, c4, c5⟩ := skip
        refine ⟨r', gx', gm', ?_, ?_, c3, c4, c5⟩
        · rw [liesIn_n hx hQ (by omega) ly, bd2_some, if_pos rfl, nI_1, nx_eq]
          exact c1
        · rw [if_neg (fun z => by rw [(tb_N s hs k (by omega)).1 z] at tb; exact absurd tb (by decide)), nI_1, nx_eq]
          exact c2
    · obtain ⟨r', gx', gm', c1, c2, c3, c4, c5⟩ := cuts_go hc hd hs n (k + 1) f1 (f2 + 1) r gx gm (by omega) (by omega) (by omega) h e0 (fun j hj => hb j (by omega))
      rw [show min (k + 1) Q = min k Q by omega] at c2
      refine ⟨r', gx', gm', ?_, c2, c3, c4, c5⟩
      unfold f5_cuts_b41 f5_cuts_b105
      rw [if_neg (show ¬ (8 : Int32) ≤ nI k from nI_ge (b := 8) (by omega) (by omega)), liesIn_n hx hQ (by omega) (fun z => hq z.1), bd2_some, if_pos rfl, nI_1, nx_eq]
      exact c1
theorem s_cuts (a : Int32) : St Rel (f5_cuts a) (f6_cuts a) := by
  intro gx gm hr
  obtain ⟨⟨P, Q, A, S, h⟩, h2⟩ := id hr.t
  obtain ⟨hx, hm, hQ⟩ := h.Q_
  unfold f5_cuts f6_cuts
  rcases tri a (n := 6) (by omega) with ⟨k, hk, rfl⟩ | hn
  · rw [(cell_y (g := gx) hk).1, bd2_some, if_neg one_ne0.mp, ix_ok hk (by omega), cl (by omega), nx_eq (v := pu gm 0 0 0), (cell_y (g := t0 gm) hk).2, bd2_some, if_neg one_ne0.mp, show (1 : Int32) + nI k = nI (1 + k) from nI_add 1 k, ix_ok (show 1 + k < 37 by omega) (by omega), cl (by omega)]
    obtain ⟨e1, d, d6, e2⟩ := h.cut hk
    rw [e1, e2]
    by_cases l : d = 6
    · subst l
      exact ⟨-2, gx, t0 gm, rfl, rfl, hr.t⟩
    · obtain ⟨gx1, gm1, r1, r2, r3, r4, r5, r6, r7⟩ := rem_ok h
      obtain ⟨r', gx', gm', c1, c2, c3, c4, c5⟩ := cuts_go (d := d) hk (by omega) (setLy_lt (x := gx1.1) (c := nI k) hQ) 8 0 1000 1000 0 gx1 gm1 (by omega) (by omega) (by omega) r3 (by rw [r6 0 (by omega)]; exact e2) (fun j _ => setLy_bit)
      rw [Nat.zero_min] at c2
      refine ⟨r', gx', gm', ?_, ?_, ⟨P, Q, A, S, c3⟩, c4.trans (r4.trans (h2.trans (r5.symm.trans c5.symm)))⟩
      · rw [if_pos (show nI d < (6 : Int32) from nI_lt (b := 6) (by omega) (by omega)), r1, bd_some]
        exact c1
      · rw [if_neg (show ¬ nI d = (6 : Int32) from fun z => l ((nI_eq (b := 6) (by omega) (by omega)).1 z)), r2, bd_some, lyInM r3, bd2_some]
        exact c2
  · rw [(cell_n (g := gx) hn).1, bd2_some, if_pos rfl, nx_eq (v := pu gm 0 0 0), (cell_n (g := t0 gm) hn).2, bd2_some, if_pos rfl]
    exact ⟨_, _, _, rfl, rfl, hr.t⟩
