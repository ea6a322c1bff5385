/-! ===== a clash ===== -/
theorem or_In {a : Int32} {k : Nat} (h : In 255 a) (hk : k < 8) : In 255 (a ||| ((1 : Int32) <<< (nI k &&& 31))) := by
  obtain ⟨v, hv, rfl⟩ := h
  rw [shl1 k hk, fa_or']
  have : v ||| 2 ^ k < 256 := Nat.or_lt_two_pow (n := 8) (by omega) (Nat.pow_lt_pow_right (by omega) hk)
  exact ⟨_, by omega, rfl⟩
theorem clash_ok {gx gm : Sg} {t : Nat → Nat} {n b P Q A S fa fs : Nat} (h : PT gx gm t n b) (hr : RR gx gm P Q A S fa fs) : Item f2_readClash 120 gx gm t n b := by
  obtain ⟨hQ1, hQ2, hQ3⟩ := hr.1.2.1
  have item : ∀ gm : Sg, f6_readsItem 120 gm = (bd (f6_readsClash gm) fun g21 => some g21) := fun _ => by
    unfold f6_readsItem
    rw [if_neg (by decide), if_neg (by decide), if_pos rfl]
  -- the second number with a fault
  have b50n : ∀ (x y : Int32) (g : Sg) (s : Nat), s ≤ 200 → g.1 0 8 = nI s → f6_readsClash_b50 x y g = some g := fun x y g s hs e => by
    unfold f6_readsClash_b50
    rw [takes_n hs e, bd2_some, well_n hs e, bd2_some, if_pos rfl]
  have tailn : ∀ (r w : Int32) (g : Sg) (s : Nat), s ≤ 200 → g.1 0 8 = nI s → (if (g.1 0 5) = (2 : Int32) then
    bd2 (f6_in (g.1 0 7) (0 : Int32) w g) fun r21 g20 =>
    if r21 = 0 then
      f6_readsClash_b49 r g20
    else
      if (g20.1 0 7) = r then
        f6_readsClash_b49 r g20
      else
        f6_readsClash_b50 r (1 : Int32) g20
  else
    f6_readsClash_b49 r g) = some g := fun r w g s hs e => by
    unfold f6_readsClash_b49
    by_cases q : g.1 0 5 = 2
    · rw [if_pos q]
      have ei : f6_in (g.1 0 7) 0 w g = some (0, g) ∨ f6_in (g.1 0 7) 0 w g = some (1, g) := by
        unfold f6_in
        split
        · exact Or.inl rfl
        · split
          · exact Or.inl rfl
          · exact Or.inr rfl
      rcases ei with ei | ei
      · rw [ei, bd2_some, if_pos rfl]
        exact b50n _ _ _ s hs e
      · rw [ei, bd2_some, if_neg one_ne0.mp]
        split <;> exact b50n _ _ _ s hs e
    · rw [if_neg q]
      exact b50n _ _ _ s hs e
  rcases num_ok (lo := 0) (hi := nI Q - 1) h with ⟨gx1, gm1, v, a1, a2, a3, a4, a5, a6, a7, a8, a9, a10⟩ | ⟨gx1, gm1, s, a1, a2, a3, a4, a5⟩
  · have hr1 := hr.g a3 a4
    have vQ : v < Q := by
      rcases Nat.lt_or_ge v Q with z | z
      · exact z
      · exact absurd (pred_lt (Q := Q) (a := nI v) (by omega) (nI_le z (by omega))) a10
    obtain ⟨p1, p2, p3, p4, p5, p6, p7, p8, p9⟩ := id a5
    have sl := tokS_le (t := t) p3
    have hn := p1.2.1
    have hQ1' : gx1.1 110 1 = nI Q := hr1.1.2.1.1
    obtain ⟨gx3, c1, c2, c3, c4⟩ := rdX (lo := 0) (hi := nI Q - 1) a5
    have frontx : ∀ X, f2_readNumber 0 (nI Q - 1) gx1 = X → f2_readClash gx = (bd2 X fun r8 g7 =>
    if r8 = 0 then
      rz (0 : Int32) g7
    else
      if (g7.1 121 4) = nI v then
        rz (0 : Int32) g7
      else
        nx (g7.1 121 4) fun v11 =>
        ix (nI v) 8 <|
        ix (nI v) 8 <|
        nx (pu g7 109 ((nI v).toNatClampNeg) ((g7.1 109 ((nI v).toNatClampNeg)) ||| ((1 : Int32) <<< (v11 &&& 31)))) fun g14 =>
        ix v11 8 <|
        ix v11 8 <|
        nx (pu g14 109 (v11.toNatClampNeg) ((g14.1 109 (v11.toNatClampNeg)) ||| ((1 : Int32) <<< (nI v &&& 31)))) fun g17 =>
        bd2 (f2_readEnd g17) fun r20 g19 =>
        rz r20 g19) := fun X hX => by
      unfold f2_readClash
      rw [hQ1, a1, bd2_some, if_neg one_ne0.mp, a7, nx_eq, hQ1', hX]
    have frontm : f6_readsClash gm = (if (gm1.1 0 5) = (2 : Int32) then
    bd2 (f6_in (gm1.1 0 7) (0 : Int32) (nI Q - 1) gm1) fun r21 g20 =>
    if r21 = 0 then
      f6_readsClash_b49 (nI v) g20
    else
      if (g20.1 0 7) = nI v then
        f6_readsClash_b49 (nI v) g20
      else
        f6_readsClash_b50 (nI v) (1 : Int32) g20
  else
    f6_readsClash_b49 (nI v) gm1) := by
      unfold f6_readsClash
      rw [hQ2, nx_eq, a2, bd2_some]
    have bad : f2_readClash gx = some (0, gx3) → f6_readsClash gm = f6_readsClash_b49 (nI v) gm1 → Item f2_readClash 120 gx gm t n b := fun e1 e2 => by
      have e3 : f6_readsClash_b49 (nI v) gm1 = some (pu gm1 0 8 (nI (tokS t n (tokA t n b)))) := by
        unfold f6_readsClash_b49 f6_readsClash_b50
        rw [takes_0 p5, p8, bd2_some, well_n (s := tokS t n (tokA t n b)) (by omega) (by rw [pu_eq, up_eq]), bd2_some, if_pos rfl]
      exact item_bad e1 (by rw [item gm, e2, e3, bd_some]) (a3.k.trans c1.k) (a4.k.trans (KM.p0 (by omega))) ⟨show tokS t n (tokA t n b) ≤ 200 by omega, c2, by rw [pu_eq, up_eq]⟩
    rcases c4 with ⟨d1, d2, d3⟩ | ⟨d1, d3⟩
    · have v99 := tokV_le d1
      have fx := frontx _ d3
      rw [p7, d1, if_pos (show nI 2 = (2 : Int32) from rfl), p9 (Or.inr d1)] at frontm
      have c0 : ¬ nI (tokV t n (tokA t n b)) < 0 := nI_pos (by omega)
      by_cases lQ : tokV t n (tokA t n b) < Q
      · have hi' : ¬ nI Q - 1 < nI (tokV t n (tokA t n b)) := by
          rw [show nI Q - 1 = nI (Q - 1) from pk_sub (b := 1) (by omega)]
          exact nI_nlt (by omega) (by omega)
        rw [if_neg (fun z => z.elim c0 hi'), bd2_some, if_neg one_ne0.mp, d2] at fx
        rw [in_t c0 hi', bd2_some, if_neg one_ne0.mp, p9 (Or.inr d1)] at frontm
        by_cases same : tokV t n (tokA t n b) = v
        · have e : nI (tokV t n (tokA t n b)) = nI v := by rw [same]
          exact bad (by rw [fx, if_pos e, rz0]) (by rw [frontm, if_pos e])
        · have ne : ¬ nI (tokV t n (tokA t n b)) = nI v := fun z => same ((nI_eq (by omega) (by omega)).1 z)
          rw [if_neg ne] at fx frontm
          obtain ⟨gm4, b1, b2, b3⟩ := takes_1 a5
          rw [p9 (Or.inr d1)] at b1
          have h4 := b3 gx3 (p1.g c1) c3
          have hr4 := hr1.g c1 b2
          generalize hw : tokV t n (tokA t n b) = w at *
          have k3 : ∀ c d : Int32, KX gx3 (pu (pu gx3 109 v c) 109 w d) := fun c d => (KX.pu (by omega)).trans (KX.pu (by omega))
          have k4 : ∀ c d : Int32, KM gm4 (pu (pu gm4 20 (8 + v) c) 20 (8 + w) d) := fun c d => (KM.pu (by omega) (by omega) (by omega) (by unfold lowp; omega)).trans (KM.pu (by omega) (by omega) (by omega) (by unfold lowp; omega))
          obtain ⟨t1, r2, r3, r4, r5, r6, r7⟩ := hr4
          obtain ⟨z1, z2, z3, z4, hp, hq⟩ := T1_iff.1 t1
          have mv := (hq v vQ).2.2.2.2.2.2.2.2.2.2.2.2.1
          have mw := (hq w lQ).2.2.2.2.2.2.2.2.2.2.2.2.1
          have iv := (hq v vQ).2.2.2.2.2.2.2.2.2.2.2.2.2
          have iw := (hq w lQ).2.2.2.2.2.2.2.2.2.2.2.2.2
          refine item_end (gx2 := pu (pu gx3 109 v (gx3.1 109 v ||| ((1 : Int32) <<< (nI w &&& 31)))) 109 w (gx3.1 109 w ||| ((1 : Int32) <<< (nI v &&& 31)))) (gm2 := pu (pu gm4 20 (8 + v) (gx3.1 109 v ||| ((1 : Int32) <<< (nI w &&& 31)))) 20 (8 + w) (gx3.1 109 w ||| ((1 : Int32) <<< (nI v &&& 31)))) (b2 := tokA t n (tokA t n b)) (P := P) (Q := Q) (A := A) (S := S) (fa := fa) (fs := fs) ?_ ?_ ((a3.k.trans c1.k).trans (k3 _ _)) ((a4.k.trans b2.k).trans (k4 _ _)) (Nat.lt_of_lt_of_le a6 (tokA_le p3).1) (h4.k (k3 _ _) (by rw [pu_ne (by omega), pu_ne (by omega)]) (k4 _ _) (fun j _ _ => by rw [pu_ne (by omega), pu_ne (by omega)])) ?_
          · rw [fx, nx_eq, ix_ok (show v < 8 by omega) (by omega), ix_ok (show v < 8 by omega) (by omega), cl (show v < 2147483648 by omega), nx_eq, ix_ok (show w < 8 by omega) (by omega), ix_ok (show w < 8 by omega) (by omega), cl (show w < 2147483648 by omega), pu_eq, up_ne same, nx_eq]
            exact rz_end
          · rw [item gm, frontm]
            unfold f6_readsClash_b50
            rw [b1, bd2_some, well_y h4.2.2.2.2.1, bd2_some, if_neg one_ne0.mp, show (8 : Int32) + nI v = nI (8 + v) from nI_add 8 v, show (8 : Int32) + nI w = nI (8 + w) from nI_add 8 w, ix_ok (show 8 + v < 16 by omega) (by omega), ix_ok (show 8 + v < 16 by omega) (by omega), cl (show 8 + v < 2147483648 by omega), nx_eq, ix_ok (show 8 + w < 16 by omega) (by omega), ix_ok (show 8 + w < 16 by omega) (by omega), cl (show 8 + w < 2147483648 by omega), pu_eq, up_ne (show 8 + w ≠ 8 + v by omega), nx_eq, mv, mw, bd_some]
          · have x109 : (pu (pu gx3 109 v (gx3.1 109 v ||| ((1 : Int32) <<< (nI w &&& 31)))) 109 w (gx3.1 109 w ||| ((1 : Int32) <<< (nI v &&& 31)))).1 109 = upd (upd (gx3.1 109) v (gx3.1 109 v ||| ((1 : Int32) <<< (nI w &&& 31)))) w (gx3.1 109 w ||| ((1 : Int32) <<< (nI v &&& 31))) := by rw [pu_eq, pu_eq]
            have m20 : (pu (pu gm4 20 (8 + v) (gx3.1 109 v ||| ((1 : Int32) <<< (nI w &&& 31)))) 20 (8 + w) (gx3.1 109 w ||| ((1 : Int32) <<< (nI v &&& 31)))).1 20 = upd (upd (gm4.1 20) (8 + v) (gx3.1 109 v ||| ((1 : Int32) <<< (nI w &&& 31)))) (8 + w) (gx3.1 109 w ||| ((1 : Int32) <<< (nI v &&& 31))) := by rw [pu_eq, pu_eq]
            have fx9 : ∀ i, i ≠ 109 → ∀ c d : Int32, (pu (pu gx3 109 v c) 109 w d).1 i = gx3.1 i := fun i hi c d => by rw [pu_ne hi, pu_ne hi]
            have fm9 : ∀ i, i ≠ 20 → ∀ c d : Int32, (pu (pu gm4 20 (8 + v) c) 20 (8 + w) d).1 i = gm4.1 i := fun i hi c d => by rw [pu_ne hi, pu_ne hi]
            refine ⟨T1_iff.2 ⟨?_, ?_, ?_, ?_, fun p hp1 => (hp p hp1).cong (fun i hi => by rw [fx9 i (by omega)]) (fun i hi => by rw [fm9 i (by omega)]), fun q hq1 => ?_⟩, ?_, ?_, r4, r5, ?_, fun q q1 q2 => ?_⟩
            · rw [fx9 110 (by omega), fm9 9 (by omega)]; exact z1
            · rw [fx9 110 (by omega), fm9 9 (by omega)]; exact z2
            · rw [fx9 110 (by omega), fm9 9 (by omega)]; exact z3
            · rw [fx9 110 (by omega), fm9 9 (by omega)]; exact z4
            · obtain ⟨u1, u2, u3, u4, u5, u6, u7, u8, u9, u10, u11, u12, u13, u14⟩ := hq q hq1
              unfold TQq
              rw [fx9 102 (by omega), fx9 103 (by omega), fx9 104 (by omega), fx9 105 (by omega), fx9 106 (by omega), fx9 107 (by omega), fx9 108 (by omega), fm9 13 (by omega), fm9 14 (by omega), fm9 15 (by omega), fm9 16 (by omega), fm9 17 (by omega), fm9 18 (by omega), fm9 19 (by omega), x109, m20]
              refine ⟨u1, u2, u3, u4, u5, u6, u7, u8, u9, u10, u11, u12, ?_⟩
              by_cases qw : q = w
              · subst qw
                rw [up_eq, up_eq]
                exact ⟨rfl, or_In iw (by omega)⟩
              · rw [up_ne qw, up_ne (show 8 + q ≠ 8 + w by omega)]
                by_cases qv : q = v
                · subst qv
                  rw [up_eq, up_eq]
                  exact ⟨rfl, or_In iv (by omega)⟩
                · rw [up_ne qv, up_ne (show 8 + q ≠ 8 + v by omega)]
                  exact ⟨u13, u14⟩
            · rw [fx9 122 (by omega)]; exact r2
            · rw [fx9 122 (by omega)]; exact r3
            · rw [fm9 0 (by omega)]; exact r6
            · rw [m20, up_ne (by omega), up_ne (by omega)]; exact r7 q q1 q2
      · have hi' : nI Q - 1 < nI (tokV t n (tokA t n b)) := pred_lt (by omega) (nI_le (by omega) (by omega))
        rw [if_pos (Or.inr hi'), bd2_some, if_pos rfl, rz0] at fx
        rw [in_n (Or.inr hi'), bd2_some, if_pos rfl] at frontm
        exact bad fx frontm
    · have fx := frontx _ d3
      rw [bd2_some, if_pos rfl, rz0] at fx
      rw [p7, if_neg (show ¬ nI (tokK t n (tokA t n b)) = (2 : Int32) from fun z => d1 ((nI_eq (b := 2) (by have := tokK_le (t := t) (n := n) (b := tokA t n b); omega) (by omega)).1 z))] at frontm
      exact bad fx frontm
  · refine item_bad (gx2 := gx1) (gm2 := gm1) (s := s) ?_ ?_ a3.k a4 a5
    · unfold f2_readClash
      rw [hQ1, a1, bd2_some, if_pos rfl, rz0]
    · rw [item gm]
      unfold f6_readsClash
      rw [hQ2, nx_eq, a2, bd2_some, tailn _ _ _ s a5.1 a5.2.2, bd_some]
