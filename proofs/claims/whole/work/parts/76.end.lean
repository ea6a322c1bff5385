theorem KX.relx {gx gm gx' gm' : Sg} {P Q A S : Nat} (h : RelX gx.1 gm.1 P Q A S) (fx : KX gx gx') (fm : KM gm gm') : RelX gx'.1 gm'.1 P Q A S := by
  refine h.txt (fun i hi => fx.1 i (by omega)) (fun i j h0 h2 h3 => fm.1 i j h0 (Or.inr h3)) (fun j hj => fm.2.1 j (by omega)) ?_
  obtain ⟨n, n2, e1, e2, e3⟩ := h.2.2.2.2.2
  refine ⟨n, n2, by rw [fx.2.1]; exact e1, by rw [fm.2.1 3 (by omega)]; exact e2, fun j hj => ?_⟩
  rw [fx.1 120 (by omega), fm.1 2 j (by omega) (Or.inl rfl)]
  exact e3 j hj
theorem neg10 {s : Nat} (hs : s ≤ 200) : ¬ (0 : Int32) ≤ -10 - nI s := by
  have e : (-10 - nI s : Int32) = -(nI (10 + s)) := by
    rw [← nI_add, Int32.neg_add, Int32.sub_eq_add_neg, Int32.sub_eq_add_neg, show nI 10 = (10 : Int32) from rfl]
  have l : nI 0 - nI (10 + s) < 0 := pk_sneg (by omega) (by omega)
  rw [nI_0, Int32.zero_sub] at l
  rw [e]
  intro z
  rw [Int32.le_iff_toInt_le] at z
  rw [Int32.lt_iff_toInt_lt] at l
  omega
theorem ix02 {β : Type} (X : Option β) : ix (0 : Int32) 2 X = X := ix_ok (k := 0) (by omega) (by omega)
theorem s_moss : St Rel (f5_moss) (f6_moss) := by
  intro gx gm hr
  obtain ⟨⟨P, Q, A, S, h⟩, h2⟩ := id hr.t
  obtain ⟨n, n2, e1, e2, e3⟩ := h.2.2.2.2.2
  have ht : ∃ t : Nat → Nat, (∀ j, t j ≤ 255) ∧ ∀ j, j < n → gx.1 120 j = nI (t j) ∧ (t0 gm).1 2 j = nI (t j) := by
    have k : ∀ j, ∃ v, v ≤ 255 ∧ (j < n → gx.1 120 j = nI v ∧ (t0 gm).1 2 j = nI v) := fun j => by
      by_cases hj : j < n
      · obtain ⟨q1, v, v2, q2⟩ := e3 j hj
        exact ⟨v, v2, fun _ => ⟨q2, q1.trans q2⟩⟩
      · exact ⟨0, by omega, fun z => absurd z hj⟩
    exact ⟨fun j => (k j).choose, fun j => (k j).choose_spec.1, fun j => (k j).choose_spec.2⟩
  obtain ⟨t, t255, ht⟩ := ht
  -- the starts
  have kx0 : KX gx (pu (pu (pu (pu (pu (pu (pu gx 110 0 0) 110 1 0) 110 2 10) 110 3 12) 122 0 0) 122 1 0) 121 3 0) := ((((((KX.pu (by omega)).trans (KX.pu (by omega))).trans (KX.pu (by omega))).trans (KX.pu (by omega))).trans (KX.pu (by omega))).trans (KX.pu (by omega))).trans (GX.pu (by omega)).k
  obtain ⟨gm1, b1, b2, b3, b4, b5, b6, b7, b8, b9⟩ := beginsM (pu (pu (t0 gm) 0 8 (-1)) 0 4 0)
  have km0 : KM (t0 gm) gm1 := ((KM.p0 (by omega)).trans (KM.p0 (by omega))).trans b2
  have XX0 : XX gx t n := ⟨e1, n2, t255, fun j hj => (ht j hj).1⟩
  have XM0 : XM (t0 gm) t n := ⟨e2, n2, t255, fun j hj => (ht j hj).2⟩
  obtain ⟨gm2, c1, c2, c3, c4, c5, c6⟩ := advM (b := 0) (XM0.k km0) (Nat.zero_le n) (by rw [b3 4 (by omega), pu_eq, up_eq]; rfl)
  have hPT : PT (pu (pu (pu (pu (pu (pu (pu gx 110 0 0) 110 1 0) 110 2 10) 110 3 12) 122 0 0) 122 1 0) 121 3 0) gm2 t n 0 := ⟨XX0.k kx0, (XM0.k km0).g c2, Nat.zero_le n, by rw [pu_eq, up_eq]; rfl, by rw [c2.2.1 8 (by omega), b3 8 (by omega), pu_eq, up_ne (by omega), pu_eq, up_eq], c3, c4, c5, c6⟩
  have hRR : RR (pu (pu (pu (pu (pu (pu (pu gx 110 0 0) 110 1 0) 110 2 10) 110 3 12) 122 0 0) 122 1 0) 121 3 0) gm2 0 0 10 12 0 0 := by
    refine ⟨T1_iff.2 ⟨⟨?_, ?_, by omega⟩, ⟨?_, ?_, by omega⟩, ⟨?_, ?_, by omega, by omega⟩, ⟨?_, ?_, by omega, by omega⟩, fun p hp => absurd hp (by omega), fun q hq => absurd hq (by omega)⟩, ?_, ?_, by omega, by omega, ?_, fun q _ q2 => ?_⟩
    · simp (disch := omega) only [pu_ne, pu_eq, up_eq, up_ne]; rfl
    · rw [c2.1 9 (by omega), b5]; rfl
    · simp (disch := omega) only [pu_ne, pu_eq, up_eq, up_ne]; rfl
    · rw [c2.1 9 (by omega), b6]; rfl
    · simp (disch := omega) only [pu_ne, pu_eq, up_eq, up_ne]; rfl
    · rw [c2.1 9 (by omega), b7]; rfl
    · simp (disch := omega) only [pu_ne, pu_eq, up_eq, up_ne]; rfl
    · rw [c2.1 9 (by omega), b8]; rfl
    · simp (disch := omega) only [pu_ne, pu_eq, up_eq, up_ne]; rfl
    · simp (disch := omega) only [pu_ne, pu_eq, up_eq, up_ne]; rfl
    · rw [c2.2.1 10 (by omega), b4]; rfl
    · rw [c2.1 20 (by omega), b9 q q2]
  have dn := read_go n 0 0 1000 1000 _ _ 0 0 10 12 0 0 (by omega) (by omega) (by omega) (by omega) hPT hRR
  have ex : f2_readAll gx = f2_readAll_b26 1000 (nI 0) (pu (pu (pu (pu (pu (pu (pu gx 110 0 0) 110 1 0) 110 2 10) 110 3 12) 122 0 0) 122 1 0) 121 3 0) := by
    unfold f2_readAll f4_beginAgain f3_toFront
    rw [nx_eq, nx_eq, nx_eq, nx_eq, bd_some, nx_eq, nx_eq, nx_eq, bd_some]
    rfl
  have em : f6_moss gm = f6_moss_b25 1000 (nI 0) gm2 := by
    unfold f6_moss
    rw [nx_eq, nx_eq, nx_eq, b1, bd_some, c1, bd_some]
    rfl
  unfold f5_moss
  rw [ex, em]
  rcases dn with ⟨c, gx', gm', P', Q', A', S', w1, w2, w3, w4, w5, w6⟩ | ⟨s, gx', gm', w1, w2, w3, w4, w5⟩
  · obtain ⟨gm'', d1, d2, d3, d4, d5, d6, d7, d8, d9, d10, d11⟩ := settlesM gm'
    obtain ⟨gx2, f1, f2, f3, f4, f5, f6, f7⟩ := becomeX gx'
    obtain ⟨gx3, i1, i2, i3, i4, i5, i6⟩ := againX (pu gx2 121 0 0)
    have kx := kx0.trans w4
    have km := (km0.trans c2.k).trans w5
    refine ⟨nI c, pu (pu (pu (pu gx3 123 1 0) 134 0 0) 133 0 0) 133 1 0, gm'', ?_, ?_, ⟨P', Q', A', S', ?_⟩, ?_⟩
    · rw [w2, bd2_some, if_pos (nI_pos' (by omega)), f1, bd_some, nx_eq, i1, bd_some]
      unfold f1_empty
      rw [nx_eq, bd_some, nx_eq, f5_moss_b60, if_neg (by decide), ix02, nx_eq, nx_eq, f5_moss_b60, if_neg (by decide), show (0 : Int32) + 1 = nI 1 from rfl, ix_ok (by omega) (by omega), nx_eq, nx_eq, f5_moss_b60, if_pos (by decide)]
      rfl
    · rw [w3, d1, bd_some]
    · have gf : ∀ i, 5 < i → i ≠ 121 → i ≠ 123 → i ≠ 133 → i ≠ 134 → (pu (pu (pu (pu gx3 123 1 0) 134 0 0) 133 0 0) 133 1 0).1 i = gx2.1 i := fun i h5 h1 h3 h4 h6 => by
        rw [pu_ne h4, pu_ne h4, pu_ne h6, pu_ne h3, i2 i h5, pu_ne h1]
      have lo : ∀ i, i ≤ 5 → (pu (pu (pu (pu gx3 123 1 0) 134 0 0) 133 0 0) 133 1 0).1 i = gx3.1 i := fun i h5 => by
        rw [pu_ne (by omega), pu_ne (by omega), pu_ne (by omega), pu_ne (by omega)]
      refine fresh (w6.t0 (fun k hk => ?_) (fun i j hi hj => ?_) (fun i j hi hj => ?_) (fun j hj => ?_) d3 d4 d5 d6) (fun i j hi hj => ?_) (fun i j h1 h2 hj => ?_) ?_ d7 ?_ ?_ d10 (fun i hi => ?_) d11 ?_ d9 ?_ d8
      · rw [gf 90 (by omega) (by omega) (by omega) (by omega) (by omega)]; exact f6 k hk
      · rw [gf i (by omega) (by omega) (by omega) (by omega) (by omega)]; exact f3 i j hi hj
      · rw [gf i (by omega) (by omega) (by omega) (by omega) (by omega)]; exact f4 i j hi hj
      · rw [gf 88 (by omega) (by omega) (by omega) (by omega) (by omega)]; exact f5 j hj
      · rw [lo i (by omega)]; exact i5 i j hi hj
      · rw [lo i (by omega)]; exact i6 i j h1 h2 hj
      · rw [lo 5 (by omega)]; exact i4
      · obtain ⟨n', z, -, z10, -, -, hz, -⟩ := h.2.2.1
        refine ⟨z, z10, ?_⟩
        rw [pu_ne (by omega), pu_ne (by omega), pu_ne (by omega), pu_eq, up_ne (by omega), i2 123 (by omega), pu_ne (by omega), f7 123 (by omega), kx.1 123 (by omega)]
        exact hz
      · rw [pu_ne (by omega), pu_ne (by omega), pu_ne (by omega), pu_eq, up_eq]
      · rcases (show i = 0 ∨ i = 1 by omega) with rfl | rfl
        · rw [pu_eq, up_ne (by omega), pu_eq, up_eq]
        · rw [pu_eq, up_eq]
      · rw [pu_ne (by omega), pu_ne (by omega), pu_eq, up_eq]
      · rw [pu_ne (by omega), pu_ne (by omega), pu_ne (by omega), pu_ne (by omega), i2 121 (by omega), pu_eq, up_eq]
    · exact i3.trans (f2.trans (kx.2.2.trans (h2.trans (km.2.2.symm.trans d2.symm))))
  · refine ⟨_, gx', gm', ?_, w3, ⟨P, Q, A, S, KX.relx h (kx0.trans w4) ((km0.trans c2.k).trans w5)⟩, (kx0.trans w4).2.2.trans (h2.trans ((km0.trans c2.k).trans w5).2.2.symm)⟩
    rw [w2, bd2_some, if_neg (neg10 w1)]
