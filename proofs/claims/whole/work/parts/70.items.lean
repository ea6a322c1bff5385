/-! ===== the items ===== -/
def TPp (x m : Nat → Nat → Int32) (p : Nat) : Prop := m 11 (6 + p) = x 100 p ∧ In 99 (x 100 p) ∧ m 12 (6 + p) = x 101 p ∧ (x 101 p = -9 ∨ ∃ k, k < p ∧ x 101 p = nI k)
def TQq (x m : Nat → Nat → Int32) (P q : Nat) : Prop := m 13 (8 + q) = x 102 q ∧ (∃ k, k < P ∧ x 102 q = nI k) ∧ m 14 (8 + q) = x 103 q ∧ In 5 (x 103 q) ∧ m 15 (8 + q) = x 104 q ∧ In 5 (x 104 q) ∧ m 16 (8 + q) = x 105 q ∧ In 9 (x 105 q) ∧ m 17 (8 + q) = x 106 q ∧ In 99 (x 106 q) ∧ m 18 (8 + q) = x 107 q ∧ (∃ n, 1 ≤ n ∧ n ≤ 4 ∧ x 107 q = nI n ∧ ∀ k, k < n → m 19 (4 * (8 + q) + k) = x 108 (4 * q + k) ∧ In 9 (x 108 (4 * q + k))) ∧ m 20 (8 + q) = x 109 q ∧ In 255 (x 109 q)
theorem T1_iff {x m : Nat → Nat → Int32} {P Q A S : Nat} : T1 x m P Q A S ↔ (x 110 0 = nI P ∧ m 9 4 = nI P ∧ P ≤ 6) ∧ (x 110 1 = nI Q ∧ m 9 5 = nI Q ∧ Q ≤ 8) ∧ (x 110 2 = nI A ∧ m 9 6 = nI A ∧ 1 ≤ A ∧ A ≤ 20) ∧ (x 110 3 = nI S ∧ m 9 7 = nI S ∧ 1 ≤ S ∧ S ≤ 27) ∧ (∀ p, p < P → TPp x m p) ∧ (∀ q, q < Q → TQq x m P q) := Iff.rfl
theorem TPp.cong {x m x' m' : Nat → Nat → Int32} {p : Nat} (h : TPp x m p) (hx : ∀ i, i = 100 ∨ i = 101 → x' i p = x i p) (hm : ∀ i, i = 11 ∨ i = 12 → m' i (6 + p) = m i (6 + p)) : TPp x' m' p := by
  unfold TPp
  rw [hx 100 (by omega), hx 101 (by omega), hm 11 (by omega), hm 12 (by omega)]
  exact h
theorem TQq.cong {x m x' m' : Nat → Nat → Int32} {P q : Nat} (h : TQq x m P q) (hx : ∀ i, (102 ≤ i ∧ i ≤ 107) ∨ i = 109 → x' i q = x i q) (hx8 : ∀ k, k < 4 → x' 108 (4 * q + k) = x 108 (4 * q + k)) (hm : ∀ i, (13 ≤ i ∧ i ≤ 18) ∨ i = 20 → m' i (8 + q) = m i (8 + q)) (hm19 : ∀ k, k < 4 → m' 19 (4 * (8 + q) + k) = m 19 (4 * (8 + q) + k)) : TQq x' m' P q := by
  obtain ⟨a1, a2, a3, a4, a5, a6, a7, a8, a9, a10, a11, ⟨n, b0, b1, b2, b3⟩, a12⟩ := h
  unfold TQq
  rw [hx 102 (by omega), hx 103 (by omega), hx 104 (by omega), hx 105 (by omega), hx 106 (by omega), hx 107 (by omega), hx 109 (by omega), hm 13 (by omega), hm 14 (by omega), hm 15 (by omega), hm 16 (by omega), hm 17 (by omega), hm 18 (by omega), hm 20 (by omega)]
  exact ⟨a1, a2, a3, a4, a5, a6, a7, a8, a9, a10, a11, ⟨n, b0, b1, b2, fun k hk => by rw [hx8 k (by omega), hm19 k (by omega)]; exact b3 k hk⟩, a12⟩
theorem TQq.mono {x m : Nat → Nat → Int32} {P P' q : Nat} (h : TQq x m P q) (hP : P ≤ P') : TQq x m P' q := by
  obtain ⟨a1, ⟨k, k1, k2⟩, a3⟩ := h
  exact ⟨a1, ⟨k, by omega, k2⟩, a3⟩
/-- what has been read so far -/
def RR (gx gm : Sg) (P Q A S fa fs : Nat) : Prop := T1 gx.1 gm.1 P Q A S ∧ gx.1 122 0 = nI fa ∧ gx.1 122 1 = nI fs ∧ fa ≤ 1 ∧ fs ≤ 1 ∧ gm.1 0 10 = nI (fa + 2 * fs) ∧ ∀ q, Q ≤ q → q < 8 → gm.1 20 (8 + q) = 0
/-- the tokens move, what was read stays -/
theorem RR.g {gx gm gx' gm' : Sg} {P Q A S fa fs : Nat} (h : RR gx gm P Q A S fa fs) (fx : GX gx gx') (fm : GM gm gm') : RR gx' gm' P Q A S fa fs := by
  obtain ⟨h1, h2, h3, h4, h5, h6, h7⟩ := h
  refine ⟨?_, by rw [fx.1 122 (by omega)]; exact h2, by rw [fx.1 122 (by omega)]; exact h3, h4, h5, by rw [fm.2.1 10 (by omega)]; exact h6, fun q q1 q2 => by rw [fm.1 20 (by omega)]; exact h7 q q1 q2⟩
  unfold T1
  rw [fx.1 100 (by omega), fx.1 101 (by omega), fx.1 102 (by omega), fx.1 103 (by omega), fx.1 104 (by omega), fx.1 105 (by omega), fx.1 106 (by omega), fx.1 107 (by omega), fx.1 108 (by omega), fx.1 109 (by omega), fx.1 110 (by omega), fm.1 9 (by omega), fm.1 11 (by omega), fm.1 12 (by omega), fm.1 13 (by omega), fm.1 14 (by omega), fm.1 15 (by omega), fm.1 16 (by omega), fm.1 17 (by omega), fm.1 18 (by omega), fm.1 19 (by omega), fm.1 20 (by omega)]
  exact h1
def Item (F : Sg → Option (Int32 × Sg)) (L : Int32) (gx gm : Sg) (t : Nat → Nat) (n b : Nat) : Prop := ∃ r gx' gmI gm', F gx = some (r, gx') ∧ f6_readsItem L gm = some gmI ∧ (∀ K x1, f6_moss_b76 K x1 gmI = K (x1 + 1) gm') ∧ KX gx gx' ∧ KM gm gm' ∧ ((r = 1 ∧ ∃ b' P Q A S fa fs, b < b' ∧ PT gx' gm' t n b' ∧ RR gx' gm' P Q A S fa fs) ∨ (r = 0 ∧ ∃ s, Ft gx' gm' s))
theorem nlt_ge {v lo : Nat} (hv : v ≤ 99) (h : ¬ nI v < nI lo) (hl : lo ≤ 1000) : lo ≤ v := by
  rw [nI_ltI (by omega) (by omega)] at h
  omega
theorem nlt_le {v hi : Nat} (hv : v ≤ 99) (h : ¬ nI hi < nI v) (hl : hi ≤ 1000) : v ≤ hi := by
  rw [nI_ltI (by omega) (by omega)] at h
  omega
/-- after a good number: the class's and the reference's pair, and then the end -/
theorem item_end {F : Sg → Option (Int32 × Sg)} {L : Int32} {gx gm gx2 gm2 : Sg} {t : Nat → Nat} {n b b2 P Q A S fa fs : Nat} (e1 : F gx = f2_readEnd gx2) (e2 : f6_readsItem L gm = some gm2) (k1 : KX gx gx2) (k2 : KM gm gm2) (hb : b < b2) (h : PT gx2 gm2 t n b2) (hr : RR gx2 gm2 P Q A S fa fs) : Item F L gx gm t n b := by
  obtain ⟨gx', gm', c1, c2, c3, c4⟩ := end_ok h
  rcases c4 with ⟨d1, d2, d3, d4⟩ | ⟨d1, s, d2⟩
  · exact ⟨1, gx', gm2, gm', e1.trans d1, e2, c1, k1.trans c2.k, k2.trans c3, Or.inl ⟨rfl, _, P, Q, A, S, fa, fs, by omega, d3, hr.g c2 d2⟩⟩
  · exact ⟨0, gx', gm2, gm', e1.trans d1, e2, c1, k1.trans c2.k, k2.trans c3, Or.inr ⟨rfl, s, d2⟩⟩
theorem rz_end {g : Sg} : (bd2 (f2_readEnd g) fun r6 g5 => rz r6 g5) = f2_readEnd g := by
  unfold f2_readEnd
  cases f3_readToken g with
  | none => rfl
  | some g2 =>
    show (bd2 (if (g2.1 121 1) = (59 : Int32) then rz (1 : Int32) g2 else rz (0 : Int32) g2) fun r6 g5 => rz r6 g5) = (if (g2.1 121 1) = (59 : Int32) then rz (1 : Int32) g2 else rz (0 : Int32) g2)
    split <;> rfl
theorem acid_ok {gx gm : Sg} {t : Nat → Nat} {n b P Q A S fs : Nat} (h : PT gx gm t n b) (hr : RR gx gm P Q A S 0 fs) : Item f2_readAcid 97 gx gm t n b := by
  have hf : fs ≤ 1 := hr.2.2.2.2.1
  rcases num_ok (lo := 1) (hi := 20) h with ⟨gx1, gm1, v, a1, a2, a3, a4, a5, a6, a7, a8, a9, a10⟩ | ⟨gx1, gm1, s, a1, a2, a3, a4, a5⟩
  · have v1 : 1 ≤ v := nlt_ge (lo := 1) a8 a9 (by omega)
    have v2 : v ≤ 20 := nlt_le (hi := 20) a8 a10 (by omega)
    have hr1 := hr.g a3 a4
    have k1 : KX gx1 (pu (pu gx1 122 0 1) 110 2 (nI v)) := (KX.pu (by omega)).trans (KX.pu (by omega))
    have k2 : KM gm1 (pu (pu gm1 9 6 (nI v)) 0 10 (nI (1 + 2 * fs))) := (KM.pu (by omega) (by omega) (by omega) (by unfold lowp; omega)).trans (KM.p0 (by omega))
    refine item_end (gx2 := pu (pu gx1 122 0 1) 110 2 (nI v)) (gm2 := pu (pu gm1 9 6 (nI v)) 0 10 (nI (1 + 2 * fs))) (P := P) (Q := Q) (A := v) (S := S) (fa := 1) (fs := fs) ?_ ?_ (a3.k.trans k1) (a4.k.trans k2) a6 (a5.k k1 (by rw [pu_ne (by omega), pu_ne (by omega)]) k2 (fun j j1 j2 => by rw [pu_eq, up_ne (by omega), pu_ne (by omega)])) ?_
    · unfold f2_readAcid
      rw [hr.2.1, if_pos nI_0, a1, bd2_some, if_neg one_ne0.mp, nx_eq, pu_ne (by omega), a7, nx_eq]
      exact rz_end
    · unfold f6_readsItem f6_readsItem_b141 f6_readsItem_b164 f6_readsItem_b184
      rw [if_neg (by decide), if_neg (by decide), if_neg (by decide), if_pos rfl, if_pos rfl, a2, bd2_some, show (4 : Int32) + 2 = nI 6 from by decide, ix_ok (by omega) (by omega), cl (by omega), nx_eq, if_pos rfl, pu_ne (by omega), hr1.2.2.2.2.2.1, nx_eq]
      have : nI (0 + 2 * fs) ||| 1 = nI (1 + 2 * fs) := by
        rcases (show fs = 0 ∨ fs = 1 by omega) with rfl | rfl <;> decide
      rw [this]
    · obtain ⟨t1, b1, b2, b3, b4, b5, b6⟩ := hr1
      obtain ⟨⟨p1, p2, p3⟩, ⟨q1, q2, q3⟩, ⟨c1, c2, c3⟩, ⟨s1, s2, s3⟩, hp, hq⟩ := T1_iff.1 t1
      refine ⟨T1_iff.2 ⟨⟨?_, ?_, p3⟩, ⟨?_, ?_, q3⟩, ⟨?_, ?_, v1, v2⟩, ⟨?_, ?_, s3⟩, fun p hp1 => (hp p hp1).cong (fun i hi => by rw [pu_ne (by omega), pu_ne (by omega)]) (fun i hi => by rw [pu_ne (by omega), pu_ne (by omega)]), fun q hq1 => (hq q hq1).cong (fun i hi => by rw [pu_ne (by omega), pu_ne (by omega)]) (fun k _ => by rw [pu_ne (by omega), pu_ne (by omega)]) (fun i hi => by rw [pu_ne (by omega), pu_ne (by omega)]) (fun k _ => by rw [pu_ne (by omega), pu_ne (by omega)])⟩, ?_, ?_, by omega, b4, ?_, fun q q1 q2 => ?_⟩
      · rw [pu_eq, up_ne (by omega), pu_ne (by omega)]; exact p1
      · rw [pu_ne (by omega), pu_eq, up_ne (by omega)]; exact p2
      · rw [pu_eq, up_ne (by omega), pu_ne (by omega)]; exact q1
      · rw [pu_ne (by omega), pu_eq, up_ne (by omega)]; exact q2
      · rw [pu_eq, up_eq]
      · rw [pu_ne (by omega), pu_eq, up_eq]
      · rw [pu_eq, up_ne (by omega), pu_ne (by omega)]; exact s1
      · rw [pu_ne (by omega), pu_eq, up_ne (by omega)]; exact s2
      · rw [pu_ne (by omega), pu_eq, up_eq]; rfl
      · rw [pu_ne (by omega), pu_eq, up_ne (by omega)]; exact b2
      · rw [pu_eq, up_eq]
      · rw [pu_ne (by omega), pu_ne (by omega)]; exact b6 q q1 q2
  · have k2 : ∀ u w : Int32, KM gm1 (pu (pu gm1 9 6 u) 0 10 w) := fun u w => (KM.pu (by omega) (by omega) (by omega) (by unfold lowp; omega)).trans (KM.p0 (by omega))
    have f8 : (pu (pu gm1 9 6 0) 0 10 (gm1.1 0 10 ||| 1)).1 0 8 = nI s := by rw [pu_eq, up_ne (by omega), pu_ne (by omega)]; exact a5.2.2
    refine ⟨0, gx1, pu (pu gm1 9 6 0) 0 10 (gm1.1 0 10 ||| 1), pu (pu gm1 9 6 0) 0 10 (gm1.1 0 10 ||| 1), ?_, ?_, b76_n a5.1 f8, a3.k, a4.trans (k2 _ _), Or.inr ⟨rfl, s, a5.1, a5.2.1, f8⟩⟩
    · unfold f2_readAcid
      rw [hr.2.1, if_pos nI_0, a1, bd2_some, if_pos rfl, rz0]
    · unfold f6_readsItem f6_readsItem_b141 f6_readsItem_b164 f6_readsItem_b184
      rw [if_neg (by decide), if_neg (by decide), if_neg (by decide), if_pos rfl, if_pos rfl, a2, bd2_some, show (4 : Int32) + 2 = nI 6 from by decide, ix_ok (by omega) (by omega), cl (by omega), nx_eq, if_pos rfl, pu_ne (by omega), nx_eq]
theorem slide_ok {gx gm : Sg} {t : Nat → Nat} {n b P Q A S fa : Nat} (h : PT gx gm t n b) (hr : RR gx gm P Q A S fa 0) : Item f2_readSlide 115 gx gm t n b := by
  have hf : fa ≤ 1 := hr.2.2.2.1
  rcases num_ok (lo := 1) (hi := 27) h with ⟨gx1, gm1, v, a1, a2, a3, a4, a5, a6, a7, a8, a9, a10⟩ | ⟨gx1, gm1, s, a1, a2, a3, a4, a5⟩
  · have v1 : 1 ≤ v := nlt_ge (lo := 1) a8 a9 (by omega)
    have v2 : v ≤ 27 := nlt_le (hi := 27) a8 a10 (by omega)
    have hr1 := hr.g a3 a4
    have k1 : KX gx1 (pu (pu gx1 122 1 1) 110 3 (nI v)) := (KX.pu (by omega)).trans (KX.pu (by omega))
    have k2 : KM gm1 (pu (pu gm1 9 7 (nI v)) 0 10 (nI (fa + 2 * 1))) := (KM.pu (by omega) (by omega) (by omega) (by unfold lowp; omega)).trans (KM.p0 (by omega))
    refine item_end (gx2 := pu (pu gx1 122 1 1) 110 3 (nI v)) (gm2 := pu (pu gm1 9 7 (nI v)) 0 10 (nI (fa + 2 * 1))) (P := P) (Q := Q) (A := A) (S := v) (fa := fa) (fs := 1) ?_ ?_ (a3.k.trans k1) (a4.k.trans k2) a6 (a5.k k1 (by rw [pu_ne (by omega), pu_ne (by omega)]) k2 (fun j j1 j2 => by rw [pu_eq, up_ne (by omega), pu_ne (by omega)])) ?_
    · unfold f2_readSlide
      rw [hr.2.2.1, if_pos nI_0, a1, bd2_some, if_neg one_ne0.mp, nx_eq, pu_ne (by omega), a7, nx_eq]
      exact rz_end
    · unfold f6_readsItem f6_readsItem_b141 f6_readsItem_b164 f6_readsItem_b184
      rw [if_neg (by decide), if_neg (by decide), if_neg (by decide), if_neg (by decide), if_neg (by decide), a2, bd2_some, show (4 : Int32) + 3 = nI 7 from by decide, ix_ok (by omega) (by omega), cl (by omega), nx_eq, if_neg (by decide), pu_ne (by omega), hr1.2.2.2.2.2.1, nx_eq]
      have : nI (fa + 2 * 0) ||| 2 = nI (fa + 2 * 1) := by
        rcases (show fa = 0 ∨ fa = 1 by omega) with rfl | rfl <;> decide
      rw [this]
    · obtain ⟨t1, b1, b2, b3, b4, b5, b6⟩ := hr1
      obtain ⟨⟨p1, p2, p3⟩, ⟨q1, q2, q3⟩, ⟨c1, c2, c3⟩, ⟨s1, s2, s3⟩, hp, hq⟩ := T1_iff.1 t1
      refine ⟨T1_iff.2 ⟨⟨?_, ?_, p3⟩, ⟨?_, ?_, q3⟩, ⟨?_, ?_, c3⟩, ⟨?_, ?_, v1, v2⟩, fun p hp1 => (hp p hp1).cong (fun i hi => by rw [pu_ne (by omega), pu_ne (by omega)]) (fun i hi => by rw [pu_ne (by omega), pu_ne (by omega)]), fun q hq1 => (hq q hq1).cong (fun i hi => by rw [pu_ne (by omega), pu_ne (by omega)]) (fun k _ => by rw [pu_ne (by omega), pu_ne (by omega)]) (fun i hi => by rw [pu_ne (by omega), pu_ne (by omega)]) (fun k _ => by rw [pu_ne (by omega), pu_ne (by omega)])⟩, ?_, ?_, b3, by omega, ?_, fun q q1 q2 => ?_⟩
      · rw [pu_eq, up_ne (by omega), pu_ne (by omega)]; exact p1
      · rw [pu_ne (by omega), pu_eq, up_ne (by omega)]; exact p2
      · rw [pu_eq, up_ne (by omega), pu_ne (by omega)]; exact q1
      · rw [pu_ne (by omega), pu_eq, up_ne (by omega)]; exact q2
      · rw [pu_eq, up_ne (by omega), pu_ne (by omega)]; exact c1
      · rw [pu_ne (by omega), pu_eq, up_ne (by omega)]; exact c2
      · rw [pu_eq, up_eq]
      · rw [pu_ne (by omega), pu_eq, up_eq]
      · rw [pu_ne (by omega), pu_eq, up_ne (by omega)]; exact b1
      · rw [pu_ne (by omega), pu_eq, up_eq]; rfl
      · rw [pu_eq, up_eq]
      · rw [pu_ne (by omega), pu_ne (by omega)]; exact b6 q q1 q2
  · have k2 : ∀ u w : Int32, KM gm1 (pu (pu gm1 9 7 u) 0 10 w) := fun u w => (KM.pu (by omega) (by omega) (by omega) (by unfold lowp; omega)).trans (KM.p0 (by omega))
    have f8 : (pu (pu gm1 9 7 0) 0 10 (gm1.1 0 10 ||| 2)).1 0 8 = nI s := by rw [pu_eq, up_ne (by omega), pu_ne (by omega)]; exact a5.2.2
    refine ⟨0, gx1, pu (pu gm1 9 7 0) 0 10 (gm1.1 0 10 ||| 2), pu (pu gm1 9 7 0) 0 10 (gm1.1 0 10 ||| 2), ?_, ?_, b76_n a5.1 f8, a3.k, a4.trans (k2 _ _), Or.inr ⟨rfl, s, a5.1, a5.2.1, f8⟩⟩
    · unfold f2_readSlide
      rw [hr.2.2.1, if_pos nI_0, a1, bd2_some, if_pos rfl, rz0]
    · unfold f6_readsItem f6_readsItem_b141 f6_readsItem_b164 f6_readsItem_b184
      rw [if_neg (by decide), if_neg (by decide), if_neg (by decide), if_neg (by decide), if_neg (by decide), a2, bd2_some, show (4 : Int32) + 3 = nI 7 from by decide, ix_ok (by omega) (by omega), cl (by omega), nx_eq, if_neg (by decide), pu_ne (by omega), nx_eq]
/-- the class's number, whatever it is -/
theorem rdX {gx gm : Sg} {t : Nat → Nat} {n b : Nat} {lo hi : Int32} (h : PT gx gm t n b) : ∃ gx', GX gx gx' ∧ gx'.1 121 2 = nI (tokS t n b) ∧ gx'.1 121 3 = nI (tokA t n b) ∧ ((tokK t n b = 2 ∧ gx'.1 121 4 = nI (tokV t n b) ∧ f2_readNumber lo hi gx = some (if nI (tokV t n b) < lo ∨ hi < nI (tokV t n b) then 0 else 1, gx')) ∨ (tokK t n b ≠ 2 ∧ f2_readNumber lo hi gx = some (0, gx'))) := by
  obtain ⟨h1, h2, h3, h4, h5, h6, h7, h8, h9⟩ := id h
  obtain ⟨gx', a1, a2, a3, a4, a5, a6⟩ := toX h1 h3 h4
  refine ⟨gx', a2, a3, a4, ?_⟩
  have hk4 := tokK_le (t := t) (n := n) (b := b)
  unfold f2_readNumber
  rw [a1, bd_some, a5]
  by_cases hk : tokK t n b = 2
  · left
    rw [hk, if_pos (show sgn 2 (tokV t n b) = 48 from rfl), a6 hk]
    refine ⟨rfl, rfl, ?_⟩
    by_cases c1 : nI (tokV t n b) < lo
    · rw [if_pos c1, if_pos (Or.inl c1), rz0]
    · rw [if_neg c1]
      by_cases c2 : hi < nI (tokV t n b)
      · rw [if_pos c2, if_pos (Or.inr c2), rz0]
      · rw [if_neg c2, if_neg (fun z => z.elim c1 c2), rz1]
  · right
    refine ⟨hk, ?_⟩
    have : ¬ sgn (tokK t n b) (tokV t n b) = 48 := by
      unfold sgn
      by_cases k0 : tokK t n b = 0
      · rw [if_pos k0]; decide
      · rw [if_neg k0]
        by_cases k1 : tokK t n b = 1
        · rw [if_pos k1]
          have l := of_decide_eq_true (tokV_L k1)
          intro z
          have := (nI_eq (b := 48) (by omega) (by omega)).1 z
          omega
        · rw [if_neg k1, if_neg hk]
          split <;> decide
    rw [if_neg this, rz0]
theorem item_bad {F : Sg → Option (Int32 × Sg)} {L : Int32} {gx gm gx2 gm2 : Sg} {t : Nat → Nat} {n b s : Nat} (e1 : F gx = some (0, gx2)) (e2 : f6_readsItem L gm = some gm2) (k1 : KX gx gx2) (k2 : KM gm gm2) (h : Ft gx2 gm2 s) : Item F L gx gm t n b := ⟨0, gx2, gm2, gm2, e1, e2, b76_n h.1 h.2.2, k1, k2, Or.inr ⟨rfl, s, h⟩⟩
theorem person_ok {gx gm : Sg} {t : Nat → Nat} {n b P Q A S fa fs : Nat} (h : PT gx gm t n b) (hr : RR gx gm P Q A S fa fs) (hP5 : P < 6) : Item f2_readPerson 112 gx gm t n b := by
  have hP := hr.1.1
  have eP : (6 : Int32) + nI P = nI (6 + P) := nI_add 6 P
  have kx : ∀ (g : Sg) (v : Int32), KX g (pu g 100 P v) := fun g v => KX.pu (by omega)
  have km : ∀ (g : Sg) (v : Int32), KM g (pu g 11 (6 + P) v) := fun g v => KM.pu (by omega) (by omega) (by omega) (by unfold lowp; omega)
  have km2 : ∀ (g : Sg) (v w : Int32), KM g (pu (pu g 12 (6 + P) v) 9 4 w) := fun g v w => (KM.pu (by omega) (by omega) (by omega) (by unfold lowp; omega)).trans (KM.pu (by omega) (by omega) (by omega) (by unfold lowp; omega))
  -- the reference's last write
  have b90 : ∀ (y : Int32) (g : Sg), f6_readsItem_b90 y (nI (6 + P)) g = some (pu (pu g 12 (6 + P) y) 9 4 ((pu g 12 (6 + P) y).1 9 4 + 1)) := fun y g => by
    unfold f6_readsItem_b90
    rw [ix_ok (by omega) (by omega), cl (by omega), nx_eq, nx_eq]
  -- .. with a fault
  have bad66 : ∀ (g : Sg) (y : Int32) (s : Nat), s ≤ 200 → g.1 0 8 = nI s → ∃ g', f6_readsItem_b66 (nI P) y g = some g' ∧ KM g g' ∧ g'.1 0 8 = nI s := fun g y s hs e => by
    unfold f6_readsItem_b66
    rw [takes_n hs e, bd2_some, if_neg (by decide), eP, b90]
    exact ⟨_, rfl, km2 _ _ _, by rw [pu_ne (by omega), pu_ne (by omega), e]⟩
  have tail : ∀ (g : Sg) (s : Nat), s ≤ 200 → g.1 0 8 = nI s → ∃ g', (if (g.1 0 5) = (2 : Int32) then
      bd2 (f6_in (g.1 0 7) (0 : Int32) (nI P - (1 : Int32)) g) fun r33 g32 =>
      if r33 = 0 then
        if (g32.1 0 7) = (9 : Int32) then
          f6_readsItem_b61 (nI P) g32
        else
          f6_readsItem_b65 (nI P) g32
      else
        f6_readsItem_b61 (nI P) g32
    else
      f6_readsItem_b65 (nI P) g) = some g' ∧ KM g g' ∧ g'.1 0 8 = nI s := fun g s hs e => by
    unfold f6_readsItem_b61 f6_readsItem_b65
    by_cases q : g.1 0 5 = 2
    · rw [if_pos q]
      have ei : f6_in (g.1 0 7) 0 (nI P - 1) g = some (0, g) ∨ f6_in (g.1 0 7) 0 (nI P - 1) g = some (1, g) := by
        unfold f6_in
        split
        · exact Or.inl rfl
        · split
          · exact Or.inl rfl
          · exact Or.inr rfl
      rcases ei with ei | ei
      · rw [ei, bd2_some, if_pos rfl]
        split
        · exact bad66 g 1 s hs e
        · exact bad66 g 0 s hs e
      · rw [ei, bd2_some, if_neg one_ne0.mp]
        exact bad66 g 1 s hs e
    · rw [if_neg q]
      exact bad66 g 0 s hs e
  rcases num_ok (lo := 0) (hi := 99) h with ⟨gx1, gm1, v, a1, a2, a3, a4, a5, a6, a7, a8, a9, a10⟩ | ⟨gx1, gm1, s, a1, a2, a3, a4, a5⟩
  · have hr1 := hr.g a3 a4
    have k1 := kx gx1 (nI v)
    have k2 := km gm1 (nI v)
    have h2 : PT (pu gx1 100 P (nI v)) (pu gm1 11 (6 + P) (nI v)) t n (tokA t n b) := a5.k k1 (pu_ne (by omega)) k2 (fun j j1 j2 => by rw [pu_ne (by omega)])
    obtain ⟨p1, p2, p3, p4, p5, p6, p7, p8, p9⟩ := id h2
    have sl := tokS_le (t := t) p3
    have hn := p1.2.1
    obtain ⟨gx3, c1, c2, c3, c4⟩ := rdX (lo := 0) (hi := 9) h2
    have frontx : ∀ X, f2_readNumber 0 9 (pu gx1 100 P (nI v)) = X → f2_readPerson gx = (bd2 X fun r18 g17 =>
      if r18 = 0 then
        rz (0 : Int32) g17
      else
        if (g17.1 121 4) < nI P then
          f2_readPerson_b77 (nI P) g17
        else
          if (g17.1 121 4) = (9 : Int32) then
            f2_readPerson_b77 (nI P) g17
          else
            rz (0 : Int32) g17) := fun X hX => by
      unfold f2_readPerson
      rw [hP.1, nx_eq, if_neg (show ¬ (6 : Int32) ≤ nI P from nI_ge (b := 6) hP5 (by omega)), a1, bd2_some, if_neg one_ne0.mp, ix_ok (by omega) (by omega), cl (by omega), a7, nx_eq, hX]
    have frontm : f6_readsItem 112 gm = (if ((pu gm1 11 (6 + P) (nI v)).1 0 5) = (2 : Int32) then
      bd2 (f6_in ((pu gm1 11 (6 + P) (nI v)).1 0 7) (0 : Int32) (nI P - (1 : Int32)) (pu gm1 11 (6 + P) (nI v))) fun r33 g32 =>
      if r33 = 0 then
        if (g32.1 0 7) = (9 : Int32) then
          f6_readsItem_b61 (nI P) g32
        else
          f6_readsItem_b65 (nI P) g32
      else
        f6_readsItem_b61 (nI P) g32
    else
      f6_readsItem_b65 (nI P) (pu gm1 11 (6 + P) (nI v))) := by
      unfold f6_readsItem
      rw [if_pos rfl, hP.2.1, nx_eq, a2, bd2_some, eP, ix_ok (by omega) (by omega), cl (by omega), nx_eq]
    -- the second number is bad
    have bad : f2_readPerson gx = some (0, gx3) → f6_readsItem 112 gm = f6_readsItem_b66 (nI P) 0 (pu gm1 11 (6 + P) (nI v)) → Item f2_readPerson 112 gx gm t n b := fun e1 e2 => by
      have t0 := takes_0 p5
      have e3 : f6_readsItem_b66 (nI P) 0 (pu gm1 11 (6 + P) (nI v)) = some (pu (pu (pu (pu gm1 11 (6 + P) (nI v)) 0 8 (nI (tokS t n (tokA t n b)))) 12 (6 + P) 0) 9 4 ((pu (pu (pu gm1 11 (6 + P) (nI v)) 0 8 (nI (tokS t n (tokA t n b)))) 12 (6 + P) 0).1 9 4 + 1)) := by
        unfold f6_readsItem_b66
        rw [t0, p8, bd2_some, if_neg (by decide), eP, b90]
      exact item_bad e1 (e2.trans e3) ((a3.k.trans k1).trans c1.k) (((a4.k.trans k2).trans (KM.p0 (by omega))).trans (km2 _ _ _)) ⟨show tokS t n (tokA t n b) ≤ 200 by omega, c2, by rw [pu_ne (by omega), pu_ne (by omega), pu_eq, up_eq]⟩
    rcases c4 with ⟨d1, d2, d3⟩ | ⟨d1, d3⟩
    · have v99 := tokV_le d1
      have fx := frontx _ d3
      rw [p7, d1, if_pos (show nI 2 = (2 : Int32) from rfl), p9 (Or.inr d1)] at frontm
      -- it is good
      have good : ∀ H : Int32, (H = -9 ∨ ∃ k, k < P ∧ H = nI k) → f2_readPerson gx = f2_readPerson_b109 H (nI P) gx3 → (∀ gm4, f6_takes 1 (pu gm1 11 (6 + P) (nI v)) = some (nI (tokV t n (tokA t n b)), gm4) → f6_readsItem 112 gm = f6_readsItem_b90 H (nI (6 + P)) gm4) → Item f2_readPerson 112 gx gm t n b := fun H hH e1 e2 => by
        obtain ⟨gm4, b1, b2, b3⟩ := takes_1 h2
        rw [p9 (Or.inr d1)] at b1
        have h4 := b3 gx3 (p1.g c1) c3
        have q1 : gx3.1 110 0 = nI P := by rw [c1.1 110 (by omega), pu_ne (by omega)]; exact hr1.1.1.1
        have q2 : gm4.1 9 4 = nI P := by rw [b2.1 9 (by omega), pu_ne (by omega)]; exact hr1.1.1.2.1
        have k3 : KX gx3 (pu (pu gx3 101 P H) 110 0 (nI (P + 1))) := (KX.pu (by omega)).trans (KX.pu (by omega))
        refine item_end (gx2 := pu (pu gx3 101 P H) 110 0 (nI (P + 1))) (gm2 := pu (pu gm4 12 (6 + P) H) 9 4 (nI (P + 1))) (b2 := tokA t n (tokA t n b)) (P := P + 1) (Q := Q) (A := A) (S := S) (fa := fa) (fs := fs) ?_ ?_ (((a3.k.trans k1).trans c1.k).trans k3) (((a4.k.trans k2).trans b2.k).trans (km2 _ _ _)) (Nat.lt_of_lt_of_le a6 (tokA_le p3).1) (h4.k k3 (by rw [pu_ne (by omega), pu_ne (by omega)]) (km2 _ _ _) (fun j _ _ => by rw [pu_ne (by omega), pu_ne (by omega)])) ?_
        · rw [e1]
          unfold f2_readPerson_b109
          rw [ix_ok (by omega) (by omega), cl (by omega), nx_eq, pu_ne (by omega), q1, nI_1, nx_eq]
          exact rz_end
        · rw [e2 gm4 b1, b90, pu_ne (by omega), q2, nI_1]
        · obtain ⟨t1, r2, r3, r4, r5, r6, r7⟩ := hr1
          obtain ⟨⟨p1, p2, p3⟩, ⟨q1, q2, q3⟩, ⟨w1, w2, w3⟩, ⟨s1, s2, s3⟩, hp, hq⟩ := T1_iff.1 t1
          have fx4 : ∀ i, i ≠ 100 → i ≠ 101 → i ≠ 110 → i ≠ 121 → (pu (pu gx3 101 P H) 110 0 (nI (P + 1))).1 i = gx1.1 i := fun i i1 i2 i3 i4 => by
            rw [pu_ne i3, pu_ne i2, c1.1 i i4, pu_ne i1]
          have fm4 : ∀ i, i ≠ 0 → i ≠ 9 → i ≠ 11 → i ≠ 12 → (pu (pu gm4 12 (6 + P) H) 9 4 (nI (P + 1))).1 i = gm1.1 i := fun i i0 i1 i2 i3 => by
            rw [pu_ne i1, pu_ne i3, b2.1 i i0, pu_ne i2]
          refine ⟨T1_iff.2 ⟨⟨?_, ?_, by omega⟩, ⟨?_, ?_, q3⟩, ⟨?_, ?_, w3⟩, ⟨?_, ?_, s3⟩, fun p hp1 => ?_, fun q hq1 => ((hq q hq1).mono (Nat.le_succ P)).cong (fun i hi => by rw [fx4 i (by omega) (by omega) (by omega) (by omega)]) (fun k _ => by rw [fx4 108 (by omega) (by omega) (by omega) (by omega)]) (fun i hi => by rw [fm4 i (by omega) (by omega) (by omega) (by omega)]) (fun k _ => by rw [fm4 19 (by omega) (by omega) (by omega) (by omega)])⟩, ?_, ?_, r4, r5, ?_, fun q q1 q2 => ?_⟩
          · rw [pu_eq, up_eq]
          · rw [pu_eq, up_eq]
          · rw [pu_eq, up_ne (by omega), pu_ne (by omega), c1.1 110 (by omega), pu_ne (by omega)]; exact q1
          · rw [pu_eq, up_ne (by omega), pu_ne (by omega), b2.1 9 (by omega), pu_ne (by omega)]; exact q2
          · rw [pu_eq, up_ne (by omega), pu_ne (by omega), c1.1 110 (by omega), pu_ne (by omega)]; exact w1
          · rw [pu_eq, up_ne (by omega), pu_ne (by omega), b2.1 9 (by omega), pu_ne (by omega)]; exact w2
          · rw [pu_eq, up_ne (by omega), pu_ne (by omega), c1.1 110 (by omega), pu_ne (by omega)]; exact s1
          · rw [pu_eq, up_ne (by omega), pu_ne (by omega), b2.1 9 (by omega), pu_ne (by omega)]; exact s2
          · have x100 : (pu (pu gx3 101 P H) 110 0 (nI (P + 1))).1 100 = upd (gx1.1 100) P (nI v) := by rw [pu_ne (by omega), pu_ne (by omega), c1.1 100 (by omega), pu_eq]
            have x101 : (pu (pu gx3 101 P H) 110 0 (nI (P + 1))).1 101 = upd (gx1.1 101) P H := by rw [pu_ne (by omega), pu_eq, c1.1 101 (by omega), pu_ne (by omega)]
            have m11 : (pu (pu gm4 12 (6 + P) H) 9 4 (nI (P + 1))).1 11 = upd (gm1.1 11) (6 + P) (nI v) := by rw [pu_ne (by omega), pu_ne (by omega), b2.1 11 (by omega), pu_eq]
            have m12 : (pu (pu gm4 12 (6 + P) H) 9 4 (nI (P + 1))).1 12 = upd (gm1.1 12) (6 + P) H := by rw [pu_ne (by omega), pu_eq, b2.1 12 (by omega), pu_ne (by omega)]
            unfold TPp
            rw [x100, x101, m11, m12]
            by_cases e : p = P
            · subst e
              rw [up_eq, up_eq, up_eq, up_eq]
              exact ⟨rfl, ⟨v, a8, rfl⟩, rfl, hH⟩
            · rw [up_ne e, up_ne e, up_ne (by omega), up_ne (by omega)]
              exact hp p (by omega)
          · rw [fx4 122 (by omega) (by omega) (by omega) (by omega)]; exact r2
          · rw [fx4 122 (by omega) (by omega) (by omega) (by omega)]; exact r3
          · rw [pu_ne (by omega), pu_ne (by omega), b2.2.1 10 (by omega), pu_ne (by omega)]; exact r6
          · rw [fm4 20 (by omega) (by omega) (by omega) (by omega)]; exact r7 q q1 q2
      have c0 : ¬ nI (tokV t n (tokA t n b)) < 0 := nI_pos (by omega)
      by_cases l9 : 9 < tokV t n (tokA t n b)
      · have ei : f6_in (nI (tokV t n (tokA t n b))) 0 (nI P - 1) (pu gm1 11 (6 + P) (nI v)) = some (0, pu gm1 11 (6 + P) (nI v)) := in_n (Or.inr (pred_lt (by omega) (nI_le (by omega) (by omega))))
        refine bad ?_ ?_
        · rw [fx, if_pos (Or.inr (show (9 : Int32) < nI (tokV t n (tokA t n b)) from nI_lt (a := 9) l9 (by omega))), bd2_some, if_pos rfl, rz0]
        · rw [frontm, ei, bd2_some, if_pos rfl, p9 (Or.inr d1), if_neg (show ¬ nI (tokV t n (tokA t n b)) = (9 : Int32) from fun z => by
            have := (nI_eq (b := 9) (by omega) (by omega)).1 z
            omega)]
          rfl
      · rw [if_neg (show ¬ (nI (tokV t n (tokA t n b)) < 0 ∨ 9 < nI (tokV t n (tokA t n b))) from fun z => z.elim c0 (show ¬ (9 : Int32) < nI (tokV t n (tokA t n b)) from nI_nlt (a := 9) (by omega) (by omega))), bd2_some, if_neg one_ne0.mp, d2] at fx
        by_cases lP : tokV t n (tokA t n b) < P
        · have ne9 : ¬ nI (tokV t n (tokA t n b)) = (9 : Int32) := fun z => by
            have := (nI_eq (b := 9) (by omega) (by omega)).1 z
            omega
          have ei : f6_in (nI (tokV t n (tokA t n b))) 0 (nI P - 1) (pu gm1 11 (6 + P) (nI v)) = some (1, pu gm1 11 (6 + P) (nI v)) := in_t c0 (by rw [show nI P - 1 = nI (P - 1) from pk_sub (b := 1) (by omega)]; exact nI_nlt (by omega) (by omega))
          refine good (nI (tokV t n (tokA t n b))) (Or.inr ⟨_, lP, rfl⟩) ?_ (fun gm4 b1 => ?_)
          · rw [fx, if_pos (nI_lt lP (by omega))]
            unfold f2_readPerson_b77
            rw [d2, if_neg ne9]
          · rw [frontm, ei, bd2_some, if_neg one_ne0.mp]
            unfold f6_readsItem_b61 f6_readsItem_b66
            rw [b1, bd2_some, if_neg ne9, eP]
        · have ei : f6_in (nI (tokV t n (tokA t n b))) 0 (nI P - 1) (pu gm1 11 (6 + P) (nI v)) = some (0, pu gm1 11 (6 + P) (nI v)) := in_n (Or.inr (pred_lt (by omega) (nI_le (by omega) (by omega))))
          rw [if_neg (nI_nlt (by omega) (by omega))] at fx
          rw [ei, bd2_some, if_pos rfl, p9 (Or.inr d1)] at frontm
          by_cases e9 : tokV t n (tokA t n b) = 9
          · have ie9 : nI (tokV t n (tokA t n b)) = (9 : Int32) := by rw [e9]; rfl
            refine good (-9) (Or.inl rfl) ?_ (fun gm4 b1 => ?_)
            · rw [fx, if_pos ie9]
              unfold f2_readPerson_b77
              rw [d2, if_pos ie9]
            · rw [frontm, if_pos ie9]
              unfold f6_readsItem_b61 f6_readsItem_b66
              rw [b1, bd2_some, if_pos ie9, eP]
          · have ne9 : ¬ nI (tokV t n (tokA t n b)) = (9 : Int32) := fun z => e9 ((nI_eq (b := 9) (by omega) (by omega)).1 z)
            refine bad ?_ ?_
            · rw [fx, if_neg ne9, rz0]
            · rw [frontm, if_neg ne9]
              rfl
    · have fx := frontx _ d3
      rw [p7, if_neg (show ¬ nI (tokK t n (tokA t n b)) = (2 : Int32) from fun z => d1 ((nI_eq (b := 2) (by have := tokK_le (t := t) (n := n) (b := tokA t n b); omega) (by omega)).1 z))] at frontm
      refine bad ?_ frontm
      rw [fx, bd2_some, if_pos rfl, rz0]
  · obtain ⟨g', t1, t2, t3⟩ := tail (pu gm1 11 (6 + P) 0) s a5.1 (by rw [pu_ne (by omega)]; exact a5.2.2)
    refine item_bad (gx2 := gx1) (gm2 := g') (s := s) ?_ ?_ a3.k ((a4.trans (km _ _)).trans t2) ⟨a5.1, a5.2.1, t3⟩
    · unfold f2_readPerson
      rw [hP.1, nx_eq, if_neg (show ¬ (6 : Int32) ≤ nI P from nI_ge (b := 6) hP5 (by omega)), a1, bd2_some, if_pos rfl, rz0]
    · unfold f6_readsItem
      rw [if_pos rfl, hP.2.1, nx_eq, a2, bd2_some, eP, ix_ok (by omega) (by omega), cl (by omega), nx_eq]
      exact t1
