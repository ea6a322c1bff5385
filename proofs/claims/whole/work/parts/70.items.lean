/-! ===== the items ===== -/
def TPp (x m : Nat → Nat → Int32) (p : Nat) : Prop := m 11 (6 + p) = x 100 p ∧ In 99 (x 100 p) ∧ m 12 (6 + p) = x 101 p ∧ (x 101 p = -9 ∨ ∃ k, k < p ∧ x 101 p = nI k)
def TQq (x m : Nat → Nat → Int32) (P q : Nat) : Prop := m 13 (8 + q) = x 102 q ∧ (∃ k, k < P ∧ x 102 q = nI k) ∧ m 14 (8 + q) = x 103 q ∧ In 5 (x 103 q) ∧ m 15 (8 + q) = x 104 q ∧ In 5 (x 104 q) ∧ m 16 (8 + q) = x 105 q ∧ In 9 (x 105 q) ∧ m 17 (8 + q) = x 106 q ∧ In 99 (x 106 q) ∧ m 18 (8 + q) = x 107 q ∧ (∃ n, 1 ≤ n ∧ n ≤ 4 ∧ x 107 q = nI n ∧ ∀ k, k < n → m 19 (4 * (8 + q) + k) = x 108 (4 * q + k) ∧ In 9 (x 108 (4 * q + k))) ∧ m 20 (8 + q) = x 109 q ∧ In 255 (x 109 q)
theorem T1_iff {x m : Nat → Nat → Int32} {P Q A S : Nat} : T1 x m P Q A S ↔ (x 110 0 = nI P ∧ m 9 4 = nI P ∧ P ≤ 6) ∧ (x 110 1 = nI Q ∧ m 9 5 = nI Q ∧ Q ≤ 8) ∧ (x 110 2 = nI A ∧ m 9 6 = nI A ∧ 1 ≤ A ∧ A ≤ 20) ∧ (x 110 3 = nI S ∧ m 9 7 = nI S ∧ 1 ≤ S ∧ S ≤ 27) ∧ (∀ p, p < P → TPp x m p) ∧ (∀ q, q < Q → TQq x m P q) := Iff.rfl
theorem TPp.cong {x m x' m' : Nat → Nat → Int32} {p : Nat} (h : TPp x m p) (hx : ∀ i, i = 100 ∨ i = 101 → x' i p = x i p) (hm : ∀ i, i = 11 ∨ i = 12 → m' i (6 + p) = m i (6 + p)) : TPp x' m' p := by
  unfold TPp
  rw [hx 100 (by omega), hx 101 (by omega), hm 11 (by omega), hm 12 (by omega)]
  exact h
theorem TQq.cong {x m x' m' : Nat → Nat → Int32} {P q : Nat} (h : TQq x m P q) (hx : ∀ i, (102 ≤ i ∧ i ≤ 107) ∨ i = 109 → x' i q = x i q) (hx8 : ∀ k, k < 4 → x' 108 (4 * q + k) = x 108 (4 * q + k)) (hm : ∀ i, (13 ≤ i ∧ i ≤ 18) ∨ i = 20 → m' i (8 + q) = m i (8 + q)) (hm19 : ∀ k, k < 4 → m' 19 (4 * (8 + q) + k) = m 19 (4 * (8 + q) + k)) : TQq x' m' P q := by
  obtain ⟨a1, a2, a3, a4, a5, a6, a7, a8, a9, a10, a11, ⟨n, b0, b1, b2, b3⟩, a12⟩ := h
  unfold TQq
  rw [hx 102 (by omega), hx 103 (by omega), hx 104 (by omega), hx 105 (by omega), hx 106 (by omega), hx 107 (by omega), hx 109 (by omega), hm 13 (by omega), hm 14 (by omega), hm 15 (by omega), hm 16 (by omega), hm 17 (by omega), hm 18 (by omega), hm 20 (by omega)]
  exact ⟨a1, a2, a3, a4, a5, a6, a7, a8, a9, a10, a11, ⟨n, b0, b1, b2, fun k hk => by rw [hx8 k (by omega), hm19 k (by omega)]; exact b3 k hk⟩, a12⟩
theorem TQq.mono {x m : Nat → Nat → Int32} {P P' q : Nat} (h : TQq x m P q) (hP : P ≤ P') : TQq x m P' q := by
  obtain ⟨a1, ⟨k, k1, k2⟩, a3⟩ := h
  exact ⟨a1, ⟨k, by omega, k2⟩, a3⟩
/-- what has been read so far -/
def RR (gx gm : Sg) (P Q A S fa fs : Nat) : Prop := T1 gx.1 gm.1 P Q A S ∧ gx.1 122 0 = nI fa ∧ gx.1 122 1 = nI fs ∧ fa ≤ 1 ∧ fs ≤ 1 ∧ gm.1 0 10 = nI (fa + 2 * fs) ∧ ∀ q, Q ≤ q → q < 8 → gm.1 20 (8 + q) = 0
/-- the tokens move, what was read stays -/
theorem RR.g {gx gm gx' gm' : Sg} {P Q A S fa fs : Nat} (h : RR gx gm P Q A S fa fs) (fx : GX gx gx') (fm : GM gm gm') : RR gx' gm' P Q A S fa fs := by
  obtain ⟨h1, h2, h3, h4, h5, h6, h7⟩ := h
  refine ⟨?_, by rw [fx.1 122 (by omega)]; exact h2, by rw [fx.1 122 (by omega)]; exact h3, h4, h5, by rw [fm.2.1 10 (by omega)]; exact h6, fun q q1 q2 => by rw [fm.1 20 (by omega)]; exact h7 q q1 q2⟩
  unfold T1
  rw [fx.1 100 (by omega), fx.1 101 (by omega), fx.1 102 (by omega), fx.1 103 (by omega), fx.1 104 (by omega), fx.1 105 (by omega), fx.1 106 (by omega), fx.1 107 (by omega), fx.1 108 (by omega), fx.1 109 (by omega), fx.1 110 (by omega), fm.1 9 (by omega), fm.1 11 (by omega), fm.1 12 (by omega), fm.1 13 (by omega), fm.1 14 (by omega), fm.1 15 (by omega), fm.1 16 (by omega), fm.1 17 (by omega), fm.1 18 (by omega), fm.1 19 (by omega), fm.1 20 (by omega)]
  exact h1
def Item (F : Sg → Option (Int32 × Sg)) (L : Int32) (gx gm : Sg) (t : Nat → Nat) (n b : Nat) : Prop := ∃ r gx' gmI gm', F gx = some (r, gx') ∧ f6_readsItem L gm = some gmI ∧ (∀ K x1, f6_moss_b76 K x1 gmI = K (x1 + 1) gm') ∧ KX gx gx' ∧ KM gm gm' ∧ ((r = 1 ∧ ∃ b' P Q A S fa fs, b < b' ∧ PT gx' gm' t n b' ∧ RR gx' gm' P Q A S fa fs) ∨ (r = 0 ∧ ∃ s, Ft gx' gm' s))
theorem nlt_ge {v lo : Nat} (hv : v ≤ 99) (h : ¬ nI v < nI lo) (hl : lo ≤ 1000) : lo ≤ v := by
  have := fun z => h ((nI_ltI (a := v) (b := lo) (by omega) (by omega)).2 z)
  omega
theorem nlt_le {v hi : Nat} (hv : v ≤ 99) (h : ¬ nI hi < nI v) (hl : hi ≤ 1000) : v ≤ hi := by
  have := fun z => h ((nI_ltI (a := hi) (b := v) (by omega) (by omega)).2 z)
  omega
/-- after a good number: the class's and the reference's pair, and then the end -/
theorem item_end {F : Sg → Option (Int32 × Sg)} {L : Int32} {gx gm gx2 gm2 : Sg} {t : Nat → Nat} {n b b2 P Q A S fa fs : Nat} (e1 : F gx = f2_readEnd gx2) (e2 : f6_readsItem L gm = some gm2) (k1 : KX gx gx2) (k2 : KM gm gm2) (hb : b < b2) (h : PT gx2 gm2 t n b2) (hr : RR gx2 gm2 P Q A S fa fs) : Item F L gx gm t n b := by
  obtain ⟨gx', gm', c1, c2, c3, c4⟩ := end_ok h
  rcases c4 with ⟨d1, d2, d3, d4⟩ | ⟨d1, s, d2⟩
  · exact ⟨1, gx', gm2, gm', e1.trans d1, e2, c1, k1.trans c2.k, k2.trans c3, Or.inl ⟨rfl, _, P, Q, A, S, fa, fs, by omega, d3, hr.g c2 d2⟩⟩
  · exact ⟨0, gx', gm2, gm', e1.trans d1, e2, c1, k1.trans c2.k, k2.trans c3, Or.inr ⟨rfl, s, d2⟩⟩
theorem rz_end {g : Sg} : (bd2 (f2_readEnd g) fun r6 g5 => rz r6 g5) = f2_readEnd g := by
  unfold f2_readEnd
  cases f3_readToken g with
  | none => rfl
  | some g2 =>
    show (bd2 (if (g2.1 121 1) = (59 : Int32) then rz (1 : Int32) g2 else rz (0 : Int32) g2) fun r6 g5 => rz r6 g5) = (if (g2.1 121 1) = (59 : Int32) then rz (1 : Int32) g2 else rz (0 : Int32) g2)
    split <;> rfl
theorem acid_ok {gx gm : Sg} {t : Nat → Nat} {n b P Q A S fs : Nat} (h : PT gx gm t n b) (hr : RR gx gm P Q A S 0 fs) : Item f2_readAcid 97 gx gm t n b := by
  have hf : fs ≤ 1 := hr.2.2.2.2.1
  rcases num_ok (lo := 1) (hi := 20) h with ⟨gx1, gm1, v, a1, a2, a3, a4, a5, a6, a7, a8, a9, a10⟩ | ⟨gx1, gm1, s, a1, a2, a3, a4, a5⟩
  · have v1 : 1 ≤ v := nlt_ge (lo := 1) a8 a9 (by omega)
    have v2 : v ≤ 20 := nlt_le (hi := 20) a8 a10 (by omega)
    have hr1 := hr.g a3 a4
    have k1 : KX gx1 (pu (pu gx1 122 0 1) 110 2 (nI v)) := (KX.pu (by omega)).trans (KX.pu (by omega))
    have k2 : KM gm1 (pu (pu gm1 9 6 (nI v)) 0 10 (nI (1 + 2 * fs))) := (KM.pu (by omega) (by omega) (by omega) (by unfold lowp; omega)).trans (KM.p0 (by omega))
    refine item_end (gx2 := pu (pu gx1 122 0 1) 110 2 (nI v)) (gm2 := pu (pu gm1 9 6 (nI v)) 0 10 (nI (1 + 2 * fs))) (P := P) (Q := Q) (A := v) (S := S) (fa := 1) (fs := fs) ?_ ?_ (a3.k.trans k1) (a4.k.trans k2) a6 (a5.k k1 (by rw [pu_ne (by omega), pu_ne (by omega)]) k2 (fun j j1 j2 => by rw [pu_eq, up_ne (by omega), pu_ne (by omega)])) ?_
    · unfold f2_readAcid
      rw [hr.2.1, if_pos nI_0, a1, bd2_some, if_neg one_ne0.mp, nx_eq, pu_ne (by omega), a7, nx_eq]
      exact rz_end
    · unfold f6_readsItem f6_readsItem_b141 f6_readsItem_b164 f6_readsItem_b184
      rw [if_neg (by decide), if_neg (by decide), if_neg (by decide), if_pos rfl, if_pos rfl, a2, bd2_some, show (4 : Int32) + 2 = nI 6 from by decide, ix_ok (by omega) (by omega), cl (by omega), nx_eq, if_pos rfl, pu_ne (by omega), hr1.2.2.2.2.2.1, nx_eq]
      have : nI (0 + 2 * fs) ||| 1 = nI (1 + 2 * fs) := by
        rcases (show fs = 0 ∨ fs = 1 by omega) with rfl | rfl <;> decide
      rw [this]
    · obtain ⟨t1, b1, b2, b3, b4, b5, b6⟩ := hr1
      obtain ⟨⟨p1, p2, p3⟩, ⟨q1, q2, q3⟩, ⟨c1, c2, c3⟩, ⟨s1, s2, s3⟩, hp, hq⟩ := T1_iff.1 t1
      refine ⟨T1_iff.2 ⟨⟨?_, ?_, p3⟩, ⟨?_, ?_, q3⟩, ⟨?_, ?_, v1, v2⟩, ⟨?_, ?_, s3⟩, fun p hp1 => (hp p hp1).cong (fun i hi => by rw [pu_ne (by omega), pu_ne (by omega)]) (fun i hi => by rw [pu_ne (by omega), pu_ne (by omega)]), fun q hq1 => (hq q hq1).cong (fun i hi => by rw [pu_ne (by omega), pu_ne (by omega)]) (fun k _ => by rw [pu_ne (by omega), pu_ne (by omega)]) (fun i hi => by rw [pu_ne (by omega), pu_ne (by omega)]) (fun k _ => by rw [pu_ne (by omega), pu_ne (by omega)])⟩, ?_, ?_, by omega, b4, ?_, fun q q1 q2 => ?_⟩
      · rw [pu_eq, up_ne (by omega), pu_ne (by omega)]; exact p1
      · rw [pu_ne (by omega), pu_eq, up_ne (by omega)]; exact p2
      · rw [pu_eq, up_ne (by omega), pu_ne (by omega)]; exact q1
      · rw [pu_ne (by omega), pu_eq, up_ne (by omega)]; exact q2
      · rw [pu_eq, up_eq]
      · rw [pu_ne (by omega), pu_eq, up_eq]
      · rw [pu_eq, up_ne (by omega), pu_ne (by omega)]; exact s1
      · rw [pu_ne (by omega), pu_eq, up_ne (by omega)]; exact s2
      · rw [pu_ne (by omega), pu_eq, up_eq]; rfl
      · rw [pu_ne (by omega), pu_eq, up_ne (by omega)]; exact b2
      · rw [pu_eq, up_eq]
      · rw [pu_ne (by omega), pu_ne (by omega)]; exact b6 q q1 q2
  · have k2 : ∀ u w : Int32, KM gm1 (pu (pu gm1 9 6 u) 0 10 w) := fun u w => (KM.pu (by omega) (by omega) (by omega) (by unfold lowp; omega)).trans (KM.p0 (by omega))
    have f8 : (pu (pu gm1 9 6 0) 0 10 (gm1.1 0 10 ||| 1)).1 0 8 = nI s := by rw [pu_eq, up_ne (by omega), pu_ne (by omega)]; exact a5.2.2
    refine ⟨0, gx1, pu (pu gm1 9 6 0) 0 10 (gm1.1 0 10 ||| 1), pu (pu gm1 9 6 0) 0 10 (gm1.1 0 10 ||| 1), ?_, ?_, b76_n a5.1 f8, a3.k, a4.trans (k2 _ _), Or.inr ⟨rfl, s, a5.1, a5.2.1, f8⟩⟩
    · unfold f2_readAcid
      rw [hr.2.1, if_pos nI_0, a1, bd2_some, if_pos rfl, rz0]
    · unfold f6_readsItem f6_readsItem_b141 f6_readsItem_b164 f6_readsItem_b184
      rw [if_neg (by decide), if_neg (by decide), if_neg (by decide), if_pos rfl, if_pos rfl, a2, bd2_some, show (4 : Int32) + 2 = nI 6 from by decide, ix_ok (by omega) (by omega), cl (by omega), nx_eq, if_pos rfl, pu_ne (by omega), nx_eq]
