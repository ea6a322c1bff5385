/-! ===== one item after the other ===== -/
def Done (CX : Option (Int32 × Sg)) (CM : Option (Int32 × Sg)) (gx gm : Sg) : Prop := (∃ c gx' gm' P Q A S, c ≤ 200 ∧ CX = some (nI c, gx') ∧ CM = (bd (f6_settles gm') fun g6 => some (nI c, g6)) ∧ KX gx gx' ∧ KM gm gm' ∧ T1 gx'.1 gm'.1 P Q A S) ∨ (∃ s gx' gm', s ≤ 200 ∧ CX = some (-10 - nI s, gx') ∧ CM = some (-10 - nI s, gm') ∧ KX gx gx' ∧ KM gm gm')
theorem bits_1 {fa fs : Nat} (h1 : fa ≤ 1) (h2 : fs ≤ 1) : (nI (fa + 2 * fs) &&& 1 = 0 ↔ fa = 0) ∧ (nI (fa + 2 * fs) &&& 2 = 0 ↔ fs = 0) := by
  rcases (show fa = 0 ∨ fa = 1 by omega) with rfl | rfl <;> rcases (show fs = 0 ∨ fs = 1 by omega) with rfl | rfl <;> decide
theorem read_one {t : Nat → Nat} {n b x f1 f2 P Q A S fa fs : Nat} {gx gm : Sg} (hx : x ≤ b) (h : PT gx gm t n b) (hr : RR gx gm P Q A S fa fs) (ih : ∀ (b' : Nat) (gx' gm' : Sg) (P Q A S fa fs : Nat), b < b' → PT gx' gm' t n b' → RR gx' gm' P Q A S fa fs → Done (f2_readAll_b26 f1 (nI (x + 1)) gx') (f6_moss_b25 (f2 + 1) (nI (x + 1)) gm') gx' gm') : Done (f2_readAll_b26 (f1 + 1) (nI x) gx) (f6_moss_b25 (f2 + 1 + 1) (nI x) gm) gx gm := by
  obtain ⟨p1, p2, p3, p4, p5, p6, p7, p8, p9⟩ := id h
  have sl := tokS_le (t := t) p3
  have hn := p1.2.1
  have hk4 := tokK_le (t := t) (n := n) (b := b)
  obtain ⟨gx1, a1, a2, a3, a4, a5, a6⟩ := toX p1 p3 p4
  have s200 : tokS t n b ≤ 200 := by omega
  have ef : (pu gm 0 8 (nI (tokS t n b))).1 0 8 = nI (tokS t n b) := by rw [pu_eq, up_eq]
  -- the reference finds the fault here
  have badM : f6_moss_b59 (f6_moss_b25 (f2 + 1)) (nI x) gm = some (-10 - nI (tokS t n b), pu gm 0 8 (nI (tokS t n b))) := by
    unfold f6_moss_b59 f6_moss_b60
    rw [takes_0 p5, p8, bd2_some, well_n s200 ef, bd2_some, if_pos rfl, b76_n s200 ef, mfail s200 ef]
  have bad : f2_readAll_b26 (f1 + 1) (nI x) gx = some (-10 - gx1.1 121 2, gx1) → f6_moss_b25 (f2 + 1 + 1) (nI x) gm = f6_moss_b59 (f6_moss_b25 (f2 + 1)) (nI x) gm → Done (f2_readAll_b26 (f1 + 1) (nI x) gx) (f6_moss_b25 (f2 + 1 + 1) (nI x) gm) gx gm := fun e1 e2 => Or.inr ⟨tokS t n b, gx1, _, s200, by rw [e1, a3], e2.trans badM, a2.k, KM.p0 (by omega)⟩
  have frontx : f2_readAll_b26 (f1 + 1) (nI x) gx = (if (sgn (tokK t n b) (tokV t n b)) = (-1 : Int32) then
        some (nI x, gx1)
      else
      if (sgn (tokK t n b) (tokV t n b)) = (97 : Int32) then
        bd2 (f2_readAcid gx1) fun r10 g9 =>
        f2_readAll_b148 (f2_readAll_b26 f1) (nI x) r10 g9
      else
      if (sgn (tokK t n b) (tokV t n b)) = (109 : Int32) then
        bd2 (f2_readPromise gx1) fun r14 g13 =>
        f2_readAll_b148 (f2_readAll_b26 f1) (nI x) r14 g13
      else
      if (sgn (tokK t n b) (tokV t n b)) = (112 : Int32) then
        bd2 (f2_readPerson gx1) fun r18 g17 =>
        f2_readAll_b148 (f2_readAll_b26 f1) (nI x) r18 g17
      else
      if (sgn (tokK t n b) (tokV t n b)) = (115 : Int32) then
        bd2 (f2_readSlide gx1) fun r22 g21 =>
        f2_readAll_b148 (f2_readAll_b26 f1) (nI x) r22 g21
      else
      if (sgn (tokK t n b) (tokV t n b)) = (120 : Int32) then
        bd2 (f2_readClash gx1) fun r26 g25 =>
        f2_readAll_b148 (f2_readAll_b26 f1) (nI x) r26 g25
      else
      f2_readAll_b148 (f2_readAll_b26 f1) (nI x) (0 : Int32) gx1) := by
    rw [f2_readAll_b26, if_neg (show ¬ (200 : Int32) < nI x from nI_nlt (a := 200) (by omega) (by omega)), a1, bd_some, a5]
  have frontm : f6_moss_b25 (f2 + 1 + 1) (nI x) gm = (if nI (tokK t n b) = 0 then f6_moss_b100 (nI x) gm else
      if nI (tokK t n b) = (1 : Int32) then
          bd2 (f6_mayBegin gm) fun r29 g28 =>
          if r29 = 0 then
            f6_moss_b59 (f6_moss_b25 (f2 + 1)) (nI x) g28
          else
            f6_moss_b60 (f6_moss_b25 (f2 + 1)) (nI x) (1 : Int32) g28
        else
          f6_moss_b59 (f6_moss_b25 (f2 + 1)) (nI x) gm) := by
    rw [f6_moss_b25, well_y p5, bd2_some, if_neg one_ne0.mp, p7]
  have b148_0 : f2_readAll_b148 (f2_readAll_b26 f1) (nI x) 0 gx1 = some (-10 - gx1.1 121 2, gx1) := rfl
  by_cases k0 : tokK t n b = 0
  · rw [k0] at frontx frontm
    refine Or.inl ⟨x, gx1, gm, P, Q, A, S, by omega, frontx.trans rfl, ?_, a2.k, KM.refl, (hr.g a2 GM.refl).1⟩
    rw [frontm, if_pos nI_0]
    unfold f6_moss_b100
    rw [well_y p5, bd2_some, if_neg one_ne0.mp]
  · by_cases k1 : tokK t n b = 1
    · -- a letter
      obtain ⟨gm1, c1, c2, c3⟩ := takes_1 h
      have h1 := c3 gx1 (p1.g a2) a4
      have hr1 := hr.g a2 c2
      have v7 := p9 (Or.inl k1)
      rw [v7] at c1
      have lt := tokA_lt (t := t) p3 k0
      have vL := of_decide_eq_true (tokV_L k1)
      have rs : sgn (tokK t n b) (tokV t n b) = nI (tokV t n b) := by rw [k1]; rfl
      rw [rs] at frontx
      rw [k1, if_neg (show ¬ nI 1 = 0 by decide), if_pos (show nI 1 = (1 : Int32) from rfl)] at frontm
      -- an item is read
      have item : ∀ F : Sg → Option (Int32 × Sg), f2_readAll_b26 (f1 + 1) (nI x) gx = (bd2 (F gx1) fun r g => f2_readAll_b148 (f2_readAll_b26 f1) (nI x) r g) → f6_moss_b25 (f2 + 1 + 1) (nI x) gm = f6_moss_b60 (f6_moss_b25 (f2 + 1)) (nI x) 1 gm → Item F (nI (tokV t n b)) gx1 gm1 t n (tokA t n b) → Done (f2_readAll_b26 (f1 + 1) (nI x) gx) (f6_moss_b25 (f2 + 1 + 1) (nI x) gm) gx gm := by
        intro F e1 e2 ⟨r, gx', gmI, gm', i1, i2, i3, i4, i5, i6⟩
        have e3 : f6_moss_b25 (f2 + 1 + 1) (nI x) gm = f6_moss_b25 (f2 + 1) (nI (x + 1)) gm' := by
          rw [e2]
          unfold f6_moss_b60
          rw [c1, bd2_some, well_y h1.2.2.2.2.1, bd2_some, if_neg one_ne0.mp, i2, bd_some, i3, nI_1]
        rcases i6 with ⟨r1, b', P', Q', A', S', fa', fs', j1, j2, j3⟩ | ⟨r0, s, j1⟩
        · subst r1
          have e4 : f2_readAll_b26 (f1 + 1) (nI x) gx = f2_readAll_b26 f1 (nI (x + 1)) gx' := by
            rw [e1, i1, bd2_some]
            unfold f2_readAll_b148
            rw [if_neg one_ne0.mp, nI_1, nx_eq]
          rw [e3, e4]
          rcases ih b' gx' gm' P' Q' A' S' fa' fs' (by omega) j2 j3 with ⟨c, g1, g2, P2, Q2, A2, S2, w1, w2, w3, w4, w5, w6⟩ | ⟨s, g1, g2, w1, w2, w3, w4, w5⟩
          · exact Or.inl ⟨c, g1, g2, P2, Q2, A2, S2, w1, w2, w3, (a2.k.trans i4).trans w4, (c2.k.trans i5).trans w5, w6⟩
          · exact Or.inr ⟨s, g1, g2, w1, w2, w3, (a2.k.trans i4).trans w4, (c2.k.trans i5).trans w5⟩
        · subst r0
          refine Or.inr ⟨s, gx', gm', j1.1, ?_, by rw [e3, mfail j1.1 j1.2.2], a2.k.trans i4, c2.k.trans i5⟩
          rw [e1, i1, bd2_some]
          unfold f2_readAll_b148 f2_readAll_b161
          rw [if_pos rfl, j1.2.1]
      have e : ∀ c : Nat, c < 1000 → (nI (tokV t n b) = nI c ↔ tokV t n b = c) := fun c hc => nI_eq (by omega) (by omega)
      have em1 : ¬ nI (tokV t n b) = -1 := (ne_m1 (by omega)).mp
      have mb : f6_mayBegin gm = (if tokV t n b = 112 then some (if 6 ≤ P then 0 else 1, gm) else if tokV t n b = 109 then some (if 8 ≤ Q then 0 else 1, gm) else if tokV t n b = 120 then some (1, gm) else if tokV t n b = 97 then some (if fa = 0 then 1 else 0, gm) else some (if fs = 0 then 1 else 0, gm)) := by
        obtain ⟨⟨-, hP2, hP3⟩, ⟨-, hQ2, hQ3⟩, -⟩ := T1_iff.1 hr.1
        have hb := bits_1 hr.2.2.2.1 hr.2.2.2.2.1
        unfold f6_mayBegin f6_mayBegin_b18 f6_mayBegin_b90 f6_mayBegin_b94
        rw [v7, hP2, hQ2, hr.2.2.2.2.2.1, show (112 : Int32) = nI 112 from rfl, show (109 : Int32) = nI 109 from rfl, show (120 : Int32) = nI 120 from rfl, show (97 : Int32) = nI 97 from rfl]
        by_cases q1 : tokV t n b = 112
        · rw [if_pos ((e 112 (by omega)).2 q1), if_pos ((e 112 (by omega)).2 q1), if_pos q1]
          by_cases z : 6 ≤ P
          · rw [if_pos (show (6 : Int32) ≤ nI P from nI_le (a := 6) z (by omega)), if_pos z, rz0]
          · rw [if_neg (show ¬ (6 : Int32) ≤ nI P from nI_ge (b := 6) (by omega) (by omega)), if_neg z, rz1]
        rw [if_neg (fun z => q1 ((e 112 (by omega)).1 z)), if_neg (fun z => q1 ((e 112 (by omega)).1 z)), if_neg q1]
        by_cases q2 : tokV t n b = 109
        · rw [if_pos ((e 109 (by omega)).2 q2), if_pos q2]
          by_cases z : 8 ≤ Q
          · rw [if_pos (show (8 : Int32) ≤ nI Q from nI_le (a := 8) z (by omega)), if_pos z, rz0]
          · rw [if_neg (show ¬ (8 : Int32) ≤ nI Q from nI_ge (b := 8) (by omega) (by omega)), if_neg z, rz1]
        rw [if_neg (fun z => q2 ((e 109 (by omega)).1 z)), if_neg q2]
        by_cases q3 : tokV t n b = 120
        · rw [if_pos ((e 120 (by omega)).2 q3), if_pos q3, rz1]
        rw [if_neg (fun z => q3 ((e 120 (by omega)).1 z)), if_neg q3]
        by_cases q4 : tokV t n b = 97
        · rw [if_pos ((e 97 (by omega)).2 q4), if_pos q4]
          by_cases z : fa = 0
          · rw [if_pos (hb.1.2 z), if_pos z, rz1]
          · rw [if_neg (fun y => z (hb.1.1 y)), if_neg z, rz0]
        rw [if_neg (fun z => q4 ((e 97 (by omega)).1 z)), if_neg q4]
        by_cases z : fs = 0
        · rw [if_pos (hb.2.2 z), if_pos z, rz1]
        · rw [if_neg (fun y => z (hb.2.1 y)), if_neg z, rz0]
      rw [mb] at frontm
      rw [if_neg em1, show (97 : Int32) = nI 97 from rfl, show (109 : Int32) = nI 109 from rfl, show (112 : Int32) = nI 112 from rfl, show (115 : Int32) = nI 115 from rfl, show (120 : Int32) = nI 120 from rfl] at frontx
      have bad2 : ∀ F : Sg → Option (Int32 × Sg), f2_readAll_b26 (f1 + 1) (nI x) gx = (bd2 (F gx1) fun r g => f2_readAll_b148 (f2_readAll_b26 f1) (nI x) r g) → F gx1 = some (0, gx1) → f6_moss_b25 (f2 + 1 + 1) (nI x) gm = f6_moss_b59 (f6_moss_b25 (f2 + 1)) (nI x) gm → Done (f2_readAll_b26 (f1 + 1) (nI x) gx) (f6_moss_b25 (f2 + 1 + 1) (nI x) gm) gx gm := fun F e1 e2 e3 => bad (by rw [e1, e2, bd2_some]; rfl) e3
      obtain ⟨⟨hP1, hP2, hP3⟩, ⟨hQ1, hQ2, hQ3⟩, -⟩ := T1_iff.1 hr1.1
      by_cases q97 : tokV t n b = 97
      · rw [q97, if_pos rfl] at frontx
        rw [q97, if_neg (by decide), if_neg (by decide), if_neg (by decide), if_pos rfl, bd2_some] at frontm
        by_cases z : fa = 0
        · subst z
          rw [if_pos rfl, if_neg one_ne0.mp] at frontm
          exact item f2_readAcid frontx frontm (by rw [q97]; exact acid_ok h1 hr1)
        · rw [if_neg z, if_pos rfl] at frontm
          refine bad2 f2_readAcid frontx ?_ frontm
          unfold f2_readAcid
          rw [hr1.2.1, if_neg (nI_ne0 (by omega) (by have := hr1.2.2.2.1; omega)), rz0]
      rw [if_neg (fun z => q97 ((e 97 (by omega)).1 z))] at frontx
      by_cases q109 : tokV t n b = 109
      · rw [q109, if_pos rfl] at frontx
        rw [q109, if_neg (by decide), if_pos rfl, bd2_some] at frontm
        by_cases z : 8 ≤ Q
        · rw [if_pos z, if_pos rfl] at frontm
          refine bad2 f2_readPromise frontx ?_ frontm
          unfold f2_readPromise
          rw [hQ1, nx_eq, if_pos (show (8 : Int32) ≤ nI Q from nI_le (a := 8) z (by omega)), rz0]
        · rw [if_neg z, if_neg one_ne0.mp] at frontm
          exact item f2_readPromise frontx frontm (by rw [q109]; exact promise_ok h1 hr1 (by omega))
      rw [if_neg (fun z => q109 ((e 109 (by omega)).1 z))] at frontx
      by_cases q112 : tokV t n b = 112
      · rw [q112, if_pos rfl] at frontx
        rw [q112, if_pos rfl, bd2_some] at frontm
        by_cases z : 6 ≤ P
        · rw [if_pos z, if_pos rfl] at frontm
          refine bad2 f2_readPerson frontx ?_ frontm
          unfold f2_readPerson
          rw [hP1, nx_eq, if_pos (show (6 : Int32) ≤ nI P from nI_le (a := 6) z (by omega)), rz0]
        · rw [if_neg z, if_neg one_ne0.mp] at frontm
          exact item f2_readPerson frontx frontm (by rw [q112]; exact person_ok h1 hr1 (by omega))
      rw [if_neg (fun z => q112 ((e 112 (by omega)).1 z))] at frontx
      by_cases q115 : tokV t n b = 115
      · rw [q115, if_pos rfl] at frontx
        rw [q115, if_neg (by decide), if_neg (by decide), if_neg (by decide), if_neg (by decide), bd2_some] at frontm
        by_cases z : fs = 0
        · subst z
          rw [if_pos rfl, if_neg one_ne0.mp] at frontm
          exact item f2_readSlide frontx frontm (by rw [q115]; exact slide_ok h1 hr1)
        · rw [if_neg z, if_pos rfl] at frontm
          refine bad2 f2_readSlide frontx ?_ frontm
          unfold f2_readSlide
          rw [hr1.2.2.1, if_neg (nI_ne0 (by omega) (by have := hr1.2.2.2.2.1; omega)), rz0]
      rw [if_neg (fun z => q115 ((e 115 (by omega)).1 z))] at frontx
      have q120 : tokV t n b = 120 := by omega
      rw [q120, if_pos rfl] at frontx
      rw [q120, if_neg (by decide), if_neg (by decide), if_pos rfl, bd2_some, if_neg one_ne0.mp] at frontm
      exact item f2_readClash frontx frontm (by rw [q120]; exact clash_ok h1 hr1)
    · -- nothing that begins an item
      have em : f6_moss_b25 (f2 + 1 + 1) (nI x) gm = f6_moss_b59 (f6_moss_b25 (f2 + 1)) (nI x) gm := by
        rw [frontm, if_neg (nI_ne0 (by omega) (by omega)), if_neg (show ¬ nI (tokK t n b) = (1 : Int32) from fun z => k1 ((nI_eq (b := 1) (by omega) (by omega)).1 z))]
      refine bad ?_ em
      rw [frontx]
      rcases (show tokK t n b = 2 ∨ tokK t n b = 3 ∨ tokK t n b = 4 by omega) with k | k | k
      · rw [k]; rfl
      · rw [k]; rfl
      · rw [k]; rfl
theorem read_go {t : Nat → Nat} {n : Nat} : ∀ (d b x f1 f2 : Nat) (gx gm : Sg) (P Q A S fa fs : Nat), n - b ≤ d → x ≤ b → d < f1 → d + 1 < f2 → PT gx gm t n b → RR gx gm P Q A S fa fs → Done (f2_readAll_b26 f1 (nI x) gx) (f6_moss_b25 f2 (nI x) gm) gx gm := by
  intro d
  induction d with
  | zero =>
    intro b x f1 f2 gx gm P Q A S fa fs hd hx h1 h2 h hr
    obtain ⟨f1, rfl⟩ : ∃ f, f1 = f + 1 := ⟨f1 - 1, by omega⟩
    obtain ⟨f2, rfl⟩ : ∃ f, f2 = f + 1 + 1 := ⟨f2 - 2, by omega⟩
    refine read_one hx h hr (fun b' gx' gm' P Q A S fa fs hb h' _ => ?_)
    have := h'.2.2.1
    omega
  | succ d ih =>
    intro b x f1 f2 gx gm P Q A S fa fs hd hx h1 h2 h hr
    obtain ⟨f1, rfl⟩ : ∃ f, f1 = f + 1 := ⟨f1 - 1, by omega⟩
    obtain ⟨f2, rfl⟩ : ∃ f, f2 = f + 1 + 1 := ⟨f2 - 2, by omega⟩
    exact read_one hx h hr (fun b' gx' gm' P Q A S fa fs hb h' hr' => ih b' (x + 1) f1 (f2 + 1) gx' gm' P Q A S fa fs (by omega) (by omega) (by omega) (by omega) h' hr')
