/-! ===== a promise ===== -/
theorem words_go {t : Nat → Nat} {n Q : Nat} (hQ : Q < 8) : ∀ (m k b f1 f2 : Nat) (gx gm : Sg), k + m = 4 → m + 1 < f1 → m + 2 < f2 → PT gx gm t n b → (1 ≤ k → gx.1 107 Q = nI k) → (∀ j, j < k → gm.1 19 (4 * (8 + Q) + j) = gx.1 108 (4 * Q + j) ∧ In 9 (gx.1 108 (4 * Q + j))) → ∃ r gx' gmI gm', f2_readWords_b2 f1 (nI Q) (nI k) gx = some (r, gx') ∧ f6_readsPromise_b81 f2 (nI (8 + Q)) (nI k) gm = some gmI ∧ (∀ K x1, f6_moss_b76 K x1 gmI = K (x1 + 1) gm') ∧ KX gx gx' ∧ KM gm gm' ∧ ((r = 1 ∧ ∃ b' N, b < b' ∧ PT gx' gm' t n b' ∧ 1 ≤ N ∧ N ≤ 4 ∧ (∀ i, i ≠ 107 → i ≠ 108 → i ≠ 121 → gx'.1 i = gx.1 i) ∧ gx'.1 107 Q = nI N ∧ (∀ q, q ≠ Q → gx'.1 107 q = gx.1 107 q) ∧ (∀ j, j < N → gm'.1 19 (4 * (8 + Q) + j) = gx'.1 108 (4 * Q + j) ∧ In 9 (gx'.1 108 (4 * Q + j))) ∧ (∀ i, i < 4 * Q → gx'.1 108 i = gx.1 108 i) ∧ (∀ i, i < 4 * (8 + Q) → gm'.1 19 i = gm.1 19 i) ∧ (∀ i, i ≠ 0 → i ≠ 9 → i ≠ 18 → i ≠ 19 → gm'.1 i = gm.1 i) ∧ gm'.1 18 = upd (gm.1 18) (8 + Q) (nI N) ∧ gm'.1 9 = upd (gm.1 9) 5 (gm.1 9 5 + 1) ∧ gm'.1 0 10 = gm.1 0 10) ∨ (r = 0 ∧ ∃ s, Ft gx' gm' s)) := by
  have kf : ∀ (g : Sg) (v w : Int32), KM g (pu (pu g 18 (8 + Q) v) 9 5 w) := fun g v w => (KM.pu (by omega) (by omega) (by omega) (by unfold lowp; omega)).trans (KM.pu (by omega) (by omega) (by omega) (by unfold lowp; omega))
  have b160 : ∀ (x : Int32) (g : Sg), f6_readsPromise_b160 (nI (8 + Q)) x g = some (pu (pu g 18 (8 + Q) x) 9 5 (g.1 9 5 + 1)) := fun x g => by
    unfold f6_readsPromise_b160
    rw [ix_ok (show 8 + Q < 16 by omega) (by omega), cl (by omega), nx_eq, pu_ne (by omega), nx_eq]
  have fail : ∀ (k b f : Nat) (gx gm : Sg), PT gx gm t n b → ∃ gmI, f6_readsPromise_b131 (f6_readsPromise_b81 (f + 1)) (nI (8 + Q)) (nI k) gm = some gmI ∧ KM gm gmI ∧ gmI.1 0 8 = nI (tokS t n b) := by
    intro k b f gx gm h
    obtain ⟨p1, p2, p3, p4, p5, p6, p7, p8, p9⟩ := id h
    have sl := tokS_le (t := t) p3
    have hn := p1.2.1
    have w : f6_isWell (pu gm 0 8 (nI (tokS t n b))) = some (0, pu gm 0 8 (nI (tokS t n b))) := well_n (s := tokS t n b) (by omega) (by rw [pu_eq, up_eq])
    unfold f6_readsPromise_b131 f6_readsPromise_b132 f6_readsPromise_b157
    rw [takes_0 p5, p8, bd2_some, w, bd2_some, if_pos rfl, f6_readsPromise_b81, w, bd2_some, if_pos rfl, b160]
    exact ⟨_, rfl, (KM.p0 (by omega)).trans (kf _ _ _), by rw [pu_ne (by omega), pu_ne (by omega), pu_eq, up_eq]⟩
  -- one token, whatever it is
  have one : ∀ (k b f1 f2 : Nat) (gx gm : Sg), k ≤ 4 → PT gx gm t n b → (1 ≤ k → gx.1 107 Q = nI k) → (∀ j, j < k → gm.1 19 (4 * (8 + Q) + j) = gx.1 108 (4 * Q + j) ∧ In 9 (gx.1 108 (4 * Q + j))) → (k < 4 → tokK t n b = 2 → tokV t n b ≤ 9 → ∃ r gx' gmI gm', f2_readWords_b2 (f1 + 1) (nI Q) (nI k) gx = some (r, gx') ∧ f6_readsPromise_b81 (f2 + 2) (nI (8 + Q)) (nI k) gm = some gmI ∧ (∀ K x1, f6_moss_b76 K x1 gmI = K (x1 + 1) gm') ∧ KX gx gx' ∧ KM gm gm' ∧ ((r = 1 ∧ ∃ b' N, b < b' ∧ PT gx' gm' t n b' ∧ 1 ≤ N ∧ N ≤ 4 ∧ (∀ i, i ≠ 107 → i ≠ 108 → i ≠ 121 → gx'.1 i = gx.1 i) ∧ gx'.1 107 Q = nI N ∧ (∀ q, q ≠ Q → gx'.1 107 q = gx.1 107 q) ∧ (∀ j, j < N → gm'.1 19 (4 * (8 + Q) + j) = gx'.1 108 (4 * Q + j) ∧ In 9 (gx'.1 108 (4 * Q + j))) ∧ (∀ i, i < 4 * Q → gx'.1 108 i = gx.1 108 i) ∧ (∀ i, i < 4 * (8 + Q) → gm'.1 19 i = gm.1 19 i) ∧ (∀ i, i ≠ 0 → i ≠ 9 → i ≠ 18 → i ≠ 19 → gm'.1 i = gm.1 i) ∧ gm'.1 18 = upd (gm.1 18) (8 + Q) (nI N) ∧ gm'.1 9 = upd (gm.1 9) 5 (gm.1 9 5 + 1) ∧ gm'.1 0 10 = gm.1 0 10) ∨ (r = 0 ∧ ∃ s, Ft gx' gm' s))) → ∃ r gx' gmI gm', f2_readWords_b2 (f1 + 1) (nI Q) (nI k) gx = some (r, gx') ∧ f6_readsPromise_b81 (f2 + 2) (nI (8 + Q)) (nI k) gm = some gmI ∧ (∀ K x1, f6_moss_b76 K x1 gmI = K (x1 + 1) gm') ∧ KX gx gx' ∧ KM gm gm' ∧ ((r = 1 ∧ ∃ b' N, b < b' ∧ PT gx' gm' t n b' ∧ 1 ≤ N ∧ N ≤ 4 ∧ (∀ i, i ≠ 107 → i ≠ 108 → i ≠ 121 → gx'.1 i = gx.1 i) ∧ gx'.1 107 Q = nI N ∧ (∀ q, q ≠ Q → gx'.1 107 q = gx.1 107 q) ∧ (∀ j, j < N → gm'.1 19 (4 * (8 + Q) + j) = gx'.1 108 (4 * Q + j) ∧ In 9 (gx'.1 108 (4 * Q + j))) ∧ (∀ i, i < 4 * Q → gx'.1 108 i = gx.1 108 i) ∧ (∀ i, i < 4 * (8 + Q) → gm'.1 19 i = gm.1 19 i) ∧ (∀ i, i ≠ 0 → i ≠ 9 → i ≠ 18 → i ≠ 19 → gm'.1 i = gm.1 i) ∧ gm'.1 18 = upd (gm.1 18) (8 + Q) (nI N) ∧ gm'.1 9 = upd (gm.1 9) 5 (gm.1 9 5 + 1) ∧ gm'.1 0 10 = gm.1 0 10) ∨ (r = 0 ∧ ∃ s, Ft gx' gm' s)) := by
    intro k b f1 f2 gx gm hk h hw hws step
    obtain ⟨p1, p2, p3, p4, p5, p6, p7, p8, p9⟩ := id h
    have sl := tokS_le (t := t) p3
    have hn := p1.2.1
    have hk4 := tokK_le (t := t) (n := n) (b := b)
    by_cases fin : 1 ≤ k ∧ tokK t n b = 3
    · obtain ⟨k1, k3⟩ := fin
      have hI : PT gx (pu (pu gm 18 (8 + Q) (nI k)) 9 5 (gm.1 9 5 + 1)) t n b := h.k KX.refl rfl (kf _ _ _) (fun j _ _ => by rw [pu_ne (by omega), pu_ne (by omega)])
      obtain ⟨gm', b1, b2, b3⟩ := takes_1 hI
      obtain ⟨gx1, a1, a2, a3, a4, a5, a6⟩ := toX p1 p3 p4
      refine ⟨1, gx1, pu (pu gm 18 (8 + Q) (nI k)) 9 5 (gm.1 9 5 + 1), gm', ?_, ?_, fun K x1 => ?_, a2.k, (kf _ _ _).trans b2.k, Or.inl ⟨rfl, tokA t n b, k, tokA_lt p3 (by omega), b3 gx1 (p1.g a2) a4, k1, hk, fun i i1 i2 i3 => a2.1 i i3, by rw [a2.1 107 (by omega)]; exact hw k1, fun q _ => by rw [a2.1 107 (by omega)], fun j hj => ?_, fun i _ => by rw [a2.1 108 (by omega)], fun i _ => ?_, fun i i0 i1 i2 i3 => ?_, ?_, ?_, ?_⟩⟩
      · unfold f2_readWords_b2
        rw [if_neg (show ¬ (4 : Int32) < nI k from nI_nlt (a := 4) hk (by omega)), a1, bd_some, a5, k3, if_pos (show sgn 3 (tokV t n b) = 59 from rfl), if_neg (nI_nle (by omega) (by omega)), rz1]
      · unfold f6_readsPromise_b81
        rw [well_y p5, bd2_some, if_neg one_ne0.mp, if_neg (nI_ne0 (by omega) (by omega)), p7, k3, if_pos (show nI 3 = (3 : Int32) from rfl), b160]
      · unfold f6_moss_b76 f6_moss_b90
        rw [hI.2.2.2.2.2.2.1, k3, if_pos (show nI 3 = (3 : Int32) from rfl), b1, bd2_some, nx_eq]
      · rw [b2.1 19 (by omega), pu_ne (by omega), pu_ne (by omega), a2.1 108 (by omega)]
        exact hws j hj
      · rw [b2.1 19 (by omega), pu_ne (by omega), pu_ne (by omega)]
      · rw [b2.1 i i0, pu_ne i1, pu_ne i2]
      · rw [b2.1 18 (by omega), pu_ne (by omega), pu_eq]
      · rw [b2.1 9 (by omega), pu_eq, pu_ne (by omega)]
      · rw [b2.2.1 10 (by omega), pu_ne (by omega), pu_ne (by omega)]
    · by_cases go : k < 4 ∧ tokK t n b = 2 ∧ tokV t n b ≤ 9
      · exact step go.1 go.2.1 go.2.2
      · -- a fault
        obtain ⟨gmI, c1, c2, c3⟩ := fail k b f2 gx gm h
        obtain ⟨gx1, a1, a2, a3, a4, a5, a6⟩ := toX p1 p3 p4
        have s200 : tokS t n b ≤ 200 := by omega
        refine ⟨0, gx1, gmI, gmI, ?_, ?_, b76_n s200 c3, a2.k, c2, Or.inr ⟨rfl, _, s200, a3, c3⟩⟩
        · unfold f2_readWords_b2
          rw [if_neg (show ¬ (4 : Int32) < nI k from nI_nlt (a := 4) hk (by omega)), a1, bd_some, a5]
          by_cases k3 : tokK t n b = 3
          · have k0 : k = 0 := by omega
            subst k0
            rw [k3, if_pos (show sgn 3 (tokV t n b) = 59 from rfl), if_pos (show nI 0 ≤ (0 : Int32) by decide), rz0]
          · have n59 : ¬ sgn (tokK t n b) (tokV t n b) = 59 := by
              unfold sgn
              by_cases q0 : tokK t n b = 0
              · rw [if_pos q0]; decide
              · rw [if_neg q0]
                by_cases q1 : tokK t n b = 1
                · rw [if_pos q1]
                  have l := of_decide_eq_true (tokV_L q1)
                  intro z
                  have := (nI_eq (b := 59) (by omega) (by omega)).1 z
                  omega
                · rw [if_neg q1]
                  by_cases q2 : tokK t n b = 2
                  · rw [if_pos q2]; decide
                  · rw [if_neg q2, if_neg k3]; decide
            rw [if_neg n59]
            by_cases k2 : tokK t n b = 2
            · have v99 := tokV_le k2
              rw [k2, if_pos (show sgn 2 (tokV t n b) = 48 from rfl), a6 k2]
              by_cases v9 : 9 < tokV t n b
              · rw [if_pos (show (9 : Int32) < nI (tokV t n b) from nI_lt (a := 9) v9 (by omega)), rz0]
              · have k44 : k = 4 := by omega
                subst k44
                rw [if_neg (show ¬ (9 : Int32) < nI (tokV t n b) from nI_nlt (a := 9) (by omega) (by omega)), if_pos (show nI 4 = (4 : Int32) from rfl), rz0]
            · have n48 : ¬ sgn (tokK t n b) (tokV t n b) = 48 := by
                unfold sgn
                by_cases q0 : tokK t n b = 0
                · rw [if_pos q0]; decide
                · rw [if_neg q0]
                  by_cases q1 : tokK t n b = 1
                  · rw [if_pos q1]
                    have l := of_decide_eq_true (tokV_L q1)
                    intro z
                    have := (nI_eq (b := 48) (by omega) (by omega)).1 z
                    omega
                  · rw [if_neg q1, if_neg k2, if_neg k3]; decide
              rw [if_neg n48, rz0]
        · have e100 : f6_readsPromise_b100 (f6_readsPromise_b81 (f2 + 1)) (nI (8 + Q)) (nI k) gm = some gmI := by
            unfold f6_readsPromise_b100
            by_cases k44 : 4 ≤ k
            · rw [if_pos (show (4 : Int32) ≤ nI k from nI_le (a := 4) k44 (by omega))]
              exact c1
            · rw [if_neg (show ¬ (4 : Int32) ≤ nI k from nI_ge (b := 4) (by omega) (by omega)), p7]
              by_cases k2 : tokK t n b = 2
              · have v99 := tokV_le k2
                rw [k2, if_pos (show nI 2 = (2 : Int32) from rfl), p9 (Or.inr k2), show f6_in (nI (tokV t n b)) 0 9 gm = some (0, gm) from in_n (Or.inr (show (9 : Int32) < nI (tokV t n b) from nI_lt (a := 9) (by omega) (by omega))), bd2_some, if_pos rfl]
                exact c1
              · rw [if_neg (show ¬ nI (tokK t n b) = (2 : Int32) from fun z => k2 ((nI_eq (b := 2) (by omega) (by omega)).1 z))]
                exact c1
          unfold f6_readsPromise_b81
          rw [well_y p5, bd2_some, if_neg one_ne0.mp]
          by_cases k0 : k = 0
          · subst k0
            rw [if_pos nI_0]
            exact e100
          · rw [if_neg (nI_ne0 (by omega) (by omega)), p7, if_neg (show ¬ nI (tokK t n b) = (3 : Int32) from fun z => fin ⟨by omega, (nI_eq (b := 3) (by omega) (by omega)).1 z⟩)]
            exact e100
  intro m
  induction m with
  | zero =>
    intro k b f1 f2 gx gm hk h1 h2 h hw hws
    obtain ⟨f1, rfl⟩ : ∃ f, f1 = f + 1 := ⟨f1 - 1, by omega⟩
    obtain ⟨f2, rfl⟩ : ∃ f, f2 = f + 2 := ⟨f2 - 2, by omega⟩
    exact one k b f1 f2 gx gm (by omega) h hw hws (fun z => by omega)
  | succ m ih =>
    intro k b f1 f2 gx gm hk h1 h2 h hw hws
    obtain ⟨f1, rfl⟩ : ∃ f, f1 = f + 1 := ⟨f1 - 1, by omega⟩
    obtain ⟨f2, rfl⟩ : ∃ f, f2 = f + 2 := ⟨f2 - 2, by omega⟩
    refine one k b f1 f2 gx gm (by omega) h hw hws (fun k4 k2 v9 => ?_)
    obtain ⟨p1, p2, p3, p4, p5, p6, p7, p8, p9⟩ := id h
    obtain ⟨gx1, a1, a2, a3, a4, a5, a6⟩ := toX p1 p3 p4
    obtain ⟨gm1, b1, b2, b3⟩ := takes_1 h
    rw [p9 (Or.inr k2)] at b1
    have h1' := b3 gx1 (p1.g a2) a4
    generalize hv : tokV t n b = v at *
    have kx : KX gx1 (pu (pu gx1 108 (4 * Q + k) (nI v)) 107 Q (nI (k + 1))) := (KX.pu (by omega)).trans (KX.pu (by omega))
    have km : KM gm1 (pu gm1 19 (4 * (8 + Q) + k) (nI v)) := KM.pu (by omega) (by omega) (by omega) (by unfold lowp; omega)
    have h2' : PT (pu (pu gx1 108 (4 * Q + k) (nI v)) 107 Q (nI (k + 1))) (pu gm1 19 (4 * (8 + Q) + k) (nI v)) t n (tokA t n b) := h1'.k kx (by rw [pu_ne (by omega), pu_ne (by omega)]) km (fun j _ _ => by rw [pu_ne (by omega)])
    obtain ⟨r, gx', gmI, gm', c1, c2, c3, c4, c5, c6⟩ := ih (k + 1) (tokA t n b) f1 (f2 + 1) _ _ (by omega) (by omega) (by omega) h2' (fun _ => by rw [pu_eq, up_eq]) (fun j hj => by
      rw [pu_eq, pu_ne (show 108 ≠ 107 by omega), pu_eq]
      by_cases e : j = k
      · subst e
        rw [up_eq, up_eq]
        exact ⟨rfl, v, v9, rfl⟩
      · rw [up_ne (by omega), up_ne (by omega), b2.1 19 (by omega), a2.1 108 (by omega)]
        exact hws j (by omega))
    refine ⟨r, gx', gmI, gm', ?_, ?_, c3, (a2.k.trans kx).trans c4, (b2.k.trans km).trans c5, ?_⟩
    · unfold f2_readWords_b2
      rw [if_neg (show ¬ (4 : Int32) < nI k from nI_nlt (a := 4) (by omega) (by omega)), a1, bd_some, a5, k2, if_neg (show ¬ sgn 2 v = 59 from (show ¬ (48 : Int32) = 59 by decide)), if_pos (show sgn 2 v = 48 from rfl), a6 k2, if_neg (show ¬ (9 : Int32) < nI v from nI_nlt (a := 9) v9 (by omega)), if_neg (show ¬ nI k = (4 : Int32) from fun z => by
        have := (nI_eq (b := 4) (by omega) (by omega)).1 z
        omega), show nI Q * (4 : Int32) = nI (Q * 4) from pk_mul Q 4, nI_add, Nat.mul_comm Q 4, ix_ok (show 4 * Q + k < 32 by omega) (by omega), cl (show 4 * Q + k < 2147483648 by omega), nx_eq, ix_ok hQ (by omega), cl (show Q < 2147483648 by omega), nI_1, nx_eq, nx_eq]
      exact c1
    · have e100 : f6_readsPromise_b100 (f6_readsPromise_b81 (f2 + 1)) (nI (8 + Q)) (nI k) gm = some gmI := by
        unfold f6_readsPromise_b100 f6_readsPromise_b132 f6_readsPromise_b157
        rw [if_neg (show ¬ (4 : Int32) ≤ nI k from nI_ge (b := 4) (by omega) (by omega)), p7, k2, if_pos (show nI 2 = (2 : Int32) from rfl), p9 (Or.inr k2), show f6_in (nI v) 0 9 gm = some (1, gm) from in_ok (lo := 0) (hi := 9) (by omega) v9 (by omega), bd2_some, if_neg one_ne0.mp, b1, bd2_some, well_y h1'.2.2.2.2.1, bd2_some, if_neg one_ne0.mp, show (4 : Int32) * nI (8 + Q) = nI (4 * (8 + Q)) from pk_mul 4 (8 + Q), nI_add, ix_ok (show 4 * (8 + Q) + k < 64 by omega) (by omega), cl (show 4 * (8 + Q) + k < 2147483648 by omega), nx_eq, nI_1, nx_eq]
        exact c2
      unfold f6_readsPromise_b81
      rw [well_y p5, bd2_some, if_neg one_ne0.mp, p7, k2, if_neg (show ¬ nI 2 = (3 : Int32) by decide)]
      split
      · exact e100
      · exact e100
    · rcases c6 with ⟨r1, b', N, d1, d2, d3, d4, d5, d6, d7, d8, d9, d10, d11, d12, d13, d14⟩ | ⟨r0, s, d1⟩
      · have hlt := tokA_lt (t := t) p3 (by omega)
        refine Or.inl ⟨r1, b', N, by omega, d2, d3, d4, fun i i1 i2 i3 => ?_, d6, fun q hq => ?_, d8, fun i hi => ?_, fun i hi => ?_, fun i i0 i1 i2 i3 => ?_, ?_, ?_, ?_⟩
        · rw [d5 i i1 i2 i3, pu_ne i1, pu_ne i2, a2.1 i i3]
        · rw [d7 q hq, pu_eq, up_ne hq, pu_ne (by omega), a2.1 107 (by omega)]
        · rw [d9 i hi, pu_ne (by omega), pu_eq, up_ne (by omega), a2.1 108 (by omega)]
        · rw [d10 i hi, pu_eq, up_ne (by omega), b2.1 19 (by omega)]
        · rw [d11 i i0 i1 i2 i3, pu_ne i3, b2.1 i i0]
        · rw [d12, pu_ne (by omega), b2.1 18 (by omega)]
        · rw [d13, pu_ne (by omega), b2.1 9 (by omega)]
        · rw [d14, pu_ne (by omega), b2.2.1 10 (by omega)]
      · exact Or.inr ⟨r0, s, d1⟩
/-- one number of it -/
def cpS (lo hi : Int32) (row : Nat) (v : Int32) (next : Sg → Option (Int32 × Sg)) (g : Sg) : Option (Int32 × Sg) := bd2 (f2_readNumber lo hi g) fun r g1 => if r = 0 then rz (0 : Int32) g1 else ix v 8 <| nx (pu g1 row (v.toNatClampNeg) (g1.1 121 4)) fun g2 => next g2
def rpS (lo hi : Int32) (row : Nat) (v : Int32) (next : Sg → Option Sg) (g : Sg) : Option Sg := bd2 (f6_number lo hi g) fun r g1 => ix v 16 <| nx (pu g1 row (v.toNatClampNeg) r) fun g2 => next g2
theorem rpS_n {lo hi : Int32} {row Q s : Nat} {next : Sg → Option Sg} {g : Sg} (hr : 13 ≤ row ∧ row ≤ 17) (hQ : Q < 8) (hs : s ≤ 200) (e : g.1 0 8 = nI s) : ∃ g', rpS lo hi row (nI (8 + Q)) next g = next g' ∧ KM g g' ∧ g'.1 0 8 = nI s := by
  unfold rpS
  rw [num_n hs e, bd2_some, ix_ok (show 8 + Q < 16 by omega) (by omega), cl (by omega), nx_eq]
  exact ⟨_, rfl, KM.pu (by omega) (by omega) (by omega) (by unfold lowp; omega), by rw [pu_ne (by omega), e]⟩
theorem stepP {lo hi : Int32} {row rowm Q n b : Nat} {t : Nat → Nat} {nx1 : Sg → Option (Int32 × Sg)} {nx2 : Sg → Option Sg} {gx gm : Sg} (hr : 102 ≤ row ∧ row ≤ 106) (hrm : 13 ≤ rowm ∧ rowm ≤ 17) (hQ : Q < 8) (h : PT gx gm t n b) : (∃ v b' gx' gm', cpS lo hi row (nI Q) nx1 gx = nx1 gx' ∧ rpS lo hi rowm (nI (8 + Q)) nx2 gm = nx2 gm' ∧ v ≤ 99 ∧ ¬ nI v < lo ∧ ¬ hi < nI v ∧ b < b' ∧ PT gx' gm' t n b' ∧ KX gx gx' ∧ KM gm gm' ∧ (∀ i, i ≠ 121 → i ≠ row → gx'.1 i = gx.1 i) ∧ gx'.1 row = upd (gx.1 row) Q (nI v) ∧ (∀ i, i ≠ 0 → i ≠ rowm → gm'.1 i = gm.1 i) ∧ gm'.1 rowm = upd (gm.1 rowm) (8 + Q) (nI v) ∧ gm'.1 0 10 = gm.1 0 10) ∨ (∃ gx' gm' s, cpS lo hi row (nI Q) nx1 gx = some (0, gx') ∧ rpS lo hi rowm (nI (8 + Q)) nx2 gm = nx2 gm' ∧ KX gx gx' ∧ KM gm gm' ∧ Ft gx' gm' s) := by
  have km : ∀ (g : Sg) (v : Int32), KM g (pu g rowm (8 + Q) v) := fun g v => KM.pu (by omega) (by omega) (by omega) (by unfold lowp; omega)
  unfold cpS rpS
  rcases num_ok (lo := lo) (hi := hi) h with ⟨gx1, gm1, v, a1, a2, a3, a4, a5, a6, a7, a8, a9, a10⟩ | ⟨gx1, gm1, s, a1, a2, a3, a4, a5⟩
  · left
    have kx : KX gx1 (pu gx1 row Q (nI v)) := KX.pu (by omega)
    refine ⟨v, tokA t n b, pu gx1 row Q (nI v), pu gm1 rowm (8 + Q) (nI v), ?_, ?_, a8, a9, a10, a6, a5.k kx (pu_ne (by omega)) (km _ _) (fun j _ _ => by rw [pu_ne (by omega)]), a3.k.trans kx, a4.k.trans (km _ _), fun i i1 i2 => ?_, ?_, fun i i1 i2 => ?_, ?_, ?_⟩
    · rw [a1, bd2_some, if_neg one_ne0.mp, ix_ok hQ (by omega), cl (by omega), a7, nx_eq]
    · rw [a2, bd2_some, ix_ok (show 8 + Q < 16 by omega) (by omega), cl (by omega), nx_eq]
    · rw [pu_ne i2, a3.1 i i1]
    · rw [pu_eq, a3.1 row (by omega)]
    · rw [pu_ne i2, a4.1 i i1]
    · rw [pu_eq, a4.1 rowm (by omega)]
    · rw [pu_ne (by omega), a4.2.1 10 (by omega)]
  · right
    refine ⟨gx1, pu gm1 rowm (8 + Q) 0, s, ?_, ?_, a3.k, a4.trans (km _ _), a5.1, a5.2.1, by rw [pu_ne (by omega)]; exact a5.2.2⟩
    · rw [a1, bd2_some, if_pos rfl, rz0]
    · rw [a2, bd2_some, ix_ok (show 8 + Q < 16 by omega) (by omega), cl (by omega), nx_eq]
def cpF (v : Int32) (g : Sg) : Option (Int32 × Sg) := ix v 8 <| nx (pu g 109 (v.toNatClampNeg) (0 : Int32)) fun g34 => nx (pu g34 110 1 ((g34.1 110 1) + (1 : Int32))) fun g35 => bd2 (f2_readWords v g35) fun r38 g37 => rz r38 g37
def NF (next : Sg → Option Sg) : Prop := ∀ g s, s ≤ 200 → g.1 0 8 = nI s → ∃ g', next g = some g' ∧ KM g g' ∧ g'.1 0 8 = nI s
theorem NF.rp {lo hi : Int32} {row Q : Nat} {next : Sg → Option Sg} (h : NF next) (hr : 13 ≤ row ∧ row ≤ 17) (hQ : Q < 8) : NF (rpS lo hi row (nI (8 + Q)) next) := fun g s hs e => by
  obtain ⟨g1, a1, a2, a3⟩ := rpS_n (lo := lo) (hi := hi) (next := next) hr hQ hs e
  obtain ⟨g2, b1, b2, b3⟩ := h g1 s hs a3
  exact ⟨g2, a1.trans b1, a2.trans b2, b3⟩
theorem NF.b81 {Q f : Nat} {x : Int32} (hQ : Q < 8) : NF (f6_readsPromise_b81 (f + 1) (nI (8 + Q)) x) := fun g s hs e => by
  unfold f6_readsPromise_b81 f6_readsPromise_b160
  rw [well_n hs e, bd2_some, if_pos rfl, ix_ok (show 8 + Q < 16 by omega) (by omega), cl (by omega), nx_eq, pu_ne (by omega), nx_eq]
  exact ⟨_, rfl, (KM.pu (by omega) (by omega) (by omega) (by unfold lowp; omega)).trans (KM.pu (by omega) (by omega) (by omega) (by unfold lowp; omega)), by rw [pu_ne (by omega), pu_ne (by omega), e]⟩
theorem promise_ok {gx gm : Sg} {t : Nat → Nat} {n b P Q A S fa fs : Nat} (h : PT gx gm t n b) (hr : RR gx gm P Q A S fa fs) (hQ : Q < 8) : Item f2_readPromise 109 gx gm t n b := by
  obtain ⟨⟨hP1, hP2, hP3⟩, ⟨hQ1, hQ2, -⟩, hA, hS, -⟩ := T1_iff.1 hr.1
  have ex : f2_readPromise gx = cpS 0 (nI P - 1) 102 (nI Q) (cpS 0 5 103 (nI Q) (cpS 0 5 104 (nI Q) (cpS 1 9 105 (nI Q) (cpS 0 99 106 (nI Q) (cpF (nI Q)))))) gx := by
    unfold f2_readPromise
    rw [hQ1, nx_eq, if_neg (show ¬ (8 : Int32) ≤ nI Q from nI_ge (b := 8) hQ (by omega)), hP1]
    rfl
  have em : f6_readsItem 109 gm = (bd (rpS 0 (nI P - 1) 13 (nI (8 + Q)) (rpS 0 5 14 (nI (8 + Q)) (rpS 0 5 15 (nI (8 + Q)) (rpS 1 9 16 (nI (8 + Q)) (rpS 0 99 17 (nI (8 + Q)) (f6_readsPromise_b81 1000 (nI (8 + Q)) 0))))) gm) fun g => some g) := by
    unfold f6_readsItem
    rw [if_neg (by decide), if_pos rfl]
    unfold f6_readsPromise
    rw [hQ2, show (8 : Int32) + nI Q = nI (8 + Q) from nI_add 8 Q, nx_eq, hP2]
    rfl
  have n5 : NF (f6_readsPromise_b81 1000 (nI (8 + Q)) 0) := NF.b81 (f := 999) hQ
  have n4 := n5.rp (lo := 0) (hi := 99) (row := 17) (by omega) hQ
  have n3 := n4.rp (lo := 1) (hi := 9) (row := 16) (by omega) hQ
  have n2 := n3.rp (lo := 0) (hi := 5) (row := 15) (by omega) hQ
  have n1 := n2.rp (lo := 0) (hi := 5) (row := 14) (by omega) hQ
  have bad : ∀ (next : Sg → Option Sg) (gx2 gm2 : Sg) (s : Nat), NF next → f2_readPromise gx = some (0, gx2) → f6_readsItem 109 gm = (bd (next gm2) fun g => some g) → KX gx gx2 → KM gm gm2 → Ft gx2 gm2 s → Item f2_readPromise 109 gx gm t n b := fun next gx2 gm2 s hn e1 e2 k1 k2 hf => by
    obtain ⟨g', b1, b2, b3⟩ := hn gm2 s hf.1 hf.2.2
    exact item_bad e1 (by rw [e2, b1, bd_some]) k1 (k2.trans b2) ⟨hf.1, hf.2.1, b3⟩
  rcases stepP (lo := 0) (hi := nI P - 1) (row := 102) (rowm := 13) (nx1 := cpS 0 5 103 (nI Q) (cpS 0 5 104 (nI Q) (cpS 1 9 105 (nI Q) (cpS 0 99 106 (nI Q) (cpF (nI Q)))))) (nx2 := rpS 0 5 14 (nI (8 + Q)) (rpS 0 5 15 (nI (8 + Q)) (rpS 1 9 16 (nI (8 + Q)) (rpS 0 99 17 (nI (8 + Q)) (f6_readsPromise_b81 1000 (nI (8 + Q)) 0))))) (by omega) (by omega) hQ h with ⟨v1, b1, gx1, gm1, x1, m1, u1, l1, i1, c1, h1, kx1, km1, fx1, rx1, fm1, rm1, z1⟩ | ⟨gx1, gm1, s, x1, m1, kx1, km1, hf⟩
  case inr => exact bad _ _ _ s n1 (ex.trans x1) (by rw [em, m1]) kx1 km1 hf
  rw [x1] at ex
  rw [m1] at em
  rcases stepP (lo := 0) (hi := 5) (row := 103) (rowm := 14) (nx1 := cpS 0 5 104 (nI Q) (cpS 1 9 105 (nI Q) (cpS 0 99 106 (nI Q) (cpF (nI Q))))) (nx2 := rpS 0 5 15 (nI (8 + Q)) (rpS 1 9 16 (nI (8 + Q)) (rpS 0 99 17 (nI (8 + Q)) (f6_readsPromise_b81 1000 (nI (8 + Q)) 0)))) (by omega) (by omega) hQ h1 with ⟨v2, b2, gx2, gm2, x2, m2, u2, l2, i2, c2, h2, kx2, km2, fx2, rx2, fm2, rm2, z2⟩ | ⟨gx2, gm2, s, x2, m2, kx2, km2, hf⟩
  case inr => exact bad _ _ _ s n2 (ex.trans x2) (by rw [em, m2]) (kx1.trans kx2) (km1.trans km2) hf
  rw [x2] at ex
  rw [m2] at em
  rcases stepP (lo := 0) (hi := 5) (row := 104) (rowm := 15) (nx1 := cpS 1 9 105 (nI Q) (cpS 0 99 106 (nI Q) (cpF (nI Q)))) (nx2 := rpS 1 9 16 (nI (8 + Q)) (rpS 0 99 17 (nI (8 + Q)) (f6_readsPromise_b81 1000 (nI (8 + Q)) 0))) (by omega) (by omega) hQ h2 with ⟨v3, b3, gx3, gm3, x3, m3, u3, l3, i3, c3, h3, kx3, km3, fx3, rx3, fm3, rm3, z3⟩ | ⟨gx3, gm3, s, x3, m3, kx3, km3, hf⟩
  case inr => exact bad _ _ _ s n3 (ex.trans x3) (by rw [em, m3]) ((kx1.trans kx2).trans kx3) ((km1.trans km2).trans km3) hf
  rw [x3] at ex
  rw [m3] at em
  rcases stepP (lo := 1) (hi := 9) (row := 105) (rowm := 16) (nx1 := cpS 0 99 106 (nI Q) (cpF (nI Q))) (nx2 := rpS 0 99 17 (nI (8 + Q)) (f6_readsPromise_b81 1000 (nI (8 + Q)) 0)) (by omega) (by omega) hQ h3 with ⟨v4, b4, gx4, gm4, x4, m4, u4, l4, i4, c4, h4, kx4, km4, fx4, rx4, fm4, rm4, z4⟩ | ⟨gx4, gm4, s, x4, m4, kx4, km4, hf⟩
  case inr => exact bad _ _ _ s n4 (ex.trans x4) (by rw [em, m4]) (((kx1.trans kx2).trans kx3).trans kx4) (((km1.trans km2).trans km3).trans km4) hf
  rw [x4] at ex
  rw [m4] at em
  rcases stepP (lo := 0) (hi := 99) (row := 106) (rowm := 17) (nx1 := cpF (nI Q)) (nx2 := f6_readsPromise_b81 1000 (nI (8 + Q)) 0) (by omega) (by omega) hQ h4 with ⟨v5, b5, gx5, gm5, x5, m5, u5, l5, i5, c5, h5, kx5, km5, fx5, rx5, fm5, rm5, z5⟩ | ⟨gx5, gm5, s, x5, m5, kx5, km5, hf⟩
  case inr => exact bad _ _ _ s n5 (ex.trans x5) (by rw [em, m5]) ((((kx1.trans kx2).trans kx3).trans kx4).trans kx5) ((((km1.trans km2).trans km3).trans km4).trans km5) hf
  rw [x5] at ex
  rw [m5] at em
  have kx := (((kx1.trans kx2).trans kx3).trans kx4).trans kx5
  have km := (((km1.trans km2).trans km3).trans km4).trans km5
  have fx : ∀ i, i ≠ 121 → (i < 102 ∨ 106 < i) → gx5.1 i = gx.1 i := fun i i1 i2 => by
    rw [fx5 i i1 (by omega), fx4 i i1 (by omega), fx3 i i1 (by omega), fx2 i i1 (by omega), fx1 i i1 (by omega)]
  have fm : ∀ i, i ≠ 0 → (i < 13 ∨ 17 < i) → gm5.1 i = gm.1 i := fun i i1 i2 => by
    rw [fm5 i i1 (by omega), fm4 i i1 (by omega), fm3 i i1 (by omega), fm2 i i1 (by omega), fm1 i i1 (by omega)]
  have q1 : gx5.1 110 1 = nI Q := by rw [fx 110 (by omega) (by omega)]; exact hQ1
  have q2 : gm5.1 9 5 = nI Q := by rw [fm 9 (by omega) (by omega)]; exact hQ2
  have kF : KX gx5 (pu (pu gx5 109 Q 0) 110 1 (nI (Q + 1))) := (KX.pu (by omega)).trans (KX.pu (by omega))
  have h6 : PT (pu (pu gx5 109 Q 0) 110 1 (nI (Q + 1))) gm5 t n b5 := h5.k kF (by rw [pu_ne (by omega), pu_ne (by omega)]) KM.refl (fun _ _ _ => rfl)
  obtain ⟨r, gx', gmI, gm', w1, w2, w3, w4, w5, w6⟩ := words_go hQ 4 0 b5 1000 1000 _ _ (by omega) (by omega) (by omega) h6 (fun z => by omega) (fun j hj => by omega)
  have ex' : f2_readPromise gx = some (r, gx') := by
    rw [ex]
    unfold cpF f2_readWords
    rw [ix_ok hQ (by omega), cl (by omega), nx_eq, pu_ne (by omega), q1, nI_1, nx_eq, show f2_readWords_b2 1000 (nI Q) 0 (pu (pu gx5 109 Q 0) 110 1 (nI (Q + 1))) = f2_readWords_b2 1000 (nI Q) (nI 0) (pu (pu gx5 109 Q 0) 110 1 (nI (Q + 1))) from rfl, w1, bd2_some]
    rcases w6 with ⟨rfl, -⟩ | ⟨rfl, -⟩
    · rfl
    · rfl
  refine ⟨r, gx', gmI, gm', ex', ?_, w3, (kx.trans kF).trans w4, km.trans w5, ?_⟩
  · rw [em, show f6_readsPromise_b81 1000 (nI (8 + Q)) 0 gm5 = f6_readsPromise_b81 1000 (nI (8 + Q)) (nI 0) gm5 from rfl, w2, bd_some]
  rcases w6 with ⟨r1, b', N, d1, d2, d3, d4, d5, d6, d7, d8, d9, d10, d11, d12, d13, d14⟩ | ⟨r0, s, d1⟩
  case inr => exact Or.inr ⟨r0, s, d1⟩
  refine Or.inl ⟨r1, b', P, Q + 1, A, S, fa, fs, by omega, d2, ?_⟩
  obtain ⟨t1, r2, r3, r4, r5, r6, r7⟩ := hr
  obtain ⟨-, -, ⟨y1, y2, y3⟩, ⟨s1, s2, s3⟩, hp, hq⟩ := T1_iff.1 t1
  have gxf : ∀ i, i ≠ 121 → i ≠ 107 → i ≠ 108 → i ≠ 109 → i ≠ 110 → (i < 102 ∨ 106 < i) → gx'.1 i = gx.1 i := fun i a1 a2 a3 a4 a5 a6 => by
    rw [d5 i a2 a3 a1, pu_ne a5, pu_ne a4, fx i a1 a6]
  have gx110 : gx'.1 110 = upd (gx.1 110) 1 (nI (Q + 1)) := by rw [d5 110 (by omega) (by omega) (by omega), pu_eq, pu_ne (by omega), fx 110 (by omega) (by omega)]
  have gx109 : gx'.1 109 = upd (gx.1 109) Q 0 := by rw [d5 109 (by omega) (by omega) (by omega), pu_ne (by omega), pu_eq, fx 109 (by omega) (by omega)]
  have up5 : ∀ i, 102 ≤ i → i ≤ 106 → gx'.1 i = gx5.1 i := fun i a1 a2 => by rw [d5 i (by omega) (by omega) (by omega), pu_ne (by omega), pu_ne (by omega)]
  have x102 : gx'.1 102 = upd (gx.1 102) Q (nI v1) := by rw [up5 102 (by omega) (by omega), fx5 102 (by omega) (by omega), fx4 102 (by omega) (by omega), fx3 102 (by omega) (by omega), fx2 102 (by omega) (by omega), rx1]
  have x103 : gx'.1 103 = upd (gx.1 103) Q (nI v2) := by rw [up5 103 (by omega) (by omega), fx5 103 (by omega) (by omega), fx4 103 (by omega) (by omega), fx3 103 (by omega) (by omega), rx2, fx1 103 (by omega) (by omega)]
  have x104 : gx'.1 104 = upd (gx.1 104) Q (nI v3) := by rw [up5 104 (by omega) (by omega), fx5 104 (by omega) (by omega), fx4 104 (by omega) (by omega), rx3, fx2 104 (by omega) (by omega), fx1 104 (by omega) (by omega)]
  have x105 : gx'.1 105 = upd (gx.1 105) Q (nI v4) := by rw [up5 105 (by omega) (by omega), fx5 105 (by omega) (by omega), rx4, fx3 105 (by omega) (by omega), fx2 105 (by omega) (by omega), fx1 105 (by omega) (by omega)]
  have x106 : gx'.1 106 = upd (gx.1 106) Q (nI v5) := by rw [up5 106 (by omega) (by omega), rx5, fx4 106 (by omega) (by omega), fx3 106 (by omega) (by omega), fx2 106 (by omega) (by omega), fx1 106 (by omega) (by omega)]
  have gmf : ∀ i, i ≠ 0 → i ≠ 9 → i ≠ 18 → i ≠ 19 → (i < 13 ∨ 17 < i) → gm'.1 i = gm.1 i := fun i a1 a2 a3 a4 a5 => by
    rw [d11 i a1 a2 a3 a4, fm i a1 a5]
  have um5 : ∀ i, 13 ≤ i → i ≤ 17 → gm'.1 i = gm5.1 i := fun i a1 a2 => d11 i (by omega) (by omega) (by omega) (by omega)
  have m13 : gm'.1 13 = upd (gm.1 13) (8 + Q) (nI v1) := by rw [um5 13 (by omega) (by omega), fm5 13 (by omega) (by omega), fm4 13 (by omega) (by omega), fm3 13 (by omega) (by omega), fm2 13 (by omega) (by omega), rm1]
  have m14 : gm'.1 14 = upd (gm.1 14) (8 + Q) (nI v2) := by rw [um5 14 (by omega) (by omega), fm5 14 (by omega) (by omega), fm4 14 (by omega) (by omega), fm3 14 (by omega) (by omega), rm2, fm1 14 (by omega) (by omega)]
  have m15 : gm'.1 15 = upd (gm.1 15) (8 + Q) (nI v3) := by rw [um5 15 (by omega) (by omega), fm5 15 (by omega) (by omega), fm4 15 (by omega) (by omega), rm3, fm2 15 (by omega) (by omega), fm1 15 (by omega) (by omega)]
  have m16 : gm'.1 16 = upd (gm.1 16) (8 + Q) (nI v4) := by rw [um5 16 (by omega) (by omega), fm5 16 (by omega) (by omega), rm4, fm3 16 (by omega) (by omega), fm2 16 (by omega) (by omega), fm1 16 (by omega) (by omega)]
  have m17 : gm'.1 17 = upd (gm.1 17) (8 + Q) (nI v5) := by rw [um5 17 (by omega) (by omega), rm5, fm4 17 (by omega) (by omega), fm3 17 (by omega) (by omega), fm2 17 (by omega) (by omega), fm1 17 (by omega) (by omega)]
  have m18 : gm'.1 18 = upd (gm.1 18) (8 + Q) (nI N) := by rw [d12, fm 18 (by omega) (by omega)]
  have m9 : gm'.1 9 = upd (gm.1 9) 5 (nI (Q + 1)) := by rw [d13, q2, nI_1, fm 9 (by omega) (by omega)]
  have m19 : ∀ i, i < 4 * (8 + Q) → gm'.1 19 i = gm.1 19 i := fun i hi => by rw [d10 i hi, fm 19 (by omega) (by omega)]
  have x108 : ∀ i, i < 4 * Q → gx'.1 108 i = gx.1 108 i := fun i hi => by rw [d9 i hi, pu_ne (by omega), pu_ne (by omega), fx 108 (by omega) (by omega)]
  have x107 : ∀ q, q ≠ Q → gx'.1 107 q = gx.1 107 q := fun q hq => by rw [d7 q hq, pu_ne (by omega), pu_ne (by omega), fx 107 (by omega) (by omega)]
  have vP : v1 < P := by
    rcases Nat.lt_or_ge v1 P with z | z
    · exact z
    · exact absurd (pred_lt (Q := P) (a := nI v1) (by omega) (nI_le z (by omega))) i1
  refine ⟨T1_iff.2 ⟨⟨?_, ?_, hP3⟩, ⟨?_, ?_, by omega⟩, ⟨?_, ?_, y3⟩, ⟨?_, ?_, s3⟩, fun p hp1 => (hp p hp1).cong (fun i hi => by rw [gxf i (by omega) (by omega) (by omega) (by omega) (by omega) (by omega)]) (fun i hi => by rw [gmf i (by omega) (by omega) (by omega) (by omega) (by omega)]), fun q hq1 => ?_⟩, ?_, ?_, r4, r5, ?_, fun q q1 q2 => ?_⟩
  · rw [gx110, up_ne (by omega)]; exact hP1
  · rw [m9, up_ne (by omega)]; exact hP2
  · rw [gx110, up_eq]
  · rw [m9, up_eq]
  · rw [gx110, up_ne (by omega)]; exact y1
  · rw [m9, up_ne (by omega)]; exact y2
  · rw [gx110, up_ne (by omega)]; exact s1
  · rw [m9, up_ne (by omega)]; exact s2
  · by_cases e : q = Q
    · subst e
      unfold TQq
      rw [x102, x103, x104, x105, x106, gx109, m13, m14, m15, m16, m17, m18, d6, gmf 20 (by omega) (by omega) (by omega) (by omega) (by omega), r7 q (Nat.le_refl q) hQ]
      rw [up_eq, up_eq, up_eq, up_eq, up_eq, up_eq, up_eq, up_eq, up_eq, up_eq, up_eq, up_eq]
      exact ⟨rfl, ⟨v1, vP, rfl⟩, rfl, ⟨v2, nlt_le (hi := 5) u2 i2 (by omega), rfl⟩, rfl, ⟨v3, nlt_le (hi := 5) u3 i3 (by omega), rfl⟩, rfl, ⟨v4, nlt_le (hi := 9) u4 i4 (by omega), rfl⟩, rfl, ⟨v5, u5, rfl⟩, rfl, ⟨N, d3, d4, rfl, d8⟩, rfl, ⟨0, by omega, rfl⟩⟩
    · refine (hq q (by omega)).cong (fun i hi => ?_) (fun k hk => x108 _ (by omega)) (fun i hi => ?_) (fun k hk => m19 _ (by omega))
      · rcases (show i = 102 ∨ i = 103 ∨ i = 104 ∨ i = 105 ∨ i = 106 ∨ i = 107 ∨ i = 109 by omega) with rfl | rfl | rfl | rfl | rfl | rfl | rfl
        · rw [x102, up_ne e]
        · rw [x103, up_ne e]
        · rw [x104, up_ne e]
        · rw [x105, up_ne e]
        · rw [x106, up_ne e]
        · exact x107 q e
        · rw [gx109, up_ne e]
      · rcases (show i = 13 ∨ i = 14 ∨ i = 15 ∨ i = 16 ∨ i = 17 ∨ i = 18 ∨ i = 20 by omega) with rfl | rfl | rfl | rfl | rfl | rfl | rfl
        · rw [m13, up_ne (by omega)]
        · rw [m14, up_ne (by omega)]
        · rw [m15, up_ne (by omega)]
        · rw [m16, up_ne (by omega)]
        · rw [m17, up_ne (by omega)]
        · rw [m18, up_ne (by omega)]
        · rw [gmf 20 (by omega) (by omega) (by omega) (by omega) (by omega)]
  · rw [gxf 122 (by omega) (by omega) (by omega) (by omega) (by omega) (by omega)]; exact r2
  · rw [gxf 122 (by omega) (by omega) (by omega) (by omega) (by omega) (by omega)]; exact r3
  · rw [d14, z5, z4, z3, z2, z1]; exact r6
  · rw [gmf 20 (by omega) (by omega) (by omega) (by omega) (by omega)]; exact r7 q (by omega) q2
