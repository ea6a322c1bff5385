/-! ===== how many are in a set ===== -/
def b01 (b : Bool) : Nat := if b then 1 else 0
def cnt (s : Nat) : Nat → Nat → Nat
  | 0, _ => 0
  | n + 1, k => b01 (s.testBit k) + cnt s n (k + 1)
def pc (s : Nat) : Nat := cnt s 8 0
theorem bit_N : ∀ s, s < 256 → ∀ k, k < 8 → ((nI s >>> (nI k &&& 31)) &&& 1) = nI (b01 (s.testBit k)) := by decide +kernel
theorem pc_x0 : ∀ s, s < 256 → (f9_bitCount (nI s) gz6).map (fun q => q.1) = some (nI (pc s)) := by decide +kernel
theorem pc_le : ∀ s, s < 256 → pc s ≤ 8 := by decide +kernel
theorem pc_le6 : ∀ s, s < 64 → pc s ≤ 6 := by decide +kernel
theorem pc_g {x : Int32} {g g' : Sg} {r : Int32} (h : (f9_bitCount x g).map (fun q => q.1) = some r) : f9_bitCount x g' = some (r, g') := by
  have e : ∀ g, f9_bitCount x g = ((f9_bitCount x g').map (fun q => q.1)).map (fun q => (q, g)) := fun g => rfl
  have e2 : (f9_bitCount x g).map (fun q => q.1) = (f9_bitCount x g').map (fun q => q.1) := rfl
  rw [e2] at h
  rw [e g', h]
  rfl
theorem pcX {g : Sg} {s : Nat} (hs : s < 256) : f9_bitCount (nI s) g = some (nI (pc s), g) := pc_g (pc_x0 s hs)
theorem ones_m {g : Sg} {s : Nat} (hs : s < 256) : ∀ (n k f a : Nat), k + n = 8 → n < f → f6_ones_b4 f (nI s) (nI a) (nI k) g = some (nI (a + cnt s n k), g)
  | 0, k, f + 1, a, hk, _ => by
    obtain rfl : k = 8 := by omega
    rfl
  | n + 1, k, f + 1, a, hk, hf => by
    unfold f6_ones_b4
    rw [cnt, bit_N s hs k (by omega)]
    simp (disch := omega) only [ix_ok, cl, lit_add, add_lit, lit_mul, mul_lit, nI_add, sub_lit, le_nn, lt_nn, eq_nn, le_ln, lt_ln, le_nl, lt_nl, eq_nl, eq_ln, ne_m9, ne_m1, bd_some, bd2_some, ↓nx_eq, rz0, rz1, one_ne0, ↓reduceIte, if_pos, if_neg]
    rw [ones_m hs n (k + 1) f _ (by omega) (by omega), Nat.add_assoc]
theorem pcM {g : Sg} {s : Nat} (hs : s < 256) : f6_ones (nI s) g = some (nI (pc s), g) := by
  unfold f6_ones
  have := ones_m (g := g) hs 8 0 1000 0 (by omega) (by omega)
  rw [Nat.zero_add] at this
  exact this
/-! the best of those that stay -/
def Best (good : Nat → Bool) (D : Nat → Prop) (b : Option Nat) : Prop := match b with
  | none => ∀ j, D j → good j = false
  | some b => D b ∧ good b = true ∧ ∀ j, D j → good j = true → pc b < pc j ∨ (pc b = pc j ∧ b ≤ j)
theorem Best.uniq {good : Nat → Bool} {D : Nat → Prop} {a b : Option Nat} (h1 : Best good D a) (h2 : Best good D b) : a = b := by
  cases a with
  | none =>
    cases b with
    | none => rfl
    | some b =>
      have := h1 b h2.1
      rw [h2.2.1] at this
      exact absurd this (by decide)
  | some a =>
    cases b with
    | none =>
      have := h2 a h1.1
      rw [h1.2.1] at this
      exact absurd this (by decide)
    | some b =>
      have q1 := h1.2.2 b h2.1 h2.2.1
      have q2 := h2.2.2 a h1.1 h1.2.1
      exact congrArg some (by omega)
def oI (b : Option Nat) : Int32 := match b with
  | none => -9
  | some b => nI b
def oP (b : Option Nat) : Int32 := match b with
  | none => 7
  | some b => nI (pc b)
section DR
variable {gx0 gm0 : Sg} {S N : Nat} {w : Nat → Nat}
theorem drain_x (hS : S ≤ 27) (hN : N ≤ 20) (hw : ∀ c, w c ≤ 9) : ∀ (n k f : Nat) (g : Sg) (b : Option Nat), k + n = 64 → n < f → W6 g 1 w → g.1 90 3 = nI S → Best (fun s => stay S N (dry s w)) (fun j => j < k) b → ∃ b' g', f5_drain_b21 f (nI N) (oI b) (oP b) (nI k) g = some (oI b', g') ∧ Best (fun s => stay S N (dry s w)) (fun j => j < 64) b' ∧ Fr 131 g g'
  | 0, k, f + 1, g, b, hk, _, _, _, hb => by
    obtain rfl : k = 64 := by omega
    exact ⟨b, g, rfl, hb, Fr.refl⟩
  | n + 1, k, f + 1, g, b, hk, hf, wx, sx, hb => by
    have pk := pc_le6 k (by omega)
    obtain ⟨g1, a1, a2⟩ := staysX (g := g) (s := k) hS hN (by omega) hw wx sx
    have next := fun (g' : Sg) (b' : Option Nat) (e : Fr 131 g g') => drain_x hS hN hw n (k + 1) f g' b' (by omega) (by omega) (wx.fr (e.1 1 (by omega))) (by rw [e.1 90 (by omega)]; exact sx)
    unfold f5_drain_b21
    rw [pcX (by omega), bd2_some]
    by_cases l : oP b ≤ nI (pc k)
    · obtain ⟨b', g', c1, c2, c3⟩ := next g b Fr.refl (by
        cases b with
        | none =>
          have := (nI_leI (a := 7) (b := pc k) (by omega) (by omega)).1 l
          omega
        | some b =>
          have hb6 := pc_le6 b (by have : b < k := hb.1; omega)
          have q := (nI_leI (by omega) (by omega)).1 l
          refine ⟨Nat.lt_succ_of_lt hb.1, hb.2.1, fun j hj gj => ?_⟩
          by_cases e : j = k
          · subst e
            have : b < j := hb.1
            omega
          · exact hb.2.2 j (show j < k by have : j < k + 1 := hj; omega) gj)
      rw [if_pos l]
      simp (disch := omega) only [ix_ok, cl, lit_add, add_lit, lit_mul, mul_lit, nI_add, sub_lit, le_nn, lt_nn, eq_nn, le_ln, lt_ln, le_nl, lt_nl, eq_nl, eq_ln, ne_m9, ne_m1, bd_some, bd2_some, ↓nx_eq, rz0, rz1, one_ne0, ↓reduceIte, if_pos, if_neg, f5_drain_b56]
      exact ⟨b', g', c1, c2, c3⟩
    · rw [if_neg l, a1, bd2_some]
      by_cases gk : stay S N (dry k w) = true
      · obtain ⟨b', g', c1, c2, c3⟩ := next g1 (some k) a2 (by
          refine ⟨Nat.lt_succ_self k, gk, fun j hj gj => ?_⟩
          by_cases e : j = k
          · subst e
            exact Or.inr ⟨rfl, Nat.le_refl _⟩
          · have hj' : j < k := by have : j < k + 1 := hj; omega
            cases b with
            | none => rw [hb j hj'] at gj; exact absurd gj (by decide)
            | some b =>
              have q := hb.2.2 j hj' gj
              have hb6 := pc_le6 b (by have : b < k := hb.1; omega)
              have q2 : ¬ pc b ≤ pc k := fun z => l ((nI_leI (by omega) (by omega)).2 z)
              omega)
        rw [if_pos gk, if_neg one_ne0.mp, pcX (by omega)]
        simp (disch := omega) only [ix_ok, cl, lit_add, add_lit, lit_mul, mul_lit, nI_add, sub_lit, le_nn, lt_nn, eq_nn, le_ln, lt_ln, le_nl, lt_nl, eq_nl, eq_ln, ne_m9, ne_m1, bd_some, bd2_some, ↓nx_eq, rz0, rz1, one_ne0, ↓reduceIte, if_pos, if_neg, f5_drain_b56]
        exact ⟨b', g', c1, c2, a2.trans c3⟩
      · obtain ⟨b', g', c1, c2, c3⟩ := next g1 b a2 (by
          cases b with
          | none =>
            intro j hj
            by_cases e : j = k
            · subst e
              exact Bool.not_eq_true _ ▸ gk
            · exact hb j (show j < k by have : j < k + 1 := hj; omega)
          | some b =>
            refine ⟨Nat.lt_succ_of_lt hb.1, hb.2.1, fun j hj gj => ?_⟩
            by_cases e : j = k
            · subst e
              exact absurd gj gk
            · exact hb.2.2 j (show j < k by have : j < k + 1 := hj; omega) gj)
        rw [if_neg gk, if_pos rfl]
        simp (disch := omega) only [ix_ok, cl, lit_add, add_lit, lit_mul, mul_lit, nI_add, sub_lit, le_nn, lt_nn, eq_nn, le_ln, lt_ln, le_nl, lt_nl, eq_nl, eq_ln, ne_m9, ne_m1, bd_some, bd2_some, ↓nx_eq, rz0, rz1, one_ne0, ↓reduceIte, if_pos, if_neg, f5_drain_b56]
        exact ⟨b', g', c1, c2, a2.trans c3⟩
theorem drain_m (hS : S ≤ 27) (hN : N ≤ 20) (hw : ∀ c, w c ≤ 9) : ∀ (n f : Nat) (g : Sg) (b : Option Nat), n ≤ 64 → n < f → (∀ c, c < 6 → g.1 21 (7 + c) = nI (w c)) → g.1 9 3 = nI S → Best (fun s => stay S N (dry s w)) (fun j => n ≤ j ∧ j < 64) b → ∃ b' g', f6_drain_b23 f (nI N) (oI b) (nI n - 1) g = some (oI b', g') ∧ Best (fun s => stay S N (dry s w)) (fun j => j < 64) b' ∧ Fr 28 g g'
  | 0, f + 1, g, b, _, _, _, _, hb => by
    refine ⟨b, g, rfl, ?_, Fr.refl⟩
    cases b with
    | none => exact fun j hj => hb j ⟨Nat.zero_le _, hj⟩
    | some b => exact ⟨hb.1.2, hb.2.1, fun j hj => hb.2.2 j ⟨Nat.zero_le _, hj⟩⟩
  | k + 1, f + 1, g, b, hn, hf, wm, sm, hb => by
    have pk := pc_le6 k (by omega)
    obtain ⟨g1, a1, a2⟩ := staysM (g := g) (s := k) hS hN (by omega) hw wm sm
    have next := fun (g' : Sg) (b' : Option Nat) (e : Fr 28 g g') => drain_m hS hN hw k f g' b' (by omega) (by omega) (fun c hc => by rw [e.1 21 (by omega)]; exact wm c hc) (by rw [e.1 9 (by omega)]; exact sm)
    have hs : nI k + (-1) = nI k - 1 := (Int32.sub_eq_add_neg _ _).symm
    have b44 : (∀ j, b = some j → pc k ≤ pc j) → ∃ b' g', f6_drain_b44 (f6_drain_b23 f) (nI N) (oI b) (nI k) g = some (oI b', g') ∧ Best (fun s => stay S N (dry s w)) (fun j => j < 64) b' ∧ Fr 28 g g' := by
      intro hp
      unfold f6_drain_b44
      rw [a1, bd2_some]
      by_cases gk : stay S N (dry k w) = true
      · obtain ⟨b', g', c1, c2, c3⟩ := next g1 (some k) a2 (by
          refine ⟨⟨Nat.le_refl k, by omega⟩, gk, fun j hj gj => ?_⟩
          by_cases e : j = k
          · subst e
            exact Or.inr ⟨rfl, Nat.le_refl _⟩
          · have hj' : k + 1 ≤ j ∧ j < 64 := ⟨by have := hj.1; omega, hj.2⟩
            cases b with
            | none => rw [hb j hj'] at gj; exact absurd gj (by decide)
            | some b =>
              have q := hb.2.2 j hj' gj
              have q2 := hp b rfl
              omega)
        rw [if_pos gk, if_neg one_ne0.mp]
        unfold f6_drain_b58
        rw [nx_eq, hs]
        exact ⟨b', g', c1, c2, a2.trans c3⟩
      · obtain ⟨b', g', c1, c2, c3⟩ := next g1 b a2 (by
          cases b with
          | none =>
            intro j hj
            by_cases e : j = k
            · subst e
              exact Bool.not_eq_true _ ▸ gk
            · exact hb j ⟨by have := hj.1; omega, hj.2⟩
          | some b =>
            refine ⟨⟨by have := hb.1.1; omega, hb.1.2⟩, hb.2.1, fun j hj gj => ?_⟩
            by_cases e : j = k
            · subst e
              exact absurd gj gk
            · exact hb.2.2 j ⟨by have := hj.1; omega, hj.2⟩ gj)
        rw [if_neg gk, if_pos rfl]
        unfold f6_drain_b57 f6_drain_b58
        rw [nx_eq, hs]
        exact ⟨b', g', c1, c2, a2.trans c3⟩
    unfold f6_drain_b23
    rw [nI_pred, if_neg (nI_pos (by omega))]
    cases b with
    | none =>
      rw [if_pos (show oI none = -9 from rfl)]
      exact b44 (fun j hj => absurd hj (by simp))
    | some b =>
      have hb64 := hb.1.2
      have hb6 := pc_le6 b hb64
      rw [if_neg (show ¬ oI (some b) = -9 from (ne_m9 (by omega)).mp), pcM (by omega), bd2_some, show oI (some b) = nI b from rfl, pcM (by omega), bd2_some]
      by_cases l : pc b < pc k
      · rw [if_pos (nI_lt l (by omega))]
        obtain ⟨b', g', c1, c2, c3⟩ := next g (some b) Fr.refl (by
          refine ⟨⟨by have := hb.1.1; omega, hb.1.2⟩, hb.2.1, fun j hj gj => ?_⟩
          by_cases e : j = k
          · subst e
            exact Or.inl l
          · exact hb.2.2 j ⟨by have := hj.1; omega, hj.2⟩ gj)
        unfold f6_drain_b57 f6_drain_b58
        rw [nx_eq, hs]
        exact ⟨b', g', c1, c2, c3⟩
      · rw [if_neg (nI_nlt (by omega) (by omega))]
        exact b44 (fun j hj => by obtain rfl := Option.some.inj hj; omega)
end DR
theorem s_drain (a : Int32) : St Rel (f5_drain a) (f6_drain a) := by
  refine St.fr (fun gx gm P Q A S h _ => ?_)
  obtain ⟨w, w9, wx, wm⟩ := h.t.wets
  obtain ⟨sx, sm, -, hS⟩ := h.t.S_
  unfold f5_drain f6_drain
  rw [nx_eq]
  rcases tri a (n := 21) (by omega) with ⟨k, hk, rfl⟩ | q
  · have ea : f6_in (nI k) 0 20 (t0 gm) = some (1, t0 gm) := in_ok (lo := 0) (hi := 20) (by omega) (by omega) (by omega)
    obtain ⟨b1, g1, a1, a2, a3⟩ := drain_x (N := k) hS (by omega) w9 64 0 1000 gx none (by omega) (by omega) wx sx (fun j hj => absurd hj (Nat.not_lt_zero _))
    obtain ⟨b2, g2, c1, c2, c3⟩ := drain_m (N := k) hS (by omega) w9 64 1000 (t0 gm) none (by omega) (by omega) wm sm (fun j hj => absurd hj (by omega))
    obtain rfl := a2.uniq c2
    rw [show oI none = -9 from rfl, show oP none = 7 from rfl, nI_0] at a1
    rw [show oI none = -9 from rfl, show nI 64 - 1 = nI 63 from nI_pred 63] at c1
    rw [ea, bd2_some, if_neg one_ne0.mp, if_neg (nI_pos (by omega)), if_pos (show nI k ≤ (20 : Int32) from nI_le (b := 20) (by omega) (by omega)), a1, show (63 : Int32) = nI 63 from rfl, c1]
    exact ⟨_, _, _, rfl, rfl, a3.x, c3.m⟩
  · have ea : f6_in a 0 20 (t0 gm) = some (0, t0 gm) := in_no (hi := 20) (by omega) q
    rw [ea, bd2_some, if_pos rfl]
    refine ⟨_, _, _, ?_, rfl, FX.refl, FM.refl⟩
    rcases q with q | q
    · rw [if_pos q]
    · rw [if_neg (show ¬ a ≤ (20 : Int32) from fun e => by
        have q2 : (20 : Int32) < a := lt_of_le6 (n := 20) (by omega) q
        rw [Int32.le_iff_toInt_le] at e
        rw [Int32.lt_iff_toInt_lt] at q2
        omega)]
      split <;> rfl
