/-! ===== both read one token after the other ===== -/
theorem tokS_le {t : Nat → Nat} {n b : Nat} (hb : b ≤ n) : b ≤ tokS t n b ∧ tokS t n b ≤ n := by
  have := spc_le (t := t) (n - b) b
  unfold tokS
  omega
theorem tokA_le {t : Nat → Nat} {n b : Nat} (hb : b ≤ n) : b ≤ tokA t n b ∧ tokA t n b ≤ n := by
  have h := tokS_le (t := t) hb
  unfold tokA
  split
  · omega
  · split
    · have := run_le (t := t) (n - tokS t n b) (tokS t n b)
      omega
    · omega
theorem tokA_lt {t : Nat → Nat} {n b : Nat} (hb : b ≤ n) (hk : tokK t n b ≠ 0) : b < tokA t n b := by
  have h := tokS_le (t := t) hb
  have hs : ¬ tokS t n b = n := fun z => hk (if_pos z)
  unfold tokA
  rw [if_neg hs]
  split
  · rename_i d
    have e : run t (n - tokS t n b) (tokS t n b) = run t (n - tokS t n b - 1) (tokS t n b + 1) := by
      rw [show n - tokS t n b = (n - tokS t n b - 1) + 1 by omega, run, if_pos d]
      rfl
    have := run_le (t := t) (n - tokS t n b - 1) (tokS t n b + 1)
    omega
  · omega
theorem tokV_le {t : Nat → Nat} {n b : Nat} (hk : tokK t n b = 2) : tokV t n b ≤ 99 := by
  unfold tokK at hk
  split at hk
  · omega
  · split at hk
    · split at hk
      · omega
      · omega
    · split at hk
      · omega
      · split at hk <;> omega
theorem tokK_le {t : Nat → Nat} {n b : Nat} : tokK t n b ≤ 4 := by
  unfold tokK
  split
  · omega
  · split
    · split
      · omega
      · split
        · split <;> omega
        · omega
    · split
      · omega
      · split <;> omega
theorem tokV_L {t : Nat → Nat} {n b : Nat} (hk : tokK t n b = 1) : isL (tokV t n b) = true := by
  unfold tokK at hk
  split at hk
  · omega
  · split at hk
    · split at hk
      · omega
      · split at hk
        · split at hk <;> omega
        · omega
    · rename_i d
      split at hk
      · omega
      · split at hk
        · rename_i l
          unfold tokV
          rw [if_neg d]
          exact l
        · omega
/-- the class reads on at b, the reference has the token that stands there -/
def PT (gx gm : Sg) (t : Nat → Nat) (n b : Nat) : Prop := XX gx t n ∧ XM gm t n ∧ b ≤ n ∧ gx.1 121 3 = nI b ∧ gm.1 0 8 = -1 ∧ gm.1 0 4 = nI (tokA t n b) ∧ gm.1 0 5 = nI (tokK t n b) ∧ gm.1 0 6 = nI (tokS t n b) ∧ (tokK t n b = 1 ∨ tokK t n b = 2 → gm.1 0 7 = nI (tokV t n b))
def KX (g g' : Sg) : Prop := (∀ i, (i < 100 ∨ 122 < i ∨ i = 120) → g'.1 i = g.1 i) ∧ g'.1 121 0 = g.1 121 0 ∧ g'.2 = g.2
def KM (g g' : Sg) : Prop := (∀ i j, i ≠ 0 → (i = 2 ∨ lowp i j ∨ (20 < i ∧ i < 28)) → g'.1 i j = g.1 i j) ∧ (∀ j, j = 3 ∨ j = 25 ∨ j = 27 → g'.1 0 j = g.1 0 j) ∧ g'.2 = g.2
theorem KX.refl {g : Sg} : KX g g := ⟨fun _ _ => rfl, rfl, rfl⟩
theorem KM.refl {g : Sg} : KM g g := ⟨fun _ _ _ _ => rfl, fun _ _ => rfl, rfl⟩
theorem KX.trans {g g1 g2 : Sg} (h : KX g g1) (h2 : KX g1 g2) : KX g g2 := ⟨fun i a => (h2.1 i a).trans (h.1 i a), h2.2.1.trans h.2.1, h2.2.2.trans h.2.2⟩
theorem KM.trans {g g1 g2 : Sg} (h : KM g g1) (h2 : KM g1 g2) : KM g g2 := ⟨fun i j a b => (h2.1 i j a b).trans (h.1 i j a b), fun j a => (h2.2.1 j a).trans (h.2.1 j a), h2.2.2.trans h.2.2⟩
theorem GX.k {g g' : Sg} (h : GX g g') : KX g g' := ⟨fun i a => h.1 i (by omega), h.2⟩
theorem GM.k {g g' : Sg} (h : GM g g') : KM g g' := ⟨fun i j a _ => by rw [h.1 i a], fun j a => h.2.1 j (by omega), h.2.2⟩
theorem KX.pu {g : Sg} {i j : Nat} {v : Int32} (h : (100 ≤ i ∧ i < 120) ∨ i = 122) : KX g (pu g i j v) := ⟨fun a ha => pu_ne (by omega), by rw [pu_ne (by omega)], rfl⟩
theorem KM.p0 {g : Sg} {j : Nat} {v : Int32} (h : j ≠ 3 ∧ j ≠ 25 ∧ j ≠ 27) : KM g (pu g 0 j v) := ⟨fun i k a _ => by rw [pu_ne a], fun k a => by rw [pu_eq, up_ne (by omega)], rfl⟩
theorem KM.pu {g : Sg} {i j : Nat} {v : Int32} (h0 : i ≠ 0) (h2 : i ≠ 2) (h3 : ¬ (20 < i ∧ i < 28)) (h : ¬ lowp i j) : KM g (pu g i j v) := by
  refine ⟨fun a k ha hk => ?_, fun k _ => by rw [pu_ne (by omega)], rfl⟩
  by_cases e : a = i
  · subst e
    by_cases e2 : k = j
    · subst e2
      exact absurd (hk.resolve_left h2) (fun z => z.elim h h3)
    · rw [pu_eq, up_ne e2]
  · rw [pu_ne e]
theorem XX.k {g g' : Sg} {t : Nat → Nat} {n : Nat} (h : XX g t n) (f : KX g g') : XX g' t n := ⟨f.2.1.trans h.1, h.2.1, h.2.2.1, fun j hj => by rw [f.1 120 (by omega)]; exact h.2.2.2 j hj⟩
theorem XM.k {g g' : Sg} {t : Nat → Nat} {n : Nat} (h : XM g t n) (f : KM g g') : XM g' t n := ⟨(f.2.1 3 (by omega)).trans h.1, h.2.1, h.2.2.1, fun j hj => by rw [f.1 2 j (by omega) (Or.inl rfl)]; exact h.2.2.2 j hj⟩
/-- what is written elsewhere does not move the tokens -/
theorem PT.k {gx gm gx' gm' : Sg} {t : Nat → Nat} {n b : Nat} (h : PT gx gm t n b) (fx : KX gx gx') (e3 : gx'.1 121 = gx.1 121) (fm : KM gm gm') (e0 : ∀ j, 3 < j → j < 9 → gm'.1 0 j = gm.1 0 j) : PT gx' gm' t n b := by
  obtain ⟨h1, h2, h3, h4, h5, h6, h7, h8, h9⟩ := h
  exact ⟨h1.k fx, h2.k fm, h3, by rw [e3]; exact h4, by rw [e0 8 (by omega) (by omega)]; exact h5, by rw [e0 4 (by omega) (by omega)]; exact h6, by rw [e0 5 (by omega) (by omega)]; exact h7, by rw [e0 6 (by omega) (by omega)]; exact h8, fun z => by rw [e0 7 (by omega) (by omega)]; exact h9 z⟩
/-- a fault at s -/
def Ft (gx gm : Sg) (s : Nat) : Prop := s ≤ 200 ∧ gx.1 121 2 = nI s ∧ gm.1 0 8 = nI s
theorem well_y {g : Sg} (h : g.1 0 8 = -1) : f6_isWell g = some (1, g) := by
  unfold f6_isWell
  rw [h]
  rfl
theorem well_n {g : Sg} {s : Nat} (hs : s ≤ 200) (h : g.1 0 8 = nI s) : f6_isWell g = some (0, g) := by
  unfold f6_isWell
  rw [h, if_pos (show (0 : Int32) ≤ nI s from nI_pos' (by omega)), rz0]
theorem takes_n {g : Sg} {s : Nat} {y : Int32} (hs : s ≤ 200) (h : g.1 0 8 = nI s) : f6_takes y g = some (0, g) := by
  unfold f6_takes
  rw [well_n hs h, bd2_some, if_pos rfl]
theorem takes_0 {g : Sg} (h : g.1 0 8 = -1) : f6_takes 0 g = some (0, pu g 0 8 (g.1 0 6)) := by
  unfold f6_takes
  rw [well_y h, bd2_some, if_neg one_ne0.mp, if_pos rfl]
  rfl
theorem takes_1 {gx gm : Sg} {t : Nat → Nat} {n b : Nat} (h : PT gx gm t n b) : ∃ gm', f6_takes 1 gm = some (gm.1 0 7, gm') ∧ GM gm gm' ∧ ∀ gx', XX gx' t n → gx'.1 121 3 = nI (tokA t n b) → PT gx' gm' t n (tokA t n b) := by
  obtain ⟨h1, h2, h3, h4, h5, h6, h7, h8, h9⟩ := h
  obtain ⟨gm', a1, a2, a3, a4, a5, a6⟩ := advM h2 (tokA_le h3).2 h6
  refine ⟨gm', ?_, a2, fun gx' k1 k2 => ⟨k1, h2.g a2, (tokA_le h3).2, k2, (a2.2.1 8 (by omega)).trans h5, a3, a4, a5, a6⟩⟩
  unfold f6_takes
  rw [well_y h5, bd2_some, if_neg one_ne0.mp, if_neg one_ne0.mp, nx_eq, a1, bd_some]
theorem num_n {g : Sg} {s : Nat} {lo hi : Int32} (hs : s ≤ 200) (h : g.1 0 8 = nI s) : f6_number lo hi g = some (0, g) := by
  unfold f6_number f6_number_b25 f6_number_b26
  have e : f6_in (g.1 0 7) lo hi g = some (0, g) ∨ f6_in (g.1 0 7) lo hi g = some (1, g) := by
    unfold f6_in
    split
    · exact Or.inl rfl
    · split
      · exact Or.inl rfl
      · exact Or.inr rfl
  split
  · rcases e with e | e
    · rw [e, bd2_some, if_pos rfl, takes_n hs h, bd2_some]
    · rw [e, bd2_some, if_neg one_ne0.mp, takes_n hs h, bd2_some]
  · rw [takes_n hs h, bd2_some]
theorem num_ok {gx gm : Sg} {t : Nat → Nat} {n b : Nat} {lo hi : Int32} (h : PT gx gm t n b) : (∃ gx' gm' v, f2_readNumber lo hi gx = some (1, gx') ∧ f6_number lo hi gm = some (nI v, gm') ∧ GX gx gx' ∧ GM gm gm' ∧ PT gx' gm' t n (tokA t n b) ∧ b < tokA t n b ∧ gx'.1 121 4 = nI v ∧ v ≤ 99 ∧ ¬ nI v < lo ∧ ¬ hi < nI v) ∨ (∃ gx' gm' s, f2_readNumber lo hi gx = some (0, gx') ∧ f6_number lo hi gm = some (0, gm') ∧ GX gx gx' ∧ KM gm gm' ∧ Ft gx' gm' s) := by
  obtain ⟨h1, h2, h3, h4, h5, h6, h7, h8, h9⟩ := id h
  have hn := h1.2.1
  have hk4 := tokK_le (t := t) (n := n) (b := b)
  have sl := tokS_le (t := t) h3
  obtain ⟨gx', a1, a2, a3, a4, a5, a6⟩ := toX h1 h3 h4
  unfold f2_readNumber f6_number f6_number_b25 f6_number_b26
  rw [a1, bd_some, a5, h7]
  have bad : f2_readNumber lo hi gx = f2_readNumber lo hi gx → Ft gx' (pu gm 0 8 (nI (tokS t n b))) (tokS t n b) := fun _ => ⟨by omega, a3, by rw [pu_eq, up_eq]⟩
  have tk0 := takes_0 h5
  rw [h8] at tk0
  by_cases hk : tokK t n b = 2
  · have v99 := tokV_le hk
    rw [hk, if_pos (show sgn 2 (tokV t n b) = 48 from rfl), if_pos (show nI 2 = (2 : Int32) from rfl), a6 hk, h9 (Or.inr hk)]
    unfold f6_in
    by_cases c1 : nI (tokV t n b) < lo
    · right
      refine ⟨gx', _, tokS t n b, by rw [if_pos c1, rz0], ?_, a2, KM.p0 (by omega), bad rfl⟩
      rw [if_pos c1, rz0, bd2_some, if_pos rfl, tk0, bd2_some]
    · by_cases c2 : hi < nI (tokV t n b)
      · right
        refine ⟨gx', _, tokS t n b, by rw [if_neg c1, if_pos c2, rz0], ?_, a2, KM.p0 (by omega), bad rfl⟩
        rw [if_neg c1, if_pos c2, rz0, bd2_some, if_pos rfl, tk0, bd2_some]
      · left
        obtain ⟨gm', b1, b2, b3⟩ := takes_1 h
        rw [h9 (Or.inr hk)] at b1
        refine ⟨gx', gm', tokV t n b, by rw [if_neg c1, if_neg c2, rz1], ?_, a2, b2, b3 gx' (h1.g a2) a4, tokA_lt h3 (by omega), a6 hk, v99, c1, c2⟩
        rw [if_neg c1, if_neg c2, rz1, bd2_some, if_neg one_ne0.mp, b1, bd2_some]
  · right
    refine ⟨gx', _, tokS t n b, ?_, ?_, a2, KM.p0 (by omega), bad rfl⟩
    · have : ¬ sgn (tokK t n b) (tokV t n b) = 48 := by
        unfold sgn
        by_cases k0 : tokK t n b = 0
        · rw [if_pos k0]; decide
        · rw [if_neg k0]
          by_cases k1 : tokK t n b = 1
          · rw [if_pos k1]
            have l := of_decide_eq_true (tokV_L k1)
            intro z
            have := (nI_eq (b := 48) (by omega) (by omega)).1 z
            omega
          · rw [if_neg k1, if_neg hk]
            split <;> decide
      rw [if_neg this, rz0]
    · rw [if_neg (show ¬ nI (tokK t n b) = (2 : Int32) from fun z => hk ((nI_eq (b := 2) (by omega) (by omega)).1 z)), tk0, bd2_some]
/-- the end of an item -/
theorem end_ok {gx gm : Sg} {t : Nat → Nat} {n b : Nat} (h : PT gx gm t n b) : ∃ gx' gm', (∀ K x1, f6_moss_b76 K x1 gm = K (x1 + 1) gm') ∧ GX gx gx' ∧ KM gm gm' ∧ ((f2_readEnd gx = some (1, gx') ∧ GM gm gm' ∧ PT gx' gm' t n (tokA t n b) ∧ b < tokA t n b) ∨ (f2_readEnd gx = some (0, gx') ∧ ∃ s, Ft gx' gm' s)) := by
  obtain ⟨h1, h2, h3, h4, h5, h6, h7, h8, h9⟩ := id h
  have hn := h1.2.1
  have hk4 := tokK_le (t := t) (n := n) (b := b)
  have sl := tokS_le (t := t) h3
  obtain ⟨gx', a1, a2, a3, a4, a5, a6⟩ := toX h1 h3 h4
  unfold f2_readEnd
  rw [a1, bd_some, a5]
  by_cases hk : tokK t n b = 3
  · obtain ⟨gm', b1, b2, b3⟩ := takes_1 h
    refine ⟨gx', gm', fun K x1 => ?_, a2, b2.k, Or.inl ⟨by rw [hk]; rfl, b2, b3 gx' (h1.g a2) a4, tokA_lt h3 (by omega)⟩⟩
    unfold f6_moss_b76 f6_moss_b90
    rw [h7, hk, if_pos (show nI 3 = (3 : Int32) from rfl), b1, bd2_some, nx_eq]
  · refine ⟨gx', pu gm 0 8 (nI (tokS t n b)), fun K x1 => ?_, a2, KM.p0 (by omega), Or.inr ⟨?_, tokS t n b, by omega, a3, by rw [pu_eq, up_eq]⟩⟩
    · unfold f6_moss_b76 f6_moss_b90
      rw [h7, if_neg (show ¬ nI (tokK t n b) = (3 : Int32) from fun z => hk ((nI_eq (b := 3) (by omega) (by omega)).1 z)), takes_0 h5, h8, bd2_some, nx_eq]
    · have : ¬ sgn (tokK t n b) (tokV t n b) = 59 := by
        unfold sgn
        by_cases k0 : tokK t n b = 0
        · rw [if_pos k0]; decide
        · rw [if_neg k0]
          by_cases k1 : tokK t n b = 1
          · rw [if_pos k1]
            have l := of_decide_eq_true (tokV_L k1)
            intro z
            have := (nI_eq (b := 59) (by omega) (by omega)).1 z
            omega
          · rw [if_neg k1]
            by_cases k2 : tokK t n b = 2
            · rw [if_pos k2]; decide
            · rw [if_neg k2, if_neg hk]; decide
      rw [if_neg this, rz0]
theorem b76_n {gm : Sg} {s : Nat} (hs : s ≤ 200) (h : gm.1 0 8 = nI s) : ∀ K x1, f6_moss_b76 K x1 gm = K (x1 + 1) gm := by
  intro K x1
  unfold f6_moss_b76 f6_moss_b90
  rw [takes_n hs h, takes_n hs h, bd2_some, nx_eq]
  split <;> rfl
theorem mfail {gm : Sg} {s f : Nat} {x1 : Int32} (hs : s ≤ 200) (h : gm.1 0 8 = nI s) : f6_moss_b25 (f + 1) x1 gm = some (-10 - nI s, gm) := by
  unfold f6_moss_b25 f6_moss_b100
  rw [well_n hs h, bd2_some, if_pos rfl, well_n hs h, bd2_some, if_pos rfl, h]
