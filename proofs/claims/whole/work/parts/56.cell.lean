/-! ===== what dries, and what is seen ===== -/
def FX (g g' : Sg) : Prop := (∀ i, i ≠ 131 → i ≠ 132 → g'.1 i = g.1 i) ∧ g'.2 = g.2
def FM (g g' : Sg) : Prop := (∀ i, i ≠ 0 → i ≠ 28 → i ≠ 29 → g'.1 i = g.1 i) ∧ (∀ j, j ≠ 0 → g'.1 0 j = g.1 0 j) ∧ g'.2 = g.2
theorem FX.refl {g : Sg} : FX g g := ⟨fun _ _ _ => rfl, rfl⟩
theorem FM.refl {g : Sg} : FM g g := ⟨fun _ _ _ _ => rfl, fun _ _ => rfl, rfl⟩
theorem FX.trans {g g1 g2 : Sg} (h : FX g g1) (h2 : FX g1 g2) : FX g g2 := ⟨fun i a b => (h2.1 i a b).trans (h.1 i a b), h2.2.trans h.2⟩
theorem FM.trans {g g1 g2 : Sg} (h : FM g g1) (h2 : FM g1 g2) : FM g g2 := ⟨fun i a b c => (h2.1 i a b c).trans (h.1 i a b c), fun j a => (h2.2.1 j a).trans (h.2.1 j a), h2.2.2.trans h.2.2⟩
theorem Fr.x {g g' : Sg} (h : Fr 131 g g') : FX g g' := ⟨fun i a _ => h.1 i a, h.2⟩
theorem Fr.x2 {g g' : Sg} (h : Fr 132 g g') : FX g g' := ⟨fun i _ a => h.1 i a, h.2⟩
theorem Fr.m {g g' : Sg} (h : Fr 28 g g') : FM g g' := ⟨fun i _ a _ => h.1 i a, fun j _ => by rw [h.1 0 (by omega)], h.2⟩
theorem Fr.m2 {g g' : Sg} (h : Fr 29 g g') : FM g g' := ⟨fun i _ _ a => h.1 i a, fun j _ => by rw [h.1 0 (by omega)], h.2⟩
theorem FM.t {gm : Sg} : FM gm (t0 gm) := ⟨fun i a _ _ => t0_i gm a, fun j a => t0_0 gm a, rfl⟩
theorem RelX.fr {gx gm gx' gm' : Sg} {P Q A S : Nat} (h : RelX gx.1 gm.1 P Q A S) (a : FX gx gx') (b : FM gm gm') : RelX gx'.1 gm'.1 P Q A S := h.scr a.1 b.1 b.2.1
theorem St.fr {F G : Sg → Option (Int32 × Sg)} (h : ∀ gx gm P Q A S, RelX gx.1 gm.1 P Q A S → gx.2 = gm.2 → ∃ r gx' gm', F gx = some (r, gx') ∧ G gm = some (r, gm') ∧ FX gx gx' ∧ FM (t0 gm) gm') : St Rel F G := by
  intro gx gm hr
  obtain ⟨⟨P, Q, A, S, h1⟩, h2⟩ := id hr
  obtain ⟨r, gx', gm', e1, e2, e3, e4⟩ := h gx gm P Q A S h1 h2
  exact ⟨r, gx', gm', e1, e2, ⟨P, Q, A, S, h1.t.fr e3 e4⟩, e3.2.trans (h2.trans e4.2.2.symm)⟩
def WL (g : Sg) (a k : Nat) (u : Nat → Nat) : Prop := ∀ c, c < k → g.1 a c = nI (u c)
theorem WL.step {g : Sg} {a k : Nat} {u : Nat → Nat} {v : Int32} (h : WL g a k u) (hv : v = nI (u k)) : WL (pu g a k v) a (k + 1) u := by
  intro c hc
  rw [pu_eq]
  by_cases e : c = k
  · subst e
    rw [up_eq, hv]
  · rw [up_ne e, h c (by omega)]
def dry (s : Nat) (w : Nat → Nat) (c : Nat) : Nat := if s.testBit c then 0 else w c
theorem begin_x {w : Nat → Nat} {s : Nat} (hs : s < 256) : ∀ (n k f : Nat) (g : Sg), k + n = 6 → n < f → W6 g 1 w → WL g 131 k (dry s w) → ∃ g', f5_beginWetThen_b2 f (nI s) (nI k) g = some g' ∧ W6 g' 131 (dry s w) ∧ Fr 131 g g'
  | 0, k, f + 1, g, hk, _, _, h => by
    obtain rfl : k = 6 := by omega
    exact ⟨g, rfl, h, Fr.refl⟩
  | n + 1, k, f + 1, g, hk, hf, h1, h => by
    have e := h1 k (by omega)
    unfold f5_beginWetThen_b2
    by_cases l : s.testBit k = true
    · rw [holds_y hs (by omega) l]
      obtain ⟨g', e1, e2, e3⟩ := begin_x hs n (k + 1) f _ (by omega) (by omega) (h1.fr (pu_ne (by omega))) (h.step (v := nI 0) (by rw [dry, if_pos l]))
      simp (disch := omega) only [ix_ok, cl, lit_add, add_lit, lit_mul, mul_lit, nI_add, sub_lit, le_nn, lt_nn, eq_nn, le_ln, lt_ln, le_nl, lt_nl, eq_nl, eq_ln, ne_m9, ne_m1, bd_some, bd2_some, ↓nx_eq, rz0, rz1, one_ne0, ↓reduceIte, if_pos, if_neg, f5_beginWetThen_b34]
      exact ⟨g', e1, e2, Fr.pu.trans e3⟩
    · rw [holds_n hs (by omega) (Bool.not_eq_true _ ▸ l)]
      obtain ⟨g', e1, e2, e3⟩ := begin_x hs n (k + 1) f _ (by omega) (by omega) (h1.fr (pu_ne (by omega))) (h.step (v := nI (w k)) (by rw [dry, if_neg l]))
      simp (disch := omega) only [ix_ok, cl, lit_add, add_lit, lit_mul, mul_lit, nI_add, sub_lit, le_nn, lt_nn, eq_nn, le_ln, lt_ln, le_nl, lt_nl, eq_nl, eq_ln, ne_m9, ne_m1, bd_some, bd2_some, ↓nx_eq, rz0, rz1, one_ne0, ↓reduceIte, if_pos, if_neg, f5_beginWetThen_b34, e]
      exact ⟨g', e1, e2, Fr.pu.trans e3⟩
theorem beginX {w : Nat → Nat} {s : Nat} {g : Sg} (hs : s < 256) (h : W6 g 1 w) : ∃ g', f5_beginWetThen (nI s) g = some g' ∧ W6 g' 131 (dry s w) ∧ Fr 131 g g' := begin_x hs 6 0 1000 g (by omega) (by omega) h (fun c hc => absurd hc (by omega))
theorem wetNow_m {w : Nat → Nat} : ∀ (n k f : Nat) (g : Sg), k + n = 6 → n < f → (∀ c, c < 6 → g.1 21 (7 + c) = nI (w c)) → WL g 28 k w → ∃ g', f6_wetNow_b2 f (nI k) g = some g' ∧ W6 g' 28 w ∧ Fr 28 g g'
  | 0, k, f + 1, g, hk, _, _, h => by
    obtain rfl : k = 6 := by omega
    exact ⟨g, rfl, h, Fr.refl⟩
  | n + 1, k, f + 1, g, hk, hf, h1, h => by
    have e := h1 k (by omega)
    unfold f6_wetNow_b2
    obtain ⟨g', e1, e2, e3⟩ := wetNow_m n (k + 1) f _ (by omega) (by omega) (fun c hc => by rw [pu_ne (by omega)]; exact h1 c hc) (h.step (v := nI (w k)) rfl)
    simp (disch := omega) only [ix_ok, cl, lit_add, add_lit, lit_mul, mul_lit, nI_add, sub_lit, le_nn, lt_nn, eq_nn, le_ln, lt_ln, le_nl, lt_nl, eq_nl, eq_ln, ne_m9, ne_m1, bd_some, bd2_some, ↓nx_eq, rz0, rz1, one_ne0, ↓reduceIte, if_pos, if_neg, e]
    exact ⟨g', e1, e2, Fr.pu.trans e3⟩
theorem wetNowM {w : Nat → Nat} {g : Sg} (h : ∀ c, c < 6 → g.1 21 (7 + c) = nI (w c)) : ∃ g', f6_wetNow g = some g' ∧ W6 g' 28 w ∧ Fr 28 g g' := wetNow_m 6 0 1000 g (by omega) (by omega) h (fun c hc => absurd hc (by omega))
theorem RelX.wets {x m : Nat → Nat → Int32} {P Q A S : Nat} (h : RelX x m P Q A S) : ∃ w : Nat → Nat, (∀ c, w c ≤ 9) ∧ (∀ c, c < 6 → x 1 c = nI (w c)) ∧ ∀ c, c < 6 → m 21 (7 + c) = nI (w c) := by
  have k : ∀ c, ∃ v, v ≤ 9 ∧ (c < 6 → x 1 c = nI v ∧ m 21 (7 + c) = nI v) := fun c => by
    by_cases hc : c < 6
    · obtain ⟨e1, v, v9, e2⟩ := h.wet hc
      exact ⟨v, v9, fun _ => ⟨e2, e1.trans e2⟩⟩
    · exact ⟨0, by omega, fun q => absurd q hc⟩
  exact ⟨fun c => (k c).choose, fun c => (k c).choose_spec.1, fun c hc => ((k c).choose_spec.2 hc).1, fun c hc => ((k c).choose_spec.2 hc).2⟩
theorem slide_go {S c : Nat} (hS : S ≤ 27) (hc : c < 6) : ∀ (n t f1 f2 : Nat) (gx gm : Sg) (w : Nat → Nat), t + n = 51 → n < f1 → n < f2 → (∀ c, c < 6 → w c ≤ 9) → W6 gx 131 w → W6 gm 28 w → gx.1 90 3 = nI S → gm.1 9 3 = nI S → ∃ r gx' gm', f5_firstSlide_b7 f1 (nI c) (nI t) gx = some (r, gx') ∧ f6_slides_b6 f2 (nI c) (nI t) gm = some (r, gm') ∧ Fr 131 gx gx' ∧ Fr 28 gm gm'
  | 0, t, f1 + 1, f2 + 1, gx, gm, w, ht, _, _, _, _, _, _, _ => by
    obtain rfl : t = 51 := by omega
    exact ⟨_, gx, gm, rfl, rfl, Fr.refl, Fr.refl⟩
  | n + 1, t, f1 + 1, f2 + 1, gx, gm, w, ht, h1, h2, hw, wx, wm, sx, sm => by
    obtain ⟨gx1, a1, a2, a3⟩ := yearX (a := 131) (by omega) sx hS hw wx
    obtain ⟨gm1, b1, b2, b3⟩ := yearM sm hS hw wm
    unfold f5_firstSlide_b7 f6_slides_b6
    rw [a1, b1]
    by_cases l : ySl S w c = true
    · have t1 := (tb_N (ySet S w) ySet_lt c (by omega)).2 ((ySet_bit (by omega)).trans l)
      rw [bd2_some, bd2_some, if_pos t1, holds_y ySet_lt (by omega) ((ySet_bit (by omega)).trans l)]
      simp (disch := omega) only [ix_ok, cl, lit_add, add_lit, lit_mul, mul_lit, nI_add, sub_lit, le_nn, lt_nn, eq_nn, le_ln, lt_ln, le_nl, lt_nl, eq_nl, eq_ln, ne_m9, ne_m1, bd_some, bd2_some, ↓nx_eq, rz0, rz1, one_ne0, ↓reduceIte, if_pos, if_neg]
      exact ⟨_, _, _, rfl, rfl, a3, b3⟩
    · have t1 : ¬ ((nI (ySet S w) >>> (nI c &&& 31)) &&& 1) = (1 : Int32) := fun q => l ((ySet_bit (by omega)).symm.trans ((tb_N (ySet S w) ySet_lt c (by omega)).1 q))
      rw [bd2_some, bd2_some, if_neg t1, holds_n ySet_lt (by omega) ((ySet_bit (by omega)).trans (Bool.not_eq_true _ ▸ l))]
      obtain ⟨r, gx2, gm2, c1, c2, c3, c4⟩ := slide_go hS hc n (t + 1) f1 f2 gx1 gm1 (yNext S w) (by omega) (by omega) (by omega) (fun _ _ => yNext_le) a2 b2 (by rw [a3.1 90 (by omega)]; exact sx) (by rw [b3.1 9 (by omega)]; exact sm)
      simp (disch := omega) only [ix_ok, cl, lit_add, add_lit, lit_mul, mul_lit, nI_add, sub_lit, le_nn, lt_nn, eq_nn, le_ln, lt_ln, le_nl, lt_nl, eq_nl, eq_ln, ne_m9, ne_m1, bd_some, bd2_some, ↓nx_eq, rz0, rz1, one_ne0, ↓reduceIte, if_pos, if_neg]
      exact ⟨r, gx2, gm2, c1, c2, a3.trans c3, b3.trans c4⟩
theorem dry0 {w : Nat → Nat} : dry 0 w = w := by
  funext c
  rw [dry, Nat.zero_testBit]
  rfl
theorem slides_ok {gx gm : Sg} {P Q A S c : Nat} (h : RelX gx.1 gm.1 P Q A S) (hc : c < 6) : ∃ r gx' gm', f5_firstSlide (nI c) gx = some (r, gx') ∧ f6_slides (nI c) gm = some (r, gm') ∧ FX gx gx' ∧ FM gm gm' := by
  obtain ⟨w, w9, wx, wm⟩ := h.wets
  obtain ⟨sx, sm, -, hS⟩ := h.S_
  obtain ⟨gx1, a1, a2, a3⟩ := beginX (s := 0) (by omega) wx
  obtain ⟨gm1, b1, b2, b3⟩ := wetNowM wm
  rw [dry0] at a2
  obtain ⟨r, gx2, gm2, c1, c2, c3, c4⟩ := slide_go hS hc 50 1 1000 1000 gx1 gm1 w (by omega) (by omega) (by omega) (fun c _ => w9 c) a2 b2 (by rw [a3.1 90 (by omega)]; exact sx) (by rw [b3.1 9 (by omega)]; exact sm)
  refine ⟨r, gx2, gm2, ?_, ?_, (a3.trans c3).x, (b3.trans c4).m⟩
  · unfold f5_firstSlide
    rw [show (0 : Int32) = nI 0 from rfl, a1, bd_some]
    exact c1
  · unfold f6_slides
    rw [b1, bd_some]
    exact c2
theorem s_cell (a b : Int32) : St Rel (f5_cell a b) (f6_cell a b) := by
  refine St.fr (fun gx gm P Q A S h _ => ?_)
  obtain ⟨hx, hm, hQ⟩ := h.t.Q_
  unfold f5_cell f6_cell
  rw [nx_eq]
  rcases tri a (n := 6) (by omega) with ⟨k, hk, rfl⟩ | hn
  · have e1 := (h.t.cut hk).1
    have e2 := (h.t.wet hk).1
    rw [(cell_y (g := gx) hk).1, (cell_y (g := t0 gm) hk).2]
    rcases tri b (n := 4) (by omega) with ⟨j, hj, rfl⟩ | q
    · have hb : f6_in (nI j) 0 3 (t0 gm) = some (1, t0 gm) := in_ok (lo := 0) (hi := 3) (by omega) (by omega) (by omega)
      rcases (show j = 0 ∨ j = 1 ∨ j = 2 ∨ j = 3 by omega) with rfl | rfl | rfl | rfl
      · simp (disch := omega) only [ix_ok, cl, lit_add, add_lit, lit_mul, mul_lit, nI_add, sub_lit, le_nn, lt_nn, eq_nn, le_ln, lt_ln, le_nl, lt_nl, eq_nl, eq_ln, ne_m9, ne_m1, bd_some, bd2_some, ↓nx_eq, rz0, rz1, one_ne0, ↓reduceIte, if_pos, if_neg, hb, e1]
        exact ⟨_, _, _, rfl, rfl, FX.refl, FM.refl⟩
      · simp (disch := omega) only [ix_ok, cl, lit_add, add_lit, lit_mul, mul_lit, nI_add, sub_lit, le_nn, lt_nn, eq_nn, le_ln, lt_ln, le_nl, lt_nl, eq_nl, eq_ln, ne_m9, ne_m1, bd_some, bd2_some, ↓nx_eq, rz0, rz1, one_ne0, ↓reduceIte, if_pos, if_neg, hb, e2]
        exact ⟨_, _, _, rfl, rfl, FX.refl, FM.refl⟩
      · simp (disch := omega) only [ix_ok, cl, lit_add, add_lit, lit_mul, mul_lit, nI_add, sub_lit, le_nn, lt_nn, eq_nn, le_ln, lt_ln, le_nl, lt_nl, eq_nl, eq_ln, ne_m9, ne_m1, bd_some, bd2_some, ↓nx_eq, rz0, rz1, one_ne0, ↓reduceIte, if_pos, if_neg, hb, lyInX hx hQ, lyInM h.t]
        exact ⟨_, _, _, rfl, rfl, FX.refl, FM.refl⟩
      · obtain ⟨r, gx2, gm2, c1, c2, c3, c4⟩ := slides_ok h.t hk
        simp (disch := omega) only [ix_ok, cl, lit_add, add_lit, lit_mul, mul_lit, nI_add, sub_lit, le_nn, lt_nn, eq_nn, le_ln, lt_ln, le_nl, lt_nl, eq_nl, eq_ln, ne_m9, ne_m1, bd_some, bd2_some, ↓nx_eq, rz0, rz1, one_ne0, ↓reduceIte, if_pos, if_neg, hb, c1, c2]
        exact ⟨_, _, _, rfl, rfl, c3, c4⟩
    · have hb : f6_in b 0 3 (t0 gm) = some (0, t0 gm) := in_no (hi := 3) (by omega) q
      have b0 : ¬ b = 0 := fun e => by subst e; exact absurd q (by decide)
      have b1 : ¬ b = 1 := fun e => by subst e; exact absurd q (by decide)
      have b2 : ¬ b = 2 := fun e => by subst e; exact absurd q (by decide)
      have b3 : ¬ b = 3 := fun e => by subst e; exact absurd q (by decide)
      simp only [bd2_some, hb, if_neg b0, if_neg b1, if_neg b2, if_neg b3, one_ne0, if_false, if_true]
      exact ⟨_, _, _, rfl, rfl, FX.refl, FM.refl⟩
  · rw [(cell_n (g := gx) hn).1, (cell_n (g := t0 gm) hn).2, bd2_some, bd2_some, if_pos rfl, if_pos rfl]
    exact ⟨_, _, _, rfl, rfl, FX.refl, FM.refl⟩
/-! drain: how long it stays -/
def stay (S : Nat) : Nat → (Nat → Nat) → Bool
  | 0, _ => true
  | n + 1, w => if ySet S w = 0 then stay S n (yNext S w) else false
theorem stay_x {S N : Nat} (hS : S ≤ 27) (hN : N ≤ 20) : ∀ (n t f : Nat) (g : Sg) (w : Nat → Nat), t + n = N → n < f → (∀ c, c < 6 → w c ≤ 9) → W6 g 131 w → g.1 90 3 = nI S → ∃ g', f5_staysIfDry_b7 f (nI N) (nI t) g = some (if stay S n w then 1 else 0, g') ∧ Fr 131 g g'
  | 0, t, f + 1, g, w, ht, _, _, _, _ => by
    obtain rfl : t = N := by omega
    refine ⟨g, ?_, Fr.refl⟩
    unfold f5_staysIfDry_b7
    simp (disch := omega) only [ix_ok, cl, lit_add, add_lit, lit_mul, mul_lit, nI_add, sub_lit, le_nn, lt_nn, eq_nn, le_ln, lt_ln, le_nl, lt_nl, eq_nl, eq_ln, ne_m9, ne_m1, bd_some, bd2_some, ↓nx_eq, rz0, rz1, one_ne0, ↓reduceIte, if_pos, if_neg]
    rfl
  | n + 1, t, f + 1, g, w, ht, hf, hw, wx, sx => by
    obtain ⟨g1, a1, a2, a3⟩ := yearX (a := 131) (by omega) sx hS hw wx
    unfold f5_staysIfDry_b7
    have lt := ySet_lt (S := S) (w := w)
    rw [a1, stay]
    by_cases l : ySet S w = 0
    · obtain ⟨g2, c1, c2⟩ := stay_x hS hN n (t + 1) f g1 (yNext S w) (by omega) (by omega) (fun _ _ => yNext_le) a2 (by rw [a3.1 90 (by omega)]; exact sx)
      simp (disch := omega) only [ix_ok, cl, lit_add, add_lit, lit_mul, mul_lit, nI_add, sub_lit, le_nn, lt_nn, eq_nn, le_ln, lt_ln, le_nl, lt_nl, eq_nl, eq_ln, ne_m9, ne_m1, bd_some, bd2_some, ↓nx_eq, rz0, rz1, one_ne0, ↓reduceIte, if_pos, if_neg, l]
      exact ⟨g2, c1, a3.trans c2⟩
    · simp (disch := omega) only [ix_ok, cl, lit_add, add_lit, lit_mul, mul_lit, nI_add, sub_lit, le_nn, lt_nn, eq_nn, le_ln, lt_ln, le_nl, lt_nl, eq_nl, eq_ln, ne_m9, ne_m1, bd_some, bd2_some, ↓nx_eq, rz0, rz1, one_ne0, ↓reduceIte, if_pos, if_neg, l]
      exact ⟨g1, rfl, a3⟩
theorem stay_m {S N : Nat} (hS : S ≤ 27) (hN : N ≤ 20) : ∀ (n t f : Nat) (g : Sg) (w : Nat → Nat), t + n = N → n + 1 < f → (∀ c, c < 6 → w c ≤ 9) → W6 g 28 w → g.1 9 3 = nI S → ∃ g', f6_staysFor_b48 f (nI N) 1 (nI t) g = some (if stay S n w then 1 else 0, g') ∧ Fr 28 g g'
  | 0, t, f + 1, g, w, ht, _, _, _, _ => by
    obtain rfl : t = N := by omega
    refine ⟨g, ?_, Fr.refl⟩
    unfold f6_staysFor_b48
    simp (disch := omega) only [ix_ok, cl, lit_add, add_lit, lit_mul, mul_lit, nI_add, sub_lit, le_nn, lt_nn, eq_nn, le_ln, lt_ln, le_nl, lt_nl, eq_nl, eq_ln, ne_m9, ne_m1, bd_some, bd2_some, ↓nx_eq, rz0, rz1, one_ne0, ↓reduceIte, if_pos, if_neg]
    rfl
  | n + 1, t, f + 1 + 1, g, w, ht, hf, hw, wx, sx => by
    obtain ⟨g1, a1, a2, a3⟩ := yearM sx hS hw wx
    have lt := ySet_lt (S := S) (w := w)
    unfold f6_staysFor_b48
    rw [a1, stay]
    by_cases l : ySet S w = 0
    · obtain ⟨g2, c1, c2⟩ := stay_m hS hN n (t + 1) (f + 1) g1 (yNext S w) (by omega) (by omega) (fun _ _ => yNext_le) a2 (by rw [a3.1 9 (by omega)]; exact sx)
      simp (disch := omega) only [ix_ok, cl, lit_add, add_lit, lit_mul, mul_lit, nI_add, sub_lit, le_nn, lt_nn, eq_nn, le_ln, lt_ln, le_nl, lt_nl, eq_nl, eq_ln, ne_m9, ne_m1, bd_some, bd2_some, ↓nx_eq, rz0, rz1, one_ne0, ↓reduceIte, if_pos, if_neg, l, f6_staysFor_b70]
      exact ⟨g2, c1, a3.trans c2⟩
    · simp (disch := omega) only [ix_ok, cl, lit_add, add_lit, lit_mul, mul_lit, nI_add, sub_lit, le_nn, lt_nn, eq_nn, le_ln, lt_ln, le_nl, lt_nl, eq_nl, eq_ln, ne_m9, ne_m1, bd_some, bd2_some, ↓nx_eq, rz0, rz1, one_ne0, ↓reduceIte, if_pos, if_neg, l, f6_staysFor_b70]
      refine ⟨g1, ?_, a3⟩
      unfold f6_staysFor_b48
      rw [if_pos rfl, rz0]
      split <;> rfl
theorem staysX {S N s : Nat} {g : Sg} {w : Nat → Nat} (hS : S ≤ 27) (hN : N ≤ 20) (hs : s < 256) (hw : ∀ c, w c ≤ 9) (wx : W6 g 1 w) (sx : g.1 90 3 = nI S) : ∃ g', f5_staysIfDry (nI s) (nI N) g = some (if stay S N (dry s w) then 1 else 0, g') ∧ Fr 131 g g' := by
  obtain ⟨g1, a1, a2, a3⟩ := beginX hs wx
  obtain ⟨g2, b1, b2⟩ := stay_x hS hN N 0 1000 g1 (dry s w) (by omega) (by omega) (fun c _ => by unfold dry; split; omega; exact hw c) a2 (by rw [a3.1 90 (by omega)]; exact sx)
  refine ⟨g2, ?_, a3.trans b2⟩
  unfold f5_staysIfDry
  rw [a1, bd_some]
  exact b1
theorem dry_m {w : Nat → Nat} {s N : Nat} (hs : s < 256) : ∀ (n k f : Nat) (g : Sg), k + n = 6 → n < f → W6 g 28 (wk k (dry s w) w) → ∃ g', f6_staysFor_b6 f (nI s) (nI N) (nI k) g = f6_staysFor_b48 1000 (nI N) 1 0 g' ∧ W6 g' 28 (dry s w) ∧ Fr 28 g g'
  | 0, k, f + 1, g, hk, _, h => by
    obtain rfl : k = 6 := by omega
    refine ⟨g, ?_, h.done, Fr.refl⟩
    unfold f6_staysFor_b6
    simp (disch := omega) only [ix_ok, cl, lit_add, add_lit, lit_mul, mul_lit, nI_add, sub_lit, le_nn, lt_nn, eq_nn, le_ln, lt_ln, le_nl, lt_nl, eq_nl, eq_ln, ne_m9, ne_m1, bd_some, bd2_some, ↓nx_eq, rz0, rz1, one_ne0, ↓reduceIte, if_pos, if_neg]
  | n + 1, k, f + 1, g, hk, hf, h => by
    have e := h.at (show k < 6 by omega)
    unfold f6_staysFor_b6
    by_cases l : s.testBit k = true
    · have t := (tb_N s hs k (by omega)).2 l
      obtain ⟨g', e1, e2, e3⟩ := dry_m hs n (k + 1) f _ (by omega) (by omega) (h.step (v := nI 0) (by rw [dry, if_pos l]))
      rw [if_pos t]
      simp (disch := omega) only [ix_ok, cl, lit_add, add_lit, lit_mul, mul_lit, nI_add, sub_lit, le_nn, lt_nn, eq_nn, le_ln, lt_ln, le_nl, lt_nl, eq_nl, eq_ln, ne_m9, ne_m1, bd_some, bd2_some, ↓nx_eq, rz0, rz1, one_ne0, ↓reduceIte, if_pos, if_neg, f6_staysFor_b36]
      exact ⟨g', e1, e2, Fr.pu.trans e3⟩
    · have t : ¬ ((nI s >>> (nI k &&& 31)) &&& 1) = (1 : Int32) := fun q => l ((tb_N s hs k (by omega)).1 q)
      obtain ⟨g', e1, e2, e3⟩ := dry_m hs n (k + 1) f _ (by omega) (by omega) (h.step (v := nI (w k)) (by rw [dry, if_neg l]))
      rw [if_neg t]
      simp (disch := omega) only [ix_ok, cl, lit_add, add_lit, lit_mul, mul_lit, nI_add, sub_lit, le_nn, lt_nn, eq_nn, le_ln, lt_ln, le_nl, lt_nl, eq_nl, eq_ln, ne_m9, ne_m1, bd_some, bd2_some, ↓nx_eq, rz0, rz1, one_ne0, ↓reduceIte, if_pos, if_neg, e, f6_staysFor_b36]
      exact ⟨g', e1, e2, Fr.pu.trans e3⟩
theorem staysM {S N s : Nat} {g : Sg} {w : Nat → Nat} (hS : S ≤ 27) (hN : N ≤ 20) (hs : s < 256) (hw : ∀ c, w c ≤ 9) (wm : ∀ c, c < 6 → g.1 21 (7 + c) = nI (w c)) (sx : g.1 9 3 = nI S) : ∃ g', f6_staysFor (nI s) (nI N) g = some (if stay S N (dry s w) then 1 else 0, g') ∧ Fr 28 g g' := by
  obtain ⟨g0, b1, b2, b3⟩ := wetNowM wm
  obtain ⟨g1, a1, a2, a3⟩ := dry_m (N := N) hs 6 0 1000 g0 (by omega) (by omega) b2.wk0
  obtain ⟨g2, c1, c2⟩ := stay_m hS hN N 0 1000 g1 (dry s w) (by omega) (by omega) (fun c _ => by unfold dry; split; omega; exact hw c) a2 (by rw [a3.1 9 (by omega), b3.1 9 (by omega)]; exact sx)
  refine ⟨g2, ?_, (b3.trans a3).trans c2⟩
  unfold f6_staysFor
  rw [b1, bd_some]
  exact a1.trans c1
