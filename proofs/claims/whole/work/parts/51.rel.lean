/-! ===== PURE: the relation between the class's numbers and the reference's ===== -/
def In (n : Nat) (x : Int32) : Prop := ∃ k, k ≤ n ∧ x = nI k
/-- what was told: persons, promises, ACID, SLIDE -/
def T0 (x m : Nat → Nat → Int32) (P Q A S : Nat) : Prop :=
  (x 90 0 = nI P ∧ m 9 0 = nI P ∧ P ≤ 6) ∧ (x 90 1 = nI Q ∧ m 9 1 = nI Q ∧ Q ≤ 8) ∧ (x 90 2 = nI A ∧ m 9 2 = nI A ∧ 1 ≤ A ∧ A ≤ 20) ∧ (x 90 3 = nI S ∧ m 9 3 = nI S ∧ 1 ≤ S ∧ S ≤ 27) ∧
  (∀ p, p < P → m 11 p = x 80 p ∧ In 99 (x 80 p) ∧ m 12 p = x 81 p ∧ (x 81 p = -9 ∨ ∃ k, k < p ∧ x 81 p = nI k)) ∧
  (∀ q, q < Q → m 13 q = x 82 q ∧ (∃ k, k < P ∧ x 82 q = nI k) ∧ m 14 q = x 83 q ∧ In 5 (x 83 q) ∧ m 15 q = x 84 q ∧ In 5 (x 84 q) ∧ m 16 q = x 85 q ∧ In 9 (x 85 q) ∧ m 17 q = x 86 q ∧ In 99 (x 86 q) ∧ m 18 q = x 87 q ∧ (∃ n, 1 ≤ n ∧ n ≤ 4 ∧ x 87 q = nI n ∧ ∀ k, k < n → m 19 (4 * q + k) = x 88 (4 * q + k) ∧ In 9 (x 88 (4 * q + k))) ∧ m 20 q = x 89 q ∧ In 255 (x 89 q))
/-- .. as it is read -/
def T1 (x m : Nat → Nat → Int32) (P Q A S : Nat) : Prop :=
  (x 110 0 = nI P ∧ m 9 4 = nI P ∧ P ≤ 6) ∧ (x 110 1 = nI Q ∧ m 9 5 = nI Q ∧ Q ≤ 8) ∧ (x 110 2 = nI A ∧ m 9 6 = nI A ∧ 1 ≤ A ∧ A ≤ 20) ∧ (x 110 3 = nI S ∧ m 9 7 = nI S ∧ 1 ≤ S ∧ S ≤ 27) ∧
  (∀ p, p < P → m 11 (6 + p) = x 100 p ∧ In 99 (x 100 p) ∧ m 12 (6 + p) = x 101 p ∧ (x 101 p = -9 ∨ ∃ k, k < p ∧ x 101 p = nI k)) ∧
  (∀ q, q < Q → m 13 (8 + q) = x 102 q ∧ (∃ k, k < P ∧ x 102 q = nI k) ∧ m 14 (8 + q) = x 103 q ∧ In 5 (x 103 q) ∧ m 15 (8 + q) = x 104 q ∧ In 5 (x 104 q) ∧ m 16 (8 + q) = x 105 q ∧ In 9 (x 105 q) ∧ m 17 (8 + q) = x 106 q ∧ In 99 (x 106 q) ∧ m 18 (8 + q) = x 107 q ∧ (∃ n, 1 ≤ n ∧ n ≤ 4 ∧ x 107 q = nI n ∧ ∀ k, k < n → m 19 (4 * (8 + q) + k) = x 108 (4 * q + k) ∧ In 9 (x 108 (4 * q + k))) ∧ m 20 (8 + q) = x 109 q ∧ In 255 (x 109 q))
/-- the bog that is now -/
def B0 (x m : Nat → Nat → Int32) (Q : Nat) : Prop :=
  (∃ y, y ≤ 999 ∧ x 5 0 = nI y ∧ m 21 0 = nI y) ∧ (∀ c, c < 6 → m 21 (1 + c) = x 0 c ∧ In 6 (x 0 c) ∧ m 21 (7 + c) = x 1 c ∧ In 9 (x 1 c)) ∧
  (∀ q, q < Q → m 21 (13 + q) = x 2 q ∧ In 3 (x 2 q) ∧ m 21 (21 + q) = x 4 q ∧ m 21 (29 + q) = x 3 q ∧ In 9 (x 3 q) ∧ ∃ n l, x 87 q = nI n ∧ x 4 q = nI l ∧ l ≤ n ∧ n ≤ 4)
/-- a bog that is kept -/
def BR (x m : Nat → Nat → Int32) (b r f Q : Nat) : Prop :=
  (∃ y, y ≤ 999 ∧ x (6 * b + 5) 0 = nI y ∧ m r (f + 0) = nI y) ∧ (∀ c, c < 6 → m r (f + (1 + c)) = x (6 * b) c ∧ In 6 (x (6 * b) c) ∧ m r (f + (7 + c)) = x (6 * b + 1) c ∧ In 9 (x (6 * b + 1) c)) ∧
  (∀ q, q < Q → m r (f + (13 + q)) = x (6 * b + 2) q ∧ In 3 (x (6 * b + 2) q) ∧ m r (f + (21 + q)) = x (6 * b + 4) q ∧ m r (f + (29 + q)) = x (6 * b + 3) q ∧ In 9 (x (6 * b + 3) q) ∧ ∃ n l, x 87 q = nI n ∧ x (6 * b + 4) q = nI l ∧ l ≤ n ∧ n ≤ 4)
def PA (x m : Nat → Nat → Int32) (Q : Nat) : Prop := ∃ n z, n ≤ 10 ∧ z < 10 ∧ x 123 1 = nI n ∧ m 0 25 = nI n ∧ x 123 0 = nI z ∧ ∀ j, j < n → BR x m ((z + 10 - n + j) % 10 + 3) 24 (37 * j) Q
def IM (x m : Nat → Nat → Int32) (Q : Nat) : Prop := ∀ i, i < 2 → (x 133 i = 0 ∧ m 23 i = 0) ∨ (x 133 i = 1 ∧ m 23 i = 1 ∧ BR x m (i + 1) 22 (37 * i) Q)
def SE (x m : Nat → Nat → Int32) : Prop := ∃ n, n ≤ 4 ∧ x 134 0 = nI n ∧ m 0 27 = nI n ∧ ∀ j, j < n → m 26 j = x 130 j ∧ In 9 (x 130 j)
def TX (x m : Nat → Nat → Int32) : Prop := ∃ n, n ≤ 200 ∧ x 121 0 = nI n ∧ m 0 3 = nI n ∧ ∀ j, j < n → m 2 j = x 120 j ∧ In 255 (x 120 j)
def RelX (x m : Nat → Nat → Int32) (P Q A S : Nat) : Prop := T0 x m P Q A S ∧ B0 x m Q ∧ PA x m Q ∧ IM x m Q ∧ SE x m ∧ TX x m
def Rel (gx gm : Sg) : Prop := (∃ P Q A S, RelX gx.1 gm.1 P Q A S) ∧ gx.2 = gm.2
/-! each part looks at its own rows alone -/
def lowp (i j : Nat) : Prop := (i = 9 ∧ j < 4) ∨ ((i = 11 ∨ i = 12) ∧ j < 6) ∨ (((13 ≤ i ∧ i ≤ 18) ∨ i = 20) ∧ j < 8) ∨ (i = 19 ∧ j < 32)
theorem T0.cong {x m x' m' : Nat → Nat → Int32} {P Q A S : Nat} (h : T0 x m P Q A S) (hx : ∀ i, 80 ≤ i → i ≤ 90 → x' i = x i) (hm : ∀ i j, lowp i j → m' i j = m i j) : T0 x' m' P Q A S := by
  obtain ⟨⟨h1, h2, h3⟩, ⟨h4, h5, h6⟩, ⟨h7, h8, h9⟩, ⟨h10, h11, h12⟩, hp, hq⟩ := h
  have e0 := hx 80 (by omega) (by omega)
  have e1 := hx 81 (by omega) (by omega)
  have e2 := hx 82 (by omega) (by omega)
  have e3 := hx 83 (by omega) (by omega)
  have e4 := hx 84 (by omega) (by omega)
  have e5 := hx 85 (by omega) (by omega)
  have e6 := hx 86 (by omega) (by omega)
  have e7 := hx 87 (by omega) (by omega)
  have e8 := hx 88 (by omega) (by omega)
  have e9 := hx 89 (by omega) (by omega)
  have e10 := hx 90 (by omega) (by omega)
  unfold T0
  rw [e0, e1, e2, e3, e4, e5, e6, e7, e8, e9, e10, hm 9 0 (by unfold lowp; omega), hm 9 1 (by unfold lowp; omega), hm 9 2 (by unfold lowp; omega), hm 9 3 (by unfold lowp; omega)]
  refine ⟨⟨h1, h2, h3⟩, ⟨h4, h5, h6⟩, ⟨h7, h8, h9⟩, ⟨h10, h11, h12⟩, fun p hp1 => ?_, fun q hq1 => ?_⟩
  · rw [hm 11 p (by unfold lowp; omega), hm 12 p (by unfold lowp; omega)]
    exact hp p hp1
  · obtain ⟨a1, a2, a3, a4, a5, a6, a7, a8, a9, a10, a11, ⟨n, b0, b1, b2, b3⟩, a13⟩ := hq q hq1
    rw [hm 13 q (by unfold lowp; omega), hm 14 q (by unfold lowp; omega), hm 15 q (by unfold lowp; omega), hm 16 q (by unfold lowp; omega), hm 17 q (by unfold lowp; omega), hm 18 q (by unfold lowp; omega), hm 20 q (by unfold lowp; omega)]
    exact ⟨a1, a2, a3, a4, a5, a6, a7, a8, a9, a10, a11, ⟨n, b0, b1, b2, fun k hk => by rw [hm 19 (4 * q + k) (by unfold lowp; omega)]; exact b3 k hk⟩, a13⟩
theorem B0.cong {x m x' m' : Nat → Nat → Int32} {Q : Nat} (h : B0 x m Q) (hx : ∀ i, i ≤ 5 → x' i = x i) (h87 : x' 87 = x 87) (hm : m' 21 = m 21) : B0 x' m' Q := by
  unfold B0
  rw [hx 0 (by omega), hx 1 (by omega), hx 2 (by omega), hx 3 (by omega), hx 4 (by omega), hx 5 (by omega), h87, hm]
  exact h
theorem BR.cong {x m x' m' : Nat → Nat → Int32} {b r f Q : Nat} (h : BR x m b r f Q) (hQ : Q ≤ 8) (hx : ∀ i, 6 * b ≤ i → i ≤ 6 * b + 5 → x' i = x i) (h87 : x' 87 = x 87) (hm : ∀ j, j < 37 → m' r (f + j) = m r (f + j)) : BR x' m' b r f Q := by
  obtain ⟨⟨y, y1, y2, y3⟩, hc, hq⟩ := h
  unfold BR
  rw [hx (6 * b) (by omega) (by omega), hx (6 * b + 1) (by omega) (by omega), hx (6 * b + 2) (by omega) (by omega), hx (6 * b + 3) (by omega) (by omega), hx (6 * b + 4) (by omega) (by omega), hx (6 * b + 5) (by omega) (by omega), h87]
  refine ⟨⟨y, y1, y2, by rw [hm 0 (by omega)]; exact y3⟩, fun c hc1 => ?_, fun q hq1 => ?_⟩
  · rw [hm (1 + c) (by omega), hm (7 + c) (by omega)]
    exact hc c hc1
  · rw [hm (13 + q) (by omega), hm (21 + q) (by omega), hm (29 + q) (by omega)]
    exact hq q hq1
theorem PA.cong {x m x' m' : Nat → Nat → Int32} {Q : Nat} (h : PA x m Q) (hQ : Q ≤ 8) (hx : ∀ i, 18 ≤ i → i ≤ 77 → x' i = x i) (h87 : x' 87 = x 87) (h1 : x' 123 = x 123) (hm : m' 24 = m 24) (h2 : m' 0 25 = m 0 25) : PA x' m' Q := by
  obtain ⟨n, z, a1, a2, a3, a4, a5, a6⟩ := h
  exact ⟨n, z, a1, a2, by rw [h1]; exact a3, by rw [h2]; exact a4, by rw [h1]; exact a5, fun j hj => (a6 j hj).cong hQ (fun i i1 i2 => hx i (by omega) (by omega)) h87 (fun k _ => by rw [hm])⟩
theorem IM.cong {x m x' m' : Nat → Nat → Int32} {Q : Nat} (h : IM x m Q) (hQ : Q ≤ 8) (hx : ∀ i, 6 ≤ i → i ≤ 17 → x' i = x i) (h87 : x' 87 = x 87) (h1 : x' 133 = x 133) (hm : m' 22 = m 22) (h2 : m' 23 = m 23) : IM x' m' Q := by
  intro i hi
  rw [h1, h2]
  rcases h i hi with q | ⟨q1, q2, q3⟩
  · exact Or.inl q
  · exact Or.inr ⟨q1, q2, q3.cong hQ (fun j j1 j2 => hx j (by omega) (by omega)) h87 (fun k _ => by rw [hm])⟩
theorem SE.cong {x m x' m' : Nat → Nat → Int32} (h : SE x m) (h1 : x' 130 = x 130) (h2 : x' 134 = x 134) (hm : m' 26 = m 26) (h3 : m' 0 27 = m 0 27) : SE x' m' := by
  unfold SE
  rw [h1, h2, hm, h3]
  exact h
theorem TX.cong {x m x' m' : Nat → Nat → Int32} (h : TX x m) (h1 : x' 120 = x 120) (h2 : x' 121 0 = x 121 0) (hm : m' 2 = m 2) (h3 : m' 0 3 = m 0 3) : TX x' m' := by
  unfold TX
  rw [h1, h2, hm, h3]
  exact h
theorem RelX.scr {x m x' m' : Nat → Nat → Int32} {P Q A S : Nat} (h : RelX x m P Q A S) (hx : ∀ i, i ≠ 131 → i ≠ 132 → x' i = x i) (hm : ∀ i, i ≠ 0 → i ≠ 28 → i ≠ 29 → m' i = m i) (h0 : ∀ j, j ≠ 0 → m' 0 j = m 0 j) : RelX x' m' P Q A S := by
  obtain ⟨a1, a2, a3, a4, a5, a6⟩ := h
  have hQ : Q ≤ 8 := a1.2.1.2.2
  exact ⟨a1.cong (fun i i1 i2 => hx i (by omega) (by omega)) (fun i j hl => by rw [hm i (by unfold lowp at hl; omega) (by unfold lowp at hl; omega) (by unfold lowp at hl; omega)]), a2.cong (fun i i1 => hx i (by omega) (by omega)) (hx 87 (by omega) (by omega)) (hm 21 (by omega) (by omega) (by omega)), a3.cong hQ (fun i i1 i2 => hx i (by omega) (by omega)) (hx 87 (by omega) (by omega)) (hx 123 (by omega) (by omega)) (hm 24 (by omega) (by omega) (by omega)) (h0 25 (by omega)), a4.cong hQ (fun i i1 i2 => hx i (by omega) (by omega)) (hx 87 (by omega) (by omega)) (hx 133 (by omega) (by omega)) (hm 22 (by omega) (by omega) (by omega)) (hm 23 (by omega) (by omega) (by omega)), a5.cong (hx 130 (by omega) (by omega)) (hx 134 (by omega) (by omega)) (hm 26 (by omega) (by omega) (by omega)) (h0 27 (by omega)), a6.cong (hx 120 (by omega) (by omega)) (by rw [hx 121 (by omega) (by omega)]) (hm 2 (by omega) (by omega) (by omega)) (h0 3 (by omega))⟩
/-- 'thrown' is nobody's business -/
abbrev t0 (gm : Sg) : Sg := pu gm 0 0 0
theorem t0_0 (gm : Sg) {j : Nat} (h : j ≠ 0) : (t0 gm).1 0 j = gm.1 0 j := by rw [pu_eq, up_ne h]
theorem t0_i (gm : Sg) {i : Nat} (h : i ≠ 0) : (t0 gm).1 i = gm.1 i := pu_ne h
theorem RelX.t {x : Nat → Nat → Int32} {gm : Sg} {P Q A S : Nat} (h : RelX x gm.1 P Q A S) : RelX x (t0 gm).1 P Q A S := h.scr (fun _ _ _ => rfl) (fun i i0 _ _ => t0_i gm i0) (fun j hj => t0_0 gm hj)
theorem Rel.t {gx gm : Sg} (h : Rel gx gm) : Rel gx (t0 gm) := by
  obtain ⟨⟨P, Q, A, S, h1⟩, h2⟩ := h
  exact ⟨⟨P, Q, A, S, h1.t⟩, h2⟩

theorem RelX.P_ {x m : Nat → Nat → Int32} {P Q A S : Nat} (h : RelX x m P Q A S) : x 90 0 = nI P ∧ m 9 0 = nI P ∧ P ≤ 6 := h.1.1
theorem RelX.Q_ {x m : Nat → Nat → Int32} {P Q A S : Nat} (h : RelX x m P Q A S) : x 90 1 = nI Q ∧ m 9 1 = nI Q ∧ Q ≤ 8 := h.1.2.1
theorem RelX.A_ {x m : Nat → Nat → Int32} {P Q A S : Nat} (h : RelX x m P Q A S) : x 90 2 = nI A ∧ m 9 2 = nI A ∧ 1 ≤ A ∧ A ≤ 20 := h.1.2.2.1
theorem RelX.S_ {x m : Nat → Nat → Int32} {P Q A S : Nat} (h : RelX x m P Q A S) : x 90 3 = nI S ∧ m 9 3 = nI S ∧ 1 ≤ S ∧ S ≤ 27 := h.1.2.2.2.1
theorem RelX.per {x m : Nat → Nat → Int32} {P Q A S p : Nat} (h : RelX x m P Q A S) (hp : p < P) : m 11 p = x 80 p ∧ In 99 (x 80 p) ∧ m 12 p = x 81 p ∧ (x 81 p = -9 ∨ ∃ k, k < p ∧ x 81 p = nI k) := h.1.2.2.2.2.1 p hp
theorem RelX.who {x m : Nat → Nat → Int32} {P Q A S q : Nat} (h : RelX x m P Q A S) (hq : q < Q) : m 13 q = x 82 q ∧ ∃ k, k < P ∧ x 82 q = nI k := ⟨(h.1.2.2.2.2.2 q hq).1, (h.1.2.2.2.2.2 q hq).2.1⟩
theorem RelX.cel {x m : Nat → Nat → Int32} {P Q A S q : Nat} (h : RelX x m P Q A S) (hq : q < Q) : m 14 q = x 83 q ∧ ∃ k, k ≤ 5 ∧ x 83 q = nI k := ⟨(h.1.2.2.2.2.2 q hq).2.2.1, (h.1.2.2.2.2.2 q hq).2.2.2.1⟩
theorem RelX.dep {x m : Nat → Nat → Int32} {P Q A S q : Nat} (h : RelX x m P Q A S) (hq : q < Q) : m 15 q = x 84 q ∧ ∃ k, k ≤ 5 ∧ x 84 q = nI k := ⟨(h.1.2.2.2.2.2 q hq).2.2.2.2.1, (h.1.2.2.2.2.2 q hq).2.2.2.2.2.1⟩
theorem RelX.spa {x m : Nat → Nat → Int32} {P Q A S q : Nat} (h : RelX x m P Q A S) (hq : q < Q) : m 16 q = x 85 q ∧ ∃ k, k ≤ 9 ∧ x 85 q = nI k := ⟨(h.1.2.2.2.2.2 q hq).2.2.2.2.2.2.1, (h.1.2.2.2.2.2 q hq).2.2.2.2.2.2.2.1⟩
theorem RelX.due {x m : Nat → Nat → Int32} {P Q A S q : Nat} (h : RelX x m P Q A S) (hq : q < Q) : m 17 q = x 86 q ∧ ∃ k, k ≤ 99 ∧ x 86 q = nI k := ⟨(h.1.2.2.2.2.2 q hq).2.2.2.2.2.2.2.2.1, (h.1.2.2.2.2.2 q hq).2.2.2.2.2.2.2.2.2.1⟩
theorem RelX.wds {x m : Nat → Nat → Int32} {P Q A S q : Nat} (h : RelX x m P Q A S) (hq : q < Q) : m 18 q = x 87 q ∧ ∃ n, 1 ≤ n ∧ n ≤ 4 ∧ x 87 q = nI n ∧ ∀ k, k < n → m 19 (4 * q + k) = x 88 (4 * q + k) ∧ In 9 (x 88 (4 * q + k)) := ⟨(h.1.2.2.2.2.2 q hq).2.2.2.2.2.2.2.2.2.2.1, (h.1.2.2.2.2.2 q hq).2.2.2.2.2.2.2.2.2.2.2.1⟩
theorem RelX.cla {x m : Nat → Nat → Int32} {P Q A S q : Nat} (h : RelX x m P Q A S) (hq : q < Q) : m 20 q = x 89 q ∧ ∃ n, n ≤ 255 ∧ x 89 q = nI n := (h.1.2.2.2.2.2 q hq).2.2.2.2.2.2.2.2.2.2.2.2
theorem RelX.yr {x m : Nat → Nat → Int32} {P Q A S : Nat} (h : RelX x m P Q A S) : ∃ y, y ≤ 999 ∧ x 5 0 = nI y ∧ m 21 0 = nI y := h.2.1.1
theorem RelX.cut {x m : Nat → Nat → Int32} {P Q A S c : Nat} (h : RelX x m P Q A S) (hc : c < 6) : m 21 (1 + c) = x 0 c ∧ ∃ k, k ≤ 6 ∧ x 0 c = nI k := ⟨(h.2.1.2.1 c hc).1, (h.2.1.2.1 c hc).2.1⟩
theorem RelX.wet {x m : Nat → Nat → Int32} {P Q A S c : Nat} (h : RelX x m P Q A S) (hc : c < 6) : m 21 (7 + c) = x 1 c ∧ ∃ k, k ≤ 9 ∧ x 1 c = nI k := (h.2.1.2.1 c hc).2.2
theorem RelX.is {x m : Nat → Nat → Int32} {P Q A S q : Nat} (h : RelX x m P Q A S) (hq : q < Q) : m 21 (13 + q) = x 2 q ∧ ∃ k, k ≤ 3 ∧ x 2 q = nI k := ⟨(h.2.1.2.2 q hq).1, (h.2.1.2.2 q hq).2.1⟩
theorem RelX.lef {x m : Nat → Nat → Int32} {P Q A S q : Nat} (h : RelX x m P Q A S) (hq : q < Q) : m 21 (21 + q) = x 4 q ∧ ∃ n l, x 87 q = nI n ∧ x 4 q = nI l ∧ l ≤ n ∧ n ≤ 4 := ⟨(h.2.1.2.2 q hq).2.2.1, (h.2.1.2.2 q hq).2.2.2.2.2⟩
theorem RelX.dri {x m : Nat → Nat → Int32} {P Q A S q : Nat} (h : RelX x m P Q A S) (hq : q < Q) : m 21 (29 + q) = x 3 q ∧ ∃ k, k ≤ 9 ∧ x 3 q = nI k := ⟨(h.2.1.2.2 q hq).2.2.2.1, (h.2.1.2.2 q hq).2.2.2.2.1⟩
