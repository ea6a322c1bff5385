/-! ===== odds ===== -/
theorem pow_x {g : Sg} {b e : Nat} (he : e ≤ 6) : ∀ (n i f : Nat), i + n = e → n < f → f5_power_b4 f (nI b) (nI e) (nI (b ^ i)) (nI i) g = some (nI (b ^ e), g) ∧ f6_power_b4 f (nI b) (nI e) (nI (b ^ i)) (nI i) g = some (nI (b ^ e), g)
  | 0, i, f + 1, hi, _ => by
    obtain rfl : i = e := by omega
    unfold f5_power_b4 f6_power_b4
    rw [if_pos (nI_le (Nat.le_refl _) (by omega)), if_pos (nI_le (Nat.le_refl _) (by omega))]
    exact ⟨rfl, rfl⟩
  | n + 1, i, f + 1, hi, hf => by
    unfold f5_power_b4 f6_power_b4
    rw [if_neg (nI_ge (by omega) (by omega)), if_neg (nI_ge (by omega) (by omega)), pk_mul, nI_1, nx_eq, nx_eq, nx_eq, nx_eq, ← Nat.pow_succ]
    exact pow_x he n (i + 1) f (by omega) (by omega)
theorem powX {g : Sg} {b e : Nat} (he : e ≤ 6) : f5_power (nI b) (nI e) g = some (nI (b ^ e), g) := by
  unfold f5_power
  exact (pow_x he e 0 1000 (by omega) (by omega)).1
theorem powM {g : Sg} {b e : Nat} (he : e ≤ 6) : f6_power (nI b) (nI e) g = some (nI (b ^ e), g) := by
  unfold f6_power
  exact (pow_x he e 0 1000 (by omega) (by omega)).2
theorem gcd_go {gx gm : Sg} : ∀ (n a b c f1 f2 : Nat), b < 2 ^ n → c + 2 * n ≤ 63 → 2 * n + 1 < f1 → 2 * n + 1 < f2 → a < 2147483648 → b < 2147483648 → f5_commonDivisor_b7 f1 (nI a) (nI b) (nI c) gx = some (nI (Nat.gcd a b), gx) ∧ f6_gcd_b4 f2 (nI a) (nI b) gm = some (nI (Nat.gcd a b), gm) := by
  have base : ∀ (a c f1 f2 : Nat), 0 < f1 → 0 < f2 → f5_commonDivisor_b7 f1 (nI a) (nI 0) (nI c) gx = some (nI (Nat.gcd a 0), gx) ∧ f6_gcd_b4 f2 (nI a) (nI 0) gm = some (nI (Nat.gcd a 0), gm) := by
    intro a c f1 f2 h1 h2
    obtain ⟨f1, rfl⟩ : ∃ f, f1 = f + 1 := ⟨f1 - 1, by omega⟩
    obtain ⟨f2, rfl⟩ : ∃ f, f2 = f + 1 := ⟨f2 - 1, by omega⟩
    rw [Nat.gcd_zero_right]
    refine ⟨?_, rfl⟩
    unfold f5_commonDivisor_b7
    rw [if_pos nI_0]
    split <;> rfl
  have step : ∀ (a b c f1 f2 : Nat), 0 < b → c ≤ 63 → a < 2147483648 → b < 2147483648 → f5_commonDivisor_b7 (f1 + 1) (nI a) (nI b) (nI c) gx = f5_commonDivisor_b7 f1 (nI b) (nI (a % b)) (nI (c + 1)) gx ∧ f6_gcd_b4 (f2 + 1) (nI a) (nI b) gm = f6_gcd_b4 f2 (nI b) (nI (a % b)) gm ∧ Nat.gcd a b = Nat.gcd b (a % b) := by
    intro a b c f1 f2 hb hc ha hb2
    refine ⟨?_, ?_, ?_⟩
    · rw [f5_commonDivisor_b7, if_neg (show ¬ (64 : Int32) ≤ nI c from nI_ge (b := 64) (by omega) (by omega)), if_neg (nI_ne0 hb (by omega)), nz_ok (nI_ne0 hb (by omega)), nx_eq, nx_eq, pk_rem (by omega) hb (by omega), nI_1]
    · rw [f6_gcd_b4, if_neg (nI_ne0 hb (by omega)), nz_ok (nI_ne0 hb (by omega)), nx_eq, pk_rem (by omega) hb (by omega)]
    · rw [Nat.gcd_comm a b, Nat.gcd_rec b a, Nat.gcd_comm]
  intro n
  induction n with
  | zero =>
    intro a b c f1 f2 hb hc h1 h2 _ _
    obtain rfl : b = 0 := by omega
    exact base a c f1 f2 (by omega) (by omega)
  | succ n ih =>
    intro a b c f1 f2 hb hc h1 h2 ha hb2
    rcases Nat.eq_zero_or_pos b with h0 | h0
    · subst h0
      exact base a c f1 f2 (by omega) (by omega)
    · obtain ⟨f1, rfl⟩ : ∃ f, f1 = f + 1 + 1 := ⟨f1 - 2, by omega⟩
      obtain ⟨f2, rfl⟩ : ∃ f, f2 = f + 1 + 1 := ⟨f2 - 2, by omega⟩
      obtain ⟨s1, s2, s3⟩ := step a b c (f1 + 1) (f2 + 1) h0 (by omega) ha hb2
      have lr : a % b < b := Nat.mod_lt a h0
      rw [s1, s2, s3]
      rcases Nat.eq_zero_or_pos (a % b) with r0 | r0
      · rw [r0]
        exact base b (c + 1) (f1 + 1) (f2 + 1) (by omega) (by omega)
      · obtain ⟨t1, t2, t3⟩ := step b (a % b) (c + 1) f1 f2 r0 (by omega) hb2 (by omega)
        rw [t1, t2, t3]
        have lq : b % (a % b) < a % b := Nat.mod_lt b r0
        have l2 : b % (a % b) < 2 ^ n := by
          rw [Nat.pow_succ] at hb
          by_cases q : 2 * (a % b) ≤ b
          · omega
          · have e : b % (a % b) = b - a % b := by
              rw [Nat.mod_eq_sub_mod (by omega), Nat.mod_eq_of_lt (by omega)]
            omega
        exact ih (a % b) (b % (a % b)) (c + 1 + 1) f1 f2 l2 (by omega) (by omega) (by omega) (by omega) (by omega)
/-! how many ways -/
def chs (n : Nat) : Nat → Nat → Nat → Nat
  | 0, _, c => c
  | m + 1, i, c => chs n m (i + 1) (c * (n - i + 1) / i)
theorem ch_x {g : Sg} {n j : Nat} (hj : j ≤ n) (hn : n ≤ 6) : ∀ (m i c f : Nat), 1 ≤ i → i + m = j + 1 → m < f → c ≤ 7 ^ (i - 1) → f5_choices_b4 f (nI n) (nI j) (nI c) (nI i) g = some (nI (chs n m i c), g)
  | 0, i, c, f + 1, h1, hi, _, _ => by
    unfold f5_choices_b4
    rw [if_pos (nI_lt (by omega) (by omega))]
    rfl
  | m + 1, i, c, f + 1, h1, hi, hf, hc => by
    have p1 : 7 ^ (i - 1) ≤ 7 ^ 6 := Nat.pow_le_pow_right (by omega) (by omega)
    have p2 : 7 ^ 6 = 117649 := by decide
    have c1 : c * (n - i + 1) ≤ 7 ^ (i - 1) * 7 := Nat.mul_le_mul hc (by omega)
    have c2 : c * (n - i + 1) / i ≤ 7 ^ (i - 1) * 7 := Nat.le_trans (Nat.div_le_self _ _) c1
    unfold f5_choices_b4
    rw [if_neg (nI_nlt (by omega) (by omega)), nz_ok (nI_ne0 (by omega) (by omega)), pk_sub (by omega), nI_1, pk_mul, pk_div (by omega) (by omega) (by omega), nI_1, nx_eq, nx_eq]
    refine ch_x hj hn m (i + 1) _ f (by omega) (by omega) (by omega) ?_
    rw [show i + 1 - 1 = (i - 1) + 1 by omega, Nat.pow_succ]
    exact c2
theorem chX {g : Sg} {n j : Nat} (hj : j ≤ n) (hn : n ≤ 6) : f5_choices (nI n) (nI j) g = some (nI (chs n j 1 1), g) := by
  unfold f5_choices
  exact ch_x hj hn j 1 1 1000 (by omega) (by omega) (by omega) (by decide)
def Cs (n : Nat) (f : Nat → Nat) : Nat → Nat → Nat
  | 0, _ => 0
  | m + 1, j => chs n j 1 1 * f j + Cs n f m (j + 1)
def Bn : Nat → (Nat → Nat) → Nat
  | 0, F => F 0
  | n + 1, F => Bn n F + Bn n (fun j => F (j + 1))
def Rs (F : Nat → Nat) : Nat → Nat → Nat
  | 0, _ => 0
  | m + 1, t => F (pc t) + Rs F m (t + 1)
theorem Rs_add {F : Nat → Nat} : ∀ (a b t : Nat), Rs F (a + b) t = Rs F a t + Rs F b (t + a)
  | 0, b, t => by rw [Nat.zero_add, Rs, Nat.zero_add, Nat.add_zero]
  | a + 1, b, t => by
    rw [show a + 1 + b = (a + b) + 1 by omega, Rs, Rs, Rs_add a b (t + 1), show t + 1 + a = t + (a + 1) by omega, Nat.add_assoc]
theorem pc_top : ∀ n, n < 6 → ∀ t, t < 64 → t < 2 ^ n → pc (t + 2 ^ n) = pc t + 1 := by decide +kernel
theorem pc_n : ∀ n, n < 7 → ∀ t, t < 64 → t < 2 ^ n → pc t ≤ n := by decide +kernel
theorem Rs_top {F : Nat → Nat} {n : Nat} (hn : n < 6) : ∀ (m t : Nat), t + m ≤ 2 ^ n → Rs F m (t + 2 ^ n) = Rs (fun j => F (j + 1)) m t
  | 0, _, _ => rfl
  | m + 1, t, h => by
    have p : 2 ^ n ≤ 2 ^ 6 := Nat.pow_le_pow_right (by omega) (by omega)
    have q : 2 ^ 6 = 64 := by decide
    rw [Rs, Rs, pc_top n hn t (by omega) (by omega), show t + 2 ^ n + 1 = (t + 1) + 2 ^ n by omega, Rs_top hn m (t + 1) (by omega)]
theorem Rs_B : ∀ (n : Nat) (F : Nat → Nat), n ≤ 6 → Rs F (2 ^ n) 0 = Bn n F
  | 0, F, _ => by
    show F (pc 0) + 0 = F 0
    rw [show pc 0 = 0 by decide, Nat.add_zero]
  | n + 1, F, h => by
    rw [Nat.pow_succ, Nat.mul_two, Rs_add, Rs_top (by omega) (2 ^ n) 0 (by omega), Rs_B n F (by omega), Rs_B n _ (by omega), Bn]
theorem comb (f : Nat → Nat) : ∀ n, n ≤ 6 → ∀ k, k ≤ 6 → Cs n f (n + 1 - k) k = Bn n (fun j => if k ≤ j then f j else 0) := by
  intro n hn k hk
  rcases (show n = 0 ∨ n = 1 ∨ n = 2 ∨ n = 3 ∨ n = 4 ∨ n = 5 ∨ n = 6 by omega) with rfl | rfl | rfl | rfl | rfl | rfl | rfl
  all_goals
    rcases (show k = 0 ∨ k = 1 ∨ k = 2 ∨ k = 3 ∨ k = 4 ∨ k = 5 ∨ k = 6 by omega) with rfl | rfl | rfl | rfl | rfl | rfl | rfl
  all_goals
    simp [Cs, chs, Bn]
  all_goals
    omega
section OX
variable {x n : Nat}
def fx (x n j : Nat) : Nat := x ^ j * (10 - x) ^ (n - j)
theorem fx_le (hx : x ≤ 10) {j : Nat} (hj : j ≤ n) : fx x n j ≤ 10 ^ n := by
  have h1 : x ^ j ≤ 10 ^ j := Nat.pow_le_pow_left hx j
  have h2 : (10 - x) ^ (n - j) ≤ 10 ^ (n - j) := Nat.pow_le_pow_left (by omega) _
  have h3 := Nat.mul_le_mul h1 h2
  rw [← Nat.pow_add, show j + (n - j) = n by omega] at h3
  exact h3
def Fk (x n k j : Nat) : Nat := if k ≤ j then fx x n j else 0
theorem Rs_le {F : Nat → Nat} {M : Nat} (h : ∀ t, t < 64 → t < 2 ^ n → F (pc t) ≤ M) (hn : n ≤ 6) : ∀ (m t : Nat), t + m ≤ 2 ^ n → Rs F m t ≤ m * M
  | 0, _, _ => Nat.zero_le _
  | m + 1, t, hm => by
    have p : 2 ^ n ≤ 2 ^ 6 := Nat.pow_le_pow_right (by omega) hn
    have q : 2 ^ 6 = 64 := by decide
    have h1 := h t (by omega) (by omega)
    have h2 := Rs_le h hn m (t + 1) (by omega)
    rw [Rs, Nat.succ_mul]
    omega
theorem odds_sum {k : Nat} (hx : x ≤ 10) (hn : n ≤ 6) : Bn n (Fk x n k) ≤ 64000000 := by
  rw [← Rs_B n _ hn]
  have p : 2 ^ n ≤ 2 ^ 6 := Nat.pow_le_pow_right (by omega) hn
  have q : 2 ^ 6 = 64 := by decide
  have r : 10 ^ n ≤ 10 ^ 6 := Nat.pow_le_pow_right (by omega) hn
  have r2 : 10 ^ 6 = 1000000 := by decide
  have h := Rs_le (F := Fk x n k) (M := 10 ^ n) (fun t h1 h2 => by
    unfold Fk
    split
    · exact fx_le hx (pc_n n (by omega) t h1 h2)
    · exact Nat.zero_le _) hn (2 ^ n) 0 (by omega)
  have h2 : 2 ^ n * 10 ^ n ≤ 64 * 1000000 := Nat.mul_le_mul (by omega) (by omega)
  omega
theorem odds_x {g : Sg} {W : Int32} (hx : x ≤ 10) (hn : n ≤ 6) : ∀ (m j a f : Nat), j + m = n + 1 → m < f → f5_odds_b49 f (nI x) (nI n) W (nI a) (nI j) g = f5_odds_b49 (f - m) (nI x) (nI n) W (nI (a + Cs n (fx x n) m j)) (nI (n + 1)) g
  | 0, j, a, f, hj, _ => by
    obtain rfl : j = n + 1 := by omega
    rfl
  | m + 1, j, a, f + 1, hj, hf => by
    rw [show f + 1 - (m + 1) = f - m by omega, Cs, ← Nat.add_assoc, ← odds_x hx hn m (j + 1) _ f (by omega) (by omega), f5_odds_b49, if_neg (nI_nlt (by omega) (by omega)), chX (by omega) hn, bd2_some, powX (by omega), bd2_some, show (10 : Int32) - nI x = nI (10 - x) from pk_sub (a := 10) hx, pk_sub (by omega), powX (by omega), bd2_some, pk_mul, pk_mul, nI_add, nI_1, nx_eq, nx_eq, Nat.mul_assoc]
    rfl
theorem odds_m {g : Sg} {k : Nat} {W : Int32} (hx : x ≤ 10) (hn : n ≤ 6) (hk : k ≤ 6) : ∀ (m t a f : Nat), t + m = 2 ^ n → m < f → f6_odds_b53 f (nI x) (nI n) (nI k) W (nI a) (nI t) g = f6_odds_b53 (f - m) (nI x) (nI n) (nI k) W (nI (a + Rs (Fk x n k) m t)) (nI (2 ^ n)) g
  | 0, t, a, f, ht, _ => by
    obtain rfl : t = 2 ^ n := by omega
    rfl
  | m + 1, t, a, f + 1, ht, hf => by
    have p : 2 ^ n ≤ 2 ^ 6 := Nat.pow_le_pow_right (by omega) hn
    have q : 2 ^ 6 = 64 := by decide
    have pn := pc_n n (by omega) t (by omega) (by omega)
    have g100 : ∀ v : Nat, f6_odds_b100 (f6_odds_b53 f) (nI x) (nI n) (nI k) W (nI t) (nI v) (nI a) g = f6_odds_b53 f (nI x) (nI n) (nI k) W (nI (a + v)) (nI (t + 1)) g := fun v => by
      unfold f6_odds_b100
      rw [nx_eq, nx_eq, nI_add, nI_1]
    rw [show f + 1 - (m + 1) = f - m by omega, Rs, ← Nat.add_assoc, ← odds_m hx hn hk m (t + 1) _ f (by omega) (by omega), f6_odds_b53, shl1 n (by omega), if_neg (nI_ge (by omega) (by omega)), pcM (by omega), bd2_some]
    unfold Fk
    by_cases l : k ≤ pc t
    · rw [if_neg (nI_nlt l (by omega)), pcM (by omega), bd2_some, powM (by omega), bd2_some, pcM (by omega), bd2_some, show (10 : Int32) - nI x = nI (10 - x) from pk_sub (a := 10) hx, pk_sub pn, powM (by omega), bd2_some, pk_mul, g100, if_pos l]
      rfl
    · rw [if_pos (nI_lt (by omega) (by omega)), if_neg l, ← nI_0, g100]
theorem odds_fin {gx gm : Sg} {k w a f1 f2 : Nat} (hn : n ≤ 6) (hw : w ≤ 1) (ha : a ≤ 64000000) (h1 : 0 < f1) (h2 : 0 < f2) : ∃ r, f5_odds_b49 f1 (nI x) (nI n) (nI w) (nI a) (nI (n + 1)) gx = some (r, gx) ∧ f6_odds_b53 f2 (nI x) (nI n) (nI k) (nI w) (nI a) (nI (2 ^ n)) gm = some (r, gm) := by
  obtain ⟨f1, rfl⟩ : ∃ f, f1 = f + 1 := ⟨f1 - 1, by omega⟩
  obtain ⟨f2, rfl⟩ : ∃ f, f2 = f + 1 := ⟨f2 - 1, by omega⟩
  have r : 10 ^ n ≤ 10 ^ 6 := Nat.pow_le_pow_right (by omega) hn
  have r2 : 10 ^ 6 = 1000000 := by decide
  have r3 : 0 < 10 ^ n := Nat.pow_pos (by omega)
  have p : 2 ^ n ≤ 2 ^ 6 := Nat.pow_le_pow_right (by omega) hn
  have q : 2 ^ 6 = 64 := by decide
  have p20 : (10 : Nat) ^ 6 < 2 ^ 20 := by decide
  obtain ⟨e1, e2⟩ := gcd_go (gx := gx) (gm := gm) 20 a (10 ^ n) 0 1000 1000 (by omega) (by omega) (by omega) (by omega) (by omega) (by omega)
  have g1 : 0 < Nat.gcd a (10 ^ n) := Nat.gcd_pos_of_pos_right _ r3
  have g2 : Nat.gcd a (10 ^ n) ≤ 10 ^ n := Nat.gcd_le_right _ r3
  have c1 : f5_commonDivisor (nI a) (nI (10 ^ n)) gx = some (nI (Nat.gcd a (10 ^ n)), gx) := by
    unfold f5_commonDivisor
    exact e1
  have c2 : f6_gcd (nI a) (nI (10 ^ n)) gm = some (nI (Nat.gcd a (10 ^ n)), gm) := by
    unfold f6_gcd
    exact e2
  unfold f5_odds_b49 f6_odds_b53
  rw [if_pos (nI_lt (by omega) (by omega)), shl1 n (by omega), if_pos (nI_le (Nat.le_refl _) (by omega)), show (10 : Int32) = nI 10 from rfl, powX (by omega), powM (by omega), bd2_some, bd2_some, c1, c2, bd2_some, bd2_some, if_pos (show (1 : Int32) ≤ nI (Nat.gcd a (10 ^ n)) from nI_le (a := 1) (by omega) (by omega)), nz_ok (nI_ne0 g1 (by omega)), nz_ok (nI_ne0 g1 (by omega)), nz_ok (nI_ne0 g1 (by omega)), nz_ok (nI_ne0 g1 (by omega))]
  split <;> exact ⟨_, rfl, rfl⟩
end OX
theorem s_odds (a b c d : Int32) : St Rel (f5_odds a b c d) (f6_odds a b c d) := by
  refine St.ro (fun gx gm P Q A S h _ => ?_)
  unfold f5_odds f6_odds
  rw [nx_eq]
  have lt20 : ∀ {a : Int32} {N : Nat}, N + 1 < 2147483648 → nI (N + 1) ≤ a → nI N < a := fun h1 h2 => lt_of_le6 h1 h2
  rcases tri a (n := 11) (by omega) with ⟨x, hx, rfl⟩ | q
  · have ea : f6_in (nI x) 0 10 (t0 gm) = some (1, t0 gm) := in_ok (lo := 0) (hi := 10) (by omega) (by omega) (by omega)
    rw [ea, bd2_some, if_neg one_ne0.mp, if_neg (nI_pos (by omega)), if_neg (show ¬ (10 : Int32) < nI x from nI_nlt (a := 10) (by omega) (by omega))]
    rcases tri b (n := 7) (by omega) with ⟨n, hn, rfl⟩ | q
    · have eb : f6_in (nI n) 0 6 (t0 gm) = some (1, t0 gm) := in_ok (lo := 0) (hi := 6) (by omega) (by omega) (by omega)
      rw [eb, bd2_some, if_neg one_ne0.mp, if_neg (nI_pos (by omega)), if_neg (show ¬ (6 : Int32) < nI n from nI_nlt (a := 6) (by omega) (by omega))]
      rcases tri c (n := 7) (by omega) with ⟨k, hk, rfl⟩ | q
      · have ec : f6_in (nI k) 0 6 (t0 gm) = some (1, t0 gm) := in_ok (lo := 0) (hi := 6) (by omega) (by omega) (by omega)
        rw [ec, bd2_some, if_neg one_ne0.mp, if_neg (nI_pos (by omega)), if_neg (show ¬ (6 : Int32) < nI k from nI_nlt (a := 6) (by omega) (by omega))]
        rcases tri d (n := 2) (by omega) with ⟨w, hw, rfl⟩ | q
        · have ed : f6_in (nI w) 0 1 (t0 gm) = some (1, t0 gm) := in_ok (lo := 0) (hi := 1) (by omega) (by omega) (by omega)
          rw [ed, bd2_some, if_neg one_ne0.mp, if_neg (nI_pos (by omega)), if_pos (show nI w ≤ (1 : Int32) from nI_le (b := 1) (by omega) (by omega))]
          have p : 2 ^ n ≤ 2 ^ 6 := Nat.pow_le_pow_right (by omega) (by omega)
          have q : 2 ^ 6 = 64 := by decide
          have s := odds_sum (k := k) (show x ≤ 10 by omega) (show n ≤ 6 by omega)
          have m := odds_m (g := t0 gm) (k := k) (W := nI w) (show x ≤ 10 by omega) (show n ≤ 6 by omega) (by omega) (2 ^ n) 0 0 1000 (by omega) (by omega)
          rw [Rs_B n _ (by omega), Nat.zero_add, nI_0] at m
          rw [m]
          by_cases l : k ≤ n
          · have xx := odds_x (g := gx) (W := nI w) (show x ≤ 10 by omega) (show n ≤ 6 by omega) (n + 1 - k) k 0 1000 (by omega) (by omega)
            have cb := comb (fx x n) n (by omega) k (by omega)
            rw [cb, Nat.zero_add, nI_0] at xx
            rw [xx]
            exact odds_fin (by omega) (by omega) s (by omega) (by omega)
          · have b0 : Bn n (Fk x n k) = 0 := by
              have cb := comb (fx x n) n (by omega) k (by omega)
              rw [show n + 1 - k = 0 by omega] at cb
              exact cb.symm
            rw [b0]
            obtain ⟨r, r1, r2⟩ := odds_fin (x := x) (n := n) (gx := gx) (gm := t0 gm) (k := k) (w := w) (a := 0) (f1 := 1000) (f2 := 1000 - 2 ^ n) (by omega) (by omega) (by omega) (by omega) (by omega)
            refine ⟨r, ?_, r2⟩
            rw [← r1, nI_0]
            rw [f5_odds_b49, f5_odds_b49, if_pos (nI_lt (by omega) (by omega)), if_pos (nI_lt (by omega) (by omega))]
        · have ed : f6_in d 0 1 (t0 gm) = some (0, t0 gm) := in_no (hi := 1) (by omega) q
          rw [ed, bd2_some, if_pos rfl]
          refine ⟨-1, ?_, rfl⟩
          rcases q with z | z
          · rw [if_pos z]
          · rw [if_neg (show ¬ d ≤ (1 : Int32) from fun e => by
              have q2 : (1 : Int32) < d := lt20 (N := 1) (by omega) z
              rw [Int32.le_iff_toInt_le] at e
              rw [Int32.lt_iff_toInt_lt] at q2
              omega)]
            split <;> rfl
      · have ec : f6_in c 0 6 (t0 gm) = some (0, t0 gm) := in_no (hi := 6) (by omega) q
        rw [ec, bd2_some, if_pos rfl]
        refine ⟨-1, ?_, rfl⟩
        rcases q with z | z
        · rw [if_pos z]
        · rw [if_pos (show (6 : Int32) < c from lt20 (N := 6) (by omega) z)]
          split <;> rfl
    · have eb : f6_in b 0 6 (t0 gm) = some (0, t0 gm) := in_no (hi := 6) (by omega) q
      rw [eb, bd2_some, if_pos rfl]
      refine ⟨-1, ?_, rfl⟩
      rcases q with z | z
      · rw [if_pos z]
      · rw [if_pos (show (6 : Int32) < b from lt20 (N := 6) (by omega) z)]
        split <;> rfl
  · have ea : f6_in a 0 10 (t0 gm) = some (0, t0 gm) := in_no (hi := 10) (by omega) q
    rw [ea, bd2_some, if_pos rfl]
    refine ⟨-1, ?_, rfl⟩
    rcases q with z | z
    · rw [if_pos z]
    · rw [if_pos (show (10 : Int32) < a from lt20 (N := 10) (by omega) z)]
      split <;> rfl
