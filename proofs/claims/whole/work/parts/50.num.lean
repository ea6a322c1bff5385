/-! ===== PURE: numbers ===== -/
theorem ix_ok {β : Type} {k n : Nat} {X : Option β} (h : k < n) (hn : n < 2147483648) : ix (nI k) n X = X := by
  unfold ix
  rw [if_neg]
  exact nI_in h hn
theorem nz_ok {β : Type} {y : Int32} {X : Option β} (h : ¬ y = 0) : nz y X = X := if_neg h
theorem bd_some {α β : Type} {a : α} {k : α → Option β} : bd (some a) k = k a := rfl
theorem bd2_some {α γ β : Type} {a : α} {c : γ} {k : α → γ → Option β} : bd2 (some (a, c)) k = k a c := rfl
theorem nx_eq {α β : Type} {v : α} {k : α → Option β} : nx v k = k v := rfl
theorem rz0 {g : Sg} : rz 0 g = some (0, g) := rfl
theorem rz1 {g : Sg} : rz 1 g = some (1, g) := rfl
theorem one_ne0 : ((1 : Int32) = 0) = False := by decide
theorem cl {k : Nat} (h : k < 2147483648) : (nI k).toNatClampNeg = k := nI_clamp h
/-! sums, products -/
theorem lit_add (n k : Nat) : (no_index (OfNat.ofNat n : Int32)) + nI k = nI ((OfNat.ofNat n : Nat) + k) := nI_add n k
theorem add_lit (n k : Nat) : nI k + (no_index (OfNat.ofNat n : Int32)) = nI (k + (OfNat.ofNat n : Nat)) := nI_add k n
theorem lit_mul (n k : Nat) : (no_index (OfNat.ofNat n : Int32)) * nI k = nI ((OfNat.ofNat n : Nat) * k) := pk_mul n k
theorem mul_lit (n k : Nat) : nI k * (no_index (OfNat.ofNat n : Int32)) = nI (k * (OfNat.ofNat n : Nat)) := pk_mul k n
theorem sub_lit {n k : Nat} (h : (OfNat.ofNat n : Nat) ≤ k) : nI k - (no_index (OfNat.ofNat n : Int32)) = nI (k - (OfNat.ofNat n : Nat)) := pk_sub h
/-! comparisons -/
theorem le_nn {a b : Nat} (ha : a < 2147483648) (hb : b < 2147483648) : (nI a ≤ nI b) = (a ≤ b) := propext (nI_leI ha hb)
theorem lt_nn {a b : Nat} (ha : a < 2147483648) (hb : b < 2147483648) : (nI a < nI b) = (a < b) := propext (nI_ltI ha hb)
theorem eq_nn {a b : Nat} (ha : a < 2147483648) (hb : b < 2147483648) : (nI a = nI b) = (a = b) := propext (nI_eq ha hb)
theorem le_ln {a b : Nat} (ha : (OfNat.ofNat a : Nat) < 2147483648) (hb : b < 2147483648) : ((no_index (OfNat.ofNat a : Int32)) ≤ nI b) = ((OfNat.ofNat a : Nat) ≤ b) := propext (nI_leI ha hb)
theorem lt_ln {a b : Nat} (ha : (OfNat.ofNat a : Nat) < 2147483648) (hb : b < 2147483648) : ((no_index (OfNat.ofNat a : Int32)) < nI b) = ((OfNat.ofNat a : Nat) < b) := propext (nI_ltI ha hb)
theorem le_nl {a b : Nat} (ha : a < 2147483648) (hb : (OfNat.ofNat b : Nat) < 2147483648) : (nI a ≤ (no_index (OfNat.ofNat b : Int32))) = (a ≤ (OfNat.ofNat b : Nat)) := propext (nI_leI ha hb)
theorem lt_nl {a b : Nat} (ha : a < 2147483648) (hb : (OfNat.ofNat b : Nat) < 2147483648) : (nI a < (no_index (OfNat.ofNat b : Int32))) = (a < (OfNat.ofNat b : Nat)) := propext (nI_ltI ha hb)
theorem eq_nl {a b : Nat} (ha : a < 2147483648) (hb : (OfNat.ofNat b : Nat) < 2147483648) : (nI a = (no_index (OfNat.ofNat b : Int32))) = (a = (OfNat.ofNat b : Nat)) := propext (nI_eq ha hb)
theorem eq_ln {a b : Nat} (ha : (OfNat.ofNat a : Nat) < 2147483648) (hb : b < 2147483648) : ((no_index (OfNat.ofNat a : Int32)) = nI b) = ((OfNat.ofNat a : Nat) = b) := propext (nI_eq ha hb)
theorem m9_toInt : (-9 : Int32).toInt = -9 := by decide
theorem m1_toInt : (-1 : Int32).toInt = -1 := by decide
theorem ne_m9 {a : Nat} (ha : a < 2147483648) : (nI a = -9) = False := by
  refine eq_false (fun h => ?_)
  have h1 := nI_toInt ha
  rw [h, m9_toInt] at h1
  omega
theorem ne_m1 {a : Nat} (ha : a < 2147483648) : (nI a = -1) = False := by
  refine eq_false (fun h => ?_)
  have h1 := nI_toInt ha
  rw [h, m1_toInt] at h1
  omega
theorem tri (a : Int32) {n : Nat} (hn : n < 2147483648) : (∃ k, k < n ∧ a = nI k) ∨ (a < 0 ∨ nI n ≤ a) := by
  rcases pk_ix a hn with h | h | h
  · exact Or.inr (Or.inl h)
  · exact Or.inr (Or.inr h)
  · exact Or.inl h
/-! rows of a state -/
theorem pu_at (g : Sg) (i j : Nat) (v : Int32) (a : Nat) : (pu g i j v).1 a = if a = i then upd (g.1 i) j v else g.1 a := rfl
theorem pr_at (g : Sg) (i : Nat) (f : Nat → Int32) (a : Nat) : (pr g i f).1 a = if a = i then f else g.1 a := rfl
theorem pu_eq {g : Sg} {i j : Nat} {v : Int32} : (pu g i j v).1 i = upd (g.1 i) j v := if_pos rfl
theorem pu_ne {g : Sg} {i j : Nat} {v : Int32} {a : Nat} (h : a ≠ i) : (pu g i j v).1 a = g.1 a := if_neg h
theorem pr_eq {g : Sg} {i : Nat} {f : Nat → Int32} : (pr g i f).1 i = f := if_pos rfl
theorem pr_ne {g : Sg} {i : Nat} {f : Nat → Int32} {a : Nat} (h : a ≠ i) : (pr g i f).1 a = g.1 a := if_neg h
theorem pu_2 {g : Sg} {i j : Nat} {v : Int32} : (pu g i j v).2 = g.2 := rfl
theorem pr_2 {g : Sg} {i : Nat} {f : Nat → Int32} : (pr g i f).2 = g.2 := rfl
theorem pl_1 {g : Sg} {t : Int64} : (pl g t).1 = g.1 := rfl
theorem pl_2 {g : Sg} {t : Int64} : (pl g t).2 = t := rfl
theorem up_eq {f : Nat → Int32} {k : Nat} {v : Int32} : upd f k v k = v := if_pos rfl
theorem up_ne {f : Nat → Int32} {k j : Nat} {v : Int32} (h : j ≠ k) : upd f k v j = f j := if_neg h
theorem cpy0 {f g : Nat → Int32} {n j : Nat} (h : j < n) : va_cpy f g 0 0 n j = f j := by
  rw [pk_cpy_in (Nat.zero_le _) (by omega)]; congr 1; omega
/-! sets as numbers -/
theorem or0 (s : Int32) : s ||| 0 = s := by simp
def bitsF (p : Nat → Bool) : Nat → Nat → Int32 → Int32
  | 0, _, s => s
  | n + 1, k, s => bitsF p n (k + 1) (if p k then s ||| ((1 : Int32) <<< (nI k &&& 31)) else s)
theorem bitsF_off {p : Nat → Bool} : ∀ (n k : Nat) (s : Int32), (∀ j, k ≤ j → j < k + n → p j = false) → bitsF p n k s = s
  | 0, _, _, _ => rfl
  | n + 1, k, s, h => by
    rw [bitsF, h k (Nat.le_refl _) (by omega)]
    exact bitsF_off n (k + 1) s (fun j h1 h2 => h j (by omega) (by omega))
theorem bitsF_cut {p : Nat → Bool} : ∀ (a b k : Nat) (s : Int32), (∀ j, k + a ≤ j → j < k + a + b → p j = false) → bitsF p (a + b) k s = bitsF p a k s
  | 0, b, k, s, h => by rw [Nat.zero_add]; exact bitsF_off b k s (fun j h1 h2 => h j (by omega) (by omega))
  | a + 1, b, k, s, h => by
    rw [show a + 1 + b = (a + b) + 1 by omega, bitsF, bitsF]
    exact bitsF_cut a b (k + 1) _ (fun j h1 h2 => h j (by omega) (by omega))
theorem bitsF_cong {p q : Nat → Bool} : ∀ (n k : Nat) (s : Int32), (∀ j, k ≤ j → j < k + n → p j = q j) → bitsF p n k s = bitsF q n k s
  | 0, _, _, _ => rfl
  | n + 1, k, s, h => by
    rw [bitsF, bitsF, h k (Nat.le_refl _) (by omega)]
    exact bitsF_cong n (k + 1) _ (fun j h1 h2 => h j (by omega) (by omega))
/-- the set as a natural number -/
def bitsN (p : Nat → Bool) : Nat → Nat → Nat → Nat
  | 0, _, s => s
  | n + 1, k, s => bitsN p n (k + 1) (if p k then s ||| 2 ^ k else s)
theorem shl1 : ∀ k, k < 8 → ((1 : Int32) <<< (nI k &&& 31)) = nI (2 ^ k) := by decide +kernel
theorem fa_or' (a b : Nat) : nI a ||| nI b = nI (a ||| b) := by
  apply Int32.toBitVec_inj.1
  show BitVec.ofNat 32 a ||| BitVec.ofNat 32 b = BitVec.ofNat 32 (a ||| b)
  apply BitVec.eq_of_getLsbD_eq
  intro i hi
  simp [hi]
theorem bitsF_N {p : Nat → Bool} : ∀ (n k s : Nat), k + n ≤ 8 → bitsF p n k (nI s) = nI (bitsN p n k s)
  | 0, _, _, _ => rfl
  | n + 1, k, s, h => by
    rw [bitsF, bitsN, shl1 k (by omega), fa_or']
    rw [← bitsF_N n (k + 1) _ (by omega)]
    by_cases hp : p k = true
    · rw [if_pos hp, if_pos hp]
    · rw [if_neg hp, if_neg hp]
theorem bitsN_lt {p : Nat → Bool} : ∀ (n k s : Nat), k + n ≤ 8 → s < 256 → bitsN p n k s < 256
  | 0, _, _, _, hs => hs
  | n + 1, k, s, h, hs => by
    rw [bitsN]
    refine bitsN_lt n (k + 1) _ (by omega) ?_
    split
    · exact Nat.or_lt_two_pow (n := 8) hs (Nat.pow_lt_pow_right (by decide) (by omega))
    · exact hs
theorem bitsN_bit {p : Nat → Bool} (j : Nat) : ∀ (n k s : Nat), (bitsN p n k s).testBit j = (s.testBit j || (decide (k ≤ j ∧ j < k + n) && p j))
  | 0, k, s => by
    have : decide (k ≤ j ∧ j < k + 0) = false := decide_eq_false (by omega)
    rw [this]; simp [bitsN]
  | n + 1, k, s => by
    rw [bitsN, bitsN_bit j n (k + 1)]
    by_cases hp : p k = true
    · rw [if_pos hp, Nat.testBit_or, Nat.testBit_two_pow]
      by_cases hk : k = j
      · subst hk
        simp [hp]
      · have e1 : decide (k = j) = false := decide_eq_false hk
        have e2 : decide (k + 1 ≤ j ∧ j < k + 1 + n) = decide (k ≤ j ∧ j < k + (n + 1)) := by
          rw [decide_eq_decide]; omega
        rw [e1, e2]; simp
    · rw [if_neg hp]
      by_cases hk : k = j
      · subst hk
        simp [hp]
      · have e2 : decide (k + 1 ≤ j ∧ j < k + 1 + n) = decide (k ≤ j ∧ j < k + (n + 1)) := by
          rw [decide_eq_decide]; omega
        rw [e2]
theorem tb_N : ∀ s, s < 256 → ∀ k, k < 8 → ((((nI s >>> (nI k &&& 31)) &&& 1) = (1 : Int32)) ↔ s.testBit k = true) := by decide +kernel
theorem tb_N0 : ∀ s, s < 256 → ∀ k, k < 8 → ((((nI s >>> (nI k &&& 31)) &&& 1) = (0 : Int32)) ↔ s.testBit k = false) := by decide +kernel
