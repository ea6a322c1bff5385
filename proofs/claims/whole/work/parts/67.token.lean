/-! ===== the text and its tokens ===== -/
def isD (c : Nat) : Bool := decide (48 ≤ c ∧ c ≤ 57)
def spc (t : Nat → Nat) : Nat → Nat → Nat
  | 0, p => p
  | m + 1, p => if t p = 32 then spc t m (p + 1) else p
def run (t : Nat → Nat) : Nat → Nat → Nat
  | 0, p => p
  | m + 1, p => if isD (t p) = true then run t m (p + 1) else p
def cap (t : Nat → Nat) : Nat → Nat → Nat → Nat
  | 0, _, c => c
  | m + 1, p, c => if isD (t p) = true then cap t m (p + 1) (min (c * 10 + (t p - 48)) 100) else c
theorem spc_le {t : Nat → Nat} : ∀ m p, p ≤ spc t m p ∧ spc t m p ≤ p + m
  | 0, p => ⟨Nat.le_refl _, Nat.le_refl _⟩
  | m + 1, p => by
    have := spc_le (t := t) m (p + 1)
    rw [spc]
    split <;> omega
theorem spc_no {t : Nat → Nat} : ∀ m p, spc t m p < p + m → t (spc t m p) ≠ 32
  | 0, p, h => by
    have : spc t 0 p = p := rfl
    omega
  | m + 1, p, h => by
    rw [spc] at h ⊢
    by_cases e : t p = 32
    · rw [if_pos e] at h ⊢
      exact spc_no m (p + 1) (by omega)
    · rw [if_neg e]
      exact e
theorem run_le {t : Nat → Nat} : ∀ m p, p ≤ run t m p ∧ run t m p ≤ p + m
  | 0, p => ⟨Nat.le_refl _, Nat.le_refl _⟩
  | m + 1, p => by
    have := run_le (t := t) m (p + 1)
    rw [run]
    split <;> omega
theorem cap_le {t : Nat → Nat} : ∀ m p c, c ≤ 100 → cap t m p c ≤ 100
  | 0, _, _, h => h
  | m + 1, p, c, h => by
    rw [cap]
    split
    · exact cap_le m (p + 1) _ (Nat.min_le_right _ _)
    · exact h
def tokS (t : Nat → Nat) (n b : Nat) : Nat := spc t (n - b) b
def tokA (t : Nat → Nat) (n b : Nat) : Nat := if tokS t n b = n then n else if isD (t (tokS t n b)) = true then run t (n - tokS t n b) (tokS t n b) else tokS t n b + 1
def tokV (t : Nat → Nat) (n b : Nat) : Nat := if isD (t (tokS t n b)) = true then cap t (n - tokS t n b) (tokS t n b) 0 else t (tokS t n b)
def isL (c : Nat) : Bool := decide (c = 112 ∨ c = 109 ∨ c = 120 ∨ c = 97 ∨ c = 115)
def tokK (t : Nat → Nat) (n b : Nat) : Nat := if tokS t n b = n then 0 else if isD (t (tokS t n b)) = true then (if 99 < tokV t n b then 4 else if t (tokS t n b) = 48 then (if tokA t n b ≤ tokS t n b + 1 then 2 else 4) else 2) else if t (tokS t n b) = 59 then 3 else if isL (t (tokS t n b)) = true then 1 else 4
/-- the text as it is typed, on both sides -/
def XX (g : Sg) (t : Nat → Nat) (n : Nat) : Prop := g.1 121 0 = nI n ∧ n ≤ 200 ∧ (∀ j, t j ≤ 255) ∧ ∀ j, j < n → g.1 120 j = nI (t j)
def XM (g : Sg) (t : Nat → Nat) (n : Nat) : Prop := g.1 0 3 = nI n ∧ n ≤ 200 ∧ (∀ j, t j ≤ 255) ∧ ∀ j, j < n → g.1 2 j = nI (t j)
/-- only the token moves -/
def GX (g g' : Sg) : Prop := (∀ i, i ≠ 121 → g'.1 i = g.1 i) ∧ g'.1 121 0 = g.1 121 0 ∧ g'.2 = g.2
def GM (g g' : Sg) : Prop := (∀ i, i ≠ 0 → g'.1 i = g.1 i) ∧ (∀ j, (j < 4 ∨ 7 < j) → g'.1 0 j = g.1 0 j) ∧ g'.2 = g.2
theorem GX.refl {g : Sg} : GX g g := ⟨fun _ _ => rfl, rfl, rfl⟩
theorem GM.refl {g : Sg} : GM g g := ⟨fun _ _ => rfl, fun _ _ => rfl, rfl⟩
theorem GX.trans {g g1 g2 : Sg} (h : GX g g1) (h2 : GX g1 g2) : GX g g2 := ⟨fun i a => (h2.1 i a).trans (h.1 i a), h2.2.1.trans h.2.1, h2.2.2.trans h.2.2⟩
theorem GM.trans {g g1 g2 : Sg} (h : GM g g1) (h2 : GM g1 g2) : GM g g2 := ⟨fun i a => (h2.1 i a).trans (h.1 i a), fun j a => (h2.2.1 j a).trans (h.2.1 j a), h2.2.2.trans h.2.2⟩
theorem GX.pu {g : Sg} {j : Nat} {v : Int32} (h : j ≠ 0) : GX g (pu g 121 j v) := ⟨fun i a => pu_ne a, by rw [pu_eq, up_ne (by omega)], rfl⟩
theorem GM.pu {g : Sg} {j : Nat} {v : Int32} (h : 4 ≤ j ∧ j ≤ 7) : GM g (pu g 0 j v) := ⟨fun i a => pu_ne a, fun k a => by rw [pu_eq, up_ne (by omega)], rfl⟩
theorem XX.g {g g' : Sg} {t : Nat → Nat} {n : Nat} (h : XX g t n) (f : GX g g') : XX g' t n := ⟨f.2.1.trans h.1, h.2.1, h.2.2.1, fun j hj => by rw [f.1 120 (by omega)]; exact h.2.2.2 j hj⟩
theorem XM.g {g g' : Sg} {t : Nat → Nat} {n : Nat} (h : XM g t n) (f : GM g g') : XM g' t n := ⟨(f.2.1 3 (by omega)).trans h.1, h.2.1, h.2.2.1, fun j hj => by rw [f.1 2 (by omega)]; exact h.2.2.2 j hj⟩
theorem letM {g : Sg} {t : Nat → Nat} {n p : Nat} (h : XM g t n) (hp : p < n) : f6_letterAt (nI p) g = some (nI (t p), g) := by
  have hn := h.2.1
  unfold f6_letterAt
  rw [h.1, if_neg (nI_ge hp (by omega)), ix_ok (by omega) (by omega), cl (by omega), h.2.2.2 p hp]
theorem letM_end {g : Sg} {t : Nat → Nat} {n p : Nat} (h : XM g t n) (hp : n ≤ p) (hp2 : p ≤ 1000) : f6_letterAt (nI p) g = some (-1, g) := by
  unfold f6_letterAt
  rw [h.1, if_pos (nI_le hp (by omega))]
theorem letX {g : Sg} {t : Nat → Nat} {n p : Nat} (h : XX g t n) (hp : p < n) : f3_letterAt (nI p) g = some (nI (t p), g) := by
  have hn := h.2.1
  unfold f3_letterAt
  rw [if_neg (nI_pos (by omega)), h.1, if_neg (nI_ge hp (by omega)), if_neg (show ¬ (200 : Int32) ≤ nI p from nI_ge (b := 200) (by omega) (by omega)), ix_ok (by omega) (by omega), cl (by omega), h.2.2.2 p hp]
theorem letX_end {g : Sg} {t : Nat → Nat} {n p : Nat} (h : XX g t n) (hp : n ≤ p) (hp2 : p ≤ 1000) : f3_letterAt (nI p) g = some (-1, g) := by
  unfold f3_letterAt
  rw [if_neg (nI_pos (by omega)), h.1, if_pos (nI_le hp (by omega))]
theorem digM {g : Sg} {c : Nat} (hc : c ≤ 255) : f6_in (nI c) 48 57 g = some (if isD c = true then 1 else 0, g) := by
  unfold f6_in isD
  by_cases h : 48 ≤ c ∧ c ≤ 57
  · rw [if_neg (show ¬ nI c < (48 : Int32) from nI_nlt (b := 48) h.1 (by omega)), if_neg (show ¬ (57 : Int32) < nI c from nI_nlt (a := 57) h.2 (by omega)), decide_eq_true h]
    rfl
  · rw [decide_eq_false h]
    by_cases h1 : c < 48
    · rw [if_pos (show nI c < (48 : Int32) from nI_lt (b := 48) h1 (by omega))]
      rfl
    · rw [if_neg (show ¬ nI c < (48 : Int32) from nI_nlt (b := 48) (by omega) (by omega)), if_pos (show (57 : Int32) < nI c from nI_lt (a := 57) (by omega) (by omega))]
      rfl
theorem digX {g : Sg} {c : Nat} (hc : c ≤ 255) : f3_isDigit (nI c) g = some (if isD c = true then 1 else 0, g) := by
  unfold f3_isDigit isD
  by_cases h : 48 ≤ c ∧ c ≤ 57
  · rw [if_neg (show ¬ nI c < (48 : Int32) from nI_nlt (b := 48) h.1 (by omega)), if_neg (show ¬ (57 : Int32) < nI c from nI_nlt (a := 57) h.2 (by omega)), decide_eq_true h]
    rfl
  · rw [decide_eq_false h]
    by_cases h1 : c < 48
    · rw [if_pos (show nI c < (48 : Int32) from nI_lt (b := 48) h1 (by omega))]
      rfl
    · rw [if_neg (show ¬ nI c < (48 : Int32) from nI_nlt (b := 48) (by omega) (by omega)), if_pos (show (57 : Int32) < nI c from nI_lt (a := 57) (by omega) (by omega))]
      rfl
theorem isD_iff {c : Nat} : isD c = true ↔ 48 ≤ c ∧ c ≤ 57 := decide_eq_true_iff
/-! the digits, reference -/
def kind (x1 rv len : Nat) : Nat := if 99 < rv then 4 else if x1 = 48 then (if len ≤ 1 then 2 else 4) else 2
theorem dig_m {t : Nat → Nat} {n s x1 : Nat} (hx : x1 ≤ 255) : ∀ (m p rv f : Nat) (g : Sg), p + m = n → s ≤ p → m < f → rv ≤ 999 → XM g t n → g.1 0 4 = nI p → g.1 0 6 = nI s → g.1 0 7 = nI rv → ∃ g' rv', f6_advances_b71 f (nI x1) g = some g' ∧ GM g g' ∧ g'.1 0 4 = nI (run t m p) ∧ g'.1 0 6 = nI s ∧ g'.1 0 7 = nI rv' ∧ rv' ≤ 999 ∧ min rv' 100 = cap t m p (min rv 100) ∧ g'.1 0 5 = nI (kind x1 rv' (run t m p - s)) := by
  have fin : ∀ (p rv : Nat) (g : Sg), s ≤ p → p ≤ 200 → rv ≤ 999 → g.1 0 4 = nI p → g.1 0 6 = nI s → g.1 0 7 = nI rv → (if (99 : Int32) < (g.1 0 7) then f6_advances_b170 g else if nI x1 = (48 : Int32) then (if ((g.1 0 4) - (g.1 0 6)) ≤ (1 : Int32) then f6_advances_b174 g else f6_advances_b170 g) else f6_advances_b174 g) = some (pu g 0 5 (nI (kind x1 rv (p - s)))) := by
    intro p rv g hs hp hr e4 e6 e7
    unfold f6_advances_b170 f6_advances_b174 f6_advances_b175 kind
    rw [e7, e4, e6, pk_sub hs, nx_eq, nx_eq]
    by_cases l : 99 < rv
    · rw [if_pos (show (99 : Int32) < nI rv from nI_lt (a := 99) l (by omega)), if_pos l]
      rfl
    · rw [if_neg (show ¬ (99 : Int32) < nI rv from nI_nlt (a := 99) (by omega) (by omega)), if_neg l]
      by_cases q : x1 = 48
      · subst q
        rw [if_pos (show nI 48 = (48 : Int32) from rfl), if_pos rfl]
        by_cases z : p - s ≤ 1
        · rw [if_pos (show nI (p - s) ≤ (1 : Int32) from nI_le (b := 1) z (by omega)), if_pos z]
          rfl
        · rw [if_neg (show ¬ nI (p - s) ≤ (1 : Int32) from nI_ge (a := 1) (by omega) (by omega)), if_neg z]
          rfl
      · rw [if_neg (show ¬ nI x1 = (48 : Int32) from fun z => q ((nI_eq (b := 48) (by omega) (by omega)).1 z)), if_neg q]
        rfl
  have stop : ∀ (p rv : Nat) (g : Sg), s ≤ p → p ≤ 200 → rv ≤ 999 → g.1 0 4 = nI p → g.1 0 6 = nI s → g.1 0 7 = nI rv → ∃ g' rv', some (pu g 0 5 (nI (kind x1 rv (p - s)))) = some g' ∧ GM g g' ∧ g'.1 0 4 = nI p ∧ g'.1 0 6 = nI s ∧ g'.1 0 7 = nI rv' ∧ rv' ≤ 999 ∧ min rv' 100 = min rv 100 ∧ g'.1 0 5 = nI (kind x1 rv' (p - s)) := by
    intro p rv g hs hp hr e4 e6 e7
    exact ⟨_, rv, rfl, GM.pu (by omega), by rw [pu_eq, up_ne (by omega), e4], by rw [pu_eq, up_ne (by omega), e6], by rw [pu_eq, up_ne (by omega), e7], hr, rfl, by rw [pu_eq, up_eq]⟩
  intro m
  induction m with
  | zero =>
    intro p rv f g hp hs hf hr h e4 e6 e7
    have hn := h.2.1
    obtain ⟨f, rfl⟩ : ∃ k, f = k + 1 := ⟨f - 1, by omega⟩
    unfold f6_advances_b71
    rw [e4, letM_end h (by omega) (by omega), bd2_some, show f6_in (-1) 48 57 g = some (0, g) from rfl, bd2_some, if_pos rfl, fin p rv g hs (by omega) hr e4 e6 e7]
    exact stop p rv g hs (by omega) hr e4 e6 e7
  | succ m ih =>
    intro p rv f g hp hs hf hr h e4 e6 e7
    have hn := h.2.1
    have ht := h.2.2.1 p
    obtain ⟨f, rfl⟩ : ∃ k, f = k + 1 := ⟨f - 1, by omega⟩
    unfold f6_advances_b71
    rw [run, cap, e4, letM h (by omega), bd2_some, digM ht, bd2_some]
    by_cases d : isD (t p) = true
    · rw [if_pos d, if_neg one_ne0.mp, if_pos d, if_pos d]
      have hd := isD_iff.1 d
      have nxt : ∀ v : Nat, v ≤ 999 → min v 100 = min (min rv 100 * 10 + (t p - 48)) 100 → ∃ g' rv', f6_advances_b125 (f6_advances_b71 f) (nI x1) (nI v) g = some g' ∧ GM g g' ∧ g'.1 0 4 = nI (run t m (p + 1)) ∧ g'.1 0 6 = nI s ∧ g'.1 0 7 = nI rv' ∧ rv' ≤ 999 ∧ min rv' 100 = cap t m (p + 1) (min (min rv 100 * 10 + (t p - 48)) 100) ∧ g'.1 0 5 = nI (kind x1 rv' (run t m (p + 1) - s)) := by
        intro v hv hc
        have f1 : GM g (pu (pu g 0 7 (nI v)) 0 4 (nI (p + 1))) := (GM.pu (by omega)).trans (GM.pu (by omega))
        obtain ⟨g', rv', a1, a2, a3, a4, a5, a6, a7, a8⟩ := ih (p + 1) v f (pu (pu g 0 7 (nI v)) 0 4 (nI (p + 1))) (by omega) (by omega) (by omega) hv (h.g f1) (by rw [pu_eq, up_eq]) (by rw [pu_eq, up_ne (by omega), pu_eq, up_ne (by omega), e6]) (by rw [pu_eq, up_ne (by omega), pu_eq, up_eq])
        refine ⟨g', rv', ?_, f1.trans a2, a3, a4, a5, a6, by rw [a7, hc], a8⟩
        unfold f6_advances_b125
        rw [nx_eq, pu_eq, up_ne (by omega), e4, nI_1, nx_eq]
        exact a1
      by_cases l : rv ≤ 99
      · rw [e7, if_pos (show nI rv ≤ (99 : Int32) from nI_le (b := 99) l (by omega)), e4, letM h (by omega), bd2_some, show (10 : Int32) * nI rv = nI (10 * rv) from pk_mul 10 rv, nI_add, show nI (10 * rv + t p) - 48 = nI (10 * rv + t p - 48) from pk_sub (b := 48) (by omega)]
        exact nxt _ (by omega) (by omega)
      · rw [e7, if_neg (show ¬ nI rv ≤ (99 : Int32) from nI_ge (a := 99) (by omega) (by omega))]
        exact nxt rv hr (by omega)
    · rw [if_neg d, if_pos rfl, if_neg d, if_neg d, fin p rv g hs (by omega) hr e4 e6 e7]
      exact stop p rv g hs (by omega) hr e4 e6 e7
/-- the reference goes on by one token -/
theorem advM {t : Nat → Nat} {n b : Nat} {g : Sg} (h : XM g t n) (hb : b ≤ n) (e4 : g.1 0 4 = nI b) : ∃ g', f6_advances g = some g' ∧ GM g g' ∧ g'.1 0 4 = nI (tokA t n b) ∧ g'.1 0 5 = nI (tokK t n b) ∧ g'.1 0 6 = nI (tokS t n b) ∧ (tokK t n b = 1 ∨ tokK t n b = 2 → g'.1 0 7 = nI (tokV t n b)) := by
  have hn := h.2.1
  have go : ∀ (m p f : Nat) (g : Sg), p + m = n → m < f → XM g t n → g.1 0 4 = nI p → tokS t n b = spc t m p → ∃ g', f6_advances_b0 f g = some g' ∧ GM g g' ∧ g'.1 0 4 = nI (tokA t n b) ∧ g'.1 0 5 = nI (tokK t n b) ∧ g'.1 0 6 = nI (tokS t n b) ∧ (tokK t n b = 1 ∨ tokK t n b = 2 → g'.1 0 7 = nI (tokV t n b)) := by
    intro m
    induction m with
    | zero =>
      intro p f g hp hf h e4 hs
      obtain ⟨f, rfl⟩ : ∃ k, f = k + 1 := ⟨f - 1, by omega⟩
      have hs' : tokS t n b = n := hs.trans (show p = n by omega)
      have k0 : tokK t n b = 0 := if_pos hs'
      have a0 : tokA t n b = n := if_pos hs'
      have f1 : GM g (pu g 0 6 (nI p)) := GM.pu (by omega)
      unfold f6_advances_b0
      rw [e4, letM_end h (by omega) (by omega), bd2_some, if_neg (show ¬ (-1 : Int32) = 32 by decide), e4, nx_eq, pu_eq, up_ne (by omega), e4, letM_end (h.g f1) (by omega) (by omega), bd2_some, if_neg (show ¬ (0 : Int32) ≤ -1 by decide), nx_eq]
      refine ⟨_, rfl, f1.trans (GM.pu (by omega)), ?_, ?_, ?_, fun z => by omega⟩
      · rw [pu_eq, up_ne (by omega), pu_eq, up_ne (by omega), e4, a0, show p = n by omega]
      · rw [pu_eq, up_eq, k0]
        rfl
      · rw [pu_eq, up_ne (by omega), pu_eq, up_eq, hs', show p = n by omega]
    | succ m ih =>
      intro p f g hp hf h e4 hs
      obtain ⟨f, rfl⟩ : ∃ k, f = k + 1 := ⟨f - 1, by omega⟩
      have ht := h.2.2.1 p
      have lt := letM h (show p < n by omega)
      rw [spc] at hs
      unfold f6_advances_b0
      rw [e4, lt, bd2_some]
      by_cases sp : t p = 32
      · rw [if_pos sp] at hs
        have f1 : GM g (pu g 0 4 (nI (p + 1))) := GM.pu (by omega)
        obtain ⟨g', a1, a2, a3⟩ := ih (p + 1) f (pu g 0 4 (nI (p + 1))) (by omega) (by omega) (h.g f1) (by rw [pu_eq, up_eq]) hs
        refine ⟨g', ?_, f1.trans a2, a3⟩
        rw [sp, if_pos (show nI 32 = (32 : Int32) from rfl), e4, nI_1, nx_eq]
        exact a1
      · rw [if_neg sp] at hs
        have f1 : GM g (pu g 0 6 (nI p)) := GM.pu (by omega)
        rw [if_neg (show ¬ nI (t p) = (32 : Int32) from fun z => sp ((nI_eq (b := 32) (by omega) (by omega)).1 z)), e4, nx_eq, pu_eq, up_ne (by omega), e4, letM (h.g f1) (by omega), bd2_some, if_pos (show (0 : Int32) ≤ nI (t p) from nI_pos' (by omega)), digM ht, bd2_some]
        have hsn : ¬ tokS t n b = n := by omega
        by_cases d : isD (t p) = true
        · have f2 : GM g (pu (pu g 0 6 (nI p)) 0 7 (nI 0)) := f1.trans (GM.pu (by omega))
          obtain ⟨g', rv, a1, a2, a3, a4, a5, a6, a7, a8⟩ := dig_m ht (m + 1) p 0 1000 (pu (pu g 0 6 (nI p)) 0 7 (nI 0)) (by omega) (Nat.le_refl p) (by omega) (by omega) (h.g f2) (by rw [pu_eq, up_ne (by omega), pu_eq, up_ne (by omega), e4]) (by rw [pu_eq, up_ne (by omega), pu_eq, up_eq]) (by rw [pu_eq, up_eq])
          have eA : tokA t n b = run t (m + 1) p := by
            unfold tokA
            rw [if_neg hsn, hs, if_pos d, show n - p = m + 1 by omega]
          have eV : tokV t n b = cap t (m + 1) p 0 := by
            unfold tokV
            rw [hs, if_pos d, show n - p = m + 1 by omega]
          rw [show min 0 100 = 0 from rfl, ← eV] at a7
          have rl := (run_le (t := t) (m + 1) p).1
          have eK : tokK t n b = kind (t p) rv (run t (m + 1) p - p) := by
            unfold tokK kind
            rw [if_neg hsn, hs, if_pos d, eA]
            by_cases l : 99 < rv
            · rw [if_pos l, if_pos (by omega)]
            · rw [if_neg l, if_neg (by omega)]
              by_cases q : t p = 48
              · rw [if_pos q, if_pos q]
                by_cases z : run t (m + 1) p - p ≤ 1
                · rw [if_pos z, if_pos (by omega)]
                · rw [if_neg z, if_neg (by omega)]
              · rw [if_neg q, if_neg q]
          refine ⟨g', ?_, f2.trans a2, by rw [a3, eA], by rw [a8, eK], by rw [a4, hs], fun z => ?_⟩
          · rw [if_pos d, if_neg one_ne0.mp, nx_eq]
            exact a1
          · rw [a5]
            have l : ¬ 99 < rv := fun l => by
              have : kind (t p) rv (run t (m + 1) p - p) = 4 := if_pos l
              omega
            congr 1
            omega
        · have eA : tokA t n b = p + 1 := by
            unfold tokA
            rw [if_neg hsn, hs, if_neg d]
          have eV : tokV t n b = t p := by
            unfold tokV
            rw [hs, if_neg d]
          have eK : tokK t n b = if t p = 59 then 3 else if isL (t p) = true then 1 else 4 := by
            unfold tokK
            rw [if_neg hsn, hs, if_neg d]
          have f3 : ∀ K : Int32, GM g (pu (pu (pu (pu g 0 6 (nI p)) 0 4 (nI (p + 1))) 0 7 (nI (t p))) 0 5 K) := fun K => ((f1.trans (GM.pu (by omega))).trans (GM.pu (by omega))).trans (GM.pu (by omega))
          have out : ∀ K : Nat, tokK t n b = K → ∃ g', some (pu (pu (pu (pu g 0 6 (nI p)) 0 4 (nI (p + 1))) 0 7 (nI (t p))) 0 5 (nI K)) = some g' ∧ GM g g' ∧ g'.1 0 4 = nI (tokA t n b) ∧ g'.1 0 5 = nI (tokK t n b) ∧ g'.1 0 6 = nI (tokS t n b) ∧ (tokK t n b = 1 ∨ tokK t n b = 2 → g'.1 0 7 = nI (tokV t n b)) := by
            intro K hK
            refine ⟨_, rfl, f3 _, ?_, ?_, ?_, fun _ => ?_⟩
            · rw [pu_eq, up_ne (by omega), pu_eq, up_ne (by omega), pu_eq, up_eq, eA]
            · rw [pu_eq, up_eq, hK]
            · rw [pu_eq, up_ne (by omega), pu_eq, up_ne (by omega), pu_eq, up_ne (by omega), pu_eq, up_eq, hs]
            · rw [pu_eq, up_ne (by omega), pu_eq, up_eq, eV]
          rw [if_neg d, if_pos rfl, pu_eq, up_ne (by omega), e4, nI_1, nx_eq, nx_eq]
          by_cases q : t p = 59
          · rw [if_pos (show nI (t p) = (59 : Int32) from by rw [q]; rfl)]
            unfold f6_advances_b219
            rw [nx_eq]
            exact out 3 (by rw [eK, if_pos q])
          · have iL : f6_isLetter (nI (t p)) (pu (pu (pu g 0 6 (nI p)) 0 4 (nI (p + 1))) 0 7 (nI (t p))) = some (if isL (t p) = true then 1 else 0, pu (pu (pu g 0 6 (nI p)) 0 4 (nI (p + 1))) 0 7 (nI (t p))) := by
              unfold f6_isLetter f6_isLetter_b30 isL
              have e : ∀ c : Nat, c < 1000 → (nI (t p) = nI c ↔ t p = c) := fun c hc => nI_eq (by omega) (by omega)
              rw [show (112 : Int32) = nI 112 from rfl, show (109 : Int32) = nI 109 from rfl, show (120 : Int32) = nI 120 from rfl, show (97 : Int32) = nI 97 from rfl, show (115 : Int32) = nI 115 from rfl]
              by_cases c1 : t p = 112
              · rw [if_pos ((e 112 (by omega)).2 c1), decide_eq_true (Or.inl c1)]; rfl
              · rw [if_neg (fun z => c1 ((e 112 (by omega)).1 z))]
                by_cases c2 : t p = 109
                · rw [if_pos ((e 109 (by omega)).2 c2), decide_eq_true (Or.inr (Or.inl c2))]; rfl
                · rw [if_neg (fun z => c2 ((e 109 (by omega)).1 z))]
                  by_cases c3 : t p = 120
                  · rw [if_pos ((e 120 (by omega)).2 c3), decide_eq_true (Or.inr (Or.inr (Or.inl c3)))]; rfl
                  · rw [if_neg (fun z => c3 ((e 120 (by omega)).1 z))]
                    by_cases c4 : t p = 97
                    · rw [if_pos ((e 97 (by omega)).2 c4), decide_eq_true (Or.inr (Or.inr (Or.inr (Or.inl c4))))]; rfl
                    · rw [if_neg (fun z => c4 ((e 97 (by omega)).1 z))]
                      by_cases c5 : t p = 115
                      · rw [if_pos ((e 115 (by omega)).2 c5), decide_eq_true (Or.inr (Or.inr (Or.inr (Or.inr c5))))]; rfl
                      · rw [if_neg (fun z => c5 ((e 115 (by omega)).1 z)), decide_eq_false (by omega)]; rfl
            rw [if_neg (show ¬ nI (t p) = (59 : Int32) from fun z => q ((nI_eq (b := 59) (by omega) (by omega)).1 z)), iL, bd2_some]
            unfold f6_advances_b219
            rw [nx_eq, nx_eq]
            by_cases c : isL (t p) = true
            · rw [if_pos c, if_neg one_ne0.mp]
              exact out 1 (by rw [eK, if_neg q, if_pos c])
            · rw [if_neg c, if_pos rfl]
              exact out 4 (by rw [eK, if_neg q, if_neg c])
  unfold f6_advances
  exact go (n - b) b 1000 g (by omega) (by omega) h e4 rfl
