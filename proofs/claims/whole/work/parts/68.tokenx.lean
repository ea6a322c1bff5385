/-! ===== the class's tokens ===== -/
def sgn (k v : Nat) : Int32 := if k = 0 then -1 else if k = 1 then nI v else if k = 2 then 48 else if k = 3 then 59 else -2
theorem dig_x {t : Nat → Nat} {n s : Nat} (hsn : s < n) : ∀ (m p c f : Nat) (g : Sg), p + m = n → s ≤ p → m < f → c ≤ 100 → XX g t n → g.1 121 3 = nI p → g.1 121 2 = nI s → g.1 121 4 = nI c → ∃ g', f3_readDigits_b13 f g = some g' ∧ GX g g' ∧ g'.1 121 3 = nI (run t m p) ∧ g'.1 121 2 = nI s ∧ g'.1 121 4 = nI (cap t m p c) ∧ g'.1 121 1 = (if 99 < cap t m p c then -2 else if t s = 48 then (if run t m p ≤ s + 1 then 48 else -2) else 48) := by
  have stop : ∀ (p c : Nat) (g : Sg), s ≤ p → p ≤ n → c ≤ 100 → XX g t n → g.1 121 3 = nI p → g.1 121 2 = nI s → g.1 121 4 = nI c → ∃ g', f3_readDigits_b79 g = some g' ∧ GX g g' ∧ g'.1 121 3 = nI p ∧ g'.1 121 2 = nI s ∧ g'.1 121 4 = nI c ∧ g'.1 121 1 = (if 99 < c then -2 else if t s = 48 then (if p ≤ s + 1 then 48 else -2) else 48) := by
    intro p c g hs hp hc h e3 e2 e4
    have hn := h.2.1
    have ht := h.2.2.1 s
    have res : ∀ K : Int32, K = (if 99 < c then -2 else if t s = 48 then (if p ≤ s + 1 then 48 else -2) else 48) → ∃ g', f3_readDigits_b132 K g = some g' ∧ GX g g' ∧ g'.1 121 3 = nI p ∧ g'.1 121 2 = nI s ∧ g'.1 121 4 = nI c ∧ g'.1 121 1 = (if 99 < c then -2 else if t s = 48 then (if p ≤ s + 1 then 48 else -2) else 48) := by
      intro K hK
      unfold f3_readDigits_b132
      rw [nx_eq]
      exact ⟨_, rfl, GX.pu (by omega), by rw [pu_eq, up_ne (by omega), e3], by rw [pu_eq, up_ne (by omega), e2], by rw [pu_eq, up_ne (by omega), e4], by rw [pu_eq, up_eq, hK]⟩
    have b109 : (t s = 48 → p ≤ s + 1) → ∃ g', f3_readDigits_b109 g = some g' ∧ GX g g' ∧ g'.1 121 3 = nI p ∧ g'.1 121 2 = nI s ∧ g'.1 121 4 = nI c ∧ g'.1 121 1 = (if 99 < c then -2 else if t s = 48 then (if p ≤ s + 1 then 48 else -2) else 48) := by
      intro hz
      unfold f3_readDigits_b109 f3_readDigits_b110 f3_readDigits_b125
      rw [if_pos rfl, e4]
      by_cases l : 99 < c
      · rw [if_pos (show nI c = (100 : Int32) from by rw [show c = 100 by omega]; rfl)]
        exact res _ (by rw [if_pos l])
      · rw [if_neg (show ¬ nI c = (100 : Int32) from fun z => by
          have := (nI_eq (b := 100) (by omega) (by omega)).1 z
          omega)]
        refine res _ ?_
        rw [if_neg l]
        by_cases q : t s = 48
        · rw [if_pos q, if_pos (hz q)]
        · rw [if_neg q]
    unfold f3_readDigits_b79
    rw [e2, letX h hsn, bd2_some, e3, e2, nI_1]
    by_cases q : t s = 48
    · rw [if_pos (show nI (t s) = (48 : Int32) from by rw [q]; rfl)]
      by_cases l : p ≤ s + 1
      · rw [if_pos (nI_le l (by omega))]
        exact b109 (fun _ => l)
      · rw [if_neg (nI_ge (by omega) (by omega))]
        unfold f3_readDigits_b110 f3_readDigits_b125
        rw [if_neg one_ne0.mp]
        refine res _ ?_
        rw [if_pos q, if_neg l]
        split <;> rfl
    · rw [if_neg (show ¬ nI (t s) = (48 : Int32) from fun z => q ((nI_eq (b := 48) (by omega) (by omega)).1 z))]
      exact b109 (fun z => absurd z q)
  intro m
  induction m with
  | zero =>
    intro p c f g hp hs hf hc h e3 e2 e4
    have hn := h.2.1
    obtain ⟨f, rfl⟩ : ∃ k, f = k + 1 := ⟨f - 1, by omega⟩
    unfold f3_readDigits_b13
    rw [h.1, e3, if_pos (nI_le (by omega) (by omega))]
    exact stop p c g hs (by omega) hc h e3 e2 e4
  | succ m ih =>
    intro p c f g hp hs hf hc h e3 e2 e4
    have hn := h.2.1
    have ht := h.2.2.1 p
    obtain ⟨f, rfl⟩ : ∃ k, f = k + 1 := ⟨f - 1, by omega⟩
    unfold f3_readDigits_b13
    rw [run, cap, h.1, e3, if_neg (nI_ge (by omega) (by omega)), letX h (by omega), bd2_some, digX ht, bd2_some]
    by_cases d : isD (t p) = true
    · rw [if_pos d, if_neg one_ne0.mp, if_pos d, if_pos d]
      have hd := isD_iff.1 d
      have hv : (if nI (c * 10 + (t p - 48)) < (100 : Int32) then nI (c * 10 + (t p - 48)) else 100) = nI (min (c * 10 + (t p - 48)) 100) := by
        by_cases l : c * 10 + (t p - 48) < 100
        · rw [if_pos (show nI (c * 10 + (t p - 48)) < (100 : Int32) from nI_lt (b := 100) l (by omega)), Nat.min_eq_left (by omega)]
        · rw [if_neg (show ¬ nI (c * 10 + (t p - 48)) < (100 : Int32) from nI_nlt (b := 100) (by omega) (by omega)), Nat.min_eq_right (by omega)]
          rfl
      have f1 : GX g (pu (pu g 121 4 (nI (min (c * 10 + (t p - 48)) 100))) 121 3 (nI (p + 1))) := (GX.pu (by omega)).trans (GX.pu (by omega))
      obtain ⟨g', a1, a2, a3⟩ := ih (p + 1) (min (c * 10 + (t p - 48)) 100) f _ (by omega) (by omega) (by omega) (by omega) (h.g f1) (by rw [pu_eq, up_eq]) (by rw [pu_eq, up_ne (by omega), pu_eq, up_ne (by omega), e2]) (by rw [pu_eq, up_ne (by omega), pu_eq, up_eq])
      refine ⟨g', ?_, f1.trans a2, a3⟩
      rw [e3, letX h (by omega), bd2_some, e4, show nI c * (10 : Int32) = nI (c * 10) from pk_mul c 10, nI_add, show nI (c * 10 + t p) - 48 = nI (c * 10 + (t p - 48)) from by rw [show nI (c * 10 + t p) - 48 = nI (c * 10 + t p - 48) from pk_sub (b := 48) (by omega), Nat.add_sub_assoc hd.1], hv, nx_eq, pu_eq, up_ne (by omega), e3, nI_1, nx_eq]
      exact a1
    · rw [if_neg d, if_pos rfl, if_neg d, if_neg d]
      exact stop p c g hs (by omega) hc h e3 e2 e4
theorem toX {t : Nat → Nat} {n b : Nat} {g : Sg} (h : XX g t n) (hb : b ≤ n) (e3 : g.1 121 3 = nI b) : ∃ g', f3_readToken g = some g' ∧ GX g g' ∧ g'.1 121 2 = nI (tokS t n b) ∧ g'.1 121 3 = nI (tokA t n b) ∧ g'.1 121 1 = sgn (tokK t n b) (tokV t n b) ∧ (tokK t n b = 2 → g'.1 121 4 = nI (tokV t n b)) := by
  have hn := h.2.1
  -- behind the spaces
  have b45 : ∀ (g : Sg), XX g t n → g.1 121 2 = nI (tokS t n b) → ∃ g', f3_readToken_b45 g = some g' ∧ GX g g' ∧ g'.1 121 2 = nI (tokS t n b) ∧ g'.1 121 3 = nI (tokA t n b) ∧ g'.1 121 1 = sgn (tokK t n b) (tokV t n b) ∧ (tokK t n b = 2 → g'.1 121 4 = nI (tokV t n b)) := by
    intro g h e2
    have sl := spc_le (t := t) (n - b) b
    have sl2 : tokS t n b ≤ n := by
      have : tokS t n b = spc t (n - b) b := rfl
      omega
    unfold f3_readToken_b45 f3_readToken_b140
    rw [h.1, e2, nI_1]
    have hmin : (if nI n < nI (tokS t n b + 1) then nI n else nI (tokS t n b + 1)) = nI (min n (tokS t n b + 1)) := by
      by_cases l : n < tokS t n b + 1
      · rw [if_pos (nI_lt l (by omega)), Nat.min_eq_left (by omega)]
      · rw [if_neg (nI_nlt (by omega) (by omega)), Nat.min_eq_right (by omega)]
    have f1 : GX g (pu g 121 3 (nI (min n (tokS t n b + 1)))) := GX.pu (by omega)
    have e2' : (pu g 121 3 (nI (min n (tokS t n b + 1)))).1 121 2 = nI (tokS t n b) := by rw [pu_eq, up_ne (by omega), e2]
    rw [hmin, nx_eq, e2']
    by_cases hs : tokS t n b = n
    · have k0 : tokK t n b = 0 := if_pos hs
      have a0 : tokA t n b = n := if_pos hs
      rw [letX_end (h.g f1) (by omega) (by omega), bd2_some, if_pos rfl, nx_eq]
      refine ⟨_, rfl, f1.trans (GX.pu (by omega)), ?_, ?_, ?_, fun z => by omega⟩
      · rw [pu_eq, up_ne (by omega), e2']
      · rw [pu_eq, up_ne (by omega), pu_eq, up_eq, a0, Nat.min_eq_left (by omega)]
      · rw [pu_eq, up_eq, k0]
        rfl
    · have ht := h.2.2.1 (tokS t n b)
      have e : ∀ c : Nat, c < 1000 → (nI (t (tokS t n b)) = nI c ↔ t (tokS t n b) = c) := fun c hc => nI_eq (by omega) (by omega)
      rw [letX (h.g f1) (by omega), bd2_some, if_neg (show ¬ nI (t (tokS t n b)) = -1 from (ne_m1 (by omega)).mp), Nat.min_eq_right (show tokS t n b + 1 ≤ n by omega)]
      rw [Nat.min_eq_right (show tokS t n b + 1 ≤ n by omega)] at f1 e2'
      -- a sign
      have sg : ∀ c : Nat, c < 1000 → t (tokS t n b) = c → (c = 59 ∨ c = 97 ∨ c = 109 ∨ c = 112 ∨ c = 115 ∨ c = 120) → ∃ g', (nx (pu (pu g 121 3 (nI (tokS t n b + 1))) 121 1 (nI (t (tokS t n b)))) fun g1 => some g1) = some g' ∧ GX g g' ∧ g'.1 121 2 = nI (tokS t n b) ∧ g'.1 121 3 = nI (tokA t n b) ∧ g'.1 121 1 = sgn (tokK t n b) (tokV t n b) ∧ (tokK t n b = 2 → g'.1 121 4 = nI (tokV t n b)) := by
        intro c hc1 hc hc2
        have nd : ¬ isD (t (tokS t n b)) = true := fun z => by
          have := isD_iff.1 z
          omega
        have eA : tokA t n b = tokS t n b + 1 := by
          unfold tokA
          rw [if_neg hs, if_neg nd]
        have eV : tokV t n b = t (tokS t n b) := by
          unfold tokV
          rw [if_neg nd]
        have eK : tokK t n b = if t (tokS t n b) = 59 then 3 else 1 := by
          unfold tokK
          rw [if_neg hs, if_neg nd]
          by_cases q : t (tokS t n b) = 59
          · rw [if_pos q, if_pos q]
          · rw [if_neg q, if_neg q, if_pos (show isL (t (tokS t n b)) = true from decide_eq_true (by omega))]
        rw [nx_eq]
        refine ⟨_, rfl, f1.trans (GX.pu (by omega)), ?_, ?_, ?_, fun z => ?_⟩
        · rw [pu_eq, up_ne (by omega), e2']
        · rw [pu_eq, up_ne (by omega), pu_eq, up_eq, eA]
        · rw [pu_eq, up_eq, eK, eV]
          by_cases q : t (tokS t n b) = 59
          · rw [if_pos q, q]
            rfl
          · rw [if_neg q]
            rfl
        · rw [eK] at z
          split at z <;> omega
      rw [show (59 : Int32) = nI 59 from rfl, show (97 : Int32) = nI 97 from rfl, show (109 : Int32) = nI 109 from rfl, show (112 : Int32) = nI 112 from rfl, show (115 : Int32) = nI 115 from rfl, show (120 : Int32) = nI 120 from rfl]
      by_cases c1 : t (tokS t n b) = 59
      · rw [if_pos ((e 59 (by omega)).2 c1)]
        exact sg 59 (by omega) c1 (by omega)
      rw [if_neg (fun z => c1 ((e 59 (by omega)).1 z))]
      by_cases c2 : t (tokS t n b) = 97
      · rw [if_pos ((e 97 (by omega)).2 c2)]
        exact sg 97 (by omega) c2 (by omega)
      rw [if_neg (fun z => c2 ((e 97 (by omega)).1 z))]
      by_cases c3 : t (tokS t n b) = 109
      · rw [if_pos ((e 109 (by omega)).2 c3)]
        exact sg 109 (by omega) c3 (by omega)
      rw [if_neg (fun z => c3 ((e 109 (by omega)).1 z))]
      by_cases c4 : t (tokS t n b) = 112
      · rw [if_pos ((e 112 (by omega)).2 c4)]
        exact sg 112 (by omega) c4 (by omega)
      rw [if_neg (fun z => c4 ((e 112 (by omega)).1 z))]
      by_cases c5 : t (tokS t n b) = 115
      · rw [if_pos ((e 115 (by omega)).2 c5)]
        exact sg 115 (by omega) c5 (by omega)
      rw [if_neg (fun z => c5 ((e 115 (by omega)).1 z))]
      by_cases c6 : t (tokS t n b) = 120
      · rw [if_pos ((e 120 (by omega)).2 c6)]
        exact sg 120 (by omega) c6 (by omega)
      rw [if_neg (fun z => c6 ((e 120 (by omega)).1 z)), nx_eq, digX ht, bd2_some]
      have f2 : GX g (pu (pu g 121 3 (nI (tokS t n b + 1))) 121 1 (-2)) := f1.trans (GX.pu (by omega))
      by_cases d : isD (t (tokS t n b)) = true
      · rw [if_pos d, if_neg one_ne0.mp]
        unfold f3_readDigits
        rw [nx_eq, nx_eq]
        have q2 : (pu (pu (pu g 121 3 (nI (tokS t n b + 1))) 121 1 (-2)) 121 4 0).1 121 2 = nI (tokS t n b) := by rw [pu_eq, up_ne (by omega), pu_eq, up_ne (by omega), e2']
        rw [q2]
        have f3 : GX g (pu (pu (pu (pu g 121 3 (nI (tokS t n b + 1))) 121 1 (-2)) 121 4 0) 121 3 (nI (tokS t n b))) := (f2.trans (GX.pu (by omega))).trans (GX.pu (by omega))
        obtain ⟨g', a1, a2, a3, a4, a5, a6⟩ := dig_x (s := tokS t n b) (by omega) (n - tokS t n b) (tokS t n b) 0 1000 _ (by omega) (Nat.le_refl _) (by omega) (by omega) (h.g f3) (by rw [pu_eq, up_eq]) (by rw [pu_eq, up_ne (by omega), q2]) (by rw [pu_eq, up_ne (by omega), pu_eq, up_eq]; rfl)
        have eA : tokA t n b = run t (n - tokS t n b) (tokS t n b) := by
          unfold tokA
          rw [if_neg hs, if_pos d]
        have eV : tokV t n b = cap t (n - tokS t n b) (tokS t n b) 0 := by
          unfold tokV
          rw [if_pos d]
        refine ⟨g', by rw [a1, bd_some], f3.trans a2, a4, by rw [a3, eA], ?_, fun _ => by rw [a5, eV]⟩
        rw [a6, ← eV, ← eA]
        unfold tokK
        rw [if_neg hs, if_pos d]
        by_cases l : 99 < tokV t n b
        · rw [if_pos l, if_pos l]
          rfl
        · rw [if_neg l, if_neg l]
          by_cases q : t (tokS t n b) = 48
          · rw [if_pos q, if_pos q]
            by_cases z : tokA t n b ≤ tokS t n b + 1
            · rw [if_pos z, if_pos z]
              rfl
            · rw [if_neg z, if_neg z]
              rfl
          · rw [if_neg q, if_neg q]
            rfl
      · have eA : tokA t n b = tokS t n b + 1 := by
          unfold tokA
          rw [if_neg hs, if_neg d]
        have eK : tokK t n b = 4 := by
          unfold tokK
          rw [if_neg hs, if_neg d, if_neg c1, if_neg (fun z => by
            have := of_decide_eq_true z
            omega)]
        rw [if_neg d, if_pos rfl]
        refine ⟨_, rfl, f2, ?_, ?_, ?_, fun z => by omega⟩
        · rw [pu_eq, up_ne (by omega), e2']
        · rw [pu_eq, up_ne (by omega), pu_eq, up_eq, eA]
        · rw [pu_eq, up_eq, eK]
          rfl
  have go : ∀ (m p f : Nat) (g : Sg), p + m = n → m < f → XX g t n → g.1 121 2 = nI p → tokS t n b = spc t m p → ∃ g', f3_readToken_b8 f g = some g' ∧ GX g g' ∧ g'.1 121 2 = nI (tokS t n b) ∧ g'.1 121 3 = nI (tokA t n b) ∧ g'.1 121 1 = sgn (tokK t n b) (tokV t n b) ∧ (tokK t n b = 2 → g'.1 121 4 = nI (tokV t n b)) := by
    intro m
    induction m with
    | zero =>
      intro p f g hp hf h e2 hs
      obtain ⟨f, rfl⟩ : ∃ k, f = k + 1 := ⟨f - 1, by omega⟩
      unfold f3_readToken_b8
      rw [h.1, e2, if_pos (nI_le (by omega) (by omega))]
      exact b45 g h (by rw [e2, hs]; rfl)
    | succ m ih =>
      intro p f g hp hf h e2 hs
      obtain ⟨f, rfl⟩ : ∃ k, f = k + 1 := ⟨f - 1, by omega⟩
      have ht := h.2.2.1 p
      rw [spc] at hs
      unfold f3_readToken_b8
      rw [h.1, e2, if_neg (nI_ge (by omega) (by omega)), letX h (by omega), bd2_some]
      by_cases sp : t p = 32
      · rw [if_pos sp] at hs
        have f1 : GX g (pu g 121 2 (nI (p + 1))) := GX.pu (by omega)
        obtain ⟨g', a1, a2, a3⟩ := ih (p + 1) f (pu g 121 2 (nI (p + 1))) (by omega) (by omega) (h.g f1) (by rw [pu_eq, up_eq]) hs
        refine ⟨g', ?_, f1.trans a2, a3⟩
        rw [sp, if_pos (show nI 32 = (32 : Int32) from rfl), e2, nI_1, nx_eq]
        exact a1
      · rw [if_neg sp] at hs
        rw [if_neg (show ¬ nI (t p) = (32 : Int32) from fun z => sp ((nI_eq (b := 32) (by omega) (by omega)).1 z))]
        exact b45 g h (by rw [e2, hs])
  unfold f3_readToken
  rw [e3, nx_eq]
  have f0 : GX g (pu g 121 2 (nI b)) := GX.pu (by omega)
  obtain ⟨g', a1, a2, a3⟩ := go (n - b) b 1000 (pu g 121 2 (nI b)) (by omega) (by omega) (h.g f0) (by rw [pu_eq, up_eq]) rfl
  exact ⟨g', a1, f0.trans a2, a3⟩
