theorem rel_all : ∃ (Rel : Sg → Sg → Prop) (g1 g2 : Sg), f6_begins gz6 = some g1 ∧ f6_settles g1 = some g2 ∧ Rel gz5 g2 ∧ RelOk Rel := by
  obtain ⟨g1, b1, b2, b3, b4, b5, b6, b7, b8, b9⟩ := beginsM gz6
  obtain ⟨g2, d1, d2, d3, d4, d5, d6, d7, d8, d9, d10, d11⟩ := settlesM g1
  refine ⟨Rel, g1, g2, b1, d1, ⟨⟨0, 0, 10, 12, ?_⟩, ?_⟩, ?_⟩
  · have t0 : T0 gz5.1 g2.1 0 0 10 12 := ⟨⟨rfl, by rw [d3 0 (by omega), b5]; rfl, by omega⟩, ⟨rfl, by rw [d3 1 (by omega), b6]; rfl, by omega⟩, ⟨rfl, by rw [d3 2 (by omega), b7]; rfl, by omega, by omega⟩, ⟨rfl, by rw [d3 3 (by omega), b8]; rfl, by omega, by omega⟩, fun p hp => absurd hp (by omega), fun q hq => absurd hq (by omega)⟩
    refine fresh t0 (fun i c hi hc => ?_) (fun i q h1 h2 hq => ?_) rfl d7 ⟨0, by omega, rfl⟩ rfl d10 (fun i hi => rfl) d11 rfl d9 rfl d8
    · rcases (show i = 0 ∨ i = 1 by omega) with rfl | rfl <;> rfl
    · rcases (show i = 2 ∨ i = 3 ∨ i = 4 by omega) with rfl | rfl | rfl <;> rfl
  · exact (d2.trans b2.2.2).symm
  · exact ⟨s_type, s_clear, s_moss, s_person, s_promise, s_word, s_cell, s_now, s_cuts, s_drains, s_does, s_year, s_undo, s_left, s_lasts, s_duty, s_sees, s_forget, s_fits, s_likely, s_kept, s_order, s_drain, s_odds, s_rate, s_keep, s_back, s_count, s_trace⟩
