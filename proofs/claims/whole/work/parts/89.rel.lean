theorem rel_all : ∃ (Rel : Sg → Sg → Prop) (g1 g2 : Sg), f6_begins gz6 = some g1 ∧ f6_settles g1 = some g2 ∧ Rel gz5 g2 ∧ RelOk Rel := sorry
