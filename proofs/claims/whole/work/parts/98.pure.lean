theorem pure_all : ∃ Inv : Nat → Nat → Nat → Mm → Ml → Prop, (∀ x M N, tInit M N x → mInit M N (x + 234) → Inv x (x + 234) 0 M N) ∧ ∀ x, LawSteps x (x + 234) (Inv x (x + 234)) := by
  sorry
