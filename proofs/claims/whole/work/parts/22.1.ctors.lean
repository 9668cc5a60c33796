theorem r_of5 {g : Ev} {q : Nat} {cA : ClassId} {f' f : Nat → Option Nat} (h : q ∈ g.2.1 ∧ g.2.2.1 q = .inl (cA, 5, some f')) (h0 : f' 0 = f 0) (h1 : f' 1 = f 1) (h2 : f' 2 = f 2) (h3 : f' 3 = f 3) (h4 : f' 4 = f 4) : rAt g q cA 5 f := ⟨h.1, f', h.2, fun i hi => by
  rcases (show i = 0 ∨ i = 1 ∨ i = 2 ∨ i = 3 ∨ i = 4 by omega) with rfl | rfl | rfl | rfl | rfl <;> assumption⟩
theorem r_of2 {g : Ev} {q : Nat} {cA : ClassId} {f' f : Nat → Option Nat} (h : q ∈ g.2.1 ∧ g.2.2.1 q = .inl (cA, 2, some f')) (h0 : f' 0 = f 0) (h1 : f' 1 = f 1) : rAt g q cA 2 f := ⟨h.1, f', h.2, fun i hi => by
  rcases (show i = 0 ∨ i = 1 by omega) with rfl | rfl <;> assumption⟩
theorem two_stories {g : Ev} {kd x : Nat} (h0 : oStory g kd (x + 73)) (h1 : oStory g kd (x + 138)) : ∀ i, i < 2 → oStory g kd (x + 73 + 65 * i) := by
  intro i hi
  rcases (show i = 0 ∨ i = 1 by omega) with rfl | rfl
  · exact h0
  · exact h1
/-- the class's memory at first -/
def tInit (M : Mm) (N : Ml) (x : Nat) : Prop := rInit M (x + 7 + 1) ∧ M (x + 7) 2 = 0 ∧ sInit M (x + 7) ∧ (∀ j, M (x + 203) j = 0) ∧ M (x + 220) 1 = 0 ∧ (∀ j, M (x + 233) j = 0) ∧ N x 7 = 0 ∧ N x 8 = 1
/-- the reference's memory at first -/
def mInit (M : Mm) (N : Ml) (y : Nat) : Prop := (∃ M0, M (y + 1) = mbegM M0 (y + 1) 12 (y + 1)) ∧ (∀ j, M (y + 3) j = 0) ∧ (∀ j, M (y + 4) j = 0) ∧ M y 18 = 0 ∧ N y 4 = 0 ∧ N y 5 = 1
theorem mbeg_o (M : Mm) {a : Nat} (p : Int32) {q : Nat} (h : q ≠ a) : mbegM M a p q = M q := by
  funext j
  simp [mbegM, h]
