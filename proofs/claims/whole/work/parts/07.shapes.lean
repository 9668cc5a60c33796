/-! the shapes of the objects, by where they lie: a constructor lays its arrays behind its object, in order -/
def slRing (kd a : Nat) : List (Nat ⊕ Option Nat) := [.inr (some kd), .inr (some (a + 1)), .inr (some (a + 2)), .inr (some (a + 3)), .inr (some (a + 4)), .inr (some (a + 5)), .inr (some (a + 6)), .inr (some (a + 7)), .inr (some (a + 8)), .inl 0, .inl 0, .inl 0, .inl 0]
def oKinds (g : Ev) (kd : Nat) : Prop := rAt g kd (eP g) 5 (fun i => some (kd + 1 + i)) ∧ oAt g (kd + 1) 3 [] ∧ oAt g (kd + 2) 10 [] ∧ oAt g (kd + 3) 1 [] ∧ oAt g (kd + 4) 8 [] ∧ oAt g (kd + 5) 6 []
def oRing (g : Ev) (kd a : Nat) : Prop := oAt g a 5 (slRing kd a) ∧ iAt g (a + 1) 5 ∧ iAt g (a + 2) 5 ∧ iAt g (a + 3) 120 ∧ iAt g (a + 4) 5 ∧ iAt g (a + 5) 4 ∧ iAt g (a + 6) 4 ∧ iAt g (a + 7) 4 ∧ iAt g (a + 8) 4 ∧ oKinds g kd
def slStory (b : Nat) : List (Nat ⊕ Option Nat) := [.inr (some (b + 1)), .inr (some (b + 10)), .inl 0, .inl 0]
def oStory (g : Ev) (kd b : Nat) : Prop := oAt g b 7 (slStory b) ∧ oRing g kd (b + 1) ∧ rAt g (b + 10) (eR g) 6 (fun i => some (b + 11 + 9 * i)) ∧ ∀ i, i < 6 → oRing g kd (b + 11 + 9 * i)
def oLump (g : Ev) (a : Nat) : Prop := oAt g a 2 [.inl 0, .inl 0, .inl 0]
def slCourse (r c : Nat) : List (Nat ⊕ Option Nat) := [.inr (some r), .inr (some (c + 1)), .inr (some (c + 10)), .inr (some (c + 11)), .inr (some (c + 12)), .inr (some (c + 13)), .inr (some (c + 14)), .inr (some (c + 15))]
def oCourse (g : Ev) (kd r c : Nat) : Prop := oAt g c 0 (slCourse r c) ∧ oRing g kd r ∧ oRing g kd (c + 1) ∧ oLump g (c + 10) ∧ iAt g (c + 11) 5 ∧ iAt g (c + 12) 120 ∧ iAt g (c + 13) 120 ∧ iAt g (c + 14) 120 ∧ iAt g (c + 15) 16
def slText (t : Nat) : List (Nat ⊕ Option Nat) := [.inr (some (t + 1)), .inl 0, .inl 0, .inl 0, .inl 0]
def oText (g : Ev) (t : Nat) : Prop := oAt g t 9 (slText t) ∧ iAt g (t + 1) 250
def slReader (t rd : Nat) : List (Nat ⊕ Option Nat) := [.inr (some t), .inr (some (rd + 1)), .inr (some (rd + 10))]
def oReader (g : Ev) (kd t rd : Nat) : Prop := oAt g rd 4 (slReader t rd) ∧ oText g t ∧ oRing g kd (rd + 1) ∧ iAt g (rd + 10) 4
def slTop (x : Nat) : List (Nat ⊕ Option Nat) := [.inr (some (x + 7)), .inr (some (x + 72)), .inr (some (x + 203)), .inr (some (x + 204)), .inr (some (x + 220)), .inr (some (x + 222)), .inr (some (x + 233)), .inl 1, .inl 1]
def oTop (g : Ev) (x : Nat) : Prop := oAt g x 11 (slTop x) ∧ oStory g (x + 1) (x + 7) ∧ rAt g (x + 72) (eS g) 2 (fun i => some (x + 73 + 65 * i)) ∧ (∀ i, i < 2 → oStory g (x + 1) (x + 73 + 65 * i)) ∧ zAt g (x + 203) 2 ∧ oCourse g (x + 1) (x + 7 + 1) (x + 204) ∧ oText g (x + 220) ∧ oReader g (x + 1) (x + 220) (x + 222) ∧ iAt g (x + 233) 3
def slModel (y : Nat) : List (Nat ⊕ Option Nat) := [.inr (some (y + 1)), .inr (some (y + 2)), .inr (some (y + 3)), .inr (some (y + 4)), .inl 1, .inl 1, .inr (some (y + 5)), .inr (some (y + 6)), .inr (some (y + 7)), .inl 0, .inl 0, .inl 0, .inl 0, .inl 0, .inr (some (y + 8)), .inr (some (y + 9)), .inr (some (y + 10)), .inr (some (y + 11)), .inl 0, .inl 0, .inl 0, .inl 0, .inl 0, .inr (some (y + 12)), .inr (some (y + 13))]
def oModel (g : Ev) (y : Nat) : Prop := oAt g y 12 (slModel y) ∧ iAt g (y + 1) 913 ∧ iAt g (y + 2) 1826 ∧ zAt g (y + 3) 2 ∧ iAt g (y + 4) 3 ∧ iAt g (y + 5) 120 ∧ iAt g (y + 6) 120 ∧ iAt g (y + 7) 4 ∧ iAt g (y + 8) 1560 ∧ iAt g (y + 9) 5 ∧ iAt g (y + 10) 224 ∧ iAt g (y + 11) 250 ∧ iAt g (y + 12) 151 ∧ iAt g (y + 13) 4
