/-! the state that both sides hold. A ring: R 0 0 places, R 0 1 moons, R 0 2 round, R 0 3 strays; R 1 l step, R 2 l counts; R 3 j kind, R 4 j edge, R 5 j place, R 6 j step; R (10 + l) p lumps -/
abbrev Rg : Type := Nat → Nat → Nat
/-- the seat of place p in a lane that has turned by t -/
def sea (P t p : Nat) : Nat := if t ≤ p then p - t else p + P - t
def CLum (M : Mm) (a P : Nat) (tu : Nat → Nat) (R : Rg) : Prop := (∀ l, l < 5 → M (a + 4) l = nI (tu l) ∧ tu l < P) ∧ ∀ l p, l < 5 → p < P → M (a + 3) (24 * l + sea P (tu l) p) = nI (R (10 + l) p)
def CRing (M : Mm) (a : Nat) (tu : Nat → Nat) (R : Rg) : Prop :=
  M a 9 = nI (R 0 0) ∧ M a 10 = nI (R 0 1) ∧ M a 11 = nI (R 0 2) ∧ M a 12 = nI (R 0 3) ∧ (∀ l, l < 5 → M (a + 1) l = nI (R 1 l) ∧ M (a + 2) l = nI (R 2 l)) ∧ CLum M a (R 0 0) tu R ∧
  ∀ j, j < R 0 1 → M (a + 5) j = nI (R 3 j) ∧ M (a + 6) j = nI (R 4 j) ∧ M (a + 7) j = nI (R 5 j) ∧ M (a + 8) j = nI (R 6 j)
/-- what may be gone back to, in a ring of P places -/
def CPast (M : Mm) (a P : Nat) (tu : Nat → Nat) (Q : Rg) : Prop :=
  M a 10 = nI (Q 0 1) ∧ M a 11 = nI (Q 0 2) ∧ M a 12 = nI (Q 0 3) ∧ CLum M a P tu Q ∧ ∀ j, j < Q 0 1 → M (a + 7) j = nI (Q 5 j)
def CStory (M : Mm) (b : Nat) (R : Rg) (u : Nat) (ps : Nat → Rg) : Prop :=
  (∃ tu, CRing M (b + 1) tu R) ∧ M b 3 = nI u ∧ (∀ i, i < 6 → ∃ n, n ≤ 4 ∧ M (b + 11 + 9 * i) 10 = nI n) ∧ ∃ nw, nw < 6 ∧ M b 2 = nI nw ∧ ∀ i, i < u → ∃ tu, CPast M (b + 11 + 9 * ((nw + 7 + i - u) % 6)) (R 0 0) tu (ps i)
def MLum (M : Mm) (b o P : Nat) (R : Rg) : Prop := ∀ l p, l < 5 → p < 24 → M b (o + 24 * l + p) = nI (if p < P then R (10 + l) p else 0)
def MRing (M : Mm) (b o : Nat) (R : Rg) : Prop :=
  M b o = nI (R 0 0) ∧ (∀ l, l < 5 → M b (o + 1 + l) = nI (R 1 l) ∧ M b (o + 143 + l) = nI (R 2 l)) ∧ MLum M b (o + 6) (R 0 0) R ∧ M b (o + 126) = nI (R 0 1) ∧
  (∀ j w, j < R 0 1 → w < 4 → M b (o + 127 + 4 * j + w) = nI (R (3 + w) j)) ∧ M b (o + 148) = nI (R 0 2) ∧ M b (o + 149) = nI (R 0 3)
def MPast (M : Mm) (b o P : Nat) (Q : Rg) : Prop :=
  MLum M b o P Q ∧ (∀ j, j < Q 0 1 → M b (o + 120 + j) = nI (Q 5 j)) ∧ M b (o + 124) = nI (Q 0 2) ∧ M b (o + 125) = nI (Q 0 3) ∧ M b (o + 126) = nI (Q 0 1)
def MStory (M : Mm) (b o : Nat) (R : Rg) (u : Nat) (ps : Nat → Rg) : Prop := MRing M b o R ∧ M b (o + 150) = nI u ∧ ∀ i, i < u → MPast M b (o + 151 + 127 * i) (R 0 0) (ps i)
/-- sums -/
def smF (f : Nat → Nat) : Nat → Nat
  | 0 => 0
  | n + 1 => smF f n + f n
def tot (P : Nat) (R : Rg) : Nat := smF (fun l => smF (R (10 + l)) P) 5
def ROk (k : Nat) (R : Rg) : Prop := (4 ≤ R 0 0 ∧ R 0 0 ≤ 24) ∧ R 0 1 ≤ 4 ∧ R 0 2 ≤ k ∧ R 0 3 ≤ 400000 * k ∧ (∀ l, l < 5 → R 1 l ≤ 9 ∧ R 2 l ≤ 9999) ∧ (∀ j, j < R 0 1 → R 3 j ≤ 4 ∧ R 4 j ≤ 5 ∧ R 5 j < R 0 0 ∧ R 6 j ≤ 9) ∧ tot (R 0 0) R ≤ 30000 + 999 * k
def POk (k : Nat) (R Q : Rg) : Prop := Q 0 1 ≤ R 0 1 ∧ Q 0 2 ≤ k ∧ Q 0 3 ≤ 400000 * k ∧ (∀ j, j < Q 0 1 → Q 5 j < R 0 0) ∧ tot (R 0 0) Q ≤ 30000 + 999 * k
def SOk (k : Nat) (R : Rg) (u : Nat) (ps : Nat → Rg) : Prop := ROk k R ∧ u ≤ 6 ∧ ∀ i, i < u → POk k R (ps i)
def BothS (k : Nat) (M : Mm) (b c o : Nat) : Prop := ∃ R u ps, CStory M b R u ps ∧ MStory M c o R u ps ∧ SOk k R u ps
def BothT (M : Mm) (x y : Nat) : Prop := ∃ n, n ≤ 250 ∧ M (x + 220) 1 = nI n ∧ M y 18 = nI n ∧ ∀ i, i < n → ∃ c, c < 256 ∧ M (x + 221) i = nI c ∧ M (y + 11) i = nI c
def BothI (k : Nat) (M : Mm) (x y : Nat) : Prop := ∀ i, i < 2 → (M (x + 203) i = 0 ∧ M (y + 3) i = 0) ∨ (M (x + 203) i = 1 ∧ M (y + 3) i = 1 ∧ BothS k M (x + 73 + 65 * i) (y + 2) (913 * i))
def IInv (x y k : Nat) (M : Mm) (N : Ml) : Prop := BothS k M (x + 7) (y + 1) 0 ∧ BothI k M x y ∧ BothT M x y ∧ (∀ j, j < 3 → M (x + 233) j = M (y + 4) j) ∧ N x 7 = N y 4 ∧ N x 8 = N y 5
/-! rows that don't change keep what they held -/
theorem CLum.mono {M M' : Mm} {a P : Nat} {tu : Nat → Nat} {R : Rg} (h : CLum M a P tu R) (h3 : M' (a + 3) = M (a + 3)) (h4 : M' (a + 4) = M (a + 4)) : CLum M' a P tu R := by
  unfold CLum at h ⊢
  rw [h3, h4]
  exact h
theorem CRing.mono {M M' : Mm} {a : Nat} {tu : Nat → Nat} {R : Rg} (h : CRing M a tu R) (hm : ∀ q, a ≤ q → q < a + 9 → M' q = M q) : CRing M' a tu R := by
  obtain ⟨h1, h2, h3, h4, h5, h6, h7⟩ := h
  refine ⟨?_, ?_, ?_, ?_, ?_, h6.mono (hm _ (by omega) (by omega)) (hm _ (by omega) (by omega)), ?_⟩
  · rw [hm a (by omega) (by omega)]; exact h1
  · rw [hm a (by omega) (by omega)]; exact h2
  · rw [hm a (by omega) (by omega)]; exact h3
  · rw [hm a (by omega) (by omega)]; exact h4
  · rw [hm (a + 1) (by omega) (by omega), hm (a + 2) (by omega) (by omega)]; exact h5
  · rw [hm (a + 5) (by omega) (by omega), hm (a + 6) (by omega) (by omega), hm (a + 7) (by omega) (by omega), hm (a + 8) (by omega) (by omega)]; exact h7
theorem CPast.mono {M M' : Mm} {a P : Nat} {tu : Nat → Nat} {Q : Rg} (h : CPast M a P tu Q) (hm : ∀ q, a ≤ q → q < a + 9 → M' q = M q) : CPast M' a P tu Q := by
  obtain ⟨h1, h2, h3, h4, h5⟩ := h
  refine ⟨?_, ?_, ?_, h4.mono (hm _ (by omega) (by omega)) (hm _ (by omega) (by omega)), ?_⟩
  · rw [hm a (by omega) (by omega)]; exact h1
  · rw [hm a (by omega) (by omega)]; exact h2
  · rw [hm a (by omega) (by omega)]; exact h3
  · rw [hm (a + 7) (by omega) (by omega)]; exact h5
theorem CStory.mono {M M' : Mm} {b : Nat} {R : Rg} {u : Nat} {ps : Nat → Rg} (h : CStory M b R u ps) (hm : ∀ q, b ≤ q → q < b + 65 → M' q = M q) : CStory M' b R u ps := by
  obtain ⟨⟨tu, h1⟩, h2, h7, nw, h3, h4, h5⟩ := h
  refine ⟨⟨tu, h1.mono (fun q a b => hm q (by omega) (by omega))⟩, ?_, fun i hi => by rw [hm _ (by omega) (by omega)]; exact h7 i hi, nw, h3, ?_, fun i hi => ?_⟩
  · rw [hm b (by omega) (by omega)]; exact h2
  · rw [hm b (by omega) (by omega)]; exact h4
  · obtain ⟨tu', h6⟩ := h5 i hi
    have : (nw + 7 + i - u) % 6 < 6 := Nat.mod_lt _ (by omega)
    exact ⟨tu', h6.mono (fun q a b => hm q (by omega) (by omega))⟩
theorem MStory.mono {M M' : Mm} {b o : Nat} {R : Rg} {u : Nat} {ps : Nat → Rg} (h : MStory M b o R u ps) (hm : M' b = M b) : MStory M' b o R u ps := by
  unfold MStory MRing MPast MLum at h ⊢
  rw [hm]
  exact h
theorem BothS.mono {k : Nat} {M M' : Mm} {b c o : Nat} (h : BothS k M b c o) (hm : ∀ q, b ≤ q → q < b + 65 → M' q = M q) (hc : M' c = M c) : BothS k M' b c o := by
  obtain ⟨R, u, ps, h1, h2, h3⟩ := h
  exact ⟨R, u, ps, h1.mono hm, h2.mono hc, h3⟩
theorem ROk.up {k k' : Nat} {R : Rg} (h : ROk k R) (hk : k ≤ k') : ROk k' R := by
  obtain ⟨h1, h2, h3, h4, h5, h6, h7⟩ := h
  exact ⟨h1, h2, by omega, by omega, h5, h6, by omega⟩
theorem POk.up {k k' : Nat} {R Q : Rg} (h : POk k R Q) (hk : k ≤ k') : POk k' R Q := by
  obtain ⟨h1, h2, h3, h4, h5⟩ := h
  exact ⟨h1, by omega, by omega, h4, by omega⟩
theorem SOk.up {k k' : Nat} {R : Rg} {u : Nat} {ps : Nat → Rg} (h : SOk k R u ps) (hk : k ≤ k') : SOk k' R u ps := ⟨h.1.up hk, h.2.1, fun i hi => (h.2.2 i hi).up hk⟩
theorem BothS.up {k k' : Nat} {M : Mm} {b c o : Nat} (h : BothS k M b c o) (hk : k ≤ k') : BothS k' M b c o := by
  obtain ⟨R, u, ps, h1, h2, h3⟩ := h
  exact ⟨R, u, ps, h1, h2, h3.up hk⟩
theorem BothI.mono {k : Nat} {M M' : Mm} {x y : Nat} (h : BothI k M x y) (hx : ∀ q, x + 73 ≤ q → q < x + 204 → M' q = M q) (h2 : M' (y + 2) = M (y + 2)) (h3 : M' (y + 3) = M (y + 3)) : BothI k M' x y := by
  intro i hi
  rw [hx (x + 203) (by omega) (by omega), h3]
  rcases h i hi with h | ⟨a, b, c⟩
  · exact Or.inl h
  · exact Or.inr ⟨a, b, c.mono (fun q q1 q2 => hx q (by omega) (by omega)) h2⟩
theorem BothI.up {k k' : Nat} {M : Mm} {x y : Nat} (h : BothI k M x y) (hk : k ≤ k') : BothI k' M x y := by
  intro i hi
  rcases h i hi with h | ⟨a, b, c⟩
  · exact Or.inl h
  · exact Or.inr ⟨a, b, c.up hk⟩
theorem BothT.mono {M M' : Mm} {x y : Nat} (h : BothT M x y) (h1 : M' (x + 220) = M (x + 220)) (h2 : M' (x + 221) = M (x + 221)) (h3 : M' y = M y) (h4 : M' (y + 11) = M (y + 11)) : BothT M' x y := by
  unfold BothT at h ⊢
  rw [h1, h2, h3, h4]
  exact h
theorem IInv.up {x y k k' : Nat} {M : Mm} {N : Ml} (h : IInv x y k M N) (hk : k ≤ k') : IInv x y k' M N := ⟨h.1.up hk, h.2.1.up hk, h.2.2⟩
/-- a call that both refuse -/
theorem IInv.refused {x y k w : Nat} {M : Mm} {N : Ml} (h : IInv x y k M N) (hy : y = x + 234) (hw : w < 3) : IInv x y (k + 5) (up2 (up2 M (x + 233) w (M (x + 233) w + 1)) (y + 4) w ((up2 M (x + 233) w (M (x + 233) w + 1)) (y + 4) w + 1)) N := by
  subst hy
  have hne : ∀ q, q ≠ x + 233 → q ≠ x + 234 + 4 → up2 (up2 M (x + 233) w (M (x + 233) w + 1)) (x + 234 + 4) w ((up2 M (x + 233) w (M (x + 233) w + 1)) (x + 234 + 4) w + 1) q = M q := fun q h1 h2 => by rw [up2_o _ _ _ h2, up2_o _ _ _ h1]
  obtain ⟨h1, h2, h3, h4, h5⟩ := h.up (show k ≤ k + 5 by omega)
  refine ⟨h1.mono (fun q a b => hne q (by omega) (by omega)) (hne _ (by omega) (by omega)), h2.mono (fun q a b => hne q (by omega) (by omega)) (hne _ (by omega) (by omega)) (hne _ (by omega) (by omega)), h3.mono (hne _ (by omega) (by omega)) (hne _ (by omega) (by omega)) (hne _ (by omega) (by omega)) (hne _ (by omega) (by omega)), fun j hj => ?_, h5⟩
  have e := h4 j hj
  simp only [up2_at]
  by_cases hjw : j = w
  · subst hjw
    simp
    rw [e]
  · simp [hjw]
    exact e
