theorem ccpL {α : Type} (n : Nat) {n0 n1 : Nat} {k : Option α} (h0 : n ≤ n0) (h1 : n ≤ n1) (hn : n < 2 ^ 31) : ccp (0 : Int32) (0 : Int32) (nI n) n0 n1 k = k := by
  unfold ccp
  have c0 : (0 : Int32).toNatClampNeg = 0 := by decide
  rw [if_pos]
  rw [c0, cl_nI hn]
  exact ⟨by decide, by decide, nI_pos hn, by omega, by omega⟩
theorem cpy0 (f g : Nat → Int32) (n j : Nat) : va_cpy f g (0 : Int32).toNatClampNeg (0 : Int32).toNatClampNeg n j = if j < n then f j else g j := by
  have c0 : (0 : Int32).toNatClampNeg = 0 := by decide
  rw [c0]
  by_cases h : j < n
  · rw [if_pos h, pk_cpy_in (by omega) (by omega)]
    congr 1
    omega
  · rw [if_neg h, pk_cpy_out (by omega)]
def gbM (M : Mm) (a p0 n : Nat) : Mm := fun b j => if b = a then (if j = 11 ∨ j = 12 then M p0 j else M a j) else if b = a + 3 then (if j < 120 then M (p0 + 3) j else M b j) else if b = a + 4 then (if j < 5 then M (p0 + 4) j else M b j) else if b = a + 7 then (if j < n then M (p0 + 7) j else M b j) else M b j
theorem goBackTo_ok (M : Mm) (a p0 n : Nat) (hd : p0 + 9 ≤ a ∨ a + 9 ≤ p0) (hn : n ≤ 4) (h10 : M p0 10 = nI n) : f_X5_goBackTo a p0 M = some (gbM M a p0 n) := by
  have v0 : ∀ (M : Mm) (q : Nat) (f : Nat → Int32) (b : Nat), b ≠ q → va_up M q f b = M b := fun M q f b h => va_up_ne _ _ h
  unfold f_X5_goBackTo
  rw [bnd_e, bnd_e, nlit 120, ccpL 120 (by omega) (by omega) (by omega), bnd_e, nlit 5, ccpL 5 (by omega) (by omega) (by omega), bnd_e]
  simp (disch := omega) only [up2_o, v0]
  rw [h10, ccpL n (by omega) (by omega) (by omega), bnd_e, cl_nI (by omega), cl_nI (by omega), cl_nI (by omega)]
  congr 1
  funext b j
  simp only [va_up_at, gbM]
  by_cases h0 : b = a
  · subst h0
    rw [if_neg (by omega), if_neg (by omega), if_neg (by omega), if_pos rfl, up2_at, up2_at]
    by_cases h12 : j = 12
    · subst h12; simp
    · by_cases h11 : j = 11
      · subst h11; simp
      · rw [if_neg (by omega), if_neg (by omega), if_neg (by omega)]
  · by_cases h3 : b = a + 3
    · subst h3
      rw [if_neg (by omega), if_neg (by omega), if_pos rfl, if_neg (by omega), if_pos rfl, cpy0]
    · by_cases h4 : b = a + 4
      · subst h4
        rw [if_neg (by omega), if_pos rfl, if_neg (by omega), if_neg (by omega), if_pos rfl, cpy0]
      · by_cases h7 : b = a + 7
        · subst h7
          rw [if_pos rfl, if_neg (by omega), if_neg (by omega), if_neg (by omega), if_pos rfl, cpy0]
        · rw [if_neg h7, if_neg h4, if_neg h3, if_neg h0, if_neg h3, if_neg h4, if_neg h7, up2_o _ _ _ h0, up2_o _ _ _ h0]
def cpM (M : Mm) (a p0 n : Nat) : Mm := fun b j => if b = a then (if j = 9 ∨ j = 10 ∨ j = 11 ∨ j = 12 then M p0 j else M a j) else if b = a + 1 ∨ b = a + 2 ∨ b = a + 4 then (if j < 5 then M (p0 + (b - a)) j else M b j) else if b = a + 3 then (if j < 120 then M (p0 + 3) j else M b j) else if b = a + 5 ∨ b = a + 6 ∨ b = a + 8 then (if j < 4 then M (p0 + (b - a)) j else M b j) else if b = a + 7 then (if j < n then M (p0 + 7) j else M b j) else M b j
theorem copy_ok (M : Mm) (a p0 n : Nat) (hd : p0 + 9 ≤ a ∨ a + 9 ≤ p0) (hn : n ≤ 4) (h10 : M p0 10 = nI n) : f_X5_copy a p0 M = some (cpM M a p0 n) := by
  have v0 : ∀ (M : Mm) (q : Nat) (f : Nat → Int32) (b : Nat), b ≠ q → va_up M q f b = M b := fun M q f b h => va_up_ne _ _ h
  unfold f_X5_copy
  rw [bnd_e, bnd_e, nlit 5, nlit 4, ccpL 5 (by omega) (by omega) (by omega), bnd_e, ccpL 5 (by omega) (by omega) (by omega), bnd_e, ccpL 4 (by omega) (by omega) (by omega), bnd_e, ccpL 4 (by omega) (by omega) (by omega), bnd_e, ccpL 4 (by omega) (by omega) (by omega), bnd_e]
  simp (disch := omega) only [up2_o, v0]
  rw [cl_nI (by omega), cl_nI (by omega), goBackTo_ok _ _ _ n hd hn (by simp (disch := omega) only [up2_o, v0]; exact h10), Option.bind_some]
  congr 1
  funext b j
  simp only [gbM, cpM]
  simp (disch := omega) only [up2_o, v0]
  by_cases h0 : b = a
  · subst h0
    rw [if_pos rfl, if_pos rfl]
    simp (disch := omega) only [v0, up2_at]
    by_cases q : j = 9 ∨ j = 10 ∨ j = 11 ∨ j = 12
    · rw [if_pos q]
      rcases q with rfl | rfl | rfl | rfl <;> simp
    · rw [if_neg q, if_neg (by omega), if_neg (by omega), if_neg (by omega)]
  · rw [if_neg h0, if_neg h0]
    by_cases h3 : b = a + 3
    · subst h3
      rw [if_pos rfl, if_neg (show ¬ (a + 3 = a + 1 ∨ a + 3 = a + 2 ∨ a + 3 = a + 4) by omega), if_pos rfl]
    · rw [if_neg h3]
      by_cases h4 : b = a + 4
      · subst h4
        rw [if_pos rfl, if_pos (show a + 4 = a + 1 ∨ a + 4 = a + 2 ∨ a + 4 = a + 4 by omega), show a + 4 - a = 4 by omega]
      · rw [if_neg h4]
        by_cases h7 : b = a + 7
        · subst h7
          rw [if_pos rfl, if_neg (show ¬ (a + 7 = a + 1 ∨ a + 7 = a + 2 ∨ a + 7 = a + 4) by omega), if_neg (show ¬ a + 7 = a + 3 by omega), if_neg (show ¬ (a + 7 = a + 5 ∨ a + 7 = a + 6 ∨ a + 7 = a + 8) by omega), if_pos rfl]
        · rw [if_neg h7]
          by_cases h8 : b = a + 8
          · subst h8
            rw [if_neg (by omega), if_neg (by omega), if_pos (by omega), va_up_at, if_pos rfl, cpy0, show a + 8 - a = 8 by omega]
          · rw [v0 _ _ _ _ h8]
            by_cases h6 : b = a + 6
            · subst h6
              rw [if_neg (by omega), if_neg (by omega), if_pos (by omega), va_up_at, if_pos rfl, cpy0, show a + 6 - a = 6 by omega]
            · rw [v0 _ _ _ _ h6]
              by_cases h5 : b = a + 5
              · subst h5
                rw [if_neg (by omega), if_neg (by omega), if_pos (by omega), va_up_at, if_pos rfl, cpy0, show a + 5 - a = 5 by omega]
              · rw [v0 _ _ _ _ h5]
                by_cases h2 : b = a + 2
                · subst h2
                  rw [if_pos (by omega), va_up_at, if_pos rfl, cpy0, show a + 2 - a = 2 by omega]
                · rw [v0 _ _ _ _ h2]
                  by_cases h1 : b = a + 1
                  · subst h1
                    rw [if_pos (by omega), va_up_at, if_pos rfl, cpy0, show a + 1 - a = 1 by omega]
                  · rw [v0 _ _ _ _ h1, up2_o _ _ _ h0, up2_o _ _ _ h0, if_neg (by omega), if_neg (by omega), if_neg (by omega), if_neg (by omega)]
theorem cpM_o (M : Mm) (a p0 n : Nat) {q : Nat} (h : q < a ∨ a + 9 ≤ q) : cpM M a p0 n q = M q := by
  funext j
  simp only [cpM]
  rw [if_neg (by omega), if_neg (by omega), if_neg (by omega), if_neg (by omega), if_neg (by omega)]
theorem CRing.copied {M : Mm} {a p0 : Nat} {tu : Nat → Nat} {R : Rg} (h : CRing M p0 tu R) (hP : R 0 0 ≤ 24) (h4 : R 0 1 ≤ 4) : CRing (cpM M a p0 (R 0 1)) a tu R := by
  obtain ⟨a1, a2, a3, a4, a5, ⟨a6, a8⟩, a7⟩ := h
  have r0 : ∀ j, j = 9 ∨ j = 10 ∨ j = 11 ∨ j = 12 → cpM M a p0 (R 0 1) a j = M p0 j := fun j hj => by simp only [cpM, if_true]; rw [if_pos hj]
  have r1 : ∀ i j, (i = 1 ∨ i = 2 ∨ i = 4) → j < 5 → cpM M a p0 (R 0 1) (a + i) j = M (p0 + i) j := fun i j hi hj => by
    simp only [cpM]; rw [if_neg (by omega), if_pos (by omega), if_pos hj, show a + i - a = i by omega]
  have r3 : ∀ j, j < 120 → cpM M a p0 (R 0 1) (a + 3) j = M (p0 + 3) j := fun j hj => by
    simp only [cpM]; rw [if_neg (by omega), if_neg (by omega), if_pos trivial, if_pos hj]
  have r5 : ∀ i j, (i = 5 ∨ i = 6 ∨ i = 8) → j < 4 → cpM M a p0 (R 0 1) (a + i) j = M (p0 + i) j := fun i j hi hj => by
    simp only [cpM]; rw [if_neg (by omega), if_neg (by omega), if_neg (by omega), if_pos (by omega), if_pos hj, show a + i - a = i by omega]
  have r7 : ∀ j, j < R 0 1 → cpM M a p0 (R 0 1) (a + 7) j = M (p0 + 7) j := fun j hj => by
    simp only [cpM]; rw [if_neg (by omega), if_neg (by omega), if_neg (by omega), if_neg (by omega), if_pos trivial, if_pos hj]
  refine ⟨?_, ?_, ?_, ?_, fun l hl => ⟨?_, ?_⟩, ⟨fun l hl => ?_, fun l p hl hp => ?_⟩, fun j hj => ⟨?_, ?_, ?_, ?_⟩⟩
  · rw [r0 9 (by omega)]; exact a1
  · rw [r0 10 (by omega)]; exact a2
  · rw [r0 11 (by omega)]; exact a3
  · rw [r0 12 (by omega)]; exact a4
  · rw [r1 1 l (by omega) hl]; exact (a5 l hl).1
  · rw [r1 2 l (by omega) hl]; exact (a5 l hl).2
  · rw [r1 4 l (by omega) hl]; exact a6 l hl
  · have := sea_lt hp (a6 l hl).2
    rw [r3 _ (by omega)]; exact a8 l p hl hp
  · rw [r5 5 j (by omega) (by omega)]; exact (a7 j hj).1
  · rw [r5 6 j (by omega) (by omega)]; exact (a7 j hj).2.1
  · rw [r7 j hj]; exact (a7 j hj).2.2.1
  · rw [r5 8 j (by omega) (by omega)]; exact (a7 j hj).2.2.2
