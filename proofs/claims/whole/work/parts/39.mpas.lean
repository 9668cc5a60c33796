theorem off_if {P p pl : Nat} (hp : p < P) (hl : pl < P) : (p + P - pl) % P = if pl ≤ p then p - pl else p + P - pl := by
  split
  · rw [show p + P - pl = (p - pl) + P by omega, Nat.add_mod_right, Nat.mod_eq_of_lt (by omega)]
  · exact Nat.mod_eq_of_lt (by omega)
theorem sub_add' {a b c : Nat} (h : b ≤ a + c) : nI a - nI b + nI c = nI (a + c - b) := by
  rw [← pk_sub h, ← nI_add, Int32.sub_eq_add_neg, Int32.sub_eq_add_neg, Int32.add_assoc, Int32.add_comm (-nI b), ← Int32.add_assoc]
theorem byR_off {P pl kd p : Nat} (hP : 4 ≤ P) (hp : p < P) (hl : pl < P) : byR P pl kd p ↔ ((p + P - pl) % P = 0 ∨ ((kd = 1 ∨ kd = 3) ∧ ((p + P - pl) % P = 1 ∨ (p + P - pl) % P = P - 1))) := by
  have h1 : (pl + 1) % P = if pl + 1 < P then pl + 1 else 0 := by
    split
    · exact Nat.mod_eq_of_lt (by omega)
    · rw [show pl + 1 = P by omega, Nat.mod_self]
  have h2 : (pl + P - 1) % P = if pl = 0 then P - 1 else pl - 1 := by
    split
    · exact Nat.mod_eq_of_lt (by omega) |>.trans (by omega)
    · rw [show pl + P - 1 = (pl - 1) + P by omega, Nat.add_mod_right, Nat.mod_eq_of_lt (by omega)]
  unfold byR
  rw [off_if hp hl, h1, h2]
  split <;> split <;> split <;> omega
theorem byR_lt {P pl kd p : Nat} (hl : pl < P) (h : byR P pl kd p) : p < P := by
  rcases h with h | ⟨-, h | h⟩
  · omega
  · rw [h]; exact Nat.mod_lt _ (by omega)
  · rw [h]; exact Nat.mod_lt _ (by omega)
section MPA
variable {y m : Nat} {M : Mm} {R : Rg}
theorem misBy_ok (hN : NRing M y R) (hH : M (y + 7) m = nI (R 5 m)) (hF : FOk R) (hm : m < R 0 1) {p : Nat} (hp : p < R 0 0) : f_X12_isBy y (nI m) (nI p) M = some (b01 (byR (R 0 0) (R 5 m) (R 3 m) p)) := by
  have hP := hF.1
  have h4 : m < 4 := by have := hF.2.1; omega
  have k5 := hF.2.2.2.2.1 m hm
  have k3 := (hF.2.2.2.1 m hm).1
  have g : M (y + 1) (127 + 4 * m + 0) = nI (R 3 m) := hN.2.2.2 m 0 hm (by omega) (by omega)
  have hj : ∀ s0 : Int32, f_X12_isBy_J25 y M (nI m) (nI p) s0 = some (b01 ((p + R 0 0 - R 5 m) % R 0 0 = 0 ∨ (s0 ≠ 0 ∧ ((p + R 0 0 - R 5 m) % R 0 0 = 1 ∨ (p + R 0 0 - R 5 m) % R 0 0 = R 0 0 - 1)))) := by
    intro s0
    have hlt : (p + R 0 0 - R 5 m) % R 0 0 < R 0 0 := Nat.mod_lt _ (by omega)
    unfold f_X12_isBy_J25 f_X12_isBy_J72
    rw [ck_nI h4 (by omega), mplaces_ok, Option.bind_some, Option.bind_some, hN.1, cz_nI (by omega) (by omega), bnd_e, cl_nI (by omega), hH, sub_add' (by omega), jr_nI (by omega) (by omega) (by omega), n0, nlit 1, Option.bind_some, pk_sub (by omega), ifeq (by omega) (by omega), ifeq (by omega) (by omega), ifeq (by omega) (by omega)]
    generalize (p + R 0 0 - R 5 m) % R 0 0 = o at *
    unfold b01
    by_cases h0 : o = 0
    · simp [h0]; rfl
    · by_cases hs : s0 = nI 0
      · simp [h0, hs]; rfl
      · by_cases h1 : o = 1
        · simp [h1, hs]; rfl
        · by_cases h2 : o = R 0 0 - 1
          · rw [if_neg h0, if_neg hs, if_neg h1, if_pos h2, if_pos (Or.inr ⟨hs, Or.inr h2⟩)]; rfl
          · rw [if_neg h0, if_neg hs, if_neg h1, if_neg h2, if_neg]; rfl
            rintro (h | ⟨-, h | h⟩) <;> contradiction
  unfold f_X12_isBy f_X12_isBy_J20
  rw [n0, of_ok y m 0 M h4 (by omega), Option.bind_some, Option.bind_some, g, nlit 1, nlit 3, ifeq (by omega) (by omega), ifeq (by omega) (by omega), hj, hj]
  have hb := byR_off (kd := R 3 m) hP.1 hp k5
  have e : ∀ (c d : Prop) [Decidable c] [Decidable d], (c ↔ d) → b01 c = b01 d := fun c d _ _ h => by
    unfold b01
    by_cases hc : c
    · rw [if_pos hc, if_pos (h.mp hc)]
    · rw [if_neg hc, if_neg (fun q => hc (h.mpr q))]
  have hn1 : ¬ nI 1 = (0 : Int32) := by decide
  have hn0 : ¬ (nI 0 ≠ (0 : Int32)) := by decide
  by_cases h1 : R 3 m = 1
  · rw [if_pos h1]
    congr 1
    exact e _ _ (by rw [hb]; simp [h1, hn1])
  · by_cases h3 : R 3 m = 3
    · rw [if_neg h1, if_pos h3]
      congr 1
      exact e _ _ (by rw [hb]; simp [h3, hn1])
    · rw [if_neg h1, if_neg h3]
      congr 1
      exact e _ _ (by rw [hb]; simp [h1, h3]; intro q; exact absurd q (by decide))
theorem misAwake_ok (hN : NRing M y R) (h9 : M y 9 = nI (R 0 2)) (hF : FOk R) (hm : m < R 0 1) {s : Nat → Bool} (hs : (jsr (M y 10) (nI m)) &&& (1 : Int32) = (1 : Int32) ↔ s m = true) : f_X12_isAwake y (nI m) M = some (b01 (s m = true ∧ ¬ (R 3 m = 4 ∧ R 0 2 % 3 = 0))) := by
  have h4 : m < 4 := by have := hF.2.1; omega
  have k3 := (hF.2.2.2.1 m hm).1
  have g : M (y + 1) (127 + 4 * m + 0) = nI (R 3 m) := hN.2.2.2 m 0 hm (by omega) (by omega)
  unfold f_X12_isAwake f_X12_isAwake_J31 b01
  by_cases h : s m = true
  · rw [if_pos (hs.mpr h), n0, of_ok y m 0 M h4 (by omega), Option.bind_some, g, nlit 4, ifeq (by omega) (by omega), h9, nlit 3, cz_nI (by omega) (by omega), jr_nI (by have := hF.2.2.2.2.2; omega) (by omega) (by omega), ifeq (by omega) (by omega)]
    by_cases h1 : R 3 m = 4
    · by_cases h2 : R 0 2 % 3 = 0
      · simp [h, h1, h2]
      · simp [h, h1, h2]
    · simp [h, h1]
  · rw [if_neg (fun q => h (hs.mp q))]
    simp [h]
theorem misBeside_ok (hN : NRing M y R) (hF : FOk R) (hm : m < R 0 1) {l : Nat} (hl : l < 5) : f_X12_isBeside y (nI m) (nI l) M = some (b01 (l = R 4 m ∨ l + 1 = R 4 m)) := by
  have h4 : m < 4 := by have := hF.2.1; omega
  have k4 := (hF.2.2.2.1 m hm).2.1
  have g : M (y + 1) (127 + 4 * m + 1) = nI (R 4 m) := hN.2.2.2 m 1 hm (by omega) (by omega)
  unfold f_X12_isBeside f_X12_isBeside_J22 b01
  rw [nlit 1, of_ok y m 1 M h4 (by omega), Option.bind_some, Option.bind_some, g, ifeq (by omega) (by omega)]
  by_cases h1 : l = R 4 m
  · rw [if_pos h1, if_pos (Or.inl h1)]
  · rw [if_neg h1]
    have e : (nI l = nI (R 4 m) - nI 1) ↔ l + 1 = R 4 m := by
      constructor
      · intro h
        have h2 : (nI l).toInt = (R 4 m : Int) - 1 := by rw [h]; exact pk_sub_toInt (by omega) (by omega)
        rw [nI_toInt (by omega)] at h2
        omega
      · intro h
        rw [← h, pk_sub (by omega)]
        rfl
    by_cases h2 : l + 1 = R 4 m
    · rw [if_pos (e.mpr h2), if_pos (Or.inr h2)]
    · rw [if_neg (fun q => h2 (e.mp q)), if_neg]
      rintro (h | h) <;> contradiction
theorem mmovedTo_ok (hN : NRing M y R) (hF : FOk R) (hm : m < R 0 1) {l : Nat} (hl : l < 5) (hb : l = R 4 m ∨ l + 1 = R 4 m) : f_X12_movedTo y (nI m) (nI l) M = some (nI (toL (R 3 m) (R 4 m) l) - nI 3) := by
  have h4 : m < 4 := by have := hF.2.1; omega
  have k4 := (hF.2.2.2.1 m hm).2.1
  have k3 := (hF.2.2.2.1 m hm).1
  have g0 : M (y + 1) (127 + 4 * m + 0) = nI (R 3 m) := hN.2.2.2 m 0 hm (by omega) (by omega)
  have g : M (y + 1) (127 + 4 * m + 1) = nI (R 4 m) := hN.2.2.2 m 1 hm (by omega) (by omega)
  unfold f_X12_movedTo f_X12_movedTo_J17 f_X12_movedTo_J34 f_X12_movedTo_J48
  rw [n0, of_ok y m 0 M h4 (by omega), Option.bind_some, nlit 1, of_ok y m 1 M h4 (by omega), Option.bind_some, g, g0, nlit 3, nlit 2, Option.bind_some, ifeq (by omega) (by omega), ifeq (by omega) (by omega), ifeq (by omega) (by omega)]
  unfold toL
  have a1 : ∀ k, nI (l + (k + 3)) - nI 3 = nI (l + k) := fun k => by rw [pk_sub (by omega)]; congr 1
  have a2 : nI (l + 2) - nI 3 = nI l - nI 1 := by
    rcases (show l = 0 ∨ l = 1 ∨ l = 2 ∨ l = 3 ∨ l = 4 by omega) with rfl | rfl | rfl | rfl | rfl <;> decide
  have a3 : nI (l + 1) - nI 3 = nI l - nI 2 := by
    rcases (show l = 0 ∨ l = 1 ∨ l = 2 ∨ l = 3 ∨ l = 4 by omega) with rfl | rfl | rfl | rfl | rfl <;> decide
  have b1 := a1 2
  have b2 := a1 1
  have n10 : ¬ nI 1 = nI 0 := by decide
  have n01 : ¬ nI 0 = nI 1 := by decide
  have n02 : ¬ nI 0 = nI 2 := by decide
  have n12 : ¬ nI 1 = nI 2 := by decide
  have n32 : ¬ nI 3 = nI 2 := by decide
  have n42 : ¬ nI 4 = nI 2 := by decide
  by_cases e : l = R 4 m
  · rw [if_pos e]
    rcases (show R 3 m = 0 ∨ R 3 m = 1 ∨ R 3 m = 2 ∨ R 3 m = 3 ∨ R 3 m = 4 by omega) with k | k | k | k | k <;> simp [k, ← e, n10, n01, n02, n12, n32, n42, nI_add, a2, a3, b1, b2]
  · have e2 : l + 1 = R 4 m := by omega
    have ne : ¬ nI l = nI (R 4 m) := fun q => e ((nI_eq (by omega) (by omega)).mp q)
    rw [if_neg e, if_pos e2]
    rcases (show R 3 m = 0 ∨ R 3 m = 1 ∨ R 3 m = 2 ∨ R 3 m = 3 ∨ R 3 m = 4 by omega) with k | k | k | k | k <;> simp [k, e, ne, n10, n01, n02, n12, n32, n42, nI_add, a2, a3, b1, b2]
end MPA
