/-! images -/
theorem CPast.copied {M : Mm} {a p0 P : Nat} {tu : Nat → Nat} {Q : Rg} (h : CPast M p0 P tu Q) (hP : P ≤ 24) (h4 : Q 0 1 ≤ 4) : CPast (cpM M a p0 (Q 0 1)) a P tu Q := by
  obtain ⟨a2, a3, a4, ⟨a6, a8⟩, a7⟩ := h
  have r0 : ∀ j, j = 9 ∨ j = 10 ∨ j = 11 ∨ j = 12 → cpM M a p0 (Q 0 1) a j = M p0 j := fun j hj => by
    unfold cpM
    rw [if_pos rfl, if_pos hj]
  have r3 : ∀ j, j < 120 → cpM M a p0 (Q 0 1) (a + 3) j = M (p0 + 3) j := fun j hj => by
    unfold cpM
    rw [if_neg (by omega), if_neg (by omega), if_pos rfl, if_pos hj]
  have r4 : ∀ j, j < 5 → cpM M a p0 (Q 0 1) (a + 4) j = M (p0 + 4) j := fun j hj => by
    unfold cpM
    rw [if_neg (by omega), if_pos (by omega), if_pos hj, show a + 4 - a = 4 by omega]
  have r7 : ∀ j, j < Q 0 1 → cpM M a p0 (Q 0 1) (a + 7) j = M (p0 + 7) j := fun j hj => by
    unfold cpM
    rw [if_neg (by omega), if_neg (by omega), if_neg (by omega), if_neg (by omega), if_pos rfl, if_pos hj]
  refine ⟨?_, ?_, ?_, ⟨fun l hl => ?_, fun l p hl hp => ?_⟩, fun j hj => ?_⟩
  · rw [r0 10 (by omega)]; exact a2
  · rw [r0 11 (by omega)]; exact a3
  · rw [r0 12 (by omega)]; exact a4
  · rw [r4 l hl]; exact a6 l hl
  · have := sea_lt hp (a6 l hl).2
    rw [r3 _ (by omega)]; exact a8 l p hl hp
  · rw [r7 j hj]; exact a7 j hj
theorem CRing.past {M : Mm} {a : Nat} {tu : Nat → Nat} {R : Rg} (h : CRing M a tu R) : CPast M a (R 0 0) tu R := by
  obtain ⟨a1, a2, a3, a4, a5, a6, a7⟩ := h
  exact ⟨a2, a3, a4, a6, fun j hj => (a7 j hj).2.2.1⟩
theorem cpM_10 (M : Mm) (a p0 n : Nat) : cpM M a p0 n a 10 = M p0 10 := by
  unfold cpM
  rw [if_pos rfl, if_pos (by omega)]
theorem st13 {b p0 : Nat} (hd : p0 + 65 ≤ b ∨ b + 65 ≤ p0) : ∀ (k i n : Nat) (M : Mm), i + k = 6 → k < n → (∀ j, i ≤ j → j < 6 → ∃ m, m ≤ 4 ∧ M (p0 + 11 + 9 * j) 10 = nI m) → ∃ M', f_X7_copy_L13 b p0 n (nI i) M = some M' ∧ M' b 2 = M p0 2 ∧ M' b 3 = M p0 3 ∧ (∀ j, i ≤ j → j < 6 → (∃ m, m ≤ 4 ∧ M' (b + 11 + 9 * j) 10 = nI m) ∧ ∀ P tu Q, P ≤ 24 → Q 0 1 ≤ 4 → CPast M (p0 + 11 + 9 * j) P tu Q → CPast M' (b + 11 + 9 * j) P tu Q) ∧ ∀ q, q ≠ b → (q < b + 11 + 9 * i ∨ b + 65 ≤ q) → M' q = M q := by
  intro k
  induction k with
  | zero =>
    intro i n M hi hn hm
    obtain ⟨n, rfl⟩ : ∃ m, n = m + 1 := ⟨n - 1, by omega⟩
    refine ⟨up2 (up2 M b 2 (M p0 2)) b 3 (M p0 3), ?_, ?_, ?_, fun j h1 h2 => by omega, fun q h1 h2 => by rw [up2_o _ _ _ h1, up2_o _ _ _ h1]⟩
    · rw [f_X7_copy_L13, nlit 6, ifle (by omega) (by omega), if_pos (by omega), bnd_e, bnd_e, up2_o _ _ _ (show p0 ≠ b by omega)]
    · rw [up2_at, if_neg (by omega), up2_at, if_pos ⟨rfl, rfl⟩]
    · rw [up2_at, if_pos ⟨rfl, rfl⟩]
  | succ k ih =>
    intro i n M hi hn hm
    obtain ⟨n, rfl⟩ : ∃ m, n = m + 1 := ⟨n - 1, by omega⟩
    obtain ⟨m, hm4, em⟩ := hm i (by omega) (by omega)
    have ko : ∀ q, (q < b + 11 + 9 * i ∨ b + 11 + 9 * i + 9 ≤ q) → cpM M (b + 11 + 9 * i) (p0 + 11 + 9 * i) m q = M q := fun q hq => cpM_o _ _ _ _ hq
    obtain ⟨M', e, a1, a2, a3, a4⟩ := ih (i + 1) n (cpM M (b + 11 + 9 * i) (p0 + 11 + 9 * i) m) (by omega) (by omega) (fun j h1 h2 => by rw [ko _ (by omega)]; exact hm j (by omega) h2)
    refine ⟨M', ?_, by rw [a1, ko _ (by omega)], by rw [a2, ko _ (by omega)], fun j h1 h2 => ?_, fun q h1 h2 => by rw [a4 q h1 (by omega), ko _ (by omega)]⟩
    · rw [f_X7_copy_L13, nlit 6, ifle (by omega) (by omega), if_neg (by omega), ck_nI (by omega) (by omega), bnd_e, ck_nI (by omega) (by omega), bnd_e, cl_nI (by omega), copy_ok M _ _ m (by omega) hm4 em, Option.bind_some, bnd_e, nI_1]
      exact e
    · by_cases hj : j = i
      · subst hj
        refine ⟨⟨m, hm4, ?_⟩, fun P tu Q hP h4 hQ => ?_⟩
        · rw [a4 _ (by omega) (by omega), cpM_10, em]
        · have eq : m = Q 0 1 := (nI_eq (by omega) (by omega)).mp (em.symm.trans hQ.1)
          subst eq
          exact (hQ.copied (a := b + 11 + 9 * j) hP h4).mono (fun q h3 h5 => a4 q (by omega) (by omega))
      · obtain ⟨b1, b2⟩ := a3 j (by omega) h2
        exact ⟨b1, fun P tu Q hP h4 hQ => b2 P tu Q hP h4 (hQ.mono (fun q h3 h5 => ko q (by omega)))⟩
theorem story_copy {M : Mm} {b p0 u : Nat} {R : Rg} {ps : Nat → Rg} (hd : p0 + 65 ≤ b ∨ b + 65 ≤ p0) (h : CStory M p0 R u ps) {k : Nat} (hS : SOk k R u ps) : ∃ M', f_X7_copy b p0 M = some M' ∧ CStory M' b R u ps ∧ ∀ q, (q < b ∨ b + 65 ≤ q) → M' q = M q := by
  obtain ⟨⟨tu, c1⟩, c2, c7, nw, c3, c4, c5⟩ := h
  have hP := hS.1.1.2
  have h4 := hS.1.2.1
  have hu := hS.2.1
  have ko : ∀ q, (q < b + 1 ∨ b + 1 + 9 ≤ q) → cpM M (b + 1) (p0 + 1) (R 0 1) q = M q := fun q hq => cpM_o _ _ _ _ hq
  obtain ⟨M', e, a1, a2, a3, a4⟩ := st13 hd 6 0 2000 (cpM M (b + 1) (p0 + 1) (R 0 1)) (by omega) (by omega) (fun j _ h2 => by rw [ko _ (by omega)]; exact c7 j h2)
  refine ⟨M', ?_, ⟨⟨tu, (c1.copied (a := b + 1) hP h4).mono (fun q h1 h2 => a4 q (by omega) (by omega))⟩, ?_, fun i hi => (a3 i (by omega) hi).1, nw, c3, ?_, fun i hi => ?_⟩, fun q hq => by rw [a4 q (by omega) (by omega), ko q (by omega)]⟩
  · unfold f_X7_copy
    rw [copy_ok M _ _ (R 0 1) (by omega) h4 c1.2.1, Option.bind_some, n0]
    exact e
  · rw [a2, ko _ (by omega)]; exact c2
  · rw [a1, ko _ (by omega)]; exact c4
  · obtain ⟨tu2, c6⟩ := c5 i hi
    have hx : (nw + 7 + i - u) % 6 < 6 := Nat.mod_lt _ (by omega)
    have h41 : ps i 0 1 ≤ 4 := by have := (hS.2.2 i hi).1; omega
    exact ⟨tu2, (a3 _ (by omega) hx).2 _ _ _ hP h41 (c6.mono (fun q h1 h2 => ko q (by omega)))⟩
theorem MStory.shift {M M' : Mm} {b o b' o' u : Nat} {R : Rg} {ps : Nat → Rg} (h : MStory M b o R u ps) {k : Nat} (hS : SOk k R u ps) (hm : ∀ j, j < 913 → M' b' (o' + j) = M b (o + j)) : MStory M' b' o' R u ps := by
  obtain ⟨⟨b1, b2, b3, b4, b5, b6, b7⟩, m2, m3⟩ := h
  have h4 := hS.1.2.1
  have hu := hS.2.1
  refine ⟨⟨?_, fun l hl => ⟨?_, ?_⟩, fun l p hl hp => ?_, ?_, fun j w hj hw => ?_, ?_, ?_⟩, ?_, fun i hi => ?_⟩
  · have := hm 0 (by omega)
    rw [Nat.add_zero, Nat.add_zero] at this
    rw [this]; exact b1
  · rw [show o' + 1 + l = o' + (1 + l) by omega, hm _ (by omega), show o + (1 + l) = o + 1 + l by omega]; exact (b2 l hl).1
  · rw [show o' + 143 + l = o' + (143 + l) by omega, hm _ (by omega), show o + (143 + l) = o + 143 + l by omega]; exact (b2 l hl).2
  · rw [show o' + 6 + 24 * l + p = o' + (6 + 24 * l + p) by omega, hm _ (by omega), show o + (6 + 24 * l + p) = o + 6 + 24 * l + p by omega]; exact b3 l p hl hp
  · rw [hm _ (by omega)]; exact b4
  · rw [show o' + 127 + 4 * j + w = o' + (127 + 4 * j + w) by omega, hm _ (by omega), show o + (127 + 4 * j + w) = o + 127 + 4 * j + w by omega]; exact b5 j w hj hw
  · rw [hm _ (by omega)]; exact b6
  · rw [hm _ (by omega)]; exact b7
  · rw [hm _ (by omega)]; exact m2
  · obtain ⟨a1, a2, a3, a4, a5⟩ := m3 i hi
    have h41 : ps i 0 1 ≤ 4 := by have := (hS.2.2 i hi).1; omega
    refine ⟨fun l p hl hp => ?_, fun j hj => ?_, ?_, ?_, ?_⟩
    · rw [show o' + 151 + 127 * i + 24 * l + p = o' + (151 + 127 * i + 24 * l + p) by omega, hm _ (by omega), show o + (151 + 127 * i + 24 * l + p) = o + 151 + 127 * i + 24 * l + p by omega]; exact a1 l p hl hp
    · rw [show o' + 151 + 127 * i + 120 + j = o' + (151 + 127 * i + 120 + j) by omega, hm _ (by omega), show o + (151 + 127 * i + 120 + j) = o + 151 + 127 * i + 120 + j by omega]; exact a2 j hj
    · rw [show o' + 151 + 127 * i + 124 = o' + (151 + 127 * i + 124) by omega, hm _ (by omega), show o + (151 + 127 * i + 124) = o + 151 + 127 * i + 124 by omega]; exact a3
    · rw [show o' + 151 + 127 * i + 125 = o' + (151 + 127 * i + 125) by omega, hm _ (by omega), show o + (151 + 127 * i + 125) = o + 151 + 127 * i + 125 by omega]; exact a4
    · rw [show o' + 151 + 127 * i + 126 = o' + (151 + 127 * i + 126) by omega, hm _ (by omega), show o + (151 + 127 * i + 126) = o + 151 + 127 * i + 126 by omega]; exact a5
theorem im19 {y i : Nat} (hi : i < 2) : ∀ (k j n : Nat) (M : Mm), j + k = 913 → k < n → ∃ M', f_X12_image_L19 y n (nI i) (nI j) M = some (1, up2 M' (y + 3) i 1) ∧ (∀ q, j ≤ q → q < 913 → M' (y + 2) (913 * i + q) = M (y + 1) q) ∧ (∀ q, (q < 913 * i + j ∨ 913 * i + 913 ≤ q) → M' (y + 2) q = M (y + 2) q) ∧ ∀ q, q ≠ y + 2 → M' q = M q := by
  intro k
  induction k with
  | zero =>
    intro j n M hj hn
    obtain ⟨n, rfl⟩ : ∃ m, n = m + 1 := ⟨n - 1, by omega⟩
    refine ⟨M, ?_, fun q h1 h2 => by omega, fun _ _ => rfl, fun _ _ => rfl⟩
    rw [f_X12_image_L19, nlit 913, ifle (by omega) (by omega), if_pos (by omega), ck_nI hi (by omega), bnd_e, cl_nI (by omega)]
  | succ k ih =>
    intro j n M hj hn
    obtain ⟨n, rfl⟩ : ∃ m, n = m + 1 := ⟨n - 1, by omega⟩
    obtain ⟨M', e, a1, a2, a3⟩ := ih (j + 1) n (up2 M (y + 2) (913 * i + j) (M (y + 1) j)) (by omega) (by omega)
    refine ⟨M', ?_, fun q h1 h2 => ?_, fun q hq => ?_, fun q hq => by rw [a3 q hq, up2_o _ _ _ hq]⟩
    · rw [f_X12_image_L19, nlit 913, ifle (by omega) (by omega), if_neg (by omega), ck_nI (by omega) (by omega), pk_mul, nI_add, ck_nI (by omega) (by omega), bnd_e, bnd_e, cl_nI (by omega), cl_nI (by omega), nI_1]
      exact e
    · by_cases h : q = j
      · subst h
        rw [a2 _ (by omega), up2_at, if_pos ⟨rfl, rfl⟩]
      · rw [a1 q (by omega) h2, up2_o _ _ _ (by omega)]
    · rw [a2 q (by omega), up2_at, if_neg (by omega)]
theorem fr33 {y i : Nat} (hi : i < 2) : ∀ (k j n : Nat) (M : Mm), j + k = 913 → k < n → ∃ M', f_X12_from_L33 y n (nI i) (nI j) M = some (1, M') ∧ (∀ q, j ≤ q → q < 913 → M' (y + 1) q = M (y + 2) (913 * i + q)) ∧ (∀ q, q < j → M' (y + 1) q = M (y + 1) q) ∧ ∀ q, q ≠ y + 1 → M' q = M q := by
  intro k
  induction k with
  | zero =>
    intro j n M hj hn
    obtain ⟨n, rfl⟩ : ∃ m, n = m + 1 := ⟨n - 1, by omega⟩
    refine ⟨M, ?_, fun q h1 h2 => by omega, fun _ _ => rfl, fun _ _ => rfl⟩
    rw [f_X12_from_L33, nlit 913, ifle (by omega) (by omega), if_pos (by omega)]
  | succ k ih =>
    intro j n M hj hn
    obtain ⟨n, rfl⟩ : ∃ m, n = m + 1 := ⟨n - 1, by omega⟩
    obtain ⟨M', e, a1, a2, a3⟩ := ih (j + 1) n (up2 M (y + 1) j (M (y + 2) (913 * i + j))) (by omega) (by omega)
    refine ⟨M', ?_, fun q h1 h2 => ?_, fun q hq => ?_, fun q hq => by rw [a3 q hq, up2_o _ _ _ hq]⟩
    · rw [f_X12_from_L33, nlit 913, ifle (by omega) (by omega), if_neg (by omega), pk_mul, nI_add, ck_nI (by omega) (by omega), ck_nI (by omega) (by omega), bnd_e, bnd_e, cl_nI (by omega), cl_nI (by omega), nI_1]
      exact e
    · by_cases h : q = j
      · subst h
        rw [a2 _ (by omega), up2_at, if_pos ⟨rfl, rfl⟩]
      · rw [a1 q (by omega) h2, up2_o _ _ _ (by omega)]
    · rw [a2 q (by omega), up2_at, if_neg (by omega)]
section STX
variable {x y k : Nat} {M : Mm} {N : Ml}
theorem s_image (hy : y = x + 234) (q0 : Int32) (hI : IInv x y k M N) : ∃ (v : Int32) (M1 M2 : Mm), f_X11_image x q0 M = some (v, M1) ∧ f_X12_image y q0 M1 = some (v, M2) ∧ IInv x y (k + 5) M2 N := by
  unfold f_X11_image f_X12_image
  rw [within_ok, Option.bind_some, ite_b01]
  by_cases c : (0 : Int32) ≤ q0 ∧ q0 ≤ 1
  · obtain ⟨i, hi, rfl⟩ := in_nat (b := 1) (by omega) c
    obtain ⟨h1, h2, h3, h4, h5⟩ := hI.up (show k ≤ k + 5 by omega)
    obtain ⟨R, u, ps, c1, m1, s⟩ := id h1
    obtain ⟨M0, e0, a0, k0⟩ := story_copy (b := x + 73 + 65 * i) (by omega) c1 s
    have k1 : ∀ q, (q < x + 73 + 65 * i ∨ x + 73 + 65 * i + 65 ≤ q) → q ≠ x + 203 → up2 M0 (x + 203) i 1 q = M q := fun q hq h => by rw [up2_o _ _ _ h, k0 q hq]
    obtain ⟨M2, e2, b1, b2, b3⟩ := im19 (y := y) (i := i) (by omega) 913 0 2000 (up2 M0 (x + 203) i 1) (by omega) (by omega)
    rw [if_pos c, ck_nI (by omega) (by omega), bnd_e, cl_nI (by omega), e0, Option.bind_some, ck_nI (by omega) (by omega), bnd_e]
    refine ⟨_, _, up2 M2 (y + 3) i 1, rfl, ?_, ?_⟩
    · rw [show (0 : Int64) = (0 : Int32).toInt64 from rfl, show (1 : Int64) = (1 : Int32).toInt64 from rfl, in_ok, Option.bind_some, ite_b01, if_pos c, n0]
      exact e2
    · have k2 : ∀ q, (q < x + 73 + 65 * i ∨ x + 73 + 65 * i + 65 ≤ q) → q ≠ x + 203 → q ≠ y + 2 → q ≠ y + 3 → up2 M2 (y + 3) i 1 q = M q := fun q g1 g2 g3 g4 => by rw [up2_o _ _ _ g4, b3 q g3, k1 q g1 g2]
      refine ⟨h1.mono (fun q g1 g2 => k2 q (by omega) (by omega) (by omega) (by omega)) (k2 _ (by omega) (by omega) (by omega) (by omega)), fun i' hi' => ?_, h3.mono (k2 _ (by omega) (by omega) (by omega) (by omega)) (k2 _ (by omega) (by omega) (by omega) (by omega)) (k2 _ (by omega) (by omega) (by omega) (by omega)) (k2 _ (by omega) (by omega) (by omega) (by omega)), fun j hj => by rw [k2 _ (by omega) (by omega) (by omega) (by omega), k2 _ (by omega) (by omega) (by omega) (by omega)]; exact h4 j hj, h5⟩
      have r1 : up2 M2 (y + 3) i 1 (x + 203) i' = if i' = i then 1 else M (x + 203) i' := by
        rw [up2_o _ _ _ (by omega), b3 _ (by omega), up2_at, k0 _ (by omega)]
        by_cases e : i' = i
        · rw [if_pos ⟨rfl, e⟩, if_pos e]
        · rw [if_neg (by omega), if_neg e]
      have r2 : up2 M2 (y + 3) i 1 (y + 3) i' = if i' = i then 1 else M (y + 3) i' := by
        rw [up2_at, b3 _ (by omega), k1 _ (by omega) (by omega)]
        by_cases e : i' = i
        · rw [if_pos ⟨rfl, e⟩, if_pos e]
        · rw [if_neg (by omega), if_neg e]
      rw [r1, r2]
      by_cases e : i' = i
      · subst e
        rw [if_pos rfl, if_pos rfl]
        refine Or.inr ⟨rfl, rfl, R, u, ps, a0.mono (fun q g1 g2 => by rw [up2_o _ _ _ (by omega), b3 _ (by omega), up2_o _ _ _ (by omega)]), m1.shift s (fun j hj => ?_), s⟩
        rw [up2_o _ _ _ (by omega), b1 j (by omega) hj, k1 _ (by omega) (by omega), Nat.zero_add]
      · rw [if_neg e, if_neg e]
        rcases h2 i' hi' with h | ⟨g1, g2, R', u', ps', g3, g4, g5⟩
        · exact Or.inl h
        · refine Or.inr ⟨g1, g2, R', u', ps', g3.mono (fun q q1 q2 => k2 q (by omega) (by omega) (by omega) (by omega)), g4.shift g5 (fun j hj => ?_), g5⟩
          rw [up2_o _ _ _ (by omega), b2 _ (by omega), k1 _ (by omega) (by omega)]
  · rw [if_neg c, rj]
    refine ⟨_, _, _, rfl, ?_, hI.refused hy (w := 0) (by omega)⟩
    rw [show (0 : Int64) = (0 : Int32).toInt64 from rfl, show (1 : Int64) = (1 : Int32).toInt64 from rfl, in_ok, Option.bind_some, ite_b01, if_neg c, bj]
theorem s_from (hy : y = x + 234) (q0 : Int32) (hI : IInv x y k M N) : ∃ (v : Int32) (M1 M2 : Mm), f_X11_from x q0 M = some (v, M1) ∧ f_X12_from y q0 M1 = some (v, M2) ∧ IInv x y (k + 5) M2 N := by
  unfold f_X11_from f_X12_from
  rw [within_ok, Option.bind_some, ite_b01]
  by_cases c : (0 : Int32) ≤ q0 ∧ q0 ≤ 1
  · obtain ⟨i, hi, rfl⟩ := in_nat (b := 1) (by omega) c
    rw [if_pos c, ck_nI (by omega) (by omega), cl_nI (by omega)]
    rcases hI.2.1 i (by omega) with ⟨g1, g2⟩ | ⟨g1, g2, g3⟩
    · rw [if_pos g1, rj1]
      refine ⟨_, _, _, rfl, ?_, hI.refused hy (w := 1) (by omega)⟩
      rw [show (0 : Int64) = (0 : Int32).toInt64 from rfl, show (1 : Int64) = (1 : Int32).toInt64 from rfl, in_ok, Option.bind_some, ite_b01, if_pos c, ck_nI (by omega) (by omega), up2_o _ _ _ (by omega), if_pos g2, bj1]
    · obtain ⟨R, u, ps, c1, m1, s⟩ := g3.up (show k ≤ k + 5 by omega)
      obtain ⟨M1, e1, a1, k1⟩ := story_copy (b := x + 7) (by omega) c1 s
      obtain ⟨M2, e2, b1, b2, b3⟩ := fr33 (y := y) (i := i) (by omega) 913 0 2000 M1 (by omega) (by omega)
      have n1 : ¬ (1 : Int32) = 0 := by decide
      rw [g1, if_neg n1, ck_nI (by omega) (by omega), bnd_e, e1, Option.bind_some]
      refine ⟨_, M1, M2, rfl, ?_, ?_⟩
      · rw [show (0 : Int64) = (0 : Int32).toInt64 from rfl, show (1 : Int64) = (1 : Int32).toInt64 from rfl, in_ok, Option.bind_some, ite_b01, if_pos c, ck_nI (by omega) (by omega), k1 _ (by omega), g2, if_neg n1, n0]
        exact e2
      · refine hI.setNow hy ⟨R, u, ps, a1.mono (fun q h1 h2 => b3 q (by omega)), m1.shift s (fun j hj => ?_), s⟩ (fun q hq => by rw [b3 q (by omega), k1 q (by omega)]) (by rw [b3 _ (by omega), k1 _ (by omega)]) (by rw [b3 _ (by omega), k1 _ (by omega)])
        rw [Nat.zero_add, b1 j (by omega) hj, k1 _ (by omega)]
  · rw [if_neg c, rj]
    refine ⟨_, _, _, rfl, ?_, hI.refused hy (w := 0) (by omega)⟩
    rw [show (0 : Int64) = (0 : Int32).toInt64 from rfl, show (1 : Int64) = (1 : Int32).toInt64 from rfl, in_ok, Option.bind_some, ite_b01, if_neg c, bj]
end STX
