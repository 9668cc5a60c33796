/-- gone back to a past -/
def undR (R Q : Rg) : Rg := fun b j => if b = 0 ∧ (j = 2 ∨ j = 3) then Q 0 j else if b = 5 ∧ j < Q 0 1 then Q 5 j else if 10 ≤ b then Q b j else R b j
theorem undR_lo (R Q : Rg) {b j : Nat} (h1 : b < 10) (h2 : b ≠ 5) (h3 : b = 0 → j < 2) : undR R Q b j = R b j := by
  unfold undR
  rw [if_neg (by omega), if_neg (by omega), if_neg (by omega)]
theorem undR_hi (R Q : Rg) {b j : Nat} (h1 : 10 ≤ b) : undR R Q b j = Q b j := by
  unfold undR
  rw [if_neg (by omega), if_neg (by omega), if_pos h1]
theorem undR_0 (R Q : Rg) {j : Nat} (h1 : j = 2 ∨ j = 3) : undR R Q 0 j = Q 0 j := by
  unfold undR
  rw [if_pos ⟨rfl, h1⟩]
theorem undR_5 (R Q : Rg) (j : Nat) : undR R Q 5 j = if j < Q 0 1 then Q 5 j else R 5 j := by
  unfold undR
  rw [if_neg (by omega)]
  by_cases h : j < Q 0 1
  · rw [if_pos ⟨rfl, h⟩, if_pos h]
  · rw [if_neg (fun q => h q.2), if_neg (by omega), if_neg h]
theorem gbM_o (M : Mm) (a p0 n : Nat) {q : Nat} (h : q ≠ a) (h3 : q ≠ a + 3) (h4 : q ≠ a + 4) (h7 : q ≠ a + 7) : gbM M a p0 n q = M q := by
  funext j
  unfold gbM
  rw [if_neg h, if_neg h3, if_neg h4, if_neg h7]
theorem CRing.back {M : Mm} {a p0 : Nat} {tu tq : Nat → Nat} {R Q : Rg} (h : CRing M a tu R) (hq : CPast M p0 (R 0 0) tq Q) (hP : R 0 0 ≤ 24) : CRing (gbM M a p0 (Q 0 1)) a tq (undR R Q) := by
  obtain ⟨a1, a2, a3, a4, a5, a6, a7⟩ := h
  obtain ⟨q1, q2, q3, ⟨q4, q5⟩, q6⟩ := hq
  have r0 : ∀ j, gbM M a p0 (Q 0 1) a j = if j = 11 ∨ j = 12 then M p0 j else M a j := fun j => by
    unfold gbM
    rw [if_pos rfl]
  have r3 : ∀ j, j < 120 → gbM M a p0 (Q 0 1) (a + 3) j = M (p0 + 3) j := fun j hj => by
    unfold gbM
    rw [if_neg (by omega), if_pos rfl, if_pos hj]
  have r4 : ∀ j, j < 5 → gbM M a p0 (Q 0 1) (a + 4) j = M (p0 + 4) j := fun j hj => by
    unfold gbM
    rw [if_neg (by omega), if_neg (by omega), if_pos rfl, if_pos hj]
  have r7 : ∀ j, gbM M a p0 (Q 0 1) (a + 7) j = if j < Q 0 1 then M (p0 + 7) j else M (a + 7) j := fun j => by
    unfold gbM
    rw [if_neg (by omega), if_neg (by omega), if_neg (by omega), if_pos rfl]
  refine ⟨?_, ?_, ?_, ?_, fun l hl => ⟨?_, ?_⟩, ⟨fun l hl => ?_, fun l p hl hp => ?_⟩, fun j hj => ⟨?_, ?_, ?_, ?_⟩⟩
  · rw [r0, if_neg (by omega), undR_lo R Q (by omega) (by omega) (by omega)]; exact a1
  · rw [r0, if_neg (by omega), undR_lo R Q (by omega) (by omega) (by omega)]; exact a2
  · rw [r0, if_pos (by omega), undR_0 R Q (by omega)]; exact q2
  · rw [r0, if_pos (by omega), undR_0 R Q (by omega)]; exact q3
  · rw [gbM_o _ _ _ _ (by omega) (by omega) (by omega) (by omega), undR_lo R Q (by omega) (by omega) (by omega)]; exact (a5 l hl).1
  · rw [gbM_o _ _ _ _ (by omega) (by omega) (by omega) (by omega), undR_lo R Q (by omega) (by omega) (by omega)]; exact (a5 l hl).2
  · rw [r4 l hl, undR_lo R Q (by omega) (by omega) (by omega)]; exact q4 l hl
  · rw [undR_lo R Q (by omega) (by omega) (by omega)] at hp ⊢
    have := sea_lt hp (q4 l hl).2
    rw [r3 _ (by omega), undR_hi R Q (by omega)]; exact q5 l p hl hp
  all_goals rw [undR_lo R Q (by omega) (by omega) (by omega)] at hj
  · rw [gbM_o _ _ _ _ (by omega) (by omega) (by omega) (by omega), undR_lo R Q (by omega) (by omega) (by omega)]; exact (a7 j hj).1
  · rw [gbM_o _ _ _ _ (by omega) (by omega) (by omega) (by omega), undR_lo R Q (by omega) (by omega) (by omega)]; exact (a7 j hj).2.1
  · rw [r7, undR_5]
    by_cases h : j < Q 0 1
    · rw [if_pos h, if_pos h]; exact q6 j h
    · rw [if_neg h, if_neg h]; exact (a7 j hj).2.2.1
  · rw [gbM_o _ _ _ _ (by omega) (by omega) (by omega) (by omega), undR_lo R Q (by omega) (by omega) (by omega)]; exact (a7 j hj).2.2.2
theorem ud46 {y a : Nat} (ha : 151 ≤ a) (ha2 : a + 127 ≤ 913) : ∀ (k i n : Nat) (M : Mm), i + k = 120 → k < n → ∃ M', f_X12_undo_L46 y n (nI a) (nI i) M = f_X12_undo_L77 y 2000 (nI a) 0 M' ∧ (∀ j, i ≤ j → j < 120 → M' (y + 1) (6 + j) = M (y + 1) (a + j)) ∧ (∀ q, (q < 6 + i ∨ 126 ≤ q) → M' (y + 1) q = M (y + 1) q) ∧ ∀ q, q ≠ y + 1 → M' q = M q := by
  intro k
  induction k with
  | zero =>
    intro i n M hi hn
    obtain ⟨n, rfl⟩ : ∃ m, n = m + 1 := ⟨n - 1, by omega⟩
    refine ⟨M, ?_, fun q h1 h2 => by omega, fun _ _ => rfl, fun _ _ => rfl⟩
    rw [f_X12_undo_L46, nlit 120, ifle (by omega) (by omega), if_pos (by omega)]
  | succ k ih =>
    intro i n M hi hn
    obtain ⟨n, rfl⟩ : ∃ m, n = m + 1 := ⟨n - 1, by omega⟩
    obtain ⟨M', e, a1, a2, a3⟩ := ih (i + 1) n (up2 M (y + 1) (6 + i) (M (y + 1) (a + i))) (by omega) (by omega)
    refine ⟨M', ?_, fun j h1 h2 => ?_, fun q hq => ?_, fun q hq => by rw [a3 q hq, up2_o _ _ _ hq]⟩
    · rw [f_X12_undo_L46, nlit 120, ifle (by omega) (by omega), if_neg (by omega), nlit 6, nI_add, nI_add, ck_nI (by omega) (by omega), ck_nI (by omega) (by omega), bnd_e, bnd_e, cl_nI (by omega), cl_nI (by omega), nI_1]
      exact e
    · by_cases h : j = i
      · subst h
        rw [a2 _ (by omega), up2_at, if_pos ⟨rfl, rfl⟩]
      · rw [a1 j (by omega) h2, up2_at, if_neg (by omega)]
    · rw [a2 q (by omega), up2_at, if_neg (by omega)]
theorem ud77 {y a m : Nat} (ha : 151 ≤ a) (ha2 : a + 127 ≤ 913) (hm : m ≤ 4) : ∀ (k i n : Nat) (M : Mm), i + k = m → k < n → M (y + 1) (a + 126) = nI m → ∃ M', f_X12_undo_L77 y n (nI a) (nI i) M = some (1, M') ∧ (∀ j, i ≤ j → j < m → M' (y + 1) (127 + 4 * j + 2) = M (y + 1) (a + 120 + j)) ∧ M' (y + 1) 148 = M (y + 1) (a + 124) ∧ M' (y + 1) 149 = M (y + 1) (a + 125) ∧ (∀ q, q ≠ 148 → q ≠ 149 → (∀ j, i ≤ j → j < m → q ≠ 127 + 4 * j + 2) → M' (y + 1) q = M (y + 1) q) ∧ ∀ q, q ≠ y + 1 → M' q = M q := by
  intro k
  induction k with
  | zero =>
    intro i n M hi hn h126
    obtain ⟨n, rfl⟩ : ∃ m, n = m + 1 := ⟨n - 1, by omega⟩
    refine ⟨up2 (up2 M (y + 1) 148 (M (y + 1) (a + 124))) (y + 1) 149 (M (y + 1) (a + 125)), ?_, fun j h1 h2 => by omega, ?_, ?_, fun q h1 h2 h3 => ?_, fun q h1 => by rw [up2_o _ _ _ h1, up2_o _ _ _ h1]⟩
    · have g1 : up2 M (y + 1) 148 (M (y + 1) (a + 124)) (y + 1) (a + 125) = M (y + 1) (a + 125) := by rw [up2_at, if_neg (by omega)]
      rw [f_X12_undo_L77, nlit 126, nI_add, ck_nI (by omega) (by omega), cl_nI (by omega), h126, ifle (by omega) (by omega), if_pos (by omega), nlit 124, nlit 125, nI_add, nI_add, nlit 148, nlit 149, ck_nI (by omega) (by omega), ck_nI (by omega) (by omega), bnd_e, ck_nI (by omega) (by omega), ck_nI (by omega) (by omega), bnd_e, cl_nI (by omega), cl_nI (by omega), cl_nI (by omega), cl_nI (by omega), g1]
    · rw [up2_at, if_neg (by omega), up2_at, if_pos ⟨rfl, rfl⟩]
    · rw [up2_at, if_pos ⟨rfl, rfl⟩]
    · rw [up2_at, if_neg (by omega), up2_at, if_neg (by omega)]
  | succ k ih =>
    intro i n M hi hn h126
    obtain ⟨n, rfl⟩ : ∃ m, n = m + 1 := ⟨n - 1, by omega⟩
    obtain ⟨M', e, a1, a2, a3, a4, a5⟩ := ih (i + 1) n (up2 M (y + 1) (127 + 4 * i + 2) (M (y + 1) (a + 120 + i))) (by omega) (by omega) (by rw [up2_at, if_neg (by omega)]; exact h126)
    refine ⟨M', ?_, fun j h1 h2 => ?_, ?_, ?_, fun q h1 h2 h3 => ?_, fun q hq => by rw [a5 q hq, up2_o _ _ _ hq]⟩
    · rw [f_X12_undo_L77, nlit 126, nI_add, ck_nI (by omega) (by omega), cl_nI (by omega), h126, ifle (by omega) (by omega), if_neg (by omega), nlit 120, nI_add, nI_add, ck_nI (by omega) (by omega), nlit 127, nlit 4, pk_mul, nI_add, nlit 2, nI_add, ck_nI (by omega) (by omega), bnd_e, bnd_e, cl_nI (by omega), cl_nI (by omega), nI_1]
      exact e
    · by_cases h : j = i
      · subst h
        rw [a4 _ (by omega) (by omega) (fun j' h3 h4 => by omega), up2_at, if_pos ⟨rfl, rfl⟩]
      · rw [a1 j (by omega) h2, up2_at, if_neg (by omega)]
    · rw [a2, up2_at, if_neg (by omega)]
    · rw [a3, up2_at, if_neg (by omega)]
    · rw [a4 q h1 h2 (fun j h4 h5 => h3 j (by omega) h5), up2_at, if_neg]
      rintro ⟨-, h6⟩
      exact h3 i (by omega) (by omega) h6
theorem mundo_ok {y k u : Nat} {M : Mm} {R : Rg} {ps : Nat → Rg} (hM : MStory M (y + 1) 0 R (u + 1) ps) (hS : SOk k R (u + 1) ps) : ∃ M', f_X12_undo y M = some (1, M') ∧ MStory M' (y + 1) 0 (undR R (ps u)) u ps ∧ ∀ q, q ≠ y + 1 → M' q = M q := by
  obtain ⟨⟨n1, n2, n3, n4, n5, n6, n7⟩, m2, m3⟩ := hM
  rw [Nat.zero_add] at m2
  have hu := hS.2.1
  have h4 := hS.1.2.1
  have hP := hS.1.1
  have hQ := (hS.2.2 u (by omega)).1
  obtain ⟨p1, p2, p3, p4, p5⟩ := m3 u (by omega)
  rw [Nat.zero_add] at p1 p2 p3 p4 p5
  obtain ⟨M1, e1, a1, a2, a3⟩ := ud46 (y := y) (a := 151 + 127 * u) (by omega) (by omega) 120 0 2000 (up2 M (y + 1) 150 (nI u)) (by omega) (by omega)
  have k1 : ∀ q, q ≠ 150 → 126 ≤ q → M1 (y + 1) q = M (y + 1) q := fun q h1 h2 => by rw [a2 q (by omega), up2_at, if_neg (by omega)]
  obtain ⟨M2, e2, b1, b2, b3, b4, b5⟩ := ud77 (y := y) (a := 151 + 127 * u) (m := ps u 0 1) (by omega) (by omega) (by omega) (ps u 0 1) 0 2000 M1 (by omega) (by omega) (by rw [k1 _ (by omega) (by omega)]; exact p5)
  have klo : ∀ q, q < 150 → (q < 6 ∨ 126 ≤ q) → q ≠ 148 → q ≠ 149 → (∀ j, j < ps u 0 1 → q ≠ 127 + 4 * j + 2) → M2 (y + 1) q = M (y + 1) q := fun q h1 h2 h3 h5 h6 => by
    rw [b4 q h3 h5 (fun j _ h7 => h6 j h7), a2 q (by omega), up2_at, if_neg (by omega)]
  refine ⟨M2, ?_, ⟨⟨?_, fun l hl => ⟨?_, ?_⟩, fun l p hl hp => ?_, ?_, fun j ww hj hw => ?_, ?_, ?_⟩, ?_, fun i hi => ?_⟩, fun q hq => by rw [b5 q hq, a3 q hq, up2_o _ _ _ hq]⟩
  · unfold f_X12_undo
    rw [nlit 150, ck_nI (by omega) (by omega), cl_nI (by omega), m2, n0, ifeq (by omega) (by omega), if_neg (by omega), ck_nI (by omega) (by omega), ck_nI (by omega) (by omega), bnd_e, nI_pred, ck_nI (by omega) (by omega), bnd_e, up2_at, if_pos ⟨rfl, rfl⟩, nlit 127, nlit 151, pk_mul, nI_add, e1]
    exact e2
  · rw [undR_lo R _ (by omega) (by omega) (by omega), klo 0 (by omega) (by omega) (by omega) (by omega) (fun j _ => by omega)]; exact n1
  · rw [undR_lo R _ (by omega) (by omega) (by omega), klo _ (by omega) (by omega) (by omega) (by omega) (fun j _ => by omega)]; exact (n2 l hl).1
  · rw [undR_lo R _ (by omega) (by omega) (by omega), klo _ (by omega) (by omega) (by omega) (by omega) (fun j _ => by omega)]; exact (n2 l hl).2
  · have g := p1 l p hl hp
    rw [undR_lo R _ (b := 0) (by omega) (by omega) (by omega), undR_hi R _ (by omega), b4 _ (by omega) (by omega) (fun j _ h => by omega), show 0 + 6 + 24 * l + p = 6 + (24 * l + p) by omega, a1 _ (by omega) (by omega), up2_at, if_neg (by omega), show 151 + 127 * u + (24 * l + p) = 151 + 127 * u + 24 * l + p by omega]
    exact g
  · rw [undR_lo R _ (by omega) (by omega) (by omega), klo _ (by omega) (by omega) (by omega) (by omega) (fun j _ => by omega)]; exact n4
  · rw [undR_lo R _ (by omega) (by omega) (by omega)] at hj
    by_cases h2 : ww = 2
    · subst h2
      rw [show 3 + 2 = 5 from rfl, undR_5, show 0 + 127 + 4 * j + 2 = 127 + 4 * j + 2 by omega]
      by_cases h : j < ps u 0 1
      · rw [if_pos h, b1 j (by omega) h, k1 _ (by omega) (by omega)]; exact p2 j h
      · rw [if_neg h, klo _ (by omega) (by omega) (by omega) (by omega) (fun j' h' => by omega), show 127 + 4 * j + 2 = 0 + 127 + 4 * j + 2 by omega]; exact n5 j 2 hj hw
    · rw [undR_lo R _ (by omega) (by omega) (by omega), klo _ (by omega) (by omega) (by omega) (by omega) (fun j _ => by omega)]; exact n5 j ww hj hw
  · rw [undR_0 R _ (by omega), Nat.zero_add, b2, k1 _ (by omega) (by omega)]; exact p3
  · rw [undR_0 R _ (by omega), Nat.zero_add, b3, k1 _ (by omega) (by omega)]; exact p4
  · rw [Nat.zero_add, b4 _ (by omega) (by omega) (fun j _ h => by omega), a2 _ (by omega), up2_at, if_pos ⟨rfl, rfl⟩]
  · rw [undR_lo R _ (by omega) (by omega) (by omega)]
    have h41 : ps i 0 1 ≤ 4 := by have := (hS.2.2 i (by omega)).1; omega
    refine (m3 i (by omega)).shift h41 (fun j hj => ?_)
    rw [b4 _ (by omega) (by omega) (fun j _ h => by omega), a2 _ (by omega), up2_at, if_neg (by omega)]
theorem cundo_ok {b k u : Nat} {M : Mm} {R : Rg} {ps : Nat → Rg} (hC : CStory M b R (u + 1) ps) (hS : SOk k R (u + 1) ps) : ∃ M', f_X7_goBack b M = some M' ∧ CStory M' b (undR R (ps u)) u ps ∧ ∀ q, (q < b ∨ b + 65 ≤ q) → M' q = M q := by
  obtain ⟨⟨tu, c1⟩, c2, c7, nw, c3, c4, c5⟩ := hC
  have hu := hS.2.1
  have hP := hS.1.1
  have h4 := hS.1.2.1
  have hQ := (hS.2.2 u (by omega)).1
  obtain ⟨tq, c6⟩ := c5 u (by omega)
  rw [show (nw + 7 + u - (u + 1)) % 6 = nw by omega] at c6
  have ko : ∀ q, (q < b + 1 ∨ b + 10 ≤ q) → gbM M (b + 1) (b + 11 + 9 * nw) (ps u 0 1) q = M q := fun q hq => gbM_o _ _ _ _ (by omega) (by omega) (by omega) (by omega)
  generalize hG : gbM M (b + 1) (b + 11 + 9 * nw) (ps u 0 1) = G at *
  have cb : CRing G (b + 1) tq (undR R (ps u)) := by rw [← hG]; exact c1.back c6 hP.2
  have kk : ∀ q, q ≠ b → (q < b + 1 ∨ b + 10 ≤ q) → up2 (up2 G b 2 (nI ((nw + 5) % 6))) b 3 (nI u) q = M q := fun q h1 h2 => by rw [up2_o _ _ _ h1, up2_o _ _ _ h1, ko q h2]
  refine ⟨up2 (up2 G b 2 (nI ((nw + 5) % 6))) b 3 (nI u), ?_, ⟨⟨tq, cb.mono (fun q h1 h2 => by rw [up2_o _ _ _ (by omega), up2_o _ _ _ (by omega)])⟩, ?_, fun i hi => ?_, (nw + 5) % 6, Nat.mod_lt _ (by omega), ?_, fun i hi => ?_⟩, fun q hq => kk q (by omega) (by omega)⟩
  · unfold f_X7_goBack
    rw [c4, ck_nI c3 (by omega), bnd_e, cl_nI (by omega), goBackTo_ok M (b + 1) (b + 11 + 9 * nw) (ps u 0 1) (by omega) (by omega) c6.1, Option.bind_some, hG, nlit 6, cz_nI (by omega) (by omega), bnd_e, ko b (by omega), c4, nI_add, show nw + 6 = nw + 5 + 1 by omega, nI_pred, jr_nI (by omega) (by omega) (by omega), bnd_e, up2_at, if_neg (by omega), ko b (by omega), c2, nI_pred]
  · rw [up2_at, if_pos ⟨rfl, rfl⟩]
  · rw [kk _ (by omega) (by omega)]; exact c7 i hi
  · rw [up2_at, if_neg (by omega), up2_at, if_pos ⟨rfl, rfl⟩]
  · rw [undR_lo R _ (by omega) (by omega) (by omega)]
    obtain ⟨tu2, g⟩ := c5 i (by omega)
    have hx : (nw + 7 + i - (u + 1)) % 6 < 6 := Nat.mod_lt _ (by omega)
    rw [show ((nw + 5) % 6 + 7 + i - u) % 6 = (nw + 7 + i - (u + 1)) % 6 by omega]
    exact ⟨tu2, g.mono (fun q h1 h2 => kk q (by omega) (by omega))⟩
section STZ
variable {x y k : Nat} {M : Mm} {N : Ml}
theorem s_undo (hy : y = x + 234) (hI : IInv x y k M N) : ∃ (v : Int32) (M1 M2 : Mm), f_X11_undo x M = some (v, M1) ∧ f_X12_undo y M1 = some (v, M2) ∧ IInv x y (k + 5) M2 N := by
  obtain ⟨⟨R, u, ps, c, m, s⟩, -⟩ := id hI
  have hu := s.2.1
  have c2 : M (x + 7) 3 = nI u := c.2.1
  have m2 : M (y + 1) 150 = nI u := by have := m.2.1; rwa [Nat.zero_add] at this
  unfold f_X11_undo
  rw [c2, show (1 : Int32) = nI 1 from rfl, ifle (by omega) (by omega)]
  by_cases h : 1 ≤ u
  · obtain ⟨v, rfl⟩ : ∃ v, u = v + 1 := ⟨u - 1, by omega⟩
    obtain ⟨M1, e1, a1, a2⟩ := cundo_ok c s
    obtain ⟨M2, e2, b1, b2⟩ := mundo_ok (M := M1) (m.mono (a2 _ (by omega))) s
    rw [if_pos h, e1, Option.bind_some]
    refine ⟨_, M1, M2, rfl, e2, ?_⟩
    obtain ⟨⟨d1, d2, d3, d4, d5, d6, d7⟩, s2, s3⟩ := s
    obtain ⟨p1, p2, p3, p4, p5⟩ := s3 v (by omega)
    refine hI.setNow hy ⟨_, v, ps, a1.mono (fun q h1 h2 => b2 q (by omega)), b1, ⟨⟨?_, ?_, ?_, ?_, fun l hl => ?_, fun j hj => ?_, ?_⟩, by omega, fun i hi => ?_⟩⟩ (fun q hq => by rw [b2 q (by omega), a2 q (by omega)]) (by rw [b2 _ (by omega), a2 _ (by omega)]) (by rw [b2 _ (by omega), a2 _ (by omega)])
    · rw [undR_lo R _ (by omega) (by omega) (by omega)]; exact d1
    · rw [undR_lo R _ (by omega) (by omega) (by omega)]; exact d2
    · rw [undR_0 R _ (by omega)]; omega
    · rw [undR_0 R _ (by omega)]; omega
    · rw [undR_lo R _ (by omega) (by omega) (by omega), undR_lo R _ (by omega) (by omega) (by omega)]; exact d5 l hl
    · rw [undR_lo R _ (by omega) (by omega) (by omega)] at hj
      obtain ⟨g3, g4, g5, g6⟩ := d6 j hj
      rw [undR_5, undR_lo R _ (b := 3) (by omega) (by omega) (by omega), undR_lo R _ (b := 4) (by omega) (by omega) (by omega), undR_lo R _ (b := 6) (by omega) (by omega) (by omega), undR_lo R _ (b := 0) (by omega) (by omega) (by omega)]
      refine ⟨g3, g4, ?_, g6⟩
      split
      · exact p4 j (by assumption)
      · exact g5
    · rw [undR_lo R _ (by omega) (by omega) (by omega), tot_cong (R' := ps v) (fun l p _ _ => undR_hi R _ (by omega))]; omega
    · obtain ⟨g1, g2, g3, g4, g5⟩ := (s3 i (by omega)).up (show k ≤ k + 5 by omega)
      refine ⟨?_, g2, g3, fun j hj => ?_, ?_⟩
      · rw [undR_lo R _ (by omega) (by omega) (by omega)]; exact g1
      · rw [undR_lo R _ (by omega) (by omega) (by omega)]; exact g4 j hj
      · rw [undR_lo R _ (by omega) (by omega) (by omega)]; exact g5
  · have hu0 : u = 0 := by omega
    rw [if_neg h, show nI 1 = (1 : Int32) from rfl, rj1]
    refine ⟨_, _, _, rfl, ?_, hI.refused hy (w := 1) (by omega)⟩
    unfold f_X12_undo
    rw [nlit 150, ck_nI (by omega) (by omega), cl_nI (by omega), up2_o _ _ _ (by omega), m2, n0, ifeq (by omega) (by omega), if_pos hu0, bj1]
end STZ
