/-! round, undo -/
theorem jmin_nI {a b : Nat} (ha : a < 2 ^ 31) (hb : b < 2 ^ 31) : jmin (nI a) (nI b) = nI (if b < a then b else a) := by
  unfold jmin
  rw [iflt hb ha]
  split <;> rfl
theorem rd15 {y : Nat} : ∀ (k i n : Nat) (M : Mm), i + k = 635 → k < n → ∃ M', f_X12_round_L15 y n (nI i) M = f_X12_round_J57 y (up2 M' (y + 1) 150 (nI 5)) ∧ (∀ j, i ≤ j → j < 635 → M' (y + 1) (151 + j) = M (y + 1) (278 + j)) ∧ (∀ q, (q < 151 + i ∨ 786 ≤ q) → M' (y + 1) q = M (y + 1) q) ∧ ∀ q, q ≠ y + 1 → M' q = M q := by
  intro k
  induction k with
  | zero =>
    intro i n M hi hn
    obtain ⟨n, rfl⟩ : ∃ m, n = m + 1 := ⟨n - 1, by omega⟩
    refine ⟨M, ?_, fun q h1 h2 => by omega, fun _ _ => rfl, fun _ _ => rfl⟩
    rw [f_X12_round_L15, nlit 635, ifle (by omega) (by omega), if_pos (by omega), nlit 150, ck_nI (by omega) (by omega), bnd_e, cl_nI (by omega)]
    rfl
  | succ k ih =>
    intro i n M hi hn
    obtain ⟨n, rfl⟩ : ∃ m, n = m + 1 := ⟨n - 1, by omega⟩
    obtain ⟨M', e, a1, a2, a3⟩ := ih (i + 1) n (up2 M (y + 1) (151 + i) (M (y + 1) (278 + i))) (by omega) (by omega)
    refine ⟨M', ?_, fun j h1 h2 => ?_, fun q hq => ?_, fun q hq => by rw [a3 q hq, up2_o _ _ _ hq]⟩
    · rw [f_X12_round_L15, nlit 635, ifle (by omega) (by omega), if_neg (by omega), nlit 278, nlit 151, nI_add, nI_add, ck_nI (by omega) (by omega), ck_nI (by omega) (by omega), bnd_e, bnd_e, cl_nI (by omega), cl_nI (by omega), nI_1]
      exact e
    · by_cases h : j = i
      · subst h
        rw [a2 _ (by omega), up2_at, if_pos ⟨rfl, rfl⟩]
      · rw [a1 j (by omega) h2, up2_at, if_neg (by omega)]
    · rw [a2 q (by omega), up2_at, if_neg (by omega)]
theorem rd75 {y a : Nat} (ha : 151 ≤ a) (ha2 : a + 127 ≤ 913) : ∀ (k i n : Nat) (M : Mm), i + k = 120 → k < n → ∃ M', f_X12_round_L75 y n (nI a) (nI i) M = f_X12_round_L106 y 2000 (nI a) 0 M' ∧ (∀ j, i ≤ j → j < 120 → M' (y + 1) (a + j) = M (y + 1) (6 + j)) ∧ (∀ q, (q < a + i ∨ a + 120 ≤ q) → M' (y + 1) q = M (y + 1) q) ∧ ∀ q, q ≠ y + 1 → M' q = M q := by
  intro k
  induction k with
  | zero =>
    intro i n M hi hn
    obtain ⟨n, rfl⟩ : ∃ m, n = m + 1 := ⟨n - 1, by omega⟩
    refine ⟨M, ?_, fun q h1 h2 => by omega, fun _ _ => rfl, fun _ _ => rfl⟩
    rw [f_X12_round_L75, nlit 120, ifle (by omega) (by omega), if_pos (by omega)]
  | succ k ih =>
    intro i n M hi hn
    obtain ⟨n, rfl⟩ : ∃ m, n = m + 1 := ⟨n - 1, by omega⟩
    obtain ⟨M', e, a1, a2, a3⟩ := ih (i + 1) n (up2 M (y + 1) (a + i) (M (y + 1) (6 + i))) (by omega) (by omega)
    refine ⟨M', ?_, fun j h1 h2 => ?_, fun q hq => ?_, fun q hq => by rw [a3 q hq, up2_o _ _ _ hq]⟩
    · rw [f_X12_round_L75, nlit 120, ifle (by omega) (by omega), if_neg (by omega), nlit 6, nI_add, nI_add, ck_nI (by omega) (by omega), ck_nI (by omega) (by omega), bnd_e, bnd_e, cl_nI (by omega), cl_nI (by omega), nI_1]
      exact e
    · by_cases h : j = i
      · subst h
        rw [a2 _ (by omega), up2_at, if_pos ⟨rfl, rfl⟩]
      · rw [a1 j (by omega) h2, up2_at, if_neg (by omega)]
    · rw [a2 q (by omega), up2_at, if_neg (by omega)]
theorem rd106 {y a : Nat} (ha : 151 ≤ a) (ha2 : a + 127 ≤ 913) : ∀ (k i n : Nat) (M : Mm), i + k = 4 → k < n → ∃ M', f_X12_round_L106 y n (nI a) (nI i) M = (Option.bind (f_X12_all y M') fun r21 => Option.bind (f_X12_takeNow y r21 M') fun M26 => bd2 (f_X12_goRound y M26) fun r27 M29 => f_X12_round_L215 y 2000 r27 (0 : Int32) M29) ∧ (∀ j, i ≤ j → j < 4 → M' (y + 1) (a + 120 + j) = M (y + 1) (127 + 4 * j + 2)) ∧ M' (y + 1) (a + 124) = M (y + 1) 148 ∧ M' (y + 1) (a + 125) = M (y + 1) 149 ∧ M' (y + 1) (a + 126) = M (y + 1) 126 ∧ M' (y + 1) 150 = M (y + 1) 150 + 1 ∧ (∀ q, q ≠ 150 → (q < a + 120 + i ∨ a + 127 ≤ q) → M' (y + 1) q = M (y + 1) q) ∧ ∀ q, q ≠ y + 1 → M' q = M q := by
  intro k
  induction k with
  | zero =>
    intro i n M hi hn
    obtain ⟨n, rfl⟩ : ∃ m, n = m + 1 := ⟨n - 1, by omega⟩
    refine ⟨up2 (up2 (up2 (up2 M (y + 1) (a + 124) (M (y + 1) 148)) (y + 1) (a + 125) (M (y + 1) 149)) (y + 1) (a + 126) (M (y + 1) 126)) (y + 1) 150 (M (y + 1) 150 + 1), ?_, fun j h1 h2 => by omega, ?_, ?_, ?_, ?_, fun q h1 h2 => ?_, fun q h1 => ?_⟩
    · have g1 : up2 M (y + 1) (a + 124) (M (y + 1) 148) (y + 1) 149 = M (y + 1) 149 := by rw [up2_at, if_neg (by omega)]
      have g2 : (up2 (up2 M (y + 1) (a + 124) (M (y + 1) 148)) (y + 1) (a + 125) (M (y + 1) 149)) (y + 1) 126 = M (y + 1) 126 := by rw [up2_at, if_neg (by omega), up2_at, if_neg (by omega)]
      have g3 : (up2 (up2 (up2 M (y + 1) (a + 124) (M (y + 1) 148)) (y + 1) (a + 125) (M (y + 1) 149)) (y + 1) (a + 126) (M (y + 1) 126)) (y + 1) 150 = M (y + 1) 150 := by rw [up2_at, if_neg (by omega), up2_at, if_neg (by omega), up2_at, if_neg (by omega)]
      rw [f_X12_round_L106, nlit 4, ifle (by omega) (by omega), if_pos (by omega), nlit 148, nlit 124, nlit 149, nlit 125, nlit 126, nlit 150, nI_add, nI_add, nI_add, ck_nI (by omega) (by omega), ck_nI (by omega) (by omega), bnd_e, ck_nI (by omega) (by omega), ck_nI (by omega) (by omega), bnd_e, cl_nI (by omega), cl_nI (by omega), cl_nI (by omega), cl_nI (by omega), g1, mmoons_ok, Option.bind_some, g2, ck_nI (by omega) (by omega), bnd_e, ck_nI (by omega) (by omega), ck_nI (by omega) (by omega), bnd_e, cl_nI (by omega), cl_nI (by omega), g3]
    · rw [up2_at, if_neg (by omega), up2_at, if_neg (by omega), up2_at, if_neg (by omega), up2_at, if_pos ⟨rfl, rfl⟩]
    · rw [up2_at, if_neg (by omega), up2_at, if_neg (by omega), up2_at, if_pos ⟨rfl, rfl⟩]
    · rw [up2_at, if_neg (by omega), up2_at, if_pos ⟨rfl, rfl⟩]
    · rw [up2_at, if_pos ⟨rfl, rfl⟩]
    · rw [up2_at, if_neg (by omega), up2_at, if_neg (by omega), up2_at, if_neg (by omega), up2_at, if_neg (by omega)]
    · rw [up2_o _ _ _ h1, up2_o _ _ _ h1, up2_o _ _ _ h1, up2_o _ _ _ h1]
  | succ k ih =>
    intro i n M hi hn
    obtain ⟨n, rfl⟩ : ∃ m, n = m + 1 := ⟨n - 1, by omega⟩
    obtain ⟨M', e, a1, a2, a3, a4, a5, a6, a7⟩ := ih (i + 1) n (up2 M (y + 1) (a + 120 + i) (M (y + 1) (127 + 4 * i + 2))) (by omega) (by omega)
    refine ⟨M', ?_, fun j h1 h2 => ?_, ?_, ?_, ?_, ?_, fun q h1 h2 => ?_, fun q hq => by rw [a7 q hq, up2_o _ _ _ hq]⟩
    · rw [f_X12_round_L106, nlit 4, ifle (by omega) (by omega), if_neg (by omega), nlit 127, pk_mul, nI_add, nlit 2, nI_add, nlit 120, nI_add, nI_add, ck_nI (by omega) (by omega), ck_nI (by omega) (by omega), bnd_e, bnd_e, cl_nI (by omega), cl_nI (by omega), nI_1]
      exact e
    · by_cases h : j = i
      · subst h
        rw [a6 _ (by omega) (by omega), up2_at, if_pos ⟨rfl, rfl⟩]
      · rw [a1 j (by omega) h2, up2_at, if_neg (by omega)]
    · rw [a2, up2_at, if_neg (by omega)]
    · rw [a3, up2_at, if_neg (by omega)]
    · rw [a4, up2_at, if_neg (by omega)]
    · rw [a5, up2_at, if_neg (by omega)]
    · rw [a6 q h1 (by omega), up2_at, if_neg (by omega)]
theorem rd215 {y : Nat} (v : Int32) : ∀ (k i n : Nat) (M : Mm), i + k = 120 → k < n → ∃ M', f_X12_round_L215 y n v (nI i) M = f_X12_round_L244 y 2000 v 0 M' ∧ (∀ j, i ≤ j → j < 120 → M' (y + 1) (6 + j) = M (y + 5) j) ∧ (∀ q, (q < 6 + i ∨ 126 ≤ q) → M' (y + 1) q = M (y + 1) q) ∧ ∀ q, q ≠ y + 1 → M' q = M q := by
  intro k
  induction k with
  | zero =>
    intro i n M hi hn
    obtain ⟨n, rfl⟩ : ∃ m, n = m + 1 := ⟨n - 1, by omega⟩
    refine ⟨M, ?_, fun q h1 h2 => by omega, fun _ _ => rfl, fun _ _ => rfl⟩
    rw [f_X12_round_L215, nlit 120, ifle (by omega) (by omega), if_pos (by omega)]
  | succ k ih =>
    intro i n M hi hn
    obtain ⟨n, rfl⟩ : ∃ m, n = m + 1 := ⟨n - 1, by omega⟩
    obtain ⟨M', e, a1, a2, a3⟩ := ih (i + 1) n (up2 M (y + 1) (6 + i) (M (y + 5) i)) (by omega) (by omega)
    refine ⟨M', ?_, fun j h1 h2 => ?_, fun q hq => ?_, fun q hq => by rw [a3 q hq, up2_o _ _ _ hq]⟩
    · rw [f_X12_round_L215, nlit 120, ifle (by omega) (by omega), if_neg (by omega), nlit 6, nI_add, ck_nI (by omega) (by omega), ck_nI (by omega) (by omega), bnd_e, bnd_e, cl_nI (by omega), cl_nI (by omega), nI_1]
      exact e
    · by_cases h : j = i
      · subst h
        rw [a2 _ (by omega), up2_at, if_pos ⟨rfl, rfl⟩]
      · rw [a1 j (by omega) h2, up2_o _ _ _ (by omega)]
    · rw [a2 q (by omega), up2_at, if_neg (by omega)]
theorem rd244 {y m : Nat} (v : Int32) (hm : m ≤ 4) : ∀ (k i n : Nat) (M : Mm), i + k = m → k < n → M (y + 1) 126 = nI m → ∃ M', f_X12_round_L244 y n v (nI i) M = some (v, M') ∧ (∀ j, i ≤ j → j < m → M' (y + 1) (127 + 4 * j + 2) = M (y + 7) j) ∧ M' (y + 1) 148 = M (y + 1) 148 + 1 ∧ M' (y + 1) 149 = M (y + 1) 149 + v ∧ (∀ q, q ≠ 148 → q ≠ 149 → (∀ j, i ≤ j → j < m → q ≠ 127 + 4 * j + 2) → M' (y + 1) q = M (y + 1) q) ∧ ∀ q, q ≠ y + 1 → M' q = M q := by
  intro k
  induction k with
  | zero =>
    intro i n M hi hn h126
    obtain ⟨n, rfl⟩ : ∃ m, n = m + 1 := ⟨n - 1, by omega⟩
    refine ⟨up2 (up2 M (y + 1) 148 (M (y + 1) 148 + 1)) (y + 1) 149 (M (y + 1) 149 + v), ?_, fun j h1 h2 => by omega, ?_, ?_, fun q h1 h2 h3 => ?_, fun q h1 => by rw [up2_o _ _ _ h1, up2_o _ _ _ h1]⟩
    · have g1 : up2 M (y + 1) 148 (M (y + 1) 148 + 1) (y + 1) 149 = M (y + 1) 149 := by rw [up2_at, if_neg (by omega)]
      rw [f_X12_round_L244, mmoons_ok, Option.bind_some, h126, ifle (by omega) (by omega), if_pos (by omega), nlit 148, nlit 149, ck_nI (by omega) (by omega), ck_nI (by omega) (by omega), bnd_e, ck_nI (by omega) (by omega), ck_nI (by omega) (by omega), bnd_e, cl_nI (by omega), cl_nI (by omega), g1]
    · rw [up2_at, if_neg (by omega), up2_at, if_pos ⟨rfl, rfl⟩]
    · rw [up2_at, if_pos ⟨rfl, rfl⟩]
    · rw [up2_at, if_neg (by omega), up2_at, if_neg (by omega)]
  | succ k ih =>
    intro i n M hi hn h126
    obtain ⟨n, rfl⟩ : ∃ m, n = m + 1 := ⟨n - 1, by omega⟩
    obtain ⟨M', e, a1, a2, a3, a4, a5⟩ := ih (i + 1) n (up2 M (y + 1) (127 + 4 * i + 2) (M (y + 7) i)) (by omega) (by omega) (by rw [up2_at, if_neg (by omega)]; exact h126)
    refine ⟨M', ?_, fun j h1 h2 => ?_, ?_, ?_, fun q h1 h2 h3 => ?_, fun q hq => by rw [a5 q hq, up2_o _ _ _ hq]⟩
    · rw [f_X12_round_L244, mmoons_ok, Option.bind_some, h126, ifle (by omega) (by omega), if_neg (by omega), ck_nI (by omega) (by omega), nlit 127, nlit 4, pk_mul, nI_add, nlit 2, nI_add, ck_nI (by omega) (by omega), bnd_e, bnd_e, cl_nI (by omega), cl_nI (by omega), nI_1]
      exact e
    · by_cases h : j = i
      · subst h
        rw [a4 _ (by omega) (by omega) (fun j' h3 h4 => by omega), up2_at, if_pos ⟨rfl, rfl⟩]
      · rw [a1 j (by omega) h2, up2_o _ _ _ (by omega)]
    · rw [a2, up2_at, if_neg (by omega)]
    · rw [a3, up2_at, if_neg (by omega)]
    · rw [a4 q h1 h2 (fun j h4 h5 => h3 j (by omega) h5), up2_at, if_neg]
      rintro ⟨-, h6⟩
      exact h3 i (by omega) (by omega) h6
theorem MRing.of_eq {M M' : Mm} {b o : Nat} {R : Rg} (h : MRing M b o R) (h4 : R 0 1 ≤ 4) (hm : ∀ j, j < 150 → M' b (o + j) = M b (o + j)) : MRing M' b o R := by
  obtain ⟨b1, b2, b3, b4, b5, b6, b7⟩ := h
  refine ⟨?_, fun l hl => ⟨?_, ?_⟩, fun l p hl hp => ?_, ?_, fun j w hj hw => ?_, ?_, ?_⟩
  · have := hm 0 (by omega)
    rw [Nat.add_zero] at this
    rw [this]; exact b1
  · rw [show o + 1 + l = o + (1 + l) by omega, hm _ (by omega), show o + (1 + l) = o + 1 + l by omega]; exact (b2 l hl).1
  · rw [show o + 143 + l = o + (143 + l) by omega, hm _ (by omega), show o + (143 + l) = o + 143 + l by omega]; exact (b2 l hl).2
  · rw [show o + 6 + 24 * l + p = o + (6 + 24 * l + p) by omega, hm _ (by omega), show o + (6 + 24 * l + p) = o + 6 + 24 * l + p by omega]; exact b3 l p hl hp
  · rw [hm _ (by omega)]; exact b4
  · rw [show o + 127 + 4 * j + w = o + (127 + 4 * j + w) by omega, hm _ (by omega), show o + (127 + 4 * j + w) = o + 127 + 4 * j + w by omega]; exact b5 j w hj hw
  · rw [hm _ (by omega)]; exact b6
  · rw [hm _ (by omega)]; exact b7
theorem MPast.shift {M M' : Mm} {b o b' o' P : Nat} {Q : Rg} (h : MPast M b o P Q) (h4 : Q 0 1 ≤ 4) (hm : ∀ j, j < 127 → M' b' (o' + j) = M b (o + j)) : MPast M' b' o' P Q := by
  obtain ⟨a1, a2, a3, a4, a5⟩ := h
  refine ⟨fun l p hl hp => ?_, fun j hj => ?_, ?_, ?_, ?_⟩
  · rw [show o' + 24 * l + p = o' + (24 * l + p) by omega, hm _ (by omega), show o + (24 * l + p) = o + 24 * l + p by omega]; exact a1 l p hl hp
  · rw [show o' + 120 + j = o' + (120 + j) by omega, hm _ (by omega), show o + (120 + j) = o + 120 + j by omega]; exact a2 j hj
  · rw [hm _ (by omega)]; exact a3
  · rw [hm _ (by omega)]; exact a4
  · rw [hm _ (by omega)]; exact a5
def vN (u : Nat) : Nat := if u = 6 then 5 else u
def qN (u : Nat) (ps : Nat → Rg) : Nat → Rg := fun i => if u = 6 then ps (i + 1) else ps i
def psN (u : Nat) (R : Rg) (ps : Nat → Rg) : Nat → Rg := fun i => if i < vN u then qN u ps i else R
theorem rdA {y k u : Nat} {M : Mm} {R : Rg} {ps : Nat → Rg} (hM : MStory M (y + 1) 0 R u ps) (hS : SOk k R u ps) : ∃ MA, f_X12_round y M = f_X12_round_J57 y MA ∧ MA (y + 1) 150 = nI (vN u) ∧ (∀ j, j < 150 → MA (y + 1) j = M (y + 1) j) ∧ (∀ i, i < vN u → MPast MA (y + 1) (151 + 127 * i) (R 0 0) (qN u ps i)) ∧ ∀ q, q ≠ y + 1 → MA q = M q := by
  obtain ⟨m1, m2, m3⟩ := hM
  rw [Nat.zero_add] at m2
  have hu := hS.2.1
  have h41 : ∀ i, i < u → ps i 0 1 ≤ 4 := fun i hi => by
    have := (hS.2.2 i hi).1
    have := hS.1.2.1
    omega
  unfold f_X12_round
  rw [nlit 150, ck_nI (by omega) (by omega), cl_nI (by omega), m2, nlit 6, ifeq (by omega) (by omega)]
  by_cases h : u = 6
  · rw [if_pos h]
    obtain ⟨M1, e1, a1, a2, a3⟩ := rd15 (y := y) 635 0 2000 M (by omega) (by omega)
    have hv : vN u = 5 := if_pos h
    refine ⟨_, e1, by rw [up2_at, if_pos ⟨rfl, rfl⟩, hv], fun j hj => by rw [up2_at, if_neg (by omega), a2 _ (by omega)], fun i hi => ?_, fun q hq => by rw [up2_o _ _ _ hq, a3 q hq]⟩
    rw [hv] at hi
    rw [show qN u ps i = ps (i + 1) from if_pos h]
    refine (m3 (i + 1) (by omega)).shift (h41 _ (by omega)) (fun j hj => ?_)
    rw [up2_at, if_neg (by omega), show 151 + 127 * i + j = 151 + (127 * i + j) by omega, a1 _ (by omega) (by omega), show 278 + (127 * i + j) = 0 + 151 + 127 * (i + 1) + j by omega]
  · rw [if_neg h]
    have hv : vN u = u := if_neg h
    refine ⟨M, rfl, by rw [m2, hv], fun _ _ => rfl, fun i hi => ?_, fun _ _ => rfl⟩
    rw [hv] at hi
    have := m3 i hi
    rw [Nat.zero_add] at this
    rw [show qN u ps i = ps i from if_neg h]
    exact this
theorem mround_ok {y k u : Nat} {M : Mm} {R : Rg} {ps : Nat → Rg} (hM : MStory M (y + 1) 0 R u ps) (hS : SOk k R u ps) (hF : FOk R) (hr : R 0 2 + 1 < 100000) : ∃ w M', f_X12_round y M = some (nI w, M') ∧ w + tot (R 0 0) (rndR R tr1) = tot (R 0 0) R ∧ MStory M' (y + 1) 0 (updR (rndR R tr1) 0 3 (R 0 3 + w)) (vN u + 1) (psN u R ps) ∧ (∀ q, (q < y ∨ (y + 2 ≤ q ∧ q ≤ y + 4) ∨ q = y + 11) → M' q = M q) ∧ M' y 18 = M y 18 := by
  obtain ⟨MA, eA, f1, f2, f3, f4⟩ := rdA hM hS
  have hu := hS.2.1
  have hP := hF.1
  have h4 := hF.2.1
  have hv5 : vN u ≤ 5 := by unfold vN; split <;> omega
  have q41 : ∀ i, i < vN u → qN u ps i 0 1 ≤ 4 := fun i hi => by
    unfold qN
    unfold vN at hi
    split
    · rename_i h
      rw [if_pos h] at hi
      have := (hS.2.2 (i + 1) (by omega)).1
      omega
    · rename_i h
      rw [if_neg h] at hi
      have := (hS.2.2 i (by omega)).1
      omega
  generalize hv : vN u = v at *
  generalize hq : qN u ps = qs at *
  obtain ⟨M1, e1, a1, a2, a3⟩ := rd75 (y := y) (a := 151 + 127 * v) (by omega) (by omega) 120 0 2000 MA (by omega) (by omega)
  obtain ⟨M2, e2, b1, b2, b3, b4, b5, b6, b7⟩ := rd106 (y := y) (a := 151 + 127 * v) (by omega) (by omega) 4 0 2000 M1 (by omega) (by omega)
  have k2 : ∀ j, j < 150 → M2 (y + 1) j = M (y + 1) j := fun j hj => by rw [b6 j (by omega) (by omega), a2 j (by omega), f2 j hj]
  have m2 : MRing M2 (y + 1) 0 R := hM.1.of_eq h4 (fun j hj => by rw [Nat.zero_add]; exact k2 j hj)
  obtain ⟨M3, e3, c1, c2, c3, c4⟩ := takeNow_ok (nI (2 ^ R 0 1 - 1)) m2 h4
  obtain ⟨w, M4, e4, d1, d2, d3, d4⟩ := mgo_ok (s := fun m => decide (m < R 0 1)) (m2.nring.sf (SF.rfl' R) (c4.1 _ (by omega))) c1 hF c2 (by rw [c3]; exact sOk_all h4) hr
  rw [rndR_cong (s' := tr1) R (fun j hj => by simp [tr1, hj])] at d1 d3
  rw [tot_pr R (by omega)] at d3
  have k4 : M4 (y + 1) = M2 (y + 1) := by rw [d4.1 _ (by omega) (by omega) (by omega) (by omega), c4.1 _ (by omega)]
  obtain ⟨M5, e5, g1, g2, g3⟩ := rd215 (y := y) (nI w) 120 0 2000 M4 (by omega) (by omega)
  have m126 : M (y + 1) 126 = nI (R 0 1) := by have := hM.1.2.2.2.1; rwa [Nat.zero_add] at this
  obtain ⟨M6, e6, i1, i2, i3, i4, i5⟩ := rd244 (y := y) (m := R 0 1) (nI w) h4 (R 0 1) 0 2000 M5 (by omega) (by omega) (by rw [g2 _ (by omega), k4, k2 _ (by omega)]; exact m126)
  have ke : ∀ q, q ≠ y → q ≠ y + 1 → q ≠ y + 5 → q ≠ y + 6 → q ≠ y + 7 → (q < y ∨ (y + 1 ≤ q ∧ q ≤ y + 4) ∨ q = y + 11) → M6 q = M q := fun q h0 h1 h2 h3 h5 h6 => by
    rw [i5 q h1, g3 q h1, d4.1 q h0 h2 h3 h5, c4.1 q h6, b7 q h1, a3 q h1, f4 q h1]
  have klo : ∀ q, q < 150 → (q < 6 ∨ 126 ≤ q) → q ≠ 148 → q ≠ 149 → (∀ j, j < R 0 1 → q ≠ 127 + 4 * j + 2) → M6 (y + 1) q = M (y + 1) q := fun q h1 h2 h3 h5 h6 => by
    rw [i4 q h3 h5 (fun j _ h7 => h6 j h7), g2 q (by omega), k4, k2 q h1]
  have khi : ∀ q, 150 ≤ q → M6 (y + 1) q = M2 (y + 1) q := fun q h1 => by
    rw [i4 q (by omega) (by omega) (fun j _ h7 => by omega), g2 q (by omega), k4]
  have r3 : ∀ b j, b < 10 → b ≠ 5 → (b = 0 → j ≠ 2) → (b = 0 → j ≠ 3) → updR (rndR R tr1) 0 3 (R 0 3 + w) b j = R b j := fun b j h1 h2 h3 h5 => by
    rw [updR_at, if_neg (fun h => h5 h.1 h.2)]
    exact rndR_sf R tr1 b j h1 h2 h3
  have r4 : ∀ b j, 5 ≤ b → updR (rndR R tr1) 0 3 (R 0 3 + w) b j = rndR R tr1 b j := fun b j h1 => by rw [updR_at, if_neg (by omega)]
  obtain ⟨n1, n2, n3, n4, n5, n6, n7⟩ := hM.1
  refine ⟨w, M6, ?_, d3, ⟨⟨?_, fun l hl => ⟨?_, ?_⟩, fun l p hl hp => ?_, ?_, fun j ww hj hw => ?_, ?_, ?_⟩, ?_, fun i hi => ?_⟩, fun q hq => ke q (by omega) (by omega) (by omega) (by omega) (by omega) (by omega), ?_⟩
  · rw [eA]
    unfold f_X12_round_J57
    rw [nlit 150, ck_nI (by omega) (by omega), cl_nI (by omega), f1, nlit 127, nlit 151, pk_mul, nI_add, bnd_e]
    refine e1.trans (e2.trans ?_)
    rw [all_ok m2.2.2.2.1 h4, Option.bind_some, e3, Option.bind_some, e4, bd2_some]
    exact e5.trans e6
  · rw [r3 0 0 (by omega) (by omega) (by omega) (by omega), klo 0 (by omega) (by omega) (by omega) (by omega) (fun j _ => by omega)]; exact n1
  · rw [r3 1 l (by omega) (by omega) (by omega) (by omega), klo _ (by omega) (by omega) (by omega) (by omega) (fun j _ => by omega)]; exact (n2 l hl).1
  · rw [r3 2 l (by omega) (by omega) (by omega) (by omega), klo _ (by omega) (by omega) (by omega) (by omega) (fun j _ => by omega)]; exact (n2 l hl).2
  · have g := d1.1 l p hl hp
    rw [rndR_sf R tr1 0 0 (by omega) (by omega) (by omega)] at g
    rw [r3 0 0 (by omega) (by omega) (by omega) (by omega), r4 (10 + l) p (by omega), i4 _ (by omega) (by omega) (fun j _ h => by omega), show 0 + 6 + 24 * l + p = 6 + (24 * l + p) by omega, g1 _ (by omega) (by omega)]
    rw [Nat.zero_add] at g
    exact g
  · rw [r3 0 1 (by omega) (by omega) (by omega) (by omega), klo _ (by omega) (by omega) (by omega) (by omega) (fun j _ => by omega)]; exact n4
  · rw [r3 0 1 (by omega) (by omega) (by omega) (by omega)] at hj
    by_cases h2 : ww = 2
    · subst h2
      have g := d1.2 j (by rw [rndR_sf R tr1 0 1 (by omega) (by omega) (by omega)]; exact hj)
      rw [r4 (3 + 2) j (by omega), show 0 + 127 + 4 * j + 2 = 127 + 4 * j + 2 by omega, i1 j (by omega) hj, g3 _ (by omega)]
      exact g
    · rw [r3 (3 + ww) j (by omega) (by omega) (by omega) (by omega), klo _ (by omega) (by omega) (by omega) (by omega) (fun j _ => by omega)]; exact n5 j ww hj hw
  · have g : M (y + 1) 148 = nI (R 0 2) := by rwa [Nat.zero_add] at n6
    rw [Nat.zero_add, i2, g2 _ (by omega), k4, k2 _ (by omega), g, nI_1, updR_at, if_neg (by omega), rndR_02]
  · have g : M (y + 1) 149 = nI (R 0 3) := by rwa [Nat.zero_add] at n7
    rw [Nat.zero_add, i3, g2 _ (by omega), k4, k2 _ (by omega), g, nI_add, updR_at, if_pos ⟨rfl, rfl⟩]
  · rw [Nat.zero_add, khi _ (by omega), b5, a2 _ (by omega), f1, nI_1]
  · rw [r3 0 0 (by omega) (by omega) (by omega) (by omega), Nat.zero_add]
    unfold psN
    rw [hv, hq]
    by_cases h : i < v
    · rw [if_pos h]
      refine (f3 i h).shift (q41 i h) (fun j hj => ?_)
      rw [khi _ (by omega), b6 _ (by omega) (by omega), a2 _ (by omega)]
    · have hi2 : i = v := by omega
      subst hi2
      rw [if_neg h]
      refine ⟨fun l p hl hp => ?_, fun j hj => ?_, ?_, ?_, ?_⟩
      · have g := n3 l p hl hp
        rw [khi _ (by omega), b6 _ (by omega) (by omega), show 151 + 127 * i + 24 * l + p = 151 + 127 * i + (24 * l + p) by omega, a1 _ (by omega) (by omega), f2 _ (by omega), show 6 + (24 * l + p) = 0 + 6 + 24 * l + p by omega]
        exact g
      · have g := n5 j 2 hj (by omega)
        rw [khi _ (by omega), b1 j (by omega) (by omega), a2 _ (by omega), f2 _ (by omega), show 127 + 4 * j + 2 = 0 + 127 + 4 * j + 2 by omega]
        exact g
      · have g : M (y + 1) 148 = nI (R 0 2) := by rwa [Nat.zero_add] at n6
        rw [khi _ (by omega), b2, a2 _ (by omega), f2 _ (by omega)]
        exact g
      · have g : M (y + 1) 149 = nI (R 0 3) := by rwa [Nat.zero_add] at n7
        rw [khi _ (by omega), b3, a2 _ (by omega), f2 _ (by omega)]
        exact g
      · rw [khi _ (by omega), b4, a2 _ (by omega), f2 _ (by omega)]
        exact m126
  · rw [i5 _ (by omega), g3 _ (by omega), d4.2 18 (by omega), c4.2, b7 _ (by omega), a3 _ (by omega), f4 _ (by omega)]
/-- the class's side -/
theorem cround_ok {b k u : Nat} {M : Mm} {R : Rg} {ps : Nat → Rg} (hC : CStory M b R u ps) (hS : SOk k R u ps) (hF : FOk R) (hr : R 0 2 + 1 < 100000) : ∃ w M', f_X7_goOn b M = some (nI w, M') ∧ w + tot (R 0 0) (rndR R tr1) = tot (R 0 0) R ∧ CStory M' b (updR (rndR R tr1) 0 3 (R 0 3 + w)) (vN u + 1) (psN u R ps) ∧ ∀ q, (q < b ∨ b + 65 ≤ q) → M' q = M q := by
  obtain ⟨⟨tu, c1⟩, c2, c7, nw, c3, c4, c5⟩ := hC
  have hu := hS.2.1
  have hP := hF.1
  have h4 := hF.2.1
  have hnw : (nw + 1) % 6 < 6 := Nat.mod_lt _ (by omega)
  generalize hM3 : up2 (up2 M b 2 (nI ((nw + 1) % 6))) b 3 (nI (vN u + 1)) = M3
  have k3 : ∀ q, q ≠ b → M3 q = M q := fun q hq => by rw [← hM3, up2_o _ _ _ hq, up2_o _ _ _ hq]
  have c1' : CRing M3 (b + 1) tu R := c1.mono (fun q h1 h2 => k3 q (by omega))
  have k8 : ∀ q, (q < b + 11 + 9 * ((nw + 1) % 6) ∨ b + 11 + 9 * ((nw + 1) % 6) + 9 ≤ q) → cpM M3 (b + 11 + 9 * ((nw + 1) % 6)) (b + 1) (R 0 1) q = M3 q := fun q hq => cpM_o _ _ _ _ hq
  have c8 : CRing (cpM M3 (b + 11 + 9 * ((nw + 1) % 6)) (b + 1) (R 0 1)) (b + 1) tu R := c1'.mono (fun q h1 h2 => k8 q (by omega))
  obtain ⟨w, M', tu', e1, d1, d2, d3⟩ := cgo_ok c8 hF hr
  rw [show (fun _ => true) = tr1 from rfl] at d1 d2
  rw [tot_pr R (by omega)] at d2
  have ko : ∀ q, (q < b + 1 ∨ b + 10 ≤ q) → M' q = cpM M3 (b + 11 + 9 * ((nw + 1) % 6)) (b + 1) (R 0 1) q := fun q hq => d3 q (by omega) (by omega) (by omega) (by omega)
  have e00 : updR (rndR R tr1) 0 3 (R 0 3 + w) 0 0 = R 0 0 := by
    rw [updR_at, if_neg (by omega)]
    exact rndR_sf R tr1 0 0 (by omega) (by omega) (by omega)
  refine ⟨w, M', ?_, d2, ⟨⟨tu', d1⟩, ?_, fun i hi => ?_, (nw + 1) % 6, hnw, ?_, fun i hi => ?_⟩, fun q hq => by rw [ko q (by omega), k8 q (by omega), k3 q (by omega)]⟩
  · have hmin : jmin (nI u + 1) (nI 6) = nI (vN u + 1) := by
      rw [nI_1, jmin_nI (by omega) (by omega)]
      congr 1
      unfold vN
      split <;> split <;> omega
    have g3 : up2 M b 2 (nI ((nw + 1) % 6)) b 3 = nI u := by rw [up2_at, if_neg (by omega), c2]
    unfold f_X7_goOn
    rw [nlit 6, cz_nI (by omega) (by omega), bnd_e, c4, nI_1, jr_nI (by omega) (by omega) (by omega), bnd_e, g3, hmin, hM3]
    have g : M3 b 2 = nI ((nw + 1) % 6) := by rw [← hM3, up2_at, if_neg (by omega), up2_at, if_pos ⟨rfl, rfl⟩]
    rw [g, ck_nI hnw (by omega), bnd_e, cl_nI (by omega), copy_ok M3 _ _ (R 0 1) (by omega) h4 c1'.2.1, Option.bind_some, e1, bd2_some]
  · rw [ko b (by omega), k8 b (by omega), ← hM3, up2_at, if_pos ⟨rfl, rfl⟩]
  · by_cases h : i = (nw + 1) % 6
    · subst h
      exact ⟨R 0 1, h4, by rw [ko _ (by omega), cpM_10]; exact c1'.2.1⟩
    · rw [ko _ (by omega), k8 _ (by omega), k3 _ (by omega)]
      exact c7 i hi
  · rw [ko b (by omega), k8 b (by omega), ← hM3, up2_at, if_neg (by omega), up2_at, if_pos ⟨rfl, rfl⟩]
  · rw [e00]
    unfold psN
    by_cases h : i < vN u
    · rw [if_pos h]
      obtain ⟨j, hj, ej, eq⟩ : ∃ j, j < u ∧ (((nw + 1) % 6 + 7 + i - (vN u + 1)) % 6 = (nw + 7 + j - u) % 6 ∧ (nw + 7 + j - u) % 6 ≠ (nw + 1) % 6) ∧ qN u ps i = ps j := by
        unfold vN at h ⊢
        unfold qN
        by_cases h6 : u = 6
        · rw [if_pos h6] at h ⊢
          refine ⟨i + 1, by omega, ⟨by omega, by omega⟩, if_pos h6⟩
        · rw [if_neg h6] at h ⊢
          refine ⟨i, by omega, ⟨by omega, by omega⟩, if_neg h6⟩
      obtain ⟨tu2, c6⟩ := c5 j hj
      have hx : (nw + 7 + j - u) % 6 < 6 := Nat.mod_lt _ (by omega)
      rw [ej.1, eq]
      exact ⟨tu2, c6.mono (fun q h1 h2 => by rw [ko q (by omega), k8 q (by omega), k3 q (by omega)])⟩
    · rw [if_neg h]
      have hi2 : i = vN u := by omega
      have hv5 : vN u ≤ 5 := by unfold vN; split <;> omega
      have ex : ((nw + 1) % 6 + 7 + i - (vN u + 1)) % 6 = (nw + 1) % 6 := by omega
      rw [ex]
      exact ⟨tu, (c1'.copied (a := b + 11 + 9 * ((nw + 1) % 6)) hP.2 h4).past.mono (fun q h1 h2 => ko q (by omega))⟩
section STY
variable {x y k : Nat} {M : Mm} {N : Ml}
theorem s_round (hy : y = x + 234) (hk : k < 320) (hI : IInv x y k M N) : ∃ (v : Int32) (M1 M2 : Mm), f_X11_round x M = some (v, M1) ∧ f_X12_round y M1 = some (v, M2) ∧ IInv x y (k + 5) M2 N := by
  obtain ⟨⟨R, u, ps, c, m, s⟩, -⟩ := id hI
  have hF := s.1.fok (by omega)
  have hr := s.1.2.2.1
  have hP := hF.1
  obtain ⟨w, M1, e1, a1, a2, a3⟩ := cround_ok c s hF (by omega)
  obtain ⟨w2, M2, e2, b1, b2, b3, b4⟩ := mround_ok (M := M1) (m.mono (a3 _ (by omega))) s hF (by omega)
  have hw : w2 = w := by omega
  subst hw
  refine ⟨nI w2, M1, M2, ?_, e2, ?_⟩
  · unfold f_X11_round
    rw [e1, bd2_some]
  · have hv5 : vN u ≤ 5 := by have := s.2.1; unfold vN; split <;> omega
    have r3 : ∀ b j, b < 10 → b ≠ 5 → (b = 0 → j ≠ 2) → (b = 0 → j ≠ 3) → updR (rndR R tr1) 0 3 (R 0 3 + w2) b j = R b j := fun b j h1 h2 h3 h5 => by
      rw [updR_at, if_neg (fun h => h5 h.1 h.2)]
      exact rndR_sf R tr1 b j h1 h2 h3
    have t0 : tot (R 0 0) (updR (rndR R tr1) 0 3 (R 0 3 + w2)) = tot (R 0 0) (rndR R tr1) := tot_cong (fun l p _ _ => by rw [updR_at, if_neg (by omega)])
    obtain ⟨⟨d1, d2, d3, d4, d5, d6, d7⟩, s2, s3⟩ := s
    refine hI.setNow hy ⟨_, vN u + 1, psN u R ps, a2.mono (fun q h1 h2 => b3 q (by omega)), b2, ⟨⟨?_, ?_, ?_, ?_, fun l hl => ?_, fun j hj => ?_, ?_⟩, by omega, fun i hi => ⟨?_, ?_, ?_, fun j hj => ?_, ?_⟩⟩⟩ (fun q hq => by rw [b3 q (by omega), a3 q (by omega)]) (by rw [b3 _ (by omega), a3 _ (by omega)]) (by rw [b4, a3 _ (by omega)])
    · rw [r3 0 0 (by omega) (by omega) (by omega) (by omega)]; exact d1
    · rw [r3 0 1 (by omega) (by omega) (by omega) (by omega)]; exact d2
    · rw [updR_at, if_neg (by omega), rndR_02]; omega
    · rw [updR_at, if_pos ⟨rfl, rfl⟩]; omega
    · rw [r3 1 l (by omega) (by omega) (by omega) (by omega), r3 2 l (by omega) (by omega) (by omega) (by omega)]; exact d5 l hl
    · rw [r3 0 1 (by omega) (by omega) (by omega) (by omega)] at hj
      obtain ⟨g3, g4, g5, g6⟩ := d6 j hj
      rw [r3 3 j (by omega) (by omega) (by omega) (by omega), r3 4 j (by omega) (by omega) (by omega) (by omega), r3 6 j (by omega) (by omega) (by omega) (by omega), r3 0 0 (by omega) (by omega) (by omega) (by omega), updR_at, if_neg (by omega), rndR_5 R tr1 j (by omega) hj]
      exact ⟨g3, g4, Nat.mod_lt _ (by omega), g6⟩
    · rw [r3 0 0 (by omega) (by omega) (by omega) (by omega), t0]; omega
    all_goals
      have hq : (i < vN u ∧ ∃ j, j < u ∧ psN u R ps i = ps j) ∨ psN u R ps i = R := by
        unfold psN
        by_cases h : i < vN u
        · rw [if_pos h]
          left
          refine ⟨h, ?_⟩
          unfold vN at h
          unfold qN
          by_cases h6 : u = 6
          · rw [if_pos h6] at h ⊢
            exact ⟨i + 1, by omega, rfl⟩
          · rw [if_neg h6] at h ⊢
            exact ⟨i, by omega, rfl⟩
        · rw [if_neg h]
          exact Or.inr rfl
    · rw [r3 0 1 (by omega) (by omega) (by omega) (by omega)]
      rcases hq with ⟨-, j, hj, e⟩ | e
      · rw [e]; exact (s3 j hj).1
      · rw [e]; omega
    · rcases hq with ⟨-, j, hj, e⟩ | e
      · rw [e]; have := (s3 j hj).2.1; omega
      · rw [e]; omega
    · rcases hq with ⟨-, j, hj, e⟩ | e
      · rw [e]; have := (s3 j hj).2.2.1; omega
      · rw [e]; omega
    · rw [r3 0 0 (by omega) (by omega) (by omega) (by omega)]
      rcases hq with ⟨-, j', hj', e⟩ | e
      · rw [e] at hj ⊢; exact (s3 j' hj').2.2.2.1 j hj
      · rw [e] at hj ⊢; exact (d6 j hj).2.2.1
    · rw [r3 0 0 (by omega) (by omega) (by omega) (by omega)]
      rcases hq with ⟨-, j, hj, e⟩ | e
      · rw [e]; have := (s3 j hj).2.2.2.2; omega
      · rw [e]; omega
end STY
