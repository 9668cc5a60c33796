/-! the reference's side of a round -/
def HRing (M : Mm) (y : Nat) (R : Rg) : Prop := MLum M (y + 5) 0 (R 0 0) R ∧ ∀ j, j < R 0 1 → M (y + 7) j = nI (R 5 j)
def NRing (M : Mm) (y : Nat) (R : Rg) : Prop := M (y + 1) 0 = nI (R 0 0) ∧ (∀ l, l < 5 → M (y + 1) (1 + l) = nI (R 1 l)) ∧ M (y + 1) 126 = nI (R 0 1) ∧ ∀ j w, j < R 0 1 → w < 4 → w ≠ 2 → M (y + 1) (127 + 4 * j + w) = nI (R (3 + w) j)
theorem MRing.nring {M : Mm} {y : Nat} {R : Rg} (h : MRing M (y + 1) 0 R) : NRing M y R := by
  obtain ⟨b1, b2, b3, b4, b5, b6, b7⟩ := h
  refine ⟨b1, fun l hl => ?_, b4, fun j w hj hw _ => ?_⟩
  · have := (b2 l hl).1
    rwa [Nat.zero_add] at this
  · have := b5 j w hj hw
    rwa [Nat.zero_add] at this
theorem NRing.sf {M M' : Mm} {y : Nat} {R R' : Rg} (h : NRing M y R) (s : SF R R') (hm : M' (y + 1) = M (y + 1)) : NRing M' y R' := by
  obtain ⟨b1, b2, b3, b4⟩ := h
  have e0 : R' 0 0 = R 0 0 := s 0 0 (by omega) (by omega) (by omega)
  have e1 : R' 0 1 = R 0 1 := s 0 1 (by omega) (by omega) (by omega)
  unfold NRing
  rw [e0, e1, hm]
  refine ⟨b1, fun l hl => ?_, b3, fun j w hj hw h2 => ?_⟩
  · rw [s 1 l (by omega) (by omega) (by omega)]; exact b2 l hl
  · rw [s (3 + w) j (by omega) (by omega) (by omega)]; exact b4 j w hj hw h2
theorem mod_if {P a b : Nat} (ha : a < P) (hb : b < P) : (a + b) % P = if a + b < P then a + b else a + b - P := by
  split
  · exact Nat.mod_eq_of_lt (by omega)
  · rw [show a + b = (a + b - P) + P by omega, Nat.add_mod_right, Nat.mod_eq_of_lt (by omega)]
    omega
theorem rot_inj {P s p q : Nat} (hp : p < P) (hq : q < P) (h : (p + s) % P = (q + s) % P) : p = q := by
  have hs : s % P < P := Nat.mod_lt _ (by omega)
  rw [← Nat.add_mod_mod p s, ← Nat.add_mod_mod q s, mod_if hp hs, mod_if hq hs] at h
  split at h <;> split at h <;> omega
theorem rot_sea {P s q : Nat} (hq : q < P) : (sea P (s % P) q + s) % P = q := by
  have hs : s % P < P := Nat.mod_lt _ (by omega)
  have h1 := sea_lt hq hs
  rw [← Nat.add_mod_mod, mod_if h1 hs]
  unfold sea
  split <;> split <;> omega
theorem mr9 {y i : Nat} {R : Rg} (hi : i < 5) (hP : 4 ≤ R 0 0 ∧ R 0 0 ≤ 24) (h9 : R 1 i ≤ 9) (kb : Int32 → Mm → Option (Int32 × Mm)) : ∀ (k p n : Nat) (M : Mm), p + k = R 0 0 → k < n → NRing M y R → ∃ M', f_X12_goRound_L9 y kb n (nI i) (nI p) M = f_X12_goRound_L56 y kb 2000 (nI i) 0 M' ∧ (∀ p', p ≤ p' → p' < R 0 0 → M' (y + 6) ((p' + R 1 i) % R 0 0) = M (y + 5) (24 * i + p')) ∧ (∀ j, (∀ p', p ≤ p' → p' < R 0 0 → (p' + R 1 i) % R 0 0 ≠ j) → M' (y + 6) j = M (y + 6) j) ∧ ∀ q, q ≠ y + 6 → M' q = M q := by
  intro k
  induction k with
  | zero =>
    intro p n M hp hn h
    obtain ⟨n, rfl⟩ : ∃ m, n = m + 1 := ⟨n - 1, by omega⟩
    refine ⟨M, ?_, fun p' h1 h2 => by omega, fun j _ => rfl, fun _ _ => rfl⟩
    rw [f_X12_goRound_L9, mplaces_ok, Option.bind_some, h.1, ifle (by omega) (by omega), if_pos (by omega)]
  | succ k ih =>
    intro p n M hp hn h
    obtain ⟨n, rfl⟩ : ∃ m, n = m + 1 := ⟨n - 1, by omega⟩
    have hlt : (p + R 1 i) % R 0 0 < R 0 0 := Nat.mod_lt _ (by omega)
    have h' : NRing (up2 M (y + 6) ((p + R 1 i) % R 0 0) (M (y + 5) (24 * i + p))) y R := h.sf (SF.rfl' R) (up2_o _ _ _ (by omega))
    obtain ⟨M', e, a1, a2, a3⟩ := ih (p + 1) n _ (by omega) (by omega) h'
    refine ⟨M', ?_, fun p' h1 h2 => ?_, fun j hj => ?_, fun q hq => by rw [a3 q hq, up2_o _ _ _ hq]⟩
    · rw [f_X12_goRound_L9, mplaces_ok, Option.bind_some, h.1, ifle (by omega) (by omega), if_neg (by omega), nlit 1, nI_add, ck_nI (by omega) (by omega), cl_nI (by omega), h.2.1 i hi, Option.bind_some, cz_nI (by omega) (by omega), nlit 24, pk_mul, nI_add, ck_nI (by omega) (by omega), nI_add, jr_nI (by omega) (by omega) (by omega), ck_nI (by omega) (by omega), bnd_e, bnd_e, cl_nI (by omega), cl_nI (by omega), nI_add]
      exact e
    · by_cases hpp : p' = p
      · subst hpp
        rw [a2 _ (fun p'' h3 h4 h5 => by have := rot_inj h4 h2 h5; omega), up2_at, if_pos ⟨rfl, rfl⟩]
      · rw [a1 p' (by omega) h2, up2_o _ _ _ (by omega)]
    · rw [a2 j (fun p' h3 h4 => hj p' (by omega) h4), up2_at, if_neg]
      rintro ⟨-, h5⟩
      exact hj p (by omega) (by omega) h5.symm
theorem mr56 {y i : Nat} {R : Rg} (hi : i < 5) (hP : 4 ≤ R 0 0 ∧ R 0 0 ≤ 24) (kb : Int32 → Mm → Option (Int32 × Mm)) : ∀ (k p n : Nat) (M : Mm), p + k = R 0 0 → k < n → NRing M y R → ∃ M', f_X12_goRound_L56 y kb n (nI i) (nI p) M = kb (nI (i + 1)) M' ∧ (∀ p', p ≤ p' → p' < R 0 0 → M' (y + 5) (24 * i + p') = M (y + 6) p') ∧ (∀ j, (∀ p', p ≤ p' → p' < R 0 0 → 24 * i + p' ≠ j) → M' (y + 5) j = M (y + 5) j) ∧ ∀ q, q ≠ y + 5 → M' q = M q := by
  intro k
  induction k with
  | zero =>
    intro p n M hp hn h
    obtain ⟨n, rfl⟩ : ∃ m, n = m + 1 := ⟨n - 1, by omega⟩
    refine ⟨M, ?_, fun p' h1 h2 => by omega, fun j _ => rfl, fun _ _ => rfl⟩
    rw [f_X12_goRound_L56, mplaces_ok, Option.bind_some, h.1, ifle (by omega) (by omega), if_pos (by omega), bnd_e, nI_1]
  | succ k ih =>
    intro p n M hp hn h
    obtain ⟨n, rfl⟩ : ∃ m, n = m + 1 := ⟨n - 1, by omega⟩
    have h' : NRing (up2 M (y + 5) (24 * i + p) (M (y + 6) p)) y R := h.sf (SF.rfl' R) (up2_o _ _ _ (by omega))
    obtain ⟨M', e, a1, a2, a3⟩ := ih (p + 1) n _ (by omega) (by omega) h'
    refine ⟨M', ?_, fun p' h1 h2 => ?_, fun j hj => ?_, fun q hq => by rw [a3 q hq, up2_o _ _ _ hq]⟩
    · rw [f_X12_goRound_L56, mplaces_ok, Option.bind_some, h.1, ifle (by omega) (by omega), if_neg (by omega), ck_nI (by omega) (by omega), nlit 24, pk_mul, nI_add, ck_nI (by omega) (by omega), bnd_e, bnd_e, cl_nI (by omega), cl_nI (by omega), nI_1]
      exact e
    · by_cases hpp : p' = p
      · subst hpp
        rw [a2 _ (fun p'' h3 h4 h5 => by omega), up2_at, if_pos ⟨rfl, rfl⟩]
      · rw [a1 p' (by omega) h2, up2_o _ _ _ (by omega)]
    · rw [a2 j (fun p' h3 h4 => hj p' (by omega) h4), up2_at, if_neg]
      rintro ⟨-, h5⟩
      exact hj p (by omega) (by omega) h5.symm
/-- rows that the reference's round may use -/
def keepH (y : Nat) (M M' : Mm) : Prop := (∀ q, q ≠ y → q ≠ y + 5 → q ≠ y + 6 → q ≠ y + 7 → M' q = M q) ∧ ∀ j, j ≠ 9 → M' y j = M y j
theorem mrot {y i : Nat} {R : Rg} {M : Mm} (hi : i < 5) (hP : 4 ≤ R 0 0 ∧ R 0 0 ≤ 24) (h9 : R 1 i ≤ 9) (hN : NRing M y R) (hH : HRing M y R) (kb : Int32 → Mm → Option (Int32 × Mm)) : ∃ M', f_X12_goRound_L9 y kb 2000 (nI i) 0 M = kb (nI (i + 1)) M' ∧ HRing M' y (rotO R i) ∧ ∀ q, q ≠ y + 5 → q ≠ y + 6 → M' q = M q := by
  obtain ⟨M1, e1, a1, -, a3⟩ := mr9 (y := y) hi hP h9 kb (R 0 0) 0 2000 M (by omega) (by omega) hN
  obtain ⟨M2, e2, b1, b2, b3⟩ := mr56 (y := y) hi hP kb (R 0 0) 0 2000 M1 (by omega) (by omega) (hN.sf (SF.rfl' R) (a3 _ (by omega)))
  refine ⟨M2, e1.trans e2, ⟨fun l p hl hp => ?_, fun j hj => ?_⟩, fun q h1 h2 => by rw [b3 q h1, a3 q h2]⟩
  · rw [rotO_lo R i 0 (by omega)]
    by_cases h : l = i ∧ p < R 0 0
    · obtain ⟨rfl, h⟩ := h
      have hs : R 1 l % R 0 0 < R 0 0 := Nat.mod_lt _ (by omega)
      have hse := sea_lt h hs
      have g := a1 (sea (R 0 0) (R 1 l % R 0 0) p) (by omega) hse
      rw [rot_sea h] at g
      have g2 := hH.1 l (sea (R 0 0) (R 1 l % R 0 0) p) hl (by omega)
      rw [Nat.zero_add, if_pos hse] at g2
      rw [Nat.zero_add, if_pos h, b1 p (by omega) h, g, g2]
      congr 1
      exact (if_pos rfl).symm
    · rw [b2 _ (fun p' h1 h2 h3 => by omega), a3 _ (by omega), hH.1 l p hl hp]
      by_cases hl2 : l = i
      · rw [if_neg (by omega), if_neg (by omega)]
      · rw [show rotO R i (10 + l) p = R (10 + l) p from if_neg (by omega)]
  · rw [rotO_lo R i j (by omega), b3 _ (by omega), a3 _ (by omega)]
    rw [rotO_lo R i 1 (by omega)] at hj
    exact hH.2 j hj
theorem mgoMoons {y : Nat} : ∀ (k m n : Nat) (M : Mm) (R : Rg), m + k = R 0 1 → k < n → NRing M y R → HRing M y R → FOk R → ∃ M', f_X12_goMoons_L2 y n (nI m) M = some (up2 M' y 9 (M y 9 + 1)) ∧ HRing M' y (movF R m k) ∧ ∀ q, q ≠ y + 7 → M' q = M q := by
  intro k
  induction k with
  | zero =>
    intro m n M R hm hn hN hH hF
    obtain ⟨n, rfl⟩ : ∃ m, n = m + 1 := ⟨n - 1, by omega⟩
    refine ⟨M, ?_, hH, fun _ _ => rfl⟩
    have := hF.2.1
    rw [f_X12_goMoons_L2, mmoons_ok, Option.bind_some, hN.2.2.1, ifle (by omega) (by omega), if_pos (by omega), bnd_e]
  | succ k ih =>
    intro m n M R hm hn hN hH hF
    obtain ⟨n, rfl⟩ : ∃ m, n = m + 1 := ⟨n - 1, by omega⟩
    have hP := hF.1
    have h4 := hF.2.1
    have k6 := (hF.2.2.2.1 m (by omega)).2.2
    have k5 := hF.2.2.2.2.1 m (by omega)
    have e0 : ∀ b j, b ≠ 5 → movO R m b j = R b j := fun b j hb => by rw [movO, updR_at, if_neg (by omega)]
    have hF' : FOk (movO R m) := hF.sf (fun b j hb h5 _ => e0 b j h5) (fun j hj => by
      rw [movO, updR_at]
      split
      · exact Nat.mod_lt _ (by omega)
      · exact hF.2.2.2.2.1 j hj) (by rw [e0 _ _ (by omega)]; exact hF.2.2.2.2.2)
    have hH' : HRing (up2 M (y + 7) m (nI ((R 5 m + R 6 m) % R 0 0))) y (movO R m) := by
      refine ⟨fun l p hl hp => ?_, fun j hj => ?_⟩
      · rw [up2_o _ _ _ (by omega), hH.1 l p hl hp, e0 0 0 (by omega), e0 (10 + l) p (by omega)]
      · rw [e0 _ _ (by omega)] at hj
        rw [up2_at, movO, updR_at]
        by_cases e : j = m
        · rw [if_pos ⟨rfl, e⟩, if_pos ⟨rfl, e⟩]
        · rw [if_neg (by omega), if_neg (by omega)]; exact hH.2 j hj
    obtain ⟨M', e, c, q⟩ := ih (m + 1) n _ _ (by rw [e0 _ _ (by omega)]; omega) (by omega) (hN.sf (fun b j hb h5 _ => e0 b j h5) (up2_o _ _ _ (by omega))) hH' hF'
    refine ⟨M', ?_, c, fun w hw => by rw [q w hw, up2_o _ _ _ hw]⟩
    have g : M (y + 1) (127 + 4 * m + 3) = nI (R 6 m) := hN.2.2.2 m 3 (by omega) (by omega) (by omega)
    rw [up2_o _ _ _ (show y ≠ y + 7 by omega)] at e
    rw [f_X12_goMoons_L2, mmoons_ok, Option.bind_some, hN.2.2.1, ifle (by omega) (by omega), if_neg (by omega), ck_nI (by omega) (by omega), nlit 3, of_ok _ _ _ _ (by omega) (by omega), Option.bind_some, g, mplaces_ok, Option.bind_some, hN.1, cz_nI (by omega) (by omega), ck_nI (by omega) (by omega), bnd_e, bnd_e, cl_nI (by omega), hH.2 m (by omega), nI_add, jr_nI (by omega) (by omega) (by omega), nI_1]
    exact e
