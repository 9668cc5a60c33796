section MRD
variable {y m : Nat} {R : Rg}
/-- then[..] = 0 -/
theorem mg24 (kb : Int32 → Int32 → Int32 → Mm → Option (Int32 × Mm)) (x1 x2 x3 : Int32) : ∀ (k i n : Nat) (M : Mm), i + k = 5 → k < n → ∃ M', f_X12_goMoon_L24 y kb n x1 x2 x3 (nI i) M = f_X12_goMoon_L47 y kb 2000 x1 x2 x3 0 M' ∧ (∀ l, i ≤ l → l < 5 → M' (y + 6) l = nI 0) ∧ (∀ l, l < i → M' (y + 6) l = M (y + 6) l) ∧ ∀ q, q ≠ y + 6 → M' q = M q := by
  intro k
  induction k with
  | zero =>
    intro i n M hi hn
    obtain ⟨n, rfl⟩ : ∃ m, n = m + 1 := ⟨n - 1, by omega⟩
    refine ⟨M, ?_, fun l h1 h2 => by omega, fun _ _ => rfl, fun _ _ => rfl⟩
    rw [f_X12_goMoon_L24, nlit 5, ifle (by omega) (by omega), if_pos (by omega)]
  | succ k ih =>
    intro i n M hi hn
    obtain ⟨n, rfl⟩ : ∃ m, n = m + 1 := ⟨n - 1, by omega⟩
    obtain ⟨M', e, a1, a2, a3⟩ := ih (i + 1) n (up2 M (y + 6) i (nI 0)) (by omega) (by omega)
    refine ⟨M', ?_, fun l h1 h2 => ?_, fun l h1 => ?_, fun q hq => by rw [a3 q hq, up2_o _ _ _ hq]⟩
    · rw [f_X12_goMoon_L24, nlit 5, ifle (by omega) (by omega), if_neg (by omega), ck_nI (by omega) (by omega), bnd_e, bnd_e, cl_nI (by omega), nI_1]
      exact e
    · by_cases h : l = i
      · subst h
        rw [a2 l (by omega), up2_at, if_pos ⟨rfl, rfl⟩]
      · exact a1 l (by omega) h2
    · rw [a2 l (by omega), up2_at, if_neg (by omega)]
theorem toL_le (kd ed l : Nat) : toL kd ed l ≤ l + 5 := by
  unfold toL
  split
  · split
    · omega
    · split <;> omega
  · split
    · split
      · omega
      · split <;> omega
    · omega
theorem mg47 (kb : Int32 → Int32 → Int32 → Mm → Option (Int32 × Mm)) (hF : FOk R) (hm : m < R 0 1) {p v : Nat} (hp : p < R 0 0) (c : Nat → Nat) : ∀ (k i n : Nat) (M : Mm), i + k = 5 → k < n → NRing M y R → (∀ l, l < 5 → M (y + 5) (24 * l + p) = nI (c l)) → (∀ l, l < 5 → M (y + 6) l = nI (ncK (R 3 m) (R 4 m) c l i)) → ∃ M', f_X12_goMoon_L47 y kb n (nI m) (nI (v + lcK (R 3 m) (R 4 m) c i)) (nI p) (nI i) M = f_X12_goMoon_L128 y kb 2000 (nI m) (nI (v + lcK (R 3 m) (R 4 m) c 5)) (nI p) 0 M' ∧ (∀ l, l < 5 → M' (y + 6) l = nI (ncK (R 3 m) (R 4 m) c l 5)) ∧ ∀ q, q ≠ y + 6 → M' q = M q := by
  intro k
  induction k with
  | zero =>
    intro i n M hi hn hN hc ht
    obtain ⟨n, rfl⟩ : ∃ m, n = m + 1 := ⟨n - 1, by omega⟩
    have h5 : i = 5 := by omega
    subst h5
    refine ⟨M, ?_, ht, fun _ _ => rfl⟩
    rw [f_X12_goMoon_L47, nlit 5, ifle (by omega) (by omega), if_pos (by omega)]
  | succ k ih =>
    intro i n M hi hn hN hc ht
    obtain ⟨n, rfl⟩ : ∃ m, n = m + 1 := ⟨n - 1, by omega⟩
    have hP := hF.1
    have hz : toL (R 3 m) (R 4 m) i ≤ 10 := by have := toL_le (R 3 m) (R 4 m) i; omega
    have key : f_X12_goMoon_L47 y kb (n + 1) (nI m) (nI (v + lcK (R 3 m) (R 4 m) c i)) (nI p) (nI i) M = f_X12_goMoon_J89 y (nI m) (nI (v + lcK (R 3 m) (R 4 m) c i)) (nI p) (nI i) (nI (c i)) (nI (toL (R 3 m) (R 4 m) i) - nI 3) M kb (fun x1 x2 x3 x4 M => f_X12_goMoon_L47 y kb n x1 x2 x3 x4 M) := by
      rw [f_X12_goMoon_L47, nlit 5, ifle (by omega) (by omega), if_neg (by omega), nlit 24, pk_mul, nI_add, ck_nI (by omega) (by omega), bnd_e, cl_nI (by omega), hc i (by omega), misBeside_ok hN hF hm (by omega), Option.bind_some, ite_b01]
      by_cases hb : i = R 4 m ∨ i + 1 = R 4 m
      · rw [if_pos hb, mmovedTo_ok hN hF hm (by omega) hb, Option.bind_some]
      · rw [if_neg hb]
        have e : nI (toL (R 3 m) (R 4 m) i) - nI 3 = nI i := by
          unfold toL
          rw [if_neg (by omega), if_neg (by omega), pk_sub (by omega)]
          rfl
        rw [e]
    rw [key]
    unfold f_X12_goMoon_J89 f_X12_goMoon_J119
    rw [mlane_ok, Option.bind_some, ite_b01]
    by_cases hl : 3 ≤ toL (R 3 m) (R 4 m) i ∧ toL (R 3 m) (R 4 m) i < 8
    · rw [if_pos ((lane_z hz).mpr hl)]
      have e1 : nI (toL (R 3 m) (R 4 m) i) - nI 3 = nI (toL (R 3 m) (R 4 m) i - 3) := pk_sub hl.1
      rw [e1, ck_nI (by omega) (by omega), ck_nI (by omega) (by omega), bnd_e, bnd_e, cl_nI (by omega), ht _ (by omega), nI_add, nI_1]
      have hl2 : lcK (R 3 m) (R 4 m) c (i + 1) = lcK (R 3 m) (R 4 m) c i := by
        unfold lcK
        rw [smF, if_pos hl]
        rfl
      have ht' : ∀ l, l < 5 → up2 M (y + 6) (toL (R 3 m) (R 4 m) i - 3) (nI (ncK (R 3 m) (R 4 m) c (toL (R 3 m) (R 4 m) i - 3) i + c i)) (y + 6) l = nI (ncK (R 3 m) (R 4 m) c l (i + 1)) := fun l hl' => by
        have e2 : ncK (R 3 m) (R 4 m) c l (i + 1) = ncK (R 3 m) (R 4 m) c l i + if toL (R 3 m) (R 4 m) i = l + 3 then c i else 0 := rfl
        rw [up2_at, e2]
        by_cases h : l = toL (R 3 m) (R 4 m) i - 3
        · subst h
          rw [if_pos ⟨rfl, rfl⟩, if_pos (by omega)]
        · rw [if_neg (by omega), if_neg (by omega), ht l hl']
          rfl
      obtain ⟨M', e, a1, a2⟩ := ih (i + 1) n _ (by omega) (by omega) (hN.sf (SF.rfl' R) (up2_o _ _ _ (by omega))) (fun l hl' => by rw [up2_o _ _ _ (by omega)]; exact hc l hl') ht'
      rw [hl2] at e
      exact ⟨M', e, a1, fun q hq => by rw [a2 q hq, up2_o _ _ _ hq]⟩
    · rw [if_neg (fun q => hl ((lane_z hz).mp q)), bnd_e, bnd_e, nI_add, nI_1]
      have hl2 : lcK (R 3 m) (R 4 m) c (i + 1) = lcK (R 3 m) (R 4 m) c i + c i := by
        show lcK (R 3 m) (R 4 m) c i + (if 3 ≤ toL (R 3 m) (R 4 m) i ∧ toL (R 3 m) (R 4 m) i < 8 then 0 else c i) = _
        rw [if_neg hl]
      have ht' : ∀ l, l < 5 → M (y + 6) l = nI (ncK (R 3 m) (R 4 m) c l (i + 1)) := fun l hl' => by
        have e2 : ncK (R 3 m) (R 4 m) c l (i + 1) = ncK (R 3 m) (R 4 m) c l i + if toL (R 3 m) (R 4 m) i = l + 3 then c i else 0 := rfl
        rw [e2, if_neg (by omega), ht l hl']
        rfl
      obtain ⟨M', e, a1, a2⟩ := ih (i + 1) n M (by omega) (by omega) hN hc ht'
      rw [hl2, ← Nat.add_assoc] at e
      exact ⟨M', e, a1, a2⟩
theorem mg128 (kb : Int32 → Int32 → Int32 → Mm → Option (Int32 × Mm)) (x1 x2 : Int32) {p : Nat} (hp : p < 24) : ∀ (k i n : Nat) (M : Mm), i + k = 5 → k < n → ∃ M', f_X12_goMoon_L128 y kb n x1 x2 (nI p) (nI i) M = kb x1 x2 (nI (p + 1)) M' ∧ (∀ l, i ≤ l → l < 5 → M' (y + 5) (24 * l + p) = M (y + 6) l) ∧ (∀ j, (∀ l, i ≤ l → l < 5 → 24 * l + p ≠ j) → M' (y + 5) j = M (y + 5) j) ∧ ∀ q, q ≠ y + 5 → M' q = M q := by
  intro k
  induction k with
  | zero =>
    intro i n M hi hn
    obtain ⟨n, rfl⟩ : ∃ m, n = m + 1 := ⟨n - 1, by omega⟩
    refine ⟨M, ?_, fun l h1 h2 => by omega, fun _ _ => rfl, fun _ _ => rfl⟩
    rw [f_X12_goMoon_L128, nlit 5, ifle (by omega) (by omega), if_pos (by omega)]
    unfold f_X12_goMoon_J159
    rw [bnd_e, nI_1]
  | succ k ih =>
    intro i n M hi hn
    obtain ⟨n, rfl⟩ : ∃ m, n = m + 1 := ⟨n - 1, by omega⟩
    obtain ⟨M', e, a1, a2, a3⟩ := ih (i + 1) n (up2 M (y + 5) (24 * i + p) (M (y + 6) i)) (by omega) (by omega)
    refine ⟨M', ?_, fun l h1 h2 => ?_, fun j hj => ?_, fun q hq => by rw [a3 q hq, up2_o _ _ _ hq]⟩
    · rw [f_X12_goMoon_L128, nlit 5, ifle (by omega) (by omega), if_neg (by omega), ck_nI (by omega) (by omega), nlit 24, pk_mul, nI_add, ck_nI (by omega) (by omega), bnd_e, bnd_e, cl_nI (by omega), cl_nI (by omega), nI_1]
      exact e
    · by_cases h : l = i
      · subst h
        rw [a2 _ (fun l' h3 h4 h5 => by omega), up2_at, if_pos ⟨rfl, rfl⟩]
      · rw [a1 l (by omega) h2, up2_o _ _ _ (by omega)]
    · rw [a2 j (fun l h3 h4 => hj l (by omega) h4), up2_at, if_neg]
      rintro ⟨-, h5⟩
      exact hj i (by omega) (by omega) h5.symm
def plF (R : Rg) (m p : Nat) : Nat → Rg
  | 0 => R
  | k + 1 => plF (if byR (R 0 0) (R 5 m) (R 3 m) p then colR R p (R 3 m) (R 4 m) else R) m (p + 1) k
theorem plS (R : Rg) (m p : Nat) {b : Nat} (j : Nat) (hb : b < 10) : (if byR (R 0 0) (R 5 m) (R 3 m) p then colR R p (R 3 m) (R 4 m) else R) b j = R b j := by
  split
  · exact if_neg (by omega)
  · rfl
theorem plF_at (m : Nat) : ∀ (k p : Nat) (R : Rg) (b j : Nat), plF R m p k b j = if (10 ≤ b ∧ b < 15) ∧ byR (R 0 0) (R 5 m) (R 3 m) j ∧ p ≤ j ∧ j < p + k then ncK (R 3 m) (R 4 m) (fun l' => R (10 + l') j) (b - 10) 5 else R b j := by
  intro k
  induction k with
  | zero => intro p R b j; rw [plF, if_neg (by omega)]
  | succ k ih =>
    intro p R b j
    rw [plF, ih, plS R m p 0 (by omega), plS R m p m (by omega), plS R m p m (by omega), plS R m p m (by omega)]
    by_cases hb : 10 ≤ b ∧ b < 15
    · by_cases hj : j = p
      · subst hj
        rw [if_neg (by omega)]
        by_cases h : byR (R 0 0) (R 5 m) (R 3 m) j
        · rw [if_pos h, if_pos ⟨hb, h, by omega, by omega⟩]
          exact if_pos ⟨hb, rfl⟩
        · rw [if_neg h, if_neg (fun q => h q.2.1)]
      · have e : ∀ b, (if byR (R 0 0) (R 5 m) (R 3 m) p then colR R p (R 3 m) (R 4 m) else R) b j = R b j := fun b => by
          split
          · exact if_neg (by omega)
          · rfl
        simp only [e]
        by_cases h : byR (R 0 0) (R 5 m) (R 3 m) j ∧ p ≤ j ∧ j < p + (k + 1)
        · rw [if_pos ⟨hb, h.1, by omega, by omega⟩, if_pos ⟨hb, h⟩]
        · rw [if_neg (fun q => h ⟨q.2.1, by omega, by omega⟩), if_neg (fun q => h q.2)]
    · have eo : (if byR (R 0 0) (R 5 m) (R 3 m) p then colR R p (R 3 m) (R 4 m) else R) b j = R b j := by
        split
        · exact if_neg (fun q => hb q.1)
        · rfl
      rw [eo, if_neg (by omega), if_neg (by omega)]
theorem plF_pas (R : Rg) (m : Nat) (h5 : R 5 m < R 0 0) (hs : ¬ (R 3 m = 4 ∧ R 0 2 % 3 = 0)) : plF R m 0 (R 0 0) = pasR R m := by
  funext b j
  rw [plF_at, pasR, if_neg hs]
  by_cases h : (10 ≤ b ∧ b < 15) ∧ byR (R 0 0) (R 5 m) (R 3 m) j
  · have := byR_lt h5 h.2
    rw [if_pos ⟨h.1, h.2, by omega, by omega⟩, if_pos h]
  · rw [if_neg (fun q => h ⟨q.1, q.2.1⟩), if_neg h]
theorem mg4 : ∀ (k p n v : Nat) (M : Mm) (R : Rg), p + k = R 0 0 → k < n → NRing M y R → HRing M y R → FOk R → m < R 0 1 → ∃ w M', f_X12_goMoon_L4 y n (nI m) (nI v) (nI p) M = some (nI (v + w), M') ∧ HRing M' y (plF R m p k) ∧ w + tot (R 0 0) (plF R m p k) = tot (R 0 0) R ∧ ∀ q, q ≠ y + 5 → q ≠ y + 6 → M' q = M q := by
  intro k
  induction k with
  | zero =>
    intro p n v M R hp hn hN hH hF hm
    obtain ⟨n, rfl⟩ : ∃ m, n = m + 1 := ⟨n - 1, by omega⟩
    have hP := hF.1
    refine ⟨0, M, ?_, hH, by rw [plF]; omega, fun _ _ _ => rfl⟩
    rw [f_X12_goMoon_L4, mplaces_ok, Option.bind_some, hN.1, ifle (by omega) (by omega), if_pos (by omega)]
    rfl
  | succ k ih =>
    intro p n v M R hp hn hN hH hF hm
    obtain ⟨n, rfl⟩ : ∃ m, n = m + 1 := ⟨n - 1, by omega⟩
    have hP := hF.1
    have hb := misBy_ok hN (hH.2 m hm) hF hm (show p < R 0 0 by omega)
    have k4 := (hF.2.2.2.1 m hm).2.1
    have k3 := (hF.2.2.2.1 m hm).1
    rw [f_X12_goMoon_L4, mplaces_ok, Option.bind_some, hN.1, ifle (by omega) (by omega), if_neg (by omega), hb, Option.bind_some, ite_b01]
    rw [plF]
    by_cases h : byR (R 0 0) (R 5 m) (R 3 m) p
    · rw [if_pos h, if_pos h]
      obtain ⟨M1, e1, a1, -, a3⟩ := mg24 (y := y) (fun x1 x2 x3 M => f_X12_goMoon_L4 y n x1 x2 x3 M) (nI m) (nI v) (nI p) 5 0 2000 M (by omega) (by omega)
      have hc : ∀ l, l < 5 → M1 (y + 5) (24 * l + p) = nI (R (10 + l) p) := fun l hl => by
        have := hH.1 l p hl (by omega)
        rw [Nat.zero_add, if_pos (by omega)] at this
        rw [a3 _ (by omega), this]
      obtain ⟨M2, e2, b1, b2⟩ := mg47 (y := y) (v := v) (fun x1 x2 x3 M => f_X12_goMoon_L4 y n x1 x2 x3 M) hF hm (show p < R 0 0 by omega) (fun l => R (10 + l) p) 5 0 2000 M1 (by omega) (by omega) (hN.sf (SF.rfl' R) (a3 _ (by omega))) hc (fun l hl => a1 l (by omega) hl)
      obtain ⟨M3, e3, c1, c2, c3⟩ := mg128 (y := y) (fun x1 x2 x3 M => f_X12_goMoon_L4 y n x1 x2 x3 M) (nI m) (nI (v + lcK (R 3 m) (R 4 m) (fun l => R (10 + l) p) 5)) (show p < 24 by omega) 5 0 2000 M2 (by omega) (by omega)
      have lo : ∀ b j, b < 10 → colR R p (R 3 m) (R 4 m) b j = R b j := fun b j hb => if_neg (by omega)
      have hH' : HRing M3 y (colR R p (R 3 m) (R 4 m)) := by
        refine ⟨fun l p' hl hp' => ?_, fun j hj => ?_⟩
        · rw [lo 0 0 (by omega), Nat.zero_add]
          by_cases hpp : p' = p
          · subst hpp
            rw [c1 l (by omega) hl, b1 l hl, if_pos (by omega), show colR R p' (R 3 m) (R 4 m) (10 + l) p' = ncK (R 3 m) (R 4 m) (fun l' => R (10 + l') p') (10 + l - 10) 5 from if_pos ⟨by omega, rfl⟩, show 10 + l - 10 = l by omega]
          · have g := hH.1 l p' hl hp'
            rw [Nat.zero_add] at g
            rw [c2 _ (fun l' h3 h4 h5 => by omega), b2 _ (by omega), a3 _ (by omega), g, show colR R p (R 3 m) (R 4 m) (10 + l) p' = R (10 + l) p' from if_neg (by omega)]
        · rw [lo 0 1 (by omega)] at hj
          rw [lo 5 j (by omega), c3 _ (by omega), b2 _ (by omega), a3 _ (by omega)]
          exact hH.2 j hj
      have hF' : FOk (colR R p (R 3 m) (R 4 m)) := hF.sf (fun b j hb _ _ => lo b j hb) (fun j hj => by rw [lo _ _ (by omega)]; exact hF.2.2.2.2.1 j hj) (by rw [lo _ _ (by omega)]; exact hF.2.2.2.2.2)
      have hN' : NRing M3 y (colR R p (R 3 m) (R 4 m)) := hN.sf (fun b j hb _ _ => lo b j hb) (by rw [c3 _ (by omega), b2 _ (by omega), a3 _ (by omega)])
      obtain ⟨w, M4, e4, d1, d2, d3⟩ := ih (p + 1) n (v + lcK (R 3 m) (R 4 m) (fun l => R (10 + l) p) 5) M3 _ (by rw [lo _ _ (by omega)]; omega) (by omega) hN' hH' hF' (by rw [lo _ _ (by omega)]; exact hm)
      have t := colR_tot R (P := R 0 0) (show p < R 0 0 by omega) k3 k4
      rw [lo 0 0 (by omega)] at d2
      refine ⟨lcK (R 3 m) (R 4 m) (fun l => R (10 + l) p) 5 + w, M4, ?_, d1, by omega, fun q h1 h2 => by rw [d3 q h1 h2, c3 q h1, b2 q h2, a3 q h2]⟩
      rw [← Nat.add_assoc, ← e4]
      exact e1.trans (e2.trans e3)
    · rw [if_neg h, if_neg h]
      unfold f_X12_goMoon_J159
      rw [bnd_e, nI_1]
      obtain ⟨w, M4, e4, d1, d2, d3⟩ := ih (p + 1) n v M R (by omega) (by omega) hN hH hF hm
      exact ⟨w, M4, e4, d1, d2, d3⟩
/-- the bits of a set -/
def sOk (s : Nat → Bool) (v : Int32) : Prop := ∀ m, m < 4 → ((jsr v (nI m)) &&& (1 : Int32) = (1 : Int32) ↔ s m = true)
theorem mg101 {s : Nat → Bool} : ∀ (k m n v : Nat) (M : Mm) (R : Rg), m + k = R 0 1 → k < n → NRing M y R → HRing M y R → FOk R → M y 9 = nI (R 0 2) → sOk s (M y 10) → ∃ w M', f_X12_goRound_L101 y n (nI v) (nI m) M = some (nI (v + w), M') ∧ HRing M' y (pasF R s m k) ∧ w + tot (R 0 0) (pasF R s m k) = tot (R 0 0) R ∧ ∀ q, q ≠ y + 5 → q ≠ y + 6 → M' q = M q := by
  intro k
  induction k with
  | zero =>
    intro m n v M R hm hn hN hH hF h9 hs
    obtain ⟨n, rfl⟩ : ∃ m, n = m + 1 := ⟨n - 1, by omega⟩
    have h4 := hF.2.1
    refine ⟨0, M, ?_, hH, by rw [pasF]; omega, fun _ _ _ => rfl⟩
    rw [f_X12_goRound_L101, mmoons_ok, Option.bind_some, hN.2.2.1, ifle (by omega) (by omega), if_pos (by omega)]
    rfl
  | succ k ih =>
    intro m n v M R hm hn hN hH hF h9 hs
    obtain ⟨n, rfl⟩ : ∃ m, n = m + 1 := ⟨n - 1, by omega⟩
    have h4 := hF.2.1
    have hP := hF.1
    rw [f_X12_goRound_L101, mmoons_ok, Option.bind_some, hN.2.2.1, ifle (by omega) (by omega), if_neg (by omega), misAwake_ok hN h9 hF (by omega) (hs m (by omega)), Option.bind_some, ite_b01, pasF]
    by_cases h : s m = true ∧ ¬ (R 3 m = 4 ∧ R 0 2 % 3 = 0)
    · rw [if_pos h, if_pos h.1]
      obtain ⟨w1, M1, e1, a1, a2, a3⟩ := mg4 (y := y) (m := m) (R 0 0) 0 2000 0 M R (by omega) (by omega) hN hH hF (by omega)
      rw [plF_pas R m (hF.2.2.2.2.1 m (by omega)) h.2] at a1 a2
      have eg : f_X12_goMoon y (nI m) M = some (nI w1, M1) := by
        unfold f_X12_goMoon
        rw [Nat.zero_add] at e1
        exact e1
      obtain ⟨w2, M2, e2, b1, b2, b3⟩ := ih (m + 1) n (v + w1) M1 (pasR R m) (by rw [pasR_lo R m 1 (by omega)]; omega) (by omega) (hN.sf (fun b j hb _ _ => pasR_lo R m j hb) (a3 _ (by omega) (by omega))) a1 (hF.pas m) (by rw [pasR_lo R m 2 (by omega), a3 _ (by omega) (by omega)]; exact h9) (by rw [a3 _ (by omega) (by omega)]; exact hs)
      rw [pasR_lo R m 0 (by omega)] at b2
      refine ⟨w1 + w2, M2, ?_, b1, by omega, fun q h1 h2 => by rw [b3 q h1 h2, a3 q h1 h2]⟩
      rw [eg, bd2_some]
      unfold f_X12_goRound_J127
      rw [bnd_e, bnd_e, nI_add, nI_1, ← Nat.add_assoc]
      exact e2
    · rw [if_neg h]
      have er : (if s m then pasR R m else R) = R := by
        by_cases h1 : s m = true
        · rw [if_pos h1, pasR, if_pos (Decidable.not_not.mp (fun q => h ⟨h1, q⟩))]
        · rw [if_neg h1]
      rw [er]
      unfold f_X12_goRound_J127
      rw [bnd_e, bnd_e, n0, nI_add, nI_1]
      obtain ⟨w2, M2, e2, b1, b2, b3⟩ := ih (m + 1) n v M R (by omega) (by omega) hN hH hF h9 hs
      exact ⟨w2, M2, e2, b1, b2, b3⟩
theorem mg2 {s : Nat → Bool} : ∀ (k i n : Nat) (M : Mm) (R : Rg), i + k = 5 → k < n → NRing M y R → HRing M y R → FOk R → ∃ M', f_X12_goRound_L2 y n (nI i) M = (f_X12_goMoons y M').bind (fun M4 => f_X12_goRound_L101 y 2000 0 0 M4) ∧ HRing M' y (rotF R i k) ∧ ∀ q, q ≠ y + 5 → q ≠ y + 6 → M' q = M q := by
  intro k
  induction k with
  | zero =>
    intro i n M R hi hn hN hH hF
    obtain ⟨n, rfl⟩ : ∃ m, n = m + 1 := ⟨n - 1, by omega⟩
    refine ⟨M, ?_, hH, fun _ _ _ => rfl⟩
    rw [f_X12_goRound_L2, nlit 5, ifle (by omega) (by omega), if_pos (by omega)]
  | succ k ih =>
    intro i n M R hi hn hN hH hF
    obtain ⟨n, rfl⟩ : ∃ m, n = m + 1 := ⟨n - 1, by omega⟩
    obtain ⟨M1, e1, a1, a2⟩ := mrot (i := i) (by omega) hF.1 (hF.2.2.1 i (by omega)) hN hH (fun x1 M => f_X12_goRound_L2 y n x1 M)
    have hF' : FOk (rotO R i) := hF.sf (fun b j hb _ _ => rotO_lo R i j hb) (fun j hj => by rw [rotO_lo R i j (by omega)]; exact hF.2.2.2.2.1 j hj) (by rw [rotO_lo R i 2 (by omega)]; exact hF.2.2.2.2.2)
    obtain ⟨M2, e2, b1, b2⟩ := ih (i + 1) n M1 (rotO R i) (by omega) (by omega) (hN.sf (fun b j hb _ _ => rotO_lo R i j hb) (a2 _ (by omega) (by omega))) a1 hF'
    refine ⟨M2, ?_, b1, fun q h1 h2 => by rw [b2 q h1 h2, a2 q h1 h2]⟩
    rw [f_X12_goRound_L2, nlit 5, ifle (by omega) (by omega), if_neg (by omega)]
    exact e1.trans e2
/-- a round of the reference -/
theorem mgo_ok {s : Nat → Bool} {M : Mm} (hN : NRing M y R) (hH : HRing M y R) (hF : FOk R) (h9 : M y 9 = nI (R 0 2)) (hs : sOk s (M y 10)) (hr : R 0 2 + 1 < 100000) : ∃ w M', f_X12_goRound y M = some (nI w, M') ∧ HRing M' y (rndR R s) ∧ M' y 9 = nI (R 0 2 + 1) ∧ w + tot (R 0 0) (rndR R s) = tot (R 0 0) (prR R) ∧ keepH y M M' := by
  have s1 : SF R (updR R 0 2 (R 0 2 + 1)) := fun b j _ _ h3 => by rw [updR_at, if_neg (by omega)]
  have F1 : FOk (updR R 0 2 (R 0 2 + 1)) := hF.sf s1 (fun j hj => by rw [updR_at, if_neg (by omega)]; exact hF.2.2.2.2.1 j hj) (by rw [updR_at, if_pos ⟨rfl, rfl⟩]; exact hr)
  have H1 : HRing M y (updR R 0 2 (R 0 2 + 1)) := by
    refine ⟨fun l p hl hp => ?_, fun j hj => ?_⟩
    · rw [hH.1 l p hl hp, s1 0 0 (by omega) (by omega) (by omega), updR_at, if_neg (show ¬ (10 + l = 0 ∧ p = 2) by omega)]
    · rw [s1 0 1 (by omega) (by omega) (by omega)] at hj
      rw [hH.2 j hj, updR_at, if_neg (by omega)]
  obtain ⟨M1, e1, a1, a2⟩ := mg2 (s := s) 5 0 2000 M _ (by omega) (by omega) (hN.sf s1 rfl) H1 F1
  have s2 : ∀ b j, b < 10 → rotF (updR R 0 2 (R 0 2 + 1)) 0 5 b j = updR R 0 2 (R 0 2 + 1) b j := fun b j hb => rotF_lo _ _ _ _ hb
  have F2 : FOk (rotF (updR R 0 2 (R 0 2 + 1)) 0 5) := F1.sf (fun b j hb _ _ => s2 b j hb) (fun j hj => by rw [s2 _ _ (by omega)]; exact F1.2.2.2.2.1 j hj) (by rw [s2 _ _ (by omega)]; exact F1.2.2.2.2.2)
  have e01 : rotF (updR R 0 2 (R 0 2 + 1)) 0 5 0 1 = R 0 1 := by rw [s2 _ _ (by omega), updR_at, if_neg (by omega)]
  obtain ⟨M2, e2, b1, b2⟩ := mgoMoons (y := y) (R 0 1) 0 2000 M1 _ (by rw [e01]; omega) (by have := hF.2.1; omega) ((hN.sf s1 (a2 _ (by omega) (by omega))).sf (fun b j hb _ _ => s2 b j hb) rfl) a1 F2
  have hy9 : M1 y 9 + 1 = nI (R 0 2 + 1) := by rw [a2 _ (by omega) (by omega), h9, nI_1]
  rw [hy9] at e2
  have e00 : prR R 0 0 = R 0 0 := prR_sf R 0 0 (by omega) (by omega) (by omega)
  have H3 : HRing (up2 M2 y 9 (nI (R 0 2 + 1))) y (prR R) := by
    refine ⟨fun l p hl hp => ?_, fun j hj => ?_⟩
    · rw [up2_o _ _ _ (by omega)]; exact b1.1 l p hl hp
    · rw [up2_o _ _ _ (by omega)]; exact b1.2 j hj
  obtain ⟨w, M3, e3, c1, c2, c3⟩ := mg101 (s := s) (y := y) (R 0 1) 0 2000 0 (up2 M2 y 9 (nI (R 0 2 + 1))) (prR R) (by rw [prR_sf R 0 1 (by omega) (by omega) (by omega)]; omega) (by have := hF.2.1; omega) (hN.sf (prR_sf R) (by rw [up2_o _ _ _ (by omega), b2 _ (by omega), a2 _ (by omega) (by omega)])) H3 (hF.pr hr) (by rw [up2_at, if_pos ⟨rfl, rfl⟩, prR_02]) (by rw [up2_at, if_neg (by omega), b2 _ (by omega), a2 _ (by omega) (by omega)]; exact hs)
  rw [e00] at c2
  refine ⟨w, M3, ?_, c1, ?_, c2, fun q h1 h2 h3 h4 => ?_, fun j hj => ?_⟩
  · unfold f_X12_goRound
    rw [n0]
    refine e1.trans ?_
    unfold f_X12_goMoons
    rw [n0, e2, Option.bind_some]
    rw [Nat.zero_add] at e3
    exact e3
  · rw [c3 _ (by omega) (by omega), up2_at, if_pos ⟨rfl, rfl⟩]
  · rw [c3 q h2 h3, up2_o _ _ _ h1, b2 q h4, a2 q h2 h3]
  · rw [c3 _ (by omega) (by omega), up2_at, if_neg (by omega), b2 _ (by omega), a2 _ (by omega) (by omega)]
end MRD
