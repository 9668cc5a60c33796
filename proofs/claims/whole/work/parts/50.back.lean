/-! back -/
theorem dvd_turn {P s : Nat} (r : Nat) (hP : 0 < P) : P / Nat.gcd P s ∣ r ↔ P ∣ r * s := by
  have hg0 : 0 < Nat.gcd P s := Nat.gcd_pos_of_pos_left s hP
  obtain ⟨a, b, hc, h1, h2⟩ := Nat.exists_coprime P s
  generalize Nat.gcd P s = g at *
  have e : P / g = a := Nat.div_eq_of_eq_mul_left hg0 h1
  rw [e]
  constructor
  · rintro ⟨c, rfl⟩
    refine ⟨c * b, ?_⟩
    rw [h1, h2]
    simp only [Nat.mul_assoc, Nat.mul_comm, Nat.mul_left_comm]
  · intro h
    rw [h1, h2, ← Nat.mul_assoc] at h
    exact hc.dvd_of_dvd_mul_right (Nat.dvd_of_mul_dvd_mul_right hg0 h)
theorem com4 (M : Mm) : ∀ (n a b : Nat), b < n → a < 2 ^ 31 → b < 2 ^ 31 → f_X12_common_L4 M n (nI a) (nI b) = some (nI (Nat.gcd a b)) := by
  intro n
  induction n with
  | zero => intro a b h; omega
  | succ n ih =>
    intro a b h ha hb
    rw [f_X12_common_L4, n0, ifeq hb (by omega)]
    by_cases h0 : b = 0
    · rw [if_pos h0, h0, Nat.gcd_zero_right]
    · have hlt : a % b < b := Nat.mod_lt _ (by omega)
      rw [if_neg h0, cz_nI (by omega) hb, bnd_e, jr_nI ha (by omega) hb, ih b (a % b) (by omega) hb (by omega)]
      congr 2
      rw [Nat.gcd_comm b, ← Nat.gcd_rec, Nat.gcd_comm]
theorem common_ok (M : Mm) {a b : Nat} (ha : a < 2 ^ 31) (hb : b < 2000) : f_X12_common (nI a) (nI b) M = some (nI (Nat.gcd a b)) := com4 M 2000 a b hb ha (by omega)
def lcF (P : Nat) (f : Nat → Nat) (v : Nat) : Nat → Nat
  | 0 => v
  | k + 1 => Nat.lcm (lcF P f v k) (P / Nat.gcd P (f k))
theorem lcF_dvd {P v : Nat} {f : Nat → Nat} (hP : 0 < P) (r : Nat) : ∀ k, lcF P f v k ∣ r ↔ v ∣ r ∧ ∀ i, i < k → P ∣ r * f i
  | 0 => ⟨fun h => ⟨h, fun i hi => absurd hi (Nat.not_lt_zero i)⟩, fun h => h.1⟩
  | k + 1 => by
    rw [lcF, Nat.lcm_dvd_iff, lcF_dvd hP r k, dvd_turn r hP]
    constructor
    · rintro ⟨⟨h1, h2⟩, h3⟩
      refine ⟨h1, fun i hi => ?_⟩
      by_cases e : i = k
      · rw [e]; exact h3
      · exact h2 i (by omega)
    · rintro ⟨h1, h2⟩
      exact ⟨⟨h1, fun i hi => h2 i (by omega)⟩, h2 k (by omega)⟩
theorem lcF_le {P v : Nat} {f : Nat → Nat} (hP : 0 < P) (hv : v ∣ P) (k : Nat) : lcF P f v k ∣ P ∧ 1 ≤ lcF P f v k ∧ lcF P f v k ≤ P := by
  have h : lcF P f v k ∣ P := (lcF_dvd hP P k).mpr ⟨hv, fun i _ => Nat.dvd_mul_right P (f i)⟩
  exact ⟨h, Nat.pos_of_dvd_of_pos h hP, Nat.le_of_dvd hP h⟩
theorem lcm_by {n t : Nat} (hn : 0 < n) : n / Nat.gcd n t * t = Nat.lcm n t := by
  have hg0 : 0 < Nat.gcd n t := Nat.gcd_pos_of_pos_left t hn
  refine Nat.eq_of_mul_eq_mul_right hg0 ?_
  rw [Nat.lcm_mul_gcd, Nat.mul_right_comm, Nat.div_mul_cancel (Nat.gcd_dvd_left n t)]
theorem turns_ok {y P s : Nat} {M : Mm} (h : M (y + 1) 0 = nI P) (h0 : 0 < P) (h2 : P ≤ 24) (hs : s < 2000) : f_X12_turns y (nI s) M = some (nI (P / Nat.gcd P s)) ∧ P / Nat.gcd P s ≤ 24 ∧ 0 < P / Nat.gcd P s := by
  have hg0 : 0 < Nat.gcd P s := Nat.gcd_pos_of_pos_left s h0
  have hg1 : Nat.gcd P s ≤ P := Nat.gcd_le_left s h0
  refine ⟨?_, by have := Nat.div_le_self P (Nat.gcd P s); omega, Nat.div_gcd_pos_of_pos_left s h0⟩
  unfold f_X12_turns
  rw [mplaces_ok, Option.bind_some, Option.bind_some, h, common_ok M (by omega) hs, Option.bind_some, cz_nI hg0 (by omega), pk_div (by omega) hg0 (by omega)]
section BCK
variable {y : Nat} {M : Mm} {R : Rg}
theorem bk40 (hN : NRing M y R) (hF : FOk R) {v : Nat} (hv : v ∣ R 0 0) : ∀ (k j n : Nat), j + k = R 0 1 → k < n → f_X12_back_L40 y M n (nI (lcF (R 0 0) (R 6) v j)) (nI j) = some (nI (lcF (R 0 0) (R 6) v (R 0 1))) := by
  have hP := hF.1
  have h4 := hF.2.1
  intro k
  induction k with
  | zero =>
    intro j n hj hn
    obtain ⟨n, rfl⟩ : ∃ m, n = m + 1 := ⟨n - 1, by omega⟩
    have e : j = R 0 1 := by omega
    rw [f_X12_back_L40, mmoons_ok, Option.bind_some, hN.2.2.1, ifle (by omega) (by omega), if_pos (by omega), e]
  | succ k ih =>
    intro j n hj hn
    obtain ⟨n, rfl⟩ : ∃ m, n = m + 1 := ⟨n - 1, by omega⟩
    have g : M (y + 1) (127 + 4 * j + 3) = nI (R 6 j) := hN.2.2.2 j 3 (by omega) (by omega) (by omega)
    have h9 := (hF.2.2.2.1 j (by omega)).2.2
    obtain ⟨t1, t2, t3⟩ := turns_ok (s := R 6 j) hN.1 (by omega) hP.2 (by omega)
    obtain ⟨l1, l2, l3⟩ := lcF_le (f := R 6) (show 0 < R 0 0 by omega) hv j
    have hg0 : 0 < Nat.gcd (lcF (R 0 0) (R 6) v j) (R 0 0 / Nat.gcd (R 0 0) (R 6 j)) := Nat.gcd_pos_of_pos_left _ l2
    have hg1 : Nat.gcd (lcF (R 0 0) (R 6) v j) (R 0 0 / Nat.gcd (R 0 0) (R 6 j)) ≤ lcF (R 0 0) (R 6) v j := Nat.gcd_le_left _ l2
    rw [f_X12_back_L40, mmoons_ok, Option.bind_some, hN.2.2.1, ifle (by omega) (by omega), if_neg (by omega), nlit 3, of_ok _ _ _ _ (by omega) (by omega), Option.bind_some, g, t1, Option.bind_some, common_ok M (by omega) (by omega), Option.bind_some, cz_nI hg0 (by omega), bnd_e, bnd_e, pk_div (by omega) hg0 (by omega), pk_mul, lcm_by l2, nI_1]
    exact ih (j + 1) n (by omega) (by omega)
theorem bk4 (hN : NRing M y R) (hF : FOk R) : ∀ (k i n : Nat), i + k = 5 → k < n → f_X12_back_L4 y M n (nI (lcF (R 0 0) (R 1) 1 i)) (nI i) = some (nI (lcF (R 0 0) (R 6) (lcF (R 0 0) (R 1) 1 5) (R 0 1))) := by
  have hP := hF.1
  have h4 := hF.2.1
  intro k
  induction k with
  | zero =>
    intro i n hi hn
    obtain ⟨n, rfl⟩ : ∃ m, n = m + 1 := ⟨n - 1, by omega⟩
    have e : i = 5 := by omega
    subst e
    rw [f_X12_back_L4, nlit 5, ifle (by omega) (by omega), if_pos (by omega)]
    exact bk40 hN hF (lcF_le (show 0 < R 0 0 by omega) (Nat.one_dvd _) 5).1 (R 0 1) 0 2000 (by omega) (by omega)
  | succ k ih =>
    intro i n hi hn
    obtain ⟨n, rfl⟩ : ∃ m, n = m + 1 := ⟨n - 1, by omega⟩
    have h9 := hF.2.2.1 i (by omega)
    obtain ⟨t1, t2, t3⟩ := turns_ok (s := R 1 i) hN.1 (by omega) hP.2 (by omega)
    obtain ⟨l1, l2, l3⟩ := lcF_le (f := R 1) (show 0 < R 0 0 by omega) (Nat.one_dvd _) i
    have hg0 : 0 < Nat.gcd (lcF (R 0 0) (R 1) 1 i) (R 0 0 / Nat.gcd (R 0 0) (R 1 i)) := Nat.gcd_pos_of_pos_left _ l2
    have hg1 : Nat.gcd (lcF (R 0 0) (R 1) 1 i) (R 0 0 / Nat.gcd (R 0 0) (R 1 i)) ≤ lcF (R 0 0) (R 1) 1 i := Nat.gcd_le_left _ l2
    rw [f_X12_back_L4, nlit 5, ifle (by omega) (by omega), if_neg (by omega), nlit 1, nI_add, ck_nI (by omega) (by omega), cl_nI (by omega), hN.2.1 i (by omega), t1, Option.bind_some, common_ok M (by omega) (by omega), Option.bind_some, cz_nI hg0 (by omega), bnd_e, bnd_e, pk_div (by omega) hg0 (by omega), pk_mul, lcm_by l2, nI_add]
    exact ih (i + 1) n (by omega) (by omega)
end BCK
section BCC
variable {a : Nat} {M : Mm} {R : Rg} {tu : Nat → Nat}
theorem rb32 (h : CRing M a tu R) (hF : FOk R) {r : Nat} (hr : r ≤ 24) : ∀ (k j n : Nat), j + k = R 0 1 → k < n → ∃ b : Bool, f_X5_isRoundBehind_L32 a M n (nI r) (nI j) = some (if b then 1 else 0) ∧ (b = true ↔ ∀ j', j ≤ j' → j' < R 0 1 → R 0 0 ∣ r * R 6 j') := by
  have hP := hF.1
  have h4 := hF.2.1
  intro k
  induction k with
  | zero =>
    intro j n hj hn
    obtain ⟨n, rfl⟩ : ∃ m, n = m + 1 := ⟨n - 1, by omega⟩
    refine ⟨true, ?_, ⟨fun _ j' h1 h2 => by omega, fun _ => rfl⟩⟩
    rw [f_X5_isRoundBehind_L32, h.2.1, ifle (by omega) (by omega), if_pos (by omega)]
    rfl
  | succ k ih =>
    intro j n hj hn
    obtain ⟨n, rfl⟩ : ∃ m, n = m + 1 := ⟨n - 1, by omega⟩
    have h9 := (hF.2.2.2.1 j (by omega)).2.2
    have hb : r * R 6 j ≤ 24 * 9 := Nat.mul_le_mul hr h9
    have hm : r * R 6 j % R 0 0 < R 0 0 := Nat.mod_lt _ (by omega)
    rw [f_X5_isRoundBehind_L32, h.2.1, ifle (by omega) (by omega), if_neg (by omega), ck_nI (by omega) (by omega), cl_nI (by omega), (h.2.2.2.2.2.2 j (by omega)).2.2.2, pk_mul, around_ok h.1 (by omega) hP.2 (by omega), Option.bind_some, n0, ifeq (by omega) (by omega)]
    by_cases hd : r * R 6 j % R 0 0 = 0
    · rw [if_pos hd, bnd_e, nI_1]
      obtain ⟨b, e1, e2⟩ := ih (j + 1) n (by omega) (by omega)
      refine ⟨b, e1, e2.trans ⟨fun q j' h1 h2 => ?_, fun q j' h1 h2 => q j' (by omega) h2⟩⟩
      by_cases e : j' = j
      · rw [e]; exact Nat.dvd_of_mod_eq_zero hd
      · exact q j' (by omega) h2
    · rw [if_neg hd]
      refine ⟨false, rfl, ⟨fun q => Bool.noConfusion q, fun q => ?_⟩⟩
      exact absurd (Nat.mod_eq_zero_of_dvd (q j (by omega) (by omega))) hd
theorem rb2 (h : CRing M a tu R) (hF : FOk R) {r : Nat} (hr : r ≤ 24) : ∀ (k i n : Nat), i + k = 5 → k < n → ∃ b : Bool, f_X5_isRoundBehind_L2 a M n (nI r) (nI i) = some (if b then 1 else 0) ∧ (b = true ↔ (∀ i', i ≤ i' → i' < 5 → R 0 0 ∣ r * R 1 i') ∧ ∀ j', j' < R 0 1 → R 0 0 ∣ r * R 6 j') := by
  have hP := hF.1
  have h4 := hF.2.1
  intro k
  induction k with
  | zero =>
    intro i n hi hn
    obtain ⟨n, rfl⟩ : ∃ m, n = m + 1 := ⟨n - 1, by omega⟩
    rw [f_X5_isRoundBehind_L2, nlit 5, ifle (by omega) (by omega), if_pos (by omega)]
    obtain ⟨b, e1, e2⟩ := rb32 h hF hr (R 0 1) 0 2000 (by omega) (by omega)
    exact ⟨b, e1, e2.trans ⟨fun q => ⟨fun i' h1 h2 => by omega, fun j' h1 => q j' (by omega) h1⟩, fun q j' _ h1 => q.2 j' h1⟩⟩
  | succ k ih =>
    intro i n hi hn
    obtain ⟨n, rfl⟩ : ∃ m, n = m + 1 := ⟨n - 1, by omega⟩
    have h9 := hF.2.2.1 i (by omega)
    have hb : r * R 1 i ≤ 24 * 9 := Nat.mul_le_mul hr h9
    have hm : r * R 1 i % R 0 0 < R 0 0 := Nat.mod_lt _ (by omega)
    rw [f_X5_isRoundBehind_L2, nlit 5, ifle (by omega) (by omega), if_neg (by omega), ck_nI (by omega) (by omega), cl_nI (by omega), (h.2.2.2.2.1 i (by omega)).1, pk_mul, around_ok h.1 (by omega) hP.2 (by omega), Option.bind_some, n0, ifeq (by omega) (by omega)]
    by_cases hd : r * R 1 i % R 0 0 = 0
    · rw [if_pos hd, bnd_e, nI_1]
      obtain ⟨b, e1, e2⟩ := ih (i + 1) n (by omega) (by omega)
      refine ⟨b, e1, e2.trans ⟨fun q => ⟨fun i' h1 h2 => ?_, q.2⟩, fun q => ⟨fun i' h1 h2 => q.1 i' (by omega) h2, q.2⟩⟩⟩
      by_cases e : i' = i
      · rw [e]; exact Nat.dvd_of_mod_eq_zero hd
      · exact q.1 i' (by omega) h2
    · rw [if_neg hd]
      refine ⟨false, rfl, ⟨fun q => Bool.noConfusion q, fun q => ?_⟩⟩
      exact absurd (Nat.mod_eq_zero_of_dvd (q.1 i (by omega) (by omega))) hd
theorem comes_ok (h : CRing M a tu R) (hF : FOk R) : f_X5_comesRound a M = some (nI (lcF (R 0 0) (R 6) (lcF (R 0 0) (R 1) 1 5) (R 0 1))) := by
  have hP := hF.1
  obtain ⟨v1, v2, v3⟩ := lcF_le (f := R 1) (show 0 < R 0 0 by omega) (Nat.one_dvd _) 5
  obtain ⟨l1, l2, l3⟩ := lcF_le (f := R 6) (show 0 < R 0 0 by omega) v1 (R 0 1)
  have hd : ∀ r, lcF (R 0 0) (R 6) (lcF (R 0 0) (R 1) 1 5) (R 0 1) ∣ r ↔ (∀ i', 0 ≤ i' → i' < 5 → R 0 0 ∣ r * R 1 i') ∧ ∀ j', j' < R 0 1 → R 0 0 ∣ r * R 6 j' := fun r => by
    rw [lcF_dvd (by omega), lcF_dvd (by omega)]
    exact ⟨fun q => ⟨fun i' _ h1 => q.1.2 i' h1, q.2⟩, fun q => ⟨⟨Nat.one_dvd _, fun i' h1 => q.1 i' (by omega) h1⟩, q.2⟩⟩
  generalize lcF (R 0 0) (R 6) (lcF (R 0 0) (R 1) 1 5) (R 0 1) = B at *
  have key : ∀ (k r n : Nat), r + k = B → 1 ≤ r → k < n → f_X5_comesRound_L2 a M n (nI r) = some (nI B) := by
    intro k
    induction k with
    | zero =>
      intro r n hr h1 hn
      obtain ⟨n, rfl⟩ : ∃ m, n = m + 1 := ⟨n - 1, by omega⟩
      have e : r = B := by omega
      subst e
      rw [f_X5_comesRound_L2, h.1, ifle (by omega) (by omega)]
      by_cases hp : R 0 0 ≤ r
      · rw [if_pos hp]
      · obtain ⟨b, e1, e2⟩ := rb2 h hF (r := r) (by omega) 5 0 2000 (by omega) (by omega)
        have hb : b = true := e2.mpr ((hd r).mp (Nat.dvd_refl r))
        subst hb
        have e3 : f_X5_isRoundBehind a (nI r) M = some 1 := e1
        rw [if_neg hp, e3, Option.bind_some, if_neg (by decide)]
    | succ k ih =>
      intro r n hr h1 hn
      obtain ⟨n, rfl⟩ : ∃ m, n = m + 1 := ⟨n - 1, by omega⟩
      obtain ⟨b, e1, e2⟩ := rb2 h hF (r := r) (by omega) 5 0 2000 (by omega) (by omega)
      have hb : b = false := by
        cases b with
        | false => rfl
        | true =>
          have := Nat.le_of_dvd (by omega) ((hd r).mpr (e2.mp rfl))
          omega
      subst hb
      have e3 : f_X5_isRoundBehind a (nI r) M = some 0 := e1
      rw [f_X5_comesRound_L2, h.1, ifle (by omega) (by omega), if_neg (by omega), e3, Option.bind_some, if_pos rfl, bnd_e, nI_1]
      exact ih (r + 1) n (by omega) (by omega) (by omega)
  exact key (B - 1) 1 2000 (by omega) (by omega) (by omega)
end BCC
theorem s_back {x y k : Nat} {M : Mm} {N : Ml} (hk : k < 320) (hI : IInv x y k M N) : ∃ (v : Int32), f_X11_back x M = some v ∧ f_X12_back y M = some v ∧ IInv x y (k + 5) M N := by
  obtain ⟨R, tu, c1, m1, s⟩ := hI.ring
  have hF := s.fok (by omega)
  refine ⟨_, ?_, bk4 m1.nring hF 5 0 2000 (by omega) (by omega), hI.up (by omega)⟩
  unfold f_X11_back
  rw [comes_ok c1 hF, Option.bind_some]
