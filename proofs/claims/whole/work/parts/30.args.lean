/-! checks of arguments: both sides test the same -/
def b01 (c : Prop) [Decidable c] : Int32 := if c then 1 else 0
theorem ite_b01 {α : Type} {c : Prop} [Decidable c] (a b : α) : (if b01 c = 0 then a else b) = if c then b else a := by
  unfold b01
  by_cases h : c
  · simp [h]
  · simp [h]
theorem cb_b01 {α : Type} {c : Prop} [Decidable c] (k : Option α) : cb (b01 c) k = k := by
  unfold b01 cb
  by_cases h : c <;> simp [h]
theorem within_ok (p a b : Int32) (M : Mm) : f_X11_isWithin p a b M = some (b01 (a ≤ p ∧ p ≤ b)) := by
  unfold f_X11_isWithin b01
  by_cases h1 : p < a
  · have h2 : ¬ (a ≤ p ∧ p ≤ b) := fun h => absurd h.1 (Int32.not_le.mpr h1)
    rw [if_pos h1, if_neg h2]
  · by_cases h3 : b < p
    · have h2 : ¬ (a ≤ p ∧ p ≤ b) := fun h => absurd h.2 (Int32.not_le.mpr h3)
      rw [if_neg h1, if_pos h3, if_neg h2]
    · have h2 : a ≤ p ∧ p ≤ b := ⟨Int32.not_lt.mp h1, Int32.not_lt.mp h3⟩
      rw [if_neg h1, if_neg h3, if_pos h2]
theorem lane_ok (p : Int32) (M : Mm) : f_X11_isLane p M = some (b01 ((0 : Int32) ≤ p ∧ p ≤ 4)) := by
  unfold f_X11_isLane b01
  by_cases h1 : p < 0
  · have h2 : ¬ ((0 : Int32) ≤ p ∧ p ≤ 4) := fun h => absurd h.1 (Int32.not_le.mpr h1)
    rw [if_pos h1, if_neg h2]
  · have h0 : (0 : Int32) ≤ p := Int32.not_lt.mp h1
    have e : (5 : Int32) ≤ p ↔ ¬ p ≤ 4 := by
      rw [Int32.le_iff_toInt_le, Int32.le_iff_toInt_le]
      have e5 : (5 : Int32).toInt = 5 := by decide
      have e4 : (4 : Int32).toInt = 4 := by decide
      omega
    by_cases h3 : (5 : Int32) ≤ p
    · rw [if_neg h1, if_pos h3, if_neg (fun h => e.mp h3 h.2)]
    · rw [if_neg h1, if_neg h3, if_pos ⟨h0, Decidable.not_not.mp (fun q => h3 (e.mpr q))⟩]
theorem cmp_lt (a b : Int32) : lg_cmp a.toInt64 b.toInt64 < 0 ↔ a < b := by
  have h1 : a.toInt64.toInt = a.toInt := Int32.toInt_toInt64 a
  have h2 : b.toInt64.toInt = b.toInt := Int32.toInt_toInt64 b
  unfold lg_cmp
  rw [show (a < b) = (a.toInt < b.toInt) from propext Int32.lt_iff_toInt_lt]
  by_cases h : a.toInt64 > b.toInt64
  · have h' : b.toInt < a.toInt := by
      have := Int64.lt_iff_toInt_lt.mp h
      omega
    rw [if_pos h]
    constructor
    · intro q; exact absurd q (by decide)
    · intro q; omega
  · have h' : ¬ b.toInt < a.toInt := fun q => h (Int64.lt_iff_toInt_lt.mpr (by omega))
    rw [if_neg h]
    by_cases he : a.toInt64 = b.toInt64
    · rw [if_pos he]
      have : a.toInt = b.toInt := by rw [← h1, ← h2, he]
      constructor
      · intro q; exact absurd q (by decide)
      · intro q; omega
    · rw [if_neg he]
      have hne : a.toInt ≠ b.toInt := fun q => he (Int64.toInt_inj.mp (by omega))
      constructor
      · intro _; omega
      · intro _; decide
theorem cmp_gt (a b : Int32) : 0 < lg_cmp a.toInt64 b.toInt64 ↔ b < a := by
  have h1 : a.toInt64.toInt = a.toInt := Int32.toInt_toInt64 a
  have h2 : b.toInt64.toInt = b.toInt := Int32.toInt_toInt64 b
  unfold lg_cmp
  rw [show (b < a) = (b.toInt < a.toInt) from propext Int32.lt_iff_toInt_lt]
  by_cases h : a.toInt64 > b.toInt64
  · have h' : b.toInt < a.toInt := by
      have := Int64.lt_iff_toInt_lt.mp h
      omega
    rw [if_pos h]
    exact ⟨fun _ => h', fun _ => by decide⟩
  · have h' : ¬ b.toInt < a.toInt := fun q => h (Int64.lt_iff_toInt_lt.mpr (by omega))
    rw [if_neg h]
    by_cases he : a.toInt64 = b.toInt64
    · rw [if_pos he]
      exact ⟨fun q => absurd q (by decide), fun q => absurd q h'⟩
    · rw [if_neg he]
      exact ⟨fun q => absurd q (by decide), fun q => absurd q h'⟩
theorem in_ok (p a b : Int32) (M : Mm) : f_X12_in p.toInt64 a.toInt64 b.toInt64 M = some (b01 (a ≤ p ∧ p ≤ b)) := by
  unfold f_X12_in b01
  simp only [cmp_lt, cmp_gt]
  by_cases h1 : p < a
  · have h2 : ¬ (a ≤ p ∧ p ≤ b) := fun h => absurd h.1 (Int32.not_le.mpr h1)
    rw [if_pos h1, if_neg h2]
  · by_cases h3 : b < p
    · have h2 : ¬ (a ≤ p ∧ p ≤ b) := fun h => absurd h.2 (Int32.not_le.mpr h3)
      rw [if_neg h1, if_pos h3, if_neg h2]
    · have h2 : a ≤ p ∧ p ≤ b := ⟨Int32.not_lt.mp h1, Int32.not_lt.mp h3⟩
      rw [if_neg h1, if_neg h3, if_pos h2]
theorem mlane_ok (p : Int32) (M : Mm) : f_X12_isLane p M = some (b01 ((0 : Int32) ≤ p ∧ p ≤ 4)) := by
  unfold f_X12_isLane
  have h := in_ok p 0 4 M
  rw [show (0 : Int64) = (0 : Int32).toInt64 from rfl, show (4 : Int64) = (4 : Int32).toInt64 from rfl, h, Option.bind_some, cb_b01]
theorem refuse_ok (x : Nat) (w : Nat) (hw : w < 3) (v : Int32) (M : Mm) : f_X11_refuse x (nI w) v M = some (v, up2 M (x + 233) w (M (x + 233) w + 1)) := by
  unfold f_X11_refuse
  rw [ck_nI hw (by omega), ck_nI hw (by omega), bnd_e, cl_nI (by omega)]
theorem bad_ok (y : Nat) (v : Int32) (M : Mm) : f_X12_bad y v M = some (v, up2 M (y + 4) 0 (M (y + 4) 0 + 1)) := by
  unfold f_X12_bad
  rw [n0, ck_nI (by omega) (by omega), ck_nI (by omega) (by omega), bnd_e, cl_nI (by omega)]
theorem no_ok (y : Nat) (M : Mm) : f_X12_no y M = some (-3, up2 M (y + 4) 1 (M (y + 4) 1 + 1)) := by
  unfold f_X12_no
  rw [nlit 1, ck_nI (by omega) (by omega), ck_nI (by omega) (by omega), bnd_e, cl_nI (by omega)]
theorem full_ok (y : Nat) (M : Mm) : f_X12_full y M = some (-4, up2 M (y + 4) 2 (M (y + 4) 2 + 1)) := by
  unfold f_X12_full
  rw [nlit 2, ck_nI (by omega) (by omega), ck_nI (by omega) (by omega), bnd_e, cl_nI (by omega)]
/-- an argument that passed its check is a number -/
theorem in_nat {p : Int32} {b : Nat} (hb : b < 2 ^ 31) (h : (0 : Int32) ≤ p ∧ p ≤ nI b) : ∃ n, n ≤ b ∧ p = nI n := by
  have h0 : ¬ p < 0 := Int32.not_lt.mpr h.1
  obtain ⟨j, hj, e⟩ := nI_of h0
  subst e
  exact ⟨j, (nI_leI hj hb).mp h.2, rfl⟩
theorem in_nat2 {p : Int32} {a b : Nat} (ha : a < 2 ^ 31) (hb : b < 2 ^ 31) (h : nI a ≤ p ∧ p ≤ nI b) : ∃ n, a ≤ n ∧ n ≤ b ∧ p = nI n := by
  have h0 : ¬ p < 0 := by
    have h1 := h.1
    rw [Int32.lt_iff_toInt_lt]
    rw [Int32.le_iff_toInt_le, nI_toInt ha] at h1
    have e : (0 : Int32).toInt = 0 := by decide
    omega
  obtain ⟨j, hj, e⟩ := nI_of h0
  subst e
  exact ⟨j, (nI_leI ha hj).mp h.1, (nI_leI hj hb).mp h.2, rfl⟩
