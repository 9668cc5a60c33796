/-! the pure side: small rows on numbers, checks and memories -/
theorem bnd_e {α β : Type} (e : α) (f : α → β) : bnd e f = f e := Eq.trans (Eq.refl (f e)) rfl
theorem n0 : (0 : Int32) = nI 0 := rfl
theorem nlit (n : Nat) : (OfNat.ofNat n : Int32) = nI n := rfl
theorem nneg1 : (-1 : Int32) = -nI 1 := rfl
theorem ck_nI {α : Type} {i n : Nat} {k : Option α} (h : i < n) (hn : n < 2 ^ 31) : ck (nI i) n k = k := by
  have h1 : (0 : Int32) ≤ nI i := nI_pos' (by omega)
  have h2 : (nI i).toNatClampNeg = i := nI_clamp (by omega)
  simp [ck, ckd, h1, h2, h]
theorem cl_nI {i : Nat} (h : i < 2 ^ 31) : (nI i).toNatClampNeg = i := nI_clamp h
theorem cz_nI {α : Type} {i : Nat} {k : Option α} (h : 0 < i) (hn : i < 2 ^ 31) : cz (nI i) k = k := by
  have h1 : ¬ nI i = 0 := nI_ne0 h hn
  simp [cz, h1]
theorem ifle {α : Type} {a b : Nat} (ha : a < 2 ^ 31) (hb : b < 2 ^ 31) (x y : α) : (if nI a ≤ nI b then x else y) = if a ≤ b then x else y := by
  simp only [nI_leI ha hb]
theorem iflt {α : Type} {a b : Nat} (ha : a < 2 ^ 31) (hb : b < 2 ^ 31) (x y : α) : (if nI a < nI b then x else y) = if a < b then x else y := by
  simp only [nI_ltI ha hb]
theorem ifeq {α : Type} {a b : Nat} (ha : a < 2 ^ 31) (hb : b < 2 ^ 31) (x y : α) : (if nI a = nI b then x else y) = if a = b then x else y := by
  simp only [nI_eq ha hb]
theorem up2_at (M : Mm) (a k : Nat) (v : Int32) (b j : Nat) : up2 M a k v b j = if b = a ∧ j = k then v else M b j := by
  unfold up2 va_up upd
  by_cases h : b = a
  · subst h
    by_cases h2 : j = k <;> simp [h2]
  · simp [h]
theorem up2_o (M : Mm) {a : Nat} (k : Nat) (v : Int32) {b : Nat} (h : b ≠ a) : up2 M a k v b = M b := va_up_ne _ _ h
theorem va_up_at {α : Type} (f : Nat → α) (k : Nat) (v : α) (j : Nat) : va_up f k v j = if j = k then v else f j := rfl
/-- Arrays.fill -/
theorem fill_L (p0 n : Nat) (v : Int32) (hn : n < 2000) : ∀ (k i : Nat) (M : Mm), i ≤ n → n - i < k → f_J7_fill_53178_L5 p0 n k v (nI i) (nI n) M = some (va_up M p0 (fun j => if i ≤ j ∧ j < n then v else M p0 j)) := by
  intro k
  induction k with
  | zero => intro i M h1 h2; omega
  | succ k ih =>
    intro i M h1 h2
    unfold f_J7_fill_53178_L5
    rw [ifle (by omega) (by omega)]
    by_cases hi : n ≤ i
    · rw [if_pos hi]
      congr 1
      funext b j
      rw [va_up_at]
      split
      · rename_i hb
        subst hb
        show M b j = if i ≤ j ∧ j < n then v else M b j
        rw [if_neg (by omega)]
      · rfl
    · rw [if_neg hi, ck_nI (by omega) (by omega), bnd_e, bnd_e, cl_nI (by omega), nI_1]
      rw [ih (i + 1) _ (by omega) (by omega)]
      congr 1
      funext b j
      simp only [va_up_at, up2_at]
      by_cases hb : b = p0
      · subst hb
        by_cases hj : j = i
        · subst hj
          simp
          omega
        · by_cases h3 : i ≤ j ∧ j < n
          · rw [if_pos rfl, if_pos rfl, if_pos (by omega), if_pos h3]
          · rw [if_pos rfl, if_pos rfl, if_neg (by omega), if_neg h3, if_neg (by omega)]
      · simp [hb, up2_at]
theorem fill_ok (p0 n : Nat) (v : Int32) (M : Mm) (hn : n < 2000) : f_J7_fill_53178 p0 n v M = some (va_up M p0 (fun j => if j < n then v else M p0 j)) := by
  unfold f_J7_fill_53178
  rw [bnd_e, n0, show Int32.ofNat n = nI n from rfl, fill_L p0 n v hn 2000 0 M (by omega) (by omega)]
  simp
/-- Ring.begin: what it leaves -/
def begM (M : Mm) (a : Nat) (p : Int32) : Mm := fun b j =>
  if b = a then (if j = 9 then p else if j = 10 ∨ j = 11 ∨ j = 12 then 0 else M a j)
  else if b = a + 1 then (if j < 5 then nI (5 - j) else M b j)
  else if b = a + 2 then (if j < 5 then 0 else M b j)
  else if b = a + 3 then (if j < 120 then 0 else M b j)
  else if b = a + 4 then (if j < 5 then 0 else M b j)
  else M b j
theorem begin_L (a : Nat) : ∀ (n i : Nat) (M : Mm), i ≤ 5 → 5 - i < n → f_X5_begin_L22 a n (nI i) M = some (fun b j =>
  if b = a + 1 then (if i ≤ j ∧ j < 5 then nI (5 - j) else M b j)
  else if b = a + 2 then (if j < 5 then 0 else M b j)
  else if b = a + 3 then (if j < 120 then 0 else M b j)
  else if b = a + 4 then (if j < 5 then 0 else M b j)
  else M b j) := by
  intro n
  induction n with
  | zero => intro i M h1 h2; omega
  | succ n ih =>
    intro i M h1 h2
    unfold f_X5_begin_L22
    rw [nlit 5, ifle (by omega) (by omega)]
    by_cases hi : 5 ≤ i
    · rw [if_pos hi, fill_ok _ _ _ _ (by omega), Option.bind_some, fill_ok _ _ _ _ (by omega), Option.bind_some, fill_ok _ _ _ _ (by omega), Option.bind_some]
      congr 1
      funext b j
      simp only [va_up_at]
      by_cases h1 : b = a + 1
      · subst h1
        simp
        omega
      · by_cases h2 : b = a + 2
        · subst h2; simp
        · by_cases h3 : b = a + 3
          · subst h3; simp
          · by_cases h4 : b = a + 4
            · subst h4; simp
            · simp [h1, h2, h3, h4]
    · rw [if_neg hi, ck_nI (by omega) (by omega), bnd_e, bnd_e, cl_nI (by omega), nI_1, ih (i + 1) _ (by omega) (by omega)]
      congr 1
      funext b j
      simp only [up2_at]
      by_cases h1 : b = a + 1
      · subst h1
        by_cases hj : j = i
        · subst hj
          rw [if_pos rfl, if_pos rfl, if_neg (by omega), if_pos (by omega), if_pos (by omega), pk_sub (by omega)]
        · by_cases h3 : i ≤ j ∧ j < 5
          · rw [if_pos rfl, if_pos rfl, if_pos (by omega), if_pos h3]
          · rw [if_pos rfl, if_pos rfl, if_neg (by omega), if_neg h3, if_neg (by omega)]
      · simp [h1]
theorem begin_ok (a : Nat) (p : Int32) (M : Mm) : f_X5_begin a p M = some (begM M a p) := by
  unfold f_X5_begin
  simp only [bnd_e]
  rw [n0, begin_L a 2000 0 _ (by omega) (by omega)]
  congr 1
  funext b j
  simp only [up2_at, begM]
  by_cases h0 : b = a
  · subst h0
    simp
    by_cases h9 : j = 9
    · subst h9; simp
    · by_cases h10 : j = 10
      · subst h10; simp; rfl
      · by_cases h11 : j = 11
        · subst h11; simp; rfl
        · by_cases h12 : j = 12
          · subst h12; simp; rfl
          · simp [h9, h10, h11, h12]
  · simp [h0]
/-- the reference's begin: what it leaves -/
def mbegM (M : Mm) (a : Nat) (p : Int32) : Mm := fun b j =>
  if b = a then (if j = 0 then p else if j < 6 then nI (6 - j) else if j < 151 then 0 else M a j) else M b j
theorem mbegin_L25 (a n0 : Nat) (hn : 151 ≤ n0) (hn2 : n0 < 2000) : ∀ (n i : Nat) (M : Mm), i ≤ 5 → 5 - i < n → f_X12_begin_L25 a n0 n (nI i) M = some (fun b j => if b = a ∧ i + 1 ≤ j ∧ j < 6 then nI (6 - j) else M b j) := by
  intro n
  induction n with
  | zero => intro i M h1 h2; omega
  | succ n ih =>
    intro i M h1 h2
    unfold f_X12_begin_L25
    rw [nlit 5, ifle (by omega) (by omega)]
    by_cases hi : 5 ≤ i
    · rw [if_pos hi]
      congr 1
      funext b j
      rw [if_neg (by omega)]
    · rw [if_neg hi, nlit 1, nI_add, ck_nI (by omega) (by omega), bnd_e, bnd_e, cl_nI (by omega), nI_add, ih (i + 1) _ (by omega) (by omega)]
      congr 1
      funext b j
      simp only [up2_at]
      by_cases hb : b = a
      · subst hb
        by_cases hj : j = 1 + i
        · subst hj
          rw [if_neg (by omega), if_pos (by omega), if_pos (by omega), pk_sub (by omega)]
          congr 1
          omega
        · by_cases h3 : i + 1 ≤ j ∧ j < 6
          · rw [if_pos (by omega), if_pos (by omega)]
          · rw [if_neg (by omega), if_neg (by omega), if_neg (by omega)]
      · simp [hb]
theorem mbegin_L2 (a n0 : Nat) (p : Int32) (hn : 151 ≤ n0) (hn2 : n0 < 2000) : ∀ (n i : Nat) (M : Mm), i ≤ 151 → 151 - i < n → f_X12_begin_L2 a n0 n p (nI i) M = some (fun b j => if b = a then (if j = 0 then p else if j < 6 then nI (6 - j) else if i ≤ j ∧ j < 151 then 0 else M a j) else M b j) := by
  intro n
  induction n with
  | zero => intro i M h1 h2; omega
  | succ n ih =>
    intro i M h1 h2
    unfold f_X12_begin_L2
    rw [nlit 151, ifle (by omega) (by omega)]
    by_cases hi : 151 ≤ i
    · rw [if_pos hi, nlit 0, ck_nI (by omega) (by omega), bnd_e, cl_nI (by omega), mbegin_L25 a n0 hn hn2 2000 0 _ (by omega) (by omega)]
      congr 1
      funext b j
      simp only [up2_at]
      by_cases hb : b = a
      · subst hb
        by_cases hj : j = 0
        · subst hj; simp
        · by_cases h6 : j < 6
          · rw [if_pos (by omega), if_pos rfl, if_neg hj, if_pos h6]
          · rw [if_neg (by omega), if_neg (by omega), if_pos rfl, if_neg hj, if_neg h6, if_neg (by omega)]
      · simp [hb]
    · rw [if_neg hi, ck_nI (by omega) (by omega), bnd_e, bnd_e, cl_nI (by omega), nlit 1, nI_add, ih (i + 1) _ (by omega) (by omega)]
      congr 1
      funext b j
      simp only [up2_at]
      by_cases hb : b = a
      · subst hb
        by_cases hj : j = 0
        · subst hj; simp
        · by_cases h6 : j < 6
          · simp [hj, h6]
          · by_cases hji : j = i
            · subst hji
              simp [hj, h6]
              omega
            · by_cases h3 : i ≤ j ∧ j < 151
              · rw [if_pos rfl, if_pos rfl, if_neg hj, if_neg h6, if_pos (by omega), if_neg hj, if_neg h6, if_pos h3]
              · rw [if_pos rfl, if_pos rfl, if_neg hj, if_neg h6, if_neg (by omega), if_neg hj, if_neg h6, if_neg h3, if_neg (by omega)]
      · simp [hb]
theorem mbegin_ok (a n0 : Nat) (p : Int32) (M : Mm) (hn : 151 ≤ n0) (hn2 : n0 < 2000) : f_X12_begin a n0 p M = some (mbegM M a p) := by
  unfold f_X12_begin
  rw [nlit 0, mbegin_L2 a n0 p hn hn2 2000 0 M (by omega) (by omega)]
  congr 1
  funext b j
  simp only [mbegM]
  simp
