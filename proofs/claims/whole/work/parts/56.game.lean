/-! game -/
def wI (v : Int) : Int32 := Int32.ofInt v
theorem wI_n (n : Nat) : nI n = wI (n : Int) := Int32.ofInt_eq_ofNat.symm
theorem wI_sub (a b : Int) : wI a - wI b = wI (a - b) := (Int32.ofInt_sub a b).symm
theorem wI_le {a b : Int} (ha : -2000000000 ≤ a ∧ a ≤ 2000000000) (hb : -2000000000 ≤ b ∧ b ≤ 2000000000) : wI a ≤ wI b ↔ a ≤ b := by
  rw [Int32.le_iff_toInt_le]
  unfold wI
  rw [Int32.toInt_ofInt_of_le (by omega) (by omega), Int32.toInt_ofInt_of_le (by omega) (by omega)]
theorem wI_eq {a b : Int} (ha : -2000000000 ≤ a ∧ a ≤ 2000000000) (hb : -2000000000 ≤ b ∧ b ≤ 2000000000) : wI a = wI b ↔ a = b := by
  constructor
  · intro h
    have h2 := congrArg Int32.toInt h
    unfold wI at h2
    rwa [Int32.toInt_ofInt_of_le (by omega) (by omega), Int32.toInt_ofInt_of_le (by omega) (by omega)] at h2
  · intro h
    rw [h]
theorem ite_iff {α : Type} {p q : Prop} [Decidable p] [Decidable q] (h : p ↔ q) (x y : α) : (if p then x else y) = if q then x else y := by
  by_cases c : p
  · rw [if_pos c, if_pos (h.mp c)]
  · rw [if_neg c, if_neg (fun w => c (h.mpr w))]
theorem bit1 : ∀ m, m < 32 → ∀ l, l < 5 → ((((jsr (nI m) (nI l)) &&& (1 : Int32)) = 0 ↔ m.testBit l = false) ∧ (((jsr (nI m) (nI l)) &&& (1 : Int32)) = 1 ↔ m.testBit l = true)) := by decide +kernel
theorem bit2 : ∀ m, m < 32 → ∀ l, l < 5 → ((nI m ||| jsl (1 : Int32) (nI l)) = nI (m ||| 2 ^ l) ∧ (m ||| 2 ^ l) < 32 ∧ ∀ i, i < 5 → (m ||| 2 ^ l).testBit i = (m.testBit i || decide (i = l))) := by decide +kernel
theorem bit3 : ∀ m, m < 32 → ∀ l, l < 5 → m.testBit l = true → ((nI m &&& ((jsl (1 : Int32) (nI l)) ^^^ (-1 : Int32))) = nI (m - 2 ^ l) ∧ ∀ i, i < 5 → (m - 2 ^ l).testBit i = (m.testBit i && decide (i ≠ l))) := by decide +kernel
theorem bit4 : ∀ l, l < 5 → jsl (1 : Int32) (nI l) = nI (2 ^ l) ∧ 2 ^ l < 32 ∧ ∀ i, i < 5 → (2 ^ l).testBit i = decide (i = l) := by decide +kernel
theorem bit5 : ∀ m, m < 32 → m ≠ 0 → ∃ l, l < 5 ∧ m.testBit l = true := by decide +kernel
def mnP (P : Nat → Bool) (l : Nat) : Nat → Bool := fun i => P i && decide (i ≠ l)
def bsS (v : Int) : Option Int → Option Int
  | none => some v
  | some c => if v ≤ c then some c else some v
def arS (v : Int) (l : Nat) (a : Int32) : Option Int → Int32
  | none => nI l
  | some c => if v ≤ c then a else nI l
theorem bsS_some (v c : Int) : bsS v (some c) = if v ≤ c then some c else some v := rfl
theorem arS_some (v c : Int) (l : Nat) (a : Int32) : arS v l a (some c) = if v ≤ c then a else nI l := rfl
def bsF (S : Nat → Nat) (sub : Nat → Int) (P : Nat → Bool) (l : Nat) (b : Option Int) : Nat → Option Int
  | 0 => b
  | k + 1 => bsF S sub P (l + 1) (if P l then bsS ((S l : Int) - sub l) b else b) k
def arF (S : Nat → Nat) (sub : Nat → Int) (P : Nat → Bool) (l : Nat) (b : Option Int) (a : Int32) : Nat → Int32
  | 0 => a
  | k + 1 => arF S sub P (l + 1) (if P l then bsS ((S l : Int) - sub l) b else b) (if P l then arS ((S l : Int) - sub l) l a b else a) k
def gmF (S : Nat → Nat) : Nat → (Nat → Bool) → Int
  | 0, _ => 0
  | t + 1, P => (bsF S (fun l => gmF S t (mnP P l)) P 0 none 5).getD 0
theorem bsF_cong {S : Nat → Nat} {sub sub' : Nat → Int} {P P' : Nat → Bool} (hP : ∀ i, i < 5 → P i = P' i) (hs : ∀ i, i < 5 → P i = true → sub i = sub' i) : ∀ (k l : Nat) (b : Option Int), l + k = 5 → bsF S sub P l b k = bsF S sub' P' l b k := by
  intro k
  induction k with
  | zero => intro l b h; rfl
  | succ k ih =>
    intro l b h
    rw [bsF, bsF, ← hP l (by omega)]
    by_cases hp : P l = true
    · rw [if_pos hp, if_pos hp, hs l (by omega) hp]
      exact ih _ _ (by omega)
    · rw [if_neg hp, if_neg hp]
      exact ih _ _ (by omega)
theorem arF_cong {S : Nat → Nat} {sub sub' : Nat → Int} {P P' : Nat → Bool} (hP : ∀ i, i < 5 → P i = P' i) (hs : ∀ i, i < 5 → P i = true → sub i = sub' i) : ∀ (k l : Nat) (b : Option Int) (a : Int32), l + k = 5 → arF S sub P l b a k = arF S sub' P' l b a k := by
  intro k
  induction k with
  | zero => intro l b a h; rfl
  | succ k ih =>
    intro l b a h
    rw [arF, arF, ← hP l (by omega)]
    by_cases hp : P l = true
    · rw [if_pos hp, if_pos hp, if_pos hp, if_pos hp, hs l (by omega) hp]
      exact ih _ _ _ (by omega)
    · rw [if_neg hp, if_neg hp, if_neg hp, if_neg hp]
      exact ih _ _ _ (by omega)
theorem gmF_cong (S : Nat → Nat) : ∀ (t : Nat) {P P' : Nat → Bool}, (∀ i, i < 5 → P i = P' i) → gmF S t P = gmF S t P'
  | 0, _, _, _ => rfl
  | t + 1, P, P', h => by
    rw [gmF, gmF, bsF_cong (sub' := fun l => gmF S t (mnP P' l)) h (fun i hi _ => gmF_cong S t (fun j hj => by unfold mnP; rw [h j hj])) 5 0 none (by omega)]
theorem bsF_in {S : Nat → Nat} {sub : Nat → Int} {P : Nat → Bool} : ∀ (k l : Nat) (b : Option Int) (c : Int), l + k = 5 → bsF S sub P l b k = some c → b = some c ∨ ∃ i, i < 5 ∧ P i = true ∧ c = (S i : Int) - sub i := by
  intro k
  induction k with
  | zero => intro l b c h e; exact Or.inl e
  | succ k ih =>
    intro l b c h e
    rw [bsF] at e
    rcases ih _ _ _ (by omega) e with q | q
    · by_cases hp : P l = true
      · rw [if_pos hp] at q
        cases b with
        | none =>
          have : (S l : Int) - sub l = c := Option.some.inj q
          exact Or.inr ⟨l, by omega, hp, this.symm⟩
        | some d =>
          rw [bsS_some] at q
          by_cases hd : (S l : Int) - sub l ≤ d
          · rw [if_pos hd] at q
            exact Or.inl q
          · rw [if_neg hd] at q
            have : (S l : Int) - sub l = c := Option.some.inj q
            exact Or.inr ⟨l, by omega, hp, this.symm⟩
      · rw [if_neg hp] at q
        exact Or.inl q
    · exact Or.inr q
theorem gmF_bd {S : Nat → Nat} {T : Nat} (hS : ∀ l, l < 5 → S l ≤ T) : ∀ (t : Nat) (P : Nat → Bool), -((t * T : Nat) : Int) ≤ gmF S t P ∧ gmF S t P ≤ ((t * T : Nat) : Int)
  | 0, P => by
    rw [gmF]
    omega
  | t + 1, P => by
    rw [gmF]
    have hm : (t + 1) * T = t * T + T := Nat.succ_mul t T
    cases e : bsF S (fun l => gmF S t (mnP P l)) P 0 none 5 with
    | none =>
      show -_ ≤ (0 : Int) ∧ (0 : Int) ≤ _
      omega
    | some c =>
      show -_ ≤ c ∧ c ≤ _
      rcases bsF_in 5 0 none c (by omega) e with q | ⟨i, hi, hp, q⟩
      · cases q
      · have h1 := gmF_bd hS t (mnP P i)
        have h2 := hS i hi
        have q : c = (S i : Int) - gmF S t (mnP P i) := q
        omega
theorem v_bd {S : Nat → Nat} {T : Nat} (hS : ∀ l, l < 5 → S l ≤ T) (hT : T ≤ 1000000) {t : Nat} (ht : t ≤ 6) (P : Nat → Bool) {l : Nat} (hl : l < 5) : -7000000 ≤ (S l : Int) - gmF S t (mnP P l) ∧ (S l : Int) - gmF S t (mnP P l) ≤ 7000000 := by
  have h1 := gmF_bd hS t (mnP P l)
  have h2 := hS l hl
  have h3 : t * T ≤ 6 * 1000000 := Nat.mul_le_mul ht hT
  omega
theorem g_bd {S : Nat → Nat} {T : Nat} (hS : ∀ l, l < 5 → S l ≤ T) (hT : T ≤ 1000000) {t : Nat} (ht : t ≤ 6) (P : Nat → Bool) : -7000000 ≤ gmF S t P ∧ gmF S t P ≤ 7000000 := by
  have h1 := gmF_bd hS t P
  have h3 : t * T ≤ 6 * 1000000 := Nat.mul_le_mul ht hT
  omega
/-! the class's side -/
abbrev avP (S : Nat → Nat) (g : Nat) : Nat → Bool := fun i => decide (0 < S i) && !(g.testBit i)
section GMC
variable {a : Nat} {M : Mm} {S : Nat → Nat} {T : Nat}
theorem cah14 {rcf : Int32 → Int32 → Option Int32} {sub : Nat → Int} {g t : Nat} (hM : ∀ l, l < 5 → M a l = nI (S l)) (hS : ∀ l, l < 5 → S l ≤ T) (hT : T ≤ 1000000) (hg : g < 32) (hr : ∀ l, l < 5 → avP S g l = true → rcf (nI (g ||| 2 ^ l)) (nI t) = some (wI (sub l))) (hv : ∀ l, l < 5 → -7000000 ≤ (S l : Int) - sub l ∧ (S l : Int) - sub l ≤ 7000000) : ∀ (k l n : Nat) (b : Option Int), l + k = 5 → k < n → (∀ c, b = some c → -7000000 ≤ c ∧ c ≤ 7000000) → f_X0_aheadBy_L14 rcf a 5 M n (nI g) (nI (t + 1)) (if b.isSome then 1 else 0) (wI (b.getD 0)) (nI l) = some (wI ((bsF S sub (avP S g) l b k).getD 0)) := by
  intro k
  induction k with
  | zero =>
    intro l n b hl hn hb
    obtain ⟨n, rfl⟩ : ∃ m, n = m + 1 := ⟨n - 1, by omega⟩
    rw [f_X0_aheadBy_L14, nlit 5, ifle (by omega) (by omega), if_pos (by omega)]
    rfl
  | succ k ih =>
    intro l n b hl hn hb
    obtain ⟨n, rfl⟩ : ∃ m, n = m + 1 := ⟨n - 1, by omega⟩
    have hSl := hS l (by omega)
    have hb1 := (bit1 g hg l (by omega)).1
    obtain ⟨hb2, hb3, hb4⟩ := bit2 g hg l (by omega)
    rw [f_X0_aheadBy_L14, nlit 5, ifle (by omega) (by omega), if_neg (by omega), ck_nI (by omega) (by omega), ck_nI (by omega) (by omega), cl_nI (by omega), hM l (by omega), hb2, show nI (t + 1) - (1 : Int32) = nI t from nI_pred t, bsF]
    unfold f_X0_aheadBy_J67 f_X0_aheadBy_J73
    rw [bnd_e, nI_1]
    have hle : nI (S l) ≤ 0 ↔ S l ≤ 0 := nI_leI (b := 0) (by omega) (by omega)
    rw [ite_iff hle]
    by_cases h0 : S l ≤ 0
    · have hp : avP S g l = false := by
        show (decide (0 < S l) && !(g.testBit l)) = false
        simp
        intro q
        omega
      rw [if_pos h0, hp]
      exact ih (l + 1) n b (by omega) (by omega) hb
    · rw [if_neg h0]
      by_cases hbt : g.testBit l = false
      · have hp : avP S g l = true := by
          show (decide (0 < S l) && !(g.testBit l)) = true
          rw [hbt]
          simp
          omega
        obtain ⟨v1, v2⟩ := hv l (by omega)
        rw [if_pos (hb1.mpr hbt), hr l (by omega) hp, Option.bind_some, bnd_e, bnd_e, wI_n (S l), wI_sub, if_pos hp]
        cases b with
        | none =>
          have e := ih (l + 1) n (some ((S l : Int) - sub l)) (by omega) (by omega) (fun c hc => by cases hc; exact ⟨v1, v2⟩)
          exact e
        | some c =>
          obtain ⟨c1, c2⟩ := hb c rfl
          have n10 : ¬ (if (some c).isSome = true then (1 : Int32) else 0) = 0 := by
            show ¬ (1 : Int32) = 0
            decide
          rw [if_neg n10]
          have hz : wI ((S l : Int) - sub l) ≤ wI ((some c).getD 0) ↔ (S l : Int) - sub l ≤ c := wI_le (by omega) (by show _ ≤ c ∧ c ≤ _; omega)
          rw [ite_iff hz]
          rw [bsS_some]
          by_cases hq : (S l : Int) - sub l ≤ c
          · rw [if_pos hq, if_pos hq]
            exact ih (l + 1) n (some c) (by omega) (by omega) hb
          · rw [if_neg hq, if_neg hq]
            exact ih (l + 1) n (some ((S l : Int) - sub l)) (by omega) (by omega) (fun c hc => by cases hc; exact ⟨v1, v2⟩)
      · have hbt' : g.testBit l = true := by
          cases h : g.testBit l with
          | false => exact absurd h hbt
          | true => rfl
        have hp : avP S g l = false := by
          show (decide (0 < S l) && !(g.testBit l)) = false
          rw [hbt']
          simp
        rw [if_neg (fun q => hbt (hb1.mp q)), hp]
        exact ih (l + 1) n b (by omega) (by omega) hb
theorem cah (hM : ∀ l, l < 5 → M a l = nI (S l)) (hS : ∀ l, l < 5 → S l ≤ T) (hT : T ≤ 1000000) : ∀ (t d g : Nat), t < d → t ≤ 6 → g < 32 → f_X0_aheadBy a 5 d (nI g) (nI t) M = some (wI (gmF S t (avP S g))) := by
  intro t
  induction t with
  | zero =>
    intro d g hd ht hg
    obtain ⟨d, rfl⟩ : ∃ m, d = m + 1 := ⟨d - 1, by omega⟩
    rw [f_X0_aheadBy]
    unfold f_X0_aheadBy_b
    rw [if_neg (by decide)]
    rfl
  | succ t ih =>
    intro d g hd ht hg
    obtain ⟨d, rfl⟩ : ∃ m, d = m + 1 := ⟨d - 1, by omega⟩
    rw [f_X0_aheadBy]
    unfold f_X0_aheadBy_b
    rw [if_pos (show (0 : Int32) < nI (t + 1) from nI_lt (a := 0) (by omega) (by omega))]
    exact cah14 (sub := fun l => gmF S t (mnP (avP S g) l)) hM hS hT hg (fun l hl hp => by
      obtain ⟨hb2, hb3, hb4⟩ := bit2 g hg l hl
      rw [ih d (g ||| 2 ^ l) (by omega) (by omega) hb3]
      congr 2
      refine gmF_cong S t (fun i hi => ?_)
      show (decide (0 < S i) && !((g ||| 2 ^ l).testBit i)) = ((decide (0 < S i) && !(g.testBit i)) && decide (i ≠ l))
      rw [hb4 i hi]
      by_cases e : i = l
      · simp [e]
      · simp [e]) (fun l hl => v_bd hS hT (by omega) _ hl) 5 0 2000 none (by omega) (by omega) (fun c hc => by cases hc)
end GMC
def arI (S : Nat → Nat) (sub : Nat → Int) (P : Nat → Bool) (n : Nat) (b : Option Int) (a : Int32) : Prop := (b = none ∧ a = (-1 : Int32) ∧ ∀ i, i < n → P i = false) ∨ ∃ c j, b = some c ∧ a = nI j ∧ j < n ∧ P j = true ∧ (S j : Int) - sub j = c ∧ (∀ i, i < n → P i = true → (S i : Int) - sub i ≤ c) ∧ ∀ i, i < j → P i = true → (S i : Int) - sub i ≠ c
theorem ar_inv {S : Nat → Nat} {sub : Nat → Int} {P : Nat → Bool} : ∀ (k l : Nat) (b : Option Int) (a : Int32), l + k = 5 → arI S sub P l b a → arI S sub P 5 (bsF S sub P l b k) (arF S sub P l b a k) := by
  intro k
  induction k with
  | zero =>
    intro l b a h q
    have e : l = 5 := by omega
    subst e
    exact q
  | succ k ih =>
    intro l b a h q
    rw [bsF, arF]
    refine ih (l + 1) _ _ (by omega) ?_
    by_cases hp : P l = true
    · rw [if_pos hp, if_pos hp]
      right
      rcases q with ⟨rfl, rfl, q⟩ | ⟨c, j, rfl, rfl, q1, q2, q3, q4, q5⟩
      · refine ⟨(S l : Int) - sub l, l, rfl, rfl, by omega, hp, rfl, fun i hi hi2 => ?_, fun i hi hi2 => ?_⟩
        · by_cases e : i = l
          · rw [e]; omega
          · rw [q i (by omega)] at hi2; cases hi2
        · rw [q i (by omega)] at hi2; cases hi2
      · rw [bsS_some, arS_some]
        by_cases hd : (S l : Int) - sub l ≤ c
        · rw [if_pos hd, if_pos hd]
          refine ⟨c, j, rfl, rfl, by omega, q2, q3, fun i hi hi2 => ?_, q5⟩
          by_cases e : i = l
          · rw [e]; exact hd
          · exact q4 i (by omega) hi2
        · rw [if_neg hd, if_neg hd]
          refine ⟨(S l : Int) - sub l, l, rfl, rfl, by omega, hp, rfl, fun i hi hi2 => ?_, fun i hi hi2 => ?_⟩
          · by_cases e : i = l
            · rw [e]; omega
            · have := q4 i (by omega) hi2; omega
          · have := q4 i hi hi2
            omega
    · rw [if_neg hp, if_neg hp]
      have hpf : P l = false := by
        cases h : P l with
        | false => rfl
        | true => exact absurd h hp
      rcases q with ⟨q0, q1, q⟩ | ⟨c, j, q0, q00, q1, q2, q3, q4, q5⟩
      · refine Or.inl ⟨q0, q1, fun i hi => ?_⟩
        by_cases e : i = l
        · rw [e]; exact hpf
        · exact q i (by omega)
      · refine Or.inr ⟨c, j, q0, q00, by omega, q2, q3, fun i hi hi2 => ?_, q5⟩
        by_cases e : i = l
        · rw [e, hpf] at hi2; cases hi2
        · exact q4 i (by omega) hi2
section GMD
variable {cs r0 : Nat} {M : Mm} {S : Nat → Nat} {T : Nat}
theorem cft8 {n0 : Nat} {b : Option Int} {a : Int32} (hM : ∀ l, l < 5 → M (cs + 11) l = nI (S l)) (hS : ∀ l, l < 5 → S l ≤ T) (hT : T ≤ 1000000) (hn0 : n0 ≤ 5) (hb : -7000000 ≤ b.getD 0 ∧ b.getD 0 ≤ 7000000) (hA : arI S (fun l => gmF S n0 (mnP (avP S 0) l)) (avP S 0) 5 b a) : ∀ (k l n : Nat), l + k = 5 → k < n → (∀ c j, b = some c → a = nI j → j < 5 → l ≤ j) → f_X0_firstTaken_L8 cs r0 n (nI (n0 + 1)) (wI (b.getD 0)) (nI l) M = some (a, M) := by
  intro k
  induction k with
  | zero =>
    intro l n hl hn hj
    obtain ⟨n, rfl⟩ : ∃ m, n = m + 1 := ⟨n - 1, by omega⟩
    rw [f_X0_firstTaken_L8, nlit 5, ifle (by omega) (by omega), if_pos (by omega)]
    rcases hA with ⟨-, rfl, -⟩ | ⟨c, j, rfl, rfl, q1, -⟩
    · rfl
    · have := hj c j rfl rfl q1
      omega
  | succ k ih =>
    intro l n hl hn hj
    obtain ⟨n, rfl⟩ : ∃ m, n = m + 1 := ⟨n - 1, by omega⟩
    have hSl := hS l (by omega)
    obtain ⟨b1, b2, b3⟩ := bit4 l (by omega)
    have ea : f_X0_aheadBy (cs + 11) 5 8 (nI (2 ^ l)) (nI n0) M = some (wI (gmF S n0 (mnP (avP S 0) l))) := by
      rw [cah hM hS hT n0 8 (2 ^ l) (by omega) (by omega) b2]
      congr 2
      refine gmF_cong S n0 (fun i hi => ?_)
      show (decide (0 < S i) && !((2 ^ l).testBit i)) = ((decide (0 < S i) && !(Nat.testBit 0 i)) && decide (i ≠ l))
      rw [b3 i hi]
      by_cases e : i = l
      · simp [e]
      · simp [e]
    have v := v_bd hS hT (show n0 ≤ 6 by omega) (avP S 0) (show l < 5 by omega)
    rw [f_X0_firstTaken_L8, nlit 5, ifle (by omega) (by omega), if_neg (by omega), ck_nI (by omega) (by omega), ck_nI (by omega) (by omega), cl_nI (by omega), hM l (by omega), b1, show nI (n0 + 1) - (1 : Int32) = nI n0 from nI_pred n0, ea, Option.bind_some]
    unfold f_X0_firstTaken_J48
    rw [bnd_e, nI_1]
    have hle : nI (S l) ≤ 0 ↔ S l ≤ 0 := nI_leI (b := 0) (by omega) (by omega)
    have heq : nI (S l) - wI (gmF S n0 (mnP (avP S 0) l)) = wI (b.getD 0) ↔ (S l : Int) - gmF S n0 (mnP (avP S 0) l) = b.getD 0 := by rw [wI_n, wI_sub]; exact wI_eq (by omega) (by omega)
    rw [ite_iff hle, ite_iff heq]
    have hp : avP S 0 l = true ↔ ¬ S l ≤ 0 := by
      show (decide (0 < S l) && !(Nat.testBit 0 l)) = true ↔ _
      simp
      omega
    rcases hA with ⟨rfl, rfl, q⟩ | ⟨c, j, rfl, rfl, q1, q2, q3, q4, q5⟩
    · have h0 : S l ≤ 0 := Decidable.by_contra (fun h => by
        have := q l (by omega)
        rw [hp.mpr h] at this
        cases this)
      rw [if_pos h0]
      exact ih (l + 1) n (by omega) (by omega) (fun c j h => by cases h)
    · have hlj := hj c j rfl rfl q1
      by_cases e : l = j
      · subst e
        rw [if_neg (hp.mp q2), if_pos (show (S l : Int) - gmF S n0 (mnP (avP S 0) l) = (some c).getD 0 from q3)]
      · have hne : ∀ (c' : Int) (j' : Nat), some c = some c' → nI j = nI j' → j' < 5 → l + 1 ≤ j' := fun c' j' _ h2 h3 => by
          have := (nI_eq (by omega) (by omega)).mp h2
          omega
        by_cases h0 : S l ≤ 0
        · rw [if_pos h0]
          exact ih (l + 1) n (by omega) (by omega) hne
        · rw [if_neg h0, if_neg (show ¬ (S l : Int) - gmF S n0 (mnP (avP S 0) l) = (some c).getD 0 from q5 l (by omega) (hp.mpr h0))]
          exact ih (l + 1) n (by omega) (by omega) hne
theorem csum2 {tu : Nat → Nat} {R : Rg} (hP : R 0 0 ≤ 24) (hcs : r0 + 9 ≤ cs) : ∀ (k i n : Nat) (M : Mm), i + k = 5 → k < n → CRing M r0 tu R → ∃ M', f_X0_sumLanes_L2 cs r0 n (nI i) M = some M' ∧ (∀ j, i ≤ j → j < 5 → M' (cs + 11) j = nI (smF (R (10 + j)) (R 0 0))) ∧ (∀ j, j < i → M' (cs + 11) j = M (cs + 11) j) ∧ ∀ q, q ≠ cs + 11 → M' q = M q := by
  intro k
  induction k with
  | zero =>
    intro i n M hi hn h
    obtain ⟨n, rfl⟩ : ∃ m, n = m + 1 := ⟨n - 1, by omega⟩
    refine ⟨M, ?_, fun j h1 h2 => by omega, fun _ _ => rfl, fun _ _ => rfl⟩
    rw [f_X0_sumLanes_L2, nlit 5, ifle (by omega) (by omega), if_pos (by omega)]
  | succ k ih =>
    intro i n M hi hn h
    obtain ⟨n, rfl⟩ : ∃ m, n = m + 1 := ⟨n - 1, by omega⟩
    obtain ⟨M', e, a1, a2, a3⟩ := ih (i + 1) n (up2 M (cs + 11) i (nI (smF (R (10 + i)) (R 0 0)))) (by omega) (by omega) (h.mono (fun q q1 q2 => up2_o _ _ _ (by omega)))
    refine ⟨M', ?_, fun j h1 h2 => ?_, fun j hj => ?_, fun q hq => by rw [a3 q hq, up2_o _ _ _ hq]⟩
    · rw [f_X0_sumLanes_L2, nlit 5, ifle (by omega) (by omega), if_neg (by omega), lumpsIn_ok h (by omega) hP, Option.bind_some, ck_nI (by omega) (by omega), bnd_e, bnd_e, cl_nI (by omega), nI_1]
      exact e
    · by_cases hj : j = i
      · subst hj
        rw [a2 j (by omega), up2_at, if_pos ⟨rfl, rfl⟩]
      · exact a1 j (by omega) h2
    · rw [a2 j (by omega), up2_at, if_neg (by omega)]
end GMD
