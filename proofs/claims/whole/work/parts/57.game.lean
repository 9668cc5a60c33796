/-! game, the reference's side -/
def rv (X : Int32) : Option Int → Int32
  | none => X
  | some c => wI c
theorem rv_some (X : Int32) (c : Int) : rv X (some c) = wI c := rfl
abbrev btP (s : Nat) : Nat → Bool := fun i => s.testBit i
abbrev sbF (S : Nat → Nat) (t s : Nat) : Nat → Int := fun l => gmF S t (mnP (btP s) l)
section GMM
variable {y : Nat} {S : Nat → Nat} {T : Nat}
theorem mls {M : Mm} {R : Rg} (hM : MRing M (y + 1) 0 R) (hP : R 0 0 ≤ 24) {l : Nat} (hl : l < 5) : f_X12_laneSum y (nI l) M = some (nI (smF (R (10 + l)) (R 0 0))) := by
  unfold f_X12_laneSum
  rw [mplaces_ok, Option.bind_some, hM.1, nlit 6, nlit 24, pk_mul, nI_add, sumOf_ok (g := R (10 + l)) (by omega) (by omega) (fun j hj => by
    have := hM.2.2.1 l j hl (by omega)
    rw [Nat.zero_add, if_pos hj] at this
    exact this), Option.bind_some]
theorem mg143' {M : Mm} {t s : Nat} {X : Int32} (kb96 : Int32 → Int32 → Int32 → Int32 → Int32 → Mm → Option (Int32 × Mm)) (kb105 : Int32 → Int32 → Int32 → Int32 → Int32 → Int32 → Mm → Option (Int32 × Mm)) (x1 x2 x3 x4 : Int32) (hL : ∀ l, l < 5 → f_X12_laneSum y (nI l) M = some (nI (S l))) (hS : ∀ l, l < 5 → S l ≤ T) (hT : T ≤ 1000000) (hs : s < 32) (ht : t ≤ 5) (hrow : ∀ s', s' < 32 → M (y + 10) (32 * t + s') = wI (gmF S t (btP s'))) (hX : ∀ l, l < 5 → s.testBit l = true → X = wI (-100000000)) : ∀ (k l n : Nat) (b : Option Int) (a : Int32), l + k = 5 → k < n → (∀ c, b = some c → -7000000 ≤ c ∧ c ≤ 7000000) → f_X12_game_L143 y kb96 kb105 n x1 x2 x3 x4 (nI (t + 1)) (nI s) (rv X b) a (nI l) M = kb105 x1 x2 x3 (if nI (t + 1) = x1 ∧ nI s = x3 then arF S (sbF S t s) (btP s) l b a k else x4) (nI (t + 1)) (nI (s + 1)) (up2 M (y + 10) (32 * (t + 1) + s) (rv X (bsF S (sbF S t s) (btP s) l b k))) := by
  intro k
  induction k with
  | zero =>
    intro l n b a hl hn hb
    obtain ⟨n, rfl⟩ : ∃ m, n = m + 1 := ⟨n - 1, by omega⟩
    rw [f_X12_game_L143, nlit 5, ifle (by omega) (by omega), if_pos (by omega), nlit 32, pk_mul, nI_add, ck_nI (by omega) (by omega), bnd_e, cl_nI (by omega)]
    unfold f_X12_game_J288 f_X12_game_J290
    rw [bnd_e, bnd_e, nI_1, bsF, arF]
    by_cases h1 : nI (t + 1) = x1
    · rw [if_pos h1]
      by_cases h2 : nI s = x3
      · rw [if_pos h2, if_pos ⟨h1, h2⟩]
      · rw [if_neg h2, if_neg (fun q => h2 q.2)]
    · rw [if_neg h1, if_neg (fun q => h1 q.1)]
  | succ k ih =>
    intro l n b a hl hn hb
    obtain ⟨n, rfl⟩ : ∃ m, n = m + 1 := ⟨n - 1, by omega⟩
    have hSl := hS l (by omega)
    have hb1 := (bit1 s hs l (by omega)).2
    rw [f_X12_game_L143, nlit 5, ifle (by omega) (by omega), if_neg (by omega), bsF, arF]
    unfold f_X12_game_J165 f_X12_game_J206 f_X12_game_J225 f_X12_game_J227 f_X12_game_J246 f_X12_game_J248
    rw [bnd_e, nI_1]
    have n10 : ¬ (1 : Int32) = 0 := by decide
    by_cases hbt : s.testBit l = true
    · obtain ⟨b3, b4⟩ := bit3 s hs l (by omega) hbt
      have es : gmF S t (btP (s - 2 ^ l)) = sbF S t s l := gmF_cong S t (fun i hi => b4 i hi)
      have vv : -7000000 ≤ (S l : Int) - sbF S t s l ∧ (S l : Int) - sbF S t s l ≤ 7000000 := v_bd hS hT (show t ≤ 6 by omega) (btP s) (show l < 5 by omega)
      obtain ⟨v1, v2⟩ := vv
      have hXX := hX l (by omega) hbt
      have hsl : s - 2 ^ l < 32 := Nat.lt_of_le_of_lt (Nat.sub_le _ _) hs
      have hp : btP s l = true := hbt
      rw [if_pos (hb1.mpr hbt), if_neg n10, hL l (by omega), Option.bind_some, b3, show nI (t + 1) - (1 : Int32) = nI t from nI_pred t, nlit 32, pk_mul, nI_add, ck_nI (by omega) (by omega), cl_nI (by omega), hrow _ (by omega), wI_n (S l), wI_sub, es, if_neg n10, if_pos hp, if_pos hp, if_neg n10, if_neg n10, bnd_e, bnd_e, bnd_e]
      cases b with
      | none =>
        have hq : ¬ wI ((S l : Int) - sbF S t s l) ≤ rv X none := by
          show ¬ wI ((S l : Int) - sbF S t s l) ≤ X
          rw [hXX, wI_le (by omega) (by omega)]
          omega
        rw [if_neg hq, if_neg hq]
        exact ih (l + 1) n (some ((S l : Int) - sbF S t s l)) (nI l) (by omega) (by omega) (fun c hc => by cases hc; exact ⟨v1, v2⟩)
      | some c =>
        obtain ⟨c1, c2⟩ := hb c rfl
        have hz : wI ((S l : Int) - sbF S t s l) ≤ rv X (some c) ↔ (S l : Int) - sbF S t s l ≤ c := wI_le (by omega) (by omega)
        rw [bsS_some, arS_some]
        by_cases hq : (S l : Int) - sbF S t s l ≤ c
        · rw [if_pos (hz.mpr hq), if_pos (hz.mpr hq), if_pos hq, if_pos hq]
          exact ih (l + 1) n (some c) a (by omega) (by omega) hb
        · rw [if_neg (fun q => hq (hz.mp q)), if_neg (fun q => hq (hz.mp q)), if_neg hq, if_neg hq]
          exact ih (l + 1) n (some ((S l : Int) - sbF S t s l)) (nI l) (by omega) (by omega) (fun c hc => by cases hc; exact ⟨v1, v2⟩)
    · have hp : ¬ btP s l = true := hbt
      rw [if_neg (fun q => hbt (hb1.mp q)), if_pos rfl, if_pos rfl, if_pos rfl, if_neg hp, if_neg hp]
      exact ih (l + 1) n b a (by omega) (by omega) hb
theorem bs_none {sub : Nat → Int} {P : Nat → Bool} (hP : ∀ i, i < 5 → P i = false) : ∀ (k l : Nat) (b : Option Int), l + k = 5 → bsF S sub P l b k = b := by
  intro k
  induction k with
  | zero => intro l b h; rfl
  | succ k ih =>
    intro l b h
    rw [bsF, hP l (by omega)]
    exact ih _ _ (by omega)
theorem bs_some {sub : Nat → Int} {P : Nat → Bool} : ∀ (k l : Nat) (b : Option Int), l + k = 5 → (b.isSome ∨ ∃ i, l ≤ i ∧ i < 5 ∧ P i = true) → (bsF S sub P l b k).isSome = true := by
  intro k
  induction k with
  | zero =>
    intro l b h q
    rcases q with q | ⟨i, h1, h2, -⟩
    · exact q
    · omega
  | succ k ih =>
    intro l b h q
    rw [bsF]
    refine ih _ _ (by omega) ?_
    by_cases hp : P l = true
    · rw [if_pos hp]
      left
      cases b with
      | none => rfl
      | some c =>
        rw [bsS_some]
        split <;> rfl
    · rw [if_neg hp]
      rcases q with q | ⟨i, h1, h2, h3⟩
      · exact Or.inl q
      · right
        refine ⟨i, ?_, h2, h3⟩
        by_cases e : i = l
        · rw [e] at h3; exact absurd h3 hp
        · omega
theorem gm_empty {P : Nat → Bool} (hP : ∀ i, i < 5 → P i = false) : ∀ t, gmF S t P = 0
  | 0 => rfl
  | t + 1 => by
    rw [gmF, bs_none hP 5 0 none (by omega)]
    rfl
theorem rv_gm {t s : Nat} {X : Int32} (hs : s < 32) (h0 : s = 0 → X = wI 0) : rv X (bsF S (sbF S t s) (btP s) 0 none 5) = wI (gmF S (t + 1) (btP s)) := by
  rw [gmF]
  by_cases e : s = 0
  · rw [bs_none (P := btP s) (fun i _ => by rw [e]; exact Nat.zero_testBit i) 5 0 none (by omega)]
    exact h0 e
  · obtain ⟨l, hl, hb⟩ := bit5 s hs e
    have := bs_some (S := S) (sub := sbF S t s) (P := btP s) 5 0 none (by omega) (Or.inr ⟨l, by omega, hl, hb⟩)
    cases hq : bsF S (sbF S t s) (btP s) 0 none 5 with
    | none => rw [hq] at this; cases this
    | some c =>
      rfl
/-- the lane that is told at last -/
def lnA (S : Nat → Nat) (n0 fu : Nat) : Int32 := arF S (sbF S (n0 - 1) fu) (btP fu) 0 none (-1 : Int32) 5
theorem mg105 {R : Rg} {t n0 fu : Nat} (kb96 : Int32 → Int32 → Int32 → Int32 → Int32 → Mm → Option (Int32 × Mm)) (x2 : Int32) (hP : R 0 0 ≤ 24) (hSR : ∀ l, l < 5 → S l = smF (R (10 + l)) (R 0 0)) (hS : ∀ l, l < 5 → S l ≤ T) (hT : T ≤ 1000000) (ht : t ≤ 5) (hn0 : n0 ≤ 6) (hfu : fu < 32) : ∀ (k s n : Nat) (M : Mm), s + k = 32 → k < n → MRing M (y + 1) 0 R → (∀ s', s' < 32 → M (y + 10) (32 * t + s') = wI (gmF S t (btP s'))) → (∀ s', s' < s → M (y + 10) (32 * (t + 1) + s') = wI (gmF S (t + 1) (btP s'))) → ∃ M', f_X12_game_L105 y kb96 n (nI n0) x2 (nI fu) (if t + 1 = n0 ∧ fu < s then lnA S n0 fu else -1) (nI (t + 1)) (nI s) M = kb96 (nI n0) x2 (nI fu) (if t + 1 = n0 then lnA S n0 fu else -1) (nI (t + 2)) M' ∧ (∀ s', s' < 32 → M' (y + 10) (32 * (t + 1) + s') = wI (gmF S (t + 1) (btP s'))) ∧ ∀ q, q ≠ y + 10 → M' q = M q := by
  intro k
  induction k with
  | zero =>
    intro s n M hk hn hM hr hu
    obtain ⟨n, rfl⟩ : ∃ m, n = m + 1 := ⟨n - 1, by omega⟩
    have e : s = 32 := by omega
    subst e
    refine ⟨M, ?_, hu, fun _ _ => rfl⟩
    rw [f_X12_game_L105, nlit 32, ifle (by omega) (by omega), if_pos (by omega), bnd_e, nI_1]
    congr 1
    by_cases h : t + 1 = n0
    · rw [if_pos h, if_pos ⟨h, hfu⟩]
    · rw [if_neg h, if_neg (fun q => h q.1)]
  | succ k ih =>
    intro s n M hk hn hM hr hu
    obtain ⟨n, rfl⟩ : ∃ m, n = m + 1 := ⟨n - 1, by omega⟩
    have hL : ∀ l, l < 5 → f_X12_laneSum y (nI l) M = some (nI (S l)) := fun l hl => by rw [hSR l hl]; exact mls hM hP hl
    have key : ∀ X : Int32, (s = 0 → X = wI 0) → (s ≠ 0 → X = wI (-100000000)) → ∃ M', f_X12_game_J135 y (nI n0) x2 (nI fu) (if t + 1 = n0 ∧ fu < s then lnA S n0 fu else -1) (nI (t + 1)) (nI s) X M kb96 (fun x1 x2 x3 x4 x5 x6 M => f_X12_game_L105 y kb96 n x1 x2 x3 x4 x5 x6 M) = kb96 (nI n0) x2 (nI fu) (if t + 1 = n0 then lnA S n0 fu else -1) (nI (t + 2)) M' ∧ (∀ s', s' < 32 → M' (y + 10) (32 * (t + 1) + s') = wI (gmF S (t + 1) (btP s'))) ∧ ∀ q, q ≠ y + 10 → M' q = M q := by
      intro X hX0 hX1
      have g := mg143' (y := y) (X := X) kb96 (fun x1 x2 x3 x4 x5 x6 M => f_X12_game_L105 y kb96 n x1 x2 x3 x4 x5 x6 M) (nI n0) x2 (nI fu) (if t + 1 = n0 ∧ fu < s then lnA S n0 fu else -1) hL hS hT (show s < 32 by omega) ht hr (fun l hl hb => hX1 (fun e => by rw [e, Nat.zero_testBit] at hb; cases hb)) 5 0 2000 none (-1 : Int32) (by omega) (by omega) (fun c hc => by cases hc)
      rw [rv_gm (by omega) hX0] at g
      have e4 : (if nI (t + 1) = nI n0 ∧ nI s = nI fu then arF S (sbF S t s) (btP s) 0 none (-1 : Int32) 5 else (if t + 1 = n0 ∧ fu < s then lnA S n0 fu else -1)) = if t + 1 = n0 ∧ fu < s + 1 then lnA S n0 fu else -1 := by
        by_cases h1 : t + 1 = n0
        · by_cases h2 : s = fu
          · rw [if_pos ⟨by rw [h1], by rw [h2]⟩, if_pos ⟨h1, by omega⟩, ← h1, ← h2]
            rfl
          · rw [if_neg (fun q => h2 ((nI_eq (by omega) (by omega)).mp q.2))]
            by_cases h3 : fu < s
            · rw [if_pos ⟨h1, h3⟩, if_pos ⟨h1, by omega⟩]
            · rw [if_neg (fun q => h3 q.2), if_neg (fun q => by omega)]
        · rw [if_neg (fun q => h1 ((nI_eq (by omega) (by omega)).mp q.1)), if_neg (fun q => h1 q.1), if_neg (fun q => h1 q.1)]
      obtain ⟨M', e, a1, a2⟩ := ih (s + 1) n (up2 M (y + 10) (32 * (t + 1) + s) (wI (gmF S (t + 1) (btP s)))) (by omega) (by omega) (by
        unfold MRing MLum at hM ⊢
        rw [up2_o _ _ _ (by omega)]
        exact hM) (fun s' h => by rw [up2_at, if_neg (by omega)]; exact hr s' h) (fun s' h => by
        rw [up2_at]
        by_cases e : s' = s
        · rw [if_pos (by omega), e]
        · rw [if_neg (by omega)]; exact hu s' (by omega))
      refine ⟨M', ?_, a1, fun q hq => by rw [a2 q hq, up2_o _ _ _ hq]⟩
      refine Eq.trans g ?_
      rw [← e, ← e4]
    rw [f_X12_game_L105, nlit 32, ifle (by omega) (by omega), if_neg (by omega), show (0 : Int32) = nI 0 from rfl, ifeq (by omega) (by omega)]
    by_cases h0 : s = 0
    · rw [if_pos h0, show nI (t + 1) - (1 : Int32) = nI t from nI_pred t, pk_mul, ck_nI (by omega) (by omega), cl_nI (by omega)]
      have g0 : M (y + 10) (32 * t) = wI 0 := by
        have := hr 0 (by omega)
        rw [Nat.add_zero, gm_empty (P := btP 0) (fun i _ => Nat.zero_testBit i)] at this
        exact this
      rw [g0]
      exact key (-wI 0) (fun _ => by decide) (fun h => absurd h0 h)
    · rw [if_neg h0]
      exact key (-100000000 : Int32) (fun h => absurd h h0) (fun _ => by decide)
theorem mg96 {R : Rg} {n0 fu : Nat} (x2 : Int32) (hP : R 0 0 ≤ 24) (hSR : ∀ l, l < 5 → S l = smF (R (10 + l)) (R 0 0)) (hS : ∀ l, l < 5 → S l ≤ T) (hT : T ≤ 1000000) (hn0 : n0 ≤ 6) (hfu : fu < 32) : ∀ (k t n : Nat) (M : Mm), t + k = n0 → k < n → MRing M (y + 1) 0 R → (∀ s', s' < 32 → M (y + 10) (32 * t + s') = wI (gmF S t (btP s'))) → ∃ M', f_X12_game_L96 y n (nI n0) x2 (nI fu) (if t = n0 then lnA S n0 fu else -1) (nI (t + 1)) M = some (if x2 = 0 then wI (gmF S n0 (btP fu)) else lnA S n0 fu, M') ∧ ∀ q, q ≠ y + 10 → M' q = M q := by
  intro k
  induction k with
  | zero =>
    intro t n M hk hn hM hr
    obtain ⟨n, rfl⟩ : ∃ m, n = m + 1 := ⟨n - 1, by omega⟩
    have e : t = n0 := by omega
    subst e
    refine ⟨M, ?_, fun _ _ => rfl⟩
    rw [f_X12_game_L96, iflt (by omega) (by omega), if_pos (by omega), nlit 32, pk_mul, nI_add, ck_nI (by omega) (by omega), cl_nI (by omega), hr fu hfu, if_pos rfl]
    split <;> rfl
  | succ k ih =>
    intro t n M hk hn hM hr
    obtain ⟨n, rfl⟩ : ∃ m, n = m + 1 := ⟨n - 1, by omega⟩
    obtain ⟨M1, e1, a1, a2⟩ := mg105 (y := y) (t := t) (n0 := n0) (fu := fu) (fun x1 x2 x3 x4 x5 M => f_X12_game_L96 y n x1 x2 x3 x4 x5 M) x2 hP hSR hS hT (by omega) hn0 hfu 32 0 2000 M (by omega) (by omega) hM hr (fun s' h => absurd h (Nat.not_lt_zero s'))
    obtain ⟨M2, e2, b2⟩ := ih (t + 1) n M1 (by omega) (by omega) (by
      unfold MRing MLum at hM ⊢
      rw [a2 _ (by omega)]
      exact hM) a1
    refine ⟨M2, ?_, fun q hq => by rw [b2 q hq, a2 q hq]⟩
    rw [f_X12_game_L96, iflt (by omega) (by omega), if_neg (by omega), if_neg (show ¬ t = n0 by omega)]
    rw [if_neg (show ¬ (t + 1 = n0 ∧ fu < 0) by omega)] at e1
    exact e1.trans e2
theorem mg72 (x1 x2 x3 x4 : Int32) : ∀ (k s n : Nat) (M : Mm), s + k = 32 → k < n → ∃ M', f_X12_game_L72 y n x1 x2 x3 x4 (nI s) M = f_X12_game_L96 y 2000 x1 x2 x3 x4 (nI 1) M' ∧ (∀ j, s ≤ j → j < 32 → M' (y + 10) j = 0) ∧ (∀ j, j < s → M' (y + 10) j = M (y + 10) j) ∧ ∀ q, q ≠ y + 10 → M' q = M q := by
  intro k
  induction k with
  | zero =>
    intro s n M hk hn
    obtain ⟨n, rfl⟩ : ∃ m, n = m + 1 := ⟨n - 1, by omega⟩
    refine ⟨M, ?_, fun j h1 h2 => by omega, fun _ _ => rfl, fun _ _ => rfl⟩
    rw [f_X12_game_L72, nlit 32, ifle (by omega) (by omega), if_pos (by omega)]
    rfl
  | succ k ih =>
    intro s n M hk hn
    obtain ⟨n, rfl⟩ : ∃ m, n = m + 1 := ⟨n - 1, by omega⟩
    obtain ⟨M', e, a1, a2, a3⟩ := ih (s + 1) n (up2 M (y + 10) s 0) (by omega) (by omega)
    refine ⟨M', ?_, fun j h1 h2 => ?_, fun j hj => ?_, fun q hq => by rw [a3 q hq, up2_o _ _ _ hq]⟩
    · rw [f_X12_game_L72, nlit 32, ifle (by omega) (by omega), if_neg (by omega), ck_nI (by omega) (by omega), bnd_e, bnd_e, cl_nI (by omega), nI_1]
      exact e
    · by_cases h : j = s
      · subst h
        rw [a2 j (by omega), up2_at, if_pos ⟨rfl, rfl⟩]
      · exact a1 j (by omega) h2
    · rw [a2 j (by omega), up2_at, if_neg (by omega)]
def fuF (S : Nat → Nat) : Nat → Nat
  | 0 => 0
  | l + 1 => if 0 < S l then fuF S l ||| 2 ^ l else fuF S l
theorem fu_ok (S : Nat → Nat) : ∀ l, l ≤ 5 → fuF S l < 32 ∧ ∀ i, i < 5 → (fuF S l).testBit i = (decide (0 < S i) && decide (i < l))
  | 0, _ => ⟨by show 0 < 32; omega, fun i _ => by
    rw [fuF, Nat.zero_testBit]
    simp⟩
  | l + 1, h => by
    obtain ⟨h1, h2⟩ := fu_ok S l (by omega)
    obtain ⟨-, b2, b3⟩ := bit2 (fuF S l) h1 l (by omega)
    rw [fuF]
    by_cases h0 : 0 < S l
    · rw [if_pos h0]
      refine ⟨b2, fun i hi => ?_⟩
      rw [b3 i hi, h2 i hi]
      by_cases e : i = l
      · subst e; simp [h0]
      · have e2 : decide (i < l) = decide (i < l + 1) := decide_eq_decide.mpr (by omega)
        rw [e2, decide_eq_false e, Bool.or_false]
    · rw [if_neg h0]
      refine ⟨h1, fun i hi => ?_⟩
      rw [h2 i hi]
      by_cases e : i = l
      · subst e; simp [h0]
      · have : decide (i < l) = decide (i < l + 1) := decide_eq_decide.mpr (by omega)
        rw [this]
theorem mg34 {R : Rg} {M : Mm} (x1 x2 : Int32) (hP : R 0 0 ≤ 24) (hSR : ∀ l, l < 5 → S l = smF (R (10 + l)) (R 0 0)) (hS : ∀ l, l < 5 → S l ≤ T) (hT : T ≤ 1000000) (hM : MRing M (y + 1) 0 R) : ∀ (k l n : Nat), l + k = 5 → k < n → f_X12_game_L34 y n x1 x2 (nI (fuF S l)) (nI l) M = f_X12_game_L72 y 2000 x1 x2 (nI (fuF S 5)) (-1 : Int32) (nI 0) M := by
  intro k
  induction k with
  | zero =>
    intro l n hk hn
    obtain ⟨n, rfl⟩ : ∃ m, n = m + 1 := ⟨n - 1, by omega⟩
    have e : l = 5 := by omega
    subst e
    rw [f_X12_game_L34, nlit 5, ifle (by omega) (by omega), if_pos (by omega)]
    rfl
  | succ k ih =>
    intro l n hk hn
    obtain ⟨n, rfl⟩ : ∃ m, n = m + 1 := ⟨n - 1, by omega⟩
    have hSl := hS l (by omega)
    have hL : f_X12_laneSum y (nI l) M = some (nI (S l)) := by rw [hSR l (by omega)]; exact mls hM hP (by omega)
    obtain ⟨b1, -, -⟩ := bit2 (fuF S l) (fu_ok S l (by omega)).1 l (by omega)
    have hle : nI (S l) ≤ 0 ↔ S l ≤ 0 := nI_leI (b := 0) (by omega) (by omega)
    have ih' := ih (l + 1) n (by omega) (by omega)
    rw [fuF] at ih'
    rw [f_X12_game_L34, nlit 5, ifle (by omega) (by omega), if_neg (by omega), hL, Option.bind_some, ite_iff hle]
    unfold f_X12_game_J58
    rw [bnd_e, bnd_e, bnd_e, bnd_e, b1, Int32.or_zero, nI_1]
    by_cases h0 : S l ≤ 0
    · rw [if_pos h0]
      rw [if_neg (by omega)] at ih'
      exact ih'
    · rw [if_neg h0]
      rw [if_pos (by omega)] at ih'
      exact ih'
end GMM
section STF
variable {x y k : Nat} {M : Mm} {N : Ml}
theorem s_game (hy : y = x + 234) (hk : k < 320) (q0 q1 : Int32) (hI : IInv x y k M N) : ∃ (v : Int32) (M1 M2 : Mm), f_X11_game x q0 q1 M = some (v, M1) ∧ f_X12_game y q0 q1 M1 = some (v, M2) ∧ IInv x y (k + 5) M2 N := by
  obtain ⟨R, tu, c1, m1, s⟩ := hI.ring
  have hF := s.fok (by omega)
  have hP := hF.1
  have htot := s.2.2.2.2.2.2
  unfold f_X11_game f_X12_game f_X11_game_J19 f_X12_game_J22
  rw [within_ok, Option.bind_some, ite_b01]
  by_cases c : (1 : Int32) ≤ q0 ∧ q0 ≤ 6
  · rw [if_pos c, within_ok, Option.bind_some, ite_b01]
    by_cases d : (0 : Int32) ≤ q1 ∧ q1 ≤ 1
    · rw [if_pos d]
      obtain ⟨n0, hn1, hn2, rfl⟩ := in_nat2 (a := 1) (b := 6) (by omega) (by omega) c
      obtain ⟨w, hw, rfl⟩ := in_nat (b := 1) (by omega) d
      have hS : ∀ l, l < 5 → (fun l => smF (R (10 + l)) (R 0 0)) l ≤ 400000 := fun l hl => by
        have := smF_le (f := fun l => smF (R (10 + l)) (R 0 0)) hl
        unfold tot at htot
        show smF (R (10 + l)) (R 0 0) ≤ 400000
        omega
      generalize hSS : (fun l => smF (R (10 + l)) (R 0 0)) = S at hS
      have hSR : ∀ l, l < 5 → S l = smF (R (10 + l)) (R 0 0) := fun l _ => by rw [← hSS]
      obtain ⟨M1, e1, a1, -, a3⟩ := csum2 (cs := x + 204) (r0 := x + 7 + 1) (R := R) hP.2 (by omega) 5 0 2000 M (by omega) (by omega) c1
      have hM1 : ∀ l, l < 5 → M1 (x + 204 + 11) l = nI (S l) := fun l hl => by rw [a1 l (by omega) hl, hSR l hl]
      have ef : f_X0_farmerAhead (x + 204) (x + 7 + 1) (nI n0) M = some (wI (gmF S n0 (avP S 0)), M1) := by
        unfold f_X0_farmerAhead
        have es : f_X0_sumLanes (x + 204) (x + 7 + 1) M = some M1 := e1
        have ea := cah (a := x + 204 + 11) hM1 hS (by omega) n0 8 0 (by omega) (by omega) (by omega)
        rw [es, Option.bind_some, show (0 : Int32) = nI 0 from rfl, ea, Option.bind_some]
      obtain ⟨f1, f2⟩ := fu_ok S 5 (by omega)
      have hPP : ∀ i, i < 5 → avP S 0 i = btP (fuF S 5) i := fun i hi => by
        show (decide (0 < S i) && !(Nat.testBit 0 i)) = (fuF S 5).testBit i
        rw [f2 i hi, Nat.zero_testBit]
        simp [hi]
      have eg : gmF S n0 (avP S 0) = gmF S n0 (btP (fuF S 5)) := gmF_cong S n0 hPP
      obtain ⟨n1, rfl⟩ : ∃ m, n0 = m + 1 := ⟨n0 - 1, by omega⟩
      have hsub : ∀ i, i < 5 → avP S 0 i = true → gmF S n1 (mnP (avP S 0) i) = sbF S n1 (fuF S 5) i := fun i _ _ => gmF_cong S n1 (fun j hj => by unfold mnP; rw [hPP j hj])
      have hA := ar_inv (S := S) (sub := fun l => gmF S n1 (mnP (avP S 0) l)) (P := avP S 0) 5 0 none (-1 : Int32) (by omega) (Or.inl ⟨rfl, rfl, fun i hi => absurd hi (Nat.not_lt_zero i)⟩)
      have eA : arF S (fun l => gmF S n1 (mnP (avP S 0) l)) (avP S 0) 0 none (-1 : Int32) 5 = lnA S (n1 + 1) (fuF S 5) := arF_cong hPP hsub 5 0 none _ (by omega)
      rw [eA] at hA
      have e8 := cft8 (cs := x + 204) (r0 := x + 7 + 1) hM1 hS (by omega) (show n1 ≤ 5 by omega) (b := bsF S (fun l => gmF S n1 (mnP (avP S 0) l)) (avP S 0) 0 none 5) (g_bd hS (by omega) (show n1 + 1 ≤ 6 by omega) (avP S 0)) hA 5 0 2000 (by omega) (by omega) (fun c j _ _ _ => Nat.zero_le j)
      have ec : (if nI w = 0 then bd2 (f_X0_farmerAhead (x + 204) (x + 7 + 1) (nI (n1 + 1)) M) fun r16 M18 => some (r16, M18) else bd2 (f_X0_firstTaken (x + 204) (x + 7 + 1) (nI (n1 + 1)) M) fun r13 M15 => some (r13, M15)) = some (if nI w = 0 then wI (gmF S (n1 + 1) (btP (fuF S 5))) else lnA S (n1 + 1) (fuF S 5), M1) := by
        by_cases h0 : nI w = 0
        · rw [if_pos h0, if_pos h0, ef, bd2_some, eg]
        · unfold f_X0_firstTaken
          rw [if_neg h0, if_neg h0, ef, bd2_some]
          have e8' : f_X0_firstTaken_L8 (x + 204) (x + 7 + 1) 2000 (nI (n1 + 1)) (wI (gmF S (n1 + 1) (avP S 0))) 0 M1 = some (lnA S (n1 + 1) (fuF S 5), M1) := e8
          rw [e8', bd2_some]
      rw [ec]
      have m1' : MRing M1 (y + 1) 0 R := by
        unfold MRing MLum at m1 ⊢
        rw [a3 _ (by omega)]
        exact m1
      have g34 := mg34 (y := y) (nI (n1 + 1)) (nI w) hP.2 hSR hS (by omega) m1' 5 0 2000 (by omega) (by omega)
      obtain ⟨M2, e2, b1, -, b3⟩ := mg72 (y := y) (nI (n1 + 1)) (nI w) (nI (fuF S 5)) (-1 : Int32) 32 0 2000 M1 (by omega) (by omega)
      have m2 : MRing M2 (y + 1) 0 R := by
        unfold MRing MLum at m1' ⊢
        rw [b3 _ (by omega)]
        exact m1'
      obtain ⟨M3, e3, d3⟩ := mg96 (y := y) (n0 := n1 + 1) (nI w) hP.2 hSR hS (by omega) (by omega) f1 (n1 + 1) 0 2000 M2 (by omega) (by omega) m2 (fun s' h => by
        rw [Nat.mul_zero, Nat.zero_add, b1 s' (by omega) h]
        rfl)
      rw [if_neg (show ¬ 0 = n1 + 1 by omega)] at e3
      refine ⟨_, M1, M3, rfl, ?_, ?_⟩
      · rw [show (1 : Int64) = (1 : Int32).toInt64 from rfl, show (6 : Int64) = (6 : Int32).toInt64 from rfl, in_ok, Option.bind_some, ite_b01, if_pos c, show (0 : Int64) = (0 : Int32).toInt64 from rfl, in_ok, Option.bind_some, ite_b01, if_pos d]
        exact g34.trans (e2.trans e3)
      · exact hI.scratch hy (fun q hq => by rw [d3 q (by omega), b3 q (by omega), a3 q (by omega)]) (by rw [d3 _ (by omega), b3 _ (by omega), a3 _ (by omega)]) (by rw [d3 _ (by omega), b3 _ (by omega), a3 _ (by omega)])
    · rw [if_neg d, rj]
      refine ⟨_, _, _, rfl, ?_, hI.refused hy (w := 0) (by omega)⟩
      rw [show (1 : Int64) = (1 : Int32).toInt64 from rfl, show (6 : Int64) = (6 : Int32).toInt64 from rfl, in_ok, Option.bind_some, ite_b01, if_pos c, show (0 : Int64) = (0 : Int32).toInt64 from rfl, in_ok, Option.bind_some, ite_b01, if_neg d, bj]
  · rw [if_neg c, rj]
    refine ⟨_, _, _, rfl, ?_, hI.refused hy (w := 0) (by omega)⟩
    rw [show (1 : Int64) = (1 : Int32).toInt64 from rfl, show (6 : Int64) = (6 : Int32).toInt64 from rfl, in_ok, Option.bind_some, ite_b01, if_neg c, bj]
end STF
