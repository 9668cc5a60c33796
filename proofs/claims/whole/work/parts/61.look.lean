/-! the reference's tokens -/
theorem b01_iff {p q : Prop} [Decidable p] [Decidable q] (h : p ↔ q) : b01 p = b01 q := by
  unfold b01
  exact ite_iff h _ _
theorem anF_false' {f : Nat → Bool} {i : Nat} (h : anF f i = false) : ∀ {n : Nat}, i ≤ n → anF f n = false := by
  intro n
  induction n with
  | zero =>
    intro hi
    have e : i = 0 := by omega
    rw [e] at h
    exact h
  | succ n ih =>
    intro hi
    by_cases e : i = n + 1
    · rw [← e]; exact h
    · rw [anF, ih (by omega), Bool.false_and]
def TY (M : Mm) (y n : Nat) (c : Nat → Nat) : Prop := n ≤ 250 ∧ M y 18 = nI n ∧ ∀ i, i < n → c i < 256 ∧ M (y + 11) i = nI (c i)
theorem TY.mono {M M' : Mm} {y n : Nat} {c : Nat → Nat} (h : TY M y n c) (h1 : M' y 18 = M y 18) (h2 : M' (y + 11) = M (y + 11)) : TY M' y n c := ⟨h.1, h1.trans h.2.1, fun i hi => ⟨(h.2.2 i hi).1, by rw [h2]; exact (h.2.2 i hi).2⟩⟩
def TKY (M : Mm) (y n : Nat) (c : Nat → Nat) (p : Nat) : Prop := M y 19 = nI (stT c n p) ∧ M y 20 = nI (enT c n p - stT c n p) ∧ M y 21 = nI (kdT c n p) ∧ (kdT c n p = 2 → M y 22 = nI (vlT c n p))
theorem small_ok (M : Mm) {b : Nat} (hb : b < 256) : f_X12_isSmall (nI b) M = some (b01 (kdB b = 1)) := by
  unfold f_X12_isSmall
  have h : ((97 : Int32) ≤ nI b ∧ nI b ≤ 122) ↔ kdB b = 1 := by
    rw [nlit 97, nlit 122, nI_leI (by omega) (by omega), nI_leI (by omega) (by omega)]
    unfold kdB
    by_cases q : 97 ≤ b ∧ b ≤ 122
    · rw [if_pos q]; exact ⟨fun _ => rfl, fun _ => q⟩
    · rw [if_neg q]
      refine ⟨fun w => absurd w q, fun w => ?_⟩
      split at w
      · omega
      · split at w <;> omega
  rw [show (97 : Int64) = (97 : Int32).toInt64 from rfl, show (122 : Int64) = (122 : Int32).toInt64 from rfl, in_ok, Option.bind_some, cb_b01, b01_iff h]
theorem figure_ok (M : Mm) {b : Nat} (hb : b < 256) : f_X12_isFigure (nI b) M = some (b01 (kdB b = 2)) := by
  unfold f_X12_isFigure
  have h : ((48 : Int32) ≤ nI b ∧ nI b ≤ 57) ↔ kdB b = 2 := by
    rw [nlit 48, nlit 57, nI_leI (by omega) (by omega), nI_leI (by omega) (by omega)]
    refine ⟨fun q => ?_, fun q => kdB2 q⟩
    unfold kdB
    rw [if_neg (by omega), if_pos q]
  rw [show (48 : Int64) = (48 : Int32).toInt64 from rfl, show (57 : Int64) = (57 : Int32).toInt64 from rfl, in_ok, Option.bind_some, cb_b01, b01_iff h]
theorem lk5 {y n : Nat} {c : Nat → Nat} : ∀ (f i fuel : Nat) (M : Mm), i + f = n → f < fuel → TY M y n c → M y 19 = nI i → ∃ M', f_X12_look_L5 y fuel M = f_X12_look_J43 y M' ∧ M' y 19 = nI (skF c i f) ∧ (∀ j, j ≠ 19 → M' y j = M y j) ∧ ∀ q, q ≠ y → M' q = M q := by
  intro f
  induction f with
  | zero =>
    intro i fuel M hi hf hT h3
    obtain ⟨fuel, rfl⟩ : ∃ m, fuel = m + 1 := ⟨fuel - 1, by omega⟩
    have hn := hT.1
    refine ⟨M, ?_, h3, fun _ _ => rfl, fun _ _ => rfl⟩
    rw [f_X12_look_L5, hT.2.1, h3, ifle (by omega) (by omega), if_pos (show n ≤ i by omega)]
  | succ f ih =>
    intro i fuel M hi hf hT h3
    obtain ⟨fuel, rfl⟩ : ∃ m, fuel = m + 1 := ⟨fuel - 1, by omega⟩
    have hn := hT.1
    obtain ⟨hc, hb⟩ := hT.2.2 i (by omega)
    rw [f_X12_look_L5, hT.2.1, h3, ifle (by omega) (by omega), if_neg (show ¬ n ≤ i by omega), ck_nI (by omega) (by omega), cl_nI (by omega), hb, nlit 32, ifeq (by omega) (by omega), bnd_e, nI_1, skF]
    by_cases hq : c i = 32
    · rw [if_pos hq, if_pos hq]
      obtain ⟨M', e, a1, a2, a3⟩ := ih (i + 1) fuel (up2 M y 19 (nI (i + 1))) (by omega) (by omega) (hT.mono (by rw [up2_at, if_neg (by omega)]) (up2_o _ _ _ (by omega))) (by rw [up2_at, if_pos ⟨rfl, rfl⟩])
      exact ⟨M', e, a1, fun j hj => by rw [a2 j hj, up2_at, if_neg (by omega)], fun q hq => by rw [a3 q hq, up2_o _ _ _ hq]⟩
    · rw [if_neg hq, if_neg hq]
      exact ⟨M, rfl, h3, fun _ _ => rfl, fun _ _ => rfl⟩
theorem lk274 {y k L : Nat} {M : Mm} (h1 : M y 21 = nI k) (h2 : M y 20 = nI L) (hk : k ≤ 4) (hL : L ≤ 250) : ∃ M', f_X12_look_J274 y M = some M' ∧ M' y 21 = nI (if k = 2 ∧ 3 < L then 4 else k) ∧ (∀ j, j ≠ 21 → M' y j = M y j) ∧ ∀ q, q ≠ y → M' q = M q := by
  unfold f_X12_look_J274 f_X12_look_J295 f_X12_look_J299
  rw [h1, h2, nlit 2, nlit 3, ifeq (by omega) (by omega), ifle (by omega) (by omega), bnd_e, bnd_e]
  by_cases h : k = 2
  · rw [if_pos h]
    by_cases h' : L ≤ 3
    · rw [if_pos h', if_neg (by omega)]
      exact ⟨_, rfl, by rw [up2_at, if_pos ⟨rfl, rfl⟩], fun j hj => by rw [up2_at, if_neg (by omega)], fun q hq => up2_o _ _ _ hq⟩
    · rw [if_neg h', if_pos (by omega)]
      refine ⟨_, rfl, ?_, fun j hj => by rw [up2_at, if_neg (by omega)], fun q hq => up2_o _ _ _ hq⟩
      rw [up2_at, if_pos ⟨rfl, rfl⟩]
      rfl
  · rw [if_neg h, if_neg (fun q => h q.1)]
    exact ⟨_, rfl, by rw [up2_at, if_pos ⟨rfl, rfl⟩], fun j hj => by rw [up2_at, if_neg (by omega)], fun q hq => up2_o _ _ _ hq⟩
theorem lk218n {y k L : Nat} {M : Mm} (h1 : M y 21 = nI k) (h2 : M y 20 = nI L) (hk : k ≤ 4) (hk2 : k ≠ 2) (hL : L ≤ 250) : f_X12_look_L218 y 2000 (0 : Int32) M = f_X12_look_J274 y M := by
  rw [show (2000 : Nat) = 1999 + 1 from rfl, f_X12_look_L218, h1, h2, nlit 2, ifeq (by omega) (by omega), if_neg hk2]
  split
  · rfl
  · split <;> rfl
theorem lk218 {y n s L : Nat} {c : Nat → Nat} (hs : s + L ≤ n) : ∀ (k j v fuel : Nat) (M : Mm), j + k = (if L ≤ 3 then L else 3) → k < fuel → TY M y n c → M y 19 = nI s → M y 20 = nI L → M y 21 = nI 2 → M y 22 = nI v → (∀ i, s ≤ i → i < s + L → 48 ≤ c i ∧ c i ≤ 57) → ∃ M', f_X12_look_L218 y fuel (nI j) M = f_X12_look_J274 y M' ∧ M' y 22 = nI (vaF c (s + j) v k) ∧ (∀ i, i ≠ 22 → M' y i = M y i) ∧ ∀ q, q ≠ y → M' q = M q := by
  intro k
  induction k with
  | zero =>
    intro j v fuel M hj hf hT h19 h20 h21 h22 hd
    obtain ⟨fuel, rfl⟩ : ∃ m, fuel = m + 1 := ⟨fuel - 1, by omega⟩
    have hn := hT.1
    refine ⟨M, ?_, h22, fun _ _ => rfl, fun _ _ => rfl⟩
    rw [f_X12_look_L218, h20, nlit 3, ifle (by split at hj <;> omega) (by split at hj <;> omega), ifle (by omega) (by split at hj <;> omega)]
    by_cases h : L ≤ j
    · rw [if_pos h]
    · rw [if_neg h]
      split at hj
      · omega
      · rw [if_pos (by omega)]
  | succ k ih =>
    intro j v fuel M hj hf hT h19 h20 h21 h22 hd
    obtain ⟨fuel, rfl⟩ : ∃ m, fuel = m + 1 := ⟨fuel - 1, by omega⟩
    have hn := hT.1
    have hjL : j < L ∧ j < 3 := by split at hj <;> omega
    obtain ⟨hc, hb⟩ := hT.2.2 (s + j) (by omega)
    have h0 := hd (s + j) (by omega) (by omega)
    obtain ⟨M', e, a1, a2, a3⟩ := ih (j + 1) (10 * v + (c (s + j) - 48)) fuel (up2 M y 22 (nI (10 * v + (c (s + j) - 48)))) (by omega) (by omega) (hT.mono (by rw [up2_at, if_neg (by omega)]) (up2_o _ _ _ (by omega))) (by rw [up2_at, if_neg (by omega)]; exact h19) (by rw [up2_at, if_neg (by omega)]; exact h20) (by rw [up2_at, if_neg (by omega)]; exact h21) (by rw [up2_at, if_pos ⟨rfl, rfl⟩]) hd
    refine ⟨M', ?_, by rw [a1, vaF]; rfl, fun i hi => by rw [a2 i hi, up2_at, if_neg (by omega)], fun q hq => by rw [a3 q hq, up2_o _ _ _ hq]⟩
    rw [f_X12_look_L218, h20, nlit 3, ifle (by omega) (by omega), if_neg (by omega), ifle (by omega) (by omega), if_neg (by omega), h21, if_pos (show nI 2 = (2 : Int32) from rfl), h19, nI_add, ck_nI (by omega) (by omega), cl_nI (by omega), hb, h22, bnd_e, bnd_e, nlit 10, pk_mul, nI_add, nlit 48, pk_sub (by omega), nI_1, show 10 * v + c (s + j) - 48 = 10 * v + (c (s + j) - 48) by omega]
    exact e
theorem lk136 {y n s k : Nat} {c : Nat → Nat} (hk : k = 1 ∨ k = 2) : ∀ (f i fuel : Nat) (M : Mm), i + f = n → f + 1 < fuel → s ≤ i → TY M y n c → M y 19 = nI s → M y 20 = nI (i - s) → M y 21 = nI k → ∃ M', f_X12_look_L136 y fuel (1 : Int32) M = f_X12_look_J215 y M' ∧ M' y 20 = nI (ruF c k i f - s) ∧ (∀ j, j ≠ 20 → M' y j = M y j) ∧ ∀ q, q ≠ y → M' q = M q := by
  have n10 : ¬ (1 : Int32) = 0 := by decide
  intro f
  induction f with
  | zero =>
    intro i fuel M hi hf hs hT h19 h20 h21
    obtain ⟨fuel, rfl⟩ : ∃ m, fuel = m + 1 := ⟨fuel - 1, by omega⟩
    have hn := hT.1
    refine ⟨M, ?_, h20, fun _ _ => rfl, fun _ _ => rfl⟩
    rw [f_X12_look_L136, if_neg n10, hT.2.1, h19, h20, nI_add, ifle (by omega) (by omega), if_pos (by omega)]
  | succ f ih =>
    intro i fuel M hi hf hs hT h19 h20 h21
    obtain ⟨fuel, rfl⟩ : ∃ m, fuel = m + 1 := ⟨fuel - 1, by omega⟩
    have hn := hT.1
    obtain ⟨hc, hb⟩ := hT.2.2 i (by omega)
    have key : ∃ M', f_X12_look_J193 y (b01 (kdB (c i) = k)) M (fun x3 M => f_X12_look_L136 y fuel x3 M) = f_X12_look_J215 y M' ∧ M' y 20 = nI (ruF c k i (f + 1) - s) ∧ (∀ j, j ≠ 20 → M' y j = M y j) ∧ ∀ q, q ≠ y → M' q = M q := by
      unfold f_X12_look_J193 f_X12_look_J208
      rw [ite_b01, bnd_e, bnd_e, h20, nI_1, Int32.add_zero, ruF]
      by_cases hq : kdB (c i) = k
      · rw [if_pos hq, if_pos hq]
        obtain ⟨M', e, a1, a2, a3⟩ := ih (i + 1) fuel (up2 M y 20 (nI (i + 1 - s))) (by omega) (by omega) (by omega) (hT.mono (by rw [up2_at, if_neg (by omega)]) (up2_o _ _ _ (by omega))) (by rw [up2_at, if_neg (by omega)]; exact h19) (by rw [up2_at, if_pos ⟨rfl, rfl⟩]) (by rw [up2_at, if_neg (by omega)]; exact h21)
        refine ⟨M', ?_, a1, fun j hj => by rw [a2 j hj, up2_at, if_neg (by omega)], fun q hq => by rw [a3 q hq, up2_o _ _ _ hq]⟩
        unfold b01
        rw [if_pos hq, show i - s + 1 = i + 1 - s by omega]
        exact e
      · rw [if_neg hq, if_neg hq]
        obtain ⟨fuel, rfl⟩ : ∃ m, fuel = m + 1 := ⟨fuel - 1, by omega⟩
        refine ⟨up2 M y 20 (nI (i - s)), ?_, by rw [up2_at, if_pos ⟨rfl, rfl⟩], fun j hj => by rw [up2_at, if_neg (by omega)], fun q hq => up2_o _ _ _ hq⟩
        unfold b01
        rw [if_neg hq]
        show f_X12_look_L136 y (fuel + 1) (0 : Int32) (up2 M y 20 (nI (i - s))) = _
        rw [f_X12_look_L136, if_pos rfl]
    obtain ⟨M', e, r⟩ := key
    refine ⟨M', ?_, r⟩
    rw [f_X12_look_L136, if_neg n10, hT.2.1, h19, h20, nI_add, ifle (by omega) (by omega), if_neg (by omega), ck_nI (by omega) (by omega), cl_nI (by omega), show s + (i - s) = i by omega, hb, bnd_e, small_ok M hc, figure_ok M hc, Option.bind_some, Option.bind_some, h21, show (1 : Int32) = nI 1 from rfl, ifeq (by omega) (by omega)]
    rcases hk with h | h
    · rw [if_pos h]
      rw [h] at e
      exact e
    · rw [if_neg (by omega)]
      rw [h] at e
      exact e
theorem look_ok {y n p : Nat} {c : Nat → Nat} {M : Mm} (hT : TY M y n c) (hp : p ≤ n) : ∃ M', f_X12_look y (nI p) M = some M' ∧ TKY M' y n c p ∧ (∀ j, j ≠ 19 → j ≠ 20 → j ≠ 21 → j ≠ 22 → M' y j = M y j) ∧ ∀ q, q ≠ y → M' q = M q := by
  have hn := hT.1
  have hs := stT_le c hp
  have he := enT_le c hp
  obtain ⟨M1, e1, a1, a2, a3⟩ := lk5 (y := y) (c := c) (n - p) p 2000 (up2 M y 19 (nI p)) (by omega) (by omega) (hT.mono (by rw [up2_at, if_neg (by omega)]) (up2_o _ _ _ (by omega))) (by rw [up2_at, if_pos ⟨rfl, rfl⟩])
  have a1' : M1 y 19 = nI (stT c n p) := a1
  generalize hM5 : up2 (up2 (up2 M1 y 20 (nI 0)) y 21 (nI 0)) y 22 (nI 0) = M5
  have k5 : ∀ q, q ≠ y → M5 q = M q := fun q hq => by rw [← hM5, up2_o _ _ _ hq, up2_o _ _ _ hq, up2_o _ _ _ hq, a3 q hq, up2_o _ _ _ hq]
  have j5 : ∀ j, j ≠ 19 → j ≠ 20 → j ≠ 21 → j ≠ 22 → M5 y j = M y j := fun j q1 q2 q3 q4 => by rw [← hM5, up2_at, if_neg (by omega), up2_at, if_neg (by omega), up2_at, if_neg (by omega), a2 j q1, up2_at, if_neg (by omega)]
  have b19 : M5 y 19 = nI (stT c n p) := by rw [← hM5, up2_at, if_neg (by omega), up2_at, if_neg (by omega), up2_at, if_neg (by omega), a1']
  have b20 : M5 y 20 = nI 0 := by rw [← hM5, up2_at, if_neg (by omega), up2_at, if_neg (by omega), up2_at, if_pos ⟨rfl, rfl⟩]
  have b21 : M5 y 21 = nI 0 := by rw [← hM5, up2_at, if_neg (by omega), up2_at, if_pos ⟨rfl, rfl⟩]
  have b22 : M5 y 22 = nI 0 := by rw [← hM5, up2_at, if_pos ⟨rfl, rfl⟩]
  have hT5 : TY M5 y n c := hT.mono (j5 _ (by omega) (by omega) (by omega) (by omega)) (k5 _ (by omega))
  have ep : f_X12_look y (nI p) M = f_X12_look_J43 y M1 := by
    unfold f_X12_look
    rw [bnd_e, e1]
  rw [ep]
  unfold f_X12_look_J43
  rw [bnd_e, bnd_e, bnd_e, show (0 : Int32) = nI 0 from rfl, hM5, b19, hT5.2.1, ifeq (by omega) (by omega)]
  by_cases h0 : stT c n p = n
  · have ek : kdT c n p = 0 := by unfold kdT; rw [if_pos h0]
    have ee : enT c n p = stT c n p := by unfold enT; rw [if_pos h0]
    rw [if_pos h0]
    refine ⟨M5, rfl, ⟨b19, by rw [ee, Nat.sub_self]; exact b20, by rw [ek]; exact b21, fun q => by omega⟩, j5, k5⟩
  · obtain ⟨hc, hb⟩ := hT5.2.2 (stT c n p) (by omega)
    have hkb := kdB_le (c (stT c n p))
    have ek : kdT c n p = if kdB (c (stT c n p)) = 2 ∧ 3 < enT c n p - stT c n p then 4 else kdB (c (stT c n p)) := by unfold kdT; rw [if_neg h0]
    have key : ∃ M', f_X12_look_J114 y (nI (kdB (c (stT c n p)))) M5 = some M' ∧ TKY M' y n c p ∧ (∀ j, j ≠ 19 → j ≠ 20 → j ≠ 21 → j ≠ 22 → M' y j = M y j) ∧ ∀ q, q ≠ y → M' q = M q := by
      generalize hM6 : up2 (up2 M5 y 21 (nI (kdB (c (stT c n p))))) y 20 (nI 1) = M6
      have k6 : ∀ q, q ≠ y → M6 q = M q := fun q hq => by rw [← hM6, up2_o _ _ _ hq, up2_o _ _ _ hq, k5 q hq]
      have j6 : ∀ j, j ≠ 20 → j ≠ 21 → M6 y j = M5 y j := fun j q1 q2 => by rw [← hM6, up2_at, if_neg (by omega), up2_at, if_neg (by omega)]
      have d19 : M6 y 19 = nI (stT c n p) := by rw [j6 _ (by omega) (by omega)]; exact b19
      have d20 : M6 y 20 = nI 1 := by rw [← hM6, up2_at, if_pos ⟨rfl, rfl⟩]
      have d21 : M6 y 21 = nI (kdB (c (stT c n p))) := by rw [← hM6, up2_at, if_neg (by omega), up2_at, if_pos ⟨rfl, rfl⟩]
      have d22 : M6 y 22 = nI 0 := by rw [j6 _ (by omega) (by omega)]; exact b22
      have hT6 : TY M6 y n c := hT5.mono (j6 _ (by omega) (by omega)) (by rw [k6 _ (by omega), k5 _ (by omega)])
      unfold f_X12_look_J114 f_X12_look_J135
      rw [bnd_e, bnd_e, show (1 : Int32) = nI 1 from rfl, hM6, d21, nlit 3, ifle (by omega) (by omega)]
      by_cases hk : kdB (c (stT c n p)) = 1 ∨ kdB (c (stT c n p)) = 2
      · have ee : enT c n p = ruF c (kdB (c (stT c n p))) (stT c n p + 1) (n - (stT c n p + 1)) := by unfold enT; rw [if_neg h0, if_pos hk]
        obtain ⟨M7, e7, g1, g2, g3⟩ := lk136 (y := y) (c := c) (s := stT c n p) hk (n - (stT c n p + 1)) (stT c n p + 1) 2000 M6 (by omega) (by omega) (by omega) hT6 d19 (by rw [d20]; congr 1; omega) d21
        rw [← ee] at g1
        rw [if_neg (by omega), show nI 1 = (1 : Int32) from rfl, e7]
        unfold f_X12_look_J215
        have hT7 : TY M7 y n c := hT6.mono (g2 _ (by omega)) (g3 _ (by omega))
        by_cases h2 : kdB (c (stT c n p)) = 2
        · have hd : ∀ i, stT c n p ≤ i → i < stT c n p + (enT c n p - stT c n p) → 48 ≤ c i ∧ c i ≤ 57 := fun i i1 i2 => by
            apply kdB2
            by_cases e : i = stT c n p
            · rw [e]; exact h2
            · rw [h2] at ee
              exact ruF_run c 2 (n - (stT c n p + 1)) (stT c n p + 1) i (by omega) (by omega)
          obtain ⟨M8, e8, i1, i2, i3⟩ := lk218 (y := y) (c := c) (s := stT c n p) (L := enT c n p - stT c n p) (show stT c n p + (enT c n p - stT c n p) ≤ n by omega) (if enT c n p - stT c n p ≤ 3 then enT c n p - stT c n p else 3) 0 0 2000 M7 (by omega) (by split <;> omega) hT7 (by rw [g2 _ (by omega)]; exact d19) g1 (by rw [g2 _ (by omega), d21, h2]) (by rw [g2 _ (by omega)]; exact d22) hd
          obtain ⟨M9, e9, l1, l2, l3⟩ := lk274 (y := y) (k := 2) (L := enT c n p - stT c n p) (M := M8) (by rw [i2 _ (by omega), g2 _ (by omega), d21, h2]) (by rw [i2 _ (by omega)]; exact g1) (by omega) (by omega)
          refine ⟨M9, e8.trans e9, ⟨?_, ?_, ?_, fun hkt => ?_⟩, fun j q1 q2 q3 q4 => ?_, fun q hq => by rw [l3 q hq, i3 q hq, g3 q hq, k6 q hq]⟩
          · rw [l2 _ (by omega), i2 _ (by omega), g2 _ (by omega)]; exact d19
          · rw [l2 _ (by omega), i2 _ (by omega)]; exact g1
          · rw [l1, ek, h2]
          · have hle := (num_dig c hkt).2.1
            rw [l2 _ (by omega), i1, if_pos hle]
            rfl
          · rw [l2 j q3, i2 j q4, g2 j q2, j6 j q2 q3, j5 j q1 q2 q3 q4]
        · obtain ⟨M9, e9, l1, l2, l3⟩ := lk274 (y := y) (k := kdB (c (stT c n p))) (L := enT c n p - stT c n p) (M := M7) (by rw [g2 _ (by omega)]; exact d21) g1 (by omega) (by omega)
          have e8 := lk218n (y := y) (k := kdB (c (stT c n p))) (L := enT c n p - stT c n p) (M := M7) (by rw [g2 _ (by omega)]; exact d21) g1 (by omega) h2 (by omega)
          refine ⟨M9, e8.trans e9, ⟨?_, ?_, ?_, fun hkt => ?_⟩, fun j q1 q2 q3 q4 => ?_, fun q hq => by rw [l3 q hq, g3 q hq, k6 q hq]⟩
          · rw [l2 _ (by omega), g2 _ (by omega)]; exact d19
          · rw [l2 _ (by omega)]; exact g1
          · rw [l1, ek]
          · exact absurd (num_dig c hkt).2.2.2 h2
          · rw [l2 j q3, g2 j q2, j6 j q2 q3, j5 j q1 q2 q3 q4]
      · have ee : enT c n p = stT c n p + 1 := by unfold enT; rw [if_neg h0, if_neg hk]
        have e7 : f_X12_look_L136 y 2000 (nI 0) M6 = f_X12_look_J215 y M6 := by
          rw [show (2000 : Nat) = 1999 + 1 from rfl, f_X12_look_L136, if_pos (show nI 0 = (0 : Int32) from rfl)]
        rw [if_pos (by omega), show (0 : Int32) = nI 0 from rfl, e7]
        unfold f_X12_look_J215
        have hl : enT c n p - stT c n p = 1 := by omega
        have e8 := lk218n (y := y) (k := kdB (c (stT c n p))) (L := 1) (M := M6) d21 d20 (by omega) (by omega) (by omega)
        obtain ⟨M9, e9, l1, l2, l3⟩ := lk274 (y := y) (k := kdB (c (stT c n p))) (L := 1) (M := M6) d21 d20 (by omega) (by omega)
        refine ⟨M9, e8.trans e9, ⟨?_, ?_, ?_, fun hkt => ?_⟩, fun j q1 q2 q3 q4 => ?_, fun q hq => by rw [l3 q hq, k6 q hq]⟩
        · rw [l2 _ (by omega)]; exact d19
        · rw [l2 _ (by omega), hl]; exact d20
        · rw [l1, ek, hl]
        · exact absurd (Or.inr (num_dig c hkt).2.2.2) hk
        · rw [l2 j q3, j6 j q2 q3, j5 j q1 q2 q3 q4]
    rw [if_neg h0, ck_nI (by omega) (by omega), cl_nI (by omega), hb, bnd_e, small_ok M5 hc, Option.bind_some, figure_ok M5 hc, Option.bind_some, show nI 0 = (0 : Int32) from rfl, ite_b01, ite_b01, nlit 59, ifeq (by omega) (by omega)]
    have e1 : f_X12_look_J114 y (1 : Int32) M5 = f_X12_look_J114 y (nI 1) M5 := rfl
    by_cases h1 : kdB (c (stT c n p)) = 1
    · rw [if_pos h1]
      rw [h1] at key
      exact key
    · rw [if_neg h1]
      by_cases h2 : kdB (c (stT c n p)) = 2
      · rw [if_pos h2]
        rw [h2] at key
        exact key
      · rw [if_neg h2]
        by_cases h3 : c (stT c n p) = 59
        · have : kdB (c (stT c n p)) = 3 := by rw [h3]; decide
          rw [if_pos h3]
          rw [this] at key
          exact key
        · have : kdB (c (stT c n p)) = 4 := by
            unfold kdB at h1 h2 ⊢
            by_cases q1 : 97 ≤ c (stT c n p) ∧ c (stT c n p) ≤ 122
            · rw [if_pos q1] at h1; exact absurd rfl h1
            · rw [if_neg q1] at h2 ⊢
              by_cases q2 : 48 ≤ c (stT c n p) ∧ c (stT c n p) ≤ 57
              · rw [if_pos q2] at h2; exact absurd rfl h2
              · rw [if_neg q2, if_neg h3]
          rw [if_neg h3]
          rw [this] at key
          exact key
theorem mgoOn_ok {y n p : Nat} {c : Nat → Nat} {M : Mm} (hT : TY M y n c) (hK : TKY M y n c p) (hp : p ≤ n) : ∃ M', f_X12_goOn y M = some M' ∧ TKY M' y n c (enT c n p) ∧ (∀ j, j ≠ 19 → j ≠ 20 → j ≠ 21 → j ≠ 22 → M' y j = M y j) ∧ ∀ q, q ≠ y → M' q = M q := by
  have he := enT_le c hp
  obtain ⟨M', e, r⟩ := look_ok (p := enT c n p) hT he.2.1
  refine ⟨M', ?_, r⟩
  unfold f_X12_goOn
  rw [hK.1, hK.2.1, nI_add, show stT c n p + (enT c n p - stT c n p) = enT c n p by omega, e, Option.bind_some]
theorem mw39 {y n p w : Nat} {c : Nat → Nat} {M : Mm} (hT : TY M y n c) (hK : TKY M y n c p) (hp : p ≤ n) (hw : w < 4) (hlen : enT c n p - stT c n p = wN w) : ∀ (k i fuel : Nat), i + k = wN w → k < fuel → f_X12_isWord_L39 y M fuel (nI (wC w 0)) (nI (wC w 1)) (nI (wC w 2)) (nI (wC w 3)) (nI (wC w 4)) (nI (wN w)) (if anF (fun i => decide (c (stT c n p + i) = wC w i)) i then 1 else 0) (nI i) = some (if anF (fun i => decide (c (stT c n p + i) = wC w i)) (wN w) then 1 else 0) := by
  have he := enT_le c hp
  have hn := hT.1
  obtain ⟨w1, w2, w3, w4⟩ := wN_ok w hw
  intro k
  induction k with
  | zero =>
    intro i fuel hi hf
    obtain ⟨fuel, rfl⟩ : ∃ m, fuel = m + 1 := ⟨fuel - 1, by omega⟩
    have e : i = wN w := by omega
    subst e
    rw [f_X12_isWord_L39, ifle (by omega) (by omega), if_pos (by omega)]
    cases anF (fun i => decide (c (stT c n p + i) = wC w i)) (wN w) <;> rfl
  | succ k ih =>
    intro i fuel hi hf
    obtain ⟨fuel, rfl⟩ : ∃ m, fuel = m + 1 := ⟨fuel - 1, by omega⟩
    obtain ⟨hc, hb⟩ := hT.2.2 (stT c n p + i) (by omega)
    obtain ⟨v1, v2⟩ := w4 i (by omega)
    have ih' := ih (i + 1) fuel (by omega) (by omega)
    rw [anF] at ih'
    rw [f_X12_isWord_L39, ifle (by omega) (by omega), if_neg (by omega), boolI]
    cases ha : anF (fun i => decide (c (stT c n p + i) = wC w i)) i with
    | false =>
      rw [anF_false' ha (by omega)]
      rfl
    | true =>
      rw [ha, Bool.true_and] at ih'
      simp only [if_true]
      have key : f_X12_isWord_J105 y M (nI (wC w 0)) (nI (wC w 1)) (nI (wC w 2)) (nI (wC w 3)) (nI (wC w 4)) (nI (wN w)) (nI i) (nI (c (stT c n p + i))) (nI (wC w i)) (fun x1 x2 x3 x4 x5 x6 x7 x8 => f_X12_isWord_L39 y M fuel x1 x2 x3 x4 x5 x6 x7 x8) = some (if anF (fun i => decide (c (stT c n p + i) = wC w i)) (wN w) then 1 else 0) := by
        unfold f_X12_isWord_J105 f_X12_isWord_J113
        rw [ifeq (by omega) (by omega), bnd_e, bnd_e, nI_1]
        by_cases hq : c (stT c n p + i) = wC w i
        · rw [if_pos hq]
          rw [decide_eq_true hq] at ih'
          exact ih'
        · rw [if_neg hq]
          rw [decide_eq_false hq] at ih'
          exact ih'
      rw [hK.1, nI_add, ck_nI (by omega) (by omega), cl_nI (by omega), hb]
      rcases (show i = 0 ∨ i = 1 ∨ i = 2 ∨ i = 3 ∨ i = 4 by omega) with rfl | rfl | rfl | rfl | rfl
      · exact key
      · exact key
      · exact key
      · exact key
      · exact key
theorem mword_ok {y n p w : Nat} {c : Nat → Nat} {M : Mm} (hT : TY M y n c) (hK : TKY M y n c p) (hp : p ≤ n) (hw : w < 4) : f_X12_isWord y (nI (wC w 0)) (nI (wC w 1)) (nI (wC w 2)) (nI (wC w 3)) (nI (wC w 4)) M = some (if wdT c n p w then 1 else 0) := by
  have he := enT_le c hp
  have hn := hT.1
  have hk := kdT_le c n p
  obtain ⟨w1, w2, w3, w4⟩ := wN_ok w hw
  have hz : f_X12_isWord y (nI (wC w 0)) (nI (wC w 1)) (nI (wC w 2)) (nI (wC w 3)) (nI (wC w 4)) M = f_X12_isWord_J10 y M (nI (wC w 0)) (nI (wC w 1)) (nI (wC w 2)) (nI (wC w 3)) (nI (wC w 4)) (nI (wN w)) := by
    rcases (show w = 0 ∨ w = 1 ∨ w = 2 ∨ w = 3 by omega) with rfl | rfl | rfl | rfl <;> rfl
  have h33 : f_X12_isWord_J33 y M (nI (wC w 0)) (nI (wC w 1)) (nI (wC w 2)) (nI (wC w 3)) (nI (wC w 4)) (nI (wN w)) = some 0 := by
    unfold f_X12_isWord_J33 f_X12_isWord_J34
    rw [show (2000 : Nat) = 1999 + 1 from rfl, f_X12_isWord_L39, show (0 : Int32) = nI 0 from rfl, ifle (by omega) (by omega), if_neg (by omega), if_pos rfl]
    rfl
  rw [hz]
  unfold f_X12_isWord_J10 wdT
  rw [hK.2.2.1, show (1 : Int32) = nI 1 from rfl, ifeq (by omega) (by omega), hK.2.1, ifeq (by omega) (by omega), h33]
  by_cases h1 : kdT c n p = 1
  · rw [if_pos h1]
    by_cases h2 : enT c n p - stT c n p = wN w
    · rw [if_pos h2]
      unfold f_X12_isWord_J34
      have := mw39 hT hK hp hw h2 (wN w) 0 2000 (by omega) (by omega)
      refine Eq.trans this ?_
      simp [h1, h2]
      rfl
    · rw [if_neg h2]
      simp [h2]
  · rw [if_neg h1]
    simp [h1]
