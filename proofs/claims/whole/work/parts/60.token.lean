/-! tokens -/
def skF (c : Nat → Nat) (i : Nat) : Nat → Nat
  | 0 => i
  | k + 1 => if c i = 32 then skF c (i + 1) k else i
def kdB (b : Nat) : Nat := if 97 ≤ b ∧ b ≤ 122 then 1 else if 48 ≤ b ∧ b ≤ 57 then 2 else if b = 59 then 3 else 4
def ruF (c : Nat → Nat) (k i : Nat) : Nat → Nat
  | 0 => i
  | f + 1 => if kdB (c i) = k then ruF c k (i + 1) f else i
def stT (c : Nat → Nat) (n p : Nat) : Nat := skF c p (n - p)
def enT (c : Nat → Nat) (n p : Nat) : Nat := if stT c n p = n then stT c n p else if kdB (c (stT c n p)) = 1 ∨ kdB (c (stT c n p)) = 2 then ruF c (kdB (c (stT c n p))) (stT c n p + 1) (n - (stT c n p + 1)) else stT c n p + 1
def kdT (c : Nat → Nat) (n p : Nat) : Nat := if stT c n p = n then 0 else if kdB (c (stT c n p)) = 2 ∧ 3 < enT c n p - stT c n p then 4 else kdB (c (stT c n p))
def vaF (c : Nat → Nat) (s v : Nat) : Nat → Nat
  | 0 => v
  | k + 1 => vaF c (s + 1) (10 * v + (c s - 48)) k
def vlT (c : Nat → Nat) (n p : Nat) : Nat := vaF c (stT c n p) 0 (enT c n p - stT c n p)
theorem skF_le (c : Nat → Nat) : ∀ k i, i ≤ skF c i k ∧ skF c i k ≤ i + k
  | 0, i => ⟨Nat.le_refl i, Nat.le_refl i⟩
  | k + 1, i => by
    have := skF_le c k (i + 1)
    rw [skF]
    split <;> omega
theorem ruF_le (c : Nat → Nat) (k : Nat) : ∀ f i, i ≤ ruF c k i f ∧ ruF c k i f ≤ i + f
  | 0, i => ⟨Nat.le_refl i, Nat.le_refl i⟩
  | f + 1, i => by
    have := ruF_le c k f (i + 1)
    rw [ruF]
    split <;> omega
theorem kdB_le (b : Nat) : 1 ≤ kdB b ∧ kdB b ≤ 4 := by
  unfold kdB
  split
  · omega
  · split
    · omega
    · split <;> omega
theorem stT_le (c : Nat → Nat) {n p : Nat} (hp : p ≤ n) : p ≤ stT c n p ∧ stT c n p ≤ n := by
  have := skF_le c (n - p) p
  unfold stT
  omega
theorem enT_le (c : Nat → Nat) {n p : Nat} (hp : p ≤ n) : stT c n p ≤ enT c n p ∧ enT c n p ≤ n ∧ (kdT c n p ≠ 0 → stT c n p < enT c n p) := by
  have h1 := stT_le c hp
  unfold kdT enT
  by_cases h : stT c n p = n
  · rw [if_pos h, if_pos h]
    exact ⟨Nat.le_refl _, h1.2, fun q => absurd rfl q⟩
  · rw [if_neg h, if_neg h]
    have h2 := ruF_le c (kdB (c (stT c n p))) (n - (stT c n p + 1)) (stT c n p + 1)
    split
    · exact ⟨by omega, by omega, fun _ => by omega⟩
    · exact ⟨by omega, by omega, fun _ => by omega⟩
theorem kdT_le (c : Nat → Nat) (n p : Nat) : kdT c n p ≤ 4 := by
  have := kdB_le (c (stT c n p))
  unfold kdT
  split
  · omega
  · split <;> omega
theorem ruF_run (c : Nat → Nat) (k : Nat) : ∀ f i j, i ≤ j → j < ruF c k i f → kdB (c j) = k
  | 0, i, j, h1, h2 => absurd h2 (by show ¬ j < i; omega)
  | f + 1, i, j, h1, h2 => by
    rw [ruF] at h2
    by_cases h : kdB (c i) = k
    · rw [if_pos h] at h2
      by_cases e : j = i
      · rw [e]; exact h
      · exact ruF_run c k f (i + 1) j (by omega) h2
    · rw [if_neg h] at h2
      omega
theorem vaF_lt {c : Nat → Nat} : ∀ (k s v : Nat), (∀ j, s ≤ j → j < s + k → 48 ≤ c j ∧ c j ≤ 57) → vaF c s v k < (v + 1) * 10 ^ k
  | 0, s, v, _ => by
    rw [vaF]
    omega
  | k + 1, s, v, h => by
    have h0 := h s (by omega) (by omega)
    have := vaF_lt k (s + 1) (10 * v + (c s - 48)) (fun j h1 h2 => h j (by omega) (by omega))
    rw [vaF]
    have e : (10 * v + (c s - 48) + 1) * 10 ^ k ≤ (v + 1) * 10 * 10 ^ k := Nat.mul_le_mul_right _ (by omega)
    have e2 : (v + 1) * 10 * 10 ^ k = (v + 1) * 10 ^ (k + 1) := by rw [Nat.pow_succ, Nat.mul_assoc, Nat.mul_comm 10]
    omega
theorem kdB2 {b : Nat} (h : kdB b = 2) : 48 ≤ b ∧ b ≤ 57 := by
  unfold kdB at h
  split at h
  · omega
  · split at h
    · assumption
    · split at h <;> omega
/-- the figures of a number -/
theorem num_dig (c : Nat → Nat) {n p : Nat} (h : kdT c n p = 2) : (∀ j, stT c n p ≤ j → j < stT c n p + (enT c n p - stT c n p) → 48 ≤ c j ∧ c j ≤ 57) ∧ enT c n p - stT c n p ≤ 3 ∧ stT c n p ≠ n ∧ kdB (c (stT c n p)) = 2 := by
  unfold kdT at h
  by_cases h0 : stT c n p = n
  · rw [if_pos h0] at h; omega
  · rw [if_neg h0] at h
    have hk : kdB (c (stT c n p)) = 2 ∧ ¬ 3 < enT c n p - stT c n p := by
      by_cases q : kdB (c (stT c n p)) = 2 ∧ 3 < enT c n p - stT c n p
      · rw [if_pos q] at h; omega
      · rw [if_neg q] at h; exact ⟨h, fun w => q ⟨h, w⟩⟩
    refine ⟨fun j h1 h2 => ?_, by omega, h0, hk.1⟩
    apply kdB2
    by_cases e : j = stT c n p
    · rw [e]; exact hk.1
    · have he : enT c n p = ruF c 2 (stT c n p + 1) (n - (stT c n p + 1)) := by
        unfold enT
        rw [if_neg h0, if_pos (Or.inr hk.1), hk.1]
      have h3 := ruF_le c 2 (n - (stT c n p + 1)) (stT c n p + 1)
      exact ruF_run c 2 (n - (stT c n p + 1)) (stT c n p + 1) j (by omega) (by omega)
theorem vlT_lt (c : Nat → Nat) {n p : Nat} (h : kdT c n p = 2) : vlT c n p < 1000 := by
  obtain ⟨h1, h2, -, -⟩ := num_dig c h
  have := vaF_lt (enT c n p - stT c n p) (stT c n p) 0 h1
  unfold vlT
  have e : 10 ^ (enT c n p - stT c n p) ≤ 10 ^ 3 := Nat.pow_le_pow_right (by omega) h2
  have : (10 : Nat) ^ 3 = 1000 := by decide
  omega
/-! the class's side -/
def TX (M : Mm) (t n : Nat) (c : Nat → Nat) : Prop := n ≤ 250 ∧ M t 1 = nI n ∧ ∀ i, i < n → c i < 256 ∧ M (t + 1) i = nI (c i)
theorem TX.mono {M M' : Mm} {t n : Nat} {c : Nat → Nat} (h : TX M t n c) (h1 : M' t 1 = M t 1) (h2 : M' (t + 1) = M (t + 1)) : TX M' t n c := ⟨h.1, h1.trans h.2.1, fun i hi => ⟨(h.2.2 i hi).1, by rw [h2]; exact (h.2.2 i hi).2⟩⟩
theorem begun_ok (M : Mm) {b : Nat} (hb : b < 256) : f_X9_begunBy (nI b) M = some (nI (kdB b)) := by
  unfold f_X9_begunBy f_X9_begunBy_J14 f_X9_begunBy_J28 kdB
  rw [nlit 97, nlit 122, nlit 48, nlit 57, nlit 59, iflt (by omega) (by omega), iflt (by omega) (by omega), iflt (by omega) (by omega), iflt (by omega) (by omega), ifeq (by omega) (by omega)]
  by_cases h1 : 97 ≤ b ∧ b ≤ 122
  · rw [if_neg (by omega), if_neg (by omega), if_pos h1]
    rfl
  · rw [if_neg h1]
    have hJ : (if b < 48 then if b = 59 then some (3 : Int32) else some 4 else if 57 < b then if b = 59 then some 3 else some 4 else some 2) = some (nI (if 48 ≤ b ∧ b ≤ 57 then 2 else if b = 59 then 3 else 4)) := by
      by_cases h2 : 48 ≤ b ∧ b ≤ 57
      · rw [if_neg (by omega), if_neg (by omega), if_pos h2]
        rfl
      · rw [if_neg h2]
        by_cases h3 : b = 59
        · rw [if_pos h3, if_pos h3]
          rw [if_neg (by omega), if_pos (by omega)]
          rfl
        · rw [if_neg h3, if_neg h3]
          by_cases h4 : b < 48
          · rw [if_pos h4]; rfl
          · rw [if_neg h4, if_pos (by omega)]; rfl
    by_cases h2 : b < 97
    · rw [if_pos h2]; exact hJ
    · rw [if_neg h2, if_pos (by omega)]; exact hJ
theorem nt155 {t k s e : Nat} {M : Mm} (h2 : M t 2 = nI k) (h3 : M t 3 = nI s) (h4 : M t 4 = nI e) (hk : k ≤ 4) (hs : s ≤ e) (he : e ≤ 250) : ∃ M', f_X9_nextToken_J155 t M = some M' ∧ M' t 2 = nI (if k = 2 ∧ 3 < e - s then 4 else k) ∧ (∀ j, j ≠ 2 → M' t j = M t j) ∧ ∀ q, q ≠ t → M' q = M q := by
  unfold f_X9_nextToken_J155
  rw [h2, nlit 2, ifeq (by omega) (by omega), h3, h4, pk_sub hs, nlit 3, ifle (by omega) (by omega), bnd_e]
  by_cases h : k = 2
  · rw [if_pos h]
    by_cases h' : e - s ≤ 3
    · rw [if_pos h', if_neg (by omega)]
      exact ⟨M, rfl, h2, fun _ _ => rfl, fun _ _ => rfl⟩
    · rw [if_neg h', if_pos (by omega)]
      refine ⟨_, rfl, ?_, fun j hj => by rw [up2_at, if_neg (by omega)], fun q hq => up2_o _ _ _ hq⟩
      rw [up2_at, if_pos ⟨rfl, rfl⟩]
      rfl
  · rw [if_neg h, if_neg (fun q => h q.1)]
    exact ⟨M, rfl, h2, fun _ _ => rfl, fun _ _ => rfl⟩
theorem nt96 {t k s n : Nat} {c : Nat → Nat} (hk : k = 1 ∨ k = 2) : ∀ (f i fuel : Nat) (M : Mm), i + f = n → f < fuel → s ≤ i → TX M t n c → M t 2 = nI k → M t 3 = nI s → M t 4 = nI i → ∃ M', f_X9_nextToken_L96 t fuel M = some M' ∧ M' t 2 = nI (if k = 2 ∧ 3 < ruF c k i f - s then 4 else k) ∧ M' t 3 = nI s ∧ M' t 4 = nI (ruF c k i f) ∧ M' t 1 = M t 1 ∧ ∀ q, q ≠ t → M' q = M q := by
  intro f
  induction f with
  | zero =>
    intro i fuel M hi hf hs hT h2 h3 h4
    obtain ⟨fuel, rfl⟩ : ∃ m, fuel = m + 1 := ⟨fuel - 1, by omega⟩
    have hn := hT.1
    obtain ⟨M', e, a1, a2, a3⟩ := nt155 h2 h3 h4 (by omega) hs (by omega)
    refine ⟨M', ?_, a1, by rw [a2 _ (by omega)]; exact h3, by rw [a2 _ (by omega)]; exact h4, by rw [a2 _ (by omega)], a3⟩
    rw [f_X9_nextToken_L96]
    unfold f_X9_nextToken_J112
    rw [h2, show (1 : Int32) = nI 1 from rfl, nlit 2, ifeq (by omega) (by omega), ifeq (by omega) (by omega), hT.2.1, h4, ifle (by omega) (by omega), if_pos (show n ≤ i by omega), e]
    rcases hk with h | h
    · rw [if_pos h]
    · rw [if_neg (by omega), if_pos h]
  | succ f ih =>
    intro i fuel M hi hf hs hT h2 h3 h4
    obtain ⟨fuel, rfl⟩ : ∃ m, fuel = m + 1 := ⟨fuel - 1, by omega⟩
    have hn := hT.1
    obtain ⟨hc, hb⟩ := hT.2.2 i (by omega)
    have hkb := kdB_le (c i)
    have key : ∃ M', f_X9_nextToken_J112 t M (fun M => f_X9_nextToken_L96 t fuel M) = some M' ∧ M' t 2 = nI (if k = 2 ∧ 3 < ruF c k i (f + 1) - s then 4 else k) ∧ M' t 3 = nI s ∧ M' t 4 = nI (ruF c k i (f + 1)) ∧ M' t 1 = M t 1 ∧ ∀ q, q ≠ t → M' q = M q := by
      unfold f_X9_nextToken_J112
      rw [hT.2.1, h4, ifle (by omega) (by omega), if_neg (show ¬ n ≤ i by omega), ck_nI (by omega) (by omega), cl_nI (by omega), hb, begun_ok M hc, Option.bind_some, h2, ifeq (by omega) (by omega), bnd_e, nI_1, ruF]
      by_cases hq : kdB (c i) = k
      · rw [if_pos hq, if_pos hq]
        obtain ⟨M', e, a1, a2, a3, a4, a5⟩ := ih (i + 1) fuel (up2 M t 4 (nI (i + 1))) (by omega) (by omega) (by omega) (hT.mono (by rw [up2_at, if_neg (by omega)]) (up2_o _ _ _ (by omega))) (by rw [up2_at, if_neg (by omega)]; exact h2) (by rw [up2_at, if_neg (by omega)]; exact h3) (by rw [up2_at, if_pos ⟨rfl, rfl⟩])
        exact ⟨M', e, a1, a2, a3, by rw [a4, up2_at, if_neg (by omega)]; exact hT.2.1, fun q hq => by rw [a5 q hq, up2_o _ _ _ hq]⟩
      · rw [if_neg hq, if_neg hq]
        obtain ⟨M', e, a1, a2, a3⟩ := nt155 h2 h3 h4 (by omega) hs (by omega)
        exact ⟨M', e, a1, by rw [a2 _ (by omega)]; exact h3, by rw [a2 _ (by omega)]; exact h4, by rw [a2 _ (by omega), hT.2.1], a3⟩
    obtain ⟨M', e, r⟩ := key
    refine ⟨M', ?_, r⟩
    rw [f_X9_nextToken_L96, h2, show (1 : Int32) = nI 1 from rfl, nlit 2, ifeq (by omega) (by omega), ifeq (by omega) (by omega), e]
    rcases hk with h | h
    · rw [if_pos h]
    · rw [if_neg (by omega), if_pos h]
theorem nt8 {t n : Nat} {c : Nat → Nat} : ∀ (f i fuel : Nat) (M : Mm), i + f = n → f < fuel → TX M t n c → M t 3 = nI i → ∃ M', f_X9_nextToken_L8 t fuel M = f_X9_nextToken_J46 t M' ∧ M' t 3 = nI (skF c i f) ∧ (∀ j, j ≠ 3 → M' t j = M t j) ∧ ∀ q, q ≠ t → M' q = M q := by
  intro f
  induction f with
  | zero =>
    intro i fuel M hi hf hT h3
    obtain ⟨fuel, rfl⟩ : ∃ m, fuel = m + 1 := ⟨fuel - 1, by omega⟩
    have hn := hT.1
    refine ⟨M, ?_, h3, fun _ _ => rfl, fun _ _ => rfl⟩
    rw [f_X9_nextToken_L8, hT.2.1, h3, ifle (by omega) (by omega), if_pos (show n ≤ i by omega)]
  | succ f ih =>
    intro i fuel M hi hf hT h3
    obtain ⟨fuel, rfl⟩ : ∃ m, fuel = m + 1 := ⟨fuel - 1, by omega⟩
    have hn := hT.1
    obtain ⟨hc, hb⟩ := hT.2.2 i (by omega)
    rw [f_X9_nextToken_L8, hT.2.1, h3, ifle (by omega) (by omega), if_neg (show ¬ n ≤ i by omega), ck_nI (by omega) (by omega), cl_nI (by omega), hb, nlit 32, ifeq (by omega) (by omega), bnd_e, nI_1, skF]
    by_cases hq : c i = 32
    · rw [if_pos hq, if_pos hq]
      obtain ⟨M', e, a1, a2, a3⟩ := ih (i + 1) fuel (up2 M t 3 (nI (i + 1))) (by omega) (by omega) (hT.mono (by rw [up2_at, if_neg (by omega)]) (up2_o _ _ _ (by omega))) (by rw [up2_at, if_pos ⟨rfl, rfl⟩])
      exact ⟨M', e, a1, fun j hj => by rw [a2 j hj, up2_at, if_neg (by omega)], fun q hq => by rw [a3 q hq, up2_o _ _ _ hq]⟩
    · rw [if_neg hq, if_neg hq]
      exact ⟨M, rfl, h3, fun _ _ => rfl, fun _ _ => rfl⟩
/-- the class's current token is the one from p on -/
def TK (M : Mm) (t n : Nat) (c : Nat → Nat) (p : Nat) : Prop := M t 2 = nI (kdT c n p) ∧ M t 3 = nI (stT c n p) ∧ M t 4 = nI (enT c n p)
theorem ntok {t n p : Nat} {c : Nat → Nat} {M : Mm} (hT : TX M t n c) (h4 : M t 4 = nI p) (hp : p ≤ n) : ∃ M', f_X9_nextToken t M = some M' ∧ TK M' t n c p ∧ M' t 1 = M t 1 ∧ ∀ q, q ≠ t → M' q = M q := by
  have hn := hT.1
  obtain ⟨M1, e1, a1, a2, a3⟩ := nt8 (t := t) (c := c) (n - p) p 2000 (up2 M t 3 (nI p)) (by omega) (by omega) (hT.mono (by rw [up2_at, if_neg (by omega)]) (up2_o _ _ _ (by omega))) (by rw [up2_at, if_pos ⟨rfl, rfl⟩])
  have hs := stT_le c hp
  have he := enT_le c hp
  have a1' : M1 t 3 = nI (stT c n p) := a1
  have k1 : ∀ q, q ≠ t → M1 q = M q := fun q hq => by rw [a3 q hq, up2_o _ _ _ hq]
  have t1 : M1 t 1 = M t 1 := by rw [a2 _ (by omega), up2_at, if_neg (by omega)]
  generalize hM4 : up2 (up2 M1 t 4 (nI (stT c n p))) t 2 (nI 0) = M4
  have k4 : ∀ q, q ≠ t → M4 q = M q := fun q hq => by rw [← hM4, up2_o _ _ _ hq, up2_o _ _ _ hq, k1 q hq]
  have b1 : M4 t 1 = M t 1 := by rw [← hM4, up2_at, if_neg (by omega), up2_at, if_neg (by omega), t1]
  have b2 : M4 t 2 = nI 0 := by rw [← hM4, up2_at, if_pos ⟨rfl, rfl⟩]
  have b3 : M4 t 3 = nI (stT c n p) := by rw [← hM4, up2_at, if_neg (by omega), up2_at, if_neg (by omega), a1']
  have b4 : M4 t 4 = nI (stT c n p) := by rw [← hM4, up2_at, if_neg (by omega), up2_at, if_pos ⟨rfl, rfl⟩]
  have hT4 : TX M4 t n c := hT.mono b1 (k4 _ (by omega))
  have ep : f_X9_nextToken t M = if n ≤ stT c n p then f_X9_nextToken_L96 t 2000 M4 else ck (nI (stT c n p)) 250 (Option.bind (f_X9_begunBy (M4 (t + 1) (nI (stT c n p)).toNatClampNeg) M4) fun r19 => bnd (up2 M4 t 2 r19) fun M22 => bnd (up2 M22 t 4 ((M22 t 4) + (1 : Int32))) fun M23 => f_X9_nextToken_L96 t 2000 M23) := by
    unfold f_X9_nextToken
    rw [bnd_e, h4, e1]
    unfold f_X9_nextToken_J46
    rw [bnd_e, bnd_e, a1', show (0 : Int32) = nI 0 from rfl, hM4, b3, hT4.2.1, ifle (by omega) (by omega)]
  rw [ep]
  by_cases h0 : stT c n p = n
  · have ek : kdT c n p = 0 := by unfold kdT; rw [if_pos h0]
    have ee : enT c n p = stT c n p := by unfold enT; rw [if_pos h0]
    rw [if_pos (by omega)]
    obtain ⟨M', e, d1, d2, d3⟩ := nt155 b2 b3 b4 (by omega) (by omega) (by omega)
    rw [if_neg (by omega)] at d1
    refine ⟨M', ?_, ⟨by rw [ek]; exact d1, by rw [d2 _ (by omega)]; exact b3, by rw [ee, d2 _ (by omega)]; exact b4⟩, by rw [d2 _ (by omega)]; exact b1, fun q hq => by rw [d3 q hq, k4 q hq]⟩
    rw [show (2000 : Nat) = 1999 + 1 from rfl, f_X9_nextToken_L96, b2, show (1 : Int32) = nI 1 from rfl, nlit 2, ifeq (by omega) (by omega), ifeq (by omega) (by omega), if_neg (by omega), if_neg (by omega), e]
  · obtain ⟨hc, hb⟩ := hT4.2.2 (stT c n p) (by omega)
    have hkb := kdB_le (c (stT c n p))
    rw [if_neg (by omega), ck_nI (by omega) (by omega), cl_nI (by omega), hb, begun_ok M4 hc, Option.bind_some, bnd_e, bnd_e, up2_at, if_neg (by omega), b4, nI_1]
    generalize hM5 : up2 (up2 M4 t 2 (nI (kdB (c (stT c n p))))) t 4 (nI (stT c n p + 1)) = M5
    have k5 : ∀ q, q ≠ t → M5 q = M q := fun q hq => by rw [← hM5, up2_o _ _ _ hq, up2_o _ _ _ hq, k4 q hq]
    have d1 : M5 t 1 = M t 1 := by rw [← hM5, up2_at, if_neg (by omega), up2_at, if_neg (by omega), b1]
    have d2 : M5 t 2 = nI (kdB (c (stT c n p))) := by rw [← hM5, up2_at, if_neg (by omega), up2_at, if_pos ⟨rfl, rfl⟩]
    have d3 : M5 t 3 = nI (stT c n p) := by rw [← hM5, up2_at, if_neg (by omega), up2_at, if_neg (by omega), b3]
    have d4 : M5 t 4 = nI (stT c n p + 1) := by rw [← hM5, up2_at, if_pos ⟨rfl, rfl⟩]
    have ek : kdT c n p = if kdB (c (stT c n p)) = 2 ∧ 3 < enT c n p - stT c n p then 4 else kdB (c (stT c n p)) := by unfold kdT; rw [if_neg h0]
    by_cases hk : kdB (c (stT c n p)) = 1 ∨ kdB (c (stT c n p)) = 2
    · have ee : enT c n p = ruF c (kdB (c (stT c n p))) (stT c n p + 1) (n - (stT c n p + 1)) := by unfold enT; rw [if_neg h0, if_pos hk]
      obtain ⟨M', e, g1, g2, g3, g4, g5⟩ := nt96 (t := t) (c := c) (s := stT c n p) hk (n - (stT c n p + 1)) (stT c n p + 1) 2000 M5 (by omega) (by omega) (by omega) (hT.mono d1 (k5 _ (by omega))) d2 d3 d4
      rw [← ee] at g1 g3
      exact ⟨M', e, ⟨by rw [ek]; exact g1, g2, g3⟩, by rw [g4, d1], fun q hq => by rw [g5 q hq, k5 q hq]⟩
    · have ee : enT c n p = stT c n p + 1 := by unfold enT; rw [if_neg h0, if_neg hk]
      obtain ⟨M', e, g1, g2, g3⟩ := nt155 d2 d3 d4 (by omega) (by omega) (by omega)
      rw [← ee] at g1
      refine ⟨M', ?_, ⟨by rw [ek]; exact g1, by rw [g2 _ (by omega)]; exact d3, by rw [ee, g2 _ (by omega)]; exact d4⟩, by rw [g2 _ (by omega)]; exact d1, fun q hq => by rw [g3 q hq, k5 q hq]⟩
      rw [show (2000 : Nat) = 1999 + 1 from rfl, f_X9_nextToken_L96, d2, show (1 : Int32) = nI 1 from rfl, nlit 2, ifeq (by omega) (by omega), ifeq (by omega) (by omega), if_neg (by omega), if_neg (by omega), e]
theorem num17 {t n e : Nat} {c : Nat → Nat} {M : Mm} (hT : TX M t n c) (h4 : M t 4 = nI e) (he : e ≤ n) : ∀ (k i v fuel : Nat), i + k = e → k < fuel → (∀ j, i ≤ j → j < i + k → 48 ≤ c j ∧ c j ≤ 57) → f_X9_number_L17 t M fuel (nI v) (nI i) = some (nI (vaF c i v k)) := by
  have hn := hT.1
  intro k
  induction k with
  | zero =>
    intro i v fuel hi hf hd
    obtain ⟨fuel, rfl⟩ : ∃ m, fuel = m + 1 := ⟨fuel - 1, by omega⟩
    rw [f_X9_number_L17, h4, ifle (by omega) (by omega), if_pos (by omega)]
    rfl
  | succ k ih =>
    intro i v fuel hi hf hd
    obtain ⟨fuel, rfl⟩ : ∃ m, fuel = m + 1 := ⟨fuel - 1, by omega⟩
    have h0 := hd i (by omega) (by omega)
    obtain ⟨hc, hb⟩ := hT.2.2 i (by omega)
    rw [f_X9_number_L17, h4, ifle (by omega) (by omega), if_neg (by omega), ck_nI (by omega) (by omega), cl_nI (by omega), hb, bnd_e, bnd_e, nlit 10, pk_mul, nI_add, nlit 48, pk_sub (by omega), nI_1, vaF, show 10 * v + c i - 48 = 10 * v + (c i - 48) by omega]
    exact ih (i + 1) _ fuel (by omega) (by omega) (fun j h1 h2 => hd j (by omega) (by omega))
theorem numb_ok {t n p : Nat} {c : Nat → Nat} {M : Mm} (hT : TX M t n c) (hK : TK M t n c p) (hp : p ≤ n) : f_X9_number t M = some (if kdT c n p = 2 then nI (vlT c n p) else -1) := by
  have he := enT_le c hp
  have hn := hT.1
  have hk := kdT_le c n p
  unfold f_X9_number
  rw [hK.1, nlit 2, ifeq (by omega) (by omega)]
  by_cases h : kdT c n p = 2
  · obtain ⟨d1, d2, -, -⟩ := num_dig c h
    rw [if_pos h, if_pos h, bnd_e, hK.2.1]
    exact num17 hT hK.2.2 he.2.1 (enT c n p - stT c n p) (stT c n p) 0 2000 (by omega) (by omega) d1
  · rw [if_neg h, if_neg h]
/-! words -/
def wl : List (List Nat) := [[114, 105, 110, 103], [115, 116, 101, 112], [108, 117, 109, 112, 115], [109, 111, 111, 110]]
def wC (w i : Nat) : Nat := (wl.getD w []).getD i 0
def wN (w : Nat) : Nat := (wl.getD w []).length
def wdT (c : Nat → Nat) (n p w : Nat) : Bool := decide (kdT c n p = 1) && decide (enT c n p - stT c n p = wN w) && anF (fun i => decide (c (stT c n p + i) = wC w i)) (wN w)
theorem wN_ok : ∀ w, w < 4 → txLen.getD w 0 = wN w ∧ 4 ≤ wN w ∧ wN w ≤ 5 ∧ ∀ i, i < wN w → (txByt.getD w []).getD i 0 = nI (wC w i) ∧ wC w i < 256 := by decide
theorem iw28 {t n p w : Nat} {c : Nat → Nat} {M : Mm} (hT : TX M t n c) (hK : TK M t n c p) (hp : p ≤ n) (hw : w < 4) (hlen : enT c n p - stT c n p = wN w) : ∀ (k i fuel : Nat), i + k = wN w → k < fuel → anF (fun i => decide (c (stT c n p + i) = wC w i)) i = true → f_X9_isWord_L28 t w M fuel (nI i) = some (if anF (fun i => decide (c (stT c n p + i) = wC w i)) (wN w) then 1 else 0) := by
  have he := enT_le c hp
  have hn := hT.1
  obtain ⟨w1, w2, w3, w4⟩ := wN_ok w hw
  intro k
  induction k with
  | zero =>
    intro i fuel hi hf ha
    obtain ⟨fuel, rfl⟩ : ∃ m, fuel = m + 1 := ⟨fuel - 1, by omega⟩
    have e : i = wN w := by omega
    rw [f_X9_isWord_L28, w1, show Int32.ofNat (wN w) = nI (wN w) from rfl, ifle (by omega) (by omega), if_pos (by omega), ← e, ha]
    rfl
  | succ k ih =>
    intro i fuel hi hf ha
    obtain ⟨fuel, rfl⟩ : ∃ m, fuel = m + 1 := ⟨fuel - 1, by omega⟩
    obtain ⟨hc, hb⟩ := hT.2.2 (stT c n p + i) (by omega)
    obtain ⟨v1, v2⟩ := w4 i (by omega)
    rw [f_X9_isWord_L28, w1, show Int32.ofNat (wN w) = nI (wN w) from rfl, ifle (by omega) (by omega), if_neg (by omega), hK.2.1, nI_add, ck_nI (by omega) (by omega), ck_nI (by omega) (by omega), cl_nI (by omega), cl_nI (by omega), hb, v1, ifeq (by omega) (by omega)]
    by_cases hq : c (stT c n p + i) = wC w i
    · rw [if_pos hq, bnd_e, nI_1]
      refine ih (i + 1) fuel (by omega) (by omega) ?_
      rw [anF, ha]
      simp [hq]
    · rw [if_neg hq, anF_false (f := fun i => decide (c (stT c n p + i) = wC w i)) (show i < wN w by omega) (by simp [hq])]
      rfl
theorem iword_ok {t n p w : Nat} {c : Nat → Nat} {M : Mm} (hT : TX M t n c) (hK : TK M t n c p) (hp : p ≤ n) (hw : w < 4) : f_X9_isWord t w M = some (if wdT c n p w then 1 else 0) := by
  have he := enT_le c hp
  have hn := hT.1
  have hk := kdT_le c n p
  obtain ⟨w1, w2, w3, w4⟩ := wN_ok w hw
  unfold f_X9_isWord wdT
  rw [hK.1, show (1 : Int32) = nI 1 from rfl, ifeq (by omega) (by omega), hK.2.1, hK.2.2, pk_sub he.1, w1, show Int32.ofNat (wN w) = nI (wN w) from rfl, ifeq (by omega) (by omega)]
  by_cases h1 : kdT c n p = 1
  · rw [if_pos h1]
    by_cases h2 : enT c n p - stT c n p = wN w
    · rw [if_pos h2]
      have := iw28 hT hK hp hw h2 (wN w) 0 2000 (by omega) (by omega) rfl
      refine Eq.trans this ?_
      simp [h1, h2]
      rfl
    · rw [if_neg h2]
      simp [h2]
  · rw [if_neg h1]
    simp [h1]
