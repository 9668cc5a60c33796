/-! fee -/
def zL (v : Int) : Int64 := Int64.ofInt v
theorem zL_n (n : Nat) : lN n = zL (n : Int) := Int64.ofInt_eq_ofNat.symm
theorem zL_t {v : Int} (h : -4000000000000000000 ≤ v ∧ v ≤ 4000000000000000000) : (zL v).toInt = v := Int64.toInt_ofInt_of_le (by omega) (by omega)
theorem zL_add (a b : Int) : zL a + zL b = zL (a + b) := (Int64.ofInt_add a b).symm
theorem zL_mul (a b : Int) : zL a * zL b = zL (a * b) := (Int64.ofInt_mul a b).symm
theorem dL {A B : Nat} (hA : A < 2 ^ 30) (hB : B < 2 ^ 30) : (nI A - nI B).toInt64 = zL ((A : Int) - B) := by
  apply Int64.toInt_inj.mp
  rw [Int32.toInt_toInt64, pk_sub_toInt hA hB, zL_t (by omega)]
theorem up2L_at (N : Ml) (a k : Nat) (v : Int64) (b j : Nat) : up2L N a k v b j = if b = a ∧ j = k then v else N b j := by
  unfold up2L va_up vp_updL
  by_cases h : b = a
  · subst h
    by_cases h2 : j = k <;> simp [h2]
  · simp [h]
theorem cmpL0 {b : Nat} (hb : b < 2 ^ 63) : lg_cmp (lN b) (0 : Int64) = if b = 0 then 0 else 1 := by
  unfold lg_cmp
  have h1 : lN b > (0 : Int64) ↔ 0 < b := pk_lLT (a := 0) (by omega) hb
  by_cases h : b = 0
  · rw [if_neg (fun q => by have := h1.mp q; omega), if_pos (by rw [h]; rfl), if_pos h]
  · rw [if_pos (h1.mpr (by omega)), if_neg h]
theorem czL_lN {α : Type} {b : Nat} {k : Option α} (h : 0 < b) (hb : b < 2 ^ 63) : czL (lN b) k = k := by
  have h1 : ¬ lN b = 0 := fun q => by
    have := (pk_lEQ (b := 0) hb (by omega)).mp q
    omega
  unfold czL
  rw [if_neg h1]
theorem jrL_lN {a b : Nat} (ha : a < 2 ^ 63) (h0 : 0 < b) (hb : b < 2 ^ 63) : jrL (lN a) (lN b) = lN (a % b) := pk_lRem ha h0 hb
theorem gd9 (M : Mm) : ∀ (n a b i : Nat), b < n → i + b < 200 → a < 2 ^ 63 → b < 2 ^ 63 → f_X11_greatestDivisor_L9 M n (lN a) (lN b) (nI i) = some (lN (Nat.gcd a b)) := by
  intro n
  induction n with
  | zero => intro a b i h; omega
  | succ n ih =>
    intro a b i h hi ha hb
    rw [f_X11_greatestDivisor_L9, nlit 200, ifle (by omega) (by omega), if_neg (by omega), cmpL0 hb]
    by_cases h0 : b = 0
    · rw [if_pos h0, if_pos rfl, h0, Nat.gcd_zero_right]
    · have hlt : a % b < b := Nat.mod_lt _ (by omega)
      rw [if_neg h0, if_neg (by decide), czL_lN (by omega) hb, bnd_e, bnd_e, nI_1, jrL_lN ha (by omega) hb, ih b (a % b) (i + 1) (by omega) (by omega) hb (by omega)]
      congr 2
      rw [Nat.gcd_comm b, ← Nat.gcd_rec, Nat.gcd_comm]
theorem m139 {y : Nat} (x4 : Int64) (x6 : Int32) (M : Mm) (N : Ml) : ∀ (n a b : Nat), b < n → a < 2 ^ 63 → b < 2 ^ 63 → 0 < Nat.gcd a b → f_X12_fee_L139 y n x4 x6 (lN a) (lN b) M N = some ((1 : Int32), M, up2L (up2L N y 4 (x4 / lN (Nat.gcd a b))) y 5 (x6.toInt64 / lN (Nat.gcd a b))) := by
  intro n
  induction n with
  | zero => intro a b h; omega
  | succ n ih =>
    intro a b h ha hb hg
    rw [f_X12_fee_L139, cmpL0 hb]
    by_cases h0 : b = 0
    · subst h0
      rw [Nat.gcd_zero_right] at hg ⊢
      rw [if_pos rfl, if_pos rfl, czL_lN hg ha, bnd_e, czL_lN hg ha, bnd_e]
    · have hlt : a % b < b := Nat.mod_lt _ (by omega)
      have eg : Nat.gcd b (a % b) = Nat.gcd a b := by rw [Nat.gcd_comm b, ← Nat.gcd_rec, Nat.gcd_comm]
      rw [if_neg h0, if_neg (by decide), czL_lN (by omega) hb, bnd_e, jrL_lN ha (by omega) hb, ih b (a % b) (by omega) hb (by omega) (by rw [eg]; exact hg), eg]
theorem zL_abs {S : Int} (h : -4000000000000000000 ≤ S ∧ S ≤ 4000000000000000000) : jabs (zL S) = lN S.natAbs ∧ (if 0 ≤ lg_cmp (zL S) (0 : Int64) then zL S else -zL S) = lN S.natAbs := by
  have t := zL_t h
  have e0 : (0 : Int64).toInt = 0 := by decide
  have h1 : (0 : Int64) < zL S ↔ 0 < S := by rw [Int64.lt_iff_toInt_lt, t, e0]
  have h2 : zL S = 0 ↔ S = 0 := by
    rw [← Int64.toInt_inj, t, e0]
  have hn : -zL S = zL (-S) := (Int64.ofInt_neg S).symm
  have c0 : ¬ (0 : Int32) ≤ -1 := by decide
  have c1 : (0 : Int32) ≤ 1 := by decide
  have c2 : (0 : Int32) ≤ 0 := by decide
  rcases Int.lt_trichotomy 0 S with q | q | q
  · have e : lN S.natAbs = zL S := by rw [zL_n]; congr 1; omega
    refine ⟨by unfold jabs; rw [if_pos (h1.mpr q), e], ?_⟩
    have ec : lg_cmp (zL S) (0 : Int64) = 1 := by unfold lg_cmp; rw [if_pos (h1.mpr q)]
    rw [ec, if_pos c1, e]
  · subst q
    exact ⟨by decide, by decide⟩
  · have e : lN S.natAbs = zL (-S) := by rw [zL_n]; congr 1; omega
    refine ⟨by unfold jabs; rw [if_neg (fun w => by have := h1.mp w; omega), hn, e], ?_⟩
    have ec : lg_cmp (zL S) (0 : Int64) = -1 := by
      unfold lg_cmp
      rw [if_neg (fun w => by have := h1.mp w; omega), if_neg (fun w => by have := h2.mp w; omega)]
    rw [ec, if_neg c0, hn, e]
def pc4 (v : Nat) : Nat := v % 2 + v / 2 % 2 + v / 4 % 2 + v / 8 % 2
def fcP (x1 x2 : Nat) : Nat → Nat
  | 0 => x1
  | k + 1 => fcP (x1 * x2) (x2 + 1) k
theorem fac_L (M : Mm) : ∀ (k n x1 x2 fuel : Nat), x2 + k = n + 1 → k < fuel → n < 1000 → f_X12_factorial_L4 M fuel (nI n) (nI x1) (nI x2) = some (nI (fcP x1 x2 k)) := by
  intro k
  induction k with
  | zero =>
    intro n x1 x2 fuel h1 h2 h3
    obtain ⟨fuel, rfl⟩ : ∃ m, fuel = m + 1 := ⟨fuel - 1, by omega⟩
    rw [f_X12_factorial_L4, iflt (by omega) (by omega), if_pos (by omega)]
    rfl
  | succ k ih =>
    intro n x1 x2 fuel h1 h2 h3
    obtain ⟨fuel, rfl⟩ : ∃ m, fuel = m + 1 := ⟨fuel - 1, by omega⟩
    rw [f_X12_factorial_L4, iflt (by omega) (by omega), if_neg (by omega), bnd_e, bnd_e, pk_mul, nI_1]
    exact ih n (x1 * x2) (x2 + 1) fuel (by omega) (by omega) h3
theorem fac_ok (M : Mm) {n : Nat} (hn : n ≤ 4) : f_X12_factorial (nI n) M = some (nI (fcP 1 2 (n - 1))) := by
  unfold f_X12_factorial
  by_cases h : n = 0
  · subst h
    rw [show (2000 : Nat) = 1999 + 1 from rfl, f_X12_factorial_L4, nlit 2, iflt (by omega) (by omega), if_pos (by omega)]
    rfl
  · exact fac_L M (n - 1) n 1 2 2000 (by omega) (by omega) (by omega)
theorem facts_ok {n : Nat} (hn : n ≤ 4) : facts.getD n 0 = nI (fcP 1 2 (n - 1)) := by
  rcases (show n = 0 ∨ n = 1 ∨ n = 2 ∨ n = 3 ∨ n = 4 by omega) with rfl | rfl | rfl | rfl | rfl <;> rfl
theorem fcP_le {n : Nat} (hn : n ≤ 4) : 1 ≤ fcP 1 2 (n - 1) ∧ fcP 1 2 (n - 1) ≤ 24 := by
  rcases (show n = 0 ∨ n = 1 ∨ n = 2 ∨ n = 3 ∨ n = 4 by omega) with rfl | rfl | rfl | rfl | rfl <;> decide
theorem btst : ∀ v, v < 16 → (nI v &&& (1 : Int32)) = nI (v % 2) ∧ jsr (nI v) (1 : Int32) = nI (v / 2) := by decide +kernel
theorem bits_s (M : Mm) (n c : Nat) {v : Nat} (hv : v < 16) : f_X12_bits_L4 M (n + 1) (nI c) (nI v) = if v = 0 then some (nI c) else f_X12_bits_L4 M n (nI (c + v % 2)) (nI (v / 2)) := by
  obtain ⟨h1, h2⟩ := btst v hv
  rw [f_X12_bits_L4, show (0 : Int32) = nI 0 from rfl, ifle (by omega) (by omega), bnd_e, bnd_e, h1, h2, nI_add]
  by_cases h : v = 0
  · rw [if_pos (by omega), if_pos h]
  · rw [if_neg (by omega), if_neg h]
theorem bits_ok (M : Mm) {v : Nat} (hv : v < 16) : f_X12_bits (nI v) M = some (nI (pc4 v)) := by
  unfold f_X12_bits pc4
  rw [show (2000 : Nat) = 1995 + 1 + 1 + 1 + 1 + 1 from rfl, show (0 : Int32) = nI 0 from rfl, bits_s M _ 0 hv]
  by_cases h0 : v = 0
  · subst h0; rfl
  · rw [if_neg h0, bits_s M _ _ (show v / 2 < 16 by omega)]
    by_cases h1 : v / 2 = 0
    · rw [if_pos h1]; congr 2; omega
    · rw [if_neg h1, bits_s M _ _ (show v / 2 / 2 < 16 by omega)]
      by_cases h2 : v / 2 / 2 = 0
      · rw [if_pos h2]; congr 2; omega
      · rw [if_neg h2, bits_s M _ _ (show v / 2 / 2 / 2 < 16 by omega)]
        by_cases h3 : v / 2 / 2 / 2 = 0
        · rw [if_pos h3]; congr 2; omega
        · rw [if_neg h3, bits_s M _ _ (show v / 2 / 2 / 2 / 2 < 16 by omega), if_pos (by omega)]
          congr 2; omega
theorem bitc_ok (M : Mm) {v : Nat} (hv : v < 16) : f_J6_bitCount_0f7a4 (nI v) M = some (nI (pc4 v)) := by
  unfold f_J6_bitCount_0f7a4
  rw [bnd_e, bnd_e, bnd_e, bnd_e, bnd_e]
  rcases (show v = 0 ∨ v = 1 ∨ v = 2 ∨ v = 3 ∨ v = 4 ∨ v = 5 ∨ v = 6 ∨ v = 7 ∨ v = 8 ∨ v = 9 ∨ v = 10 ∨ v = 11 ∨ v = 12 ∨ v = 13 ∨ v = 14 ∨ v = 15 by omega) with rfl | rfl | rfl | rfl | rfl | rfl | rfl | rfl | rfl | rfl | rfl | rfl | rfl | rfl | rfl | rfl <;> decide +kernel
theorem setx : ∀ n, n < 5 → ∀ m, m < n → ∀ set, set < 2 ^ n → ((nI set &&& nI (2 ^ m)) = (0 : Int32) → pc4 set + 1 ≤ n) ∧ (nI set ||| nI (2 ^ m)) = nI (set ||| 2 ^ m) ∧ (set ||| 2 ^ m) < 2 ^ n := by decide +kernel
theorem pw4 {n : Nat} (hn : n ≤ 4) : 2 ^ n ≤ 16 ∧ 1 ≤ 2 ^ n := by
  rcases (show n = 0 ∨ n = 1 ∨ n = 2 ∨ n = 3 ∨ n = 4 by omega) with rfl | rfl | rfl | rfl | rfl <;> decide
def orN (n set : Nat) : Nat := fcP 1 2 (pc4 set - 1) * fcP 1 2 (n - 1 - pc4 set - 1)
theorem orN_le {n set : Nat} (hn : n ≤ 4) (h : pc4 set + 1 ≤ n) : orN n set ≤ 576 := by
  have h1 := fcP_le (n := pc4 set) (by omega)
  have h2 := fcP_le (n := n - 1 - pc4 set) (by omega)
  exact Nat.mul_le_mul h1.2 h2.2
theorem ordB {cs r n set : Nat} {M : Mm} (h : M r 10 = nI n) (hn : n ≤ 4) (hs : set < 16) (hp : pc4 set + 1 ≤ n) : f_X0_ordersBehind cs r (nI set) M = some (lN (orN n set)) := by
  have hle := orN_le hn hp
  have e1 : nI n - (1 : Int32) - nI (pc4 set) = nI (n - 1 - pc4 set) := by
    rw [show (1 : Int32) = nI 1 from rfl, pk_sub (by omega), pk_sub (by omega)]
  unfold f_X0_ordersBehind
  rw [bitc_ok M hs, Option.bind_some, bnd_e, h, e1, if_pos (nI_pos' (by omega)), ck_nI (by omega) (by omega), ck_nI (by omega) (by omega), cl_nI (by omega), cl_nI (by omega), facts_ok (by omega), facts_ok (by omega), pk_mul]
  congr 1
  exact nI_l (by show orN n set < 2 ^ 31; omega)
def lsN (R : Rg) (K set : Nat) : Nat := tot (R 0 0) R - tot (R 0 0) (rnK R (fun m => set.testBit m) K)
def feI (R : Rg) (K n m : Nat) (S : Int) (set : Nat) : Nat → Int
  | 0 => S
  | k + 1 => feI R K n m (if (nI set &&& nI (2 ^ m)) = (0 : Int32) then S + (orN n set : Int) * ((lsN R K (set ||| 2 ^ m) : Int) - (lsN R K set : Int)) else S) (set + 1) k
theorem feI_bd {R : Rg} {K n m : Nat} (hn : n ≤ 4) (hm : m < n) (hb : tot (R 0 0) R ≤ 1000000) : ∀ (k set : Nat) (S B : Int), set + k = 2 ^ n → -B ≤ S ∧ S ≤ B → -(B + 576000000 * k) ≤ feI R K n m S set k ∧ feI R K n m S set k ≤ B + 576000000 * k := by
  intro k
  induction k with
  | zero => intro set S B h hS; rw [feI]; omega
  | succ k ih =>
    intro set S B h hS
    rw [feI]
    have key : -(B + 576000000) ≤ (if (nI set &&& nI (2 ^ m)) = (0 : Int32) then S + (orN n set : Int) * ((lsN R K (set ||| 2 ^ m) : Int) - (lsN R K set : Int)) else S) ∧ (if (nI set &&& nI (2 ^ m)) = (0 : Int32) then S + (orN n set : Int) * ((lsN R K (set ||| 2 ^ m) : Int) - (lsN R K set : Int)) else S) ≤ B + 576000000 := by
      by_cases q : (nI set &&& nI (2 ^ m)) = (0 : Int32)
      · rw [if_pos q]
        have h1 := orN_le hn ((setx n (by omega) m hm set (by omega)).1 q)
        have h2 : lsN R K (set ||| 2 ^ m) ≤ 1000000 := by unfold lsN; omega
        have h3 : lsN R K set ≤ 1000000 := by unfold lsN; omega
        have h4 : orN n set * lsN R K (set ||| 2 ^ m) ≤ 576 * 1000000 := Nat.mul_le_mul h1 h2
        have h5 : orN n set * lsN R K set ≤ 576 * 1000000 := Nat.mul_le_mul h1 h3
        rw [Int.mul_sub, ← Int.natCast_mul, ← Int.natCast_mul]
        omega
      · rw [if_neg q]
        omega
    have := ih (set + 1) _ (B + 576000000) (by omega) key
    omega
section FEC
variable {cs r0 : Nat} {R : Rg}
theorem sbits {set : Nat} (hs : set < 16) : ∀ m, m < 4 → (((jsr (nI set) (nI m)) &&& (1 : Int32)) = (1 : Int32) ↔ (fun m => set.testBit m) m = true) := fun m hm => (bit1 set (by omega) m (by omega)).2
theorem cfe71 {K n m : Nat} {M : Mm} (hn : n ≤ 4) (hm : m < n) (h10 : M r0 10 = nI n) (hb : tot (R 0 0) R ≤ 1000000) (hv : ∀ s, s < 2 ^ n → M (cs + 15) s = nI (lsN R K s)) : ∀ (k set fuel : Nat) (S : Int), set + k = 2 ^ n → k < fuel → f_X0_addedInAllOrders_L71 cs r0 fuel (nI (2 ^ n)) (nI (2 ^ m)) (zL S) (nI set) M = some (zL (feI R K n m S set k), M) := by
  have hp := pw4 hn
  intro k
  induction k with
  | zero =>
    intro set fuel S h hf
    obtain ⟨fuel, rfl⟩ : ∃ m, fuel = m + 1 := ⟨fuel - 1, by omega⟩
    rw [f_X0_addedInAllOrders_L71, ifle (by omega) (by omega), if_pos (by omega)]
    rfl
  | succ k ih =>
    intro set fuel S h hf
    obtain ⟨fuel, rfl⟩ : ∃ m, fuel = m + 1 := ⟨fuel - 1, by omega⟩
    obtain ⟨s1, s2, s3⟩ := setx n (by omega) m hm set (by omega)
    have l1 : lsN R K (set ||| 2 ^ m) ≤ 1000000 := by unfold lsN; omega
    have l2 : lsN R K set ≤ 1000000 := by unfold lsN; omega
    rw [f_X0_addedInAllOrders_L71, ifle (by omega) (by omega), if_neg (by omega), feI]
    unfold f_X0_addedInAllOrders_J116
    by_cases q : (nI set &&& nI (2 ^ m)) = (0 : Int32)
    · rw [if_pos q, if_pos q, ordB h10 hn (by omega) (s1 q), Option.bind_some, s2, ck_nI (by omega) (by omega), ck_nI (by omega) (by omega), cl_nI (by omega), cl_nI (by omega), hv _ s3, hv _ (by omega), dL (by omega) (by omega), zL_n, zL_mul, zL_add, bnd_e, bnd_e, nI_1]
      exact ih (set + 1) fuel _ (by omega) (by omega)
    · rw [if_neg q, if_neg q, bnd_e, nI_1]
      exact ih (set + 1) fuel _ (by omega) (by omega)
theorem cfe13 {tu : Nat → Nat} {K n m : Nat} (hF : FOk R) (hcs : r0 + 9 ≤ cs) (hn : R 0 1 = n) (hm : m < n) (hK : K ≤ 60) (hr : R 0 2 + K < 100000) : ∀ (k set fuel : Nat) (M : Mm), set + k = 2 ^ n → k < fuel → CRing M r0 tu R → (∀ s, s < set → M (cs + 15) s = nI (lsN R K s)) → ∃ M', f_X0_addedInAllOrders_L13 cs r0 fuel (nI m) (nI K) (nI (2 ^ n)) (nI set) M = f_X0_addedInAllOrders_L71 cs r0 2000 (nI (2 ^ n)) (nI (2 ^ m)) (zL 0) (nI 0) M' ∧ (∀ s, s < 2 ^ n → M' (cs + 15) s = nI (lsN R K s)) ∧ ∀ q, (q < cs + 1 ∨ cs + 10 ≤ q) → q ≠ cs + 15 → M' q = M q := by
  have hP := hF.1
  have h4 := hF.2.1
  have hp := pw4 (n := n) (by omega)
  intro k
  induction k with
  | zero =>
    intro set fuel M h hf hC hv
    obtain ⟨fuel, rfl⟩ : ∃ m, fuel = m + 1 := ⟨fuel - 1, by omega⟩
    refine ⟨M, ?_, fun s hs => hv s (by omega), fun _ _ _ => rfl⟩
    rw [f_X0_addedInAllOrders_L13, ifle (by omega) (by omega), if_pos (by omega), bnd_e, (bit4 m (by omega)).1]
    rfl
  | succ k ih =>
    intro set fuel M h hf hC hv
    obtain ⟨fuel, rfl⟩ : ∃ m, fuel = m + 1 := ⟨fuel - 1, by omega⟩
    have c1 := hC.copied (a := cs + 1) hP.2 h4
    obtain ⟨M2, e2, c2, f2, k2⟩ := keep_ok (s := fun m => set.testBit m) c1 hF (sbits (set := set) (by omega))
    have sim := kpt_sim R (fun m => set.testBit m)
    obtain ⟨w, M3, tu3, z3, e3, c3, t3, k3⟩ := cgoBy_ok (K := K) c2 f2 hK (by rw [sim.1.2.2.1]; exact hr)
    rw [sim.1.2.1, (sim.rnK (by omega) K).tot, sim.tot] at t3
    have hw : w = lsN R K set := by unfold lsN; omega
    have k1 : ∀ q, (q < cs + 1 ∨ cs + 10 ≤ q) → M3 q = M q := fun q hq => by rw [k3 q (by omega) (by omega) (by omega) (by omega), k2 q (by omega), cpM_o _ _ _ _ (by omega)]
    obtain ⟨M', e, a1, a2⟩ := ih (set + 1) fuel (up2 M3 (cs + 15) set (nI w)) (by omega) (by omega) (hC.mono (fun q q1 q2 => by rw [up2_o _ _ _ (by omega), k1 q (by omega)])) (fun s hs => by
      rw [up2_at]
      by_cases e : s = set
      · rw [if_pos ⟨rfl, e⟩, hw, e]
      · rw [if_neg (by omega), k1 _ (by omega)]; exact hv s (by omega))
    refine ⟨M', ?_, a1, fun q q1 q2 => by rw [a2 q q1 q2, up2_o _ _ _ q2, k1 q q1]⟩
    rw [f_X0_addedInAllOrders_L13, ifle (by omega) (by omega), if_neg (by omega), copy_ok M _ _ (R 0 1) (by omega) h4 hC.2.1, Option.bind_some, e2, Option.bind_some, e3, bd2_some, ck_nI (by omega) (by omega), bnd_e, bnd_e, cl_nI (by omega), nI_1]
    exact e
end FEC
theorem mfe32 {y K n m : Nat} {R : Rg} {N : Ml} (hF : FOk R) (hn : R 0 1 = n) (hm : m < n) (hK : K ≤ 60) (hr : R 0 2 + K < 100000) (hb : tot (R 0 0) R ≤ 1000000) : ∀ (k set fuel : Nat) (S : Int) (M : Mm), set + k = 2 ^ n → k < fuel → MRing M (y + 1) 0 R → ∃ M', f_X12_fee_L32 y fuel (nI K) (nI (2 ^ m)) (zL S) (nI set) M N = (if 0 ≤ lg_cmp (zL (feI R K n m S set k)) (0 : Int64) then f_X12_fee_J132 y (zL (feI R K n m S set k)) (nI (fcP 1 2 (n - 1))) (zL (feI R K n m S set k)) M' N else f_X12_fee_J132 y (zL (feI R K n m S set k)) (nI (fcP 1 2 (n - 1))) (-(zL (feI R K n m S set k))) M' N) ∧ keepY y M M' := by
  have hP := hF.1
  have h4 := hF.2.1
  have hp := pw4 (n := n) (by omega)
  intro k
  induction k with
  | zero =>
    intro set fuel S M h hf hM
    obtain ⟨fuel, rfl⟩ : ∃ m, fuel = m + 1 := ⟨fuel - 1, by omega⟩
    refine ⟨M, ?_, fun _ _ => rfl, rfl⟩
    rw [f_X12_fee_L32, all_ok hM.2.2.2.1 h4, Option.bind_some, hn, iflt (by omega) (by omega), if_pos (by omega), mmoons_ok, Option.bind_some, hM.nring.2.2.1, hn, fac_ok M (by omega), Option.bind_some]
    rfl
  | succ k ih =>
    intro set fuel S M h hf hM
    obtain ⟨fuel, rfl⟩ : ∃ m, fuel = m + 1 := ⟨fuel - 1, by omega⟩
    obtain ⟨s1, s2, s3⟩ := setx n (by omega) m hm set (by omega)
    have l1 : lsN R K (set ||| 2 ^ m) ≤ 1000000 := by unfold lsN; omega
    have l2 : lsN R K set ≤ 1000000 := by unfold lsN; omega
    rw [f_X12_fee_L32, all_ok hM.2.2.2.1 h4, Option.bind_some, hn, iflt (by omega) (by omega), if_neg (by omega), feI]
    unfold f_X12_fee_J102
    by_cases q : (nI set &&& nI (2 ^ m)) = (0 : Int32)
    · have hpc := s1 q
      have o1 := fcP_le (n := pc4 set) (by omega)
      have o2 := fcP_le (n := n - 1 - pc4 set) (by omega)
      have e1 : nI n - (1 : Int32) - nI (pc4 set) = nI (n - 1 - pc4 set) := by
        rw [show (1 : Int32) = nI 1 from rfl, pk_sub (by omega), pk_sub (by omega)]
      obtain ⟨w1, M1, g1, -, t1, k1⟩ := mlossOf_ok (K := K) (s := fun j => (set ||| 2 ^ m).testBit j) hM hF (fun j hj => sbits (set := set ||| 2 ^ m) (by omega) j hj) hK hr
      have hM1 : MRing M1 (y + 1) 0 R := by
        unfold MRing MLum at hM ⊢
        rw [k1.1 _ (by omega)]
        exact hM
      obtain ⟨w2, M2, g2, -, t2, k2⟩ := mlossOf_ok (K := K) (s := fun m => set.testBit m) hM1 hF (fun j hj => sbits (set := set) (by omega) j hj) hK hr
      have hM2 : MRing M2 (y + 1) 0 R := by
        unfold MRing MLum at hM1 ⊢
        rw [k2.1 _ (by omega)]
        exact hM1
      have hw1 : w1 = lsN R K (set ||| 2 ^ m) := by unfold lsN; omega
      have hw2 : w2 = lsN R K set := by unfold lsN; omega
      rw [hw1] at g1
      rw [hw2] at g2
      obtain ⟨M', e, b⟩ := ih (set + 1) fuel (S + (orN n set : Int) * ((lsN R K (set ||| 2 ^ m) : Int) - (lsN R K set : Int))) M2 (by omega) (by omega) hM2
      refine ⟨M', ?_, (k1.trans k2).trans b⟩
      rw [if_pos q, if_pos q, bits_ok M (by omega), Option.bind_some, fac_ok M (by omega), Option.bind_some, mmoons_ok, Option.bind_some, Option.bind_some, hM.nring.2.2.1, hn, e1, fac_ok M (by omega), Option.bind_some, bnd_e, s2, g1, bd2_some, g2, bd2_some, bnd_e, bnd_e, nI_l (by omega), nI_l (by omega), lN_mul, show fcP 1 2 (pc4 set - 1) * fcP 1 2 (n - 1 - pc4 set - 1) = orN n set from rfl, dL (by omega) (by omega), zL_n, zL_mul, zL_add, nI_1]
      exact e
    · obtain ⟨M', e, b⟩ := ih (set + 1) fuel S M (by omega) (by omega) hM
      refine ⟨M', ?_, b⟩
      rw [if_neg q, if_neg q, bnd_e, nI_1]
      exact e
section STG
variable {x y k : Nat} {M : Mm} {N : Ml}
theorem s_fee (hy : y = x + 234) (hk : k < 320) (q0 q1 : Int32) (hI : IInv x y k M N) : ∃ (v : Int32) (M1 : Mm) (N1 : Ml) (M2 : Mm) (N2 : Ml), f_X11_fee x q0 q1 M N = some (v, M1, N1) ∧ f_X12_fee y q0 q1 M1 N1 = some (v, M2, N2) ∧ IInv x y (k + 5) M2 N2 := by
  obtain ⟨R, tu, c1, m1, s⟩ := hI.ring
  have hF := s.fok (by omega)
  have ec : M (x + 7 + 1) 10 = nI (R 0 1) := c1.2.1
  have em : M (y + 1) 126 = nI (R 0 1) := m1.2.2.2.1
  have hP := hF.1
  have h4 := hF.2.1
  have hr := s.2.2.1
  have htot := s.2.2.2.2.2.2
  unfold f_X11_fee f_X12_fee f_X11_fee_J15 f_X12_fee_J15
  rw [isMoon_ok, Option.bind_some, ite_b01, ec]
  by_cases c : (0 : Int32) ≤ q0 ∧ q0 ≤ nI (R 0 1) - 1
  · rw [if_pos c, isRounds_ok, Option.bind_some, ite_b01]
    by_cases d : (0 : Int32) ≤ q1 ∧ q1 ≤ 60
    · rw [if_pos d]
      obtain ⟨m, hm, rfl⟩ := (cmoon_ok 0 q0 _ s.2.1 _ rfl).mp c
      obtain ⟨K, hK, rfl⟩ := in_nat (b := 60) (by omega) d
      have hp := pw4 h4
      obtain ⟨M1, e1, a1, a2⟩ := cfe13 (cs := x + 204) (r0 := x + 7 + 1) (K := K) hF (by omega) rfl hm hK (by omega) (2 ^ R 0 1) 0 2000 M (by omega) (by omega) c1 (fun s hs => absurd hs (Nat.not_lt_zero s))
      have k1 : ∀ q, (q < x + 205 ∨ x + 220 ≤ q) → M1 q = M q := fun q hq => a2 q (by omega) (by omega)
      have h10 : M1 (x + 7 + 1) 10 = nI (R 0 1) := by rw [k1 _ (by omega)]; exact ec
      have e2 := cfe71 (cs := x + 204) (r0 := x + 7 + 1) (R := R) (K := K) h4 hm h10 (by omega) a1 (2 ^ R 0 1) 0 2000 0 (by omega) (by omega)
      have ea : f_X0_addedInAllOrders (x + 204) (x + 7 + 1) (nI m) (nI K) M = some (zL (feI R K (R 0 1) m 0 0 (2 ^ R 0 1)), M1) := by
        unfold f_X0_addedInAllOrders
        rw [ec, (bit4 (R 0 1) (by omega)).1, bnd_e]
        exact e1.trans e2
      have bd := feI_bd (R := R) (K := K) h4 hm (by omega) (2 ^ R 0 1) 0 0 0 (by omega) (by omega)
      have m1' : MRing M1 (y + 1) 0 R := by
        unfold MRing MLum at m1 ⊢
        rw [k1 _ (by omega)]
        exact m1
      have of := fcP_le h4
      generalize hS : feI R K (R 0 1) m 0 0 (2 ^ R 0 1) = S at *
      obtain ⟨z1, z2⟩ := zL_abs (S := S) (by omega)
      have hg0 : 0 < Nat.gcd S.natAbs (fcP 1 2 (R 0 1 - 1)) := Nat.gcd_pos_of_pos_right _ (by omega)
      have hg1 : Nat.gcd S.natAbs (fcP 1 2 (R 0 1 - 1)) ≤ fcP 1 2 (R 0 1 - 1) := Nat.gcd_le_right _ (by omega)
      have eg : f_X11_greatestDivisor (lN S.natAbs) (lN (fcP 1 2 (R 0 1 - 1))) M1 = some (lN (Nat.gcd S.natAbs (fcP 1 2 (R 0 1 - 1)))) := gd9 M1 2000 _ _ 0 (by omega) (by omega) (by omega) (by omega)
      generalize hN1 : up2L (up2L N x 7 (zL S / lN (Nat.gcd S.natAbs (fcP 1 2 (R 0 1 - 1))))) x 8 (lN (fcP 1 2 (R 0 1 - 1)) / lN (Nat.gcd S.natAbs (fcP 1 2 (R 0 1 - 1)))) = N1
      obtain ⟨M2, e3, b3⟩ := mfe32 (y := y) (K := K) (N := N1) hF rfl hm hK (by omega) (by omega) (2 ^ R 0 1) 0 2000 0 M1 (by omega) (by omega) m1'
      rw [hS] at e3
      have e4 := m139 (y := y) (zL S) (nI (fcP 1 2 (R 0 1 - 1))) M2 N1 2000 S.natAbs (fcP 1 2 (R 0 1 - 1)) (by omega) (by omega) (by omega) hg0
      have e5 : (if 0 ≤ lg_cmp (zL S) (0 : Int64) then f_X12_fee_J132 y (zL S) (nI (fcP 1 2 (R 0 1 - 1))) (zL S) M2 N1 else f_X12_fee_J132 y (zL S) (nI (fcP 1 2 (R 0 1 - 1))) (-(zL S)) M2 N1) = f_X12_fee_L139 y 2000 (zL S) (nI (fcP 1 2 (R 0 1 - 1))) (lN S.natAbs) (lN (fcP 1 2 (R 0 1 - 1))) M2 N1 := by
        unfold f_X12_fee_J132
        rw [bnd_e, bnd_e, nI_l (by omega)]
        by_cases q : (0 : Int32) ≤ lg_cmp (zL S) (0 : Int64)
        · rw [if_pos q] at z2 ⊢
          rw [← z2]
        · rw [if_neg q] at z2 ⊢
          rw [← z2]
      refine ⟨1, M1, N1, M2, up2L (up2L N1 y 4 (zL S / lN (Nat.gcd S.natAbs (fcP 1 2 (R 0 1 - 1))))) y 5 ((nI (fcP 1 2 (R 0 1 - 1))).toInt64 / lN (Nat.gcd S.natAbs (fcP 1 2 (R 0 1 - 1)))), ?_, ?_, ?_⟩
      · rw [ea, bd2_some, h10, ck_nI (by omega) (by omega), cl_nI (by omega), facts_ok h4, nI_l (by omega), bnd_e, z1, eg, Option.bind_some, cmpL0 (by omega), if_neg (show ¬ Nat.gcd S.natAbs (fcP 1 2 (R 0 1 - 1)) = 0 by omega), if_neg (by decide), czL_lN hg0 (by omega), bnd_e, czL_lN hg0 (by omega), bnd_e, hN1]
      · rw [misMoon_ok, Option.bind_some, ite_b01, m1'.2.2.2.1, if_pos c, isLong_ok, Option.bind_some, ite_b01, if_pos d, (bit4 m (by omega)).1, bnd_e]
        exact e3.trans (e5.trans e4)
      · obtain ⟨h1, h2, h3, h4', h5, h6⟩ := hI.scratch hy (M' := M2) (fun q hq => by rw [b3.1 q (by omega), k1 q (by omega)]) (by rw [b3.1 _ (by omega), k1 _ (by omega)]) (by rw [b3.2, k1 _ (by omega)])
        refine ⟨h1, h2, h3, h4', ?_, ?_⟩
        · rw [up2L_at, if_neg (by omega), up2L_at, if_neg (by omega), ← hN1, up2L_at, if_neg (by omega), up2L_at, if_pos ⟨rfl, rfl⟩, up2L_at, if_neg (by omega), up2L_at, if_pos ⟨rfl, rfl⟩]
        · rw [up2L_at, if_neg (by omega), up2L_at, if_neg (by omega), ← hN1, up2L_at, if_pos ⟨rfl, rfl⟩, up2L_at, if_pos ⟨rfl, rfl⟩, nI_l (by omega)]
    · rw [if_neg d]
      have e := rj x (-2 : Int32) M
      refine ⟨-2, up2 M (x + 233) 0 (M (x + 233) 0 + 1), N, _, N, ?_, ?_, hI.refused hy (w := 0) (by omega)⟩
      · rw [n0, refuse_ok x 0 (by omega), bd2_some]
      · rw [misMoon_ok, Option.bind_some, ite_b01, up2_o _ _ _ (by omega), em, if_pos c, isLong_ok, Option.bind_some, ite_b01, if_neg d, bad_ok, bd2_some]
  · rw [if_neg c]
    refine ⟨-2, up2 M (x + 233) 0 (M (x + 233) 0 + 1), N, _, N, ?_, ?_, hI.refused hy (w := 0) (by omega)⟩
    · rw [n0, refuse_ok x 0 (by omega), bd2_some]
    · rw [misMoon_ok, Option.bind_some, ite_b01, up2_o _ _ _ (by omega), em, if_neg c, bad_ok, bd2_some]
end STG
