/-! taken -/
def anF (f : Nat → Bool) : Nat → Bool
  | 0 => true
  | n + 1 => anF f n && f n
theorem anF_false {f : Nat → Bool} {i : Nat} : ∀ {n : Nat}, i < n → f i = false → anF f n = false
  | 0, h, _ => absurd h (Nat.not_lt_zero i)
  | n + 1, h, e => by
    rw [anF]
    by_cases q : i = n
    · rw [← q, e, Bool.and_false]
    · rw [anF_false (n := n) (by omega) e, Bool.false_and]
theorem eq_lane {i z : Nat} (hi : i < 5) (hz : z ≤ 10) : nI i = nI z - nI 3 ↔ i + 3 = z := by
  rcases (show z = 0 ∨ z = 1 ∨ z = 2 ∨ z = 3 ∨ z = 4 ∨ z = 5 ∨ z = 6 ∨ z = 7 ∨ z = 8 ∨ z = 9 ∨ z = 10 by omega) with rfl | rfl | rfl | rfl | rfl | rfl | rfl | rfl | rfl | rfl | rfl <;>
  rcases (show i = 0 ∨ i = 1 ∨ i = 2 ∨ i = 3 ∨ i = 4 by omega) with rfl | rfl | rfl | rfl | rfl <;> decide
def fiN (R : Rg) (K l p i : Nat) : Bool := decide (nI (smF (rnK R tr1 K (10 + i)) (R 0 0)) - (if i + 3 = (foF R 1 (l + 3) p 0 K).1 then nI (R (10 + l) p) else 0) = nI (R 2 i))
def tkc (R : Rg) (K n : Nat) : Bool := decide (n % 24 < R 0 0) && decide (0 < R (10 + n / 24) (n % 24)) && anF (fiN R K (n / 24) (n % 24)) 5
def cnF (c : Nat → Bool) : Nat → Nat
  | 0 => 0
  | n + 1 => if c n then cnF c n + 1 else cnF c n
def vlF (c : Nat → Bool) (q : Int32) : Nat → Int32
  | 0 => -5
  | n + 1 => if c n then (if nI (cnF c n) = q then nI (100 * (n / 24) + n % 24) else vlF c q n) else vlF c q n
theorem cnF_le (c : Nat → Bool) : ∀ n, cnF c n ≤ n
  | 0 => Nat.le_refl 0
  | n + 1 => by
    rw [cnF]
    have := cnF_le c n
    split <;> omega
theorem cn_skip {c : Nat → Bool} {a : Nat} : ∀ d, (∀ j, a ≤ j → j < a + d → c j = false) → cnF c (a + d) = cnF c a ∧ ∀ q, vlF c q (a + d) = vlF c q a
  | 0, _ => ⟨rfl, fun _ => rfl⟩
  | d + 1, h => by
    have hd := h (a + d) (by omega) (by omega)
    obtain ⟨h1, h2⟩ := cn_skip (c := c) (a := a) d (fun j h3 h4 => h j h3 (by omega))
    rw [← Nat.add_assoc]
    refine ⟨?_, fun q => ?_⟩
    · rw [cnF, hd]
      exact h1
    · rw [vlF, hd]
      exact h2 q
theorem vl_out {c : Nat → Bool} {i : Nat} (hi : i < 2 ^ 31) : ∀ {n : Nat}, n ≤ 120 → cnF c n ≤ i → vlF c (nI i) n = -5
  | 0, _, _ => rfl
  | n + 1, hn, h => by
    rw [cnF] at h
    have hle := cnF_le c n
    rw [vlF]
    by_cases hc : c n = true
    · rw [if_pos hc] at h ⊢
      rw [ifeq (by omega) hi, if_neg (by omega)]
      exact vl_out hi (by omega) (by omega)
    · rw [if_neg hc] at h ⊢
      exact vl_out hi (by omega) h
theorem boolI (b : Bool) {α : Type} (x y : α) : (if (if b then (1 : Int32) else 0) = 0 then x else y) = if b then y else x := by
  cases b
  · simp
  · simp
section TKC
variable {cs r0 K : Nat} {R : Rg}
theorem cft15 {l p zz : Nat} {tu tt : Nat → Nat} {M : Mm} (hF : FOk R) (hl : l < 5) (hp : p < R 0 0) (hz : (foF R 1 (l + 3) p 0 K).1 ≤ 10) (h : CRing M r0 tu R) (ht : CRing M (cs + 1) tt (updR (rnK R tr1 K) 0 3 zz)) : ∀ (k i n : Nat), i + k = 5 → k < n → anF (fiN R K l p) i = true → f_X0_fitsWithout_L15 cs r0 n (nI l) (nI p) (nI (foF R 1 (l + 3) p 0 K).1 - nI 3) (nI i) M = some (if anF (fiN R K l p) 5 then 1 else 0, M) := by
  have hP := hF.1
  have e00 : updR (rnK R tr1 K) 0 3 zz 0 0 = R 0 0 := by
    rw [updR_at, if_neg (by omega)]
    exact rnK_sf tr1 K R 0 0 (by omega) (by omega) (by omega)
  intro k
  induction k with
  | zero =>
    intro i n hi hn ha
    obtain ⟨n, rfl⟩ : ∃ m, n = m + 1 := ⟨n - 1, by omega⟩
    have e : i = 5 := by omega
    subst e
    rw [f_X0_fitsWithout_L15, nlit 5, ifle (by omega) (by omega), if_pos (by omega), ha]
    rfl
  | succ k ih =>
    intro i n hi hn ha
    obtain ⟨n, rfl⟩ : ∃ m, n = m + 1 := ⟨n - 1, by omega⟩
    have hs : smF (updR (rnK R tr1 K) 0 3 zz (10 + i)) (R 0 0) = smF (rnK R tr1 K (10 + i)) (R 0 0) := smF_cong (fun j _ => by rw [updR_at, if_neg (by omega)])
    have hj : ∀ s0 : Int32, s0 = (if i + 3 = (foF R 1 (l + 3) p 0 K).1 then nI (R (10 + l) p) else 0) → f_X0_fitsWithout_J41 cs r0 (nI l) (nI p) (nI (foF R 1 (l + 3) p 0 K).1 - nI 3) (nI i) s0 M (fun x1 x2 x4 x5 M => f_X0_fitsWithout_L15 cs r0 n x1 x2 x4 x5 M) = some (if anF (fiN R K l p) 5 then 1 else 0, M) := by
      intro s0 es
      unfold f_X0_fitsWithout_J41
      rw [lumpsIn_ok ht (show i < 5 by omega) (by rw [e00]; exact hP.2), Option.bind_some, e00, hs, ck_nI (by omega) (by omega), cl_nI (by omega), (h.2.2.2.2.1 i (by omega)).2, es]
      by_cases hq : nI (smF (rnK R tr1 K (10 + i)) (R 0 0)) - (if i + 3 = (foF R 1 (l + 3) p 0 K).1 then nI (R (10 + l) p) else 0) = nI (R 2 i)
      · rw [if_pos hq, bnd_e, nI_1]
        refine ih (i + 1) n (by omega) (by omega) ?_
        rw [anF, ha]
        simp [fiN, hq]
      · rw [if_neg hq, anF_false (f := fiN R K l p) (show i < 5 by omega) (by simp [fiN, hq])]
        rfl
    rw [f_X0_fitsWithout_L15, nlit 5, ifle (by omega) (by omega), if_neg (by omega)]
    by_cases he : i + 3 = (foF R 1 (l + 3) p 0 K).1
    · rw [if_pos ((eq_lane (by omega) hz).mpr he), lumpsAt_ok h hl hp hP.2, Option.bind_some]
      exact hj _ (by rw [if_pos he])
    · rw [if_neg (fun q => he ((eq_lane (by omega) hz).mp q))]
      exact hj _ (by rw [if_neg he])
theorem cfits_ok {l p zz : Nat} {tu tt : Nat → Nat} {M : Mm} (hF : FOk R) (hcs : r0 + 9 ≤ cs) (hK : K ≤ 60) (hr2 : R 0 2 + K < 100000) (hl : l < 5) (hp : p < R 0 0) (h : CRing M r0 tu R) (ht : CRing M (cs + 1) tt (updR (rnK R tr1 K) 0 3 zz)) : ∃ M', f_X0_fitsWithout cs r0 (nI l) (nI p) (nI K) M = some (if anF (fiN R K l p) 5 then 1 else 0, M') ∧ ∀ q, q ≠ cs + 10 → M' q = M q := by
  obtain ⟨M1, e1, a0, a1, a2, a3⟩ := follow_ok (cs := cs) h hF hcs hK hr2 hl hp
  refine ⟨M1, ?_, a3⟩
  unfold f_X0_fitsWithout
  rw [e1, Option.bind_some, bnd_e, a0]
  exact cft15 hF hl hp (foF_ok R K 1 (l + 3) p 0 (by omega) hp).1 (h.mono (fun q q1 q2 => a3 q (by omega))) (ht.mono (fun q q1 q2 => a3 q (by omega))) 5 0 2000 (by omega) (by omega) rfl
theorem ctk32 {l zz : Nat} {tu tt : Nat → Nat} (hF : FOk R) (hcs : r0 + 9 ≤ cs) (hK : K ≤ 60) (hr2 : R 0 2 + K < 100000) (hl : l < 5) (hb : tot (R 0 0) R < 2 ^ 31) (kb : Int32 → Int32 → Int32 → Mm → Option (Int32 × Mm)) : ∀ (k p n : Nat) (M : Mm), p + k = R 0 0 → k < n → CRing M r0 tu R → CRing M (cs + 1) tt (updR (rnK R tr1 K) 0 3 zz) → (∀ j, j < cnF (tkc R K) (24 * l + p) → M (cs + 14) j = vlF (tkc R K) (nI j) (24 * l + p)) → ∃ M', f_X0_findTaken_L32 cs r0 kb n (nI K) (nI (cnF (tkc R K) (24 * l + p))) (nI l) (nI p) M = kb (nI K) (nI (cnF (tkc R K) (24 * l + R 0 0))) (nI (l + 1)) M' ∧ (∀ j, j < cnF (tkc R K) (24 * l + R 0 0) → M' (cs + 14) j = vlF (tkc R K) (nI j) (24 * l + R 0 0)) ∧ ∀ q, q ≠ cs + 10 → q ≠ cs + 14 → M' q = M q := by
  have hP := hF.1
  intro k
  induction k with
  | zero =>
    intro p n M hk hn h ht hv
    obtain ⟨n, rfl⟩ : ∃ m, n = m + 1 := ⟨n - 1, by omega⟩
    have e : p = R 0 0 := by omega
    refine ⟨M, ?_, by rw [← e]; exact hv, fun _ _ _ => rfl⟩
    rw [f_X0_findTaken_L32, h.1, ifle (by omega) (by omega), if_pos (by omega), bnd_e, nI_1, e]
  | succ k ih =>
    intro p n M hk hn h ht hv
    obtain ⟨n, rfl⟩ : ∃ m, n = m + 1 := ⟨n - 1, by omega⟩
    have hle := lum_le R hl (show p < R 0 0 by omega)
    have hcn := cnF_le (tkc R K) (24 * l + p)
    have ec : tkc R K (24 * l + p) = (decide (0 < R (10 + l) p) && anF (fiN R K l p) 5) := by
      unfold tkc
      rw [show (24 * l + p) % 24 = p by omega, show (24 * l + p) / 24 = l by omega]
      simp [show p < R 0 0 by omega]
    rw [f_X0_findTaken_L32, h.1, ifle (by omega) (by omega), if_neg (by omega), lumpsAt_ok h hl (by omega) hP.2, Option.bind_some, show (0 : Int32) = nI 0 from rfl, ifle (by omega) (by omega)]
    unfold f_X0_findTaken_J84
    have hno : tkc R K (24 * l + p) = false → ∀ M1 : Mm, (∀ q, q ≠ cs + 10 → M1 q = M q) → ∃ M', (bnd (nI p + 1) fun z14 => f_X0_findTaken_L32 cs r0 kb n (nI K) (nI (cnF (tkc R K) (24 * l + p))) (nI l) z14 M1) = kb (nI K) (nI (cnF (tkc R K) (24 * l + R 0 0))) (nI (l + 1)) M' ∧ (∀ j, j < cnF (tkc R K) (24 * l + R 0 0) → M' (cs + 14) j = vlF (tkc R K) (nI j) (24 * l + R 0 0)) ∧ ∀ q, q ≠ cs + 10 → q ≠ cs + 14 → M' q = M q := by
      intro hf M1 hM1
      have e1 : cnF (tkc R K) (24 * l + (p + 1)) = cnF (tkc R K) (24 * l + p) := by
        rw [← Nat.add_assoc, cnF, hf]
        rfl
      have e2 : ∀ q, vlF (tkc R K) q (24 * l + (p + 1)) = vlF (tkc R K) q (24 * l + p) := fun q => by
        rw [← Nat.add_assoc, vlF, hf]
        rfl
      obtain ⟨M', e, b1, b2⟩ := ih (p + 1) n M1 (by omega) (by omega) (h.mono (fun q q1 q2 => hM1 q (by omega))) (ht.mono (fun q q1 q2 => hM1 q (by omega))) (fun j hj => by rw [e1] at hj; rw [e2, hM1 _ (by omega)]; exact hv j hj)
      rw [e1] at e
      refine ⟨M', ?_, b1, fun q q1 q2 => by rw [b2 q q1 q2, hM1 q q1]⟩
      rw [bnd_e, nI_1]
      exact e
    by_cases hz : R (10 + l) p ≤ 0
    · rw [if_pos hz]
      exact hno (by rw [ec]; simp; omega) M (fun _ _ => rfl)
    · obtain ⟨M1, e1, a1⟩ := cfits_ok hF hcs hK hr2 hl (show p < R 0 0 by omega) h ht
      rw [if_neg hz, e1, bd2_some]
      cases hb : anF (fiN R K l p) 5 with
      | false =>
        simp only [Bool.false_eq_true, if_false]
        rw [show nI 0 = (0 : Int32) from rfl, if_pos rfl]
        exact hno (by rw [ec, hb, Bool.and_false]) M1 a1
      | true =>
        have hc : tkc R K (24 * l + p) = true := by
          rw [ec, hb]
          simp
          omega
        have d1 : cnF (tkc R K) (24 * l + (p + 1)) = cnF (tkc R K) (24 * l + p) + 1 := by
          rw [← Nat.add_assoc, cnF, hc]
          rfl
        simp only [if_true]
        rw [if_neg (by decide), ck_nI (by omega) (by omega), bnd_e, bnd_e, cl_nI (by omega), nlit 100, pk_mul, nI_add, nI_1, bnd_e, nI_1, ← d1]
        have kk : ∀ q, q ≠ cs + 10 → q ≠ cs + 14 → up2 M1 (cs + 14) (cnF (tkc R K) (24 * l + p)) (nI (100 * l + p)) q = M q := fun q q1 q2 => by rw [up2_o _ _ _ q2, a1 q q1]
        obtain ⟨M', e, b1, b2⟩ := ih (p + 1) n (up2 M1 (cs + 14) (cnF (tkc R K) (24 * l + p)) (nI (100 * l + p))) (by omega) (by omega) (h.mono (fun q q1 q2 => kk q (by omega) (by omega))) (ht.mono (fun q q1 q2 => kk q (by omega) (by omega))) (fun j hj => by
          rw [d1] at hj
          rw [up2_at, ← Nat.add_assoc, vlF, hc, if_pos rfl, ifeq (by omega) (by omega), a1 _ (by omega)]
          by_cases hj2 : j = cnF (tkc R K) (24 * l + p)
          · rw [if_pos ⟨rfl, hj2⟩, if_pos hj2.symm, show (24 * l + p) / 24 = l by omega, show (24 * l + p) % 24 = p by omega]
          · rw [if_neg (fun q => hj2 q.2), if_neg (fun q => hj2 q.symm)]
            exact hv j (by omega))
        exact ⟨M', e, b1, fun q q1 q2 => by rw [b2 q q1 q2, kk q q1 q2]⟩
theorem tk_gap (hP : R 0 0 ≤ 24) (l : Nat) : cnF (tkc R K) (24 * (l + 1)) = cnF (tkc R K) (24 * l + R 0 0) ∧ ∀ q, vlF (tkc R K) q (24 * (l + 1)) = vlF (tkc R K) q (24 * l + R 0 0) := by
  have := cn_skip (c := tkc R K) (a := 24 * l + R 0 0) (24 - R 0 0) (fun j h1 h2 => by
    unfold tkc
    simp [show ¬ j % 24 < R 0 0 by omega])
  rw [show 24 * l + R 0 0 + (24 - R 0 0) = 24 * (l + 1) by omega] at this
  exact this
theorem ctk24 {zz : Nat} {tu tt : Nat → Nat} (hF : FOk R) (hcs : r0 + 9 ≤ cs) (hK : K ≤ 60) (hr2 : R 0 2 + K < 100000) (hb : tot (R 0 0) R < 2 ^ 31) : ∀ (k l n : Nat) (M : Mm), l + k = 5 → k < n → CRing M r0 tu R → CRing M (cs + 1) tt (updR (rnK R tr1 K) 0 3 zz) → (∀ j, j < cnF (tkc R K) (24 * l) → M (cs + 14) j = vlF (tkc R K) (nI j) (24 * l)) → ∃ M', f_X0_findTaken_L24 cs r0 n (nI K) (nI (cnF (tkc R K) (24 * l))) (nI l) M = some (nI (cnF (tkc R K) 120), M') ∧ (∀ j, j < cnF (tkc R K) 120 → M' (cs + 14) j = vlF (tkc R K) (nI j) 120) ∧ ∀ q, q ≠ cs + 10 → q ≠ cs + 14 → M' q = M q := by
  have hP := hF.1
  intro k
  induction k with
  | zero =>
    intro l n M hk hn h ht hv
    obtain ⟨n, rfl⟩ : ∃ m, n = m + 1 := ⟨n - 1, by omega⟩
    have e : l = 5 := by omega
    subst e
    refine ⟨M, ?_, hv, fun _ _ _ => rfl⟩
    rw [f_X0_findTaken_L24, nlit 5, ifle (by omega) (by omega), if_pos (by omega)]
  | succ k ih =>
    intro l n M hk hn h ht hv
    obtain ⟨n, rfl⟩ : ∃ m, n = m + 1 := ⟨n - 1, by omega⟩
    obtain ⟨g1, g2⟩ := tk_gap (R := R) (K := K) hP.2 l
    obtain ⟨M1, e1, a1, a2⟩ := ctk32 (cs := cs) (l := l) hF hcs hK hr2 (by omega) hb (fun x1 x2 x3 M => f_X0_findTaken_L24 cs r0 n x1 x2 x3 M) (R 0 0) 0 2000 M (by omega) (by omega) h ht hv
    obtain ⟨M2, e2, b1, b2⟩ := ih (l + 1) n M1 (by omega) (by omega) (h.mono (fun q q1 q2 => a2 q (by omega) (by omega))) (ht.mono (fun q q1 q2 => a2 q (by omega) (by omega))) (fun j hj => by rw [g1] at hj; rw [g2]; exact a1 j hj)
    refine ⟨M2, ?_, b1, fun q q1 q2 => by rw [b2 q q1 q2, a2 q q1 q2]⟩
    rw [f_X0_findTaken_L24, nlit 5, ifle (by omega) (by omega), if_neg (by omega)]
    rw [g1] at e2
    exact e1.trans e2
end TKC
section TKM
variable {y K : Nat} {R : Rg}
theorem mit5 {l p : Nat} {M : Mm} {s1 : Int32} (hM : MRing M (y + 1) 0 R) (h9 : ∀ i, i < 5 → M (y + 9) i = nI (smF (rnK R tr1 K (10 + i)) (R 0 0))) (hs : ∀ i, i < 5 → (nI i = s1 ↔ i + 3 = (foF R 1 (l + 3) p 0 K).1)) : ∀ (k i n : Nat), i + k = 5 → k < n → f_X12_isTold_L5 y M n s1 (nI (R (10 + l) p)) (if anF (fiN R K l p) i then 1 else 0) (nI i) = some (if anF (fiN R K l p) 5 then 1 else 0) := by
  intro k
  induction k with
  | zero =>
    intro i n hi hn
    obtain ⟨n, rfl⟩ : ∃ m, n = m + 1 := ⟨n - 1, by omega⟩
    have e : i = 5 := by omega
    subst e
    rw [f_X12_isTold_L5, nlit 5, ifle (by omega) (by omega), if_pos (by omega)]
    cases anF (fiN R K l p) 5 <;> rfl
  | succ k ih =>
    intro i n hi hn
    obtain ⟨n, rfl⟩ : ∃ m, n = m + 1 := ⟨n - 1, by omega⟩
    have ih' := ih (i + 1) n (by omega) (by omega)
    rw [anF] at ih'
    have g : M (y + 1) (143 + i) = nI (R 2 i) := by
      have := (hM.2.1 i (by omega)).2
      rwa [Nat.zero_add] at this
    rw [f_X12_isTold_L5, nlit 5, ifle (by omega) (by omega), if_neg (by omega), boolI]
    unfold f_X12_isTold_J33 f_X12_isTold_J52 f_X12_isTold_J53
    rw [bnd_e, bnd_e, ck_nI (by omega) (by omega), nlit 143, nI_add, ck_nI (by omega) (by omega), ck_nI (by omega) (by omega), cl_nI (by omega), cl_nI (by omega), h9 i (by omega), g, nI_1]
    cases ha : anF (fiN R K l p) i with
    | false =>
      rw [ha, Bool.false_and] at ih'
      simp only [Bool.false_eq_true, if_false] at ih' ⊢
      exact ih'
    | true =>
      rw [ha, Bool.true_and] at ih'
      simp only [if_true]
      have key : (if (nI (smF (rnK R tr1 K (10 + i)) (R 0 0)) - (if i + 3 = (foF R 1 (l + 3) p 0 K).1 then nI (R (10 + l) p) else 0)) = nI (R 2 i) then f_X12_isTold_L5 y M n s1 (nI (R (10 + l) p)) 1 (nI (i + 1)) else f_X12_isTold_L5 y M n s1 (nI (R (10 + l) p)) 0 (nI (i + 1))) = some (if anF (fiN R K l p) 5 then 1 else 0) := by
        by_cases hq : nI (smF (rnK R tr1 K (10 + i)) (R 0 0)) - (if i + 3 = (foF R 1 (l + 3) p 0 K).1 then nI (R (10 + l) p) else 0) = nI (R 2 i)
        · rw [if_pos hq]
          have hf : fiN R K l p i = true := by simp [fiN, hq]
          rw [hf] at ih'
          exact ih'
        · rw [if_neg hq]
          have hf : fiN R K l p i = false := by simp [fiN, hq]
          rw [hf] at ih'
          exact ih'
      by_cases he : i + 3 = (foF R 1 (l + 3) p 0 K).1
      · rw [if_pos ((hs i (by omega)).mpr he)]
        rw [if_pos he] at key
        exact key
      · rw [if_neg (fun q => he ((hs i (by omega)).mp q))]
        rw [if_neg he] at key
        exact key
theorem mtk77 (hF : FOk R) (hK : K ≤ 60) (hr2 : R 0 2 + K < 100000) (hb : tot (R 0 0) R < 2 ^ 31) (q : Int32) : ∀ (k a n : Nat) (M : Mm), a + k = 120 → k < n → MRing M (y + 1) 0 R → (∀ i, i < 5 → M (y + 9) i = nI (smF (rnK R tr1 K (10 + i)) (R 0 0))) → ∃ M', f_X12_taken_L77 y n (nI K) q (nI (cnF (tkc R K) a)) (vlF (tkc R K) q a) (nI a) M = some (if q = (-1 : Int32) then nI (cnF (tkc R K) 120) else vlF (tkc R K) q 120, M') ∧ (∀ q, q ≠ y → q ≠ y + 5 → q ≠ y + 7 → M' q = M q) ∧ M' y 18 = M y 18 := by
  have hP := hF.1
  intro k
  induction k with
  | zero =>
    intro a n M hk hn hM h9
    obtain ⟨n, rfl⟩ : ∃ m, n = m + 1 := ⟨n - 1, by omega⟩
    have e : a = 120 := by omega
    subst e
    refine ⟨M, ?_, fun _ _ _ _ => rfl, rfl⟩
    rw [f_X12_taken_L77, nlit 120, ifle (by omega) (by omega), if_pos (by omega)]
    split <;> rfl
  | succ k ih =>
    intro a n M hk hn hM h9
    obtain ⟨n, rfl⟩ : ∃ m, n = m + 1 := ⟨n - 1, by omega⟩
    have g : M (y + 1) (6 + a) = nI (if a % 24 < R 0 0 then R (10 + a / 24) (a % 24) else 0) := by
      have := hM.2.2.1.at (show a < 120 by omega)
      rwa [Nat.zero_add] at this
    have hbn : (if a % 24 < R 0 0 then R (10 + a / 24) (a % 24) else 0) < 2 ^ 31 := by
      split
      · have := lum_le R (show a / 24 < 5 by omega) (show a % 24 < R 0 0 by assumption)
        omega
      · omega
    rw [f_X12_taken_L77, nlit 120, ifle (by omega) (by omega), if_neg (by omega), nlit 6, nI_add, ck_nI (by omega) (by omega), bnd_e, cl_nI (by omega), g, show (0 : Int32) = nI 0 from rfl, ifle hbn (by omega)]
    have hno : tkc R K a = false → ∀ M1 : Mm, (∀ q, q ≠ y → q ≠ y + 5 → q ≠ y + 7 → M1 q = M q) → M1 y 18 = M y 18 → ∃ M', f_X12_taken_J173 y (nI K) q (nI (cnF (tkc R K) a)) (vlF (tkc R K) q a) (nI a) M1 (fun x1 x2 x4 x5 x6 M => f_X12_taken_L77 y n x1 x2 x4 x5 x6 M) = some (if q = (-1 : Int32) then nI (cnF (tkc R K) 120) else vlF (tkc R K) q 120, M') ∧ (∀ q, q ≠ y → q ≠ y + 5 → q ≠ y + 7 → M' q = M q) ∧ M' y 18 = M y 18 := by
      intro hf M1 hM1 h18
      have m1 : MRing M1 (y + 1) 0 R := by
        unfold MRing MLum at hM ⊢
        rw [hM1 _ (by omega) (by omega) (by omega)]
        exact hM
      obtain ⟨M', e, b1, b2⟩ := ih (a + 1) n M1 (by omega) (by omega) m1 (fun i hi => by rw [hM1 _ (by omega) (by omega) (by omega)]; exact h9 i hi)
      refine ⟨M', ?_, fun q q1 q2 q3 => by rw [b1 q q1 q2 q3, hM1 q q1 q2 q3], by rw [b2, h18]⟩
      unfold f_X12_taken_J173
      rw [bnd_e, nI_1]
      rw [cnF, vlF, hf] at e
      exact e
    by_cases hz : (if a % 24 < R 0 0 then R (10 + a / 24) (a % 24) else 0) ≤ 0
    · rw [if_pos hz]
      refine hno ?_ M (fun _ _ _ _ => rfl) rfl
      unfold tkc
      by_cases hp : a % 24 < R 0 0
      · rw [if_pos hp] at hz
        simp [show ¬ 0 < R (10 + a / 24) (a % 24) by omega]
      · simp [hp]
    · rw [if_neg hz]
      have hp : a % 24 < R 0 0 := Decidable.by_contra (fun hp => hz (by rw [if_neg hp]; omega))
      rw [if_pos hp] at hz ⊢
      obtain ⟨M1, e1, b0, -, -, b3, b4⟩ := mgoOneOn_ok hM hF hK hr2 (show a / 24 < 5 by omega) hp
      have m1 : MRing M1 (y + 1) 0 R := by
        unfold MRing MLum at hM ⊢
        rw [b3 _ (by omega) (by omega) (by omega)]
        exact hM
      have h91 : ∀ i, i < 5 → M1 (y + 9) i = nI (smF (rnK R tr1 K (10 + i)) (R 0 0)) := fun i hi => by rw [b3 _ (by omega) (by omega) (by omega)]; exact h9 i hi
      have hzl := (foF_ok R K 1 (a / 24 + 3) (a % 24) 0 (by omega) hp).1
      have ec : tkc R K a = anF (fiN R K (a / 24) (a % 24)) 5 := by
        unfold tkc
        simp [hp, show 0 < R (10 + a / 24) (a % 24) by omega]
      have hcn := cnF_le (tkc R K) a
      have hj : ∀ s1 : Int32, (∀ i, i < 5 → (nI i = s1 ↔ i + 3 = (foF R 1 (a / 24 + 3) (a % 24) 0 K).1)) → ∃ M', f_X12_taken_J135 y (nI K) q (nI (cnF (tkc R K) a)) (vlF (tkc R K) q a) (nI a) (nI (R (10 + a / 24) (a % 24))) s1 M1 (fun x1 x2 x4 x5 x6 M => f_X12_taken_L77 y n x1 x2 x4 x5 x6 M) = some (if q = (-1 : Int32) then nI (cnF (tkc R K) 120) else vlF (tkc R K) q 120, M') ∧ (∀ q, q ≠ y → q ≠ y + 5 → q ≠ y + 7 → M' q = M q) ∧ M' y 18 = M y 18 := by
        intro s1 hs
        have et : f_X12_isTold y s1 (nI (R (10 + a / 24) (a % 24))) M1 = some (if anF (fiN R K (a / 24) (a % 24)) 5 then 1 else 0) := mit5 m1 h91 hs 5 0 2000 (by omega) (by omega)
        unfold f_X12_taken_J135
        rw [et, Option.bind_some, boolI]
        cases hb5 : anF (fiN R K (a / 24) (a % 24)) 5 with
        | false =>
          simp only [Bool.false_eq_true, if_false]
          exact hno (by rw [ec, hb5]) M1 b3 b4
        | true =>
          have hc : tkc R K a = true := by rw [ec, hb5]
          simp only [if_true]
          obtain ⟨M', e, d1, d2⟩ := ih (a + 1) n M1 (by omega) (by omega) m1 h91
          refine ⟨M', ?_, fun q q1 q2 q3 => by rw [d1 q q1 q2 q3, b3 q q1 q2 q3], by rw [d2, b4]⟩
          rw [cnF, vlF, hc, if_pos rfl, if_pos rfl] at e
          rw [nlit 24, cz_nI (by omega) (by omega), cz_nI (by omega) (by omega), pk_div (by omega) (by omega) (by omega), jr_nI (by omega) (by omega) (by omega), nlit 100, pk_mul, nI_add]
          unfold f_X12_taken_J168 f_X12_taken_J173
          rw [bnd_e, bnd_e, bnd_e, bnd_e, nI_1, nI_1]
          by_cases hq : nI (cnF (tkc R K) a) = q
          · rw [if_pos hq] at e ⊢
            exact e
          · rw [if_neg hq] at e ⊢
            exact e
      rw [nlit 24, cz_nI (by omega) (by omega), cz_nI (by omega) (by omega), pk_div (by omega) (by omega) (by omega), jr_nI (by omega) (by omega) (by omega), e1, Option.bind_some, b0, mlane_ok, Option.bind_some]
      by_cases hl3 : 3 ≤ (foF R 1 (a / 24 + 3) (a % 24) 0 K).1 ∧ (foF R 1 (a / 24 + 3) (a % 24) 0 K).1 < 8
      · rw [show nI 0 = (0 : Int32) from rfl, ite_b01, if_pos ((lane_z hzl).mpr hl3)]
        exact hj _ (fun i hi => eq_lane hi hzl)
      · rw [show nI 0 = (0 : Int32) from rfl, ite_b01, if_neg (fun w => hl3 ((lane_z hzl).mp w))]
        exact hj _ (fun i hi => ⟨fun w => absurd w (nI_ne_m1 (by omega)), fun w => by omega⟩)
theorem mtk32 (q : Int32) (hP : R 0 0 ≤ 24) : ∀ (k i n : Nat) (M : Mm), i + k = 5 → k < n → M (y + 1) 0 = nI (R 0 0) → HRing M y (rnK R tr1 K) → ∃ M', f_X12_taken_L32 y n (nI K) q (nI i) M = f_X12_taken_L77 y 2000 (nI K) q (nI 0) (-5 : Int32) (nI 0) M' ∧ (∀ j, i ≤ j → j < 5 → M' (y + 9) j = nI (smF (rnK R tr1 K (10 + j)) (R 0 0))) ∧ (∀ j, j < i → M' (y + 9) j = M (y + 9) j) ∧ ∀ q, q ≠ y + 9 → M' q = M q := by
  have e00 : rnK R tr1 K 0 0 = R 0 0 := rnK_sf tr1 K R 0 0 (by omega) (by omega) (by omega)
  intro k
  induction k with
  | zero =>
    intro i n M hi hn h0 hH
    obtain ⟨n, rfl⟩ : ∃ m, n = m + 1 := ⟨n - 1, by omega⟩
    refine ⟨M, ?_, fun j h1 h2 => by omega, fun _ _ => rfl, fun _ _ => rfl⟩
    rw [f_X12_taken_L32, nlit 5, ifle (by omega) (by omega), if_pos (by omega)]
    rfl
  | succ k ih =>
    intro i n M hi hn h0 hH
    obtain ⟨n, rfl⟩ : ∃ m, n = m + 1 := ⟨n - 1, by omega⟩
    have hs : f_X12_sumOf (y + 5) 120 (nI (24 * i)) (nI (R 0 0)) M = some (nI (smF (rnK R tr1 K (10 + i)) (R 0 0))) := sumOf_ok (by omega) (by omega) (fun j hj => by
      have := hH.1 i j (by omega) (by omega)
      rw [Nat.zero_add, e00, if_pos hj] at this
      exact this)
    obtain ⟨M', e, a1, a2, a3⟩ := ih (i + 1) n (up2 M (y + 9) i (nI (smF (rnK R tr1 K (10 + i)) (R 0 0)))) (by omega) (by omega) (by rw [up2_o _ _ _ (by omega)]; exact h0) ⟨fun l p hl hp => by rw [up2_o _ _ _ (by omega)]; exact hH.1 l p hl hp, fun j hj => by rw [up2_o _ _ _ (by omega)]; exact hH.2 j hj⟩
    refine ⟨M', ?_, fun j h1 h2 => ?_, fun j hj => ?_, fun q hq => by rw [a3 q hq, up2_o _ _ _ hq]⟩
    · rw [f_X12_taken_L32, nlit 5, ifle (by omega) (by omega), if_neg (by omega), mplaces_ok, Option.bind_some, h0, nlit 24, pk_mul, hs, Option.bind_some, ck_nI (by omega) (by omega), bnd_e, bnd_e, cl_nI (by omega), nI_1]
      exact e
    · by_cases h : j = i
      · subst h
        rw [a2 j (by omega), up2_at, if_pos ⟨rfl, rfl⟩]
      · exact a1 j (by omega) h2
    · rw [a2 j (by omega), up2_at, if_neg (by omega)]
end TKM
section STD
variable {x y k : Nat} {M : Mm} {N : Ml}
theorem s_taken (hy : y = x + 234) (hk : k < 320) (q0 q1 : Int32) (hI : IInv x y k M N) : ∃ (v : Int32) (M1 M2 : Mm), f_X11_taken x q0 q1 M = some (v, M1) ∧ f_X12_taken y q0 q1 M1 = some (v, M2) ∧ IInv x y (k + 5) M2 N := by
  obtain ⟨R, tu, c1, m1, s⟩ := hI.ring
  have hF := s.fok (by omega)
  have hP := hF.1
  have h4 := hF.2.1
  have hr := s.2.2.1
  have htot := s.2.2.2.2.2.2
  unfold f_X11_taken f_X12_taken f_X11_taken_J12 f_X12_taken_J12
  rw [isRounds_ok, Option.bind_some, ite_b01]
  by_cases d : (0 : Int32) ≤ q0 ∧ q0 ≤ 60
  · rw [if_pos d]
    by_cases g : (-1 : Int32) ≤ q1
    · rw [if_pos g]
      obtain ⟨K, hK, rfl⟩ := in_nat (b := 60) (by omega) d
      have cc := c1.copied (a := x + 204 + 1) hP.2 h4
      obtain ⟨w, M1, tt, zz, e1, a1, a2, a3⟩ := cgoBy_ok cc hF hK (by omega)
      have k1 : ∀ q, (q < x + 205 ∨ x + 214 ≤ q) → M1 q = M q := fun q hq => by rw [a3 q (by omega) (by omega) (by omega) (by omega), cpM_o _ _ _ _ (by omega)]
      obtain ⟨M2, e2, b1, b2⟩ := ctk24 (cs := x + 204) (r0 := x + 7 + 1) hF (by omega) hK (by omega) (by omega) 5 0 2000 M1 (by omega) (by omega) (c1.mono (fun q q1 q2 => k1 q (by omega))) a1 (fun j hj => absurd hj (Nat.not_lt_zero j))
      have ef : f_X0_findTaken (x + 204) (x + 7 + 1) (nI K) M = some (nI (cnF (tkc R K) 120), M2) := by
        unfold f_X0_findTaken
        rw [copy_ok M _ _ (R 0 1) (by omega) h4 c1.2.1, Option.bind_some, e1, bd2_some]
        exact e2
      have k2 : ∀ q, (q < x + 205 ∨ x + 219 ≤ q) → M2 q = M q := fun q hq => by rw [b2 q (by omega) (by omega), k1 q (by omega)]
      have m1' : MRing M2 (y + 1) 0 R := by
        unfold MRing MLum at m1 ⊢
        rw [k2 _ (by omega)]
        exact m1
      obtain ⟨w2, M3, e3, d1, d2, d3⟩ := mlossOf_ok (K := K) m1' hF (sOk_all s.2.1) hK (by omega)
      rw [rnK_cong (s' := tr1) K R (fun j hj => by simp [tr1, hj])] at d1
      obtain ⟨M4, e4, f1, -, f3⟩ := mtk32 (y := y) (R := R) (K := K) q1 hP.2 5 0 2000 M3 (by omega) (by omega) (by rw [d3.1 _ (by omega)]; exact m1'.1) d1
      have m4 : MRing M4 (y + 1) 0 R := by
        unfold MRing MLum at m1' ⊢
        rw [f3 _ (by omega), d3.1 _ (by omega)]
        exact m1'
      obtain ⟨M5, e5, g1, g2⟩ := mtk77 (y := y) hF hK (by omega) (by omega) q1 120 0 2000 M4 (by omega) (by omega) m4 (fun i hi => f1 i (by omega) hi)
      have hcn := cnF_le (tkc R K) 120
      refine ⟨if q1 = (-1 : Int32) then nI (cnF (tkc R K) 120) else vlF (tkc R K) q1 120, M2, M5, ?_, ?_, ?_⟩
      · rw [ef, bd2_some]
        by_cases h1 : q1 = (-1 : Int32)
        · rw [if_pos h1, if_pos h1]
        · have h0 : ¬ q1 < 0 := by
            intro hlt
            apply h1
            apply Int32.toInt_inj.mp
            have e1 : (-1 : Int32).toInt = -1 := by decide
            have e0 : (0 : Int32).toInt = 0 := by decide
            rw [Int32.le_iff_toInt_le] at g
            rw [Int32.lt_iff_toInt_lt] at hlt
            omega
          obtain ⟨i, hi, rfl⟩ := nI_of h0
          rw [if_neg h1, if_neg h1, ifle (by omega) hi]
          by_cases hle : cnF (tkc R K) 120 ≤ i
          · rw [if_pos hle, vl_out hi (by omega) hle]
          · unfold f_X0_takenAt
            rw [if_neg hle, ck_nI (by omega) (by omega), Option.bind_some, cl_nI (by omega), b1 i (by omega)]
      · rw [isLong_ok, Option.bind_some, ite_b01, if_pos d, if_pos g, all_ok m1'.2.2.2.1 h4, Option.bind_some, e3, bd2_some]
        exact e4.trans e5
      · exact hI.scratch hy (fun q hq => by rw [g1 q (by omega) (by omega) (by omega), f3 q (by omega), d3.1 q (by omega), k2 q (by omega)]) (by rw [g1 _ (by omega) (by omega) (by omega), f3 _ (by omega), d3.1 _ (by omega), k2 _ (by omega)]) (by rw [g2, f3 _ (by omega), d3.2, k2 _ (by omega)])
    · rw [if_neg g, rj]
      refine ⟨_, _, _, rfl, ?_, hI.refused hy (w := 0) (by omega)⟩
      rw [isLong_ok, Option.bind_some, ite_b01, if_pos d, if_neg g, bj]
  · rw [if_neg d, rj]
    refine ⟨_, _, _, rfl, ?_, hI.refused hy (w := 0) (by omega)⟩
    rw [isLong_ok, Option.bind_some, ite_b01, if_neg d, bj]
end STD
