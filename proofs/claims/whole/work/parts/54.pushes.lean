/-! pushes -/
def mn (a b : Nat) : Nat := if b < a then b else a
theorem mn_le (a b : Nat) : mn a b ≤ a := by
  unfold mn
  split <;> omega
theorem jmin_mn {a b : Nat} (ha : a < 2 ^ 31) (hb : b < 2 ^ 31) : jmin (nI a) (nI b) = nI (mn a b) := jmin_nI ha hb
def lfW (D : Nat) (R : Rg) (w : Nat → Nat → Nat) (r m p : Nat) : Nat := if 1 ≤ m ∧ m ≤ 5 then (if 3 ≤ (gnF R r (m + 2) p 0).1 ∧ (gnF R r (m + 2) p 0).1 < 8 then w ((gnF R r (m + 2) p 0).1 - 3) (gnF R r (m + 2) p 0).2.1 else D) else D
def psW (D : Nat) (R : Rg) (K : Nat) : Nat → Nat → Nat → Nat
  | 0 => fun _ _ => 0
  | j + 1 => fun l p => mn (lfW D R (psW D R K j) (K - j) (l + 1) p) (1 + mn (lfW D R (psW D R K j) (K - j) l p) (lfW D R (psW D R K j) (K - j) (l + 2) p))
theorem lfW_le {D : Nat} {R : Rg} {w : Nat → Nat → Nat} (hw : ∀ l p, w l p ≤ D) (r m p : Nat) : lfW D R w r m p ≤ D := by
  unfold lfW
  split
  · split
    · exact hw _ _
    · omega
  · omega
theorem psW_le (D : Nat) (R : Rg) (K : Nat) : ∀ j l p, psW D R K j l p ≤ D
  | 0, _, _ => Nat.zero_le D
  | j + 1, l, p => by
    have h := lfW_le (R := R) (psW_le D R K j) (K - j) (l + 1) p
    exact Nat.le_trans (mn_le _ _) h
def psRel (j a b : Nat) : Prop := (a = b ∧ a ≤ j) ∨ (a = 1000 ∧ b = 100000000)
theorem lfW_rel {R : Rg} {w w' : Nat → Nat → Nat} {j : Nat} (h : ∀ l p, psRel j (w l p) (w' l p)) (r m p : Nat) : psRel j (lfW 1000 R w r m p) (lfW 100000000 R w' r m p) := by
  unfold lfW
  split
  · split
    · exact h _ _
    · exact Or.inr ⟨rfl, rfl⟩
  · exact Or.inr ⟨rfl, rfl⟩
theorem psW_rel (R : Rg) (K : Nat) : ∀ j, j ≤ 12 → ∀ l p, psRel j (psW 1000 R K j l p) (psW 100000000 R K j l p)
  | 0, _, _, _ => Or.inl ⟨rfl, Nat.le_refl 0⟩
  | j + 1, hj, l, p => by
    have h := psW_rel R K j (by omega)
    have h1 := lfW_rel (R := R) h (K - j) (l + 1) p
    have h2 := lfW_rel (R := R) h (K - j) l p
    have h3 := lfW_rel (R := R) h (K - j) (l + 2) p
    show psRel (j + 1) (mn _ (1 + mn _ _)) (mn _ (1 + mn _ _))
    generalize lfW 1000 R (psW 1000 R K j) (K - j) (l + 1) p = a1 at *
    generalize lfW 1000 R (psW 1000 R K j) (K - j) l p = a2 at *
    generalize lfW 1000 R (psW 1000 R K j) (K - j) (l + 2) p = a3 at *
    generalize lfW 100000000 R (psW 100000000 R K j) (K - j) (l + 1) p = b1 at *
    generalize lfW 100000000 R (psW 100000000 R K j) (K - j) l p = b2 at *
    generalize lfW 100000000 R (psW 100000000 R K j) (K - j) (l + 2) p = b3 at *
    unfold psRel mn at *
    rcases h1 with ⟨rfl, h1⟩ | ⟨rfl, rfl⟩ <;> rcases h2 with ⟨rfl, h2⟩ | ⟨rfl, rfl⟩ <;> rcases h3 with ⟨rfl, h3⟩ | ⟨rfl, rfl⟩ <;> ((repeat' split) <;> omega)
theorem onF_t (R : Rg) (p : Nat) : ∀ (k m z t t' : Nat), (onF R p m z t k).1 = (onF R p m z t' k).1 := by
  intro k
  induction k with
  | zero => intro m z t t'; rfl
  | succ k ih =>
    intro m z t t'
    rw [onF, onF]
    split
    · split
      · exact ih _ _ _ _
      · exact ih _ _ _ _
    · rfl
theorem gnF_t (R : Rg) (r z p t : Nat) : (gnF R r z p t).1 = (gnF R r z p 0).1 ∧ (gnF R r z p t).2.1 = (gnF R r z p 0).2.1 := by
  unfold gnF
  split
  · exact ⟨onF_t _ _ _ _ _ _ _, rfl⟩
  · exact ⟨rfl, rfl⟩
theorem nI_any (v : Int32) : ∃ t, v = nI t := ⟨v.toBitVec.toNat, by
  apply Int32.toBitVec_inj.mp
  apply BitVec.eq_of_toNat_eq
  rw [pk_tn v.toBitVec.isLt]⟩
/-! the sum -/
def nnR (R : Rg) (a : Nat) : Nat := if a % 24 < R 0 0 then R (10 + a / 24) (a % 24) else 0
def pfF (R : Rg) (w : Nat → Nat → Nat) (D a s : Nat) : Nat → Option Nat
  | 0 => some s
  | k + 1 => if 0 < nnR R a ∧ D ≤ w (a / 24) (a % 24) then none else pfF R w D (a + 1) (s + nnR R a * w (a / 24) (a % 24)) k
theorem pfF_split (R : Rg) (w : Nat → Nat → Nat) (D : Nat) (k2 : Nat) : ∀ (k1 a s : Nat), pfF R w D a s (k1 + k2) = (pfF R w D a s k1).bind (fun s' => pfF R w D (a + k1) s' k2) := by
  intro k1
  induction k1 with
  | zero => intro a s; rw [Nat.zero_add]; rfl
  | succ k ih =>
    intro a s
    rw [show k + 1 + k2 = k + k2 + 1 by omega, pfF, pfF]
    split
    · rfl
    · rw [ih, show a + 1 + k = a + (k + 1) by omega]
theorem pfF_gap (R : Rg) (w : Nat → Nat → Nat) (D : Nat) : ∀ (k a s : Nat), (∀ j, a ≤ j → j < a + k → nnR R j = 0) → pfF R w D a s k = some s := by
  intro k
  induction k with
  | zero => intro a s _; rfl
  | succ k ih =>
    intro a s h
    have h0 := h a (by omega) (by omega)
    rw [pfF, h0, if_neg (by omega), Nat.zero_mul, Nat.add_zero]
    exact ih (a + 1) s (fun j h1 h2 => h j (by omega) (by omega))
theorem pfF_rel (R : Rg) (K j : Nat) (hj : j ≤ 12) : ∀ (k a s : Nat), pfF R (psW 1000 R K j) 1000 a s k = pfF R (psW 100000000 R K j) 100000000 a s k := by
  intro k
  induction k with
  | zero => intro a s; rfl
  | succ k ih =>
    intro a s
    rw [pfF, pfF]
    have h := psW_rel R K j hj (a / 24) (a % 24)
    unfold psRel at h
    by_cases hn : nnR R a = 0
    · rw [hn, if_neg (by omega), if_neg (by omega), Nat.zero_mul, Nat.zero_mul]
      exact ih _ _
    · rcases h with ⟨h1, h2⟩ | ⟨h1, h2⟩
      · rw [if_neg (by omega), if_neg (by omega), h1]
        exact ih _ _
      · rw [if_pos (by omega), if_pos (by omega)]
section PSC
variable {cs r0 : Nat} {R : Rg}
theorem cel (l p : Nat) (M : Mm) : f_X0_cell (nI l) (nI p) M = some (nI (24 * l + p)) := by
  unfold f_X0_cell
  rw [nlit 24, pk_mul, nI_add, Nat.mul_comm]
theorem clv9 {tu : Nat → Nat} {w : Nat → Nat → Nat} {r l : Nat} (hF : FOk R) (hcs : r0 + 9 ≤ cs) (hr : r ≤ 60) (hr2 : R 0 2 + r < 100000) (hl : l < 5) (kb : Int32 → Int32 → Mm → Option Mm) : ∀ (k p n : Nat) (M : Mm), p + k = R 0 0 → k < n → CRing M r0 tu R → (∀ l' p', l' < 5 → p' < R 0 0 → M (cs + 12) (24 * l' + p') = nI (w l' p')) → (∀ l' p', l' < 5 → p' < R 0 0 → (l' < l ∨ (l' = l ∧ p' < p)) → M (cs + 13) (24 * l' + p') = nI (lfW 1000 R w r (l' + 1) p')) → ∃ M', f_X0_leaveInRound_L9 cs r0 kb n (nI r) (nI l) (nI p) M = kb (nI r) (nI (l + 1)) M' ∧ (∀ l' p', l' < 5 → p' < R 0 0 → l' < l + 1 → M' (cs + 13) (24 * l' + p') = nI (lfW 1000 R w r (l' + 1) p')) ∧ ∀ q, q ≠ cs + 10 → q ≠ cs + 13 → M' q = M q := by
  have hP := hF.1
  intro k
  induction k with
  | zero =>
    intro p n M hk hn h hw hv
    obtain ⟨n, rfl⟩ : ∃ m, n = m + 1 := ⟨n - 1, by omega⟩
    refine ⟨M, ?_, fun l' p' h1 h2 h3 => hv l' p' h1 h2 (by omega), fun _ _ _ => rfl⟩
    rw [f_X0_leaveInRound_L9, h.1, ifle (by omega) (by omega), if_pos (by omega), bnd_e, nI_1]
  | succ k ih =>
    intro p n M hk hn h hw hv
    obtain ⟨n, rfl⟩ : ∃ m, n = m + 1 := ⟨n - 1, by omega⟩
    generalize hL : up2 (up2 (up2 M (cs + 10) 0 (nI l)) (cs + 10) 1 (nI p)) (cs + 10) 2 0 = L
    have kL : ∀ q, q ≠ cs + 10 → L q = M q := fun q hq => by rw [← hL, up2_o _ _ _ hq, up2_o _ _ _ hq, up2_o _ _ _ hq]
    have lie : f_X2_lie (cs + 10) (nI l) (nI p) M = some L := by
      unfold f_X2_lie
      rw [bnd_e, bnd_e, bnd_e, hL]
    obtain ⟨M1, e1, a0, a1, a2, a3⟩ := cgn_ok (a := cs + 10) (r := r) (z := l + 3) (p := p) (t := 0) (h.mono (fun q q1 q2 => kL q (by omega)) : CRing L r0 tu R) hF (by omega) (by omega) hr hr2 (by omega) (by
      rw [← hL, up2_at, if_neg (by omega), up2_at, if_neg (by omega), up2_at, if_pos ⟨rfl, rfl⟩, pk_sub (by omega)]
      rfl) (by rw [← hL, up2_at, if_neg (by omega), up2_at, if_pos ⟨rfl, rfl⟩]) (by
      rw [← hL, up2_at, if_pos ⟨rfl, rfl⟩]
      rfl)
    have k1 : ∀ q, q ≠ cs + 10 → M1 q = M q := fun q hq => by rw [a3 q hq, kL q hq]
    have hg := gnF_ok R r 0 (show l + 3 ≤ 10 by omega) (show p < R 0 0 by omega)
    have elf : lfW 1000 R w r (l + 1) p = if 3 ≤ (gnF R r (l + 3) p 0).1 ∧ (gnF R r (l + 3) p 0).1 < 8 then w ((gnF R r (l + 3) p 0).1 - 3) (gnF R r (l + 3) p 0).2.1 else 1000 := by
      unfold lfW
      rw [if_pos (by omega), show l + 1 + 2 = l + 3 by omega]
    have hj : ∀ s2 : Int32, s2 = nI (lfW 1000 R w r (l + 1) p) → ∃ M', f_X0_leaveInRound_J88 cs r0 (nI r) (nI l) (nI p) (nI (24 * l + p)) s2 M1 kb (fun x1 x2 x3 M => f_X0_leaveInRound_L9 cs r0 kb n x1 x2 x3 M) = kb (nI r) (nI (l + 1)) M' ∧ (∀ l' p', l' < 5 → p' < R 0 0 → l' < l + 1 → M' (cs + 13) (24 * l' + p') = nI (lfW 1000 R w r (l' + 1) p')) ∧ ∀ q, q ≠ cs + 10 → q ≠ cs + 13 → M' q = M q := by
      intro s2 es
      unfold f_X0_leaveInRound_J88
      rw [ck_nI (by omega) (by omega), bnd_e, bnd_e, cl_nI (by omega), nI_1]
      have k2 : ∀ q, q ≠ cs + 10 → q ≠ cs + 13 → up2 M1 (cs + 13) (24 * l + p) s2 q = M q := fun q q1 q2 => by rw [up2_o _ _ _ q2, k1 q q1]
      obtain ⟨M', e, b1, b2⟩ := ih (p + 1) n (up2 M1 (cs + 13) (24 * l + p) s2) (by omega) (by omega) (h.mono (fun q q1 q2 => k2 q (by omega) (by omega))) (fun l' p' h1 h2 => by rw [k2 _ (by omega) (by omega)]; exact hw l' p' h1 h2) (fun l' p' h1 h2 h3 => by
        rw [up2_at]
        by_cases he : l' = l ∧ p' = p
        · rw [if_pos (by omega), es, he.1, he.2]
        · rw [if_neg (by omega), k1 _ (by omega)]
          exact hv l' p' h1 h2 (by omega))
      exact ⟨M', e, b1, fun q q1 q2 => by rw [b2 q q1 q2, k2 q q1 q2]⟩
    rw [f_X0_leaveInRound_L9, h.1, ifle (by omega) (by omega), if_neg (by omega), lie, Option.bind_some, e1, Option.bind_some, cel, Option.bind_some, isLost_ok a0 hg.1, Option.bind_some]
    by_cases hz : 3 ≤ (gnF R r (l + 3) p 0).1 ∧ (gnF R r (l + 3) p 0).1 < 8
    · rw [if_pos hz, if_pos rfl, a0, a1, pk_sub hz.1, cel, Option.bind_some, ck_nI (by omega) (by omega), cl_nI (by omega), k1 (cs + 12) (by omega), hw _ _ (by omega) hg.2]
      exact hj _ (by rw [elf, if_pos hz])
    · rw [if_neg hz, if_neg (by decide)]
      exact hj _ (by rw [elf, if_neg hz]; rfl)
theorem clv2 {tu : Nat → Nat} {w : Nat → Nat → Nat} {r : Nat} (hF : FOk R) (hcs : r0 + 9 ≤ cs) (hr : r ≤ 60) (hr2 : R 0 2 + r < 100000) : ∀ (k l n : Nat) (M : Mm), l + k = 5 → k < n → CRing M r0 tu R → (∀ l' p', l' < 5 → p' < R 0 0 → M (cs + 12) (24 * l' + p') = nI (w l' p')) → (∀ l' p', l' < 5 → p' < R 0 0 → l' < l → M (cs + 13) (24 * l' + p') = nI (lfW 1000 R w r (l' + 1) p')) → ∃ M', f_X0_leaveInRound_L2 cs r0 n (nI r) (nI l) M = some M' ∧ (∀ l' p', l' < 5 → p' < R 0 0 → M' (cs + 13) (24 * l' + p') = nI (lfW 1000 R w r (l' + 1) p')) ∧ ∀ q, q ≠ cs + 10 → q ≠ cs + 13 → M' q = M q := by
  have hP := hF.1
  intro k
  induction k with
  | zero =>
    intro l n M hk hn h hw hv
    obtain ⟨n, rfl⟩ : ∃ m, n = m + 1 := ⟨n - 1, by omega⟩
    refine ⟨M, ?_, fun l' p' h1 h2 => hv l' p' h1 h2 (by omega), fun _ _ _ => rfl⟩
    rw [f_X0_leaveInRound_L2, nlit 5, ifle (by omega) (by omega), if_pos (by omega)]
  | succ k ih =>
    intro l n M hk hn h hw hv
    obtain ⟨n, rfl⟩ : ∃ m, n = m + 1 := ⟨n - 1, by omega⟩
    obtain ⟨M1, e1, a1, a2⟩ := clv9 (cs := cs) (l := l) (r := r) hF hcs hr hr2 (by omega) (fun x1 x2 M => f_X0_leaveInRound_L2 cs r0 n x1 x2 M) (R 0 0) 0 2000 M (by omega) (by omega) h hw (fun l' p' h1 h2 h3 => hv l' p' h1 h2 (by omega))
    obtain ⟨M2, e2, b1, b2⟩ := ih (l + 1) n M1 (by omega) (by omega) (h.mono (fun q q1 q2 => a2 q (by omega) (by omega))) (fun l' p' h1 h2 => by rw [a2 _ (by omega) (by omega)]; exact hw l' p' h1 h2) (fun l' p' h1 h2 h3 => a1 l' p' h1 h2 h3)
    refine ⟨M2, ?_, b1, fun q q1 q2 => by rw [b2 q q1 q2, a2 q q1 q2]⟩
    rw [f_X0_leaveInRound_L2, nlit 5, ifle (by omega) (by omega), if_neg (by omega)]
    exact e1.trans e2
theorem lane_m {m : Nat} (hm : m ≤ 6) : ((0 : Int32) ≤ nI m - nI 1 ∧ nI m - nI 1 ≤ 4) ↔ (1 ≤ m ∧ m ≤ 5) := by
  rcases (show m = 0 ∨ m = 1 ∨ m = 2 ∨ m = 3 ∨ m = 4 ∨ m = 5 ∨ m = 6 by omega) with rfl | rfl | rfl | rfl | rfl | rfl | rfl <;> decide
theorem cil {M : Mm} {w : Nat → Nat → Nat} {r m p : Nat} (hm : m ≤ 6) (hp : p < R 0 0) (hP : R 0 0 ≤ 24) (hv : ∀ l' p', l' < 5 → p' < R 0 0 → M (cs + 13) (24 * l' + p') = nI (lfW 1000 R w r (l' + 1) p')) : f_X0_costIfLeft cs r0 (nI m - nI 1) (nI p) M = some (nI (lfW 1000 R w r m p)) := by
  unfold f_X0_costIfLeft
  rw [lane_ok, Option.bind_some, ite_b01]
  by_cases h : 1 ≤ m ∧ m ≤ 5
  · rw [if_pos ((lane_m hm).mpr h), pk_sub h.1, cel, Option.bind_some, ck_nI (by omega) (by omega), cl_nI (by omega), hv (m - 1) p (by omega) hp, show m - 1 + 1 = m by omega]
  · rw [if_neg (fun q => h ((lane_m hm).mp q))]
    unfold lfW
    rw [if_neg h]
    rfl
theorem cpa9 {tu : Nat → Nat} {w w' : Nat → Nat → Nat} {r l : Nat} (hF : FOk R) (hcs : r0 + 9 ≤ cs) (hw : ∀ l p, w l p ≤ 1000) (hl : l < 5) (hw' : ∀ l p, w' l p = mn (lfW 1000 R w r (l + 1) p) (1 + mn (lfW 1000 R w r l p) (lfW 1000 R w r (l + 2) p))) (kb : Int32 → Mm → Option Mm) : ∀ (k p n : Nat) (M : Mm), p + k = R 0 0 → k < n → CRing M r0 tu R → (∀ l' p', l' < 5 → p' < R 0 0 → M (cs + 13) (24 * l' + p') = nI (lfW 1000 R w r (l' + 1) p')) → (∀ l' p', l' < 5 → p' < R 0 0 → (l' < l ∨ (l' = l ∧ p' < p)) → M (cs + 12) (24 * l' + p') = nI (w' l' p')) → ∃ M', f_X0_pushAheadOfRound_L9 cs r0 kb n (nI l) (nI p) M = kb (nI (l + 1)) M' ∧ (∀ l' p', l' < 5 → p' < R 0 0 → l' < l + 1 → M' (cs + 12) (24 * l' + p') = nI (w' l' p')) ∧ ∀ q, q ≠ cs + 12 → M' q = M q := by
  have hP := hF.1
  intro k
  induction k with
  | zero =>
    intro p n M hk hn h hv hu
    obtain ⟨n, rfl⟩ : ∃ m, n = m + 1 := ⟨n - 1, by omega⟩
    refine ⟨M, ?_, fun l' p' h1 h2 h3 => hu l' p' h1 h2 (by omega), fun _ _ => rfl⟩
    rw [f_X0_pushAheadOfRound_L9, h.1, ifle (by omega) (by omega), if_pos (by omega), bnd_e, nI_1]
  | succ k ih =>
    intro p n M hk hn h hv hu
    obtain ⟨n, rfl⟩ : ∃ m, n = m + 1 := ⟨n - 1, by omega⟩
    have hpp : p < R 0 0 := by omega
    have c0 := cil (cs := cs) (r0 := r0) (m := l) (by omega) hpp hP.2 hv
    have c1 := cil (cs := cs) (r0 := r0) (m := l + 1) (by omega) hpp hP.2 hv
    have c2 := cil (cs := cs) (r0 := r0) (m := l + 2) (by omega) hpp hP.2 hv
    rw [pk_sub (by omega), show l + 1 - 1 = l by omega] at c1
    rw [pk_sub (by omega), show l + 2 - 1 = l + 1 by omega] at c2
    have l0 := lfW_le (D := 1000) (R := R) hw r l p
    have l1 := lfW_le (D := 1000) (R := R) hw r (l + 1) p
    have l2 := lfW_le (D := 1000) (R := R) hw r (l + 2) p
    have lm : mn (lfW 1000 R w r l p) (lfW 1000 R w r (l + 2) p) ≤ 1000 := by unfold mn; split <;> omega
    rw [f_X0_pushAheadOfRound_L9, h.1, ifle (by omega) (by omega), if_neg (by omega), nlit 1, c0, Option.bind_some, nI_add, c2, Option.bind_some, jmin_mn (by omega) (by omega), nI_add, bnd_e, cel, Option.bind_some, c1, Option.bind_some, ck_nI (by omega) (by omega), bnd_e, cl_nI (by omega), jmin_mn (by omega) (by omega), bnd_e, nI_add, ← hw']
    obtain ⟨M', e, b1, b2⟩ := ih (p + 1) n (up2 M (cs + 12) (24 * l + p) (nI (w' l p))) (by omega) (by omega) (h.mono (fun q q1 q2 => up2_o _ _ _ (by omega))) (fun l' p' h1 h2 => by rw [up2_o _ _ _ (by omega)]; exact hv l' p' h1 h2) (fun l' p' h1 h2 h3 => by
      rw [up2_at]
      by_cases he : l' = l ∧ p' = p
      · rw [if_pos (by omega), he.1, he.2]
      · rw [if_neg (by omega)]
        exact hu l' p' h1 h2 (by omega))
    exact ⟨M', e, b1, fun q q1 => by rw [b2 q q1, up2_o _ _ _ q1]⟩
theorem cpa2 {tu : Nat → Nat} {w w' : Nat → Nat → Nat} {r : Nat} (hF : FOk R) (hcs : r0 + 9 ≤ cs) (hw : ∀ l p, w l p ≤ 1000) (hw' : ∀ l p, w' l p = mn (lfW 1000 R w r (l + 1) p) (1 + mn (lfW 1000 R w r l p) (lfW 1000 R w r (l + 2) p))) : ∀ (k l n : Nat) (M : Mm), l + k = 5 → k < n → CRing M r0 tu R → (∀ l' p', l' < 5 → p' < R 0 0 → M (cs + 13) (24 * l' + p') = nI (lfW 1000 R w r (l' + 1) p')) → (∀ l' p', l' < 5 → p' < R 0 0 → l' < l → M (cs + 12) (24 * l' + p') = nI (w' l' p')) → ∃ M', f_X0_pushAheadOfRound_L2 cs r0 n (nI l) M = some M' ∧ (∀ l' p', l' < 5 → p' < R 0 0 → M' (cs + 12) (24 * l' + p') = nI (w' l' p')) ∧ ∀ q, q ≠ cs + 12 → M' q = M q := by
  have hP := hF.1
  intro k
  induction k with
  | zero =>
    intro l n M hk hn h hv hu
    obtain ⟨n, rfl⟩ : ∃ m, n = m + 1 := ⟨n - 1, by omega⟩
    refine ⟨M, ?_, fun l' p' h1 h2 => hu l' p' h1 h2 (by omega), fun _ _ => rfl⟩
    rw [f_X0_pushAheadOfRound_L2, nlit 5, ifle (by omega) (by omega), if_pos (by omega)]
  | succ k ih =>
    intro l n M hk hn h hv hu
    obtain ⟨n, rfl⟩ : ∃ m, n = m + 1 := ⟨n - 1, by omega⟩
    obtain ⟨M1, e1, a1, a2⟩ := cpa9 (cs := cs) (l := l) (r := r) hF hcs hw (by omega) hw' (fun x1 M => f_X0_pushAheadOfRound_L2 cs r0 n x1 M) (R 0 0) 0 2000 M (by omega) (by omega) h hv (fun l' p' h1 h2 h3 => hu l' p' h1 h2 (by omega))
    obtain ⟨M2, e2, b1, b2⟩ := ih (l + 1) n M1 (by omega) (by omega) (h.mono (fun q q1 q2 => a2 q (by omega))) (fun l' p' h1 h2 => by rw [a2 _ (by omega)]; exact hv l' p' h1 h2) (fun l' p' h1 h2 h3 => a1 l' p' h1 h2 h3)
    refine ⟨M2, ?_, b1, fun q q1 => by rw [b2 q q1, a2 q q1]⟩
    rw [f_X0_pushAheadOfRound_L2, nlit 5, ifle (by omega) (by omega), if_neg (by omega)]
    exact e1.trans e2
theorem cfp42 {tu : Nat → Nat} {w : Nat → Nat → Nat} {l : Nat} {M : Mm} (hF : FOk R) (hw : ∀ l p, w l p ≤ 1000) (hl : l < 5) (hb : tot (R 0 0) R < 2 ^ 31) (h : CRing M r0 tu R) (hv : ∀ l' p', l' < 5 → p' < R 0 0 → M (cs + 12) (24 * l' + p') = nI (w l' p')) (kb : Int32 → Int32 → Mm → Option (Int32 × Mm)) : ∀ (k p n s : Nat), p + k = R 0 0 → k < n → f_X0_fewestPushes_L42 cs r0 kb n (nI s) (nI l) (nI p) M = (match pfF R w 1000 (24 * l + p) s k with | none => some (-1, M) | some s' => kb (nI s') (nI (l + 1)) M) := by
  have hP := hF.1
  intro k
  induction k with
  | zero =>
    intro p n s hk hn
    obtain ⟨n, rfl⟩ : ∃ m, n = m + 1 := ⟨n - 1, by omega⟩
    rw [f_X0_fewestPushes_L42, h.1, ifle (by omega) (by omega), if_pos (by omega), bnd_e, nI_1]
    rfl
  | succ k ih =>
    intro p n s hk hn
    obtain ⟨n, rfl⟩ : ∃ m, n = m + 1 := ⟨n - 1, by omega⟩
    have hle := lum_le R hl (show p < R 0 0 by omega)
    have hwl := hw l p
    have en : nnR R (24 * l + p) = R (10 + l) p := by
      unfold nnR
      rw [show (24 * l + p) % 24 = p by omega, show (24 * l + p) / 24 = l by omega, if_pos (by omega)]
    rw [f_X0_fewestPushes_L42, h.1, ifle (by omega) (by omega), if_neg (by omega), lumpsAt_ok h hl (by omega) hP.2, Option.bind_some, cel, Option.bind_some, ck_nI (by omega) (by omega), bnd_e, cl_nI (by omega), hv l p hl (by omega), show (0 : Int32) = nI 0 from rfl, ifle (by omega) (by omega), nlit 1000, iflt (by omega) (by omega), pfF, en, show (24 * l + p) / 24 = l by omega, show (24 * l + p) % 24 = p by omega]
    unfold f_X0_fewestPushes_J94
    have ih' := ih (p + 1) n (s + R (10 + l) p * w l p) (by omega) (by omega)
    rw [show 24 * l + (p + 1) = 24 * l + p + 1 by omega] at ih'
    rw [bnd_e, bnd_e, pk_mul, nI_add, nI_1]
    by_cases h1 : R (10 + l) p ≤ 0
    · rw [if_pos h1, if_neg (by omega)]
      exact ih'
    · rw [if_neg h1]
      by_cases h2 : w l p < 1000
      · rw [if_pos h2, if_neg (by omega)]
        exact ih'
      · rw [if_neg h2, if_pos (by omega)]
theorem cfp34 {tu : Nat → Nat} {w : Nat → Nat → Nat} {M : Mm} (hF : FOk R) (hw : ∀ l p, w l p ≤ 1000) (hb : tot (R 0 0) R < 2 ^ 31) (h : CRing M r0 tu R) (hv : ∀ l' p', l' < 5 → p' < R 0 0 → M (cs + 12) (24 * l' + p') = nI (w l' p')) : ∀ (k l n s : Nat), l + k = 5 → k < n → f_X0_fewestPushes_L34 cs r0 n (nI s) (nI l) M = some (opI (pfF R w 1000 (24 * l) s (24 * k)), M) := by
  have hP := hF.1
  intro k
  induction k with
  | zero =>
    intro l n s hk hn
    obtain ⟨n, rfl⟩ : ∃ m, n = m + 1 := ⟨n - 1, by omega⟩
    rw [f_X0_fewestPushes_L34, nlit 5, ifle (by omega) (by omega), if_pos (by omega)]
    rfl
  | succ k ih =>
    intro l n s hk hn
    obtain ⟨n, rfl⟩ : ∃ m, n = m + 1 := ⟨n - 1, by omega⟩
    have e1 := cfp42 (cs := cs) (l := l) hF hw (by omega) hb h hv (fun x2 x3 M => f_X0_fewestPushes_L34 cs r0 n x2 x3 M) (R 0 0) 0 2000 s (by omega) (by omega)
    rw [f_X0_fewestPushes_L34, nlit 5, ifle (by omega) (by omega), if_neg (by omega)]
    refine Eq.trans e1 ?_
    rw [show 24 * (k + 1) = R 0 0 + ((24 - R 0 0) + 24 * k) by omega, pfF_split, Nat.add_zero]
    cases pfF R w 1000 (24 * l) s (R 0 0) with
    | none => rfl
    | some s' =>
      show f_X0_fewestPushes_L34 cs r0 n (nI s') (nI (l + 1)) M = some (opI (pfF R w 1000 (24 * l + R 0 0) s' (24 - R 0 0 + 24 * k)), M)
      rw [pfF_split, pfF_gap R w 1000 (24 - R 0 0) (24 * l + R 0 0) s' (fun j h1 h2 => by
        unfold nnR
        rw [if_neg (by omega)]), ih (l + 1) n s' (by omega) (by omega), show 24 * l + R 0 0 + (24 - R 0 0) = 24 * (l + 1) by omega]
      rfl
theorem cfp10 {tu : Nat → Nat} {K : Nat} (hF : FOk R) (hcs : r0 + 9 ≤ cs) (hK : K ≤ 12) (hr2 : R 0 2 + K < 100000) (hb : tot (R 0 0) R < 2 ^ 31) : ∀ (r j n : Nat) (M : Mm), r + j = K → r < n → CRing M r0 tu R → (∀ l' p', l' < 5 → p' < R 0 0 → M (cs + 12) (24 * l' + p') = nI (psW 1000 R K j l' p')) → ∃ M', f_X0_fewestPushes_L10 cs r0 n (nI r) M = some (opI (pfF R (psW 1000 R K K) 1000 0 0 120), M') ∧ ∀ q, q ≠ cs + 10 → q ≠ cs + 12 → q ≠ cs + 13 → M' q = M q := by
  intro r
  induction r with
  | zero =>
    intro j n M hj hn h hv
    obtain ⟨n, rfl⟩ : ∃ m, n = m + 1 := ⟨n - 1, by omega⟩
    have e : j = K := by omega
    subst e
    refine ⟨M, ?_, fun _ _ _ _ => rfl⟩
    rw [f_X0_fewestPushes_L10, show (1 : Int32) = nI 1 from rfl, iflt (by omega) (by omega), if_pos (by omega)]
    exact cfp34 hF (psW_le 1000 R j j) hb h hv 5 0 2000 0 (by omega) (by omega)
  | succ r ih =>
    intro j n M hj hn h hv
    obtain ⟨n, rfl⟩ : ∃ m, n = m + 1 := ⟨n - 1, by omega⟩
    obtain ⟨M1, e1, a1, a2⟩ := clv2 (cs := cs) (r := r + 1) hF hcs (by omega) (by omega) 5 0 2000 M (by omega) (by omega) h hv (fun l' p' h1 h2 h3 => absurd h3 (Nat.not_lt_zero _))
    have h1 : CRing M1 r0 tu R := h.mono (fun q q1 q2 => a2 q (by omega) (by omega))
    obtain ⟨M2, e2, b1, b2⟩ := cpa2 (cs := cs) (r := r + 1) (w' := psW 1000 R K (j + 1)) hF hcs (psW_le 1000 R K j) (fun l p => by
      show mn (lfW 1000 R (psW 1000 R K j) (K - j) (l + 1) p) _ = _
      rw [show K - j = r + 1 by omega]) 5 0 2000 M1 (by omega) (by omega) h1 a1 (fun l' p' h1 h2 h3 => absurd h3 (Nat.not_lt_zero _))
    obtain ⟨M3, e3, d1⟩ := ih (j + 1) n M2 (by omega) (by omega) (h1.mono (fun q q1 q2 => b2 q (by omega))) b1
    refine ⟨M3, ?_, fun q q1 q2 q3 => by rw [d1 q q1 q2 q3, b2 q q2, a2 q q1 q3]⟩
    have l1 : f_X0_leaveInRound cs r0 (nI (r + 1)) M = some M1 := e1
    have l2 : f_X0_pushAheadOfRound cs r0 M1 = some M2 := e2
    rw [f_X0_fewestPushes_L10, show (1 : Int32) = nI 1 from rfl, iflt (by omega) (by omega), if_neg (by omega), l1, Option.bind_some, l2, Option.bind_some, bnd_e, show (-nI 1 : Int32) = -1 from rfl, pk_m1]
    exact e3
end PSC
