/-! pushes, the reference's side -/
def keepP (y : Nat) (M M' : Mm) : Prop := (∀ j, j ≠ 9 → j ≠ 11 → j ≠ 12 → j ≠ 13 → M' y j = M y j) ∧ ∀ q, q ≠ y → q ≠ y + 7 → M' q = M q
theorem keepP.trans {y : Nat} {M M' M'' : Mm} (h : keepP y M M') (h' : keepP y M' M'') : keepP y M M'' := ⟨fun j a b c d => (h'.1 j a b c d).trans (h.1 j a b c d), fun q a b => (h'.2 q a b).trans (h.2 q a b)⟩
theorem keepP.rfl' (y : Nat) (M : Mm) : keepP y M M := ⟨fun _ _ _ _ _ => rfl, fun _ _ _ => rfl⟩
theorem keepP.ring {y : Nat} {M M' : Mm} {R : Rg} (h : keepP y M M') (hM : MRing M (y + 1) 0 R) : MRing M' (y + 1) 0 R := by
  unfold MRing MLum at hM ⊢
  rw [h.2 _ (by omega) (by omega)]
  exact hM
section PSM
variable {y : Nat} {R : Rg}
theorem mbh3 {rd l p : Nat} (hF : FOk R) (hrd : rd ≤ 60) (hr : R 0 2 + rd + 1 < 100000) (hl : l < 5) (hp : p < R 0 0) : ∀ (k m n : Nat) (M : Mm), m + k = R 0 1 → k < n → MRing M (y + 1) 0 R → (∀ j, j < m → M (y + 7) j = nI (mp R j rd)) → sOk (fun m => decide (m < R 0 1)) (M y 10) → ∃ M', f_X12_behind_L3 y n (nI rd) (nI l) (nI p) (nI m) M = some (if 3 ≤ (gnF R (rd + 1) (l + 3) p 0).1 ∧ (gnF R (rd + 1) (l + 3) p 0).1 < 8 then nI (24 * ((gnF R (rd + 1) (l + 3) p 0).1 - 3) + (gnF R (rd + 1) (l + 3) p 0).2.1) else -1, M') ∧ keepP y M M' := by
  have hP := hF.1
  have h4 := hF.2.1
  intro k
  induction k with
  | zero =>
    intro m n M hm hn hM h7 hs
    obtain ⟨n, rfl⟩ : ∃ m, n = m + 1 := ⟨n - 1, by omega⟩
    have e148 : M (y + 1) 148 = nI (R 0 2) := by have := hM.2.2.2.2.2.1; rwa [Nat.zero_add] at this
    generalize hA : up2 (up2 (up2 M y 9 (nI (R 0 2 + rd))) y 11 (nI l)) y 12 (nI p) = A
    have kA : ∀ q, q ≠ y → A q = M q := fun q hq => by rw [← hA, up2_o _ _ _ hq, up2_o _ _ _ hq, up2_o _ _ _ hq]
    have kB : ∀ j, j ≠ 9 → j ≠ 11 → j ≠ 12 → A y j = M y j := fun j h1 h2 h3 => by rw [← hA, up2_at, if_neg (by omega), up2_at, if_neg (by omega), up2_at, if_neg (by omega)]
    obtain ⟨t, ht⟩ := nI_any (A y 13)
    obtain ⟨M1, e1, b0, b1, b2, b3, b4, b5, b6⟩ := mgoOne_ok (y := y) (r := rd) (z := l + 3) (p := p) (t := t) (M := A) (hM.nring.sf (SF.rfl' R) (kA _ (by omega))) (fun j hj => by rw [kA _ (by omega)]; exact h7 j (by omega)) (by rw [← hA, up2_at, if_neg (by omega), up2_at, if_neg (by omega), up2_at, if_pos ⟨rfl, rfl⟩]) (by rw [kB _ (by omega) (by omega) (by omega)]; exact hs) hF hr (by omega) hp (by
      rw [← hA, up2_at, if_neg (by omega), up2_at, if_pos ⟨rfl, rfl⟩, pk_sub (by omega)]
      rfl) (by rw [← hA, up2_at, if_pos ⟨rfl, rfl⟩]) ht
    obtain ⟨g1, g2⟩ := gnF_t R (rd + 1) (l + 3) p t
    rw [g1] at b0
    rw [g2] at b1
    have hg := gnF_ok R (rd + 1) 0 (show l + 3 ≤ 10 by omega) hp
    refine ⟨M1, ?_, fun j j1 j2 j3 j4 => by rw [b5 j j1 j2 j3 j4, kB j j1 j2 j3], fun q q1 q2 => by rw [b6 q q1 q2, kA q q1]⟩
    rw [f_X12_behind_L3, mmoons_ok, Option.bind_some, hM.nring.2.2.1, ifle (by omega) (by omega), if_pos (by omega), nlit 148, ck_nI (by omega) (by omega), cl_nI (by omega), e148, nI_add, bnd_e, bnd_e, bnd_e, hA, e1, Option.bind_some, b0, b1, mlane_ok, Option.bind_some, ite_b01]
    by_cases hz : 3 ≤ (gnF R (rd + 1) (l + 3) p 0).1 ∧ (gnF R (rd + 1) (l + 3) p 0).1 < 8
    · rw [if_pos ((lane_z hg.1).mpr hz), if_pos hz, pk_sub hz.1, nlit 24, pk_mul, nI_add]
    · rw [if_neg (fun q => hz ((lane_z hg.1).mp q)), if_neg hz]
  | succ k ih =>
    intro m n M hm hn hM h7 hs
    obtain ⟨n, rfl⟩ : ∃ m, n = m + 1 := ⟨n - 1, by omega⟩
    have k6 := (hF.2.2.2.1 m (by omega)).2.2
    have k5 := hF.2.2.2.2.1 m (by omega)
    have hmul : rd * R 6 m ≤ 60 * 9 := Nat.mul_le_mul hrd k6
    have g2 : M (y + 1) (127 + 4 * m + 2) = nI (R 5 m) := by have := hM.2.2.2.2.1 m 2 (by omega) (by omega); rwa [Nat.zero_add] at this
    have g3 : M (y + 1) (127 + 4 * m + 3) = nI (R 6 m) := by have := hM.2.2.2.2.1 m 3 (by omega) (by omega); rwa [Nat.zero_add] at this
    have kk : keepP y M (up2 M (y + 7) m (nI (mp R m rd))) := ⟨fun j _ _ _ _ => by rw [up2_o _ _ _ (by omega)], fun q _ h2 => up2_o _ _ _ h2⟩
    obtain ⟨M', e, b⟩ := ih (m + 1) n (up2 M (y + 7) m (nI (mp R m rd))) (by omega) (by omega) (kk.ring hM) (fun j hj => by
      rw [up2_at]
      by_cases h : j = m
      · rw [if_pos ⟨rfl, h⟩, h]
      · rw [if_neg (by omega)]; exact h7 j (by omega)) (by rw [up2_o _ _ _ (by omega)]; exact hs)
    refine ⟨M', ?_, kk.trans b⟩
    rw [f_X12_behind_L3, mmoons_ok, Option.bind_some, hM.nring.2.2.1, ifle (by omega) (by omega), if_neg (by omega), nlit 2, of_ok _ _ _ _ (by omega) (by omega), Option.bind_some, nlit 3, of_ok _ _ _ _ (by omega) (by omega), Option.bind_some, g2, g3, mplaces_ok, Option.bind_some, hM.1, cz_nI (by omega) (by omega), ck_nI (by omega) (by omega), bnd_e, bnd_e, cl_nI (by omega), pk_mul, nI_add, jr_nI (by omega) (by omega) (by omega), nI_1]
    exact e
theorem behind_ok {rd l p : Nat} {M : Mm} (hF : FOk R) (hrd : rd ≤ 60) (hr : R 0 2 + rd + 1 < 100000) (hl : l < 5) (hp : p < R 0 0) (hM : MRing M (y + 1) 0 R) (hs : sOk (fun m => decide (m < R 0 1)) (M y 10)) : ∃ M', f_X12_behind y (nI rd) (nI l) (nI p) M = some (if 3 ≤ (gnF R (rd + 1) (l + 3) p 0).1 ∧ (gnF R (rd + 1) (l + 3) p 0).1 < 8 then nI (24 * ((gnF R (rd + 1) (l + 3) p 0).1 - 3) + (gnF R (rd + 1) (l + 3) p 0).2.1) else -1, M') ∧ keepP y M M' := mbh3 hF hrd hr hl hp (R 0 1) 0 2000 M (by omega) (by have := hF.2.1; omega) hM (fun j hj => absurd hj (Nat.not_lt_zero j)) hs
theorem mst76 {rd a m x4 e : Nat} {w : Nat → Nat → Nat} {M : Mm} (x5 : Int32) (kb57 : Int32 → Mm → Option (Int32 × Mm)) (kb63 : Int32 → Int32 → Mm → Option (Int32 × Mm)) (hF : FOk R) (hrd : rd ≤ 11) (hr : R 0 2 + rd + 1 < 100000) (hM : MRing M (y + 1) 0 R) (hs : sOk (fun m => decide (m < R 0 1)) (M y 10)) (hv : ∀ l' p', l' < 5 → p' < R 0 0 → M (y + 8) (120 * (rd + 1) + (24 * l' + p')) = nI (w l' p')) (hw : ∀ l p, w l p ≤ 100000000) (ha : a < 120) (hap : a % 24 < R 0 0) (hx5 : ¬ (2 : Int32) ≤ x5) (hz : nI (a / 24) + x5 = nI m - nI 1) (hm : m ≤ 6) (he : (if x5 = 0 then (0 : Int32) else 1) = nI e) (he1 : e ≤ 1) (hx4 : x4 ≤ 100000000) : ∃ v M', (v = lfW 100000000 R w (rd + 1) m (a % 24) + e ∨ (v = 100000000 ∧ lfW 100000000 R w (rd + 1) m (a % 24) = 100000000)) ∧ (∀ n, f_X12_pushes_L76 y kb57 kb63 (n + 1) (nI rd) (nI a) (nI x4) x5 M = f_X12_pushes_L76 y kb57 kb63 n (nI rd) (nI a) (nI (mn x4 v)) (x5 + 1) M') ∧ keepP y M M' := by
  have hP := hF.1
  have h163 : ∀ (v : Nat) (M' : Mm) (n : Nat), v ≤ 100000001 → f_X12_pushes_J163 y (nI rd) (nI a) (nI x4) x5 (nI v) M' kb57 kb63 (fun x2 x3 x4 x5 M => f_X12_pushes_L76 y kb57 kb63 n x2 x3 x4 x5 M) = f_X12_pushes_L76 y kb57 kb63 n (nI rd) (nI a) (nI (mn x4 v)) (x5 + 1) M' := fun v M' n hv => by
    unfold f_X12_pushes_J163 f_X12_pushes_J179
    rw [ifle (by omega) (by omega), bnd_e, bnd_e]
    unfold mn
    by_cases h : x4 ≤ v
    · rw [if_pos h, if_neg (by omega)]
    · rw [if_neg h, if_pos (by omega)]
  by_cases hl : 1 ≤ m ∧ m ≤ 5
  · obtain ⟨M1, e1, k1⟩ := behind_ok (y := y) (rd := rd) (l := m - 1) (p := a % 24) hF (by omega) hr (by omega) hap hM hs
    rw [show m - 1 + 3 = m + 2 by omega] at e1
    have elf : lfW 100000000 R w (rd + 1) m (a % 24) = if 3 ≤ (gnF R (rd + 1) (m + 2) (a % 24) 0).1 ∧ (gnF R (rd + 1) (m + 2) (a % 24) 0).1 < 8 then w ((gnF R (rd + 1) (m + 2) (a % 24) 0).1 - 3) (gnF R (rd + 1) (m + 2) (a % 24) 0).2.1 else 100000000 := if_pos hl
    have hg := gnF_ok R (rd + 1) 0 (show m + 2 ≤ 10 by omega) hap
    have hpre : ∀ n, f_X12_pushes_L76 y kb57 kb63 (n + 1) (nI rd) (nI a) (nI x4) x5 M = f_X12_pushes_J125 y (nI rd) (nI a) (nI x4) x5 (if 3 ≤ (gnF R (rd + 1) (m + 2) (a % 24) 0).1 ∧ (gnF R (rd + 1) (m + 2) (a % 24) 0).1 < 8 then nI (24 * ((gnF R (rd + 1) (m + 2) (a % 24) 0).1 - 3) + (gnF R (rd + 1) (m + 2) (a % 24) 0).2.1) else -1) M1 kb57 kb63 (fun x2 x3 x4 x5 M => f_X12_pushes_L76 y kb57 kb63 n x2 x3 x4 x5 M) := fun n => by
      rw [f_X12_pushes_L76, if_neg hx5, nlit 24, cz_nI (by omega) (by omega), mplaces_ok, Option.bind_some, hM.1, jr_nI (by omega) (by omega) (by omega), ifle (by omega) (by omega), if_neg (by omega), cz_nI (by omega) (by omega), pk_div (by omega) (by omega) (by omega), hz, bnd_e, mlane_ok, Option.bind_some, ite_b01, if_pos ((lane_m hm).mpr hl), cz_nI (by omega) (by omega), pk_sub hl.1, e1, bd2_some]
    by_cases hz3 : 3 ≤ (gnF R (rd + 1) (m + 2) (a % 24) 0).1 ∧ (gnF R (rd + 1) (m + 2) (a % 24) 0).1 < 8
    · rw [if_pos hz3] at elf
      simp only [if_pos hz3] at hpre
      have hwv := hw ((gnF R (rd + 1) (m + 2) (a % 24) 0).1 - 3) (gnF R (rd + 1) (m + 2) (a % 24) 0).2.1
      refine ⟨w ((gnF R (rd + 1) (m + 2) (a % 24) 0).1 - 3) (gnF R (rd + 1) (m + 2) (a % 24) 0).2.1 + e, M1, Or.inl (by rw [elf]), fun n => ?_, k1⟩
      rw [hpre]
      unfold f_X12_pushes_J125 f_X12_pushes_J162
      rw [if_neg (nI_ne_m1 (by omega)), nlit 120, nI_1, pk_mul, nI_add, ck_nI (by omega) (by omega), cl_nI (by omega), k1.2 (y + 8) (by omega) (by omega), hv _ _ (by omega) hg.2]
      by_cases h0 : x5 = 0
      · rw [if_pos h0] at he ⊢
        rw [he, nI_add]
        refine h163 _ _ _ ?_
        omega
      · rw [if_neg h0] at he ⊢
        have ee : ∀ v, nI v + (1 : Int32) = nI (v + e) := fun v => by rw [he, nI_add]
        rw [ee]
        refine h163 _ _ _ ?_
        omega
    · rw [if_neg hz3] at elf
      simp only [if_neg hz3] at hpre
      refine ⟨100000000, M1, Or.inr ⟨rfl, elf⟩, fun n => ?_, k1⟩
      rw [hpre]
      unfold f_X12_pushes_J125
      rw [if_pos rfl]
      exact h163 100000000 _ _ (by omega)
  · have elf : lfW 100000000 R w (rd + 1) m (a % 24) = 100000000 := if_neg hl
    refine ⟨100000000, M, Or.inr ⟨rfl, elf⟩, fun n => ?_, keepP.rfl' y M⟩
    rw [f_X12_pushes_L76, if_neg hx5, nlit 24, cz_nI (by omega) (by omega), mplaces_ok, Option.bind_some, hM.1, jr_nI (by omega) (by omega) (by omega), ifle (by omega) (by omega), if_neg (by omega), cz_nI (by omega) (by omega), pk_div (by omega) (by omega) (by omega), hz, bnd_e, mlane_ok, Option.bind_some, ite_b01, if_neg (fun q => hl ((lane_m hm).mp q))]
    unfold f_X12_pushes_J125
    rw [if_pos rfl]
    exact h163 100000000 _ _ (by omega)
theorem mps76 {rd a : Nat} {w w' : Nat → Nat → Nat} {M : Mm} (kb57 : Int32 → Mm → Option (Int32 × Mm)) (kb63 : Int32 → Int32 → Mm → Option (Int32 × Mm)) (hF : FOk R) (hrd : rd ≤ 11) (hr : R 0 2 + rd + 1 < 100000) (hM : MRing M (y + 1) 0 R) (hs : sOk (fun m => decide (m < R 0 1)) (M y 10)) (hv : ∀ l' p', l' < 5 → p' < R 0 0 → M (y + 8) (120 * (rd + 1) + (24 * l' + p')) = nI (w l' p')) (hw : ∀ l p, w l p ≤ 100000000) (hw' : ∀ l p, w' l p = mn (lfW 100000000 R w (rd + 1) (l + 1) p) (1 + mn (lfW 100000000 R w (rd + 1) l p) (lfW 100000000 R w (rd + 1) (l + 2) p))) (ha : a < 120) : ∃ M' v, f_X12_pushes_L76 y kb57 kb63 2000 (nI rd) (nI a) (100000000 : Int32) (-1 : Int32) M = kb63 (nI rd) (nI (a + 1)) (up2 M' (y + 8) (120 * rd + a) v) ∧ (a % 24 < R 0 0 → v = nI (w' (a / 24) (a % 24))) ∧ keepP y M M' := by
  have hP := hF.1
  by_cases hap : a % 24 < R 0 0
  · obtain ⟨v0, M1, h1, s1, k1⟩ := mst76 (m := a / 24) (x4 := 100000000) (e := 1) (-1 : Int32) kb57 kb63 hF hrd hr hM hs hv hw ha hap (by decide) (Int32.sub_eq_add_neg _ _).symm (by omega) (by decide) (by omega) (by omega)
    have m1 := k1.ring hM
    have t1 : ∀ M', keepP y M M' → (∀ l' p', l' < 5 → p' < R 0 0 → M' (y + 8) (120 * (rd + 1) + (24 * l' + p')) = nI (w l' p')) := fun M' k l' p' q1 q2 => by rw [k.2 _ (by omega) (by omega)]; exact hv l' p' q1 q2
    have hb1 : mn 100000000 v0 ≤ 100000000 := mn_le _ _
    obtain ⟨v1, M2, h2, s2, k2⟩ := mst76 (m := a / 24 + 1) (x4 := mn 100000000 v0) (e := 0) (0 : Int32) kb57 kb63 hF hrd hr m1 (by rw [k1.1 _ (by omega) (by omega) (by omega) (by omega)]; exact hs) (t1 M1 k1) hw ha hap (by decide) (by rw [pk_sub (by omega), Int32.add_zero]; rfl) (by omega) rfl (by omega) hb1
    have k12 := k1.trans k2
    have hb2 : mn (mn 100000000 v0) v1 ≤ 100000000 := Nat.le_trans (mn_le _ _) hb1
    obtain ⟨v2, M3, h3, s3, k3⟩ := mst76 (m := a / 24 + 2) (x4 := mn (mn 100000000 v0) v1) (e := 1) (1 : Int32) kb57 kb63 hF hrd hr (k12.ring hM) (by rw [k12.1 _ (by omega) (by omega) (by omega) (by omega)]; exact hs) (t1 M2 k12) hw ha hap (by decide) (by rw [pk_sub (by omega), nI_1]; rfl) (by omega) (by decide) (by omega) hb2
    have k123 := k12.trans k3
    refine ⟨M3, nI (mn (mn (mn 100000000 v0) v1) v2), ?_, fun _ => ?_, k123⟩
    · have g1 := s1 1999
      have g2 := s2 1998
      have g3 := s3 1997
      rw [show (-1 : Int32) + 1 = 0 from by decide] at g1
      rw [show (0 : Int32) + 1 = 1 from by decide] at g2
      rw [show (1 : Int32) + 1 = 2 from by decide] at g3
      refine g1.trans (g2.trans (g3.trans ?_))
      rw [show (1997 : Nat) = 1996 + 1 from rfl, f_X12_pushes_L76, if_pos (by decide)]
      unfold f_X12_pushes_J187
      rw [nlit 120, pk_mul, nI_add, ck_nI (by omega) (by omega), bnd_e, bnd_e, cl_nI (by omega), nI_1]
    · congr 1
      rw [hw']
      have q0 := lfW_le (D := 100000000) (R := R) hw (rd + 1) (a / 24) (a % 24)
      have q1 := lfW_le (D := 100000000) (R := R) hw (rd + 1) (a / 24 + 1) (a % 24)
      have q2 := lfW_le (D := 100000000) (R := R) hw (rd + 1) (a / 24 + 2) (a % 24)
      generalize lfW 100000000 R w (rd + 1) (a / 24) (a % 24) = b0 at *
      generalize lfW 100000000 R w (rd + 1) (a / 24 + 1) (a % 24) = b1 at *
      generalize lfW 100000000 R w (rd + 1) (a / 24 + 2) (a % 24) = b2 at *
      clear s1 s2 s3
      unfold mn at *
      rcases h1 with h1 | ⟨h1, h1'⟩ <;> rcases h2 with h2 | ⟨h2, h2'⟩ <;> rcases h3 with h3 | ⟨h3, h3'⟩ <;> ((repeat' split) <;> omega)
  · refine ⟨M, nI 100000000, ?_, fun q => absurd q hap, keepP.rfl' y M⟩
    rw [show (2000 : Nat) = 1999 + 1 from rfl, f_X12_pushes_L76, if_neg (by decide), nlit 24, cz_nI (by omega) (by omega), mplaces_ok, Option.bind_some, hM.1, jr_nI (by omega) (by omega) (by omega), ifle (by omega) (by omega), if_pos (by omega)]
    unfold f_X12_pushes_J187
    rw [nlit 120, pk_mul, nI_add, ck_nI (by omega) (by omega), bnd_e, bnd_e, cl_nI (by omega), nI_1]
    rfl
/-- what the reference's pushes may change -/
def keepQ (y : Nat) (M M' : Mm) : Prop := (∀ j, j ≠ 9 → j ≠ 11 → j ≠ 12 → j ≠ 13 → M' y j = M y j) ∧ ∀ q, q ≠ y → q ≠ y + 7 → q ≠ y + 8 → M' q = M q
theorem keepQ.trans {y : Nat} {M M' M'' : Mm} (h : keepQ y M M') (h' : keepQ y M' M'') : keepQ y M M'' := ⟨fun j a b c d => (h'.1 j a b c d).trans (h.1 j a b c d), fun q a b c => (h'.2 q a b c).trans (h.2 q a b c)⟩
theorem keepQ.ring {y : Nat} {M M' : Mm} {R : Rg} (h : keepQ y M M') (hM : MRing M (y + 1) 0 R) : MRing M' (y + 1) 0 R := by
  unfold MRing MLum at hM ⊢
  rw [h.2 _ (by omega) (by omega) (by omega)]
  exact hM
theorem mps63 {rd : Nat} {w w' : Nat → Nat → Nat} (kb57 : Int32 → Mm → Option (Int32 × Mm)) (hF : FOk R) (hrd : rd ≤ 11) (hr : R 0 2 + rd + 1 < 100000) (hw : ∀ l p, w l p ≤ 100000000) (hw' : ∀ l p, w' l p = mn (lfW 100000000 R w (rd + 1) (l + 1) p) (1 + mn (lfW 100000000 R w (rd + 1) l p) (lfW 100000000 R w (rd + 1) (l + 2) p))) : ∀ (k a n : Nat) (M : Mm), a + k = 120 → k < n → MRing M (y + 1) 0 R → sOk (fun m => decide (m < R 0 1)) (M y 10) → (∀ l' p', l' < 5 → p' < R 0 0 → M (y + 8) (120 * (rd + 1) + (24 * l' + p')) = nI (w l' p')) → (∀ l' p', l' < 5 → p' < R 0 0 → 24 * l' + p' < a → M (y + 8) (120 * rd + (24 * l' + p')) = nI (w' l' p')) → ∃ M', f_X12_pushes_L63 y kb57 n (nI rd) (nI a) M = kb57 (nI rd - 1) M' ∧ (∀ l' p', l' < 5 → p' < R 0 0 → M' (y + 8) (120 * rd + (24 * l' + p')) = nI (w' l' p')) ∧ keepQ y M M' := by
  have hP := hF.1
  intro k
  induction k with
  | zero =>
    intro a n M hk hn hM hs hv hu
    obtain ⟨n, rfl⟩ : ∃ m, n = m + 1 := ⟨n - 1, by omega⟩
    refine ⟨M, ?_, fun l' p' h1 h2 => hu l' p' h1 h2 (by omega), fun _ _ _ _ _ => rfl, fun _ _ _ _ => rfl⟩
    rw [f_X12_pushes_L63, nlit 120, ifle (by omega) (by omega), if_pos (by omega), bnd_e, show nI rd + (-1 : Int32) = nI rd - 1 from (Int32.sub_eq_add_neg _ _).symm]
  | succ k ih =>
    intro a n M hk hn hM hs hv hu
    obtain ⟨n, rfl⟩ : ∃ m, n = m + 1 := ⟨n - 1, by omega⟩
    obtain ⟨M1, v, e1, hv1, k1⟩ := mps76 (a := a) (w' := w') kb57 (fun x2 x3 M => f_X12_pushes_L63 y kb57 n x2 x3 M) hF hrd hr hM hs hv hw hw' (by omega)
    have k2 : keepQ y M (up2 M1 (y + 8) (120 * rd + a) v) := ⟨fun j j1 j2 j3 j4 => by rw [up2_o _ _ _ (by omega), k1.1 j j1 j2 j3 j4], fun q q1 q2 q3 => by rw [up2_o _ _ _ q3, k1.2 q q1 q2]⟩
    obtain ⟨M2, e2, b1, b2⟩ := ih (a + 1) n (up2 M1 (y + 8) (120 * rd + a) v) (by omega) (by omega) (k2.ring hM) (by rw [k2.1 _ (by omega) (by omega) (by omega) (by omega)]; exact hs) (fun l' p' h1 h2 => by
      rw [up2_at, if_neg (by omega), k1.2 _ (by omega) (by omega)]
      exact hv l' p' h1 h2) (fun l' p' h1 h2 h3 => by
      rw [up2_at]
      by_cases he : 24 * l' + p' = a
      · rw [if_pos (by omega), hv1 (by omega)]
        congr 2
        · omega
        · omega
      · rw [if_neg (by omega), k1.2 _ (by omega) (by omega)]
        exact hu l' p' h1 h2 (by omega))
    refine ⟨M2, ?_, b1, k2.trans b2⟩
    rw [f_X12_pushes_L63, nlit 120, ifle (by omega) (by omega), if_neg (by omega)]
    exact e1.trans e2
theorem mps57 {K : Nat} (hF : FOk R) (hK : K ≤ 12) (hr : R 0 2 + K < 100000) : ∀ (i j n : Nat) (M : Mm), i + j = K → i < n → MRing M (y + 1) 0 R → sOk (fun m => decide (m < R 0 1)) (M y 10) → (∀ l' p', l' < 5 → p' < R 0 0 → M (y + 8) (120 * i + (24 * l' + p')) = nI (psW 100000000 R K j l' p')) → ∃ M', f_X12_pushes_L57 y n (nI i - 1) M = f_X12_pushes_L216 y 2000 (0 : Int32) (0 : Int32) M' ∧ (∀ l' p', l' < 5 → p' < R 0 0 → M' (y + 8) (24 * l' + p') = nI (psW 100000000 R K K l' p')) ∧ keepQ y M M' := by
  intro i
  induction i with
  | zero =>
    intro j n M hj hn hM hs hv
    obtain ⟨n, rfl⟩ : ∃ m, n = m + 1 := ⟨n - 1, by omega⟩
    have e : j = K := by omega
    subst e
    refine ⟨M, ?_, fun l' p' h1 h2 => ?_, fun _ _ _ _ _ => rfl, fun _ _ _ _ => rfl⟩
    · rw [f_X12_pushes_L57, if_pos (by decide)]
    · have := hv l' p' h1 h2
      rwa [Nat.mul_zero, Nat.zero_add] at this
  | succ i ih =>
    intro j n M hj hn hM hs hv
    obtain ⟨n, rfl⟩ : ∃ m, n = m + 1 := ⟨n - 1, by omega⟩
    obtain ⟨M1, e1, a1, k1⟩ := mps63 (rd := i) (w' := psW 100000000 R K (j + 1)) (fun x2 M => f_X12_pushes_L57 y n x2 M) hF (by omega) (by omega) (psW_le 100000000 R K j) (fun l p => by
      show mn (lfW 100000000 R (psW 100000000 R K j) (K - j) (l + 1) p) _ = _
      rw [show K - j = i + 1 by omega]) 120 0 2000 M (by omega) (by omega) hM hs hv (fun l' p' h1 h2 h3 => absurd h3 (Nat.not_lt_zero _))
    obtain ⟨M2, e2, b1, k2⟩ := ih (j + 1) n M1 (by omega) (by omega) (k1.ring hM) (by rw [k1.1 _ (by omega) (by omega) (by omega) (by omega)]; exact hs) a1
    refine ⟨M2, ?_, b1, k1.trans k2⟩
    rw [f_X12_pushes_L57, nI_pred, if_neg (nI_pos (by omega))]
    exact e1.trans e2
theorem mps29 {K : Nat} (hK : K ≤ 12) : ∀ (k a n : Nat) (M : Mm), a + k = 120 → k < n → ∃ M', f_X12_pushes_L29 y n (nI K) (nI a) M = f_X12_pushes_L57 y 2000 (nI K - 1) M' ∧ (∀ j, a ≤ j → j < 120 → M' (y + 8) (120 * K + j) = nI 0) ∧ (∀ q, q < 120 * K + a → M' (y + 8) q = M (y + 8) q) ∧ ∀ q, q ≠ y + 8 → M' q = M q := by
  intro k
  induction k with
  | zero =>
    intro a n M hk hn
    obtain ⟨n, rfl⟩ : ∃ m, n = m + 1 := ⟨n - 1, by omega⟩
    refine ⟨M, ?_, fun j h1 h2 => by omega, fun _ _ => rfl, fun _ _ => rfl⟩
    rw [f_X12_pushes_L29, nlit 120, ifle (by omega) (by omega), if_pos (by omega), bnd_e]
  | succ k ih =>
    intro a n M hk hn
    obtain ⟨n, rfl⟩ : ∃ m, n = m + 1 := ⟨n - 1, by omega⟩
    obtain ⟨M', e, a1, a2, a3⟩ := ih (a + 1) n (up2 M (y + 8) (120 * K + a) (nI 0)) (by omega) (by omega)
    refine ⟨M', ?_, fun j h1 h2 => ?_, fun q hq => ?_, fun q hq => by rw [a3 q hq, up2_o _ _ _ hq]⟩
    · rw [f_X12_pushes_L29, nlit 120, ifle (by omega) (by omega), if_neg (by omega), pk_mul, nI_add, ck_nI (by omega) (by omega), bnd_e, bnd_e, cl_nI (by omega), nI_1]
      exact e
    · by_cases h : j = a
      · subst h
        rw [a2 _ (by omega), up2_at, if_pos ⟨rfl, rfl⟩]
      · exact a1 j (by omega) h2
    · rw [a2 q (by omega), up2_at, if_neg (by omega)]
theorem mps216 {w : Nat → Nat → Nat} {M : Mm} (hF : FOk R) (hw : ∀ l p, w l p ≤ 100000000) (hb : tot (R 0 0) R < 2 ^ 31) (hM : MRing M (y + 1) 0 R) (hv : ∀ l' p', l' < 5 → p' < R 0 0 → M (y + 8) (24 * l' + p') = nI (w l' p')) : ∀ (k a n s : Nat), a + k = 120 → k < n → f_X12_pushes_L216 y n (nI s) (nI a) M = some (opI (pfF R w 100000000 a s k), M) := by
  have hP := hF.1
  intro k
  induction k with
  | zero =>
    intro a n s hk hn
    obtain ⟨n, rfl⟩ : ∃ m, n = m + 1 := ⟨n - 1, by omega⟩
    rw [f_X12_pushes_L216, nlit 120, ifle (by omega) (by omega), if_pos (by omega)]
    rfl
  | succ k ih =>
    intro a n s hk hn
    obtain ⟨n, rfl⟩ : ∃ m, n = m + 1 := ⟨n - 1, by omega⟩
    have g : M (y + 1) (6 + a) = nI (nnR R a) := by
      have := hM.2.2.1.at (show a < 120 by omega)
      rwa [Nat.zero_add] at this
    have hbn : nnR R a < 2 ^ 31 := by
      unfold nnR
      split
      · have := lum_le R (show a / 24 < 5 by omega) (show a % 24 < R 0 0 by assumption)
        omega
      · omega
    rw [f_X12_pushes_L216, nlit 120, ifle (by omega) (by omega), if_neg (by omega), nlit 6, nI_add, ck_nI (by omega) (by omega), bnd_e, cl_nI (by omega), g, show (0 : Int32) = nI 0 from rfl, ifle hbn (by omega), pfF]
    unfold f_X12_pushes_J251 f_X12_pushes_J270
    rw [show (0 : Int32) = nI 0 from rfl, ifle hbn (by omega), bnd_e, bnd_e, bnd_e, bnd_e, nI_add, Nat.add_zero, nI_1]
    by_cases h0 : nnR R a ≤ 0
    · have e0 : nnR R a = 0 := by omega
      rw [if_pos h0, if_pos h0, e0, if_neg (by omega), Nat.zero_mul, Nat.add_zero]
      exact ih (a + 1) n s (by omega) (by omega)
    · have hap : a % 24 < R 0 0 := Decidable.by_contra (fun q => h0 (by unfold nnR; rw [if_neg q]; omega))
      have g8 : M (y + 8) a = nI (w (a / 24) (a % 24)) := by
        have := hv (a / 24) (a % 24) (by omega) hap
        rwa [show 24 * (a / 24) + a % 24 = a by omega] at this
      have hwl := hw (a / 24) (a % 24)
      rw [if_neg h0, if_neg h0, ck_nI (by omega) (by omega), cl_nI (by omega), g8, nlit 100000000, iflt (by omega) (by omega)]
      by_cases h1 : w (a / 24) (a % 24) < 100000000
      · rw [if_pos h1, if_neg (by omega), ck_nI (by omega) (by omega), pk_mul, nI_add]
        exact ih (a + 1) n _ (by omega) (by omega)
      · rw [if_neg h1, if_pos (by omega)]
        rfl
end PSM
section STE
variable {x y k : Nat} {M : Mm} {N : Ml}
theorem s_pushes (hy : y = x + 234) (hk : k < 320) (q0 : Int32) (hI : IInv x y k M N) : ∃ (v : Int32) (M1 M2 : Mm), f_X11_pushes x q0 M = some (v, M1) ∧ f_X12_pushes y q0 M1 = some (v, M2) ∧ IInv x y (k + 5) M2 N := by
  obtain ⟨R, tu, c1, m1, s⟩ := hI.ring
  have hF := s.fok (by omega)
  have hP := hF.1
  have h4 := hF.2.1
  have hr := s.2.2.1
  have htot := s.2.2.2.2.2.2
  unfold f_X11_pushes f_X12_pushes
  rw [within_ok, Option.bind_some, ite_b01]
  by_cases c : (0 : Int32) ≤ q0 ∧ q0 ≤ 12
  · obtain ⟨K, hK, rfl⟩ := in_nat (b := 12) (by omega) c
    have k0 : ∀ q, q ≠ x + 204 + 12 → va_up M (x + 204 + 12) (fun j => if j < 120 then 0 else M (x + 204 + 12) j) q = M q := fun q hq => va_up_ne _ _ hq
    obtain ⟨M1, e1, a1⟩ := cfp10 (cs := x + 204) (r0 := x + 7 + 1) (K := K) hF (by omega) hK (by omega) (by omega) K 0 2000 (va_up M (x + 204 + 12) (fun j => if j < 120 then 0 else M (x + 204 + 12) j)) (by omega) (by omega) (c1.mono (fun q q1 q2 => k0 q (by omega))) (fun l' p' h1 h2 => by
      rw [va_up_at, if_pos rfl]
      show (if 24 * l' + p' < 120 then (0 : Int32) else _) = nI 0
      rw [if_pos (by omega)]
      rfl)
    have k1 : ∀ q, (q < x + 214 ∨ x + 218 ≤ q) → M1 q = M q := fun q hq => by rw [a1 q (by omega) (by omega) (by omega), k0 q (by omega)]
    rw [if_pos c]
    have ef : f_X0_fewestPushes (x + 204) (x + 7 + 1) (nI K) M = some (opI (pfF R (psW 1000 R K K) 1000 0 0 120), M1) := by
      unfold f_X0_fewestPushes
      rw [fill_ok _ _ _ _ (by omega), Option.bind_some]
      exact e1
    have m1' : MRing M1 (y + 1) 0 R := by
      unfold MRing MLum at m1 ⊢
      rw [k1 _ (by omega)]
      exact m1
    obtain ⟨M2, e2, b1, -, b3⟩ := mps29 (y := y) (K := K) hK 120 0 2000 (up2 M1 y 10 (nI (2 ^ R 0 1 - 1))) (by omega) (by omega)
    have m2 : MRing M2 (y + 1) 0 R := by
      unfold MRing MLum at m1' ⊢
      rw [b3 _ (by omega), up2_o _ _ _ (by omega)]
      exact m1'
    obtain ⟨M3, e3, d1, d2⟩ := mps57 (y := y) (K := K) hF hK (by omega) K 0 2000 M2 (by omega) (by omega) m2 (by rw [b3 _ (by omega), up2_at, if_pos ⟨rfl, rfl⟩]; exact sOk_all h4) (fun l' p' h1 h2 => b1 _ (by omega) (by omega))
    have e4 := mps216 (y := y) hF (psW_le 100000000 R K K) (by omega) (d2.ring m2) d1 120 0 2000 0 (by omega) (by omega)
    rw [← pfF_rel R K K hK] at e4
    refine ⟨_, M1, M3, by rw [ef, bd2_some], ?_, ?_⟩
    · rw [show (0 : Int64) = (0 : Int32).toInt64 from rfl, show (12 : Int64) = (12 : Int32).toInt64 from rfl, in_ok, Option.bind_some, ite_b01, if_pos c, all_ok m1'.2.2.2.1 h4, Option.bind_some, bnd_e]
      exact e2.trans (e3.trans e4)
    · exact hI.scratch hy (fun q hq => by rw [d2.2 q (by omega) (by omega) (by omega), b3 q (by omega), up2_o _ _ _ (by omega), k1 q (by omega)]) (by rw [d2.2 _ (by omega) (by omega) (by omega), b3 _ (by omega), up2_o _ _ _ (by omega), k1 _ (by omega)]) (by rw [d2.1 _ (by omega) (by omega) (by omega) (by omega), b3 _ (by omega), up2_at, if_neg (by omega), k1 _ (by omega)])
  · rw [if_neg c, rj]
    refine ⟨_, _, _, rfl, ?_, hI.refused hy (w := 0) (by omega)⟩
    rw [show (0 : Int64) = (0 : Int32).toInt64 from rfl, show (12 : Int64) = (12 : Int32).toInt64 from rfl, in_ok, Option.bind_some, ite_b01, if_neg c, bj]
end STE
