/-! road -/
theorem lum_le {P l p : Nat} (R : Rg) (hl : l < 5) (hp : p < P) : R (10 + l) p ≤ tot P R := by
  have h1 := smF_le (f := R (10 + l)) hp
  have h2 := smF_le (f := fun l => smF (R (10 + l)) P) hl
  unfold tot
  exact Nat.le_trans h1 h2
abbrev clr (R : Rg) (p : Nat) : Prop := smF (fun l => R (10 + l) p) 5 = 0
theorem clr_str (R : Rg) (z p : Nat) : clr (updR R 0 3 z) p ↔ clr R p := by
  have e : smF (fun l => updR R 0 3 z (10 + l) p) 5 = smF (fun l => R (10 + l) p) 5 := smF_cong (fun l _ => by rw [updR_at, if_neg (by omega)])
  unfold clr
  rw [e]
theorem sm_0 {f : Nat → Nat} {i n : Nat} (hi : i < n) (h : f i ≠ 0) : smF f n ≠ 0 := by
  have := smF_le (f := f) hi
  omega
theorem icl {M : Mm} {a p : Nat} {tu : Nat → Nat} {R : Rg} (h : CRing M a tu R) (hP : R 0 0 ≤ 24) (hp : p < R 0 0) (hb : tot (R 0 0) R < 2 ^ 31) : ∀ (k l n : Nat), l + k = 5 → k < n → smF (fun l => R (10 + l) p) l = 0 → f_X5_isClear_L2 a M n (nI p) (nI l) = some (b01 (clr R p)) := by
  intro k
  induction k with
  | zero =>
    intro l n hl hn h0
    obtain ⟨n, rfl⟩ : ∃ m, n = m + 1 := ⟨n - 1, by omega⟩
    have e : l = 5 := by omega
    subst e
    rw [f_X5_isClear_L2, nlit 5, ifle (by omega) (by omega), if_pos (by omega)]
    unfold b01
    rw [if_pos h0]
  | succ k ih =>
    intro l n hl hn h0
    obtain ⟨n, rfl⟩ : ∃ m, n = m + 1 := ⟨n - 1, by omega⟩
    have hle := lum_le R (show l < 5 by omega) hp
    rw [f_X5_isClear_L2, nlit 5, ifle (by omega) (by omega), if_neg (by omega), lumpsAt_ok h (by omega) hp hP, Option.bind_some, n0, ifle (by omega) (by omega)]
    by_cases hz : R (10 + l) p ≤ 0
    · rw [if_pos hz, bnd_e, nI_1]
      exact ih (l + 1) n (by omega) (by omega) (by rw [smF, h0]; omega)
    · rw [if_neg hz]
      unfold b01
      rw [if_neg (sm_0 (f := fun l => R (10 + l) p) (show l < 5 by omega) (by omega))]
      rfl
theorem isClear_ok {M : Mm} {a p : Nat} {tu : Nat → Nat} {R : Rg} (h : CRing M a tu R) (hP : R 0 0 ≤ 24) (hp : p < R 0 0) (hb : tot (R 0 0) R < 2 ^ 31) : f_X5_isClear a (nI p) M = some (b01 (clr R p)) := icl h hP hp hb 5 0 2000 (by omega) (by omega) rfl
theorem cgo_str {M : Mm} {a z : Nat} {tu : Nat → Nat} {R : Rg} (h : CRing M a tu (updR R 0 3 z)) (hF : FOk R) (hr : R 0 2 + 1 < 100000) : ∃ w M' tu' z', f_X5_goOn a M = some (nI w, M') ∧ CRing M' a tu' (updR (rndR R tr1) 0 3 z') ∧ keepG a M M' := by
  have e0 : ∀ b j, ¬ (b = 0 ∧ j = 3) → updR R 0 3 z b j = R b j := fun b j h => by rw [updR_at, if_neg h]
  have hF' : FOk (updR R 0 3 z) := by
    unfold FOk
    rw [e0 0 0 (by omega), e0 0 1 (by omega), e0 0 2 (by omega)]
    refine ⟨hF.1, hF.2.1, fun l hl => ?_, fun j hj => ?_, fun j hj => ?_, hF.2.2.2.2.2⟩
    · rw [e0 _ _ (by omega)]; exact hF.2.2.1 l hl
    · rw [e0 _ _ (by omega), e0 _ _ (by omega), e0 _ _ (by omega)]; exact hF.2.2.2.1 j hj
    · rw [e0 _ _ (by omega)]; exact hF.2.2.2.2.1 j hj
  obtain ⟨w1, M1, tu1, e1, c1, t1, q1⟩ := cgo_ok h hF' (by rw [e0 0 2 (by omega)]; omega)
  rw [show (fun _ => true) = tr1 from rfl, str_rnd, updR_idem] at c1
  exact ⟨w1, M1, tu1, _, e1, c1, q1⟩
def opF (C : Nat → Prop) [DecidablePred C] (r : Nat) : Nat → Option Nat
  | 0 => none
  | k + 1 => if C r then some r else opF C (r + 1) k
def laF (C : Nat → Prop) [DecidablePred C] (r : Nat) : Nat → Nat
  | 0 => r
  | k + 1 => if C r then laF C (r + 1) k else r
def opI : Option Nat → Int32
  | none => -1
  | some r => nI r
theorem opF_some (C : Nat → Prop) [DecidablePred C] : ∀ (k r f : Nat), opF C r k = some f → C f ∧ r ≤ f ∧ f < r + k := by
  intro k
  induction k with
  | zero => intro r f h; cases h
  | succ k ih =>
    intro r f h
    rw [opF] at h
    by_cases hc : C r
    · rw [if_pos hc] at h
      cases h
      exact ⟨hc, by omega, by omega⟩
    · rw [if_neg hc] at h
      have := ih (r + 1) f h
      exact ⟨this.1, by omega, by omega⟩
abbrev rdC (R : Rg) (p r : Nat) : Prop := clr (rnK R tr1 r) p
theorem laF_lt (C : Nat → Prop) [DecidablePred C] : ∀ (k r : Nat), r ≤ laF C r k ∧ laF C r k ≤ r + k := by
  intro k
  induction k with
  | zero => intro r; rw [laF]; omega
  | succ k ih =>
    intro r
    rw [laF]
    split
    · have := ih (r + 1); omega
    · omega
section RDC
variable {cs r0 p K : Nat} {R : Rg}
theorem cop13 (hF : FOk R) (hp : p < R 0 0) (hK : K ≤ 60) (hr : R 0 2 + K + 1 < 100000) (hb : ∀ r, r ≤ 60 → tot (R 0 0) (rnK R tr1 r) < 2 ^ 31) : ∀ (k r n : Nat) (M : Mm) (tu : Nat → Nat) (z : Nat), r + k = K + 1 → k < n → CRing M (cs + 1) tu (updR (rnK R tr1 r) 0 3 z) → ∃ M', f_X0_roadOpens_L13 cs r0 n (nI p) (nI K) (nI r) M = some (opI (opF (rdC R p) r k), M') ∧ (∀ f, opF (rdC R p) r k = some f → ∃ tu' z', CRing M' (cs + 1) tu' (updR (rnK R tr1 f) 0 3 z')) ∧ ∀ q, (q < cs + 1 ∨ cs + 10 ≤ q) → M' q = M q := by
  intro k
  induction k with
  | zero =>
    intro r n M tu z hk hn h
    obtain ⟨n, rfl⟩ : ∃ m, n = m + 1 := ⟨n - 1, by omega⟩
    refine ⟨M, ?_, fun f hf => (by cases hf), fun _ _ => rfl⟩
    rw [f_X0_roadOpens_L13, iflt (by omega) (by omega), if_pos (by omega)]
    rfl
  | succ k ih =>
    intro r n M tu z hk hn h
    obtain ⟨n, rfl⟩ : ∃ m, n = m + 1 := ⟨n - 1, by omega⟩
    have hFr := rnK_fok hF tr1 r (by omega)
    have e00 : rnK R tr1 r 0 0 = R 0 0 := rnK_sf tr1 r R 0 0 (by omega) (by omega) (by omega)
    have u00 : updR (rnK R tr1 r) 0 3 z 0 0 = R 0 0 := by rw [updR_at, if_neg (by omega), e00]
    have ut : tot (R 0 0) (updR (rnK R tr1 r) 0 3 z) = tot (R 0 0) (rnK R tr1 r) := tot_cong (fun l p _ _ => by rw [updR_at, if_neg (by omega)])
    have hc := isClear_ok h (by rw [u00]; exact hF.1.2) (by rw [u00]; exact hp) (by rw [u00, ut]; exact hb r (by omega))
    rw [f_X0_roadOpens_L13, iflt (by omega) (by omega), if_neg (by omega), hc, Option.bind_some, ite_b01, opF]
    by_cases hcl : rdC R p r
    · rw [if_pos ((clr_str _ _ _).mpr hcl), if_pos hcl]
      refine ⟨M, rfl, fun f hf => ?_, fun _ _ => rfl⟩
      cases hf
      exact ⟨tu, z, h⟩
    · rw [if_neg (fun q => hcl ((clr_str _ _ _).mp q)), if_neg hcl]
      obtain ⟨w, M1, tu1, z1, e1, c1, q1⟩ := cgo_str h hFr (by rw [rnK_02]; omega)
      rw [← rnK_succ] at c1
      obtain ⟨M2, e2, c2, q2⟩ := ih (r + 1) n M1 tu1 z1 (by omega) (by omega) c1
      refine ⟨M2, ?_, c2, fun q hq => by rw [q2 q hq, q1 q (by omega) (by omega) (by omega) (by omega)]⟩
      rw [e1, bd2_some, bnd_e, nI_1]
      exact e2
theorem cla3 (hF : FOk R) (hp : p < R 0 0) (hK : K ≤ 60) (hr : R 0 2 + K + 1 < 100000) (hb : ∀ r, r ≤ 60 → tot (R 0 0) (rnK R tr1 r) < 2 ^ 31) {f : Nat} : ∀ (k r n : Nat) (M : Mm) (tu : Nat → Nat) (z : Nat), r + k = K + 1 → f ≤ r → k < n → CRing M (cs + 1) tu (updR (rnK R tr1 r) 0 3 z) → ∃ M', f_X0_roadLasts_L3 cs r0 n (nI p) (nI K) (nI f) (nI r) M = some (nI (laF (rdC R p) r k - f), M') ∧ ∀ q, (q < cs + 1 ∨ cs + 10 ≤ q) → M' q = M q := by
  intro k
  induction k with
  | zero =>
    intro r n M tu z hk hf hn h
    obtain ⟨n, rfl⟩ : ∃ m, n = m + 1 := ⟨n - 1, by omega⟩
    refine ⟨M, ?_, fun _ _ => rfl⟩
    rw [f_X0_roadLasts_L3, iflt (by omega) (by omega), if_pos (by omega), pk_sub hf]
    rfl
  | succ k ih =>
    intro r n M tu z hk hf hn h
    obtain ⟨n, rfl⟩ : ∃ m, n = m + 1 := ⟨n - 1, by omega⟩
    have hFr := rnK_fok hF tr1 r (by omega)
    have e00 : rnK R tr1 r 0 0 = R 0 0 := rnK_sf tr1 r R 0 0 (by omega) (by omega) (by omega)
    have u00 : updR (rnK R tr1 r) 0 3 z 0 0 = R 0 0 := by rw [updR_at, if_neg (by omega), e00]
    have ut : tot (R 0 0) (updR (rnK R tr1 r) 0 3 z) = tot (R 0 0) (rnK R tr1 r) := tot_cong (fun l p _ _ => by rw [updR_at, if_neg (by omega)])
    have hc := isClear_ok h (by rw [u00]; exact hF.1.2) (by rw [u00]; exact hp) (by rw [u00, ut]; exact hb r (by omega))
    rw [f_X0_roadLasts_L3, iflt (by omega) (by omega), if_neg (by omega), hc, Option.bind_some, ite_b01, laF]
    by_cases hcl : rdC R p r
    · rw [if_pos ((clr_str _ _ _).mpr hcl), if_pos hcl]
      obtain ⟨w, M1, tu1, z1, e1, c1, q1⟩ := cgo_str h hFr (by rw [rnK_02]; omega)
      rw [← rnK_succ] at c1
      obtain ⟨M2, e2, q2⟩ := ih (r + 1) n M1 tu1 z1 (by omega) (by omega) (by omega) c1
      refine ⟨M2, ?_, fun q hq => by rw [q2 q hq, q1 q (by omega) (by omega) (by omega) (by omega)]⟩
      rw [e1, bd2_some, bnd_e, nI_1]
      exact e2
    · rw [if_neg (fun q => hcl ((clr_str _ _ _).mp q)), if_neg hcl, pk_sub hf]
      exact ⟨M, rfl, fun _ _ => rfl⟩
end RDC
section RDM
variable {y p K : Nat} {R : Rg}
theorem mrd4 {M : Mm} (hH : HRing M y R) (hP : R 0 0 ≤ 24) (hp : p < R 0 0) (hb : tot (R 0 0) R < 2 ^ 31) : ∀ (k l n : Nat), l + k = 5 → k < n → f_X12_isRoad_L4 y M n (nI p) (b01 (smF (fun l => R (10 + l) p) l = 0)) (nI l) = some (b01 (clr R p)) := by
  intro k
  induction k with
  | zero =>
    intro l n hl hn
    obtain ⟨n, rfl⟩ : ∃ m, n = m + 1 := ⟨n - 1, by omega⟩
    have e : l = 5 := by omega
    subst e
    rw [f_X12_isRoad_L4, nlit 5, ifle (by omega) (by omega), if_pos (by omega), cb_b01]
  | succ k ih =>
    intro l n hl hn
    obtain ⟨n, rfl⟩ : ∃ m, n = m + 1 := ⟨n - 1, by omega⟩
    have hle := lum_le R (show l < 5 by omega) hp
    have g := hH.1 l p (by omega) (by omega)
    rw [Nat.zero_add, if_pos hp] at g
    have ih' := ih (l + 1) n (by omega) (by omega)
    unfold b01 at ih'
    rw [smF] at ih'
    rw [f_X12_isRoad_L4, nlit 5, ifle (by omega) (by omega), if_neg (by omega), ite_b01, nlit 24, pk_mul, nI_add, ck_nI (by omega) (by omega), cl_nI (by omega), g, n0, ifeq (by omega) (by omega)]
    unfold f_X12_isRoad_J31 f_X12_isRoad_J32
    rw [bnd_e, bnd_e, nI_1]
    by_cases h0 : smF (fun l => R (10 + l) p) l = 0
    · rw [if_pos h0]
      by_cases hz : R (10 + l) p = 0
      · rw [if_pos hz]
        rw [if_pos (by omega)] at ih'
        exact ih'
      · rw [if_neg hz]
        rw [if_neg (by omega)] at ih'
        exact ih'
    · rw [if_neg h0]
      rw [if_neg (by omega)] at ih'
      exact ih'
theorem misRoad_ok {M : Mm} (hH : HRing M y R) (hP : R 0 0 ≤ 24) (hp : p < R 0 0) (hb : tot (R 0 0) R < 2 ^ 31) : f_X12_isRoad y (nI p) M = some (b01 (clr R p)) := mrd4 hH hP hp hb 5 0 2000 (by omega) (by omega)
theorem j76 {M : Mm} {C : Prop} [Decidable C] (x2 x3 x4 x5 x7 s0 : Int32) (kb : Int32 → Int32 → Int32 → Int32 → Int32 → Int32 → Int32 → Mm → Option (Int32 × Mm)) (h : f_X12_isRoad y (nI p) M = some (b01 C)) (h7 : ¬ x7 = (-1 : Int32)) : f_X12_road_J76 y (nI p) x2 x3 x4 x5 x7 s0 M kb = if C then kb (nI p) x2 x3 (if x4 = (-1 : Int32) then x7 else x4) (x5 + 1) 0 (x7 + 1) M else kb (nI p) x2 x3 x4 (x5 + 0) (if x4 = (-1 : Int32) then 0 else 1) (x7 + 1) M := by
  unfold f_X12_road_J76 f_X12_road_J101 f_X12_road_J103 f_X12_road_J117 f_X12_road_J135 f_X12_road_J136
  rw [h, Option.bind_some, ite_b01]
  simp only [ite_b01, bnd_e]
  by_cases hC : C
  · simp only [if_pos hC]
    by_cases h4 : x4 = (-1 : Int32)
    · simp only [if_pos h4, if_neg h7]
    · simp only [if_neg h4]
  · simp only [if_neg hC]
    by_cases h4 : x4 = (-1 : Int32)
    · simp only [if_pos h4]
    · simp only [if_neg h4]
theorem nI_ne_m1 {f : Nat} (hf : f < 2 ^ 31) : ¬ nI f = (-1 : Int32) := fun h => by
  have h2 := nI_pos (n := f) hf
  rw [h] at h2
  exact h2 (by decide)
/-- one round on from the second on -/
theorem mrdS {M : Mm} {r : Nat} (hN : NRing M y (rnK R tr1 r)) (hH : HRing M y (rnK R tr1 r)) (hF : FOk R) (h9 : M y 9 = nI (R 0 2 + r)) (hs : sOk (fun m => decide (m < R 0 1)) (M y 10)) (hr : R 0 2 + r + 1 < 100000) : ∃ w M', f_X12_goRound y M = some (nI w, M') ∧ NRing M' y (rnK R tr1 (r + 1)) ∧ HRing M' y (rnK R tr1 (r + 1)) ∧ M' y 9 = nI (R 0 2 + (r + 1)) ∧ M' y 10 = M y 10 ∧ keepY y M M' := by
  have e01 : rnK R tr1 r 0 1 = R 0 1 := rnK_sf tr1 r R 0 1 (by omega) (by omega) (by omega)
  obtain ⟨w, M1, e1, a1, a2, a3, a4⟩ := mgo_ok hN hH (rnK_fok hF tr1 r (by omega)) (by rw [rnK_02]; exact h9) hs (by rw [rnK_02]; omega)
  rw [rndR_cong (s' := tr1) _ (fun j hj => by rw [e01] at hj; simp [tr1, hj]), ← rnK_succ] at a1
  rw [rnK_02] at a2
  refine ⟨w, M1, e1, ?_, a1, a2, a4.2 10 (by omega), a4.y⟩
  rw [rnK_succ]
  exact hN.sf (rndR_sf _ tr1) (a4.y.1 _ (by omega))
theorem mrdM (hF : FOk R) (hp : p < R 0 0) (hK : K ≤ 60) (hr : R 0 2 + K + 1 < 100000) (hb : ∀ r, r ≤ 60 → tot (R 0 0) (rnK R tr1 r) < 2 ^ 31) {f : Nat} (x3 : Int32) : ∀ (k r n : Nat) (M : Mm), r + 1 + k = K + 1 → f ≤ r → k < n → NRing M y (rnK R tr1 r) → HRing M y (rnK R tr1 r) → M y 9 = nI (R 0 2 + r) → sOk (fun m => decide (m < R 0 1)) (M y 10) → ∃ M', f_X12_road_L52 y n (nI p) (nI K) x3 (nI f) (nI (r + 1 - f)) 0 (nI (r + 1)) M = some (if x3 = 0 then nI f else nI (laF (rdC R p) (r + 1) k - f), M') ∧ keepY y M M' := by
  intro k
  induction k with
  | zero =>
    intro r n M hk hf hn hN hH h9 hs
    obtain ⟨n, rfl⟩ : ∃ m, n = m + 1 := ⟨n - 1, by omega⟩
    refine ⟨M, ?_, fun _ _ => rfl, rfl⟩
    rw [f_X12_road_L52, iflt (by omega) (by omega), if_pos (by omega)]
    unfold f_X12_road_J144 f_X12_road_J154
    rw [if_neg (nI_ne_m1 (by omega)), laF]
    split <;> rfl
  | succ k ih =>
    intro r n M hk hf hn hN hH h9 hs
    obtain ⟨n, rfl⟩ : ∃ m, n = m + 1 := ⟨n - 1, by omega⟩
    obtain ⟨w, M1, e1, a1, a2, a3, a4, a5⟩ := mrdS hN hH hF h9 hs (by omega)
    have e00 : rnK R tr1 (r + 1) 0 0 = R 0 0 := rnK_sf tr1 (r + 1) R 0 0 (by omega) (by omega) (by omega)
    have hc := misRoad_ok a2 (by rw [e00]; exact hF.1.2) (by rw [e00]; exact hp) (by rw [e00]; exact hb (r + 1) (by omega))
    rw [f_X12_road_L52, iflt (by omega) (by omega), if_neg (by omega), if_pos rfl, n0, ifeq (by omega) (by omega), if_neg (by omega), e1, bd2_some, j76 _ _ _ _ _ _ _ hc (nI_ne_m1 (by omega)), if_neg (nI_ne_m1 (by omega)), if_neg (nI_ne_m1 (by omega)), nI_1, nI_1, laF]
    by_cases hcl : rdC R p (r + 1)
    · rw [if_pos hcl, if_pos hcl, show r + 1 - f + 1 = r + 1 + 1 - f by omega]
      obtain ⟨M2, e2, b2⟩ := ih (r + 1) n M1 (by omega) (by omega) (by omega) a1 a2 a3 (by rw [a4]; exact hs)
      exact ⟨M2, e2, a5.trans b2⟩
    · rw [if_neg hcl, if_neg hcl]
      refine ⟨M1, ?_, a5⟩
      obtain ⟨n, rfl⟩ : ∃ m, n = m + 1 := ⟨n - 1, by omega⟩
      have n10 : ¬ (1 : Int32) = 0 := by decide
      have e3 : f_X12_road_J144 y x3 (nI f) (nI (r + 1 - f) + 0) M1 = some (if x3 = 0 then nI f else nI (r + 1 - f), M1) := by
        unfold f_X12_road_J144 f_X12_road_J154
        rw [if_neg (nI_ne_m1 (by omega)), Int32.add_zero]
        split <;> rfl
      rw [f_X12_road_L52, if_neg n10]
      rw [← n0, e3]
      split <;> rfl
def rdR (R : Rg) (p K : Nat) (x3 : Int32) : Option Nat → Int32
  | none => -1
  | some f => if x3 = 0 then nI f else nI (laF (rdC R p) (f + 1) (K - f) - f)
theorem mrdN (hF : FOk R) (hp : p < R 0 0) (hK : K ≤ 60) (hr : R 0 2 + K + 1 < 100000) (hb : ∀ r, r ≤ 60 → tot (R 0 0) (rnK R tr1 r) < 2 ^ 31) (x3 : Int32) : ∀ (k r n : Nat) (M : Mm), r + 1 + k = K + 1 → k < n → NRing M y (rnK R tr1 r) → HRing M y (rnK R tr1 r) → M y 9 = nI (R 0 2 + r) → sOk (fun m => decide (m < R 0 1)) (M y 10) → ∃ M', f_X12_road_L52 y n (nI p) (nI K) x3 (-1 : Int32) (nI 0) 0 (nI (r + 1)) M = some (rdR R p K x3 (opF (rdC R p) (r + 1) k), M') ∧ keepY y M M' := by
  intro k
  induction k with
  | zero =>
    intro r n M hk hn hN hH h9 hs
    obtain ⟨n, rfl⟩ : ∃ m, n = m + 1 := ⟨n - 1, by omega⟩
    refine ⟨M, ?_, fun _ _ => rfl, rfl⟩
    rw [f_X12_road_L52, iflt (by omega) (by omega), if_pos (by omega)]
    unfold f_X12_road_J144 f_X12_road_J154
    rw [if_pos rfl]
    split <;> rfl
  | succ k ih =>
    intro r n M hk hn hN hH h9 hs
    obtain ⟨n, rfl⟩ : ∃ m, n = m + 1 := ⟨n - 1, by omega⟩
    obtain ⟨w, M1, e1, a1, a2, a3, a4, a5⟩ := mrdS hN hH hF h9 hs (by omega)
    have e00 : rnK R tr1 (r + 1) 0 0 = R 0 0 := rnK_sf tr1 (r + 1) R 0 0 (by omega) (by omega) (by omega)
    have hc := misRoad_ok a2 (by rw [e00]; exact hF.1.2) (by rw [e00]; exact hp) (by rw [e00]; exact hb (r + 1) (by omega))
    rw [f_X12_road_L52, iflt (by omega) (by omega), if_neg (by omega), if_pos rfl, n0, ifeq (by omega) (by omega), if_neg (by omega), e1, bd2_some, j76 _ _ _ _ _ _ _ hc (nI_ne_m1 (by omega)), if_pos rfl, if_pos rfl, nI_1, nI_1, opF]
    by_cases hcl : rdC R p (r + 1)
    · rw [if_pos hcl, if_pos hcl, show 0 + 1 = r + 1 + 1 - (r + 1) by omega]
      obtain ⟨M2, e2, b2⟩ := mrdM hF hp hK hr hb (f := r + 1) x3 k (r + 1) n M1 (by omega) (by omega) (by omega) a1 a2 a3 (by rw [a4]; exact hs)
      refine ⟨M2, ?_, a5.trans b2⟩
      refine e2.trans ?_
      show _ = some ((if x3 = 0 then nI (r + 1) else nI (laF (rdC R p) (r + 1 + 1) (K - (r + 1)) - (r + 1))), M2)
      rw [show K - (r + 1) = k by omega]
    · rw [if_neg hcl, if_neg hcl]
      obtain ⟨M2, e2, b2⟩ := ih (r + 1) n M1 (by omega) (by omega) a1 a2 a3 (by rw [a4]; exact hs)
      refine ⟨M2, ?_, a5.trans b2⟩
      rw [Int32.add_zero]
      exact e2
end RDM
section STB
variable {x y k : Nat} {M : Mm} {N : Ml}
theorem s_road (hy : y = x + 234) (hk : k < 320) (q0 q1 q2 : Int32) (hI : IInv x y k M N) : ∃ (v : Int32) (M1 M2 : Mm), f_X11_road x q0 q1 q2 M = some (v, M1) ∧ f_X12_road y q0 q1 q2 M1 = some (v, M2) ∧ IInv x y (k + 5) M2 N := by
  obtain ⟨R, tu, c1, m1, s⟩ := hI.ring
  have hF := s.fok (by omega)
  have ec : M (x + 7 + 1) 9 = nI (R 0 0) := c1.1
  have em : M (y + 1) 0 = nI (R 0 0) := m1.1
  have hP := hF.1
  have h4 := hF.2.1
  have hr := s.2.2.1
  have htot := s.2.2.2.2.2.2
  unfold f_X11_road f_X12_road f_X11_road_J24 f_X12_road_J25
  rw [isPlace_ok, Option.bind_some, ite_b01, ec]
  by_cases c : (0 : Int32) ≤ q0 ∧ q0 ≤ nI (R 0 0) - 1
  · rw [if_pos c, isRounds_ok, Option.bind_some, ite_b01]
    by_cases d : (0 : Int32) ≤ q1 ∧ q1 ≤ 60
    · rw [if_pos d, within_ok, Option.bind_some, ite_b01]
      by_cases f : (0 : Int32) ≤ q2 ∧ q2 ≤ 1
      · rw [if_pos f]
        obtain ⟨p, hp, rfl⟩ := (cplace_ok q0 _ hP.2 _ rfl).mp c
        obtain ⟨K, hK, rfl⟩ := in_nat (b := 60) (by omega) d
        have cc := c1.copied (a := x + 204 + 1) hP.2 h4
        have hb : ∀ r, r ≤ 60 → tot (R 0 0) (rnK R tr1 r) < 2 ^ 31 := fun r hr60 => by
          obtain ⟨w, -, -, -, -, -, t, -⟩ := cgoBy_ok cc hF hr60 (by omega)
          omega
        have cc0 : CRing (cpM M (x + 204 + 1) (x + 7 + 1) (R 0 1)) (x + 204 + 1) tu (updR (rnK R tr1 0) 0 3 (R 0 3)) := by
          have e : updR (rnK R tr1 0) 0 3 (R 0 3) = R := by
            funext b j
            rw [updR_at]
            split
            · rename_i h; rw [h.1, h.2]
            · rfl
          rw [e]
          exact cc
        obtain ⟨M1, e1, a1, a2⟩ := cop13 (cs := x + 204) (r0 := x + 7 + 1) hF hp hK (by omega) hb (K + 1) 0 2000 _ tu _ (by omega) (by omega) cc0
        have k1 : ∀ q, (q < x + 205 ∨ x + 214 ≤ q) → M1 q = M q := fun q hq => by rw [a2 q (by omega), cpM_o _ _ _ _ (by omega)]
        have o1 : f_X0_roadOpens (x + 204) (x + 7 + 1) (nI p) (nI K) M = some (opI (opF (rdC R p) 0 (K + 1)), M1) := by
          unfold f_X0_roadOpens
          rw [copy_ok M _ _ (R 0 1) (by omega) h4 c1.2.1, Option.bind_some]
          exact e1
        obtain ⟨M2, e2, k2⟩ : ∃ M2, (bd2 (f_X0_roadOpens (x + 204) (x + 7 + 1) (nI p) (nI K) M) fun r16 M18 => if q2 = 0 then some (r16, M18) else if r16 = (-1 : Int32) then some (r16, M18) else bd2 (f_X0_roadLasts (x + 204) (x + 7 + 1) (nI p) (nI K) r16 M18) fun r21 M23 => some (r21, M23)) = some (rdR R p K q2 (opF (rdC R p) 0 (K + 1)), M2) ∧ ∀ q, (q < x + 205 ∨ x + 214 ≤ q) → M2 q = M q := by
          rw [o1, bd2_some]
          generalize ho : opF (rdC R p) 0 (K + 1) = o at *
          cases o with
          | none =>
            refine ⟨M1, ?_, k1⟩
            show (if q2 = 0 then some ((-1 : Int32), M1) else if (-1 : Int32) = -1 then some ((-1 : Int32), M1) else _) = _
            rw [if_pos rfl]
            split <;> rfl
          | some f0 =>
            obtain ⟨hcl, -, hlt⟩ := opF_some (rdC R p) (K + 1) 0 f0 ho
            show ∃ M2, (if q2 = 0 then some (nI f0, M1) else if nI f0 = (-1 : Int32) then some (nI f0, M1) else _) = _ ∧ _
            by_cases h0 : q2 = 0
            · refine ⟨M1, ?_, k1⟩
              rw [if_pos h0]
              show _ = some ((if q2 = 0 then nI f0 else _), M1)
              rw [if_pos h0]
            · obtain ⟨tu', z', c3⟩ := a1 f0 rfl
              obtain ⟨M2, e3, k3⟩ := cla3 (cs := x + 204) (r0 := x + 7 + 1) hF hp hK (by omega) hb (f := f0) (K + 1 - f0) f0 2000 M1 tu' z' (by omega) (by omega) (by omega) c3
              refine ⟨M2, ?_, fun q hq => by rw [k3 q (by omega), k1 q hq]⟩
              rw [if_neg h0, if_neg (nI_ne_m1 (by omega))]
              unfold f_X0_roadLasts
              show bd2 (f_X0_roadLasts_L3 (x + 204) (x + 7 + 1) 2000 (nI p) (nI K) (nI f0) (nI f0) M1) _ = some ((if q2 = 0 then nI f0 else nI (laF (rdC R p) (f0 + 1) (K - f0) - f0)), M2)
              rw [e3, bd2_some, if_neg h0, show K + 1 - f0 = (K - f0) + 1 by omega, laF, if_pos hcl]
        rw [e2]
        have m1' : MRing M2 (y + 1) 0 R := by
          unfold MRing MLum at m1 ⊢
          rw [k2 _ (by omega)]
          exact m1
        obtain ⟨M3, e3, b1, b2, b3, b4⟩ := takeNow_ok (nI (2 ^ R 0 1 - 1)) m1' h4
        have hs3 : sOk (fun m => decide (m < R 0 1)) (M3 y 10) := by rw [b3]; exact sOk_all h4
        have hN3 : NRing M3 y (rnK R tr1 0) := m1'.nring.sf (SF.rfl' R) (b4.1 _ (by omega))
        have hc := misRoad_ok b1 hP.2 hp (hb 0 (by omega))
        have hz : (0 : Int32) + 0 = nI 0 := by decide
        have ho : (0 : Int32) + 1 = nI (0 + 1 - 0) := by decide
        have ho1 : nI 0 + 1 = nI (0 + 1) := by decide
        obtain ⟨M4, e4, b5⟩ : ∃ M4, f_X12_road_L52 y 2000 (nI p) (nI K) q2 (-1 : Int32) (0 : Int32) (0 : Int32) (nI 0) M3 = some (rdR R p K q2 (opF (rdC R p) 0 (K + 1)), M4) ∧ keepY y M3 M4 := by
          have e5 : f_X12_road_L52 y (1999 + 1) (nI p) (nI K) q2 (-1 : Int32) (0 : Int32) (0 : Int32) (nI 0) M3 = if clr R p then f_X12_road_L52 y 1999 (nI p) (nI K) q2 (nI 0) (nI (0 + 1 - 0)) 0 (nI (0 + 1)) M3 else f_X12_road_L52 y 1999 (nI p) (nI K) q2 (-1 : Int32) (nI 0) 0 (nI (0 + 1)) M3 := by
            rw [f_X12_road_L52, iflt (by omega) (by omega), if_neg (by omega), if_pos rfl, if_pos (show nI 0 = (0 : Int32) from rfl), j76 _ _ _ _ _ _ _ hc (nI_ne_m1 (by omega)), if_pos rfl, if_pos rfl, hz, ho, ho1]
          rw [show (2000 : Nat) = 1999 + 1 from rfl, e5, opF]
          by_cases hcl : rdC R p 0
          · obtain ⟨M4, e6, b6⟩ := mrdM hF hp hK (by omega) hb (f := 0) q2 K 0 1999 M3 (by omega) (by omega) (by omega) hN3 b1 b2 hs3
            rw [if_pos hcl, if_pos (show clr R p from hcl)]
            exact ⟨M4, e6, b6⟩
          · obtain ⟨M4, e6, b6⟩ := mrdN hF hp hK (by omega) hb q2 K 0 1999 M3 (by omega) (by omega) hN3 b1 b2 hs3
            rw [if_neg hcl, if_neg (show ¬ clr R p from hcl)]
            exact ⟨M4, e6, b6⟩
        refine ⟨_, M2, M4, rfl, ?_, ?_⟩
        · rw [misPlace_ok, Option.bind_some, ite_b01, m1'.1, if_pos c, isLong_ok, Option.bind_some, ite_b01, if_pos d, show (0 : Int64) = (0 : Int32).toInt64 from rfl, show (1 : Int64) = (1 : Int32).toInt64 from rfl, in_ok, Option.bind_some, ite_b01, if_pos f, all_ok m1'.2.2.2.1 h4, Option.bind_some, e3, Option.bind_some]
          exact e4
        · have bb := b4.trans b5
          exact hI.scratch hy (fun q hq => by rw [bb.1 q (by omega), k2 q (by omega)]) (by rw [bb.1 _ (by omega), k2 _ (by omega)]) (by rw [bb.2, k2 _ (by omega)])
      · rw [if_neg f, rj]
        refine ⟨_, _, _, rfl, ?_, hI.refused hy (w := 0) (by omega)⟩
        rw [misPlace_ok, Option.bind_some, ite_b01, up2_o _ _ _ (by omega), em, if_pos c, isLong_ok, Option.bind_some, ite_b01, if_pos d, show (0 : Int64) = (0 : Int32).toInt64 from rfl, show (1 : Int64) = (1 : Int32).toInt64 from rfl, in_ok, Option.bind_some, ite_b01, if_neg f, bj]
    · rw [if_neg d, rj]
      refine ⟨_, _, _, rfl, ?_, hI.refused hy (w := 0) (by omega)⟩
      rw [misPlace_ok, Option.bind_some, ite_b01, up2_o _ _ _ (by omega), em, if_pos c, isLong_ok, Option.bind_some, ite_b01, if_neg d, bj]
  · rw [if_neg c, rj]
    refine ⟨_, _, _, rfl, ?_, hI.refused hy (w := 0) (by omega)⟩
    rw [misPlace_ok, Option.bind_some, ite_b01, up2_o _ _ _ (by omega), em, if_neg c, bj]
end STB
