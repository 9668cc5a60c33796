/-! ring, moon -/
theorem IInv.setNow {x y k : Nat} {M M' : Mm} {N : Ml} (hI : IInv x y k M N) (hy : y = x + 234) (hS : BothS (k + 5) M' (x + 7) (y + 1) 0) (h : ∀ q, ((x + 73 ≤ q ∧ q < x + 204) ∨ q = x + 221 ∨ q = x + 233 ∨ (y + 2 ≤ q ∧ q ≤ y + 4) ∨ q = y + 11) → M' q = M q) (ht : M' (x + 220) 1 = M (x + 220) 1) (hb : M' y 18 = M y 18) : IInv x y (k + 5) M' N := by
  subst hy
  obtain ⟨-, h2, ⟨n, hn, t1, t2, t3⟩, h4, h5⟩ := hI.up (show k ≤ k + 5 by omega)
  refine ⟨hS, h2.mono (fun q a b => h q (by omega)) (h _ (by omega)) (h _ (by omega)), ⟨n, hn, ht.trans t1, hb.trans t2, fun i hi => ?_⟩, fun j hj => ?_, h5⟩
  · rw [h (x + 221) (by omega), h (x + 234 + 11) (by omega)]; exact t3 i hi
  · rw [h (x + 233) (by omega), h (x + 234 + 4) (by omega)]; exact h4 j hj
def R0p (p : Nat) : Rg := fun a l => if a = 0 then (if l = 0 then p else 0) else if a = 1 then 5 - l else 0
theorem R0p_hi (p : Nat) {l : Nat} (j : Nat) (h : 2 ≤ l) : R0p p l j = 0 := by
  unfold R0p
  rw [if_neg (by omega), if_neg (by omega)]
theorem R0p_tot (p P : Nat) : tot P (R0p p) = 0 := by
  have h : ∀ l, smF (R0p p (10 + l)) P = 0 := fun l => (smF_cong (g := fun _ => 0) (fun j _ => R0p_hi p j (by omega))).trans (sm0 P)
  unfold tot
  exact (smF_cong (g := fun _ => 0) (fun l _ => h l)).trans (sm0 5)
theorem begM_o (M : Mm) (a : Nat) (p : Int32) {q : Nat} (h : q < a ∨ a + 5 ≤ q) : begM M a p q = M q := by
  funext j
  unfold begM
  rw [if_neg (by omega), if_neg (by omega), if_neg (by omega), if_neg (by omega), if_neg (by omega)]
theorem beg_ring (M : Mm) (a p : Nat) (hp : 4 ≤ p ∧ p ≤ 24) : CRing (begM M a (nI p)) a (fun _ => 0) (R0p p) := by
  have r0 : ∀ j, j = 10 ∨ j = 11 ∨ j = 12 → begM M a (nI p) a j = nI 0 := fun j hj => by
    unfold begM
    rw [if_pos rfl, if_neg (by omega), if_pos hj]
    rfl
  have r1 : ∀ j, j < 5 → begM M a (nI p) (a + 1) j = nI (5 - j) := fun j hj => by
    unfold begM
    rw [if_neg (by omega), if_pos rfl, if_pos hj]
  have r2 : ∀ j, j < 5 → begM M a (nI p) (a + 2) j = nI 0 := fun j hj => by
    unfold begM
    rw [if_neg (by omega), if_neg (by omega), if_pos rfl, if_pos hj]
    rfl
  have r3 : ∀ j, j < 120 → begM M a (nI p) (a + 3) j = nI 0 := fun j hj => by
    unfold begM
    rw [if_neg (by omega), if_neg (by omega), if_neg (by omega), if_pos rfl, if_pos hj]
    rfl
  have r4 : ∀ j, j < 5 → begM M a (nI p) (a + 4) j = nI 0 := fun j hj => by
    unfold begM
    rw [if_neg (by omega), if_neg (by omega), if_neg (by omega), if_neg (by omega), if_pos rfl, if_pos hj]
    rfl
  have e00 : R0p p 0 0 = p := rfl
  have e0 : ∀ j, j ≠ 0 → R0p p 0 j = 0 := fun j hj => by
    unfold R0p
    rw [if_pos rfl, if_neg hj]
  refine ⟨?_, ?_, ?_, ?_, fun l hl => ⟨?_, ?_⟩, ⟨fun l hl => ⟨r4 l hl, ?_⟩, fun l q hl hq => ?_⟩, fun j hj => ?_⟩
  · unfold begM
    rw [if_pos rfl, if_pos rfl, e00]
  · rw [r0 10 (by omega), e0 1 (by omega)]
  · rw [r0 11 (by omega), e0 2 (by omega)]
  · rw [r0 12 (by omega), e0 3 (by omega)]
  · rw [r1 l hl]
    rfl
  · rw [r2 l hl, R0p_hi p l (by omega)]
  · show 0 < R0p p 0 0
    rw [e00]; omega
  · rw [e00] at hq ⊢
    have := sea_lt (t := 0) hq (by omega)
    show begM M a (nI p) (a + 3) (24 * l + sea p 0 q) = _
    rw [r3 _ (by omega), R0p_hi p q (by omega)]
  · rw [e0 1 (by omega)] at hj
    omega
theorem mbeg_ring (M : Mm) (b p : Nat) (hp : 4 ≤ p ∧ p ≤ 24) : MRing (mbegM M b (nI p)) b 0 (R0p p) := by
  have r : ∀ j, 6 ≤ j → j < 151 → mbegM M b (nI p) b j = nI 0 := fun j h1 h2 => by
    unfold mbegM
    rw [if_pos rfl, if_neg (by omega), if_neg (by omega), if_pos h2]
    rfl
  have e0 : ∀ j, j ≠ 0 → R0p p 0 j = 0 := fun j hj => by
    unfold R0p
    rw [if_pos rfl, if_neg hj]
  refine ⟨?_, fun l hl => ⟨?_, ?_⟩, fun l q hl hq => ?_, ?_, fun j w hj hw => ?_, ?_, ?_⟩
  · unfold mbegM
    rw [if_pos rfl, if_pos rfl]
    rfl
  · unfold mbegM
    rw [if_pos rfl, if_neg (by omega), if_pos (by omega), show 6 - (0 + 1 + l) = 5 - l by omega]
    rfl
  · rw [r _ (by omega) (by omega), R0p_hi p l (by omega)]
  · rw [r _ (by omega) (by omega), R0p_hi p q (by omega)]
    split <;> rfl
  · rw [r _ (by omega) (by omega), e0 1 (by omega)]
  · rw [e0 1 (by omega)] at hj
    omega
  · rw [r _ (by omega) (by omega), e0 2 (by omega)]
  · rw [r _ (by omega) (by omega), e0 3 (by omega)]
theorem R0p_ok (k p : Nat) (hp : 4 ≤ p ∧ p ≤ 24) : ROk k (R0p p) := by
  have e0 : ∀ j, j ≠ 0 → R0p p 0 j = 0 := fun j hj => by
    unfold R0p
    rw [if_pos rfl, if_neg hj]
  refine ⟨hp, ?_, ?_, ?_, fun l hl => ⟨?_, ?_⟩, fun j hj => ?_, ?_⟩
  · rw [e0 1 (by omega)]; omega
  · rw [e0 2 (by omega)]; omega
  · rw [e0 3 (by omega)]; omega
  · show 5 - l ≤ 9
    omega
  · rw [R0p_hi p l (by omega)]; omega
  · rw [e0 1 (by omega)] at hj
    omega
  · rw [R0p_tot]; omega
theorem rj1 (x : Nat) (v : Int32) (M : Mm) : (bd2 (f_X11_refuse x (1 : Int32) v M) fun r M' => some (r, M')) = some (v, up2 M (x + 233) 1 (M (x + 233) 1 + 1)) := by
  rw [show (1 : Int32) = nI 1 from rfl, refuse_ok x 1 (by omega), bd2_some]
  rfl
theorem rj2 (x : Nat) (v : Int32) (M : Mm) : (bd2 (f_X11_refuse x (2 : Int32) v M) fun r M' => some (r, M')) = some (v, up2 M (x + 233) 2 (M (x + 233) 2 + 1)) := by
  rw [nlit 2, refuse_ok x 2 (by omega), bd2_some]
theorem bj1 (y : Nat) (M : Mm) : (bd2 (f_X12_no y M) fun r M' => some (r, M')) = some (-3, up2 M (y + 4) 1 (M (y + 4) 1 + 1)) := by
  rw [no_ok, bd2_some]
theorem bj2 (y : Nat) (M : Mm) : (bd2 (f_X12_full y M) fun r M' => some (r, M')) = some (-4, up2 M (y + 4) 2 (M (y + 4) 2 + 1)) := by
  rw [full_ok, bd2_some]
section STU
variable {x y k : Nat} {M : Mm} {N : Ml}
theorem s_ring (hy : y = x + 234) (q0 : Int32) (hI : IInv x y k M N) : ∃ (v : Int32) (M1 M2 : Mm), f_X11_ring x q0 M = some (v, M1) ∧ f_X12_ring y q0 M1 = some (v, M2) ∧ IInv x y (k + 5) M2 N := by
  unfold f_X11_ring f_X12_ring
  rw [within_ok, Option.bind_some, ite_b01]
  by_cases c : (4 : Int32) ≤ q0 ∧ q0 ≤ 24
  · obtain ⟨p, hp1, hp2, rfl⟩ := in_nat2 (a := 4) (b := 24) (by omega) (by omega) c
    obtain ⟨⟨R, u, ps, ⟨⟨tu, c1⟩, c2, c7, nw, c3, c4, c5⟩, ⟨m1, m2, m3⟩, s⟩, -⟩ := id hI
    rw [if_pos c, bnd_e, begin_ok, Option.bind_some]
    unfold f_X7_forget
    rw [bnd_e, Option.bind_some]
    have k1 : ∀ q, q ≠ x + 7 → (q < x + 7 + 1 ∨ x + 7 + 1 + 5 ≤ q) → up2 (begM M (x + 7 + 1) (nI p)) (x + 7) 3 0 q = M q := fun q h1 h2 => by rw [up2_o _ _ _ h1, begM_o _ _ _ h2]
    have k2 : ∀ (M : Mm) q, q ≠ y + 1 → mbegM M (y + 1) (nI p) q = M q := fun M q h => by
      funext j
      unfold mbegM
      rw [if_neg h]
    refine ⟨_, _, mbegM (up2 (begM M (x + 7 + 1) (nI p)) (x + 7) 3 0) (y + 1) (nI p), rfl, ?_, ?_⟩
    · rw [show (4 : Int64) = (4 : Int32).toInt64 from rfl, show (24 : Int64) = (24 : Int32).toInt64 from rfl, in_ok, Option.bind_some, ite_b01, if_pos c, mplaces_ok, Option.bind_some, mbegin_ok _ _ _ _ (by omega) (by omega), Option.bind_some, k1 _ (by omega) (by omega), m1.1, c1.1]
    · refine hI.setNow hy ⟨R0p p, 0, fun _ => R0p p, ⟨⟨fun _ => 0, (beg_ring M (x + 7 + 1) p ⟨hp1, hp2⟩).mono (fun q h1 h2 => ?_)⟩, ?_, fun i hi => ?_, nw, c3, ?_, fun i hi => by omega⟩, ⟨mbeg_ring _ _ _ ⟨hp1, hp2⟩, ?_, fun i hi => by omega⟩, ⟨R0p_ok _ _ ⟨hp1, hp2⟩, by omega, fun i hi => by omega⟩⟩ (fun q hq => by rw [k2 _ _ (by omega), k1 _ (by omega) (by omega)]) (by rw [k2 _ _ (by omega), k1 _ (by omega) (by omega)]) (by rw [k2 _ _ (by omega), k1 _ (by omega) (by omega)])
      · rw [k2 _ _ (by omega), up2_o _ _ _ (by omega)]
      · rw [k2 _ _ (by omega), up2_at, if_pos ⟨rfl, rfl⟩]
        rfl
      · rw [k2 _ _ (by omega), k1 _ (by omega) (by omega)]
        exact c7 i hi
      · rw [k2 _ _ (by omega), up2_at, if_neg (by omega), begM_o _ _ _ (by omega)]
        exact c4
      · unfold mbegM
        rw [if_pos rfl, if_neg (by omega), if_neg (by omega), if_pos (by omega)]
        rfl
  · rw [if_neg c, rj]
    refine ⟨_, _, _, rfl, ?_, hI.refused hy (w := 0) (by omega)⟩
    rw [show (4 : Int64) = (4 : Int32).toInt64 from rfl, show (24 : Int64) = (24 : Int32).toInt64 from rfl, in_ok, Option.bind_some, ite_b01, if_neg c, bj]
end STU
/-- a moon more -/
def addR (R : Rg) (kd ed pl st : Nat) : Rg := fun b j => if b = 0 ∧ j = 1 then R 0 1 + 1 else if (3 ≤ b ∧ b < 7) ∧ j = R 0 1 then (if b = 3 then kd else if b = 4 then ed else if b = 5 then pl else st) else R b j
theorem addR_o (R : Rg) (kd ed pl st : Nat) {b j : Nat} (h : ¬ (b = 0 ∧ j = 1)) (h2 : ¬ ((3 ≤ b ∧ b < 7) ∧ j = R 0 1)) : addR R kd ed pl st b j = R b j := by
  unfold addR
  rw [if_neg h, if_neg h2]
theorem addR_01 (R : Rg) (kd ed pl st : Nat) : addR R kd ed pl st 0 1 = R 0 1 + 1 := by
  unfold addR
  rw [if_pos ⟨rfl, rfl⟩]
theorem addR_m (R : Rg) (kd ed pl st : Nat) {b : Nat} (h : 3 ≤ b ∧ b < 7) : addR R kd ed pl st b (R 0 1) = (if b = 3 then kd else if b = 4 then ed else if b = 5 then pl else st) := by
  unfold addR
  rw [if_neg (by omega), if_pos ⟨h, rfl⟩]
theorem addMoon_ok {M : Mm} {a kd ed pl st : Nat} {tu : Nat → Nat} {R : Rg} (h : CRing M a tu R) (h4 : R 0 1 < 4) : ∃ M', f_X5_addMoon a (nI kd) (nI ed) (nI pl) (nI st) M = some (nI (R 0 1), M') ∧ CRing M' a tu (addR R kd ed pl st) ∧ (∀ q, q ≠ a → (q < a + 5 ∨ a + 8 < q) → M' q = M q) ∧ ∀ j, j ≠ 10 → M' a j = M a j := by
  obtain ⟨a1, a2, a3, a4, a5, a6, a7⟩ := h
  have e : f_X5_addMoon a (nI kd) (nI ed) (nI pl) (nI st) M = some (nI (R 0 1), up2 (up2 (up2 (up2 (up2 M (a + 5) (R 0 1) (nI kd)) (a + 6) (R 0 1) (nI ed)) (a + 7) (R 0 1) (nI pl)) (a + 8) (R 0 1) (nI st)) a 10 (nI (R 0 1 + 1))) := by
    unfold f_X5_addMoon
    rw [a2, ck_nI h4 (by omega), bnd_e, cl_nI (by omega), up2_o _ _ _ (show a ≠ a + 5 by omega), a2, ck_nI h4 (by omega), bnd_e, cl_nI (by omega), up2_o _ _ _ (show a ≠ a + 6 by omega), up2_o _ _ _ (show a ≠ a + 5 by omega), a2, ck_nI h4 (by omega), bnd_e, cl_nI (by omega), up2_o _ _ _ (show a ≠ a + 7 by omega), up2_o _ _ _ (show a ≠ a + 6 by omega), up2_o _ _ _ (show a ≠ a + 5 by omega), a2, ck_nI h4 (by omega), bnd_e, cl_nI (by omega), bnd_e, up2_o _ _ _ (show a ≠ a + 8 by omega), up2_o _ _ _ (show a ≠ a + 7 by omega), up2_o _ _ _ (show a ≠ a + 6 by omega), up2_o _ _ _ (show a ≠ a + 5 by omega), a2, nI_1, up2_at, if_pos ⟨rfl, rfl⟩, nI_pred]
  refine ⟨_, e, ⟨?_, ?_, ?_, ?_, fun l hl => ⟨?_, ?_⟩, ?_, fun j hj => ?_⟩, fun q h1 h2 => by rw [up2_o _ _ _ h1, up2_o _ _ _ (by omega), up2_o _ _ _ (by omega), up2_o _ _ _ (by omega), up2_o _ _ _ (by omega)], fun j hj => by rw [up2_at, if_neg (by omega), up2_o _ _ _ (by omega), up2_o _ _ _ (by omega), up2_o _ _ _ (by omega), up2_o _ _ _ (by omega)]⟩
  · rw [up2_at, if_neg (by omega), up2_o _ _ _ (by omega), up2_o _ _ _ (by omega), up2_o _ _ _ (by omega), up2_o _ _ _ (by omega), addR_o _ _ _ _ _ (by omega) (by omega)]; exact a1
  · rw [up2_at, if_pos ⟨rfl, rfl⟩, addR_01]
  · rw [up2_at, if_neg (by omega), up2_o _ _ _ (by omega), up2_o _ _ _ (by omega), up2_o _ _ _ (by omega), up2_o _ _ _ (by omega), addR_o _ _ _ _ _ (by omega) (by omega)]; exact a3
  · rw [up2_at, if_neg (by omega), up2_o _ _ _ (by omega), up2_o _ _ _ (by omega), up2_o _ _ _ (by omega), up2_o _ _ _ (by omega), addR_o _ _ _ _ _ (by omega) (by omega)]; exact a4
  · rw [up2_o _ _ _ (by omega), up2_o _ _ _ (by omega), up2_o _ _ _ (by omega), up2_o _ _ _ (by omega), up2_o _ _ _ (by omega), addR_o _ _ _ _ _ (by omega) (by omega)]; exact (a5 l hl).1
  · rw [up2_o _ _ _ (by omega), up2_o _ _ _ (by omega), up2_o _ _ _ (by omega), up2_o _ _ _ (by omega), up2_o _ _ _ (by omega), addR_o _ _ _ _ _ (by omega) (by omega)]; exact (a5 l hl).2
  · rw [addR_o _ _ _ _ _ (b := 0) (j := 0) (by omega) (by omega)]
    refine CLum.mono (M := M) ⟨a6.1, fun l p hl hp => ?_⟩ ?_ ?_
    · rw [addR_o _ _ _ _ _ (by omega) (by omega)]; exact a6.2 l p hl hp
    · rw [up2_o _ _ _ (by omega), up2_o _ _ _ (by omega), up2_o _ _ _ (by omega), up2_o _ _ _ (by omega), up2_o _ _ _ (by omega)]
    · rw [up2_o _ _ _ (by omega), up2_o _ _ _ (by omega), up2_o _ _ _ (by omega), up2_o _ _ _ (by omega), up2_o _ _ _ (by omega)]
  · rw [addR_01] at hj
    by_cases hm : j = R 0 1
    · subst hm
      rw [addR_m _ _ _ _ _ (by omega), addR_m _ _ _ _ _ (by omega), addR_m _ _ _ _ _ (by omega), addR_m _ _ _ _ _ (by omega)]
      simp [up2_at]
    · rw [addR_o _ _ _ _ _ (by omega) (by omega), addR_o _ _ _ _ _ (by omega) (by omega), addR_o _ _ _ _ _ (by omega) (by omega), addR_o _ _ _ _ _ (by omega) (by omega)]
      have := a7 j (by omega)
      simp [up2_at, hm]
      exact this
def layM (M : Mm) (b m : Nat) (kd ed pl st : Int32) : Mm := fun c j => if c = b then (if j = 126 then nI (m + 1) else if j = 127 + 4 * m then kd else if j = 127 + 4 * m + 1 then ed else if j = 127 + 4 * m + 2 then pl else if j = 127 + 4 * m + 3 then st else M b j) else M c j
theorem layMoon_ok {M : Mm} {b nn m : Nat} (kd ed pl st : Int32) (h : M b 126 = nI m) (hm : m < 4) (hn : 151 ≤ nn) (hn2 : nn < 2000) : f_X12_layMoon b nn kd ed pl st M = some (layM M b m kd ed pl st) := by
  unfold f_X12_layMoon
  rw [nlit 126, ck_nI (by omega) (by omega), cl_nI (by omega), h, nlit 127, nlit 4, pk_mul, nI_add, bnd_e, n0, nI_add, ck_nI (by omega) (by omega), bnd_e, cl_nI (by omega), nlit 1, nI_add, ck_nI (by omega) (by omega), bnd_e, cl_nI (by omega), nlit 2, nI_add, ck_nI (by omega) (by omega), bnd_e, cl_nI (by omega), nlit 3, nI_add, ck_nI (by omega) (by omega), bnd_e, cl_nI (by omega), ck_nI (by omega) (by omega), ck_nI (by omega) (by omega), bnd_e]
  congr 1
  funext c j
  simp only [up2_at, layM]
  by_cases hc : c = b
  · subst hc
    rw [if_neg (show ¬ (True ∧ 126 = 127 + 4 * m + 3) by omega), if_neg (show ¬ (True ∧ 126 = 127 + 4 * m + 2) by omega), if_neg (show ¬ (True ∧ 126 = 127 + 4 * m + 1) by omega), if_neg (show ¬ (True ∧ 126 = 127 + 4 * m + 0) by omega), h, nI_add, if_pos rfl]
    by_cases h1 : j = 126
    · rw [if_pos ⟨rfl, h1⟩, if_pos h1]
    · rw [if_neg (by omega), if_neg h1]
      by_cases h2 : j = 127 + 4 * m
      · rw [if_neg (by omega), if_neg (by omega), if_neg (by omega), if_pos (by omega), if_pos h2]
      · rw [if_neg h2]
        by_cases h3 : j = 127 + 4 * m + 1
        · rw [if_neg (by omega), if_neg (by omega), if_pos ⟨rfl, h3⟩, if_pos h3]
        · rw [if_neg h3]
          by_cases h4 : j = 127 + 4 * m + 2
          · rw [if_neg (by omega), if_pos ⟨rfl, h4⟩, if_pos h4]
          · rw [if_neg h4]
            by_cases h5 : j = 127 + 4 * m + 3
            · rw [if_pos ⟨rfl, h5⟩, if_pos h5]
            · rw [if_neg (by omega), if_neg (by omega), if_neg (by omega), if_neg (by omega), if_neg h5]
  · simp [hc]
theorem MRing.lay {M : Mm} {b kd ed pl st : Nat} {R : Rg} (h : MRing M b 0 R) (h4 : R 0 1 < 4) : MRing (layM M b (R 0 1) (nI kd) (nI ed) (nI pl) (nI st)) b 0 (addR R kd ed pl st) := by
  obtain ⟨b1, b2, b3, b4, b5, b6, b7⟩ := h
  have r : ∀ j, j ≠ 126 → (j < 127 + 4 * R 0 1 ∨ 127 + 4 * R 0 1 + 3 < j) → layM M b (R 0 1) (nI kd) (nI ed) (nI pl) (nI st) b j = M b j := fun j h1 h2 => by
    unfold layM
    rw [if_pos rfl, if_neg h1, if_neg (by omega), if_neg (by omega), if_neg (by omega), if_neg (by omega)]
  refine ⟨?_, fun l hl => ⟨?_, ?_⟩, fun l p hl hp => ?_, ?_, fun j w hj hw => ?_, ?_, ?_⟩
  · rw [r _ (by omega) (by omega), addR_o _ _ _ _ _ (by omega) (by omega)]; exact b1
  · rw [r _ (by omega) (by omega), addR_o _ _ _ _ _ (by omega) (by omega)]; exact (b2 l hl).1
  · rw [r _ (by omega) (by omega), addR_o _ _ _ _ _ (by omega) (by omega)]; exact (b2 l hl).2
  · rw [r _ (by omega) (by omega), addR_o _ _ _ _ _ (b := 0) (j := 0) (by omega) (by omega), addR_o _ _ _ _ _ (b := 10 + l) (j := p) (by omega) (by omega)]; exact b3 l p hl hp
  · rw [addR_01]
    unfold layM
    rw [if_pos rfl, if_pos (by omega)]
  · rw [addR_01] at hj
    by_cases hm : j = R 0 1
    · subst hm
      rw [addR_m _ _ _ _ _ (by omega)]
      unfold layM
      rw [if_pos rfl, if_neg (by omega)]
      rcases (show w = 0 ∨ w = 1 ∨ w = 2 ∨ w = 3 by omega) with rfl | rfl | rfl | rfl
      · rw [if_pos (by omega), if_pos (by omega)]
      · rw [if_neg (by omega), if_pos (by omega), if_neg (by omega), if_pos (by omega)]
      · rw [if_neg (by omega), if_neg (by omega), if_pos (by omega), if_neg (by omega), if_neg (by omega), if_pos (by omega)]
      · rw [if_neg (by omega), if_neg (by omega), if_neg (by omega), if_pos (by omega), if_neg (by omega), if_neg (by omega), if_neg (by omega)]
    · rw [r _ (by omega) (by omega), addR_o _ _ _ _ _ (by omega) (by omega)]; exact b5 j w (by omega) hw
  · rw [r _ (by omega) (by omega), addR_o _ _ _ _ _ (by omega) (by omega)]; exact b6
  · rw [r _ (by omega) (by omega), addR_o _ _ _ _ _ (by omega) (by omega)]; exact b7
theorem ROk.add {k kd ed pl st : Nat} {R : Rg} (h : ROk k R) (h4 : R 0 1 < 4) (h1 : kd ≤ 4) (h2 : ed ≤ 5) (h3 : pl < R 0 0) (h5 : st ≤ 9) : ROk k (addR R kd ed pl st) := by
  obtain ⟨d1, d2, d3, d4, d5, d6, d7⟩ := h
  have e : ∀ b j, b < 3 → ¬ (b = 0 ∧ j = 1) → addR R kd ed pl st b j = R b j := fun b j hb hj => addR_o _ _ _ _ _ hj (by omega)
  unfold ROk
  rw [e 0 0 (by omega) (by omega), e 0 2 (by omega) (by omega), e 0 3 (by omega) (by omega), addR_01]
  refine ⟨d1, by omega, d3, d4, fun l hl => ?_, fun j hj => ?_, ?_⟩
  · rw [e 1 l (by omega) (by omega), e 2 l (by omega) (by omega)]; exact d5 l hl
  · by_cases hm : j = R 0 1
    · subst hm
      rw [addR_m _ _ _ _ _ (by omega), addR_m _ _ _ _ _ (by omega), addR_m _ _ _ _ _ (by omega), addR_m _ _ _ _ _ (by omega)]
      exact ⟨h1, h2, h3, h5⟩
    · rw [addR_o _ _ _ _ _ (by omega) (by omega), addR_o _ _ _ _ _ (by omega) (by omega), addR_o _ _ _ _ _ (by omega) (by omega), addR_o _ _ _ _ _ (by omega) (by omega)]
      exact d6 j (by omega)
  · rw [tot_cong (R' := R) (fun l p _ _ => addR_o _ _ _ _ _ (by omega) (by omega))]; exact d7
section STV
variable {x y k : Nat} {M : Mm} {N : Ml}
theorem s_moon (hy : y = x + 234) (q0 q1 q2 q3 : Int32) (hI : IInv x y k M N) : ∃ (v : Int32) (M1 M2 : Mm), f_X11_moon x q0 q1 q2 q3 M = some (v, M1) ∧ f_X12_moon y q0 q1 q2 q3 M1 = some (v, M2) ∧ IInv x y (k + 5) M2 N := by
  obtain ⟨R, tu, c1, m1, s⟩ := hI.ring
  have ec : M (x + 7 + 1) 9 = nI (R 0 0) := c1.1
  have em : M (y + 1) 0 = nI (R 0 0) := m1.1
  have ec1 : M (x + 7 + 1) 10 = nI (R 0 1) := c1.2.1
  have em1 : M (y + 1) 126 = nI (R 0 1) := m1.2.2.2.1
  have hP := s.1.2
  have h4 := s.2.1
  unfold f_X11_moon f_X12_moon f_X11_moon_J37 f_X12_moon_J45
  rw [within_ok, Option.bind_some, ite_b01]
  by_cases c : (0 : Int32) ≤ q0 ∧ q0 ≤ 4
  · rw [if_pos c, within_ok, Option.bind_some, ite_b01]
    by_cases d : (0 : Int32) ≤ q1 ∧ q1 ≤ 5
    · rw [if_pos d, isPlace_ok, Option.bind_some, ite_b01, ec]
      by_cases f : (0 : Int32) ≤ q2 ∧ q2 ≤ nI (R 0 0) - 1
      · rw [if_pos f, within_ok, Option.bind_some, ite_b01]
        by_cases g : (0 : Int32) ≤ q3 ∧ q3 ≤ 9
        · rw [if_pos g, ec1, nlit 4, iflt (by omega) (by omega)]
          obtain ⟨kd, hkd, rfl⟩ := in_nat (b := 4) (by omega) c
          obtain ⟨ed, hed, rfl⟩ := in_nat (b := 5) (by omega) d
          obtain ⟨pl, hpl, rfl⟩ := (cplace_ok q2 _ hP _ rfl).mp f
          obtain ⟨st, hst, rfl⟩ := in_nat (b := 9) (by omega) g
          by_cases hm : R 0 1 < 4
          · obtain ⟨M1, e1, a1, a2, a3⟩ := addMoon_ok (kd := kd) (ed := ed) (pl := pl) (st := st) c1 hm
            rw [if_pos hm, e1, bd2_some]
            have k1 : ∀ q, (q < x + 8 ∨ x + 17 ≤ q) → M1 q = M q := fun q hq => a2 q (by omega) (by omega)
            have k2 : ∀ (M : Mm) q, q ≠ y + 1 → layM M (y + 1) (R 0 1) (nI kd) (nI ed) (nI pl) (nI st) q = M q := fun M q h => by
              funext j
              unfold layM
              rw [if_neg h]
            have m1' : MRing M1 (y + 1) 0 R := by
              unfold MRing MLum at m1 ⊢
              rw [k1 _ (by omega)]
              exact m1
            refine ⟨_, _, layM M1 (y + 1) (R 0 1) (nI kd) (nI ed) (nI pl) (nI st), rfl, ?_, ?_⟩
            · have e2 : layM M1 (y + 1) (R 0 1) (nI kd) (nI ed) (nI pl) (nI st) (y + 1) 126 = nI (R 0 1 + 1) := by
                unfold layM
                rw [if_pos rfl, if_pos rfl]
              rw [show (0 : Int64) = (0 : Int32).toInt64 from rfl, show (4 : Int64) = (4 : Int32).toInt64 from rfl, in_ok, Option.bind_some, ite_b01, if_pos c, show (5 : Int64) = (5 : Int32).toInt64 from rfl, in_ok, Option.bind_some, ite_b01, if_pos d, misPlace_ok, Option.bind_some, ite_b01, k1 _ (by omega), em, if_pos f, show (9 : Int64) = (9 : Int32).toInt64 from rfl, in_ok, Option.bind_some, ite_b01, if_pos g, mmoons_ok, Option.bind_some, k1 _ (by omega), em1, ifeq (by omega) (by omega), if_neg (by omega), layMoon_ok _ _ _ _ ((congrFun (k1 _ (by omega)) 126).trans em1) hm (by omega) (by omega), Option.bind_some, mmoons_ok, Option.bind_some, e2, nI_pred]
            · refine hI.setRing hy (fun R2 u ps tu2 c2 m2 s2 => ?_) (fun q h1 h2 => by rw [k2 _ _ h2, k1 _ h1]) (fun j hj => ?_)
              · have eP : R2 0 1 = R 0 1 := (nI_eq (by have := s2.1.2.1; omega) (by omega)).mp (c2.2.1.symm.trans c1.2.1)
                have eP0 : R2 0 0 = R 0 0 := (nI_eq (by have := s2.1.1; omega) (by omega)).mp (c2.1.symm.trans c1.1)
                obtain ⟨M3, e3, b1, b2, b3⟩ := addMoon_ok (kd := kd) (ed := ed) (pl := pl) (st := st) c2 (by omega)
                rw [e1] at e3
                have eM : M1 = M3 := (Prod.mk.inj (Option.some.inj e3)).2
                rw [← eM] at b1
                refine ⟨addR R2 kd ed pl st, tu2, b1.mono (fun q h1 h2 => k2 _ _ (by omega)), ?_, addR_o _ _ _ _ _ (by omega) (by omega), by rw [addR_01]; omega, (s2.1.up (by omega)).add (by omega) hkd hed (by omega) hst⟩
                have m2' : MRing M1 (y + 1) 0 R2 := by
                  unfold MRing MLum at m2 ⊢
                  rw [k1 _ (by omega)]
                  exact m2
                rw [← eP]
                exact m2'.lay (by omega)
              · have h3 : ¬ j = 126 := by omega
                unfold layM
                rw [if_pos rfl, if_neg h3, if_neg (by omega), if_neg (by omega), if_neg (by omega), if_neg (by omega), k1 _ (by omega)]
          · rw [if_neg hm, rj2]
            refine ⟨_, _, _, rfl, ?_, hI.refused hy (w := 2) (by omega)⟩
            rw [show (0 : Int64) = (0 : Int32).toInt64 from rfl, show (4 : Int64) = (4 : Int32).toInt64 from rfl, in_ok, Option.bind_some, ite_b01, if_pos c, show (5 : Int64) = (5 : Int32).toInt64 from rfl, in_ok, Option.bind_some, ite_b01, if_pos d, misPlace_ok, Option.bind_some, ite_b01, up2_o _ _ _ (by omega), em, if_pos f, show (9 : Int64) = (9 : Int32).toInt64 from rfl, in_ok, Option.bind_some, ite_b01, if_pos g, mmoons_ok, Option.bind_some, up2_o _ _ _ (by omega), em1, ifeq (by omega) (by omega), if_pos (by omega), bj2]
            rfl
        · rw [if_neg g, rj]
          refine ⟨_, _, _, rfl, ?_, hI.refused hy (w := 0) (by omega)⟩
          rw [show (0 : Int64) = (0 : Int32).toInt64 from rfl, show (4 : Int64) = (4 : Int32).toInt64 from rfl, in_ok, Option.bind_some, ite_b01, if_pos c, show (5 : Int64) = (5 : Int32).toInt64 from rfl, in_ok, Option.bind_some, ite_b01, if_pos d, misPlace_ok, Option.bind_some, ite_b01, up2_o _ _ _ (by omega), em, if_pos f, show (9 : Int64) = (9 : Int32).toInt64 from rfl, in_ok, Option.bind_some, ite_b01, if_neg g, bj]
      · rw [if_neg f, rj]
        refine ⟨_, _, _, rfl, ?_, hI.refused hy (w := 0) (by omega)⟩
        rw [show (0 : Int64) = (0 : Int32).toInt64 from rfl, show (4 : Int64) = (4 : Int32).toInt64 from rfl, in_ok, Option.bind_some, ite_b01, if_pos c, show (5 : Int64) = (5 : Int32).toInt64 from rfl, in_ok, Option.bind_some, ite_b01, if_pos d, misPlace_ok, Option.bind_some, ite_b01, up2_o _ _ _ (by omega), em, if_neg f, bj]
    · rw [if_neg d, rj]
      refine ⟨_, _, _, rfl, ?_, hI.refused hy (w := 0) (by omega)⟩
      rw [show (0 : Int64) = (0 : Int32).toInt64 from rfl, show (4 : Int64) = (4 : Int32).toInt64 from rfl, in_ok, Option.bind_some, ite_b01, if_pos c, show (5 : Int64) = (5 : Int32).toInt64 from rfl, in_ok, Option.bind_some, ite_b01, if_neg d, bj]
  · rw [if_neg c, rj]
    refine ⟨_, _, _, rfl, ?_, hI.refused hy (w := 0) (by omega)⟩
    rw [show (0 : Int64) = (0 : Int32).toInt64 from rfl, show (4 : Int64) = (4 : Int32).toInt64 from rfl, in_ok, Option.bind_some, ite_b01, if_neg c, bj]
end STV
