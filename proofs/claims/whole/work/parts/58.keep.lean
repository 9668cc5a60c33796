/-! some moons alone: a ring with just them, or with the others asleep -/
def mo (R : Rg) (m : Nat) : Nat × Nat × Nat × Nat := (R 3 m, R 4 m, R 5 m, R 6 m)
def moL (R : Rg) (s : Nat → Bool) (m : Nat) : Nat → List (Nat × Nat × Nat × Nat)
  | 0 => []
  | k + 1 => if s m then mo R m :: moL R s (m + 1) k else moL R s (m + 1) k
def pa1 (R : Rg) (a : Nat × Nat × Nat × Nat) : Rg := if a.1 = 4 ∧ R 0 2 % 3 = 0 then R else fun b j => if (10 ≤ b ∧ b < 15) ∧ byR (R 0 0) a.2.2.1 a.1 j then ncK a.1 a.2.1 (fun l' => R (10 + l') j) (b - 10) 5 else R b j
theorem pasR_pa (R : Rg) (m : Nat) : pasR R m = pa1 R (mo R m) := rfl
theorem moL_cong {R R' : Rg} {s : Nat → Bool} : ∀ (k m : Nat), (∀ j, m ≤ j → j < m + k → mo R' j = mo R j) → moL R' s m k = moL R s m k := by
  intro k
  induction k with
  | zero => intro m _; rfl
  | succ k ih =>
    intro m h
    rw [moL, moL, h m (by omega) (by omega), ih (m + 1) (fun j h1 h2 => h j (by omega) (by omega))]
theorem mo_lo {R R' : Rg} (h : ∀ b j, 3 ≤ b → b < 7 → R' b j = R b j) (m : Nat) : mo R' m = mo R m := by
  unfold mo
  rw [h 3 m (by omega) (by omega), h 4 m (by omega) (by omega), h 5 m (by omega) (by omega), h 6 m (by omega) (by omega)]
theorem pasF_fold (s : Nat → Bool) : ∀ (k m : Nat) (R : Rg), pasF R s m k = (moL R s m k).foldl pa1 R := by
  intro k
  induction k with
  | zero => intro m R; rfl
  | succ k ih =>
    intro m R
    rw [pasF, moL]
    by_cases h : s m = true
    · rw [if_pos h, if_pos h, ih, List.foldl_cons, ← pasR_pa]
      rw [moL_cong (R := R) (R' := pasR R m) k (m + 1) (fun j _ _ => mo_lo (fun b j h1 h2 => pasR_lo R m j (by omega)) j)]
    · rw [if_neg h, if_neg h, ih]
def Lq (R Q : Rg) : Prop := (∀ b j, 10 ≤ b → Q b j = R b j) ∧ Q 0 0 = R 0 0 ∧ Q 0 2 = R 0 2 ∧ ∀ l, Q 1 l = R 1 l
theorem pa1_lo (R : Rg) (a : Nat × Nat × Nat × Nat) {b : Nat} (j : Nat) (hb : b < 10) : pa1 R a b j = R b j := by
  unfold pa1
  split
  · rfl
  · exact if_neg (by omega)
theorem pa1_lq {R Q : Rg} (h : Lq R Q) (a : Nat × Nat × Nat × Nat) : Lq (pa1 R a) (pa1 Q a) := by
  obtain ⟨h1, h2, h3, h4⟩ := h
  refine ⟨fun b j hb => ?_, ?_, ?_, fun l => ?_⟩
  · have e : (fun l' => Q (10 + l') j) = fun l' => R (10 + l') j := funext (fun l' => h1 _ _ (by omega))
    unfold pa1
    rw [h3]
    by_cases hs : a.1 = 4 ∧ R 0 2 % 3 = 0
    · rw [if_pos hs, if_pos hs]
      exact h1 b j hb
    · rw [if_neg hs, if_neg hs]
      show (if (10 ≤ b ∧ b < 15) ∧ byR (Q 0 0) a.2.2.1 a.1 j then ncK a.1 a.2.1 (fun l' => Q (10 + l') j) (b - 10) 5 else Q b j) = if (10 ≤ b ∧ b < 15) ∧ byR (R 0 0) a.2.2.1 a.1 j then ncK a.1 a.2.1 (fun l' => R (10 + l') j) (b - 10) 5 else R b j
      rw [e, h2, h1 b j hb]
  · rw [pa1_lo _ _ _ (by omega), pa1_lo _ _ _ (by omega)]; exact h2
  · rw [pa1_lo _ _ _ (by omega), pa1_lo _ _ _ (by omega)]; exact h3
  · rw [pa1_lo _ _ _ (by omega), pa1_lo _ _ _ (by omega)]; exact h4 l
theorem fold_lq : ∀ (L : List (Nat × Nat × Nat × Nat)) (R Q : Rg), Lq R Q → Lq (L.foldl pa1 R) (L.foldl pa1 Q)
  | [], _, _, h => h
  | a :: L, R, Q, h => by
    rw [List.foldl_cons, List.foldl_cons]
    exact fold_lq L _ _ (pa1_lq h a)
theorem rotO_lq {R Q : Rg} (h : Lq R Q) (i : Nat) : Lq (rotO R i) (rotO Q i) := by
  obtain ⟨h1, h2, h3, h4⟩ := h
  refine ⟨fun b j hb => ?_, ?_, ?_, fun l => ?_⟩
  · show (if b = 10 + i then Q b (sea (Q 0 0) (Q 1 i % Q 0 0) j) else Q b j) = if b = 10 + i then R b (sea (R 0 0) (R 1 i % R 0 0) j) else R b j
    rw [h2, h4, h1 b _ hb, h1 b j hb]
  · rw [rotO_lo Q i 0 (by omega), rotO_lo R i 0 (by omega)]; exact h2
  · rw [rotO_lo Q i 2 (by omega), rotO_lo R i 2 (by omega)]; exact h3
  · rw [rotO_lo Q i l (by omega), rotO_lo R i l (by omega)]; exact h4 l
theorem rotF_lq : ∀ (k i : Nat) (R Q : Rg), Lq R Q → Lq (rotF R i k) (rotF Q i k) := by
  intro k
  induction k with
  | zero => intro i R Q h; exact h
  | succ k ih => intro i R Q h; exact ih _ _ _ (rotO_lq h i)
theorem prR_lq {R Q : Rg} (h : Lq R Q) : Lq (prR R) (prR Q) := by
  have h0 : Lq (updR R 0 2 (R 0 2 + 1)) (updR Q 0 2 (Q 0 2 + 1)) := by
    obtain ⟨h1, h2, h3, h4⟩ := h
    refine ⟨fun b j hb => ?_, ?_, ?_, fun l => ?_⟩
    · rw [updR_at, updR_at, if_neg (by omega), if_neg (by omega)]; exact h1 b j hb
    · rw [updR_at, updR_at, if_neg (by omega), if_neg (by omega)]; exact h2
    · rw [updR_at, updR_at, if_pos ⟨rfl, rfl⟩, if_pos ⟨rfl, rfl⟩, h3]
    · rw [updR_at, updR_at, if_neg (by omega), if_neg (by omega)]; exact h4 l
  obtain ⟨g1, g2, g3, g4⟩ := rotF_lq 5 0 _ _ h0
  unfold prR
  refine ⟨fun b j hb => ?_, ?_, ?_, fun l => ?_⟩
  · rw [movF_no _ _ _ _ (by omega), movF_no _ _ _ _ (by omega)]; exact g1 b j hb
  · rw [movF_no _ _ _ _ (by omega), movF_no _ _ _ _ (by omega)]; exact g2
  · rw [movF_no _ _ _ _ (by omega), movF_no _ _ _ _ (by omega)]; exact g3
  · rw [movF_no _ _ _ _ (by omega), movF_no _ _ _ _ (by omega)]; exact g4 l
def mv (P : Nat) (a : Nat × Nat × Nat × Nat) : Nat × Nat × Nat × Nat := (a.1, a.2.1, (a.2.2.1 + a.2.2.2) % P, a.2.2.2)
theorem moL_pr {R : Rg} {s : Nat → Bool} (hP : 0 < R 0 0) : ∀ (k m : Nat), m + k ≤ R 0 1 → moL (prR R) s m k = (moL R s m k).map (mv (R 0 0)) := by
  intro k
  induction k with
  | zero => intro m _; rfl
  | succ k ih =>
    intro m h
    have e : mo (prR R) m = mv (R 0 0) (mo R m) := by
      unfold mo mv
      rw [prR_sf R 3 m (by omega) (by omega) (by omega), prR_sf R 4 m (by omega) (by omega) (by omega), prR_sf R 6 m (by omega) (by omega) (by omega), prR_5 R m hP (by omega)]
    rw [moL, moL, e, ih (m + 1) (by omega)]
    split
    · rw [List.map_cons]
    · rfl
def Sim (R : Rg) (s : Nat → Bool) (Q : Rg) : Prop := Lq R Q ∧ moL R s 0 (R 0 1) = moL Q tr1 0 (Q 0 1)
theorem Sim.rnd {R Q : Rg} {s : Nat → Bool} (h : Sim R s Q) (hP : 0 < R 0 0) : Sim (rndR R s) s (rndR Q tr1) := by
  obtain ⟨h1, h2⟩ := h
  have hQ : 0 < Q 0 0 := by rw [h1.2.1]; exact hP
  have eR : moL (prR R) s 0 (R 0 1) = (moL R s 0 (R 0 1)).map (mv (R 0 0)) := moL_pr hP (R 0 1) 0 (by omega)
  have eQ : moL (prR Q) tr1 0 (Q 0 1) = (moL R s 0 (R 0 1)).map (mv (R 0 0)) := by rw [moL_pr hQ (Q 0 1) 0 (by omega), h1.2.1, h2]
  have fR : rndR R s = ((moL R s 0 (R 0 1)).map (mv (R 0 0))).foldl pa1 (prR R) := by
    unfold rndR
    rw [pasF_fold, eR]
  have fQ : rndR Q tr1 = ((moL R s 0 (R 0 1)).map (mv (R 0 0))).foldl pa1 (prR Q) := by
    unfold rndR
    rw [pasF_fold, eQ]
  refine ⟨by rw [fR, fQ]; exact fold_lq _ _ _ (prR_lq h1), ?_⟩
  have lo : ∀ (X : Rg) (s' : Nat → Bool) b j, b < 10 → rndR X s' b j = prR X b j := fun X s' b j hb => by rw [rndR, pasF_lo _ _ _ _ _ hb]
  rw [rndR_sf R s 0 1 (by omega) (by omega) (by omega), rndR_sf Q tr1 0 1 (by omega) (by omega) (by omega), moL_cong (R := prR R) (R' := rndR R s) (R 0 1) 0 (fun j _ _ => mo_lo (fun b j h1 h2 => lo R s b j (by omega)) j), moL_cong (R := prR Q) (R' := rndR Q tr1) (Q 0 1) 0 (fun j _ _ => mo_lo (fun b j h1 h2 => lo Q tr1 b j (by omega)) j), eR, eQ]
theorem Sim.rnK {R Q : Rg} {s : Nat → Bool} (h : Sim R s Q) (hP : 0 < R 0 0) : ∀ K, Sim (rnK R s K) s (rnK Q tr1 K)
  | 0 => h
  | K + 1 => by
    rw [rnK_succ, rnK_succ]
    refine (Sim.rnK h hP K).rnd ?_
    rw [rnK_sf s K R 0 0 (by omega) (by omega) (by omega)]
    exact hP
theorem Sim.tot {R Q : Rg} {s : Nat → Bool} (h : Sim R s Q) (P : Nat) : tot P Q = tot P R := tot_cong (fun l p _ _ => h.1.1 _ _ (by omega))
def kpF (R : Rg) (s : Nat → Bool) (m : Nat) (Q : Rg) : Nat → Rg
  | 0 => Q
  | k + 1 => kpF R s (m + 1) (if s m then addR Q (R 3 m) (R 4 m) (R 5 m) (R 6 m) else Q) k
theorem moL_snoc (X : Rg) : ∀ (k m : Nat), moL X tr1 m (k + 1) = moL X tr1 m k ++ [mo X (m + k)] := by
  intro k
  induction k with
  | zero => intro m; rfl
  | succ k ih =>
    intro m
    have ht : tr1 m = true := rfl
    rw [moL, ih (m + 1), moL, if_pos ht, if_pos ht, show m + 1 + k = m + (k + 1) by omega]
    rfl
theorem kp_moL (R : Rg) (s : Nat → Bool) : ∀ (k m : Nat) (Q : Rg), moL (kpF R s m Q k) tr1 0 (kpF R s m Q k 0 1) = moL Q tr1 0 (Q 0 1) ++ moL R s m k := by
  intro k
  induction k with
  | zero => intro m Q; rw [kpF, moL, List.append_nil]
  | succ k ih =>
    intro m Q
    rw [kpF, ih, moL]
    by_cases h : s m = true
    · rw [if_pos h, if_pos h, addR_01, moL_snoc, moL_cong (R := Q) (R' := addR Q (R 3 m) (R 4 m) (R 5 m) (R 6 m)) (Q 0 1) 0 (fun j _ hj => by
        unfold mo
        rw [addR_o _ _ _ _ _ (by omega) (by omega), addR_o _ _ _ _ _ (by omega) (by omega), addR_o _ _ _ _ _ (by omega) (by omega), addR_o _ _ _ _ _ (by omega) (by omega)]), Nat.zero_add]
      have e : mo (addR Q (R 3 m) (R 4 m) (R 5 m) (R 6 m)) (Q 0 1) = mo R m := by
        unfold mo
        rw [addR_m _ _ _ _ _ (by omega), addR_m _ _ _ _ _ (by omega), addR_m _ _ _ _ _ (by omega), addR_m _ _ _ _ _ (by omega)]
        rfl
      rw [e, List.append_assoc]
      rfl
    · rw [if_neg h, if_neg h]
theorem kp_lq (R : Rg) (s : Nat → Bool) {R0 : Rg} : ∀ (k m : Nat) (Q : Rg), Lq R0 Q → Lq R0 (kpF R s m Q k) := by
  intro k
  induction k with
  | zero => intro m Q h; exact h
  | succ k ih =>
    intro m Q h
    rw [kpF]
    refine ih _ _ ?_
    split
    · obtain ⟨h1, h2, h3, h4⟩ := h
      refine ⟨fun b j hb => ?_, ?_, ?_, fun l => ?_⟩
      · rw [addR_o _ _ _ _ _ (by omega) (by omega)]; exact h1 b j hb
      · rw [addR_o _ _ _ _ _ (by omega) (by omega)]; exact h2
      · rw [addR_o _ _ _ _ _ (by omega) (by omega)]; exact h3
      · rw [addR_o _ _ _ _ _ (by omega) (by omega)]; exact h4 l
    · exact h
def kpt (R : Rg) (s : Nat → Bool) : Rg := kpF R s 0 (updR R 0 1 0) (R 0 1)
theorem kpt_sim (R : Rg) (s : Nat → Bool) : Sim R s (kpt R s) := by
  have e : updR R 0 1 0 0 1 = 0 := by rw [updR_at, if_pos ⟨rfl, rfl⟩]
  refine ⟨kp_lq R s _ _ _ ⟨fun b j hb => ?_, ?_, ?_, fun l => ?_⟩, ?_⟩
  · rw [updR_at, if_neg (by omega)]
  · rw [updR_at, if_neg (by omega)]
  · rw [updR_at, if_neg (by omega)]
  · rw [updR_at, if_neg (by omega)]
  · unfold kpt
    rw [kp_moL, e]
    rfl
theorem FOk.add {R : Rg} {kd ed pl st : Nat} (h : FOk R) (h4 : R 0 1 < 4) (h1 : kd ≤ 4) (h2 : ed ≤ 5) (h3 : pl < R 0 0) (h5 : st ≤ 9) : FOk (addR R kd ed pl st) := by
  obtain ⟨d1, d2, d3, d4, d5, d6⟩ := h
  have e : ∀ b j, b < 3 → ¬ (b = 0 ∧ j = 1) → addR R kd ed pl st b j = R b j := fun b j hb hj => addR_o _ _ _ _ _ hj (by omega)
  unfold FOk
  rw [e 0 0 (by omega) (by omega), e 0 2 (by omega) (by omega), addR_01]
  refine ⟨d1, by omega, fun l hl => ?_, fun j hj => ?_, fun j hj => ?_, d6⟩
  · rw [e 1 l (by omega) (by omega)]; exact d3 l hl
  · by_cases hm : j = R 0 1
    · subst hm
      rw [addR_m _ _ _ _ _ (by omega), addR_m _ _ _ _ _ (by omega), addR_m _ _ _ _ _ (by omega)]
      exact ⟨h1, h2, h5⟩
    · rw [addR_o _ _ _ _ _ (by omega) (by omega), addR_o _ _ _ _ _ (by omega) (by omega), addR_o _ _ _ _ _ (by omega) (by omega)]
      exact d4 j (by omega)
  · by_cases hm : j = R 0 1
    · subst hm
      rw [addR_m _ _ _ _ _ (by omega)]
      exact h3
    · rw [addR_o _ _ _ _ _ (by omega) (by omega)]
      exact d5 j (by omega)
theorem addMoon_e {M : Mm} {a n : Nat} (kd ed pl st : Int32) (h : M a 10 = nI n) (h4 : n < 4) : f_X5_addMoon a kd ed pl st M = some (nI n, up2 (up2 (up2 (up2 (up2 M (a + 5) n kd) (a + 6) n ed) (a + 7) n pl) (a + 8) n st) a 10 (nI (n + 1))) := by
  unfold f_X5_addMoon
  rw [h, ck_nI h4 (by omega), bnd_e, cl_nI (by omega), up2_o _ _ _ (show a ≠ a + 5 by omega), h, ck_nI h4 (by omega), bnd_e, cl_nI (by omega), up2_o _ _ _ (show a ≠ a + 6 by omega), up2_o _ _ _ (show a ≠ a + 5 by omega), h, ck_nI h4 (by omega), bnd_e, cl_nI (by omega), up2_o _ _ _ (show a ≠ a + 7 by omega), up2_o _ _ _ (show a ≠ a + 6 by omega), up2_o _ _ _ (show a ≠ a + 5 by omega), h, ck_nI h4 (by omega), bnd_e, cl_nI (by omega), bnd_e, up2_o _ _ _ (show a ≠ a + 8 by omega), up2_o _ _ _ (show a ≠ a + 7 by omega), up2_o _ _ _ (show a ≠ a + 6 by omega), up2_o _ _ _ (show a ≠ a + 5 by omega), h, nI_1, up2_at, if_pos ⟨rfl, rfl⟩, nI_pred]
theorem kp12 {a set : Nat} {tu : Nat → Nat} {R : Rg} {s : Nat → Bool} (hF : FOk R) (hset : ∀ m, m < 4 → (((jsr (nI set) (nI m)) &&& (1 : Int32)) = (1 : Int32) ↔ s m = true)) : ∀ (k m n : Nat) (M : Mm) (Q : Rg), m + k = R 0 1 → k < n → CRing M a tu Q → FOk Q → Q 0 1 ≤ m → Q 0 0 = R 0 0 → (∀ j, m ≤ j → j < R 0 1 → M (a + 5) j = nI (R 3 j) ∧ M (a + 6) j = nI (R 4 j) ∧ M (a + 7) j = nI (R 5 j) ∧ M (a + 8) j = nI (R 6 j)) → ∃ M', f_X5_keepMoons_L12 a n (nI set) (nI (R 0 1)) (nI m) M = some M' ∧ CRing M' a tu (kpF R s m Q k) ∧ FOk (kpF R s m Q k) ∧ ∀ q, (q < a ∨ a + 9 ≤ q) → M' q = M q := by
  have h4 := hF.2.1
  intro k
  induction k with
  | zero =>
    intro m n M Q hm hn h hQ h1 h0 hv
    obtain ⟨n, rfl⟩ : ∃ m, n = m + 1 := ⟨n - 1, by omega⟩
    refine ⟨M, ?_, h, hQ, fun _ _ => rfl⟩
    rw [f_X5_keepMoons_L12, ifle (by omega) (by omega), if_pos (by omega)]
  | succ k ih =>
    intro m n M Q hm hn h hQ h1 h0 hv
    obtain ⟨n, rfl⟩ : ∃ m, n = m + 1 := ⟨n - 1, by omega⟩
    rw [f_X5_keepMoons_L12, ifle (by omega) (by omega), if_neg (by omega), kpF]
    unfold f_X5_keepMoons_J55
    by_cases hs : s m = true
    · obtain ⟨v5, v6, v7, v8⟩ := hv m (by omega) (by omega)
      obtain ⟨g3, g4, g6⟩ := hF.2.2.2.1 m (by omega)
      have g5 := hF.2.2.2.2.1 m (by omega)
      obtain ⟨M1, e1, c1, -, -⟩ := addMoon_ok (kd := R 3 m) (ed := R 4 m) (pl := R 5 m) (st := R 6 m) h (by omega)
      have e2 := addMoon_e (nI (R 3 m)) (nI (R 4 m)) (nI (R 5 m)) (nI (R 6 m)) h.2.1 (by omega)
      have eM : M1 = up2 (up2 (up2 (up2 (up2 M (a + 5) (Q 0 1) (nI (R 3 m))) (a + 6) (Q 0 1) (nI (R 4 m))) (a + 7) (Q 0 1) (nI (R 5 m))) (a + 8) (Q 0 1) (nI (R 6 m))) a 10 (nI (Q 0 1 + 1)) := (Prod.mk.inj (Option.some.inj (e1.symm.trans e2))).2
      have k1 : ∀ q, (q < a ∨ a + 9 ≤ q) → M1 q = M q := fun q hq => by rw [eM, up2_o _ _ _ (by omega), up2_o _ _ _ (by omega), up2_o _ _ _ (by omega), up2_o _ _ _ (by omega), up2_o _ _ _ (by omega)]
      have k2 : ∀ q j, q ≠ a → j ≠ Q 0 1 → M1 q j = M q j := fun q j hq hj => by rw [eM, up2_o _ _ _ hq, up2_at, if_neg (by omega), up2_at, if_neg (by omega), up2_at, if_neg (by omega), up2_at, if_neg (by omega)]
      obtain ⟨M2, e3, c2, f2, b2⟩ := ih (m + 1) n M1 (addR Q (R 3 m) (R 4 m) (R 5 m) (R 6 m)) (by omega) (by omega) c1 (hQ.add (by omega) g3 g4 (by omega) g6) (by rw [addR_01]; omega) (by rw [addR_o _ _ _ _ _ (by omega) (by omega)]; exact h0) (fun j j1 j2 => by
        rw [k2 _ _ (by omega) (by omega), k2 _ _ (by omega) (by omega), k2 _ _ (by omega) (by omega), k2 _ _ (by omega) (by omega)]
        exact hv j (by omega) j2)
      rw [if_pos ((hset m (by omega)).mpr hs), if_pos hs, ck_nI (by omega) (by omega), ck_nI (by omega) (by omega), ck_nI (by omega) (by omega), ck_nI (by omega) (by omega), cl_nI (by omega), v5, v6, v7, v8, e1, bd2_some, bnd_e, nI_1]
      exact ⟨M2, e3, c2, f2, fun q hq => by rw [b2 q hq, k1 q hq]⟩
    · rw [if_neg (fun q => hs ((hset m (by omega)).mp q)), if_neg hs, bnd_e, nI_1]
      exact ih (m + 1) n M Q (by omega) (by omega) h hQ (by omega) h0 (fun j j1 j2 => hv j (by omega) j2)
theorem keep_ok {M : Mm} {a set : Nat} {tu : Nat → Nat} {R : Rg} {s : Nat → Bool} (h : CRing M a tu R) (hF : FOk R) (hset : ∀ m, m < 4 → (((jsr (nI set) (nI m)) &&& (1 : Int32)) = (1 : Int32) ↔ s m = true)) : ∃ M', f_X5_keepMoons a (nI set) M = some M' ∧ CRing M' a tu (kpt R s) ∧ FOk (kpt R s) ∧ ∀ q, (q < a ∨ a + 9 ≤ q) → M' q = M q := by
  obtain ⟨a1, a2, a3, a4, a5, a6, a7⟩ := h
  have e0 : ∀ b j, ¬ (b = 0 ∧ j = 1) → updR R 0 1 0 b j = R b j := fun b j hb => by rw [updR_at, if_neg hb]
  have e01 : updR R 0 1 0 0 1 = 0 := by rw [updR_at, if_pos ⟨rfl, rfl⟩]
  have c1 : CRing (up2 M a 10 0) a tu (updR R 0 1 0) := by
    refine ⟨?_, ?_, ?_, ?_, fun l hl => ⟨?_, ?_⟩, ?_, fun j hj => by rw [e01] at hj; omega⟩
    · rw [up2_at, if_neg (by omega), e0 _ _ (by omega)]; exact a1
    · rw [up2_at, if_pos ⟨rfl, rfl⟩, e01]; rfl
    · rw [up2_at, if_neg (by omega), e0 _ _ (by omega)]; exact a3
    · rw [up2_at, if_neg (by omega), e0 _ _ (by omega)]; exact a4
    · rw [up2_o _ _ _ (by omega), e0 _ _ (by omega)]; exact (a5 l hl).1
    · rw [up2_o _ _ _ (by omega), e0 _ _ (by omega)]; exact (a5 l hl).2
    · rw [e0 0 0 (by omega)]
      refine CLum.mono (M := M) ⟨a6.1, fun l p hl hp => ?_⟩ (up2_o _ _ _ (by omega)) (up2_o _ _ _ (by omega))
      rw [e0 _ _ (by omega)]; exact a6.2 l p hl hp
  have f1 : FOk (updR R 0 1 0) := by
    unfold FOk
    rw [e0 0 0 (by omega), e01, e0 0 2 (by omega)]
    exact ⟨hF.1, by omega, fun l hl => by rw [e0 _ _ (by omega)]; exact hF.2.2.1 l hl, fun j hj => by omega, fun j hj => by omega, hF.2.2.2.2.2⟩
  obtain ⟨M', e, c2, f2, k2⟩ := kp12 (a := a) (s := s) hF hset (R 0 1) 0 2000 (up2 M a 10 0) (updR R 0 1 0) (by omega) (by have := hF.2.1; omega) c1 f1 (by rw [e01]; omega) (e0 0 0 (by omega)) (fun j _ hj => by
    rw [up2_o _ _ _ (by omega), up2_o _ _ _ (by omega), up2_o _ _ _ (by omega), up2_o _ _ _ (by omega)]
    exact a7 j hj)
  refine ⟨M', ?_, c2, f2, fun q hq => by rw [k2 q hq, up2_o _ _ _ (by omega)]⟩
  unfold f_X5_keepMoons
  rw [bnd_e, bnd_e, a2]
  exact e
