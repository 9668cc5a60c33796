def FOk (R : Rg) : Prop := (4 ≤ R 0 0 ∧ R 0 0 ≤ 24) ∧ R 0 1 ≤ 4 ∧ (∀ l, l < 5 → R 1 l ≤ 9) ∧ (∀ j, j < R 0 1 → R 3 j ≤ 4 ∧ R 4 j ≤ 5 ∧ R 6 j ≤ 9) ∧ (∀ j, j < R 0 1 → R 5 j < R 0 0) ∧ R 0 2 < 100000
def SF (R R' : Rg) : Prop := ∀ b j, b < 10 → b ≠ 5 → (b = 0 → j ≠ 2) → R' b j = R b j
theorem SF.rfl' (R : Rg) : SF R R := fun _ _ _ _ _ => rfl
theorem SF.trans {R R' R'' : Rg} (h : SF R R') (h' : SF R' R'') : SF R R'' := fun b j h1 h2 h3 => (h' b j h1 h2 h3).trans (h b j h1 h2 h3)
theorem FOk.sf {R R' : Rg} (h : FOk R) (s : SF R R') (h5 : ∀ j, j < R 0 1 → R' 5 j < R 0 0) (h2 : R' 0 2 < 100000) : FOk R' := by
  obtain ⟨a1, a2, a3, a4, a5, a6⟩ := h
  have e0 : R' 0 0 = R 0 0 := s 0 0 (by omega) (by omega) (by omega)
  have e1 : R' 0 1 = R 0 1 := s 0 1 (by omega) (by omega) (by omega)
  unfold FOk
  rw [e0, e1]
  refine ⟨a1, a2, fun l hl => ?_, fun j hj => ?_, h5, h2⟩
  · rw [s 1 l (by omega) (by omega) (by omega)]; exact a3 l hl
  · rw [s 3 j (by omega) (by omega) (by omega), s 4 j (by omega) (by omega) (by omega), s 6 j (by omega) (by omega) (by omega)]; exact a4 j hj
theorem ROk.fok {k : Nat} {R : Rg} (h : ROk k R) (hk : k < 1000) : FOk R := ⟨h.1, h.2.1, fun l hl => (h.2.2.2.2.1 l hl).1, fun j hj => ⟨(h.2.2.2.2.2.1 j hj).1, (h.2.2.2.2.2.1 j hj).2.1, (h.2.2.2.2.2.1 j hj).2.2.2⟩, fun j hj => (h.2.2.2.2.2.1 j hj).2.2.1, by have := h.2.2.1; omega⟩
def pasR (R : Rg) (m : Nat) : Rg := if R 3 m = 4 ∧ R 0 2 % 3 = 0 then R else fun b j => if (10 ≤ b ∧ b < 15) ∧ byR (R 0 0) (R 5 m) (R 3 m) j then ncK (R 3 m) (R 4 m) (fun l' => R (10 + l') j) (b - 10) 5 else R b j
def rotO (R : Rg) (i : Nat) : Rg := fun b j => if b = 10 + i then R b (sea (R 0 0) (R 1 i % R 0 0) j) else R b j
def movO (R : Rg) (m : Nat) : Rg := updR R 5 m ((R 5 m + R 6 m) % R 0 0)
def rotF (R : Rg) (i : Nat) : Nat → Rg
  | 0 => R
  | k + 1 => rotF (rotO R i) (i + 1) k
def movF (R : Rg) (m : Nat) : Nat → Rg
  | 0 => R
  | k + 1 => movF (movO R m) (m + 1) k
def pasF (R : Rg) (s : Nat → Bool) (m : Nat) : Nat → Rg
  | 0 => R
  | k + 1 => pasF (if s m then pasR R m else R) s (m + 1) k
def prR (R : Rg) : Rg := movF (rotF (updR R 0 2 (R 0 2 + 1)) 0 5) 0 (R 0 1)
def rndR (R : Rg) (s : Nat → Bool) : Rg := pasF (prR R) s 0 (R 0 1)
/-! what these leave -/
theorem rotO_lo (R : Rg) (i : Nat) {b : Nat} (j : Nat) (hb : b < 10) : rotO R i b j = R b j := if_neg (by omega)
theorem pasR_lo (R : Rg) (m : Nat) {b : Nat} (j : Nat) (hb : b < 10) : pasR R m b j = R b j := by
  unfold pasR
  split
  · rfl
  · exact if_neg (by omega)
theorem rotF_lo (R : Rg) (i k : Nat) {b : Nat} (j : Nat) (hb : b < 10) : rotF R i k b j = R b j := by
  induction k generalizing R i with
  | zero => rfl
  | succ k ih => rw [rotF, ih, rotO_lo R i j hb]
theorem pasF_lo (R : Rg) (s : Nat → Bool) (m k : Nat) {b : Nat} (j : Nat) (hb : b < 10) : pasF R s m k b j = R b j := by
  induction k generalizing R m with
  | zero => rfl
  | succ k ih =>
    rw [pasF, ih]
    split
    · exact pasR_lo R m j hb
    · rfl
theorem movF_no (R : Rg) (m k : Nat) {b : Nat} (j : Nat) (hb : b ≠ 5) : movF R m k b j = R b j := by
  induction k generalizing R m with
  | zero => rfl
  | succ k ih => rw [movF, ih, movO, updR_at, if_neg (by omega)]
theorem movF_5 (R : Rg) (m k : Nat) (j : Nat) (hP : 0 < R 0 0) : movF R m k 5 j = if m ≤ j ∧ j < m + k then (R 5 j + R 6 j) % R 0 0 else R 5 j := by
  induction k generalizing R m with
  | zero => rw [movF, if_neg (by omega)]
  | succ k ih =>
    have e : ∀ b j, b ≠ 5 → movO R m b j = R b j := fun b j hb => by rw [movO, updR_at, if_neg (by omega)]
    rw [movF, ih (movO R m) (m + 1) (by rw [e 0 0 (by omega)]; exact hP), e 6 j (by omega), e 0 0 (by omega)]
    by_cases h : j = m
    · subst h
      rw [if_neg (by omega), if_pos (by omega), movO, updR_at, if_pos ⟨rfl, rfl⟩]
    · have e5 : movO R m 5 j = R 5 j := by rw [movO, updR_at, if_neg (by omega)]
      rw [e5]
      by_cases h2 : m ≤ j ∧ j < m + (k + 1)
      · rw [if_pos (by omega), if_pos h2]
      · rw [if_neg (by omega), if_neg h2]
theorem prR_sf (R : Rg) : SF R (prR R) := fun b j h1 h2 h3 => by
  rw [prR, movF_no _ _ _ _ h2, rotF_lo _ _ _ _ h1, updR_at, if_neg (by omega)]
theorem prR_02 (R : Rg) : prR R 0 2 = R 0 2 + 1 := by rw [prR, movF_no _ _ _ _ (by omega), rotF_lo _ _ _ _ (by omega), updR_at, if_pos ⟨rfl, rfl⟩]
theorem prR_5 (R : Rg) (j : Nat) (hP : 0 < R 0 0) (hj : j < R 0 1) : prR R 5 j = (R 5 j + R 6 j) % R 0 0 := by
  have e : ∀ b j, b < 10 → ¬ (b = 0 ∧ j = 2) → rotF (updR R 0 2 (R 0 2 + 1)) 0 5 b j = R b j := fun b j hb h2 => by rw [rotF_lo _ _ _ _ hb, updR_at, if_neg h2]
  rw [prR, movF_5 _ _ _ _ (by rw [e 0 0 (by omega) (by omega)]; exact hP), if_pos (by omega), e 5 j (by omega) (by omega), e 6 j (by omega) (by omega), e 0 0 (by omega) (by omega)]
theorem rndR_sf (R : Rg) (s : Nat → Bool) : SF R (rndR R s) := fun b j h1 h2 h3 => by
  rw [rndR, pasF_lo _ _ _ _ _ h1]
  exact prR_sf R b j h1 h2 h3
theorem rndR_02 (R : Rg) (s : Nat → Bool) : rndR R s 0 2 = R 0 2 + 1 := by rw [rndR, pasF_lo _ _ _ _ _ (by omega), prR_02]
theorem rndR_5 (R : Rg) (s : Nat → Bool) (j : Nat) (hP : 0 < R 0 0) (hj : j < R 0 1) : rndR R s 5 j = (R 5 j + R 6 j) % R 0 0 := by rw [rndR, pasF_lo _ _ _ _ _ (by omega), prR_5 R j hP hj]
theorem FOk.rnd {R : Rg} (h : FOk R) (s : Nat → Bool) (hr : R 0 2 + 1 < 100000) : FOk (rndR R s) := h.sf (rndR_sf R s) (fun j hj => by rw [rndR_5 R s j (by have := h.1; omega) hj]; exact Nat.mod_lt _ (by have := h.1; omega)) (by rw [rndR_02]; exact hr)
theorem FOk.pr {R : Rg} (h : FOk R) (hr : R 0 2 + 1 < 100000) : FOk (prR R) := h.sf (prR_sf R) (fun j hj => by rw [prR_5 R j (by have := h.1; omega) hj]; exact Nat.mod_lt _ (by have := h.1; omega)) (by rw [prR_02]; exact hr)
theorem FOk.pas {R : Rg} (h : FOk R) (m : Nat) : FOk (pasR R m) := h.sf (fun b j h1 _ _ => pasR_lo R m j h1) (fun j hj => by rw [pasR_lo R m j (by omega)]; exact h.2.2.2.2.1 j hj) (by rw [pasR_lo R m 2 (by omega)]; exact h.2.2.2.2.2)
/-! the class's side of it -/
theorem around_ok {M : Mm} {a P n : Nat} (h9 : M a 9 = nI P) (h1 : 1 ≤ P) (h2 : P ≤ 24) (hn : n < 2 ^ 31) : f_X5_around a (nI n) M = some (nI (n % P)) := by
  unfold f_X5_around
  rw [h9, nlit 1, if_pos ((nI_leI (by omega) (by omega)).mpr h1), cz_nI (by omega) (by omega), jr_nI hn (by omega) (by omega)]
theorem pb_step {M : Mm} {a m p kd ed w : Nat} {tu : Nat → Nat} {R : Rg} (h : CRing M a tu R) (hF : FOk R) (hm : m < R 0 1) (hk : kd ≤ 4) (he : ed ≤ 5) {x5 x7 : Int32} (hx : ¬ x5 < x7) (hw : nI (R 5 m) + x7 + nI (R 0 0) = nI w) (hw2 : w < 2 ^ 31) (hp : w % R 0 0 = p) : ∃ M', CRing M' a tu (colR R p kd ed) ∧ (∀ q, q ≠ a + 3 → M' q = M q) ∧ ∀ n x6, f_X5_passBy_L52 a (n + 1) (nI m) (nI ed) (foI kd) x5 x6 x7 M = f_X5_passBy_L52 a n (nI m) (nI ed) (foI kd) x5 (x6 + nI (lcK kd ed (fun l' => R (10 + l') p) 5)) (x7 + 1) M' := by
  have hp' : p < R 0 0 := by rw [← hp]; exact Nat.mod_lt _ (by have := hF.1; omega)
  obtain ⟨r1, M1, r2, M2, r3, M3, r4, M4, t1, t2, t3, t4, t5, t6, t7⟩ := col_ok h hF.1.2 hp' hk he
  refine ⟨M4, t6, t7, fun n x6 => ?_⟩
  have h4 : m < 4 := by have := hF.2.1; omega
  rw [f_X5_passBy_L52, if_neg hx, ck_nI h4 (by omega), cl_nI (by omega), (h.2.2.2.2.2.2 m hm).2.2.1, h.1, hw, around_ok h.1 (by have := hF.1; omega) hF.1.2 hw2, hp, Option.bind_some, t1, bd2_some, t2, bd2_some, t3, bd2_some, t4, bd2_some, bnd_e, bnd_e, t5]
theorem mod3 {P pl : Nat} (h : pl < P) (h4 : 4 ≤ P) : (pl + P - 1) % P ≠ pl ∧ (pl + 1) % P ≠ pl ∧ (pl + 1) % P ≠ (pl + P - 1) % P ∧ (pl + P - 1) % P < P ∧ (pl + 1) % P < P := by
  have h1 : (pl + 1) % P = if pl + 1 < P then pl + 1 else 0 := by
    split
    · exact Nat.mod_eq_of_lt (by omega)
    · rw [show pl + 1 = P by omega, Nat.mod_self]
  have h2 : (pl + P - 1) % P = if pl = 0 then P - 1 else pl - 1 := by
    split
    · exact Nat.mod_eq_of_lt (by omega) |>.trans (by omega)
    · rw [show pl + P - 1 = (pl - 1) + P by omega, Nat.add_mod_right, Nat.mod_eq_of_lt (by omega)]
  rw [h1, h2]
  split <;> split <;> omega
theorem pas_ok {M : Mm} {a m : Nat} {tu : Nat → Nat} {R : Rg} (h : CRing M a tu R) (hF : FOk R) (hm : m < R 0 1) : ∃ n M', f_X5_passBy a (nI m) M = some (nI n, M') ∧ CRing M' a tu (pasR R m) ∧ n + tot (R 0 0) (pasR R m) = tot (R 0 0) R ∧ ∀ q, q ≠ a + 3 → M' q = M q := by
  have h4 : m < 4 := by have := hF.2.1; omega
  obtain ⟨k3, k4, k6⟩ := hF.2.2.2.1 m hm
  have k5 := hF.2.2.2.2.1 m hm
  obtain ⟨a5, a6, a7, a8⟩ := h.2.2.2.2.2.2 m hm
  have hP := hF.1
  unfold f_X5_passBy
  rw [ck_nI h4 (by omega), cl_nI (by omega), a5, a6, ck_nI (by omega) (by omega), bnd_e, cl_nI (by omega), h.2.2.1]
  have haw : v_isAwake (R 3 m) (nI (R 0 2)) = some (if R 3 m = 4 ∧ R 0 2 % 3 = 0 then 0 else 1) := by
    unfold v_isAwake
    rw [nlit 3, jr_nI (by have := hF.2.2.2.2.2; omega) (by omega) (by omega), n0]
    have h0 : (nI (R 0 2 % 3) = nI 0) = (R 0 2 % 3 = 0) := propext (nI_eq (by omega) (by omega))
    simp only [h0]
    rcases (show R 3 m = 0 ∨ R 3 m = 1 ∨ R 3 m = 2 ∨ R 3 m = 3 ∨ R 3 m = 4 by omega) with e | e | e | e | e <;> rw [e] <;> simp
    split <;> rfl
  rw [haw, Option.bind_some]
  unfold pasR
  by_cases hs : R 3 m = 4 ∧ R 0 2 % 3 = 0
  · rw [if_pos hs, if_pos rfl, if_pos hs]
    exact ⟨0, M, rfl, h, by omega, fun _ _ => rfl⟩
  · rw [if_neg hs, if_neg (by decide), if_neg hs]
    rw [ck_nI h4 (by omega), bnd_e]
    have hfo : v_force (R 3 m) = some (foI (R 3 m)) := by
      rcases (show R 3 m = 0 ∨ R 3 m = 1 ∨ R 3 m = 2 ∨ R 3 m = 3 ∨ R 3 m = 4 by omega) with e | e | e | e | e <;> rw [e] <;> rfl
    have hre : v_reach (R 3 m) = some (if R 3 m = 1 ∨ R 3 m = 3 then 1 else 0) := by
      rcases (show R 3 m = 0 ∨ R 3 m = 1 ∨ R 3 m = 2 ∨ R 3 m = 3 ∨ R 3 m = 4 by omega) with e | e | e | e | e <;> rw [e] <;> rfl
    rw [hfo, Option.bind_some, hre, Option.bind_some, bnd_e]
    obtain ⟨d1, d2, d3, d4, d5⟩ := mod3 k5 hP.1
    have c0 : ∀ (R : Rg) p kd ed b j, ¬ ((10 ≤ b ∧ b < 15) ∧ j = p) → colR R p kd ed b j = R b j := fun R p kd ed b j q => if_neg q
    have F' : ∀ p kd ed, FOk (colR R p kd ed) := fun p kd ed => hF.sf (fun b j h1 _ _ => c0 _ _ _ _ _ _ (by omega)) (fun j hj => by rw [c0 _ _ _ _ _ _ (by omega)]; exact hF.2.2.2.2.1 j hj) (by rw [c0 _ _ _ _ _ _ (by omega)]; exact hF.2.2.2.2.2)
    by_cases hw : R 3 m = 1 ∨ R 3 m = 3
    · rw [if_pos hw]
      generalize hkd : R 3 m = kd at *
      generalize hed : R 4 m = ed at *
      obtain ⟨M1, c1, q1, s1⟩ := pb_step (p := (R 5 m + R 0 0 - 1) % R 0 0) (kd := kd) (ed := ed) (w := R 5 m + R 0 0 - 1) h hF hm k3 k4 (x5 := 1) (x7 := -1) (by decide) (by
        rw [Int32.add_assoc, Int32.add_comm (-1), ← Int32.sub_eq_add_neg, nlit 1, pk_sub (by omega), nI_add]
        congr 1
        omega) (by omega) rfl
      have F1 := F' ((R 5 m + R 0 0 - 1) % R 0 0) kd ed
      have z1 : ∀ b j, b < 10 → colR R ((R 5 m + R 0 0 - 1) % R 0 0) kd ed b j = R b j := fun b j hb => c0 _ _ _ _ _ _ (by omega)
      obtain ⟨M2, c2, q2, s2⟩ := pb_step (p := R 5 m) (kd := kd) (ed := ed) (w := R 5 m + R 0 0) c1 F1 (by rw [z1 0 1 (by omega)]; exact hm) k3 k4 (x5 := 1) (x7 := 0) (by decide) (by
        rw [z1 5 m (by omega), z1 0 0 (by omega), n0, nI_add, nI_add]
        congr 1) (by omega) (by rw [z1 0 0 (by omega), Nat.add_mod_right, Nat.mod_eq_of_lt k5])
      generalize hR1 : colR R ((R 5 m + R 0 0 - 1) % R 0 0) kd ed = R1 at *
      have z2 : ∀ b j, b < 10 → colR R1 (R 5 m) kd ed b j = R b j := fun b j hb => (c0 _ _ _ _ _ _ (by omega)).trans (z1 b j hb)
      have F2 : FOk (colR R1 (R 5 m) kd ed) := F1.sf (fun b j h1 _ _ => c0 _ _ _ _ _ _ (by omega)) (fun j hj => by rw [c0 _ _ _ _ _ _ (by omega)]; exact F1.2.2.2.2.1 j hj) (by rw [c0 _ _ _ _ _ _ (by omega)]; exact F1.2.2.2.2.2)
      obtain ⟨M3, c3, q3, s3⟩ := pb_step (p := (R 5 m + 1) % R 0 0) (kd := kd) (ed := ed) (w := R 5 m + 1 + R 0 0) c2 F2 (by rw [z2 0 1 (by omega)]; exact hm) k3 k4 (x5 := 1) (x7 := 1) (by decide) (by
        rw [z2 5 m (by omega), z2 0 0 (by omega), nlit 1, nI_add, nI_add]) (by omega) (by rw [z2 0 0 (by omega), Nat.add_mod_right])
      have t1 := colR_tot R (P := R 0 0) (kd := kd) (ed := ed) d4 k3 k4
      rw [hR1] at t1
      have t2 := colR_tot R1 (P := R 0 0) (kd := kd) (ed := ed) k5 k3 k4
      have t3 := colR_tot (colR R1 (R 5 m) kd ed) (P := R 0 0) (kd := kd) (ed := ed) d5 k3 k4
      have heq : colR (colR R1 (R 5 m) kd ed) ((R 5 m + 1) % R 0 0) kd ed = fun b j => if (10 ≤ b ∧ b < 15) ∧ byR (R 0 0) (R 5 m) kd j then ncK kd ed (fun l' => R (10 + l') j) (b - 10) 5 else R b j := by
        funext b j
        by_cases hb : 10 ≤ b ∧ b < 15
        · have y1 : ∀ l' q, q ≠ (R 5 m + R 0 0 - 1) % R 0 0 → R1 (10 + l') q = R (10 + l') q := fun l' q hq => by rw [← hR1]; exact c0 _ _ _ _ _ _ (by omega)
          have y2 : ∀ l' q, q ≠ R 5 m → colR R1 (R 5 m) kd ed (10 + l') q = R1 (10 + l') q := fun l' q hq => c0 _ _ _ _ _ _ (by omega)
          by_cases e3 : j = (R 5 m + 1) % R 0 0
          · rw [if_pos ⟨hb, Or.inr ⟨hw, Or.inl e3⟩⟩, show colR (colR R1 (R 5 m) kd ed) ((R 5 m + 1) % R 0 0) kd ed b j = ncK kd ed (fun l' => colR R1 (R 5 m) kd ed (10 + l') ((R 5 m + 1) % R 0 0)) (b - 10) 5 from if_pos ⟨hb, e3⟩]
            congr 1
            funext l'
            rw [y2 l' _ d2, y1 l' _ d3, e3]
          · rw [c0 _ _ _ _ _ _ (by omega)]
            by_cases e2 : j = R 5 m
            · rw [if_pos ⟨hb, Or.inl e2⟩, show colR R1 (R 5 m) kd ed b j = ncK kd ed (fun l' => R1 (10 + l') (R 5 m)) (b - 10) 5 from if_pos ⟨hb, e2⟩]
              congr 1
              funext l'
              rw [y1 l' _ (Ne.symm d1), e2]
            · rw [c0 _ _ _ _ _ _ (by omega), ← hR1]
              by_cases e1 : j = (R 5 m + R 0 0 - 1) % R 0 0
              · rw [if_pos ⟨hb, Or.inr ⟨hw, Or.inr e1⟩⟩, show colR R ((R 5 m + R 0 0 - 1) % R 0 0) kd ed b j = ncK kd ed (fun l' => R (10 + l') ((R 5 m + R 0 0 - 1) % R 0 0)) (b - 10) 5 from if_pos ⟨hb, e1⟩, e1]
              · rw [c0 _ _ _ _ _ _ (by omega), if_neg]
                rintro ⟨-, h | ⟨-, h | h⟩⟩ <;> contradiction
        · rw [c0 _ _ _ _ _ _ (by omega), c0 _ _ _ _ _ _ (by omega), ← hR1, c0 _ _ _ _ _ _ (by omega), if_neg (by omega)]
      rw [← heq]
      refine ⟨0 + lcK kd ed (fun l' => R (10 + l') ((R 5 m + R 0 0 - 1) % R 0 0)) 5 + lcK kd ed (fun l' => R1 (10 + l') (R 5 m)) 5 + lcK kd ed (fun l' => colR R1 (R 5 m) kd ed (10 + l') ((R 5 m + 1) % R 0 0)) 5, M3, ?_, c3, ?_, fun q hq => by rw [q3 q hq, q2 q hq, q1 q hq]⟩
      · have ee : ∀ n x6 M, f_X5_passBy_L52 a (n + 1) (nI m) (nI ed) (foI kd) 1 x6 2 M = some (x6, M) := fun n x6 M => by rw [f_X5_passBy_L52, if_pos (by decide)]
        have g := s1 1999 0
        rw [show (1999 : Nat) + 1 = 2000 from rfl, show (1999 : Nat) = 1998 + 1 from rfl, show (-1 : Int32) + 1 = 0 from by decide, s2 1998, show (1998 : Nat) = 1997 + 1 from rfl, show (0 : Int32) + 1 = 1 from by decide, s3 1997, show (1997 : Nat) = 1996 + 1 from rfl, show (1 : Int32) + 1 = 2 from by decide, ee, n0, nI_add, nI_add, nI_add] at g
        exact g
      · omega
    · rw [if_neg hw]
      generalize hkd : R 3 m = kd at *
      generalize hed : R 4 m = ed at *
      obtain ⟨M2, c2, q2, s2⟩ := pb_step (p := R 5 m) (kd := kd) (ed := ed) (w := R 5 m + R 0 0) h hF hm k3 k4 (x5 := 0) (x7 := 0) (by decide) (by
        rw [n0, nI_add, nI_add]
        congr 1) (by omega) (by rw [Nat.add_mod_right, Nat.mod_eq_of_lt k5])
      have t2 := colR_tot R (P := R 0 0) (kd := kd) (ed := ed) k5 k3 k4
      have heq : colR R (R 5 m) kd ed = fun b j => if (10 ≤ b ∧ b < 15) ∧ byR (R 0 0) (R 5 m) kd j then ncK kd ed (fun l' => R (10 + l') j) (b - 10) 5 else R b j := by
        funext b j
        by_cases hb : (10 ≤ b ∧ b < 15) ∧ j = R 5 m
        · rw [if_pos ⟨hb.1, Or.inl hb.2⟩, show colR R (R 5 m) kd ed b j = ncK kd ed (fun l' => R (10 + l') (R 5 m)) (b - 10) 5 from if_pos hb, hb.2]
        · rw [c0 _ _ _ _ _ _ hb, if_neg]
          rintro ⟨h1, h | ⟨h, -⟩⟩
          · exact hb ⟨h1, h⟩
          · exact hw h
      rw [← heq]
      rw [show (-0 : Int32) = 0 from by decide]
      refine ⟨0 + lcK kd ed (fun l' => R (10 + l') (R 5 m)) 5, M2, ?_, c2, ?_, fun q hq => by rw [q2 q hq]⟩
      · have ee : ∀ n x6 M, f_X5_passBy_L52 a (n + 1) (nI m) (nI ed) (foI kd) 0 x6 1 M = some (x6, M) := fun n x6 M => by rw [f_X5_passBy_L52, if_pos (by decide)]
        have g := s2 1999 0
        rw [show (1999 : Nat) + 1 = 2000 from rfl, show (1999 : Nat) = 1998 + 1 from rfl, show (0 : Int32) + 1 = 1 from by decide, ee, n0, nI_add] at g
        exact g
      · omega
