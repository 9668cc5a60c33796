/-! the reference takes the ring into its hand -/
theorem tk31 {y : Nat} {R : Rg} (x1 : Int32) : ∀ (k m n : Nat) (M : Mm), m + k = R 0 1 → k < n → R 0 1 ≤ 4 → MRing M (y + 1) 0 R → ∃ M', f_X12_takeNow_L31 y n x1 (nI m) M = some (up2 (up2 M' y 9 (nI (R 0 2))) y 10 x1) ∧ (∀ j, m ≤ j → j < R 0 1 → M' (y + 7) j = nI (R 5 j)) ∧ (∀ j, j < m → M' (y + 7) j = M (y + 7) j) ∧ ∀ q, q ≠ y + 7 → M' q = M q := by
  intro k
  induction k with
  | zero =>
    intro m n M hm hn h4 hM
    obtain ⟨n, rfl⟩ : ∃ m, n = m + 1 := ⟨n - 1, by omega⟩
    refine ⟨M, ?_, fun j h1 h2 => by omega, fun _ _ => rfl, fun _ _ => rfl⟩
    have e : M (y + 1) 148 = nI (R 0 2) := by have := hM.2.2.2.2.2.1; rwa [Nat.zero_add] at this
    rw [f_X12_takeNow_L31, mmoons_ok, Option.bind_some, hM.nring.2.2.1, ifle (by omega) (by omega), if_pos (by omega), nlit 148, ck_nI (by omega) (by omega), bnd_e, bnd_e, cl_nI (by omega), e]
  | succ k ih =>
    intro m n M hm hn h4 hM
    obtain ⟨n, rfl⟩ : ∃ m, n = m + 1 := ⟨n - 1, by omega⟩
    have e5 : M (y + 1) (127 + 4 * m + 2) = nI (R 5 m) := by have := hM.2.2.2.2.1 m 2 (by omega) (by omega); rwa [Nat.zero_add] at this
    have hM' : MRing (up2 M (y + 7) m (nI (R 5 m))) (y + 1) 0 R := by
      unfold MRing MLum at hM ⊢
      rw [up2_o _ _ _ (by omega)]
      exact hM
    obtain ⟨M', e, a1, a2, a3⟩ := ih (m + 1) n _ (by omega) (by omega) h4 hM'
    refine ⟨M', ?_, fun j h1 h2 => ?_, fun j hj => ?_, fun q hq => by rw [a3 q hq, up2_o _ _ _ hq]⟩
    · rw [f_X12_takeNow_L31, mmoons_ok, Option.bind_some, hM.nring.2.2.1, ifle (by omega) (by omega), if_neg (by omega), nlit 2, of_ok _ _ _ _ (by omega) (by omega), Option.bind_some, ck_nI (by omega) (by omega), bnd_e, bnd_e, cl_nI (by omega), nI_1, e5]
      exact e
    · by_cases h : j = m
      · subst h
        rw [a2 j (by omega), up2_at, if_pos ⟨rfl, rfl⟩]
      · exact a1 j (by omega) h2
    · rw [a2 j (by omega), up2_at, if_neg (by omega)]
theorem tk2 {y : Nat} (x1 : Int32) : ∀ (k i n : Nat) (M : Mm), i + k = 120 → k < n → ∃ M', f_X12_takeNow_L2 y n x1 (nI i) M = f_X12_takeNow_L31 y 2000 x1 0 M' ∧ (∀ j, i ≤ j → j < 120 → M' (y + 5) j = M (y + 1) (6 + j)) ∧ (∀ j, j < i → M' (y + 5) j = M (y + 5) j) ∧ ∀ q, q ≠ y + 5 → M' q = M q := by
  intro k
  induction k with
  | zero =>
    intro i n M hm hn
    obtain ⟨n, rfl⟩ : ∃ m, n = m + 1 := ⟨n - 1, by omega⟩
    refine ⟨M, ?_, fun j h1 h2 => by omega, fun _ _ => rfl, fun _ _ => rfl⟩
    rw [f_X12_takeNow_L2, nlit 120, ifle (by omega) (by omega), if_pos (by omega)]
  | succ k ih =>
    intro i n M hm hn
    obtain ⟨n, rfl⟩ : ∃ m, n = m + 1 := ⟨n - 1, by omega⟩
    obtain ⟨M', e, a1, a2, a3⟩ := ih (i + 1) n (up2 M (y + 5) i (M (y + 1) (6 + i))) (by omega) (by omega)
    refine ⟨M', ?_, fun j h1 h2 => ?_, fun j hj => ?_, fun q hq => by rw [a3 q hq, up2_o _ _ _ hq]⟩
    · rw [f_X12_takeNow_L2, nlit 120, ifle (by omega) (by omega), if_neg (by omega), nlit 6, nI_add, ck_nI (by omega) (by omega), ck_nI (by omega) (by omega), bnd_e, bnd_e, cl_nI (by omega), cl_nI (by omega), nI_1]
      exact e
    · by_cases h : j = i
      · subst h
        rw [a2 j (by omega), up2_at, if_pos ⟨rfl, rfl⟩]
      · rw [a1 j (by omega) h2, up2_o _ _ _ (by omega)]
    · rw [a2 j (by omega), up2_at, if_neg (by omega)]
/-- the reference's working rows alone -/
def keepY (y : Nat) (M M' : Mm) : Prop := (∀ q, (q < y ∨ (y + 1 ≤ q ∧ q ≤ y + 4) ∨ q = y + 11) → M' q = M q) ∧ M' y 18 = M y 18
theorem keepY.trans {y : Nat} {M M' M'' : Mm} (h : keepY y M M') (h' : keepY y M' M'') : keepY y M M'' := ⟨fun q hq => (h'.1 q hq).trans (h.1 q hq), h'.2.trans h.2⟩
theorem keepH.y {y : Nat} {M M' : Mm} (h : keepH y M M') : keepY y M M' := ⟨fun q hq => h.1 q (by omega) (by omega) (by omega) (by omega), h.2 18 (by omega)⟩
theorem takeNow_ok {y : Nat} {R : Rg} {M : Mm} (set : Int32) (hM : MRing M (y + 1) 0 R) (h4 : R 0 1 ≤ 4) : ∃ M', f_X12_takeNow y set M = some M' ∧ HRing M' y R ∧ M' y 9 = nI (R 0 2) ∧ M' y 10 = set ∧ keepY y M M' := by
  obtain ⟨M1, e1, a1, -, a3⟩ := tk2 (y := y) set 120 0 2000 M (by omega) (by omega)
  have hM1 : MRing M1 (y + 1) 0 R := by
    unfold MRing MLum at hM ⊢
    rw [a3 _ (by omega)]
    exact hM
  obtain ⟨M2, e2, b1, -, b3⟩ := tk31 (y := y) set (R 0 1) 0 2000 M1 (by omega) (by omega) h4 hM1
  refine ⟨up2 (up2 M2 y 9 (nI (R 0 2))) y 10 set, ?_, ⟨fun l p hl hp => ?_, fun j hj => ?_⟩, ?_, ?_, fun q hq => ?_, ?_⟩
  · unfold f_X12_takeNow
    rw [n0]
    exact e1.trans e2
  · rw [up2_o _ _ _ (by omega), up2_o _ _ _ (by omega), b3 _ (by omega), Nat.zero_add, a1 _ (by omega) (by omega)]
    have := hM.2.2.1 l p hl hp
    rw [show 0 + 6 + 24 * l + p = 6 + (24 * l + p) by omega] at this
    exact this
  · rw [up2_o _ _ _ (by omega), up2_o _ _ _ (by omega)]
    exact b1 j (by omega) hj
  · rw [up2_at, if_neg (by omega), up2_at, if_pos ⟨rfl, rfl⟩]
  · rw [up2_at, if_pos ⟨rfl, rfl⟩]
  · rw [up2_o _ _ _ (by omega), up2_o _ _ _ (by omega), b3 _ (by omega), a3 _ (by omega)]
  · rw [up2_at, if_neg (by omega), up2_at, if_neg (by omega), b3 _ (by omega), a3 _ (by omega)]
theorem all_ok {y n : Nat} {M : Mm} (h : M (y + 1) 126 = nI n) (hn : n ≤ 4) : f_X12_all y M = some (nI (2 ^ n - 1)) := by
  unfold f_X12_all
  rw [mmoons_ok, Option.bind_some, h]
  rcases (show n = 0 ∨ n = 1 ∨ n = 2 ∨ n = 3 ∨ n = 4 by omega) with rfl | rfl | rfl | rfl | rfl <;> rfl
theorem sOk_all {n : Nat} (hn : n ≤ 4) : sOk (fun m => decide (m < n)) (nI (2 ^ n - 1)) := by
  intro m hm
  rcases (show n = 0 ∨ n = 1 ∨ n = 2 ∨ n = 3 ∨ n = 4 by omega) with rfl | rfl | rfl | rfl | rfl <;>
  rcases (show m = 0 ∨ m = 1 ∨ m = 2 ∨ m = 3 by omega) with rfl | rfl | rfl | rfl <;> decide
theorem pasF_cong {s s' : Nat → Bool} : ∀ (k m : Nat) (R : Rg), (∀ j, m ≤ j → j < m + k → s j = s' j) → pasF R s m k = pasF R s' m k := by
  intro k
  induction k with
  | zero => intro m R _; rfl
  | succ k ih =>
    intro m R h
    rw [pasF, pasF, h m (by omega) (by omega)]
    exact ih (m + 1) _ (fun j h1 h2 => h j (by omega) (by omega))
theorem rndR_cong {s s' : Nat → Bool} (R : Rg) (h : ∀ j, j < R 0 1 → s j = s' j) : rndR R s = rndR R s' := pasF_cong _ _ _ (fun j _ h2 => h j (by omega))
def tr1 : Nat → Bool := fun _ => true
def rnK (R : Rg) (s : Nat → Bool) : Nat → Rg
  | 0 => R
  | k + 1 => rnK (rndR R s) s k
theorem rnK_cong {s s' : Nat → Bool} : ∀ (k : Nat) (R : Rg), (∀ j, j < R 0 1 → s j = s' j) → rnK R s k = rnK R s' k := by
  intro k
  induction k with
  | zero => intro R _; rfl
  | succ k ih =>
    intro R h
    rw [rnK, rnK, rndR_cong R h]
    exact ih _ (fun j hj => h j (by rwa [rndR_sf R s' 0 1 (by omega) (by omega) (by omega)] at hj))
theorem rnK_succ (s : Nat → Bool) : ∀ (k : Nat) (R : Rg), rnK R s (k + 1) = rndR (rnK R s k) s := by
  intro k
  induction k with
  | zero => intro R; rfl
  | succ k ih => intro R; rw [rnK, ih]; rfl
theorem rnK_sf (s : Nat → Bool) : ∀ (k : Nat) (R : Rg), SF R (rnK R s k) := by
  intro k
  induction k with
  | zero => intro R; exact SF.rfl' R
  | succ k ih => intro R; exact (rndR_sf R s).trans (ih _)
theorem rnK_02 (s : Nat → Bool) : ∀ (k : Nat) (R : Rg), rnK R s k 0 2 = R 0 2 + k := by
  intro k
  induction k with
  | zero => intro R; rfl
  | succ k ih => intro R; rw [rnK, ih, rndR_02]; omega
theorem rnK_fok {R : Rg} (h : FOk R) (s : Nat → Bool) : ∀ k, R 0 2 + k < 100000 → FOk (rnK R s k) := by
  intro k
  induction k with
  | zero => intro _; exact h
  | succ k ih =>
    intro hk
    rw [rnK_succ]
    exact (ih (by omega)).rnd s (by rw [rnK_02]; omega)
theorem tot_cong {P : Nat} {R R' : Rg} (h : ∀ l p, l < 5 → p < P → R (10 + l) p = R' (10 + l) p) : tot P R = tot P R' := smF_cong (fun l hl => smF_cong (fun p hp => h l p hl hp))
theorem tot_rotO (R : Rg) (i : Nat) (hP : 0 < R 0 0) : tot (R 0 0) (rotO R i) = tot (R 0 0) R := by
  refine smF_cong (fun l hl => ?_)
  by_cases h : l = i
  · subst h
    exact (smF_rot (f := rotO R l (10 + l)) (g := R (10 + l)) (Nat.mod_lt (R 1 l) hP) (fun p hp => (if_pos rfl).symm)).symm
  · exact smF_cong (fun p hp => if_neg (by omega))
theorem tot_rotF (R : Rg) (i k : Nat) (hP : 0 < R 0 0) : tot (R 0 0) (rotF R i k) = tot (R 0 0) R := by
  induction k generalizing R i with
  | zero => rfl
  | succ k ih =>
    have e : rotO R i 0 0 = R 0 0 := rotO_lo R i 0 (by omega)
    have := ih (rotO R i) (i + 1) (by rw [e]; exact hP)
    rw [e] at this
    rw [rotF, this, tot_rotO R i hP]
theorem tot_pr (R : Rg) (hP : 0 < R 0 0) : tot (R 0 0) (prR R) = tot (R 0 0) R := by
  have e : updR R 0 2 (R 0 2 + 1) 0 0 = R 0 0 := by rw [updR_at, if_neg (by omega)]
  have h1 := tot_rotF (updR R 0 2 (R 0 2 + 1)) 0 5 (by rw [e]; exact hP)
  rw [e] at h1
  unfold prR
  rw [tot_cong (R' := rotF (updR R 0 2 (R 0 2 + 1)) 0 5) (fun l p _ _ => movF_no _ _ _ _ (by omega)), h1]
  exact tot_cong (fun l p _ _ => by rw [updR_at, if_neg (by omega)])
/-! strays are nobody's concern but the ring's own -/
theorem str_rotO (R : Rg) (v i : Nat) : rotO (updR R 0 3 v) i = updR (rotO R i) 0 3 v := by
  funext b j
  simp only [rotO, updR]
  by_cases h : b = 10 + i
  · simp [h]
  · simp [h]
theorem str_rotF (v : Nat) : ∀ (k i : Nat) (R : Rg), rotF (updR R 0 3 v) i k = updR (rotF R i k) 0 3 v := by
  intro k
  induction k with
  | zero => intro i R; rfl
  | succ k ih => intro i R; rw [rotF, str_rotO, ih, rotF]
theorem updR_comm (R : Rg) {a l b m : Nat} (v w : Nat) (h : ¬ (a = b ∧ l = m)) : updR (updR R a l v) b m w = updR (updR R b m w) a l v := by
  funext c j
  simp only [updR]
  by_cases h1 : c = b ∧ j = m
  · rw [if_pos h1, if_neg (by omega), if_pos h1]
  · rw [if_neg h1, if_neg h1]
theorem str_movF (v : Nat) : ∀ (k m : Nat) (R : Rg), movF (updR R 0 3 v) m k = updR (movF R m k) 0 3 v := by
  intro k
  induction k with
  | zero => intro m R; rfl
  | succ k ih =>
    intro m R
    rw [movF, movF, ← ih]
    unfold movO
    rw [updR_comm R v _ (by omega)]
    rfl
theorem str_pasR (R : Rg) (v m : Nat) : pasR (updR R 0 3 v) m = updR (pasR R m) 0 3 v := by
  have e : ∀ b j, ¬ (b = 0 ∧ j = 3) → updR R 0 3 v b j = R b j := fun b j h => by rw [updR_at, if_neg h]
  unfold pasR
  rw [e 3 m (by omega), e 0 2 (by omega), e 0 0 (by omega), e 5 m (by omega), e 4 m (by omega)]
  by_cases hs : R 3 m = 4 ∧ R 0 2 % 3 = 0
  · rw [if_pos hs, if_pos hs]
  · rw [if_neg hs, if_neg hs]
    funext b j
    have e2 : (fun l' => updR R 0 3 v (10 + l') j) = fun l' => R (10 + l') j := funext (fun l' => e _ _ (by omega))
    show (if (10 ≤ b ∧ b < 15) ∧ byR (R 0 0) (R 5 m) (R 3 m) j then ncK (R 3 m) (R 4 m) (fun l' => updR R 0 3 v (10 + l') j) (b - 10) 5 else updR R 0 3 v b j) = _
    rw [e2, updR_at (R := fun b j => if (10 ≤ b ∧ b < 15) ∧ byR (R 0 0) (R 5 m) (R 3 m) j then ncK (R 3 m) (R 4 m) (fun l' => R (10 + l') j) (b - 10) 5 else R b j)]
    by_cases hb : b = 0 ∧ j = 3
    · rw [if_pos hb, if_neg (by omega), updR_at, if_pos hb]
    · rw [if_neg hb, e _ _ hb]
theorem str_pasF (v : Nat) (s : Nat → Bool) : ∀ (k m : Nat) (R : Rg), pasF (updR R 0 3 v) s m k = updR (pasF R s m k) 0 3 v := by
  intro k
  induction k with
  | zero => intro m R; rfl
  | succ k ih =>
    intro m R
    rw [pasF, pasF]
    split
    · rw [str_pasR, ih]
    · rw [ih]
theorem str_rnd (R : Rg) (s : Nat → Bool) (v : Nat) : rndR (updR R 0 3 v) s = updR (rndR R s) 0 3 v := by
  unfold rndR prR
  rw [updR_at, updR_at, if_neg (by omega), if_neg (by omega), updR_comm R v _ (by omega), str_rotF, str_movF, str_pasF]
theorem updR_idem (R : Rg) (a l v w : Nat) : updR (updR R a l v) a l w = updR R a l w := by
  funext b j
  simp only [updR]
  split <;> rfl
/-- some rounds of a ring of the class -/
theorem cgoBy {a : Nat} : ∀ (k i K n v : Nat) (M : Mm) (tu : Nat → Nat) (R : Rg) (z : Nat), i + k = K → K < 2000 → k < n → CRing M a tu (updR R 0 3 z) → FOk R → R 0 2 + k < 100000 → ∃ w M' tu' z', f_X5_goOnBy_L4 a n (nI K) (nI v) (nI i) M = some (nI (v + w), M') ∧ CRing M' a tu' (updR (rnK R tr1 k) 0 3 z') ∧ w + tot (R 0 0) (rnK R tr1 k) = tot (R 0 0) R ∧ keepG a M M' := by
  intro k
  induction k with
  | zero =>
    intro i K n v M tu R z hi hK hn h hF hr
    obtain ⟨n, rfl⟩ : ∃ m, n = m + 1 := ⟨n - 1, by omega⟩
    refine ⟨0, M, tu, z, ?_, h, by rw [rnK]; omega, fun _ _ _ _ _ => rfl⟩
    rw [f_X5_goOnBy_L4, ifle (by omega) (by omega), if_pos (by omega)]
    rfl
  | succ k ih =>
    intro i K n v M tu R z hi hK hn h hF hr
    obtain ⟨n, rfl⟩ : ∃ m, n = m + 1 := ⟨n - 1, by omega⟩
    have hP := hF.1
    have e0 : ∀ b j, ¬ (b = 0 ∧ j = 3) → updR R 0 3 z b j = R b j := fun b j h => by rw [updR_at, if_neg h]
    have hF' : FOk (updR R 0 3 z) := by
      unfold FOk
      rw [e0 0 0 (by omega), e0 0 1 (by omega), e0 0 2 (by omega)]
      refine ⟨hF.1, hF.2.1, fun l hl => ?_, fun j hj => ?_, fun j hj => ?_, hF.2.2.2.2.2⟩
      · rw [e0 _ _ (by omega)]; exact hF.2.2.1 l hl
      · rw [e0 _ _ (by omega), e0 _ _ (by omega), e0 _ _ (by omega)]; exact hF.2.2.2.1 j hj
      · rw [e0 _ _ (by omega)]; exact hF.2.2.2.2.1 j hj
    obtain ⟨w1, M1, tu1, e1, c1, t1, q1⟩ := cgo_ok h hF' (by rw [e0 0 2 (by omega)]; omega)
    rw [show (fun _ => true) = tr1 from rfl, str_rnd, updR_idem] at c1
    rw [show (fun _ => true) = tr1 from rfl, str_rnd, tot_pr _ (by rw [e0 0 0 (by omega)]; omega), e0 0 0 (by omega)] at t1
    have t1a : tot (R 0 0) (updR (rndR R tr1) 0 3 z) = tot (R 0 0) (rndR R tr1) := tot_cong (fun l p _ _ => by rw [updR_at, if_neg (by omega)])
    have t1b : tot (R 0 0) (updR R 0 3 z) = tot (R 0 0) R := tot_cong (fun l p _ _ => by rw [updR_at, if_neg (by omega)])
    rw [t1a, t1b] at t1
    obtain ⟨w2, M2, tu2, z2, e2, c2, t2, q2⟩ := ih (i + 1) K n (v + w1) M1 tu1 (rndR R tr1) _ (by omega) hK (by omega) c1 (hF.rnd tr1 (by omega)) (by rw [rndR_02]; omega)
    rw [rndR_sf R tr1 0 0 (by omega) (by omega) (by omega)] at t2
    refine ⟨w1 + w2, M2, tu2, z2, ?_, c2, by rw [rnK]; omega, fun q k1 k2 k3 k4 => by rw [q2 q k1 k2 k3 k4, q1 q k1 k2 k3 k4]⟩
    rw [f_X5_goOnBy_L4, ifle (by omega) (by omega), if_neg (by omega), e1, bd2_some, bnd_e, bnd_e, nI_add, nI_1, e2, Nat.add_assoc]
theorem cgoBy_ok {M : Mm} {a K : Nat} {tu : Nat → Nat} {R : Rg} (h : CRing M a tu R) (hF : FOk R) (hK : K ≤ 60) (hr : R 0 2 + K < 100000) : ∃ w M' tu' z', f_X5_goOnBy a (nI K) M = some (nI w, M') ∧ CRing M' a tu' (updR (rnK R tr1 K) 0 3 z') ∧ w + tot (R 0 0) (rnK R tr1 K) = tot (R 0 0) R ∧ keepG a M M' := by
  have e : updR R 0 3 (R 0 3) = R := by
    funext b j
    rw [updR_at]
    split
    · rename_i h; rw [h.1, h.2]
    · rfl
  obtain ⟨w, M', tu', z', e1, c1, t1, q1⟩ := cgoBy (a := a) K 0 K 2000 0 M tu R (R 0 3) (by omega) (by omega) (by omega) (by rw [e]; exact h) hF hr
  refine ⟨w, M', tu', z', ?_, c1, t1, q1⟩
  unfold f_X5_goOnBy
  rw [Nat.zero_add] at e1
  exact e1
/-- some rounds of the reference -/
theorem mlo10 {y : Nat} {s : Nat → Bool} : ∀ (k i K n v : Nat) (M : Mm) (R : Rg), i + k = K → K < 2000 → k < n → NRing M y R → HRing M y R → FOk R → M y 9 = nI (R 0 2) → sOk s (M y 10) → R 0 2 + k < 100000 → ∃ w M', f_X12_lossOf_L10 y n (nI K) (nI v) (nI i) M = some (nI (v + w), M') ∧ HRing M' y (rnK R s k) ∧ M' y 9 = nI (R 0 2 + k) ∧ M' y 10 = M y 10 ∧ w + tot (R 0 0) (rnK R s k) = tot (R 0 0) R ∧ keepY y M M' := by
  intro k
  induction k with
  | zero =>
    intro i K n v M R hi hK hn hN hH hF h9 hs hr
    obtain ⟨n, rfl⟩ : ∃ m, n = m + 1 := ⟨n - 1, by omega⟩
    refine ⟨0, M, ?_, hH, h9, rfl, by rw [rnK]; omega, fun _ _ => rfl, rfl⟩
    rw [f_X12_lossOf_L10, ifle (by omega) (by omega), if_pos (by omega)]
    rfl
  | succ k ih =>
    intro i K n v M R hi hK hn hN hH hF h9 hs hr
    obtain ⟨n, rfl⟩ : ∃ m, n = m + 1 := ⟨n - 1, by omega⟩
    obtain ⟨w1, M1, e1, a1, a2, a3, a4⟩ := mgo_ok hN hH hF h9 hs (by omega)
    rw [tot_pr R (by have := hF.1; omega)] at a3
    have h10 : M1 y 10 = M y 10 := a4.2 10 (by omega)
    obtain ⟨w2, M2, e2, b1, b2, b5, b3, b4⟩ := ih (i + 1) K n (v + w1) M1 (rndR R s) (by omega) hK (by omega) (hN.sf (rndR_sf R s) (a4.y.1 _ (by omega))) a1 (hF.rnd s (by omega)) (by rw [rndR_02]; exact a2) (by rw [h10]; exact hs) (by rw [rndR_02]; omega)
    rw [rndR_sf R s 0 0 (by omega) (by omega) (by omega)] at b3
    rw [rndR_02] at b2
    refine ⟨w1 + w2, M2, ?_, b1, by rw [b2]; congr 1; omega, b5.trans h10, by rw [rnK]; omega, a4.y.trans b4⟩
    rw [f_X12_lossOf_L10, ifle (by omega) (by omega), if_neg (by omega), e1, bd2_some, bnd_e, bnd_e, nI_add, nI_1, e2, Nat.add_assoc]
theorem mlossOf_ok {y K : Nat} {s : Nat → Bool} {M : Mm} {R : Rg} {set : Int32} (hM : MRing M (y + 1) 0 R) (hF : FOk R) (hs : sOk s set) (hK : K ≤ 60) (hr : R 0 2 + K < 100000) : ∃ w M', f_X12_lossOf y (nI K) set M = some (nI w, M') ∧ HRing M' y (rnK R s K) ∧ w + tot (R 0 0) (rnK R s K) = tot (R 0 0) R ∧ keepY y M M' := by
  obtain ⟨M1, e1, a1, a2, a3, a4⟩ := takeNow_ok set hM hF.2.1
  obtain ⟨w, M2, e2, b1, -, -, b3, b4⟩ := mlo10 (y := y) (s := s) K 0 K 2000 0 M1 R (by omega) (by omega) (by omega) (hM.nring.sf (SF.rfl' R) (a4.1 _ (by omega))) a1 hF a2 (by rw [a3]; exact hs) hr
  refine ⟨w, M2, ?_, b1, b3, a4.trans b4⟩
  unfold f_X12_lossOf
  rw [e1, Option.bind_some]
  rw [Nat.zero_add] at e2
  exact e2
/-- working rows alone have changed -/
theorem IInv.scratch {x y k : Nat} {M M' : Mm} {N : Ml} (hI : IInv x y k M N) (hy : y = x + 234) (h : ∀ q, (q < x + 204 ∨ q = x + 221 ∨ q = x + 233 ∨ (y + 1 ≤ q ∧ q ≤ y + 4) ∨ q = y + 11) → M' q = M q) (ht : M' (x + 220) 1 = M (x + 220) 1) (hb : M' y 18 = M y 18) : IInv x y (k + 5) M' N := by
  subst hy
  obtain ⟨h1, h2, ⟨n, hn, t1, t2, t3⟩, h4, h5⟩ := hI.up (show k ≤ k + 5 by omega)
  refine ⟨h1.mono (fun q a b => h q (by omega)) (h _ (by omega)), h2.mono (fun q a b => h q (by omega)) (h _ (by omega)) (h _ (by omega)), ⟨n, hn, ht.trans t1, hb.trans t2, fun i hi => ?_⟩, fun j hj => ?_, h5⟩
  · rw [h (x + 221) (by omega), h (x + 234 + 11) (by omega)]; exact t3 i hi
  · rw [h (x + 233) (by omega), h (x + 234 + 4) (by omega)]; exact h4 j hj
theorem isRounds_ok (p : Int32) (M : Mm) : f_X11_isRounds p M = some (b01 ((0 : Int32) ≤ p ∧ p ≤ 60)) := by
  unfold f_X11_isRounds
  rw [within_ok, Option.bind_some, cb_b01]
theorem isLong_ok (p : Int32) (M : Mm) : f_X12_isLong p M = some (b01 ((0 : Int32) ≤ p ∧ p ≤ 60)) := by
  unfold f_X12_isLong
  rw [show (0 : Int64) = (0 : Int32).toInt64 from rfl, show (60 : Int64) = (60 : Int32).toInt64 from rfl, in_ok, Option.bind_some, cb_b01]
section STS
variable {x y k : Nat} {M : Mm} {N : Ml}
theorem s_loss (hy : y = x + 234) (hk : k < 320) (q0 : Int32) (hI : IInv x y k M N) : ∃ (v : Int32) (M1 M2 : Mm), f_X11_loss x q0 M = some (v, M1) ∧ f_X12_loss y q0 M1 = some (v, M2) ∧ IInv x y (k + 5) M2 N := by
  obtain ⟨R, tu, c1, m1, s⟩ := hI.ring
  have hF := s.fok (by omega)
  unfold f_X11_loss f_X12_loss
  rw [isRounds_ok, Option.bind_some, ite_b01]
  by_cases c : (0 : Int32) ≤ q0 ∧ q0 ≤ 60
  · obtain ⟨K, hK, rfl⟩ := in_nat (b := 60) (by omega) c
    rw [if_pos c]
    have hr := s.2.2.1
    obtain ⟨w, M1, tu1, z1, e1, a1, a2, a3⟩ := cgoBy_ok (a := x + 204 + 1) (K := K) (c1.copied (a := x + 204 + 1) s.1.2 s.2.1) hF hK (by omega)
    have h1 : ∀ q, (q < x + 204 ∨ x + 214 ≤ q) → M1 q = M q := fun q hq => by rw [a3 q (by omega) (by omega) (by omega) (by omega), cpM_o _ _ _ _ (by omega)]
    have m1' : MRing M1 (y + 1) 0 R := by
      unfold MRing MLum at m1 ⊢
      rw [h1 _ (by omega)]
      exact m1
    obtain ⟨w2, M2, e2, b1, b2, b3⟩ := mlossOf_ok (K := K) m1' hF (sOk_all s.2.1) hK (by omega)
    rw [rnK_cong (s' := tr1) K R (fun j hj => by simp [tr1, hj])] at b2
    have hw : w2 = w := by omega
    subst hw
    refine ⟨nI w2, M1, M2, ?_, ?_, ?_⟩
    · unfold f_X0_lossIn
      rw [copy_ok M (x + 204 + 1) (x + 7 + 1) (R 0 1) (by omega) s.2.1 c1.2.1, Option.bind_some, e1, bd2_some, bd2_some]
    · rw [isLong_ok, Option.bind_some, ite_b01, if_pos c, all_ok m1'.2.2.2.1 s.2.1, Option.bind_some, e2, bd2_some]
    · exact hI.scratch hy (fun q hq => by rw [b3.1 q (by omega), h1 q (by omega)]) (by rw [b3.1 _ (by omega), h1 _ (by omega)]) (by rw [b3.2, h1 _ (by omega)])
  · rw [if_neg c, rj]
    refine ⟨_, _, _, rfl, ?_, hI.refused hy (w := 0) (by omega)⟩
    rw [isLong_ok, Option.bind_some, ite_b01, if_neg c, bj]
end STS
