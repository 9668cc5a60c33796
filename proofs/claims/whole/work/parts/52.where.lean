/-! one lump followed -/
def mp (R : Rg) (m r : Nat) : Nat := (R 5 m + r * R 6 m) % R 0 0
def atR (R : Rg) (r : Nat) : Rg := fun b j => if b = 5 then mp R j r else if b = 0 ∧ j = 2 then R 0 2 + r else R b j
theorem atR_5 (R : Rg) (r j : Nat) : atR R r 5 j = mp R j r := if_pos rfl
theorem atR_02 (R : Rg) (r : Nat) : atR R r 0 2 = R 0 2 + r := by
  unfold atR
  rw [if_neg (by omega), if_pos ⟨rfl, rfl⟩]
theorem atR_o (R : Rg) (r : Nat) {b j : Nat} (h5 : b ≠ 5) (h2 : ¬ (b = 0 ∧ j = 2)) : atR R r b j = R b j := by
  unfold atR
  rw [if_neg h5, if_neg h2]
theorem atR_sf (R : Rg) (r : Nat) : SF R (atR R r) := fun b j _ h2 h3 => atR_o R r h2 (fun h => h3 h.1 h.2)
theorem FOk.at {R : Rg} (h : FOk R) (r : Nat) (hr : R 0 2 + r < 100000) : FOk (atR R r) := h.sf (atR_sf R r) (fun j _ => by rw [atR_5]; exact Nat.mod_lt _ (by have := h.1; omega)) (by rw [atR_02]; exact hr)
abbrev hitR (R : Rg) (m p l : Nat) : Prop := ¬ (R 3 m = 4 ∧ R 0 2 % 3 = 0) ∧ byR (R 0 0) (R 5 m) (R 3 m) p ∧ (l = R 4 m ∨ l + 1 = R 4 m)
def onF (R : Rg) (p m z t : Nat) : Nat → Nat × Nat
  | 0 => (z, t)
  | k + 1 => if 3 ≤ z ∧ z < 8 then (if hitR R m p (z - 3) then onF R p (m + 1) (toL (R 3 m) (R 4 m) (z - 3)) (t + 1) k else onF R p (m + 1) z t k) else (z, t)
theorem onF_le (R : Rg) (p : Nat) : ∀ (k m z t : Nat), z ≤ 10 → (onF R p m z t k).1 ≤ 10 := by
  intro k
  induction k with
  | zero => intro m z t h; exact h
  | succ k ih =>
    intro m z t h
    rw [onF]
    split
    · split
      · exact ih _ _ _ (by have := toL_le (R 3 m) (R 4 m) (z - 3); omega)
      · exact ih _ _ _ h
    · exact h
def gnF (R : Rg) (r z p t : Nat) : Nat × Nat × Nat := if 3 ≤ z ∧ z < 8 then ((onF (atR R r) ((p + R 1 (z - 3)) % R 0 0) 0 z t (R 0 1)).1, (p + R 1 (z - 3)) % R 0 0, (onF (atR R r) ((p + R 1 (z - 3)) % R 0 0) 0 z t (R 0 1)).2) else (z, p, t)
theorem gnF_ok (R : Rg) (r : Nat) {z p : Nat} (t : Nat) (hz : z ≤ 10) (hp : p < R 0 0) : (gnF R r z p t).1 ≤ 10 ∧ (gnF R r z p t).2.1 < R 0 0 := by
  unfold gnF
  split
  · exact ⟨onF_le _ _ _ _ _ _ hz, Nat.mod_lt _ (by omega)⟩
  · exact ⟨hz, hp⟩
def foF (R : Rg) (r z p t : Nat) : Nat → Nat × Nat × Nat
  | 0 => (z, p, t)
  | k + 1 => if 3 ≤ z ∧ z < 8 then foF R (r + 1) (gnF R r z p t).1 (gnF R r z p t).2.1 (gnF R r z p t).2.2 k else (z, p, t)
theorem foF_ok (R : Rg) : ∀ (k r z p t : Nat), z ≤ 10 → p < R 0 0 → (foF R r z p t k).1 ≤ 10 ∧ (foF R r z p t k).2.1 < R 0 0 := by
  intro k
  induction k with
  | zero => intro r z p t hz hp; exact ⟨hz, hp⟩
  | succ k ih =>
    intro r z p t hz hp
    rw [foF]
    split
    · have := gnF_ok R r t hz hp
      exact ih _ _ _ _ this.1 this.2
    · exact ⟨hz, hp⟩
/-! the class's side -/
theorem eq_sub1 {l ed : Nat} (hl : l < 5) (he : ed ≤ 5) : (nI l = nI ed - nI 1) ↔ l + 1 = ed := by
  constructor
  · intro h
    have h2 : (nI l).toInt = (ed : Int) - 1 := by rw [h]; exact pk_sub_toInt (by omega) (by omega)
    rw [nI_toInt (by omega)] at h2
    omega
  · intro h
    rw [← h, pk_sub (by omega)]
    rfl
theorem isAw {kd n : Nat} (hk : kd ≤ 4) (hn : n < 2 ^ 31) : v_isAwake kd (nI n) = some (if kd = 4 ∧ n % 3 = 0 then 0 else 1) := by
  unfold v_isAwake
  rw [nlit 3, jr_nI hn (by omega) (by omega), n0]
  have h0 : (nI (n % 3) = nI 0) = (n % 3 = 0) := propext (nI_eq (by omega) (by omega))
  simp only [h0]
  rcases (show kd = 0 ∨ kd = 1 ∨ kd = 2 ∨ kd = 3 ∨ kd = 4 by omega) with e | e | e | e | e <;> rw [e] <;> simp
  split <;> rfl
theorem vfo {kd : Nat} (hk : kd ≤ 4) : v_force kd = some (foI kd) := by
  rcases (show kd = 0 ∨ kd = 1 ∨ kd = 2 ∨ kd = 3 ∨ kd = 4 by omega) with e | e | e | e | e <;> rw [e] <;> rfl
theorem vre {kd : Nat} (hk : kd ≤ 4) : v_reach kd = some (nI (if kd = 1 ∨ kd = 3 then 1 else 0)) := by
  rcases (show kd = 0 ∨ kd = 1 ∨ kd = 2 ∨ kd = 3 ∨ kd = 4 by omega) with e | e | e | e | e <;> rw [e] <;> rfl
theorem frc {kd ed l : Nat} (hk : kd ≤ 4) (hl : l < 5) (hb : l = ed ∨ l + 1 = ed) : ¬ (if l = ed then foI kd else -foI kd) = 0 ∧ nI l + (if l = ed then foI kd else -foI kd) = nI (toL kd ed l) - nI 3 := by
  rcases hb with rfl | rfl
  · rcases (show kd = 0 ∨ kd = 1 ∨ kd = 2 ∨ kd = 3 ∨ kd = 4 by omega) with rfl | rfl | rfl | rfl | rfl <;>
    rcases (show l = 0 ∨ l = 1 ∨ l = 2 ∨ l = 3 ∨ l = 4 by omega) with rfl | rfl | rfl | rfl | rfl <;> decide
  · rcases (show kd = 0 ∨ kd = 1 ∨ kd = 2 ∨ kd = 3 ∨ kd = 4 by omega) with rfl | rfl | rfl | rfl | rfl <;>
    rcases (show l = 0 ∨ l = 1 ∨ l = 2 ∨ l = 3 ∨ l = 4 by omega) with rfl | rfl | rfl | rfl | rfl <;> decide
theorem pushOf_ok {M : Mm} {a m r l p : Nat} {tu : Nat → Nat} {R : Rg} (h : CRing M a tu R) (hF : FOk R) (hm : m < R 0 1) (hl : l < 5) (hp : p < R 0 0) (hr : r ≤ 60) (hr2 : R 0 2 + r < 100000) : f_X5_pushOf a (nI m) (nI r) (nI l) (nI p) M = some (if hitR (atR R r) m p l then (if l = R 4 m then foI (R 3 m) else -foI (R 3 m)) else 0) := by
  have h4 : m < 4 := by have := hF.2.1; omega
  obtain ⟨k3, k4, k6⟩ := hF.2.2.2.1 m hm
  have k5 := hF.2.2.2.2.1 m hm
  obtain ⟨a5, a6, a7, a8⟩ := h.2.2.2.2.2.2 m hm
  have hP := hF.1
  have hmp : mp R m r < R 0 0 := Nat.mod_lt _ (by omega)
  have hmul : r * R 6 m ≤ 60 * 9 := Nat.mul_le_mul hr k6
  have hJ : (l = R 4 m ∨ l + 1 = R 4 m) → f_X5_pushOf_J24 a M (nI m) (nI r) (nI l) (nI p) (nI (R 4 m)) = some (if hitR (atR R r) m p l then (if l = R 4 m then foI (R 3 m) else -foI (R 3 m)) else 0) := by
    intro hbs
    have hit : hitR (atR R r) m p l ↔ ¬ (R 3 m = 4 ∧ (R 0 2 + r) % 3 = 0) ∧ byR (R 0 0) (mp R m r) (R 3 m) p := by
      unfold hitR
      rw [atR_5, atR_02, atR_o R r (b := 3) (by omega) (by omega), atR_o R r (b := 4) (by omega) (by omega), atR_o R r (b := 0) (j := 0) (by omega) (by omega)]
      exact ⟨fun q => ⟨q.1, q.2.1⟩, fun q => ⟨q.1, q.2, hbs⟩⟩
    have eif : (if hitR (atR R r) m p l then (if l = R 4 m then foI (R 3 m) else -foI (R 3 m)) else 0) = if ¬ (R 3 m = 4 ∧ (R 0 2 + r) % 3 = 0) ∧ byR (R 0 0) (mp R m r) (R 3 m) p then (if l = R 4 m then foI (R 3 m) else -foI (R 3 m)) else 0 := by
      by_cases q : hitR (atR R r) m p l
      · rw [if_pos q, if_pos (hit.mp q)]
      · rw [if_neg q, if_neg (fun w => q (hit.mpr w))]
    rw [eif]
    unfold f_X5_pushOf_J24
    rw [ck_nI h4 (by omega), cl_nI (by omega), a5, ck_nI (by omega) (by omega), bnd_e, cl_nI (by omega), h.2.2.1, nI_add, isAw k3 (by omega), Option.bind_some]
    by_cases haw : R 3 m = 4 ∧ (R 0 2 + r) % 3 = 0
    · rw [if_pos haw, if_pos rfl, if_neg (fun q => q.1 haw)]
    · have hlt : (p + R 0 0 - mp R m r) % R 0 0 < R 0 0 := Nat.mod_lt _ (by omega)
      rw [if_neg haw, if_neg (by decide), ck_nI h4 (by omega), ck_nI h4 (by omega), a7, a8, h.1, pk_mul, nI_add, around_ok h.1 (by omega) hP.2 (by omega), Option.bind_some, show (R 5 m + r * R 6 m) % R 0 0 = mp R m r from rfl, sub_add' (by omega), around_ok h.1 (by omega) hP.2 (by omega), Option.bind_some, vre k3, Option.bind_some, vfo k3, Option.bind_some, Option.bind_some, pk_sub (by omega), jmin_nI (by omega) (by omega), ifle (by split <;> omega) (by split <;> omega), ifeq (by omega) (by omega)]
      have hb := byR_off (kd := R 3 m) hP.1 hp hmp
      generalize (p + R 0 0 - mp R m r) % R 0 0 = o at *
      have hc : (if R 0 0 - o < o then R 0 0 - o else o) ≤ (if R 3 m = 1 ∨ R 3 m = 3 then 1 else 0) ↔ byR (R 0 0) (mp R m r) (R 3 m) p := by
        rw [hb]
        by_cases hw : R 3 m = 1 ∨ R 3 m = 3
        · rw [if_pos hw]
          split <;> omega
        · rw [if_neg hw]
          split <;> omega
      by_cases hby : byR (R 0 0) (mp R m r) (R 3 m) p
      · have hA : ¬ (R 3 m = 4 ∧ (R 0 2 + r) % 3 = 0) ∧ byR (R 0 0) (mp R m r) (R 3 m) p := ⟨haw, hby⟩
        rw [if_pos (hc.mpr hby), if_pos hA]
        split <;> rfl
      · rw [if_neg (fun q => hby (hc.mp q)), if_neg (fun q => hby q.2)]
  unfold f_X5_pushOf
  rw [ck_nI h4 (by omega), bnd_e, cl_nI (by omega), a6, ifeq (by omega) (by omega)]
  by_cases e1 : l = R 4 m
  · rw [if_pos e1]
    exact hJ (Or.inl e1)
  · rw [if_neg e1, show (1 : Int32) = nI 1 from rfl]
    by_cases e2 : l + 1 = R 4 m
    · rw [if_pos ((eq_sub1 hl k4).mpr e2)]
      exact hJ (Or.inr e2)
    · rw [if_neg (fun q => e2 ((eq_sub1 hl k4).mp q)), if_neg]
      rintro ⟨-, -, q⟩
      rw [atR_o R r (b := 4) (by omega) (by omega)] at q
      omega
theorem isLost_ok {M : Mm} {a z : Nat} (h : M a 0 = nI z - nI 3) (hz : z ≤ 10) : f_X2_isLost a M = some (if 3 ≤ z ∧ z < 8 then 0 else 1) := by
  unfold f_X2_isLost
  rw [h, lane_ok, Option.bind_some, ite_b01]
  by_cases q : 3 ≤ z ∧ z < 8
  · rw [if_pos ((lane_z hz).mpr q), if_pos q]
  · rw [if_neg (fun w => q ((lane_z hz).mp w)), if_neg q]
theorem cl32 {a p0 p r : Nat} {tu : Nat → Nat} {R : Rg} (hF : FOk R) (ha : a < p0 ∨ p0 + 9 ≤ a) (hp : p < R 0 0) (hr : r ≤ 60) (hr2 : R 0 2 + r < 100000) : ∀ (k m n z t : Nat) (M : Mm), m + k = R 0 1 → k < n → CRing M p0 tu R → z ≤ 10 → M a 0 = nI z - nI 3 → M a 1 = nI p → M a 2 = nI t → ∃ M', f_X2_goOn_L32 a p0 n (nI r) (nI m) M = some M' ∧ M' a 0 = nI (onF (atR R r) p m z t k).1 - nI 3 ∧ M' a 1 = nI p ∧ M' a 2 = nI (onF (atR R r) p m z t k).2 ∧ ∀ q, q ≠ a → M' q = M q := by
  have h4 := hF.2.1
  intro k
  induction k with
  | zero =>
    intro m n z t M hm hn h hz h0 h1 h2
    obtain ⟨n, rfl⟩ : ∃ m, n = m + 1 := ⟨n - 1, by omega⟩
    refine ⟨M, ?_, h0, h1, h2, fun _ _ => rfl⟩
    rw [f_X2_goOn_L32, h.2.1, ifle (by omega) (by omega), if_pos (by omega)]
  | succ k ih =>
    intro m n z t M hm hn h hz h0 h1 h2
    obtain ⟨n, rfl⟩ : ∃ m, n = m + 1 := ⟨n - 1, by omega⟩
    rw [f_X2_goOn_L32, h.2.1, ifle (by omega) (by omega), if_neg (by omega), isLost_ok h0 hz, Option.bind_some, onF]
    by_cases hl : 3 ≤ z ∧ z < 8
    · rw [if_pos hl, if_pos hl, if_pos rfl, h0, h1, pk_sub hl.1, pushOf_ok h hF (show m < R 0 1 by omega) (by omega) hp hr hr2, Option.bind_some]
      by_cases hh : hitR (atR R r) m p (z - 3)
      · have hbs := hh.2.2
        rw [atR_o R r (b := 4) (by omega) (by omega)] at hbs
        obtain ⟨f1, f2⟩ := frc (hF.2.2.2.1 m (by omega)).1 (show z - 3 < 5 by omega) hbs
        have hle := toL_le (R 3 m) (R 4 m) (z - 3)
        have g2 : up2 M a 0 (nI (toL (R 3 m) (R 4 m) (z - 3)) - nI 3) a 2 = nI t := by rw [up2_at, if_neg (by omega), h2]
        rw [if_pos hh, if_pos hh, if_neg f1, bnd_e, bnd_e, f2, g2, nI_1]
        unfold f_X2_goOn_J89
        rw [bnd_e, nI_1, atR_o R r (b := 3) (by omega) (by omega), atR_o R r (b := 4) (by omega) (by omega)]
        obtain ⟨M', e, b0, b1, b2, b3⟩ := ih (m + 1) n (toL (R 3 m) (R 4 m) (z - 3)) (t + 1) (up2 (up2 M a 0 (nI (toL (R 3 m) (R 4 m) (z - 3)) - nI 3)) a 2 (nI (t + 1))) (by omega) (by omega) (h.mono (fun q q1 q2 => by rw [up2_o _ _ _ (by omega), up2_o _ _ _ (by omega)])) (by omega) (by rw [up2_at, if_neg (by omega), up2_at, if_pos ⟨rfl, rfl⟩]) (by rw [up2_at, if_neg (by omega), up2_at, if_neg (by omega), h1]) (by rw [up2_at, if_pos ⟨rfl, rfl⟩])
        exact ⟨M', e, b0, b1, b2, fun q hq => by rw [b3 q hq, up2_o _ _ _ hq, up2_o _ _ _ hq]⟩
      · rw [if_neg hh, if_neg hh, if_pos rfl]
        unfold f_X2_goOn_J89
        rw [bnd_e, nI_1]
        exact ih (m + 1) n z t M (by omega) (by omega) h hz h0 h1 h2
    · rw [if_neg hl, if_neg hl, if_neg (by decide)]
      exact ⟨M, rfl, h0, h1, h2, fun _ _ => rfl⟩
theorem cgn_ok {M : Mm} {a p0 p r z t : Nat} {tu : Nat → Nat} {R : Rg} (h : CRing M p0 tu R) (hF : FOk R) (ha : a < p0 ∨ p0 + 9 ≤ a) (hp : p < R 0 0) (hr : r ≤ 60) (hr2 : R 0 2 + r < 100000) (hz : z ≤ 10) (h0 : M a 0 = nI z - nI 3) (h1 : M a 1 = nI p) (h2 : M a 2 = nI t) : ∃ M', f_X2_goOn a p0 (nI r) M = some M' ∧ M' a 0 = nI (gnF R r z p t).1 - nI 3 ∧ M' a 1 = nI (gnF R r z p t).2.1 ∧ M' a 2 = nI (gnF R r z p t).2.2 ∧ ∀ q, q ≠ a → M' q = M q := by
  have hP := hF.1
  unfold f_X2_goOn gnF
  rw [isLost_ok h0 hz, Option.bind_some]
  by_cases hl : 3 ≤ z ∧ z < 8
  · have h9 := hF.2.2.1 (z - 3) (by omega)
    rw [if_pos hl, if_pos hl, if_pos rfl, h0, h1, pk_sub hl.1, ck_nI (by omega) (by omega), cl_nI (by omega), (h.2.2.2.2.1 (z - 3) (by omega)).1, nI_add, around_ok h.1 (by omega) hP.2 (by omega), Option.bind_some, bnd_e]
    obtain ⟨M', e, b0, b1, b2, b3⟩ := cl32 (r := r) (p := (p + R 1 (z - 3)) % R 0 0) hF ha (Nat.mod_lt _ (by omega)) hr hr2 (R 0 1) 0 2000 z t (up2 M a 1 (nI ((p + R 1 (z - 3)) % R 0 0))) (by omega) (by have := hF.2.1; omega) (h.mono (fun q q1 q2 => by rw [up2_o _ _ _ (by omega)])) hz (by rw [up2_at, if_neg (by omega), h0]) (by rw [up2_at, if_pos ⟨rfl, rfl⟩]) (by rw [up2_at, if_neg (by omega), h2])
    exact ⟨M', e, b0, b1, b2, fun q hq => by rw [b3 q hq, up2_o _ _ _ hq]⟩
  · rw [if_neg hl, if_neg hl, if_neg (by decide)]
    exact ⟨M, rfl, h0, h1, h2, fun _ _ => rfl⟩
theorem cfo12 {cs r0 K : Nat} {tu : Nat → Nat} {R : Rg} (hF : FOk R) (ha : r0 + 9 ≤ cs) (hK : K ≤ 60) (hr2 : R 0 2 + K < 100000) : ∀ (k r n z p t : Nat) (M : Mm), r + k = K + 1 → k < n → CRing M r0 tu R → z ≤ 10 → p < R 0 0 → M (cs + 10) 0 = nI z - nI 3 → M (cs + 10) 1 = nI p → M (cs + 10) 2 = nI t → ∃ M', f_X0_follow_L12 cs r0 n (nI K) (nI r) M = some M' ∧ M' (cs + 10) 0 = nI (foF R r z p t k).1 - nI 3 ∧ M' (cs + 10) 1 = nI (foF R r z p t k).2.1 ∧ M' (cs + 10) 2 = nI (foF R r z p t k).2.2 ∧ ∀ q, q ≠ cs + 10 → M' q = M q := by
  intro k
  induction k with
  | zero =>
    intro r n z p t M hk hn h hz hp h0 h1 h2
    obtain ⟨n, rfl⟩ : ∃ m, n = m + 1 := ⟨n - 1, by omega⟩
    refine ⟨M, ?_, h0, h1, h2, fun _ _ => rfl⟩
    rw [f_X0_follow_L12, iflt (by omega) (by omega), if_pos (by omega)]
  | succ k ih =>
    intro r n z p t M hk hn h hz hp h0 h1 h2
    obtain ⟨n, rfl⟩ : ∃ m, n = m + 1 := ⟨n - 1, by omega⟩
    rw [f_X0_follow_L12, iflt (by omega) (by omega), if_neg (by omega), isLost_ok h0 hz, Option.bind_some, foF]
    by_cases hl : 3 ≤ z ∧ z < 8
    · obtain ⟨M1, e1, a0, a1, a2, a3⟩ := cgn_ok (a := cs + 10) (r := r) h hF (by omega) hp (by omega) (by omega) hz h0 h1 h2
      have hg := gnF_ok R r t hz hp
      obtain ⟨M2, e2, b0, b1, b2, b3⟩ := ih (r + 1) n _ _ _ M1 (by omega) (by omega) (h.mono (fun q q1 q2 => a3 q (by omega))) hg.1 hg.2 a0 a1 a2
      rw [if_pos hl, if_pos hl, if_pos rfl, e1, Option.bind_some, bnd_e, nI_1]
      exact ⟨M2, e2, b0, b1, b2, fun q hq => by rw [b3 q hq, a3 q hq]⟩
    · rw [if_neg hl, if_neg hl, if_neg (by decide)]
      exact ⟨M, rfl, h0, h1, h2, fun _ _ => rfl⟩
theorem follow_ok {M : Mm} {cs r0 K l p : Nat} {tu : Nat → Nat} {R : Rg} (h : CRing M r0 tu R) (hF : FOk R) (ha : r0 + 9 ≤ cs) (hK : K ≤ 60) (hr2 : R 0 2 + K < 100000) (hl : l < 5) (hp : p < R 0 0) : ∃ M', f_X0_follow cs r0 (nI l) (nI p) (nI K) M = some M' ∧ M' (cs + 10) 0 = nI (foF R 1 (l + 3) p 0 K).1 - nI 3 ∧ M' (cs + 10) 1 = nI (foF R 1 (l + 3) p 0 K).2.1 ∧ M' (cs + 10) 2 = nI (foF R 1 (l + 3) p 0 K).2.2 ∧ ∀ q, q ≠ cs + 10 → M' q = M q := by
  unfold f_X0_follow f_X2_lie
  rw [bnd_e, bnd_e, bnd_e, Option.bind_some]
  have k1 : ∀ q, q ≠ cs + 10 → up2 (up2 (up2 M (cs + 10) 0 (nI l)) (cs + 10) 1 (nI p)) (cs + 10) 2 0 q = M q := fun q hq => by rw [up2_o _ _ _ hq, up2_o _ _ _ hq, up2_o _ _ _ hq]
  obtain ⟨M', e, b0, b1, b2, b3⟩ := cfo12 (cs := cs) hF ha hK hr2 K 1 2000 (l + 3) p 0 _ (by omega) (by omega) (h.mono (fun q q1 q2 => k1 q (by omega))) (by omega) hp (by
    rw [up2_at, if_neg (by omega), up2_at, if_neg (by omega), up2_at, if_pos ⟨rfl, rfl⟩, pk_sub (by omega)]
    rfl) (by rw [up2_at, if_neg (by omega), up2_at, if_pos ⟨rfl, rfl⟩]) (by
    rw [up2_at, if_pos ⟨rfl, rfl⟩]
    rfl)
  exact ⟨M', e, b0, b1, b2, fun q hq => by rw [b3 q hq, k1 q hq]⟩
/-! the reference's side -/
theorem mgm2 {y : Nat} {R : Rg} {pl : Nat → Nat} (hF : FOk R) (hpl : ∀ j, pl j < R 0 0) : ∀ (k m n : Nat) (M : Mm), m + k = R 0 1 → k < n → NRing M y R → (∀ j, m ≤ j → j < R 0 1 → M (y + 7) j = nI (pl j)) → ∃ M', f_X12_goMoons_L2 y n (nI m) M = some (up2 M' y 9 (M y 9 + 1)) ∧ (∀ j, m ≤ j → j < R 0 1 → M' (y + 7) j = nI ((pl j + R 6 j) % R 0 0)) ∧ (∀ j, j < m → M' (y + 7) j = M (y + 7) j) ∧ ∀ q, q ≠ y + 7 → M' q = M q := by
  have hP := hF.1
  have h4 := hF.2.1
  intro k
  induction k with
  | zero =>
    intro m n M hm hn hN hH
    obtain ⟨n, rfl⟩ : ∃ m, n = m + 1 := ⟨n - 1, by omega⟩
    refine ⟨M, ?_, fun j h1 h2 => by omega, fun _ _ => rfl, fun _ _ => rfl⟩
    rw [f_X12_goMoons_L2, mmoons_ok, Option.bind_some, hN.2.2.1, ifle (by omega) (by omega), if_pos (by omega), bnd_e]
  | succ k ih =>
    intro m n M hm hn hN hH
    obtain ⟨n, rfl⟩ : ∃ m, n = m + 1 := ⟨n - 1, by omega⟩
    have k6 := (hF.2.2.2.1 m (by omega)).2.2
    have k5 := hpl m
    obtain ⟨M', e, a1, a2, a3⟩ := ih (m + 1) n (up2 M (y + 7) m (nI ((pl m + R 6 m) % R 0 0))) (by omega) (by omega) (hN.sf (SF.rfl' R) (up2_o _ _ _ (by omega))) (fun j h1 h2 => by rw [up2_at, if_neg (by omega)]; exact hH j (by omega) h2)
    refine ⟨M', ?_, fun j h1 h2 => ?_, fun j h1 => ?_, fun w hw => by rw [a3 w hw, up2_o _ _ _ hw]⟩
    · have g : M (y + 1) (127 + 4 * m + 3) = nI (R 6 m) := hN.2.2.2 m 3 (by omega) (by omega) (by omega)
      rw [up2_o _ _ _ (show y ≠ y + 7 by omega)] at e
      rw [f_X12_goMoons_L2, mmoons_ok, Option.bind_some, hN.2.2.1, ifle (by omega) (by omega), if_neg (by omega), ck_nI (by omega) (by omega), nlit 3, of_ok _ _ _ _ (by omega) (by omega), Option.bind_some, g, mplaces_ok, Option.bind_some, hN.1, cz_nI (by omega) (by omega), ck_nI (by omega) (by omega), bnd_e, bnd_e, cl_nI (by omega), hH m (by omega) (by omega), nI_add, jr_nI (by omega) (by omega) (by omega), nI_1]
      exact e
    · by_cases h : j = m
      · subst h
        rw [a2 j (by omega), up2_at, if_pos ⟨rfl, rfl⟩]
      · exact a1 j (by omega) h2
    · rw [a2 j (by omega), up2_at, if_neg (by omega)]
theorem mp_succ (R : Rg) (j r : Nat) : (mp R j r + R 6 j) % R 0 0 = mp R j (r + 1) := by
  unfold mp
  rw [Nat.mod_add_mod, Nat.add_mul, Nat.one_mul, Nat.add_assoc]
theorem ml31 {y p : Nat} {R : Rg} {s : Nat → Bool} (hF : FOk R) (hp : p < R 0 0) (hs1 : ∀ j, j < R 0 1 → s j = true) : ∀ (k m n z t : Nat) (M : Mm), m + k = R 0 1 → k < n → NRing M y R → (∀ j, j < R 0 1 → M (y + 7) j = nI (R 5 j)) → M y 9 = nI (R 0 2) → sOk s (M y 10) → z ≤ 10 → M y 11 = nI z - nI 3 → M y 12 = nI p → M y 13 = nI t → ∃ M', f_X12_goOne_L31 y n (nI m) M = some M' ∧ M' y 11 = nI (onF R p m z t k).1 - nI 3 ∧ M' y 13 = nI (onF R p m z t k).2 ∧ (∀ j, j ≠ 11 → j ≠ 13 → M' y j = M y j) ∧ ∀ q, q ≠ y → M' q = M q := by
  have h4 := hF.2.1
  intro k
  induction k with
  | zero =>
    intro m n z t M hm hn hN h7 h9 hs hz h11 h12 h13
    obtain ⟨n, rfl⟩ : ∃ m, n = m + 1 := ⟨n - 1, by omega⟩
    refine ⟨M, ?_, h11, h13, fun _ _ _ => rfl, fun _ _ => rfl⟩
    rw [f_X12_goOne_L31, mmoons_ok, Option.bind_some, hN.2.2.1, ifle (by omega) (by omega), if_pos (by omega)]
  | succ k ih =>
    intro m n z t M hm hn hN h7 h9 hs hz h11 h12 h13
    obtain ⟨n, rfl⟩ : ∃ m, n = m + 1 := ⟨n - 1, by omega⟩
    rw [f_X12_goOne_L31, mmoons_ok, Option.bind_some, hN.2.2.1, ifle (by omega) (by omega), if_neg (by omega), h11, mlane_ok, Option.bind_some, ite_b01, onF]
    by_cases hl : 3 ≤ z ∧ z < 8
    · rw [if_pos ((lane_z hz).mpr hl), if_pos hl, misAwake_ok hN h9 hF (show m < R 0 1 by omega) (hs m (by omega)), Option.bind_some, ite_b01, h12, misBy_ok hN (h7 m (by omega)) hF (by omega) hp, Option.bind_some, ite_b01, pk_sub hl.1, misBeside_ok hN hF (by omega) (show z - 3 < 5 by omega), Option.bind_some, ite_b01]
      unfold f_X12_goOne_J104
      rw [bnd_e, nI_1]
      have hno := ih (m + 1) n z t M (by omega) (by omega) hN h7 h9 hs hz h11 h12 h13
      by_cases haw : ¬ (R 3 m = 4 ∧ R 0 2 % 3 = 0)
      · rw [if_pos ⟨hs1 m (by omega), haw⟩]
        by_cases hby : byR (R 0 0) (R 5 m) (R 3 m) p
        · rw [if_pos hby]
          by_cases hbs : z - 3 = R 4 m ∨ z - 3 + 1 = R 4 m
          · have hle := toL_le (R 3 m) (R 4 m) (z - 3)
            have hh : hitR R m p (z - 3) := ⟨haw, hby, hbs⟩
            have g2 : up2 M y 11 (nI (toL (R 3 m) (R 4 m) (z - 3)) - nI 3) y 13 = nI t := by rw [up2_at, if_neg (by omega), h13]
            rw [if_pos hbs, if_pos hh, mmovedTo_ok hN hF (by omega) (by omega) hbs, Option.bind_some, bnd_e, bnd_e, g2, nI_1, bnd_e]
            have k1 : ∀ q, q ≠ y → up2 (up2 M y 11 (nI (toL (R 3 m) (R 4 m) (z - 3)) - nI 3)) y 13 (nI (t + 1)) q = M q := fun q hq => by rw [up2_o _ _ _ hq, up2_o _ _ _ hq]
            have k2 : ∀ j, j ≠ 11 → j ≠ 13 → up2 (up2 M y 11 (nI (toL (R 3 m) (R 4 m) (z - 3)) - nI 3)) y 13 (nI (t + 1)) y j = M y j := fun j h1 h2 => by rw [up2_at, if_neg (by omega), up2_at, if_neg (by omega)]
            obtain ⟨M', e, b0, b1, b2, b3⟩ := ih (m + 1) n (toL (R 3 m) (R 4 m) (z - 3)) (t + 1) _ (by omega) (by omega) (hN.sf (SF.rfl' R) (k1 _ (by omega))) (fun j hj => by rw [k1 _ (by omega)]; exact h7 j hj) (by rw [k2 _ (by omega) (by omega)]; exact h9) (by rw [k2 _ (by omega) (by omega)]; exact hs) (by omega) (by rw [up2_at, if_neg (by omega), up2_at, if_pos ⟨rfl, rfl⟩]) (by rw [k2 _ (by omega) (by omega)]; exact h12) (by rw [up2_at, if_pos ⟨rfl, rfl⟩])
            exact ⟨M', e, b0, b1, fun j h1 h2 => by rw [b2 j h1 h2, k2 j h1 h2], fun q hq => by rw [b3 q hq, k1 q hq]⟩
          · rw [if_neg hbs, if_neg (fun q => hbs q.2.2)]
            exact hno
        · rw [if_neg hby, if_neg (fun q => hby q.2.1)]
          exact hno
      · rw [if_neg (fun q => haw q.2), if_neg (fun q => haw q.1)]
        exact hno
    · rw [if_neg (fun q => hl ((lane_z hz).mp q)), if_neg hl]
      exact ⟨M, rfl, h11, h13, fun _ _ _ => rfl, fun _ _ => rfl⟩
theorem mgoOne_ok {y r z p t : Nat} {M : Mm} {R : Rg} (hN : NRing M y R) (h7 : ∀ j, j < R 0 1 → M (y + 7) j = nI (mp R j r)) (h9 : M y 9 = nI (R 0 2 + r)) (hs : sOk (fun m => decide (m < R 0 1)) (M y 10)) (hF : FOk R) (hr : R 0 2 + r + 1 < 100000) (hz : 3 ≤ z ∧ z < 8) (hp : p < R 0 0) (h11 : M y 11 = nI z - nI 3) (h12 : M y 12 = nI p) (h13 : M y 13 = nI t) : ∃ M', f_X12_goOne y M = some M' ∧ M' y 11 = nI (gnF R (r + 1) z p t).1 - nI 3 ∧ M' y 12 = nI (gnF R (r + 1) z p t).2.1 ∧ M' y 13 = nI (gnF R (r + 1) z p t).2.2 ∧ (∀ j, j < R 0 1 → M' (y + 7) j = nI (mp R j (r + 1))) ∧ M' y 9 = nI (R 0 2 + (r + 1)) ∧ (∀ j, j ≠ 9 → j ≠ 11 → j ≠ 12 → j ≠ 13 → M' y j = M y j) ∧ ∀ q, q ≠ y → q ≠ y + 7 → M' q = M q := by
  have hP := hF.1
  have k9 := hF.2.2.1 (z - 3) (by omega)
  have hp' : (p + R 1 (z - 3)) % R 0 0 < R 0 0 := Nat.mod_lt _ (by omega)
  obtain ⟨M1, e1, a1, -, a3⟩ := mgm2 (y := y) (pl := fun j => mp R j r) hF (fun j => Nat.mod_lt _ (by omega)) (R 0 1) 0 2000 (up2 M y 12 (nI ((p + R 1 (z - 3)) % R 0 0))) (by omega) (by have := hF.2.1; omega) (hN.sf (SF.rfl' R) (up2_o _ _ _ (by omega))) (fun j _ hj => by rw [up2_o _ _ _ (by omega)]; exact h7 j hj)
  have hy9 : up2 M y 12 (nI ((p + R 1 (z - 3)) % R 0 0)) y 9 + 1 = nI (R 0 2 + (r + 1)) := by rw [up2_at, if_neg (by omega), h9, nI_1, Nat.add_assoc]
  rw [hy9] at e1
  have k1 : ∀ q, q ≠ y → q ≠ y + 7 → up2 M1 y 9 (nI (R 0 2 + (r + 1))) q = M q := fun q q1 q2 => by rw [up2_o _ _ _ q1, a3 q q2, up2_o _ _ _ q1]
  have k2 : ∀ j, j ≠ 9 → j ≠ 12 → up2 M1 y 9 (nI (R 0 2 + (r + 1))) y j = M y j := fun j j1 j2 => by rw [up2_at, if_neg (by omega), a3 _ (by omega), up2_at, if_neg (by omega)]
  have hF' := hF.at (r + 1) (by omega)
  have e00 : atR R (r + 1) 0 0 = R 0 0 := atR_o R _ (by omega) (by omega)
  have e01 : atR R (r + 1) 0 1 = R 0 1 := atR_o R _ (by omega) (by omega)
  have g7 : ∀ j, j < R 0 1 → up2 M1 y 9 (nI (R 0 2 + (r + 1))) (y + 7) j = nI (mp R j (r + 1)) := fun j hj => by rw [up2_o _ _ _ (by omega), a1 j (by omega) hj, mp_succ]
  obtain ⟨M2, e2, b0, b1, b2, b3⟩ := ml31 (y := y) (s := fun m => decide (m < R 0 1)) hF' (by rw [e00]; exact hp') (fun j hj => by rw [e01] at hj; simp [hj]) (R 0 1) 0 2000 z t (up2 M1 y 9 (nI (R 0 2 + (r + 1)))) (by rw [e01]; omega) (by have := hF.2.1; omega) (hN.sf (atR_sf R _) (k1 _ (by omega) (by omega))) (fun j hj => by rw [e01] at hj; rw [atR_5]; exact g7 j hj) (by rw [up2_at, if_pos ⟨rfl, rfl⟩, atR_02]) (by rw [k2 _ (by omega) (by omega)]; exact hs) (by omega) (by rw [k2 _ (by omega) (by omega)]; exact h11) (by rw [up2_at, if_neg (by omega), a3 _ (by omega), up2_at, if_pos ⟨rfl, rfl⟩]) (by rw [k2 _ (by omega) (by omega)]; exact h13)
  have eg : gnF R (r + 1) z p t = ((onF (atR R (r + 1)) ((p + R 1 (z - 3)) % R 0 0) 0 z t (R 0 1)).1, (p + R 1 (z - 3)) % R 0 0, (onF (atR R (r + 1)) ((p + R 1 (z - 3)) % R 0 0) 0 z t (R 0 1)).2) := if_pos hz
  rw [eg]
  refine ⟨M2, ?_, b0, ?_, b1, fun j hj => by rw [b3 _ (by omega)]; exact g7 j hj, ?_, fun j j1 j2 j3 j4 => by rw [b2 j j2 j4, k2 j j1 j3], fun q q1 q2 => by rw [b3 q q1, k1 q q1 q2]⟩
  · unfold f_X12_goOne
    rw [h11, h12, pk_sub hz.1, nlit 1, nI_add, ck_nI (by omega) (by omega), cl_nI (by omega), hN.2.1 (z - 3) (by omega), mplaces_ok, Option.bind_some, hN.1, cz_nI (by omega) (by omega), bnd_e, nI_add, jr_nI (by omega) (by omega) (by omega)]
    unfold f_X12_goMoons
    rw [n0, e1, Option.bind_some]
    exact e2
  · rw [b2 _ (by omega) (by omega), up2_at, if_neg (by omega), a3 _ (by omega), up2_at, if_pos ⟨rfl, rfl⟩]
  · rw [b2 _ (by omega) (by omega), up2_at, if_pos ⟨rfl, rfl⟩]
theorem mfo26 {y K : Nat} {R : Rg} (hF : FOk R) (hK : K ≤ 60) (hr2 : R 0 2 + K < 100000) : ∀ (k r n z p t : Nat) (M : Mm), r + k = K → k < n → NRing M y R → (∀ j, j < R 0 1 → M (y + 7) j = nI (mp R j r)) → M y 9 = nI (R 0 2 + r) → sOk (fun m => decide (m < R 0 1)) (M y 10) → z ≤ 10 → p < R 0 0 → M y 11 = nI z - nI 3 → M y 12 = nI p → M y 13 = nI t → ∃ M', f_X12_goOneOn_L26 y n (nI K) (nI r) M = some M' ∧ M' y 11 = nI (foF R (r + 1) z p t k).1 - nI 3 ∧ M' y 12 = nI (foF R (r + 1) z p t k).2.1 ∧ M' y 13 = nI (foF R (r + 1) z p t k).2.2 ∧ (∀ j, j ≠ 9 → j ≠ 11 → j ≠ 12 → j ≠ 13 → M' y j = M y j) ∧ ∀ q, q ≠ y → q ≠ y + 7 → M' q = M q := by
  intro k
  induction k with
  | zero =>
    intro r n z p t M hk hn hN h7 h9 hs hz hp h11 h12 h13
    obtain ⟨n, rfl⟩ : ∃ m, n = m + 1 := ⟨n - 1, by omega⟩
    refine ⟨M, ?_, h11, h12, h13, fun _ _ _ _ _ => rfl, fun _ _ _ => rfl⟩
    rw [f_X12_goOneOn_L26, ifle (by omega) (by omega), if_pos (by omega)]
  | succ k ih =>
    intro r n z p t M hk hn hN h7 h9 hs hz hp h11 h12 h13
    obtain ⟨n, rfl⟩ : ∃ m, n = m + 1 := ⟨n - 1, by omega⟩
    rw [f_X12_goOneOn_L26, ifle (by omega) (by omega), if_neg (by omega), h11, mlane_ok, Option.bind_some, ite_b01, foF]
    by_cases hl : 3 ≤ z ∧ z < 8
    · obtain ⟨M1, e1, a0, a1, a2, a3, a4, a5, a6⟩ := mgoOne_ok hN h7 h9 hs hF (by omega) hl hp h11 h12 h13
      have hg := gnF_ok R (r + 1) t hz hp
      obtain ⟨M2, e2, b0, b1, b2, b3, b4⟩ := ih (r + 1) n _ _ _ M1 (by omega) (by omega) (hN.sf (SF.rfl' R) (a6 _ (by omega) (by omega))) a3 a4 (by rw [a5 _ (by omega) (by omega) (by omega) (by omega)]; exact hs) hg.1 hg.2 a0 a1 a2
      rw [if_pos ((lane_z hz).mpr hl), if_pos hl, e1, Option.bind_some, bnd_e, nI_1]
      exact ⟨M2, e2, b0, b1, b2, fun j j1 j2 j3 j4 => by rw [b3 j j1 j2 j3 j4, a5 j j1 j2 j3 j4], fun q q1 q2 => by rw [b4 q q1 q2, a6 q q1 q2]⟩
    · rw [if_neg (fun q => hl ((lane_z hz).mp q)), if_neg hl]
      exact ⟨M, rfl, h11, h12, h13, fun _ _ _ _ _ => rfl, fun _ _ _ => rfl⟩
theorem mgoOneOn_ok {y K l p : Nat} {M : Mm} {R : Rg} (hM : MRing M (y + 1) 0 R) (hF : FOk R) (hK : K ≤ 60) (hr2 : R 0 2 + K < 100000) (hl : l < 5) (hp : p < R 0 0) : ∃ M', f_X12_goOneOn y (nI l) (nI p) (nI K) M = some M' ∧ M' y 11 = nI (foF R 1 (l + 3) p 0 K).1 - nI 3 ∧ M' y 12 = nI (foF R 1 (l + 3) p 0 K).2.1 ∧ M' y 13 = nI (foF R 1 (l + 3) p 0 K).2.2 ∧ (∀ q, q ≠ y → q ≠ y + 5 → q ≠ y + 7 → M' q = M q) ∧ M' y 18 = M y 18 := by
  have h4 := hF.2.1
  generalize hM3 : up2 (up2 (up2 M y 11 (nI l)) y 12 (nI p)) y 13 0 = M3
  have k3 : ∀ q, q ≠ y → M3 q = M q := fun q hq => by rw [← hM3, up2_o _ _ _ hq, up2_o _ _ _ hq, up2_o _ _ _ hq]
  have m3 : MRing M3 (y + 1) 0 R := by
    unfold MRing MLum at hM ⊢
    rw [k3 _ (by omega)]
    exact hM
  obtain ⟨A1, f1, g1, -, g3⟩ := tk2 (y := y) (nI (2 ^ R 0 1 - 1)) 120 0 2000 M3 (by omega) (by omega)
  have mA1 : MRing A1 (y + 1) 0 R := by
    unfold MRing MLum at m3 ⊢
    rw [g3 _ (by omega)]
    exact m3
  obtain ⟨A2, f2, i1, -, i3⟩ := tk31 (y := y) (nI (2 ^ R 0 1 - 1)) (R 0 1) 0 2000 A1 (by omega) (by omega) h4 mA1
  have e1 : f_X12_takeNow y (nI (2 ^ R 0 1 - 1)) M3 = some (up2 (up2 A2 y 9 (nI (R 0 2))) y 10 (nI (2 ^ R 0 1 - 1))) := by
    unfold f_X12_takeNow
    rw [n0]
    exact f1.trans f2
  generalize hA : up2 (up2 A2 y 9 (nI (R 0 2))) y 10 (nI (2 ^ R 0 1 - 1)) = A at *
  have k1 : ∀ q, q ≠ y → q ≠ y + 5 → q ≠ y + 7 → A q = M q := fun q q1 q2 q3 => by rw [← hA, up2_o _ _ _ q1, up2_o _ _ _ q1, i3 q q3, g3 q q2, k3 q q1]
  have k2 : ∀ j, j ≠ 9 → j ≠ 10 → A y j = M3 y j := fun j j1 j2 => by rw [← hA, up2_at, if_neg (by omega), up2_at, if_neg (by omega), i3 _ (by omega), g3 _ (by omega)]
  obtain ⟨M2, e2, b0, b1, b2, b3, b4⟩ := mfo26 (y := y) hF hK hr2 K 0 2000 (l + 3) p 0 A (by omega) (by omega) (hM.nring.sf (SF.rfl' R) (k1 _ (by omega) (by omega) (by omega))) (fun j hj => by
    have h5 := hF.2.2.2.2.1 j hj
    rw [← hA, up2_o _ _ _ (by omega), up2_o _ _ _ (by omega), i1 j (by omega) hj]
    unfold mp
    rw [Nat.zero_mul, Nat.add_zero, Nat.mod_eq_of_lt h5]) (by rw [← hA, up2_at, if_neg (by omega), up2_at, if_pos ⟨rfl, rfl⟩]; rfl) (by rw [← hA, up2_at, if_pos ⟨rfl, rfl⟩]; exact sOk_all h4) (by omega) hp (by
    rw [k2 _ (by omega) (by omega), ← hM3, up2_at, if_neg (by omega), up2_at, if_neg (by omega), up2_at, if_pos ⟨rfl, rfl⟩, pk_sub (by omega)]
    rfl) (by rw [k2 _ (by omega) (by omega), ← hM3, up2_at, if_neg (by omega), up2_at, if_pos ⟨rfl, rfl⟩]) (by
    rw [k2 _ (by omega) (by omega), ← hM3, up2_at, if_pos ⟨rfl, rfl⟩]
    rfl)
  refine ⟨M2, ?_, b0, b1, b2, fun q q1 q2 q3 => by rw [b4 q q1 q3, k1 q q1 q2 q3], ?_⟩
  · unfold f_X12_goOneOn
    rw [bnd_e, bnd_e, bnd_e, hM3, all_ok m3.2.2.2.1 h4, Option.bind_some, e1, Option.bind_some]
    exact e2
  · rw [b3 _ (by omega) (by omega) (by omega) (by omega), k2 _ (by omega) (by omega), ← hM3, up2_at, if_neg (by omega), up2_at, if_neg (by omega), up2_at, if_neg (by omega)]
section STC
variable {x y k : Nat} {M : Mm} {N : Ml}
theorem s_where (hy : y = x + 234) (hk : k < 320) (q0 q1 q2 q3 : Int32) (hI : IInv x y k M N) : ∃ (v : Int32) (M1 M2 : Mm), f_X11_where x q0 q1 q2 q3 M = some (v, M1) ∧ f_X12_where y q0 q1 q2 q3 M1 = some (v, M2) ∧ IInv x y (k + 5) M2 N := by
  obtain ⟨R, tu, c1, m1, s⟩ := hI.ring
  have hF := s.fok (by omega)
  have ec : M (x + 7 + 1) 9 = nI (R 0 0) := c1.1
  have em : M (y + 1) 0 = nI (R 0 0) := m1.1
  have hP := hF.1
  have hr := s.2.2.1
  unfold f_X11_where f_X12_where f_X11_where_J32 f_X12_where_J35
  rw [lane_ok, Option.bind_some, ite_b01]
  by_cases b : (0 : Int32) ≤ q0 ∧ q0 ≤ 4
  · rw [if_pos b, isPlace_ok, Option.bind_some, ite_b01, ec]
    by_cases c : (0 : Int32) ≤ q1 ∧ q1 ≤ nI (R 0 0) - 1
    · rw [if_pos c, isRounds_ok, Option.bind_some, ite_b01]
      by_cases d : (0 : Int32) ≤ q2 ∧ q2 ≤ 60
      · rw [if_pos d, within_ok, Option.bind_some, ite_b01]
        by_cases f : (0 : Int32) ≤ q3 ∧ q3 ≤ 2
        · rw [if_pos f]
          obtain ⟨l, hl, rfl⟩ := in_nat (b := 4) (by omega) b
          obtain ⟨p, hp, rfl⟩ := (cplace_ok q1 _ hP.2 _ rfl).mp c
          obtain ⟨K, hK, rfl⟩ := in_nat (b := 60) (by omega) d
          obtain ⟨w, hw, rfl⟩ := in_nat (b := 2) (by omega) f
          obtain ⟨M1, e1, a0, a1, a2, a3⟩ := follow_ok (cs := x + 204) c1 hF (by omega) hK (by omega) (show l < 5 by omega) hp
          have m1' : MRing M1 (y + 1) 0 R := by
            unfold MRing MLum at m1 ⊢
            rw [a3 _ (by omega)]
            exact m1
          obtain ⟨M2, e2, b0, b1, b2, b3, b4⟩ := mgoOneOn_ok m1' hF hK (by omega) (show l < 5 by omega) hp
          have hz := (foF_ok R K 1 (l + 3) p 0 (by omega) hp).1
          have hI2 : IInv x y (k + 5) M2 N := hI.scratch hy (fun q hq => by rw [b3 q (by omega) (by omega) (by omega), a3 q (by omega)]) (by rw [b3 _ (by omega) (by omega) (by omega), a3 _ (by omega)]) (by rw [b4, a3 _ (by omega)])
          have hpre : ∀ (F : Mm → Option (Int32 × Mm)), (Option.bind (f_X12_isLane (nI l) M1) fun r1 => if r1 = 0 then bd2 (f_X12_bad y (-10 : Int32) M1) fun r5 M7 => some (r5, M7) else Option.bind (f_X12_isPlace y (nI p) M1) fun r8 => if r8 = 0 then bd2 (f_X12_bad y (-10 : Int32) M1) fun r5 M7 => some (r5, M7) else Option.bind (f_X12_isLong (nI K) M1) fun r12 => if r12 = 0 then bd2 (f_X12_bad y (-10 : Int32) M1) fun r5 M7 => some (r5, M7) else Option.bind (f_X12_in (nI w).toInt64 (0 : Int64) (2 : Int64) M1) fun r16 => if r16 = 0 then bd2 (f_X12_bad y (-10 : Int32) M1) fun r5 M7 => some (r5, M7) else Option.bind (f_X12_goOneOn y (nI l) (nI p) (nI K) M1) F) = F M2 := fun F => by
            rw [mlane_ok, Option.bind_some, ite_b01, if_pos b, misPlace_ok, Option.bind_some, ite_b01, m1'.1, if_pos c, isLong_ok, Option.bind_some, ite_b01, if_pos d, show (0 : Int64) = (0 : Int32).toInt64 from rfl, show (2 : Int64) = (2 : Int32).toInt64 from rfl, in_ok, Option.bind_some, ite_b01, if_pos f, e2, Option.bind_some]
          rw [e1, Option.bind_some]
          generalize hS : foF R 1 (l + 3) p 0 K = S at *
          rcases (show w = 0 ∨ w = 1 ∨ w = 2 by omega) with rfl | rfl | rfl
          · refine ⟨if 3 ≤ S.1 ∧ S.1 < 8 then nI S.1 - nI 3 else -1, M1, M2, ?_, ?_, hI2⟩
            · rw [if_pos (show nI 0 = (0 : Int32) from rfl), isLost_ok a0 hz, Option.bind_some, a0]
              by_cases hl3 : 3 ≤ S.1 ∧ S.1 < 8
              · rw [if_pos hl3, if_pos rfl, if_pos hl3]
              · rw [if_neg hl3, if_neg (by decide), if_neg hl3]
            · rw [hpre, if_pos (show nI 0 = (0 : Int32) from rfl), b0, mlane_ok, Option.bind_some, ite_b01]
              by_cases hl3 : 3 ≤ S.1 ∧ S.1 < 8
              · rw [if_pos ((lane_z hz).mpr hl3), if_pos hl3]
              · rw [if_neg (fun q => hl3 ((lane_z hz).mp q)), if_neg hl3]
          · refine ⟨nI S.2.1, M1, M2, ?_, ?_, hI2⟩
            · rw [if_neg (show ¬ nI 1 = (0 : Int32) by decide), if_pos (show nI 1 = (1 : Int32) from rfl), a1]
            · rw [hpre, if_neg (show ¬ nI 1 = (0 : Int32) by decide), if_pos (show nI 1 = (1 : Int32) from rfl), b1]
          · refine ⟨nI S.2.2, M1, M2, ?_, ?_, hI2⟩
            · rw [if_neg (show ¬ nI 2 = (0 : Int32) by decide), if_neg (show ¬ nI 2 = (1 : Int32) by decide), a2]
            · rw [hpre, if_neg (show ¬ nI 2 = (0 : Int32) by decide), if_neg (show ¬ nI 2 = (1 : Int32) by decide), b2]
        · rw [if_neg f, rj]
          refine ⟨_, _, _, rfl, ?_, hI.refused hy (w := 0) (by omega)⟩
          rw [mlane_ok, Option.bind_some, ite_b01, if_pos b, misPlace_ok, Option.bind_some, ite_b01, up2_o _ _ _ (by omega), em, if_pos c, isLong_ok, Option.bind_some, ite_b01, if_pos d, show (0 : Int64) = (0 : Int32).toInt64 from rfl, show (2 : Int64) = (2 : Int32).toInt64 from rfl, in_ok, Option.bind_some, ite_b01, if_neg f, bj]
      · rw [if_neg d, rj]
        refine ⟨_, _, _, rfl, ?_, hI.refused hy (w := 0) (by omega)⟩
        rw [mlane_ok, Option.bind_some, ite_b01, if_pos b, misPlace_ok, Option.bind_some, ite_b01, up2_o _ _ _ (by omega), em, if_pos c, isLong_ok, Option.bind_some, ite_b01, if_neg d, bj]
    · rw [if_neg c, rj]
      refine ⟨_, _, _, rfl, ?_, hI.refused hy (w := 0) (by omega)⟩
      rw [mlane_ok, Option.bind_some, ite_b01, if_pos b, misPlace_ok, Option.bind_some, ite_b01, up2_o _ _ _ (by omega), em, if_neg c, bj]
  · rw [if_neg b, rj]
    refine ⟨_, _, _, rfl, ?_, hI.refused hy (w := 0) (by omega)⟩
    rw [mlane_ok, Option.bind_some, ite_b01, if_neg b, bj]
end STC
