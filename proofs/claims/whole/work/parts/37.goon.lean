theorem sea_sea {P t s p : Nat} (ht : t < P) (hs : s < P) (hp : p < P) : sea P t (sea P s p) = sea P ((t + s) % P) p := by
  have e : (t + s) % P = if t + s < P then t + s else t + s - P := by
    split
    · exact Nat.mod_eq_of_lt (by omega)
    · rw [show t + s = (t + s - P) + P by omega, Nat.add_mod_right, Nat.mod_eq_of_lt (by omega)]
      omega
  rw [e]
  unfold sea
  by_cases h1 : s ≤ p
  · rw [if_pos h1]
    by_cases h2 : t + s < P
    · rw [if_pos h2]
      split <;> split <;> omega
    · rw [if_neg h2]
      split <;> split <;> omega
  · rw [if_neg h1]
    by_cases h2 : t + s < P
    · rw [if_pos h2]
      split <;> split <;> omega
    · rw [if_neg h2]
      split <;> split <;> omega
/-- only the lumps' rows of a lane turn -/
theorem CRing.turn {M : Mm} {a i : Nat} {tu : Nat → Nat} {R : Rg} (h : CRing M a tu R) (hi : i < 5) (hP : 0 < R 0 0) : CRing (up2 M (a + 4) i (nI ((tu i + R 1 i) % R 0 0))) a (fun l => if l = i then (tu i + R 1 i) % R 0 0 else tu l) (rotO R i) := by
  obtain ⟨a1, a2, a3, a4, a5, ⟨a6, a8⟩, a7⟩ := h
  have e0 : ∀ b j, b < 10 → rotO R i b j = R b j := fun b j hb => rotO_lo R i j hb
  refine ⟨?_, ?_, ?_, ?_, fun l' hl' => ⟨?_, ?_⟩, ⟨fun l' hl' => ?_, fun l' p' hl' hp' => ?_⟩, fun j hj => ?_⟩
  · rw [up2_o _ _ _ (by omega), e0 _ _ (by omega)]; exact a1
  · rw [up2_o _ _ _ (by omega), e0 _ _ (by omega)]; exact a2
  · rw [up2_o _ _ _ (by omega), e0 _ _ (by omega)]; exact a3
  · rw [up2_o _ _ _ (by omega), e0 _ _ (by omega)]; exact a4
  · rw [up2_o _ _ _ (by omega), e0 _ _ (by omega)]; exact (a5 l' hl').1
  · rw [up2_o _ _ _ (by omega), e0 _ _ (by omega)]; exact (a5 l' hl').2
  · rw [up2_at, e0 _ _ (by omega)]
    by_cases e : l' = i
    · subst e
      rw [if_pos ⟨rfl, rfl⟩]
      simp only [if_true]
      exact ⟨trivial, Nat.mod_lt _ hP⟩
    · rw [if_neg (by omega)]
      simp only [if_neg e]
      exact a6 l' hl'
  · rw [e0 _ _ (by omega)] at hp' ⊢
    rw [up2_o _ _ _ (by omega)]
    by_cases e : l' = i
    · subst e
      rw [show rotO R l' (10 + l') p' = R (10 + l') (sea (R 0 0) (R 1 l' % R 0 0) p') from if_pos rfl]
      simp only [if_true]
      have ht := (a6 l' hl').2
      have hs : R 1 l' % R 0 0 < R 0 0 := Nat.mod_lt _ hP
      rw [← a8 l' _ hl' (sea_lt hp' hs), sea_sea ht hs hp', Nat.add_mod_mod]
    · rw [show rotO R i (10 + l') p' = R (10 + l') p' from if_neg (by omega)]
      simp only [if_neg e]
      exact a8 l' p' hl' hp'
  · rw [up2_o _ _ _ (by omega), up2_o _ _ _ (by omega), up2_o _ _ _ (by omega), up2_o _ _ _ (by omega), e0 _ _ (by omega), e0 _ _ (by omega), e0 _ _ (by omega), e0 _ _ (by omega)]
    rw [e0 _ _ (by omega)] at hj
    exact a7 j hj
theorem CRing.moveMoon {M : Mm} {a m v : Nat} {tu : Nat → Nat} {R : Rg} (h : CRing M a tu R) : CRing (up2 M (a + 7) m (nI v)) a tu (updR R 5 m v) := by
  obtain ⟨a1, a2, a3, a4, a5, a6, a7⟩ := h
  have e0 : ∀ b j, b ≠ 5 → updR R 5 m v b j = R b j := fun b j hb => by rw [updR_at, if_neg (by omega)]
  refine ⟨?_, ?_, ?_, ?_, fun l' hl' => ⟨?_, ?_⟩, ?_, fun j hj => ⟨?_, ?_, ?_, ?_⟩⟩
  · rw [up2_o _ _ _ (by omega), e0 _ _ (by omega)]; exact a1
  · rw [up2_o _ _ _ (by omega), e0 _ _ (by omega)]; exact a2
  · rw [up2_o _ _ _ (by omega), e0 _ _ (by omega)]; exact a3
  · rw [up2_o _ _ _ (by omega), e0 _ _ (by omega)]; exact a4
  · rw [up2_o _ _ _ (by omega), e0 _ _ (by omega)]; exact (a5 l' hl').1
  · rw [up2_o _ _ _ (by omega), e0 _ _ (by omega)]; exact (a5 l' hl').2
  · refine CLum.mono (M := M) ⟨a6.1, fun l' p hl' hp => ?_⟩ (up2_o _ _ _ (by omega)) (up2_o _ _ _ (by omega))
    rw [e0 (10 + l') p (by omega)]
    exact a6.2 l' p hl' hp
  all_goals rw [e0 _ _ (by omega)] at hj
  · rw [up2_o _ _ _ (by omega), e0 _ _ (by omega)]; exact (a7 j hj).1
  · rw [up2_o _ _ _ (by omega), e0 _ _ (by omega)]; exact (a7 j hj).2.1
  · rw [up2_at, updR_at]
    by_cases e : j = m
    · rw [if_pos ⟨rfl, e⟩, if_pos ⟨rfl, e⟩]
    · rw [if_neg (by omega), if_neg (by omega)]; exact (a7 j hj).2.2.1
  · rw [up2_o _ _ _ (by omega), e0 _ _ (by omega)]; exact (a7 j hj).2.2.2
theorem CRing.setR {M : Mm} {a v : Nat} {tu : Nat → Nat} {R : Rg} (h : CRing M a tu R) (w : Nat) (hw : w = 2 ∨ w = 3) : CRing (up2 M a (9 + w) (nI v)) a tu (updR R 0 w v) := by
  obtain ⟨a1, a2, a3, a4, a5, a6, a7⟩ := h
  have e0 : ∀ b j, (b ≠ 0 ∨ j < 2) → updR R 0 w v b j = R b j := fun b j hb => by rw [updR_at, if_neg (by omega)]
  refine ⟨?_, ?_, ?_, ?_, fun l' hl' => ⟨?_, ?_⟩, ?_, fun j hj => ⟨?_, ?_, ?_, ?_⟩⟩
  · rw [up2_at, if_neg (by omega), e0 _ _ (by omega)]; exact a1
  · rw [up2_at, if_neg (by omega), e0 _ _ (by omega)]; exact a2
  · rcases hw with rfl | rfl
    · rw [up2_at, if_pos ⟨rfl, rfl⟩, updR_at, if_pos ⟨rfl, rfl⟩]
    · rw [up2_at, if_neg (by omega), updR_at, if_neg (by omega)]; exact a3
  · rcases hw with rfl | rfl
    · rw [up2_at, if_neg (by omega), updR_at, if_neg (by omega)]; exact a4
    · rw [up2_at, if_pos ⟨rfl, rfl⟩, updR_at, if_pos ⟨rfl, rfl⟩]
  · rw [up2_o _ _ _ (by omega), e0 _ _ (by omega)]; exact (a5 l' hl').1
  · rw [up2_o _ _ _ (by omega), e0 _ _ (by omega)]; exact (a5 l' hl').2
  · refine CLum.mono (M := M) ⟨fun l' hl' => ?_, fun l' p hl' hp => ?_⟩ (up2_o _ _ _ (by omega)) (up2_o _ _ _ (by omega))
    · rw [e0 0 0 (by omega)]; exact a6.1 l' hl'
    · rw [e0 0 0 (by omega)] at hp ⊢
      rw [e0 _ _ (by omega)]
      exact a6.2 l' p hl' hp
  all_goals rw [e0 _ _ (by omega)] at hj
  · rw [up2_o _ _ _ (by omega), e0 _ _ (by omega)]; exact (a7 j hj).1
  · rw [up2_o _ _ _ (by omega), e0 _ _ (by omega)]; exact (a7 j hj).2.1
  · rw [up2_o _ _ _ (by omega), e0 _ _ (by omega)]; exact (a7 j hj).2.2.1
  · rw [up2_o _ _ _ (by omega), e0 _ _ (by omega)]; exact (a7 j hj).2.2.2
/-- rows of a ring that a round leaves: its own number, its steps, counts, kinds, edges and moons' steps -/
def keepG (a : Nat) (M M' : Mm) : Prop := ∀ q, q ≠ a → q ≠ a + 3 → q ≠ a + 4 → q ≠ a + 7 → M' q = M q
theorem go12 {a : Nat} : ∀ (k i n : Nat) (M : Mm) (tu : Nat → Nat) (R : Rg), i + k = 5 → k < n → CRing M a tu R → FOk R → ∃ M' tu', f_X5_goOn_L12 a n (nI i) M = f_X5_goOn_L48 a 2000 0 M' ∧ CRing M' a tu' (rotF R i k) ∧ ∀ q, q ≠ a + 4 → M' q = M q := by
  intro k
  induction k with
  | zero =>
    intro i n M tu R hi hn h hF
    obtain ⟨n, rfl⟩ : ∃ m, n = m + 1 := ⟨n - 1, by omega⟩
    refine ⟨M, tu, ?_, h, fun _ _ => rfl⟩
    rw [f_X5_goOn_L12, nlit 5, ifle (by omega) (by omega), if_pos (by omega)]
  | succ k ih =>
    intro i n M tu R hi hn h hF
    obtain ⟨n, rfl⟩ : ∃ m, n = m + 1 := ⟨n - 1, by omega⟩
    have hP := hF.1
    have h1 := h.turn (i := i) (by omega) (by omega)
    obtain ⟨h4, ht⟩ := h.2.2.2.2.2.1.1 i (by omega)
    have h9 := hF.2.2.1 i (by omega)
    have hF' : FOk (rotO R i) := hF.sf (fun b j hb _ _ => rotO_lo R i j hb) (fun j hj => by rw [rotO_lo R i j (by omega)]; exact hF.2.2.2.2.1 j hj) (by rw [rotO_lo R i 2 (by omega)]; exact hF.2.2.2.2.2)
    obtain ⟨M', tu', e, c, q⟩ := ih (i + 1) n _ _ _ (by omega) (by omega) h1 hF'
    refine ⟨M', tu', ?_, c, fun w hw => by rw [q w hw, up2_o _ _ _ hw]⟩
    rw [f_X5_goOn_L12, nlit 5, ifle (by omega) (by omega), if_neg (by omega), ck_nI (by omega) (by omega), ck_nI (by omega) (by omega), cl_nI (by omega), h4, (h.2.2.2.2.1 i (by omega)).1, nI_add, around_ok h.1 (by omega) hP.2 (by omega), Option.bind_some, ck_nI (by omega) (by omega), bnd_e, bnd_e, nI_1]
    exact e
theorem go48 {a : Nat} : ∀ (k m n : Nat) (M : Mm) (tu : Nat → Nat) (R : Rg), m + k = R 0 1 → k < n → CRing M a tu R → FOk R → ∃ M', f_X5_goOn_L48 a n (nI m) M = f_X5_goOn_L77 a 2000 0 0 M' ∧ CRing M' a tu (movF R m k) ∧ ∀ q, q ≠ a + 7 → M' q = M q := by
  intro k
  induction k with
  | zero =>
    intro m n M tu R hi hn h hF
    obtain ⟨n, rfl⟩ : ∃ m, n = m + 1 := ⟨n - 1, by omega⟩
    refine ⟨M, ?_, h, fun _ _ => rfl⟩
    have := hF.2.1
    rw [f_X5_goOn_L48, h.2.1, ifle (by omega) (by omega), if_pos (by omega)]
  | succ k ih =>
    intro m n M tu R hi hn h hF
    obtain ⟨n, rfl⟩ : ∃ m, n = m + 1 := ⟨n - 1, by omega⟩
    have hP := hF.1
    have h4 := hF.2.1
    have k6 := (hF.2.2.2.1 m (by omega)).2.2
    have k5 := hF.2.2.2.2.1 m (by omega)
    have e0 : ∀ b j, b ≠ 5 → movO R m b j = R b j := fun b j hb => by rw [movO, updR_at, if_neg (by omega)]
    have h1 : CRing (up2 M (a + 7) m (nI ((R 5 m + R 6 m) % R 0 0))) a tu (movO R m) := h.moveMoon
    have hF' : FOk (movO R m) := hF.sf (fun b j hb h5 _ => e0 b j h5) (fun j hj => by
      rw [movO, updR_at]
      split
      · exact Nat.mod_lt _ (by omega)
      · exact hF.2.2.2.2.1 j hj) (by rw [e0 _ _ (by omega)]; exact hF.2.2.2.2.2)
    obtain ⟨M', e, c, q⟩ := ih (m + 1) n _ _ _ (by rw [e0 _ _ (by omega)]; omega) (by omega) h1 hF'
    refine ⟨M', ?_, c, fun w hw => by rw [q w hw, up2_o _ _ _ hw]⟩
    obtain ⟨b5, b6, b7, b8⟩ := h.2.2.2.2.2.2 m (by omega)
    have e1 : f_X5_moveMoon a (nI m) (nI (R 6 m)) M = some (up2 M (a + 7) m (nI ((R 5 m + R 6 m) % R 0 0))) := by
      unfold f_X5_moveMoon
      rw [ck_nI (by omega) (by omega), cl_nI (by omega), b7, nI_add, around_ok h.1 (by omega) hP.2 (by omega), Option.bind_some, ck_nI (by omega) (by omega), bnd_e]
    rw [f_X5_goOn_L48, h.2.1, ifle (by omega) (by omega), if_neg (by omega), ck_nI (by omega) (by omega), cl_nI (by omega), b8, e1, Option.bind_some, bnd_e, nI_1]
    exact e
theorem go77 {a : Nat} : ∀ (k m n v : Nat) (M : Mm) (tu : Nat → Nat) (R : Rg), m + k = R 0 1 → k < n → CRing M a tu R → FOk R → ∃ w M', f_X5_goOn_L77 a n (nI v) (nI m) M = some (nI (v + w), up2 M' a 12 (nI (R 0 3 + (v + w)))) ∧ CRing M' a tu (pasF R (fun _ => true) m k) ∧ w + tot (R 0 0) (pasF R (fun _ => true) m k) = tot (R 0 0) R ∧ ∀ q, q ≠ a + 3 → M' q = M q := by
  intro k
  induction k with
  | zero =>
    intro m n v M tu R hi hn h hF
    obtain ⟨n, rfl⟩ : ∃ m, n = m + 1 := ⟨n - 1, by omega⟩
    refine ⟨0, M, ?_, h, by rw [pasF]; omega, fun _ _ => rfl⟩
    have := hF.2.1
    rw [f_X5_goOn_L77, h.2.1, ifle (by omega) (by omega), if_pos (by omega), bnd_e, h.2.2.2.1, nI_add]
    rfl
  | succ k ih =>
    intro m n v M tu R hi hn h hF
    obtain ⟨n, rfl⟩ : ∃ m, n = m + 1 := ⟨n - 1, by omega⟩
    have h4 := hF.2.1
    obtain ⟨w1, M1, e1, c1, t1, q1⟩ := pas_ok h hF (show m < R 0 1 by omega)
    have e0 : ∀ j, pasR R m 0 j = R 0 j := fun j => pasR_lo R m j (by omega)
    obtain ⟨w2, M2, e2, c2, t2, q2⟩ := ih (m + 1) n (v + w1) M1 tu (pasR R m) (by rw [e0]; omega) (by omega) c1 (hF.pas m)
    rw [e0] at e2 t2
    refine ⟨w1 + w2, M2, ?_, ?_, ?_, fun q hq => by rw [q2 q hq, q1 q hq]⟩
    · rw [f_X5_goOn_L77, h.2.1, ifle (by omega) (by omega), if_neg (by omega), e1, bd2_some, bnd_e, bnd_e, nI_add, nI_1, e2, Nat.add_assoc]
    · rw [pasF, if_pos rfl]; exact c2
    · rw [pasF, if_pos rfl]
      omega
/-- a round of the class's ring -/
theorem cgo_ok {M : Mm} {a : Nat} {tu : Nat → Nat} {R : Rg} (h : CRing M a tu R) (hF : FOk R) (hr : R 0 2 + 1 < 100000) : ∃ w M' tu', f_X5_goOn a M = some (nI w, M') ∧ CRing M' a tu' (updR (rndR R (fun _ => true)) 0 3 (R 0 3 + w)) ∧ w + tot (R 0 0) (rndR R (fun _ => true)) = tot (R 0 0) (prR R) ∧ keepG a M M' := by
  have hP := hF.1
  have e1 : up2 M a 11 (M a 11 + 1) = up2 M a (9 + 2) (nI (R 0 2 + 1)) := by rw [h.2.2.1, nI_1]
  have c1 := h.setR (v := R 0 2 + 1) 2 (Or.inl rfl)
  rw [← e1] at c1
  have s1 : SF R (updR R 0 2 (R 0 2 + 1)) := fun b j _ _ h3 => by rw [updR_at, if_neg (by omega)]
  have F1 : FOk (updR R 0 2 (R 0 2 + 1)) := hF.sf s1 (fun j hj => by rw [updR_at, if_neg (by omega)]; exact hF.2.2.2.2.1 j hj) (by rw [updR_at, if_pos ⟨rfl, rfl⟩]; exact hr)
  obtain ⟨M2, tu2, e2, c2, q2⟩ := go12 5 0 2000 _ tu _ (by omega) (by omega) c1 F1
  have s2 : ∀ b j, b < 10 → rotF (updR R 0 2 (R 0 2 + 1)) 0 5 b j = updR R 0 2 (R 0 2 + 1) b j := fun b j hb => rotF_lo _ _ _ _ hb
  have F2 : FOk (rotF (updR R 0 2 (R 0 2 + 1)) 0 5) := F1.sf (fun b j hb _ _ => s2 b j hb) (fun j hj => by rw [s2 _ _ (by omega)]; exact F1.2.2.2.2.1 j hj) (by rw [s2 _ _ (by omega)]; exact F1.2.2.2.2.2)
  have e01 : rotF (updR R 0 2 (R 0 2 + 1)) 0 5 0 1 = R 0 1 := by rw [s2 _ _ (by omega), updR_at, if_neg (by omega)]
  obtain ⟨M3, e3, c3, q3⟩ := go48 (R 0 1) 0 2000 M2 tu2 _ (by rw [e01]; omega) (by have := hF.2.1; omega) c2 F2
  obtain ⟨w, M4, e4, c4, t4, q4⟩ := go77 (R 0 1) 0 2000 0 M3 tu2 (prR R) (by rw [prR_sf R 0 1 (by omega) (by omega) (by omega)]; omega) (by have := hF.2.1; omega) c3 (hF.pr hr)
  rw [prR_sf R 0 0 (by omega) (by omega) (by omega)] at t4
  have e03 : prR R 0 3 = R 0 3 := prR_sf R 0 3 (by omega) (by omega) (by omega)
  refine ⟨w, up2 M4 a 12 (nI (R 0 3 + w)), tu2, ?_, c4.setR 3 (Or.inr rfl), t4, fun q k1 k2 k3 k4 => ?_⟩
  · unfold f_X5_goOn
    rw [bnd_e, n0]
    refine e2.trans (e3.trans ?_)
    rw [e03, Nat.zero_add] at e4
    exact e4
  · rw [up2_o _ _ _ k1, q4 q k2, q3 q k4, q2 q k3, up2_o _ _ _ k1]
