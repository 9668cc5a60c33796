theorem smF_cong {f g : Nat → Nat} : ∀ {n : Nat}, (∀ j, j < n → f j = g j) → smF f n = smF g n
  | 0, _ => rfl
  | n + 1, h => by rw [smF, smF, smF_cong (fun j hj => h j (by omega)), h n (by omega)]
theorem smF_split (f : Nat → Nat) (a : Nat) : ∀ b, smF f (a + b) = smF f a + smF (fun k => f (a + k)) b
  | 0 => rfl
  | b + 1 => by rw [← Nat.add_assoc, smF, smF, smF_split f a b, Nat.add_assoc]
theorem smF_upd (f : Nat → Nat) (i v : Nat) : ∀ {n : Nat}, i < n → smF (fun j => if j = i then v else f j) n + f i = smF f n + v
  | 0, h => absurd h (Nat.not_lt_zero i)
  | n + 1, h => by
    rw [smF, smF]
    rcases Nat.lt_or_ge i n with q | q
    · have h1 := smF_upd f i v q
      rw [if_neg (by omega)]
      omega
    · have e : i = n := by omega
      subst e
      rw [if_pos rfl, smF_cong (g := f) (fun j hj => by rw [if_neg (by omega)])]
      omega
theorem smF_le {f : Nat → Nat} {i : Nat} : ∀ {n : Nat}, i < n → f i ≤ smF f n
  | 0, h => absurd h (Nat.not_lt_zero i)
  | n + 1, h => by
    rw [smF]
    rcases Nat.lt_or_ge i n with q | q
    · have := smF_le (f := f) q
      omega
    · have e : i = n := by omega
      subst e
      omega
theorem smF_rot {f g : Nat → Nat} {P t : Nat} (ht : t < P) (h : ∀ p, p < P → g (sea P t p) = f p) : smF g P = smF f P := by
  obtain ⟨d, rfl⟩ : ∃ d, P = t + d := ⟨P - t, by omega⟩
  rw [smF_split f t d, show t + d = d + t by omega, smF_split g d t]
  have h1 : smF g d = smF (fun k => f (t + k)) d := smF_cong (fun j hj => by
    have := h (t + j) (by omega)
    simp only [sea] at this
    rw [if_pos (by omega), show t + j - t = j by omega] at this
    exact this)
  have h2 : smF (fun k => g (d + k)) t = smF f t := smF_cong (fun j hj => by
    have := h j (by omega)
    simp only [sea] at this
    rw [if_neg (by omega), show j + (t + d) - t = d + j by omega] at this
    exact this)
  omega
theorem sea_lt {P t p : Nat} (hp : p < P) (ht : t < P) : sea P t p < P := by
  unfold sea
  split <;> omega
theorem sea_inj {P t p q : Nat} (hp : p < P) (hq : q < P) (ht : t < P) (h : sea P t p = sea P t q) : p = q := by
  unfold sea at h
  split at h <;> split at h <;> omega
theorem seat_ok {M : Mm} {a l p P t : Nat} (h4 : M (a + 4) l = nI t) (h9 : M a 9 = nI P) (hl : l < 5) (hp : p < P) (ht : t < P) (hP : P ≤ 24) : f_X5_seat a (nI l) (nI p) M = some (nI (24 * l + sea P t p)) := by
  unfold f_X5_seat
  rw [ck_nI hl (by omega), bnd_e, cl_nI (by omega), h4, h9]
  unfold sea
  by_cases h : t ≤ p
  · rw [pk_sub h, if_pos (nI_pos' (by omega)), if_pos h, nlit 24, pk_mul, nI_add]
    congr 2
    omega
  · have hneg : nI p - nI t < 0 := pk_sneg (by omega) (by omega)
    rw [if_neg (Int32.not_le.mpr hneg), if_neg h, nlit 24, pk_mul]
    have e : nI p - nI t + nI P = nI (p + P - t) := by
      rw [← pk_sub (show t ≤ p + P by omega), ← nI_add, Int32.sub_eq_add_neg, Int32.sub_eq_add_neg, Int32.add_assoc, Int32.add_comm (-nI t), ← Int32.add_assoc]
    rw [e, nI_add]
    congr 2
    omega
theorem lumpsAt_ok {M : Mm} {a l p : Nat} {tu : Nat → Nat} {R : Rg} (h : CRing M a tu R) (hl : l < 5) (hp : p < R 0 0) (hP : R 0 0 ≤ 24) : f_X5_lumpsAt a (nI l) (nI p) M = some (nI (R (10 + l) p)) := by
  obtain ⟨h4, ht⟩ := h.2.2.2.2.2.1.1 l hl
  have hs := sea_lt hp ht
  unfold f_X5_lumpsAt
  rw [seat_ok h4 h.1 hl hp ht hP, Option.bind_some, ck_nI (by omega) (by omega), cl_nI (by omega), h.2.2.2.2.2.1.2 l p hl hp]
theorem setLumps_ok {M : Mm} {a l p : Nat} {tu : Nat → Nat} {R : Rg} (h : CRing M a tu R) (hl : l < 5) (hp : p < R 0 0) (hP : R 0 0 ≤ 24) (v : Int32) : f_X5_setLumps a (nI l) (nI p) v M = some (up2 M (a + 3) (24 * l + sea (R 0 0) (tu l) p) v) := by
  obtain ⟨h4, ht⟩ := h.2.2.2.2.2.1.1 l hl
  have hs := sea_lt hp ht
  unfold f_X5_setLumps
  rw [seat_ok h4 h.1 hl hp ht hP, Option.bind_some, ck_nI (by omega) (by omega), bnd_e, cl_nI (by omega)]
theorem CRing.setLumps {M : Mm} {a l p : Nat} {tu : Nat → Nat} {R : Rg} (h : CRing M a tu R) (hl : l < 5) (hp : p < R 0 0) (hP : R 0 0 ≤ 24) (v : Nat) : CRing (up2 M (a + 3) (24 * l + sea (R 0 0) (tu l) p) (nI v)) a tu (updR R (10 + l) p v) := by
  obtain ⟨a1, a2, a3, a4, a5, a6, a7⟩ := h
  have e0 : ∀ b j, b < 10 → updR R (10 + l) p v b j = R b j := fun b j hb => by rw [updR_at, if_neg (by omega)]
  refine ⟨?_, ?_, ?_, ?_, fun l' hl' => ⟨?_, ?_⟩, ⟨fun l' hl' => ?_, fun l' p' hl' hp' => ?_⟩, fun j hj => ?_⟩
  · rw [up2_o _ _ _ (by omega), e0 _ _ (by omega)]; exact a1
  · rw [up2_o _ _ _ (by omega), e0 _ _ (by omega)]; exact a2
  · rw [up2_o _ _ _ (by omega), e0 _ _ (by omega)]; exact a3
  · rw [up2_o _ _ _ (by omega), e0 _ _ (by omega)]; exact a4
  · rw [up2_o _ _ _ (by omega), e0 _ _ (by omega)]; exact (a5 l' hl').1
  · rw [up2_o _ _ _ (by omega), e0 _ _ (by omega)]; exact (a5 l' hl').2
  · rw [up2_o _ _ _ (by omega), e0 _ _ (by omega)]; exact a6.1 l' hl'
  · rw [e0 _ _ (by omega)] at hp' ⊢
    have ht := (a6.1 l hl).2
    have ht' := (a6.1 l' hl').2
    have s1 := sea_lt hp ht
    have s2 := sea_lt hp' ht'
    rw [up2_at, updR_at]
    by_cases e : l' = l ∧ p' = p
    · obtain ⟨rfl, rfl⟩ := e
      rw [if_pos ⟨rfl, rfl⟩, if_pos ⟨rfl, rfl⟩]
    · rw [if_neg, if_neg (by omega)]
      · exact a6.2 l' p' hl' hp'
      · rintro ⟨-, q⟩
        have hll : l' = l := by omega
        subst hll
        exact e ⟨rfl, sea_inj hp' hp ht (by omega)⟩
  · rw [up2_o _ _ _ (by omega), up2_o _ _ _ (by omega), up2_o _ _ _ (by omega), up2_o _ _ _ (by omega), e0 _ _ (by omega), e0 _ _ (by omega), e0 _ _ (by omega), e0 _ _ (by omega)]
    rw [e0 _ _ (by omega)] at hj
    exact a7 j hj
theorem tot_upd (P : Nat) (R : Rg) {l p : Nat} (v : Nat) (hl : l < 5) (hp : p < P) : tot P (updR R (10 + l) p v) + R (10 + l) p = tot P R + v := by
  unfold tot
  have h1 : ∀ l', l' < 5 → smF (updR R (10 + l) p v (10 + l')) P = if l' = l then smF (updR R (10 + l) p v (10 + l)) P else smF (R (10 + l')) P := fun l' hl' => by
    by_cases e : l' = l
    · subst e; rw [if_pos rfl]
    · rw [if_neg e]
      exact smF_cong (fun j hj => by rw [updR_at, if_neg (by omega)])
  rw [smF_cong (g := fun l' => if l' = l then smF (updR R (10 + l) p v (10 + l)) P else smF (R (10 + l')) P) h1]
  have h2 := smF_upd (fun l' => smF (R (10 + l')) P) l (smF (updR R (10 + l) p v (10 + l)) P) hl
  have h3 := smF_upd (R (10 + l)) p v hp
  have h4 : smF (updR R (10 + l) p v (10 + l)) P = smF (fun j => if j = p then v else R (10 + l) j) P := smF_cong (fun j hj => by
    rw [updR_at]
    by_cases e : j = p
    · subst e; simp
    · rw [if_neg (by omega), if_neg e])
  have h5 := smF_le (f := fun l' => smF (R (10 + l')) P) hl
  have h6 : smF (fun l' => smF (R (10 + l')) P) 5 = smF (fun l' => smF (R (10 + l')) P) 5 := rfl
  rw [h4] at h2 ⊢
  omega
section STL
variable {x y k : Nat} {M : Mm} {N : Ml}
theorem s_lumps (hy : y = x + 234) (q0 q1 q2 : Int32) (hI : IInv x y k M N) : ∃ (v : Int32) (M1 M2 : Mm), f_X11_lumps x q0 q1 q2 M = some (v, M1) ∧ f_X12_lumps y q0 q1 q2 M1 = some (v, M2) ∧ IInv x y (k + 5) M2 N := by
  obtain ⟨R, tu, c1, m1, s⟩ := hI.ring
  have ec : M (x + 7 + 1) 9 = nI (R 0 0) := c1.1
  have em : M (y + 1) 0 = nI (R 0 0) := m1.1
  have hP := s.1.2
  unfold f_X11_lumps f_X12_lumps f_X11_lumps_J26 f_X12_lumps_J27
  rw [lane_ok, Option.bind_some, ite_b01]
  by_cases c : (0 : Int32) ≤ q0 ∧ q0 ≤ 4
  · rw [if_pos c, isPlace_ok, Option.bind_some, ite_b01, ec]
    by_cases d : (0 : Int32) ≤ q1 ∧ q1 ≤ nI (R 0 0) - 1
    · rw [if_pos d, within_ok, Option.bind_some, ite_b01]
      by_cases f : (0 : Int32) ≤ q2 ∧ q2 ≤ 999
      · obtain ⟨l, hl, rfl⟩ := in_nat (b := 4) (by omega) c
        obtain ⟨p, hp, rfl⟩ := (cplace_ok q1 _ hP _ rfl).mp d
        obtain ⟨n, hn, rfl⟩ := in_nat (b := 999) (by omega) f
        have hs := sea_lt hp (c1.2.2.2.2.2.1.1 l (by omega)).2
        rw [if_pos f, lumpsAt_ok c1 (by omega) hp hP, Option.bind_some, setLumps_ok c1 (by omega) hp hP, Option.bind_some]
        refine ⟨_, _, up2 (up2 M (x + 7 + 1 + 3) (24 * l + sea (R 0 0) (tu l) p) (nI n)) (y + 1) (6 + 24 * l + p) (nI n), rfl, ?_, ?_⟩
        · rw [mlane_ok, Option.bind_some, ite_b01, if_pos c, misPlace_ok, Option.bind_some, ite_b01, up2_o _ _ _ (by omega), em, if_pos d, show (0 : Int64) = (0 : Int32).toInt64 from rfl, show (999 : Int64) = (999 : Int32).toInt64 from rfl, in_ok, Option.bind_some, ite_b01, if_pos f, nlit 6, nlit 24, pk_mul, nI_add, nI_add, ck_nI (by omega) (by omega), bnd_e, ck_nI (by omega) (by omega), bnd_e, cl_nI (by omega)]
          have := m1.2.2.1 l p (by omega) (by omega)
          rw [Nat.zero_add, if_pos hp] at this
          rw [this]
        · refine hI.setRing hy (fun R2 u ps tu2 c2 m2 s2 => ⟨updR R2 (10 + l) p n, tu2, ?_, ?_, by rw [updR_at, if_neg (by omega)], by rw [updR_at, if_neg (by omega)]; omega, ?_⟩) (fun q h1 h2 => by rw [up2_o _ _ _ (by omega), up2_o _ _ _ (by omega)]) (fun j hj => by rw [up2_at, if_neg (by omega), up2_o _ _ _ (by omega)])
          all_goals
            have eP : R2 0 0 = R 0 0 := (nI_eq (by have := s2.1.1; omega) (by omega)).mp (c2.1.symm.trans c1.1)
            have hl5 : l < 5 := by omega
            have et : tu2 l = tu l := (nI_eq (by have := (c2.2.2.2.2.2.1.1 l hl5).2; omega) (by have := (c1.2.2.2.2.2.1.1 l hl5).2; omega)).mp ((c2.2.2.2.2.2.1.1 l hl5).1.symm.trans (c1.2.2.2.2.2.1.1 l hl5).1)
          · rw [← eP, ← et]
            exact (c2.setLumps hl5 (by omega) (by omega) n).mono (fun q a b => by rw [up2_o _ _ _ (by omega)])
          · obtain ⟨b1, b2, b3, b4, b5, b6, b7⟩ := m2
            have e0 : ∀ b j, b < 10 → updR R2 (10 + l) p n b j = R2 b j := fun b j hb => by rw [updR_at, if_neg (by omega)]
            refine ⟨?_, fun l' hl' => ⟨?_, ?_⟩, fun l' p' hl' hp' => ?_, ?_, fun j w hj hw => ?_, ?_, ?_⟩
            · rw [up2_at, if_neg (by omega), up2_o _ _ _ (by omega), e0 _ _ (by omega)]; exact b1
            · rw [up2_at, if_neg (by omega), up2_o _ _ _ (by omega), e0 _ _ (by omega)]; exact (b2 l' hl').1
            · rw [up2_at, if_neg (by omega), up2_o _ _ _ (by omega), e0 _ _ (by omega)]; exact (b2 l' hl').2
            · rw [up2_at, e0 _ _ (by omega)]
              by_cases e : l' = l ∧ p' = p
              · obtain ⟨rfl, rfl⟩ := e
                rw [if_pos (by omega), if_pos (by omega), updR_at, if_pos (by omega)]
              · have e1 : updR R2 (10 + l) p n (10 + l') p' = R2 (10 + l') p' := by rw [updR_at, if_neg (by omega)]
                rw [if_neg (by omega), up2_o _ _ _ (by omega), b3 l' p' hl' hp', e1]
            · rw [up2_at, if_neg (by omega), up2_o _ _ _ (by omega), e0 _ _ (by omega)]; exact b4
            · rw [e0 _ _ (by omega)] at hj
              rw [up2_at, if_neg (by omega), up2_o _ _ _ (by omega), e0 _ _ (by omega)]
              exact b5 j w hj hw
            · rw [up2_at, if_neg (by omega), up2_o _ _ _ (by omega), e0 _ _ (by omega)]; exact b6
            · rw [up2_at, if_neg (by omega), up2_o _ _ _ (by omega), e0 _ _ (by omega)]; exact b7
          · have e0 : ∀ b j, b < 10 → updR R2 (10 + l) p n b j = R2 b j := fun b j hb => by rw [updR_at, if_neg (by omega)]
            obtain ⟨d1, d2, d3, d4, d5, d6, d7⟩ := s2.1
            have ht := tot_upd (R2 0 0) R2 n hl5 (show p < R2 0 0 by omega)
            unfold ROk
            simp only [e0 0 _ (by omega), e0 1 _ (by omega), e0 2 _ (by omega), e0 3 _ (by omega), e0 4 _ (by omega), e0 5 _ (by omega), e0 6 _ (by omega)]
            exact ⟨d1, d2, by omega, by omega, d5, d6, by omega⟩
      · rw [if_neg f, rj]
        refine ⟨_, _, _, rfl, ?_, hI.refused hy (w := 0) (by omega)⟩
        rw [mlane_ok, Option.bind_some, ite_b01, if_pos c, misPlace_ok, Option.bind_some, ite_b01, up2_o _ _ _ (by omega), em, if_pos d, show (0 : Int64) = (0 : Int32).toInt64 from rfl, show (999 : Int64) = (999 : Int32).toInt64 from rfl, in_ok, Option.bind_some, ite_b01, if_neg f, bj]
    · rw [if_neg d, rj]
      refine ⟨_, _, _, rfl, ?_, hI.refused hy (w := 0) (by omega)⟩
      rw [mlane_ok, Option.bind_some, ite_b01, if_pos c, misPlace_ok, Option.bind_some, ite_b01, up2_o _ _ _ (by omega), em, if_neg d, bj]
  · rw [if_neg c, rj]
    refine ⟨_, _, _, rfl, ?_, hI.refused hy (w := 0) (by omega)⟩
    rw [mlane_ok, Option.bind_some, ite_b01, if_neg c, bj]
end STL
