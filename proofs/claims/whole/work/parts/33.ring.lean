def updR (R : Rg) (a l v : Nat) : Rg := fun b j => if b = a ∧ j = l then v else R b j
theorem updR_at (R : Rg) (a l v b j : Nat) : updR R a l v b j = if b = a ∧ j = l then v else R b j := rfl
/-- the ring alone has changed, and keeps its places -/
theorem IInv.setRing {x y k : Nat} {M M' : Mm} {N : Ml} (hy : y = x + 234) (hI : IInv x y k M N) (K : ∀ (R : Rg) (u : Nat) (ps : Nat → Rg) (tu : Nat → Nat), CRing M (x + 7 + 1) tu R → MRing M (y + 1) 0 R → SOk k R u ps → ∃ (R' : Rg) (tu' : Nat → Nat), CRing M' (x + 7 + 1) tu' R' ∧ MRing M' (y + 1) 0 R' ∧ R' 0 0 = R 0 0 ∧ R 0 1 ≤ R' 0 1 ∧ ROk (k + 5) R') (hr : ∀ q, (q < x + 8 ∨ x + 17 ≤ q) → q ≠ y + 1 → M' q = M q) (hm : ∀ j, 150 ≤ j → M' (y + 1) j = M (y + 1) j) : IInv x y (k + 5) M' N := by
  subst hy
  obtain ⟨⟨R, u, ps, ⟨⟨tu, c1⟩, c2, c7, nw, c3, c4, c5⟩, ⟨m1, m2, m3⟩, s⟩, h2, h3, h4, h5⟩ := hI
  obtain ⟨R', tu', c1', m1', hP, hk, hR⟩ := K R u ps tu c1 m1 s
  obtain ⟨s1, s2, s3⟩ := s
  refine ⟨⟨R', u, ps, ⟨⟨tu', c1'⟩, ?_, fun i hi => by rw [hr _ (by omega) (by omega)]; exact c7 i hi, nw, c3, ?_, fun i hi => ?_⟩, ⟨m1', ?_, fun i hi => ?_⟩, ⟨hR, s2, fun i hi => ?_⟩⟩, ?_, ?_, fun j hj => ?_, h5⟩
  · rw [hr _ (by omega) (by omega)]; exact c2
  · rw [hr _ (by omega) (by omega)]; exact c4
  · obtain ⟨tu2, c6⟩ := c5 i hi
    have : (nw + 7 + i - u) % 6 < 6 := Nat.mod_lt _ (by omega)
    rw [hP]
    exact ⟨tu2, c6.mono (fun q a b => hr q (by omega) (by omega))⟩
  · rw [hm _ (by omega)]; exact m2
  · obtain ⟨a1, a2, a3, a4, a5⟩ := m3 i hi
    rw [hP]
    refine ⟨fun l p hl hp => ?_, fun j hj => ?_, ?_, ?_, ?_⟩
    · rw [hm _ (by omega)]; exact a1 l p hl hp
    · rw [hm _ (by omega)]; exact a2 j hj
    · rw [hm _ (by omega)]; exact a3
    · rw [hm _ (by omega)]; exact a4
    · rw [hm _ (by omega)]; exact a5
  · obtain ⟨b1, b2, b3, b4, b5⟩ := (s3 i hi).up (show k ≤ k + 5 by omega)
    exact ⟨by omega, b2, b3, fun j hj => by rw [hP]; exact b4 j hj, by rw [hP]; exact b5⟩
  · exact (h2.up (show k ≤ k + 5 by omega)).mono (fun q a b => hr q (by omega) (by omega)) (hr _ (by omega) (by omega)) (hr _ (by omega) (by omega))
  · exact h3.mono (hr _ (by omega) (by omega)) (hr _ (by omega) (by omega)) (hr _ (by omega) (by omega)) (hr _ (by omega) (by omega))
  · rw [hr _ (by omega) (by omega), hr _ (by omega) (by omega)]; exact h4 j hj
section STQ
variable {x y k : Nat} {M : Mm} {N : Ml}
theorem s_told (hy : y = x + 234) (q0 q1 : Int32) (hI : IInv x y k M N) : ∃ (v : Int32) (M1 M2 : Mm), f_X11_told x q0 q1 M = some (v, M1) ∧ f_X12_told y q0 q1 M1 = some (v, M2) ∧ IInv x y (k + 5) M2 N := by
  unfold f_X11_told f_X12_told f_X11_told_J18 f_X12_told_J19
  rw [lane_ok, Option.bind_some, ite_b01]
  by_cases c : (0 : Int32) ≤ q0 ∧ q0 ≤ 4
  · rw [if_pos c, within_ok, Option.bind_some, ite_b01]
    by_cases d : (0 : Int32) ≤ q1 ∧ q1 ≤ 9999
    · obtain ⟨l, hl, rfl⟩ := in_nat (b := 4) (by omega) c
      obtain ⟨n, hn, rfl⟩ := in_nat (b := 9999) (by omega) d
      obtain ⟨⟨R, u, ps, ⟨⟨tu, c1⟩, -⟩, ⟨m1, -⟩, -⟩, -⟩ := id hI
      rw [if_pos d, ck_nI (by omega) (by omega), bnd_e, ck_nI (by omega) (by omega), bnd_e, cl_nI (by omega)]
      refine ⟨nI (R 2 l), up2 M (x + 7 + 1 + 2) l (nI n), up2 (up2 M (x + 7 + 1 + 2) l (nI n)) (y + 1) (143 + l) (nI n), ?_, ?_, ?_⟩
      · rw [(c1.2.2.2.2.1 l (by omega)).2]
      · rw [mlane_ok, Option.bind_some, ite_b01, if_pos c, show (0 : Int64) = (0 : Int32).toInt64 from rfl, show (9999 : Int64) = (9999 : Int32).toInt64 from rfl, in_ok, Option.bind_some, ite_b01, if_pos d, nlit 143, nI_add, ck_nI (by omega) (by omega), bnd_e, ck_nI (by omega) (by omega), bnd_e, cl_nI (by omega), up2_o _ _ _ (by omega)]
        have := (m1.2.1 l (by omega)).2
        rw [Nat.zero_add] at this
        rw [this]
      · refine hI.setRing hy (fun R u ps tu c1 m1 s => ⟨updR R 2 l n, tu, ?_, ?_, rfl, Nat.le_refl _, ?_⟩) (fun q h1 h2 => by rw [up2_o _ _ _ (by omega), up2_o _ _ _ (by omega)]) (fun j hj => by rw [up2_at, if_neg (by omega), up2_o _ _ _ (by omega)])
        · obtain ⟨a1, a2, a3, a4, a5, a6, a7⟩ := c1
          have hne : ∀ q, q ≠ x + 7 + 1 + 2 → q ≠ y + 1 → up2 (up2 M (x + 7 + 1 + 2) l (nI n)) (y + 1) (143 + l) (nI n) q = M q := fun q h1 h2 => by rw [up2_o _ _ _ h2, up2_o _ _ _ h1]
          refine ⟨?_, ?_, ?_, ?_, fun l' hl' => ⟨?_, ?_⟩, ?_, ?_⟩
          · rw [hne _ (by omega) (by omega)]; exact a1
          · rw [hne _ (by omega) (by omega)]; exact a2
          · rw [hne _ (by omega) (by omega)]; exact a3
          · rw [hne _ (by omega) (by omega)]; exact a4
          · rw [hne _ (by omega) (by omega)]; exact (a5 l' hl').1
          · rw [up2_o _ _ _ (by omega), up2_at, updR_at]
            by_cases e : l' = l
            · subst e; simp
            · rw [if_neg (by omega), if_neg (by omega)]; exact (a5 l' hl').2
          · refine CLum.mono (M := M) ?_ (hne _ (by omega) (by omega)) (hne _ (by omega) (by omega))
            refine ⟨a6.1, fun l' p hl' hp => ?_⟩
            have e10 : updR R 2 l n (10 + l') p = R (10 + l') p := by rw [updR_at, if_neg (by omega)]
            rw [e10]
            exact a6.2 l' p hl' hp
          · rw [hne _ (by omega) (by omega), hne _ (by omega) (by omega), hne _ (by omega) (by omega), hne _ (by omega) (by omega)]
            intro j hj
            simp only [updR_at]
            exact a7 j hj
        · obtain ⟨b1, b2, b3, b4, b5, b6, b7⟩ := m1
          refine ⟨?_, fun l' hl' => ⟨?_, ?_⟩, fun l' p hl' hp => ?_, ?_, fun j w hj hw => ?_, ?_, ?_⟩
          · rw [up2_at, if_neg (by omega), up2_o _ _ _ (by omega)]; exact b1
          · rw [up2_at, if_neg (by omega), up2_o _ _ _ (by omega)]; exact (b2 l' hl').1
          · rw [up2_at, updR_at]
            by_cases e : l' = l
            · subst e; rw [if_pos (by omega), if_pos (by omega)]
            · rw [if_neg (by omega), if_neg (by omega), up2_o _ _ _ (by omega)]; exact (b2 l' hl').2
          · rw [up2_at, if_neg (by omega), up2_o _ _ _ (by omega)]
            have := b3 l' p hl' hp
            rw [this]
            simp only [updR_at]
            rw [if_neg (show ¬ (10 + l' = 2 ∧ p = l) by omega)]
            rfl
          · rw [up2_at, if_neg (by omega), up2_o _ _ _ (by omega)]; exact b4
          · have hj' : j < R 0 1 := hj
            rw [up2_at, if_neg (by have := s.1.2.1; omega), up2_o _ _ _ (by omega), b5 j w hj' hw, updR_at, if_neg (by omega)]
          · rw [up2_at, if_neg (by omega), up2_o _ _ _ (by omega)]; exact b6
          · rw [up2_at, if_neg (by omega), up2_o _ _ _ (by omega)]; exact b7
        · obtain ⟨d1, d2, d3, d4, d5, d6, d7⟩ := s.1.up (show k ≤ k + 5 by omega)
          refine ⟨d1, d2, d3, d4, fun l' hl' => ⟨(d5 l' hl').1, ?_⟩, d6, d7⟩
          rw [updR_at]
          split
          · exact hn
          · exact (d5 l' hl').2
    · rw [if_neg d, rj]
      refine ⟨_, _, _, rfl, ?_, hI.refused hy (w := 0) (by omega)⟩
      rw [mlane_ok, Option.bind_some, ite_b01, if_pos c, show (0 : Int64) = (0 : Int32).toInt64 from rfl, show (9999 : Int64) = (9999 : Int32).toInt64 from rfl, in_ok, Option.bind_some, ite_b01, if_neg d, bj]
  · rw [if_neg c, rj]
    refine ⟨_, _, _, rfl, ?_, hI.refused hy (w := 0) (by omega)⟩
    rw [mlane_ok, Option.bind_some, ite_b01, if_neg c, bj]
theorem s_step (hy : y = x + 234) (q0 q1 : Int32) (hI : IInv x y k M N) : ∃ (v : Int32) (M1 M2 : Mm), f_X11_step x q0 q1 M = some (v, M1) ∧ f_X12_step y q0 q1 M1 = some (v, M2) ∧ IInv x y (k + 5) M2 N := by
  unfold f_X11_step f_X12_step f_X11_step_J17 f_X12_step_J19
  rw [lane_ok, Option.bind_some, ite_b01]
  by_cases c : (0 : Int32) ≤ q0 ∧ q0 ≤ 4
  · rw [if_pos c, within_ok, Option.bind_some, ite_b01]
    by_cases d : (0 : Int32) ≤ q1 ∧ q1 ≤ 9
    · obtain ⟨l, hl, rfl⟩ := in_nat (b := 4) (by omega) c
      obtain ⟨n, hn, rfl⟩ := in_nat (b := 9) (by omega) d
      obtain ⟨⟨R, u, ps, ⟨⟨tu, c1⟩, -⟩, ⟨m1, -⟩, -⟩, -⟩ := id hI
      rw [if_pos d, ck_nI (by omega) (by omega), bnd_e, ck_nI (by omega) (by omega), bnd_e, cl_nI (by omega)]
      refine ⟨nI (R 1 l), up2 M (x + 7 + 1 + 1) l (nI n), up2 (up2 M (x + 7 + 1 + 1) l (nI n)) (y + 1) (1 + l) (nI n), ?_, ?_, ?_⟩
      · rw [(c1.2.2.2.2.1 l (by omega)).1]
      · rw [mlane_ok, Option.bind_some, ite_b01, if_pos c, show (0 : Int64) = (0 : Int32).toInt64 from rfl, show (9 : Int64) = (9 : Int32).toInt64 from rfl, in_ok, Option.bind_some, ite_b01, if_pos d, nlit 1, nI_add, ck_nI (by omega) (by omega), bnd_e, ck_nI (by omega) (by omega), bnd_e, cl_nI (by omega), up2_o _ _ _ (by omega)]
        have := (m1.2.1 l (by omega)).1
        rw [Nat.zero_add] at this
        rw [this]
      · refine hI.setRing hy (fun R u ps tu c1 m1 s => ⟨updR R 1 l n, tu, ?_, ?_, rfl, Nat.le_refl _, ?_⟩) (fun q h1 h2 => by rw [up2_o _ _ _ (by omega), up2_o _ _ _ (by omega)]) (fun j hj => by rw [up2_at, if_neg (by omega), up2_o _ _ _ (by omega)])
        · obtain ⟨a1, a2, a3, a4, a5, a6, a7⟩ := c1
          have hne : ∀ q, q ≠ x + 7 + 1 + 1 → q ≠ y + 1 → up2 (up2 M (x + 7 + 1 + 1) l (nI n)) (y + 1) (1 + l) (nI n) q = M q := fun q h1 h2 => by rw [up2_o _ _ _ h2, up2_o _ _ _ h1]
          refine ⟨?_, ?_, ?_, ?_, fun l' hl' => ⟨?_, ?_⟩, ?_, ?_⟩
          · rw [hne _ (by omega) (by omega)]; exact a1
          · rw [hne _ (by omega) (by omega)]; exact a2
          · rw [hne _ (by omega) (by omega)]; exact a3
          · rw [hne _ (by omega) (by omega)]; exact a4
          · rw [up2_o _ _ _ (by omega), up2_at, updR_at]
            by_cases e : l' = l
            · subst e; simp
            · rw [if_neg (by omega), if_neg (by omega)]; exact (a5 l' hl').1
          · rw [hne _ (by omega) (by omega)]; exact (a5 l' hl').2
          · refine CLum.mono (M := M) ?_ (hne _ (by omega) (by omega)) (hne _ (by omega) (by omega))
            refine ⟨a6.1, fun l' p hl' hp => ?_⟩
            have e10 : updR R 1 l n (10 + l') p = R (10 + l') p := by rw [updR_at, if_neg (by omega)]
            rw [e10]
            exact a6.2 l' p hl' hp
          · rw [hne _ (by omega) (by omega), hne _ (by omega) (by omega), hne _ (by omega) (by omega), hne _ (by omega) (by omega)]
            intro j hj
            simp only [updR_at]
            exact a7 j hj
        · obtain ⟨b1, b2, b3, b4, b5, b6, b7⟩ := m1
          refine ⟨?_, fun l' hl' => ⟨?_, ?_⟩, fun l' p hl' hp => ?_, ?_, fun j w hj hw => ?_, ?_, ?_⟩
          · rw [up2_at, if_neg (by omega), up2_o _ _ _ (by omega)]; exact b1
          · rw [up2_at, updR_at]
            by_cases e : l' = l
            · subst e; rw [if_pos (by omega), if_pos (by omega)]
            · rw [if_neg (by omega), if_neg (by omega), up2_o _ _ _ (by omega)]; exact (b2 l' hl').1
          · rw [up2_at, if_neg (by omega), up2_o _ _ _ (by omega)]; exact (b2 l' hl').2
          · rw [up2_at, if_neg (by omega), up2_o _ _ _ (by omega)]
            have := b3 l' p hl' hp
            rw [this]
            simp only [updR_at]
            rw [if_neg (show ¬ (10 + l' = 1 ∧ p = l) by omega)]
            rfl
          · rw [up2_at, if_neg (by omega), up2_o _ _ _ (by omega)]; exact b4
          · have hj' : j < R 0 1 := hj
            rw [up2_at, if_neg (by have := s.1.2.1; omega), up2_o _ _ _ (by omega), b5 j w hj' hw, updR_at, if_neg (by omega)]
          · rw [up2_at, if_neg (by omega), up2_o _ _ _ (by omega)]; exact b6
          · rw [up2_at, if_neg (by omega), up2_o _ _ _ (by omega)]; exact b7
        · obtain ⟨d1, d2, d3, d4, d5, d6, d7⟩ := s.1.up (show k ≤ k + 5 by omega)
          refine ⟨d1, d2, d3, d4, fun l' hl' => ⟨?_, (d5 l' hl').2⟩, d6, d7⟩
          rw [updR_at]
          split
          · exact hn
          · exact (d5 l' hl').1
    · rw [if_neg d, rj]
      refine ⟨_, _, _, rfl, ?_, hI.refused hy (w := 0) (by omega)⟩
      rw [mlane_ok, Option.bind_some, ite_b01, if_pos c, show (0 : Int64) = (0 : Int32).toInt64 from rfl, show (9 : Int64) = (9 : Int32).toInt64 from rfl, in_ok, Option.bind_some, ite_b01, if_neg d, bj]
  · rw [if_neg c, rj]
    refine ⟨_, _, _, rfl, ?_, hI.refused hy (w := 0) (by omega)⟩
    rw [mlane_ok, Option.bind_some, ite_b01, if_neg c, bj]
theorem cmoon_ok (a : Nat) (p : Int32) (n : Nat) (hn : n ≤ 4) (b : Int32) (hb : b = nI n) : ((0 : Int32) ≤ p ∧ p ≤ b - 1) ↔ ∃ j, j < n ∧ p = nI j := by
  subst hb
  constructor
  · intro ⟨h1, h2⟩
    rw [Int32.le_iff_toInt_le] at h1 h2
    have e0 : (0 : Int32).toInt = 0 := by decide
    have e1 : (nI n - 1).toInt = (n : Int) - 1 := pk_sub_toInt (a := n) (b := 1) (by omega) (by omega)
    rw [e0] at h1
    rw [e1] at h2
    obtain ⟨j, hj, e⟩ := nI_of (x := p) (by rw [Int32.lt_iff_toInt_lt, e0]; omega)
    subst e
    rw [nI_toInt hj] at h2
    exact ⟨j, by omega, rfl⟩
  · rintro ⟨j, hj, rfl⟩
    refine ⟨nI_pos' (by omega), ?_⟩
    rw [Int32.le_iff_toInt_le]
    have e1 : (nI n - 1).toInt = (n : Int) - 1 := pk_sub_toInt (a := n) (b := 1) (by omega) (by omega)
    rw [e1, nI_toInt (by omega)]
    omega
theorem cplace_ok (p : Int32) (n : Nat) (hn : n ≤ 24) (b : Int32) (hb : b = nI n) : ((0 : Int32) ≤ p ∧ p ≤ b - 1) ↔ ∃ j, j < n ∧ p = nI j := by
  subst hb
  constructor
  · intro ⟨h1, h2⟩
    rw [Int32.le_iff_toInt_le] at h1 h2
    have e0 : (0 : Int32).toInt = 0 := by decide
    have e1 : (nI n - 1).toInt = (n : Int) - 1 := pk_sub_toInt (a := n) (b := 1) (by omega) (by omega)
    rw [e0] at h1
    rw [e1] at h2
    obtain ⟨j, hj, e⟩ := nI_of (x := p) (by rw [Int32.lt_iff_toInt_lt, e0]; omega)
    subst e
    rw [nI_toInt hj] at h2
    exact ⟨j, by omega, rfl⟩
  · rintro ⟨j, hj, rfl⟩
    refine ⟨nI_pos' (by omega), ?_⟩
    rw [Int32.le_iff_toInt_le]
    have e1 : (nI n - 1).toInt = (n : Int) - 1 := pk_sub_toInt (a := n) (b := 1) (by omega) (by omega)
    rw [e1, nI_toInt (by omega)]
    omega
theorem isMoon_ok (x : Nat) (p : Int32) (M : Mm) : f_X11_isMoon x p M = some (b01 ((0 : Int32) ≤ p ∧ p ≤ M (x + 7 + 1) 10 - 1)) := by
  unfold f_X11_isMoon
  rw [within_ok, Option.bind_some, cb_b01]
theorem isPlace_ok (x : Nat) (p : Int32) (M : Mm) : f_X11_isPlace x p M = some (b01 ((0 : Int32) ≤ p ∧ p ≤ M (x + 7 + 1) 9 - 1)) := by
  unfold f_X11_isPlace
  rw [within_ok, Option.bind_some, cb_b01]
theorem mplaces_ok (y : Nat) (M : Mm) : f_X12_places y M = some (M (y + 1) 0) := by
  unfold f_X12_places
  rw [n0, ck_nI (by omega) (by omega), cl_nI (by omega)]
theorem mmoons_ok (y : Nat) (M : Mm) : f_X12_moons y M = some (M (y + 1) 126) := by
  unfold f_X12_moons
  rw [nlit 126, ck_nI (by omega) (by omega), cl_nI (by omega)]
theorem misMoon_ok (y : Nat) (p : Int32) (M : Mm) : f_X12_isMoon y p M = some (b01 ((0 : Int32) ≤ p ∧ p ≤ M (y + 1) 126 - 1)) := by
  unfold f_X12_isMoon
  rw [mmoons_ok, Option.bind_some, show (0 : Int64) = (0 : Int32).toInt64 from rfl, in_ok, Option.bind_some, cb_b01]
theorem misPlace_ok (y : Nat) (p : Int32) (M : Mm) : f_X12_isPlace y p M = some (b01 ((0 : Int32) ≤ p ∧ p ≤ M (y + 1) 0 - 1)) := by
  unfold f_X12_isPlace
  rw [mplaces_ok, Option.bind_some, show (0 : Int64) = (0 : Int32).toInt64 from rfl, in_ok, Option.bind_some, cb_b01]
/-- the moons' numbers and the places are the same on both sides -/
theorem IInv.ring {x y k : Nat} {M : Mm} {N : Ml} (hI : IInv x y k M N) : ∃ (R : Rg) (tu : Nat → Nat), CRing M (x + 7 + 1) tu R ∧ MRing M (y + 1) 0 R ∧ ROk k R := by
  obtain ⟨⟨R, u, ps, ⟨⟨tu, c1⟩, -⟩, ⟨m1, -⟩, s⟩, -⟩ := hI
  exact ⟨R, tu, c1, m1, s.1⟩
theorem of_ok (y j w : Nat) (M : Mm) (hj : j < 4) (hw : w < 4) : f_X12_of y (nI j) (nI w) M = some (M (y + 1) (127 + 4 * j + w)) := by
  unfold f_X12_of
  rw [nlit 127, nlit 4, pk_mul, nI_add, nI_add, ck_nI (by omega) (by omega), cl_nI (by omega)]
theorem aboutMoon_ok (a j w : Nat) (M : Mm) (hj : j < 4) (hw : w < 4) : f_X5_aboutMoon a (nI j) (nI w) M = some (M (a + 5 + w) j) := by
  unfold f_X5_aboutMoon
  rw [n0, nlit 1, nlit 2, ifeq (by omega) (by omega), ifeq (by omega) (by omega), ifeq (by omega) (by omega), ck_nI (by omega) (by omega), ck_nI (by omega) (by omega), ck_nI (by omega) (by omega), ck_nI (by omega) (by omega), cl_nI (by omega)]
  rcases (show w = 0 ∨ w = 1 ∨ w = 2 ∨ w = 3 by omega) with rfl | rfl | rfl | rfl <;> rfl
theorem s_about (hy : y = x + 234) (q0 q1 : Int32) (hI : IInv x y k M N) : ∃ (v : Int32) (M1 M2 : Mm), f_X11_about x q0 q1 M = some (v, M1) ∧ f_X12_about y q0 q1 M1 = some (v, M2) ∧ IInv x y (k + 5) M2 N := by
  obtain ⟨R, tu, c1, m1, s⟩ := hI.ring
  have ec : M (x + 7 + 1) 10 = nI (R 0 1) := c1.2.1
  have em : M (y + 1) 126 = nI (R 0 1) := m1.2.2.2.1
  unfold f_X11_about f_X12_about f_X11_about_J17 f_X12_about_J29
  rw [isMoon_ok, Option.bind_some, ite_b01, ec]
  by_cases c : (0 : Int32) ≤ q0 ∧ q0 ≤ nI (R 0 1) - 1
  · rw [if_pos c, within_ok, Option.bind_some, ite_b01]
    by_cases d : (0 : Int32) ≤ q1 ∧ q1 ≤ 3
    · obtain ⟨j, hj, rfl⟩ := (cmoon_ok 0 q0 _ s.2.1 _ rfl).mp c
      obtain ⟨w, hw, rfl⟩ := in_nat (b := 3) (by omega) d
      have hj4 : j < 4 := by have := s.2.1; omega
      rw [if_pos d, aboutMoon_ok _ _ _ _ hj4 (by omega), Option.bind_some]
      refine ⟨_, _, M, rfl, ?_, hI.up (by omega)⟩
      rw [misMoon_ok, Option.bind_some, ite_b01, em, if_pos c, show (0 : Int64) = (0 : Int32).toInt64 from rfl, show (3 : Int64) = (3 : Int32).toInt64 from rfl, in_ok, Option.bind_some, ite_b01, if_pos d, of_ok _ _ _ _ hj4 (by omega), Option.bind_some]
      have h1 := m1.2.2.2.2.1 j w hj (by omega)
      rw [Nat.zero_add] at h1
      have h2 := c1.2.2.2.2.2.2 j hj
      rw [h1]
      rcases (show w = 0 ∨ w = 1 ∨ w = 2 ∨ w = 3 by omega) with rfl | rfl | rfl | rfl
      · rw [show x + 7 + 1 + 5 + 0 = x + 7 + 1 + 5 from rfl, h2.1]
      · rw [show x + 7 + 1 + 5 + 1 = x + 7 + 1 + 6 from rfl, h2.2.1]
      · rw [show x + 7 + 1 + 5 + 2 = x + 7 + 1 + 7 from rfl, h2.2.2.1]
      · rw [show x + 7 + 1 + 5 + 3 = x + 7 + 1 + 8 from rfl, h2.2.2.2]
    · rw [if_neg d, rj]
      refine ⟨_, _, _, rfl, ?_, hI.refused hy (w := 0) (by omega)⟩
      rw [misMoon_ok, Option.bind_some, ite_b01, up2_o _ _ _ (by omega), em, if_pos c, show (0 : Int64) = (0 : Int32).toInt64 from rfl, show (3 : Int64) = (3 : Int32).toInt64 from rfl, in_ok, Option.bind_some, ite_b01, if_neg d, bj]
  · rw [if_neg c, rj]
    refine ⟨_, _, _, rfl, ?_, hI.refused hy (w := 0) (by omega)⟩
    rw [misMoon_ok, Option.bind_some, ite_b01, up2_o _ _ _ (by omega), em, if_neg c, bj]
end STQ
