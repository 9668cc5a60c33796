def bmF (w : Nat → Nat) (b best least : Nat) : Nat → Nat
  | 0 => best
  | k + 1 => if w b < least then bmF w (b + 1) b (w b) k else bmF w (b + 1) best least k
/-- what strays when a moon is moved by b -/
def lsM (R : Rg) (m K b : Nat) : Nat := tot (R 0 0) R - tot (R 0 0) (rnK (updR R 5 m ((R 5 m + b) % R 0 0)) tr1 K)
theorem FOk.moved {R : Rg} (h : FOk R) (m v : Nat) (hv : v < R 0 0) : FOk (updR R 5 m v) := h.sf (fun b j _ h5 _ => by rw [updR_at, if_neg (by omega)]) (fun j hj => by
  rw [updR_at]
  split
  · exact hv
  · exact h.2.2.2.2.1 j hj) (by rw [updR_at, if_neg (by omega)]; exact h.2.2.2.2.2)
theorem upd5 (R : Rg) (m v : Nat) {b : Nat} (j : Nat) (hb : b ≠ 5) : updR R 5 m v b j = R b j := by rw [updR_at, if_neg (by omega)]
/-- one moved trial of the class -/
theorem cmv {M : Mm} {a r m K b : Nat} {tu : Nat → Nat} {R : Rg} (h : CRing M r tu R) (hF : FOk R) (hd : r + 9 ≤ a) (hm : m < R 0 1) (hb : b < R 0 0) (hK : K ≤ 60) (hr : R 0 2 + K < 100000) : ∃ M1 M2 M3, f_X5_copy a r M = some M1 ∧ f_X5_moveMoon a (nI m) (nI b) M1 = some M2 ∧ f_X5_goOnBy a (nI K) M2 = some (nI (lsM R m K b), M3) ∧ ∀ q, (q < a ∨ a + 9 ≤ q) → M3 q = M q := by
  have hP := hF.1
  have h4 := hF.2.1
  have h5 := hF.2.2.2.2.1 m hm
  have c1 := h.copied (a := a) hP.2 h4
  have c2 : CRing (up2 (cpM M a r (R 0 1)) (a + 7) m (nI ((R 5 m + b) % R 0 0))) a tu (updR R 5 m ((R 5 m + b) % R 0 0)) := c1.moveMoon
  have hv : (R 5 m + b) % R 0 0 < R 0 0 := Nat.mod_lt _ (by omega)
  obtain ⟨w, M3, tu3, z3, e3, c3, t3, q3⟩ := cgoBy_ok c2 (hF.moved m _ hv) hK (by rw [upd5 R _ _ _ (by omega)]; exact hr)
  rw [upd5 R _ _ _ (by omega), tot_cong (R := updR R 5 m ((R 5 m + b) % R 0 0)) (R' := R) (fun l p _ _ => upd5 R _ _ _ (by omega))] at t3
  have hw : w = lsM R m K b := by unfold lsM; omega
  refine ⟨_, _, M3, copy_ok M a r (R 0 1) (by omega) h4 h.2.1, ?_, by rw [← hw]; exact e3, fun q hq => ?_⟩
  · unfold f_X5_moveMoon
    rw [ck_nI (by omega) (by omega), cl_nI (by omega), (c1.2.2.2.2.2.2 m hm).2.2.1, nI_add, around_ok c1.1 (by omega) hP.2 (by omega), Option.bind_some, ck_nI (by omega) (by omega), bnd_e]
  · rw [q3 q (by omega) (by omega) (by omega) (by omega), up2_o _ _ _ (by omega), cpM_o _ _ _ _ (by omega)]
theorem cbm8 {cs r m K : Nat} {tu : Nat → Nat} {R : Rg} (hF : FOk R) (hd : r + 9 ≤ cs) (hm : m < R 0 1) (hK : K ≤ 60) (hr : R 0 2 + K < 100000) (hw : ∀ b, lsM R m K b < 2 ^ 31) : ∀ (k b n best least : Nat) (M : Mm), 1 ≤ b → b + k = R 0 0 → k < n → least < 2 ^ 31 → CRing M r tu R → ∃ M', f_X0_bestMove_L8 cs r n (nI m) (nI K) (nI best) (nI least) (nI b) M = some (nI (bmF (lsM R m K) b best least k), M') ∧ ∀ q, (q < cs + 1 ∨ cs + 10 ≤ q) → M' q = M q := by
  have hP := hF.1
  intro k
  induction k with
  | zero =>
    intro b n best least M h1 hb hn hl h
    obtain ⟨n, rfl⟩ : ∃ m, n = m + 1 := ⟨n - 1, by omega⟩
    refine ⟨M, ?_, fun _ _ => rfl⟩
    rw [f_X0_bestMove_L8, h.1, ifle (by omega) (by omega), if_pos (by omega)]
    rfl
  | succ k ih =>
    intro b n best least M h1 hb hn hl h
    obtain ⟨n, rfl⟩ : ∃ m, n = m + 1 := ⟨n - 1, by omega⟩
    obtain ⟨M1, M2, M3, e1, e2, e3, q3⟩ := cmv (a := cs + 1) h hF (by omega) hm (show b < R 0 0 by omega) hK hr
    have h' : CRing M3 r tu R := h.mono (fun q ha hb' => q3 q (by omega))
    rw [f_X0_bestMove_L8, h.1, ifle (by omega) (by omega), if_neg (by omega), e1, Option.bind_some, e2, Option.bind_some, e3, bd2_some, n0, ifeq (by omega) (by omega), if_neg (by omega), ifle hl (hw b), bmF]
    by_cases hlt : lsM R m K b < least
    · rw [if_neg (by omega), if_pos hlt]
      unfold f_X0_bestMove_J63 f_X0_bestMove_J70
      rw [bnd_e, nI_1]
      obtain ⟨M', e, q⟩ := ih (b + 1) n b (lsM R m K b) M3 (by omega) (by omega) (by omega) (hw b) h'
      exact ⟨M', e, fun q' hq => by rw [q q' hq, q3 q' (by omega)]⟩
    · rw [if_pos (by omega), if_neg hlt]
      unfold f_X0_bestMove_J70
      rw [bnd_e, nI_1]
      obtain ⟨M', e, q⟩ := ih (b + 1) n best least M3 (by omega) (by omega) (by omega) hl h'
      exact ⟨M', e, fun q' hq => by rw [q q' hq, q3 q' (by omega)]⟩
theorem MRing.moved {M : Mm} {y m v : Nat} {R : Rg} (h : MRing M (y + 1) 0 R) (hm : m < R 0 1) (h4 : R 0 1 ≤ 4) : MRing (up2 M (y + 1) (127 + 4 * m + 2) (nI v)) (y + 1) 0 (updR R 5 m v) := by
  obtain ⟨b1, b2, b3, b4, b5, b6, b7⟩ := h
  have e0 := fun {b : Nat} (j : Nat) (hb : b ≠ 5) => upd5 R m v j hb
  refine ⟨?_, fun l hl => ⟨?_, ?_⟩, fun l p hl hp => ?_, ?_, fun j w hj hw => ?_, ?_, ?_⟩
  · rw [up2_at, if_neg (by omega), e0 _ (by omega)]; exact b1
  · rw [up2_at, if_neg (by omega), e0 _ (by omega)]; exact (b2 l hl).1
  · rw [up2_at, if_neg (by omega), e0 _ (by omega)]; exact (b2 l hl).2
  · rw [up2_at, if_neg (by omega), e0 0 (by omega), e0 (b := 10 + l) p (by omega)]; exact b3 l p hl hp
  · rw [up2_at, if_neg (by omega), e0 _ (by omega)]; exact b4
  · rw [e0 _ (by omega)] at hj
    rw [up2_at, updR_at]
    by_cases e : j = m ∧ w = 2
    · rw [if_pos (by omega), if_pos (by omega)]
    · rw [if_neg (by omega), if_neg (by omega)]; exact b5 j w hj hw
  · rw [up2_at, if_neg (by omega), e0 _ (by omega)]; exact b6
  · rw [up2_at, if_neg (by omega), e0 _ (by omega)]; exact b7
theorem mmv49 {y m K : Nat} {R : Rg} {M0 : Mm} (hM : MRing M0 (y + 1) 0 R) (hF : FOk R) (hm : m < R 0 1) (hK : K ≤ 60) (hr : R 0 2 + K < 100000) (hw : ∀ b, lsM R m K b < 2 ^ 31) : ∀ (k b n best least : Nat) (M : Mm), b + k = R 0 0 → k < n → least < 2 ^ 31 → (∀ j, j ≠ 127 + 4 * m + 2 → M (y + 1) j = M0 (y + 1) j) → ∃ M', f_X12_moved_L49 y n (nI K) (nI (127 + 4 * m + 2)) (nI (R 5 m)) (nI best) (nI least) (nI b) M = some (nI (bmF (lsM R m K) b best least k), M') ∧ M' (y + 1) = M0 (y + 1) ∧ (∀ q, (q < y ∨ (y + 2 ≤ q ∧ q ≤ y + 4) ∨ q = y + 11) → M' q = M q) ∧ M' y 18 = M y 18 := by
  have hP := hF.1
  have h4 := hF.2.1
  have h5 := hF.2.2.2.2.1 m hm
  have e5 : M0 (y + 1) (127 + 4 * m + 2) = nI (R 5 m) := by have := hM.2.2.2.2.1 m 2 hm (by omega); rwa [Nat.zero_add] at this
  intro k
  induction k with
  | zero =>
    intro b n best least M hb hn hl h
    obtain ⟨n, rfl⟩ : ∃ m, n = m + 1 := ⟨n - 1, by omega⟩
    refine ⟨up2 M (y + 1) (127 + 4 * m + 2) (nI (R 5 m)), ?_, ?_, fun q hq => up2_o _ _ _ (by omega), by rw [up2_o _ _ _ (by omega)]⟩
    · rw [f_X12_moved_L49, mplaces_ok, Option.bind_some, h 0 (by omega), hM.1, ifle (by omega) (by omega), if_pos (by omega), ck_nI (by omega) (by omega), bnd_e, cl_nI (by omega)]
      rfl
    · funext j
      rw [up2_at]
      by_cases hj : j = 127 + 4 * m + 2
      · rw [if_pos ⟨rfl, hj⟩, hj, e5]
      · rw [if_neg (by omega), h j hj]
  | succ k ih =>
    intro b n best least M hb hn hl h
    obtain ⟨n, rfl⟩ : ∃ m, n = m + 1 := ⟨n - 1, by omega⟩
    have hv : (R 5 m + b) % R 0 0 < R 0 0 := Nat.mod_lt _ (by omega)
    have hM' : MRing (up2 M (y + 1) (127 + 4 * m + 2) (nI ((R 5 m + b) % R 0 0))) (y + 1) 0 (updR R 5 m ((R 5 m + b) % R 0 0)) := by
      have g := hM.moved (v := (R 5 m + b) % R 0 0) hm h4
      have er : up2 M (y + 1) (127 + 4 * m + 2) (nI ((R 5 m + b) % R 0 0)) (y + 1) = up2 M0 (y + 1) (127 + 4 * m + 2) (nI ((R 5 m + b) % R 0 0)) (y + 1) := by
        funext j
        rw [up2_at, up2_at]
        by_cases hj : j = 127 + 4 * m + 2
        · rw [if_pos ⟨rfl, hj⟩, if_pos ⟨rfl, hj⟩]
        · rw [if_neg (by omega), if_neg (by omega), h j hj]
      unfold MRing MLum at g ⊢
      rw [er]
      exact g
    have e01 : updR R 5 m ((R 5 m + b) % R 0 0) 0 1 = R 0 1 := upd5 R _ _ _ (by omega)
    obtain ⟨w, M2, e2, -, b2, b3⟩ := mlossOf_ok (K := K) hM' (hF.moved m _ hv) (sOk_all (n := R 0 1) h4) hK (by rw [upd5 R _ _ _ (by omega)]; exact hr)
    rw [rnK_cong (s' := tr1) K _ (fun j hj => by rw [e01] at hj; simp [tr1, hj])] at b2
    rw [upd5 R _ _ _ (by omega), tot_cong (R := updR R 5 m ((R 5 m + b) % R 0 0)) (R' := R) (fun l p _ _ => upd5 R _ _ _ (by omega))] at b2
    have hww : w = lsM R m K b := by unfold lsM; omega
    rw [hww] at e2
    have h' : ∀ j, j ≠ 127 + 4 * m + 2 → M2 (y + 1) j = M0 (y + 1) j := fun j hj => by rw [b3.1 _ (by omega), up2_at, if_neg (by omega), h j hj]
    have al := all_ok hM'.2.2.2.1 (by rw [e01]; exact h4)
    rw [e01] at al
    rw [f_X12_moved_L49, mplaces_ok, Option.bind_some, h 0 (by omega), hM.1, ifle (by omega) (by omega), if_neg (by omega), Option.bind_some, cz_nI (by omega) (by omega), ck_nI (by omega) (by omega), bnd_e, cl_nI (by omega), nI_add, jr_nI (by omega) (by omega) (by omega), al, Option.bind_some, e2, bd2_some, ifle hl (hw b), bmF]
    unfold f_X12_moved_J99 f_X12_moved_J115
    rw [ifle hl (hw b), ifle hl (hw b), bnd_e, bnd_e, nI_1]
    have kk : ∀ M' : Mm, (∀ q, (q < y ∨ (y + 2 ≤ q ∧ q ≤ y + 4) ∨ q = y + 11) → M' q = M2 q) ∧ M' y 18 = M2 y 18 → (∀ q, (q < y ∨ (y + 2 ≤ q ∧ q ≤ y + 4) ∨ q = y + 11) → M' q = M q) ∧ M' y 18 = M y 18 := fun M' hq => ⟨fun q h1 => by rw [hq.1 q h1, b3.1 q (by omega), up2_o _ _ _ (by omega)], by rw [hq.2, b3.2, up2_o _ _ _ (by omega)]⟩
    by_cases hlt : lsM R m K b < least
    · rw [if_neg (by omega), if_neg (by omega), if_pos hlt]
      obtain ⟨M', e, q1, q2⟩ := ih (b + 1) n b (lsM R m K b) M2 (by omega) (by omega) (hw b) h'
      exact ⟨M', e, q1, kk M' q2⟩
    · rw [if_pos (by omega), if_pos (by omega), if_neg hlt]
      obtain ⟨M', e, q1, q2⟩ := ih (b + 1) n best least M2 (by omega) (by omega) hl h'
      exact ⟨M', e, q1, kk M' q2⟩
section STT
variable {x y k : Nat} {M : Mm} {N : Ml}
theorem s_moved (hy : y = x + 234) (hk : k < 320) (q0 q1 : Int32) (hI : IInv x y k M N) : ∃ (v : Int32) (M1 M2 : Mm), f_X11_moved x q0 q1 M = some (v, M1) ∧ f_X12_moved y q0 q1 M1 = some (v, M2) ∧ IInv x y (k + 5) M2 N := by
  obtain ⟨R, tu, c1, m1, s⟩ := hI.ring
  have hF := s.fok (by omega)
  have ec : M (x + 7 + 1) 10 = nI (R 0 1) := c1.2.1
  have em : M (y + 1) 126 = nI (R 0 1) := m1.2.2.2.1
  unfold f_X11_moved f_X12_moved f_X11_moved_J15 f_X12_moved_J15
  rw [isMoon_ok, Option.bind_some, ite_b01, ec]
  by_cases c : (0 : Int32) ≤ q0 ∧ q0 ≤ nI (R 0 1) - 1
  · rw [if_pos c, isRounds_ok, Option.bind_some, ite_b01]
    by_cases d : (0 : Int32) ≤ q1 ∧ q1 ≤ 60
    · obtain ⟨m, hm, rfl⟩ := (cmoon_ok 0 q0 _ s.2.1 _ rfl).mp c
      obtain ⟨K, hK, rfl⟩ := in_nat (b := 60) (by omega) d
      have hr := s.2.2.1
      have hP := s.1
      have h4 := s.2.1
      have htot := s.2.2.2.2.2.2
      have hw : ∀ b, lsM R m K b < 100000000 := fun b => by unfold lsM; omega
      have hw' : ∀ b, lsM R m K b < 2 ^ 31 := fun b => by have := hw b; omega
      obtain ⟨A1, A2, A3, a1, a2, a3, a4⟩ := cmv (a := x + 204 + 1) c1 hF (by omega) hm (show 0 < R 0 0 by omega) hK (by omega)
      obtain ⟨M1, e1, k1⟩ := cbm8 (cs := x + 204) (tu := tu) hF (show x + 7 + 1 + 9 ≤ x + 204 by omega) hm hK (by omega) hw' (R 0 0 - 1) 1 1999 0 (lsM R m K 0) A3 (by omega) (by omega) (by omega) (hw' 0) (c1.mono (fun q h1 h2 => a4 q (by omega)))
      have g1 : f_X0_bestMove (x + 204) (x + 7 + 1) (nI m) (nI K) M = some (nI (bmF (lsM R m K) 1 0 (lsM R m K 0) (R 0 0 - 1)), M1) := by
        unfold f_X0_bestMove
        rw [show (2000 : Nat) = 1999 + 1 from rfl, f_X0_bestMove_L8, c1.1, n0, ifle (by omega) (by omega), if_neg (by omega), a1, Option.bind_some, a2, Option.bind_some, a3, bd2_some, ifeq (by omega) (by omega), if_pos rfl]
        unfold f_X0_bestMove_J63 f_X0_bestMove_J70
        rw [bnd_e, nI_1]
        exact e1
      have h1 : ∀ q, (q < x + 205 ∨ x + 214 ≤ q) → M1 q = M q := fun q hq => by rw [k1 q (by omega), a4 q (by omega)]
      have m1' : MRing M1 (y + 1) 0 R := by
        unfold MRing MLum at m1 ⊢
        rw [h1 _ (by omega)]
        exact m1
      obtain ⟨M2, e2, k2, k3, k4⟩ := mmv49 m1' hF hm hK (by omega) hw' (R 0 0) 0 2000 0 100000000 M1 (by omega) (by omega) (by omega) (fun _ _ => rfl)
      have hb : bmF (lsM R m K) 0 0 100000000 (R 0 0) = bmF (lsM R m K) 1 0 (lsM R m K 0) (R 0 0 - 1) := by
        obtain ⟨p, hp⟩ : ∃ p, R 0 0 = p + 1 := ⟨R 0 0 - 1, by omega⟩
        rw [hp, bmF, if_pos (hw 0)]
        rfl
      rw [hb] at e2
      rw [if_pos d, g1, bd2_some]
      refine ⟨_, M1, M2, rfl, ?_, ?_⟩
      · have e5 : M1 (y + 1) (127 + 4 * m + 2) = nI (R 5 m) := by have := m1'.2.2.2.2.1 m 2 hm (by omega); rwa [Nat.zero_add] at this
        rw [misMoon_ok, Option.bind_some, ite_b01, m1'.2.2.2.1, if_pos c, isLong_ok, Option.bind_some, ite_b01, if_pos d, nlit 127, nlit 4, nlit 2, pk_mul, nI_add, nI_add, bnd_e, ck_nI (by omega) (by omega), bnd_e, cl_nI (by omega), e5]
        exact e2
      · refine hI.scratch hy (fun q hq => ?_) (by rw [k3 _ (by omega), h1 _ (by omega)]) (by rw [k4, h1 _ (by omega)])
        by_cases hq1 : q = y + 1
        · rw [hq1, k2, h1 _ (by omega)]
        · rw [k3 q (by omega), h1 q (by omega)]
    · rw [if_neg d, rj]
      refine ⟨_, _, _, rfl, ?_, hI.refused hy (w := 0) (by omega)⟩
      rw [misMoon_ok, Option.bind_some, ite_b01, up2_o _ _ _ (by omega), em, if_pos c, isLong_ok, Option.bind_some, ite_b01, if_neg d, bj]
  · rw [if_neg c, rj]
    refine ⟨_, _, _, rfl, ?_, hI.refused hy (w := 0) (by omega)⟩
    rw [misMoon_ok, Option.bind_some, ite_b01, up2_o _ _ _ (by omega), em, if_neg c, bj]
end STT
