section MRE
variable {y n : Nat} {c : Nat → Nat}
theorem mrItem {M : Mm} {p : Nat} {R : Rg} (hT : TY M y n c) (hK : TKY M y n c p) (hp : p ≤ n) (hM : MRing M (y + 12) 0 R) (hP : 4 ≤ R 0 0 ∧ R 0 0 ≤ 24) (h4 : R 0 1 ≤ 4) (h150 : M (y + 12) 150 = nI 0) (hv : ∃ v, v ≤ 24 ∧ M (y + 13) 0 = nI v) : ∃ M', mOut y n c M' (f_X12_readsItem y M) (rItem c n R p) ∧ mFr y M M' := by
  have he := (enT_le c hp).2.1
  have w1 : f_X12_isWord y (115 : Int32) (116 : Int32) (101 : Int32) (112 : Int32) (0 : Int32) M = some (if wdT c n p 1 then 1 else 0) := mword_ok hT hK hp (show 1 < 4 by omega)
  have w2 : f_X12_isWord y (108 : Int32) (117 : Int32) (109 : Int32) (112 : Int32) (115 : Int32) M = some (if wdT c n p 2 then 1 else 0) := mword_ok hT hK hp (show 2 < 4 by omega)
  have w3 : f_X12_isWord y (109 : Int32) (111 : Int32) (111 : Int32) (110 : Int32) (0 : Int32) M = some (if wdT c n p 3 then 1 else 0) := mword_ok hT hK hp (show 3 < 4 by omega)
  obtain ⟨M1, e1, a1, a2, a3⟩ := mgoOn_ok hT hK hp
  have f1 : mFr y M M1 := ⟨a2 _ (by omega) (by omega) (by omega) (by omega), fun q q1 q2 q3 => a3 q q1⟩
  have hM1 : MRing M1 (y + 12) 0 R := by
    unfold MRing MLum at hM ⊢
    rw [a3 _ (by omega)]
    exact hM
  have h150' : M1 (y + 12) 150 = nI 0 := by rw [a3 _ (by omega)]; exact h150
  have hv' : ∃ v, v ≤ 24 ∧ M1 (y + 13) 0 = nI v := by rw [a3 _ (by omega)]; exact hv
  unfold f_X12_readsItem rItem
  rw [w1, Option.bind_some, boolI]
  by_cases b1 : wdT c n p 1 = true
  · rw [if_pos b1, if_pos b1, e1, Option.bind_some]
    obtain ⟨M', h, f⟩ := mrStep (f1.ty hT) a1 he hM1 h4 h150' hv'
    exact ⟨M', h, f1.trans f⟩
  · rw [if_neg b1, if_neg b1, w2, Option.bind_some, boolI]
    by_cases b2 : wdT c n p 2 = true
    · rw [if_pos b2, if_pos b2, e1, Option.bind_some]
      obtain ⟨M', h, f⟩ := mrLump (f1.ty hT) a1 he hM1 hP h4 h150' hv'
      exact ⟨M', h, f1.trans f⟩
    · rw [if_neg b2, if_neg b2, w3, Option.bind_some, boolI]
      by_cases b3 : wdT c n p 3 = true
      · have g : M (y + 12) 126 = nI (R 0 1) := hM.2.2.2.1
        have c126 : (126 : Int32).toNatClampNeg = 126 := by decide
        rw [if_pos b3, if_pos b3, show ck (126 : Int32) 151 = ck (nI 126) 151 from rfl, ck_nI (by omega) (by omega), c126, g, nlit 4, ifeq (by omega) (by omega)]
        by_cases hm : R 0 1 = 4
        · rw [if_pos hm, if_pos (by omega)]
          exact ⟨M, ⟨Or.inl rfl, hK.1⟩, rfl, fun _ _ _ _ => rfl⟩
        · rw [if_neg hm, if_neg (by omega), e1, Option.bind_some]
          obtain ⟨M', h, f⟩ := mrMoon (f1.ty hT) a1 he hM1 hP (by omega) h150'
          exact ⟨M', h, f1.trans f⟩
      · rw [if_neg b3, if_neg b3]
        exact ⟨M, ⟨Or.inl rfl, hK.1⟩, rfl, fun _ _ _ _ => rfl⟩
def mOut1 (y n : Nat) (c : Nat → Nat) (M' : Mm) (f : Option (Int32 × Mm)) : RdO → Prop
  | .inl q => f = some ((0 : Int32), M') ∧ M' y 19 = nI q
  | .inr r => f = some ((1 : Int32), M') ∧ (∃ pp, pp ≤ n ∧ TKY M' y n c pp ∧ enT c n pp = r.2) ∧ MRing M' (y + 12) 0 r.1 ∧ M' (y + 12) 150 = nI 0 ∧ ∃ v, v ≤ 24 ∧ M' (y + 13) 0 = nI v
theorem mrRing {M : Mm} (hT : TY M y n c) (hK : TKY M y n c 0) (hv : M (y + 13) 0 = nI 4) : ∃ M', mOut1 y n c M' (f_X12_readsFirst y M) (rRing c n 0) ∧ mFr y M M' := by
  have he := (enT_le c (Nat.zero_le n)).2.1
  have w1 : f_X12_isWord y (114 : Int32) (105 : Int32) (110 : Int32) (103 : Int32) (0 : Int32) M = some (if wdT c n 0 0 then 1 else 0) := mword_ok hT hK (Nat.zero_le n) (show 0 < 4 by omega)
  have c0 : (0 : Int32).toNatClampNeg = 0 := by decide
  obtain ⟨M1, e1, a1, a2, a3⟩ := mgoOn_ok hT hK (Nat.zero_le n)
  have f1 : mFr y M M1 := ⟨a2 _ (by omega) (by omega) (by omega) (by omega), fun q q1 q2 q3 => a3 q q1⟩
  have kb : ∀ (M : Mm) (P : Int32) q, q ≠ y + 12 → mbegM M (y + 12) P q = M q := fun M P q h => by
    funext j
    unfold mbegM
    rw [if_neg h]
  unfold f_X12_readsFirst rRing
  rw [w1, Option.bind_some, boolI]
  by_cases b1 : wdT c n 0 0 = true
  · rw [if_pos b1, if_pos b1, e1, Option.bind_some]
    by_cases o1 : okN c n (enT c n 0) 4 24
    · obtain ⟨M2, e2, d1, d2, d3, d4, d5⟩ := mtk (i := 0) (lo := 4) (hi := 24) (f1.ty hT) a1 he (by omega) (by omega) (by omega) o1
      obtain ⟨-, p1⟩ := okN_en he o1
      have e2' : f_X12_takes y (0 : Int32) (4 : Int32) (24 : Int32) M1 = some ((1 : Int32), M2) := e2
      have f2 : mFr y M M2 := f1.trans ⟨d4, fun q q1 q2 q3 => d5 q q1 q3⟩
      have hk := kdT_le c n (enT c n (enT c n 0))
      rw [e2', bd2_some, if_pos o1, show ck (0 : Int32) 4 = ck (nI 0) 4 from rfl, ck_nI (by omega) (by omega), c0, d2, mbegin_ok _ _ _ _ (by omega) (by omega), Option.bind_some, if_neg (by decide), kb _ _ _ (by omega), d1.2.2.1, nlit 3, ifeq (by omega) (by omega)]
      have hK3 : TKY (mbegM M2 (y + 12) (nI (vlT c n (enT c n 0)))) y n c (enT c n (enT c n 0)) := ⟨by rw [kb _ _ _ (by omega)]; exact d1.1, by rw [kb _ _ _ (by omega)]; exact d1.2.1, by rw [kb _ _ _ (by omega)]; exact d1.2.2.1, by rw [kb _ _ _ (by omega)]; exact d1.2.2.2⟩
      have f3 : mFr y M (mbegM M2 (y + 12) (nI (vlT c n (enT c n 0)))) := ⟨by rw [kb _ _ _ (by omega)]; exact f2.1, fun q q1 q2 q3 => by rw [kb _ _ _ q2]; exact f2.2 q q1 q2 q3⟩
      by_cases o2 : kdT c n (enT c n (enT c n 0)) = 3
      · unfold smc
        rw [if_pos o2, if_pos o2]
        refine ⟨_, ⟨rfl, ⟨enT c n (enT c n 0), p1, hK3, rfl⟩, mbeg_ring _ _ _ o1.2, ?_, vlT c n (enT c n 0), o1.2.2, by rw [kb _ _ _ (by omega)]; exact d2⟩, f3⟩
        unfold mbegM
        rw [if_pos rfl, if_neg (by omega), if_neg (by omega), if_pos (by omega)]
        rfl
      · rw [if_neg o2]
        unfold smc
        rw [if_neg o2]
        exact ⟨_, ⟨rfl, hK3.1⟩, f3⟩
    · have e2' : f_X12_takes y (0 : Int32) (4 : Int32) (24 : Int32) M1 = some ((0 : Int32), M1) := mtk_no (lo := 4) (hi := 24) _ a1 (by omega) (by omega) o1
      rw [e2', bd2_some, if_neg o1, show ck (0 : Int32) 4 = ck (nI 0) 4 from rfl, ck_nI (by omega) (by omega), mbegin_ok _ _ _ _ (by omega) (by omega), Option.bind_some, if_pos rfl]
      exact ⟨_, ⟨rfl, by rw [kb _ _ _ (by omega)]; exact a1.1⟩, by rw [kb _ _ _ (by omega)]; exact f1.1, fun q q1 q2 q3 => by rw [kb _ _ _ q2]; exact f1.2 q q1 q2 q3⟩
  · rw [if_neg b1, if_neg b1]
    exact ⟨M, ⟨rfl, hK.1⟩, rfl, fun _ _ _ _ => rfl⟩
theorem mr75 (x1 : Int32) : ∀ (k i fuel : Nat) (M : Mm), i + k = 151 → k < fuel → ∃ M', f_X12_read_L75 y fuel x1 (nI i) M = some (x1, M') ∧ (∀ j, i ≤ j → j < 151 → M' (y + 1) j = M (y + 12) j) ∧ (∀ j, (j < i ∨ 151 ≤ j) → M' (y + 1) j = M (y + 1) j) ∧ ∀ q, q ≠ y + 1 → M' q = M q := by
  intro k
  induction k with
  | zero =>
    intro i fuel M hi hf
    obtain ⟨fuel, rfl⟩ : ∃ m, fuel = m + 1 := ⟨fuel - 1, by omega⟩
    refine ⟨M, ?_, fun j h1 h2 => by omega, fun _ _ => rfl, fun _ _ => rfl⟩
    rw [f_X12_read_L75, nlit 151, ifle (by omega) (by omega), if_pos (by omega)]
  | succ k ih =>
    intro i fuel M hi hf
    obtain ⟨fuel, rfl⟩ : ∃ m, fuel = m + 1 := ⟨fuel - 1, by omega⟩
    obtain ⟨M', e, a1, a2, a3⟩ := ih (i + 1) fuel (up2 M (y + 1) i (M (y + 12) i)) (by omega) (by omega)
    refine ⟨M', ?_, fun j h1 h2 => ?_, fun j hj => ?_, fun q hq => by rw [a3 q hq, up2_o _ _ _ hq]⟩
    · rw [f_X12_read_L75, nlit 151, ifle (by omega) (by omega), if_neg (by omega), ck_nI (by omega) (by omega), ck_nI (by omega) (by omega), bnd_e, bnd_e, cl_nI (by omega), nI_1]
      exact e
    · by_cases h : j = i
      · subst h
        rw [a2 j (by omega), up2_at, if_pos ⟨rfl, rfl⟩]
      · rw [a1 j (by omega) h2, up2_o _ _ _ (by omega)]
    · rw [a2 j (by omega), up2_at, if_neg (by omega)]
/-- what a reading leaves: the row of the ring is as told, or as it was -/
def mPost (y : Nat) (M M' : Mm) (o : Option Rg) : Prop := M' y 18 = M y 18 ∧ (∀ q, q ≠ y → q ≠ y + 1 → q ≠ y + 12 → q ≠ y + 13 → M' q = M q) ∧ (o = none → M' (y + 1) = M (y + 1)) ∧ (∀ R', o = some R' → MRing M' (y + 1) 0 R' ∧ M' (y + 1) 150 = nI 0)
theorem mPost.fr {M M1 M' : Mm} {o : Option Rg} (h : mFr y M M1) (h' : mPost y M1 M' o) : mPost y M M' o := ⟨h'.1.trans h.1, fun q q1 q2 q3 q4 => (h'.2.1 q q1 q2 q3 q4).trans (h.2 q q1 q3 q4), fun ho => (h'.2.2.1 ho).trans (h.2 _ (by omega) (by omega) (by omega)), h'.2.2.2⟩
theorem mL33 : ∀ (f p i fuel : Nat) (R : Rg) (M : Mm), n < p + f → f < fuel → p ≤ n → TY M y n c → TKY M y n c p → MRing M (y + 12) 0 R → M (y + 12) 150 = nI 0 → (∃ v, v ≤ 24 ∧ M (y + 13) 0 = nI v) → DOk R p → ∃ M', f_X12_read_L33 y fuel (nI i) M = some ((rdF c n R p i f).1, M') ∧ mPost y M M' (rdF c n R p i f).2 := by
  intro f
  induction f with
  | zero => intro p i fuel R M h1 h2 h3; omega
  | succ f ih =>
    intro p i fuel R M h1 hf h2 hT hK hM h150 hv hD
    obtain ⟨fuel, rfl⟩ : ∃ m, fuel = m + 1 := ⟨fuel - 1, by omega⟩
    have hn := hT.1
    have hk4 := kdT_le c n p
    rw [f_X12_read_L33, hK.2.2.1, show (0 : Int32) = nI 0 from rfl, ifeq (by omega) (by omega), rdF]
    by_cases hk : kdT c n p = 0
    · rw [if_pos hk, if_pos hk]
      obtain ⟨M1, e1, a1, a2, a3⟩ := mr75 (y := y) (nI i) 151 0 2000 M (by omega) (by omega)
      have h4 := hD.2.1
      refine ⟨M1, e1, by rw [a3 _ (by omega)], fun q q1 q2 q3 q4 => a3 q q2, fun h => (by cases h), fun R' hR => ?_⟩
      have e := Option.some.inj hR
      subst e
      refine ⟨?_, by rw [a1 150 (by omega) (by omega)]; exact h150⟩
      obtain ⟨b1, b2, b3, b4, b5, b6, b7⟩ := hM
      have r : ∀ j, j < 150 → M1 (y + 1) j = M (y + 12) j := fun j hj => a1 j (by omega) (by omega)
      refine ⟨by rw [r _ (by omega)]; exact b1, fun l hl => ⟨by rw [r _ (by omega)]; exact (b2 l hl).1, by rw [r _ (by omega)]; exact (b2 l hl).2⟩, fun l p hl hp => by rw [r _ (by omega)]; exact b3 l p hl hp, by rw [r _ (by omega)]; exact b4, fun j w hj hw => by rw [r _ (by omega)]; exact b5 j w hj hw, by rw [r _ (by omega)]; exact b6, by rw [r _ (by omega)]; exact b7⟩
    · rw [if_neg hk, if_neg hk]
      obtain ⟨M1, o1, fr1⟩ := mrItem hT hK h2 hM hD.1 hD.2.1 h150 hv
      cases ho : rItem c n R p with
      | inl q =>
        rw [ho] at o1
        obtain ⟨e1, e2⟩ := o1
        refine ⟨M1, ?_, fr1.1, fun q q1 q2 q3 q4 => fr1.2 q q1 q3 q4, fun _ => fr1.2 _ (by omega) (by omega) (by omega), fun R' hR => (by cases hR)⟩
        rcases e1 with e1 | ⟨e1, e3⟩
        · rw [e1, bd2_some, if_pos (show (0 : Int32) = nI 0 from rfl), e2]
        · rw [e1, bd2_some, if_neg (show ¬ (1 : Int32) = nI 0 by decide), if_neg e3, e2]
      | inr r =>
        rw [ho] at o1
        obtain ⟨e1, e2, ⟨pp, hpp, hKp, hep⟩, m1, m150, mv⟩ := o1
        obtain ⟨d1, d2, d3⟩ := rItem_in h2 ho hD
        obtain ⟨M2, e4, a1, a2, a3⟩ := mgoOn_ok (fr1.ty hT) hKp hpp
        rw [hep] at a1
        have fr2 : mFr y M M2 := fr1.trans ⟨a2 _ (by omega) (by omega) (by omega) (by omega), fun q q1 q2 q3 => a3 q q1⟩
        have m2 : MRing M2 (y + 12) 0 r.1 := by
          unfold MRing MLum at m1 ⊢
          rw [a3 _ (by omega)]
          exact m1
        obtain ⟨M3, e5, b1⟩ := ih r.2 (i + 1) fuel r.1 M2 (by omega) (by omega) d3 (fr2.ty hT) a1 m2 (by rw [a3 _ (by omega)]; exact m150) (by rw [a3 _ (by omega)]; exact mv) d1
        refine ⟨M3, ?_, mPost.fr fr2 b1⟩
        rw [e1, bd2_some, if_neg (show ¬ (1 : Int32) = nI 0 by decide), if_pos e2, e4, Option.bind_some, bnd_e, nI_1]
        exact e5
theorem mAll {M : Mm} (hT : TY M y n c) : ∃ M', f_X12_read y M = some ((rAll c n).1, M') ∧ mPost y M M' (rAll c n).2 := by
  have hn := hT.1
  have c0 : (0 : Int32).toNatClampNeg = 0 := by decide
  have f0 : mFr y M (up2 M (y + 13) 0 (nI 4)) := ⟨by rw [up2_o _ _ _ (by omega)], fun q q1 q2 q3 => up2_o _ _ _ q3⟩
  obtain ⟨M5, e5, a1, a2, a3⟩ := look_ok (p := 0) (f0.ty hT) (Nat.zero_le n)
  have f5 : mFr y M M5 := f0.trans ⟨a2 _ (by omega) (by omega) (by omega) (by omega), fun q q1 q2 q3 => a3 q q1⟩
  obtain ⟨M8, o8, f8⟩ := mrRing (f5.ty hT) a1 (by rw [a3 _ (by omega), up2_at, if_pos ⟨rfl, rfl⟩])
  have f58 := f5.trans f8
  have el : f_X12_look y (0 : Int32) (up2 M (y + 13) 0 (4 : Int32)) = some M5 := e5
  unfold f_X12_read rAll
  rw [show ck (0 : Int32) 4 = ck (nI 0) 4 from rfl, ck_nI (by omega) (by omega), bnd_e, c0, el, Option.bind_some]
  cases ho : rRing c n 0 with
  | inl q =>
    rw [ho] at o8
    obtain ⟨e1, e2⟩ := o8
    refine ⟨M8, ?_, f58.1, fun q q1 q2 q3 q4 => f58.2 q q1 q3 q4, fun _ => f58.2 _ (by omega) (by omega) (by omega), fun R' hR => (by cases hR)⟩
    rw [e1, bd2_some, if_pos rfl, e2]
  | inr r =>
    rw [ho] at o8
    obtain ⟨e1, ⟨pp, hpp, hKp, hep⟩, m1, m150, mv⟩ := o8
    obtain ⟨d1, d2, d3⟩ := rRing_in ho
    obtain ⟨M12, e12, b1, b2, b3⟩ := mgoOn_ok (f58.ty hT) hKp hpp
    rw [hep] at b1
    have f12 : mFr y M M12 := f58.trans ⟨b2 _ (by omega) (by omega) (by omega) (by omega), fun q q1 q2 q3 => b3 q q1⟩
    have m12 : MRing M12 (y + 12) 0 r.1 := by
      unfold MRing MLum at m1 ⊢
      rw [b3 _ (by omega)]
      exact m1
    obtain ⟨M13, e13, g1⟩ := mL33 (y := y) 300 r.2 1 2000 r.1 M12 (by omega) (by omega) d3 (f12.ty hT) b1 m12 (by rw [b3 _ (by omega)]; exact m150) (by rw [b3 _ (by omega)]; exact mv) d1
    refine ⟨M13, ?_, mPost.fr f12 g1⟩
    rw [e1, bd2_some, if_neg (by decide), e12, Option.bind_some]
    exact e13
end MRE
section STH
variable {x y k : Nat} {M : Mm} {N : Ml}
theorem s_read (hy : y = x + 234) (hI : IInv x y k M N) : ∃ (v : Int32) (M1 M2 : Mm), f_X11_read x M = some (v, M1) ∧ f_X12_read y M1 = some (v, M2) ∧ IInv x y (k + 5) M2 N := by
  obtain ⟨⟨R, u, ps, ⟨⟨tu, c1⟩, c2, c7, nw, c3, c4, c5⟩, ⟨m1, m2, m3⟩, s⟩, -, ⟨n, hn, t1, t2, t3⟩, -⟩ := id hI
  obtain ⟨c, hc⟩ : ∃ c : Nat → Nat, ∀ i, i < n → c i < 256 ∧ M (x + 221) i = nI (c i) ∧ M (y + 11) i = nI (c i) := by
    refine ⟨fun i => (M (x + 221) i).toNatClampNeg, fun i hi => ?_⟩
    obtain ⟨cc, g1, g2, g3⟩ := t3 i hi
    have e : (M (x + 221) i).toNatClampNeg = cc := by rw [g2, cl_nI (by omega)]
    show (M (x + 221) i).toNatClampNeg < 256 ∧ M (x + 221) i = nI (M (x + 221) i).toNatClampNeg ∧ M (y + 11) i = nI (M (x + 221) i).toNatClampNeg
    rw [e]
    exact ⟨g1, g2, g3⟩
  have hX : TX M (x + 220) n c := ⟨hn, t1, fun i hi => ⟨(hc i hi).1, (hc i hi).2.1⟩⟩
  obtain ⟨M1, e1, a1, a2, a3⟩ := cAll (rd := x + 222) (by omega) hX
  have k1 : ∀ q, q ≠ x + 220 → (q < x + 223 ∨ x + 233 ≤ q) → M1 q = M q := fun q q1 q2 => a3 q q1 (by omega)
  rcases rAll_sg (c := c) hn with ⟨o1, o2⟩ | ⟨R', o1, o2, hD⟩
  · have hY : TY M1 y n c := ⟨hn, by rw [k1 _ (by omega) (by omega)]; exact t2, fun i hi => ⟨(hc i hi).1, by rw [k1 _ (by omega) (by omega)]; exact (hc i hi).2.2⟩⟩
    obtain ⟨M2, e2, b1, b2, b3, -⟩ := mAll hY
    have b3' := b3 o1
    refine ⟨_, M1, M2, ?_, e2, ?_⟩
    · unfold f_X11_read
      rw [e1, bd2_some, if_pos o2]
    · refine hI.scratch hy (fun q hq => ?_) (by rw [b2 _ (by omega) (by omega) (by omega) (by omega)]; exact a2) (by rw [b1, k1 _ (by omega) (by omega)])
      by_cases hq1 : q = y + 1
      · rw [hq1, b3', k1 _ (by omega) (by omega)]
      · rw [b2 q (by omega) hq1 (by omega) (by omega), k1 q (by omega) (by omega)]
  · obtain ⟨tu', C1⟩ := a1 R' o1
    have hP := hD.1
    have h4 := hD.2.1
    have cc := C1.copied (a := x + 7 + 1) hP.2 h4
    generalize hM10 : up2 (cpM M1 (x + 7 + 1) (x + 222 + 1) (R' 0 1)) (x + 7) 3 0 = M10
    have k10 : ∀ q, q ≠ x + 7 → q ≠ x + 220 → (q < x + 8 ∨ x + 17 ≤ q) → (q < x + 223 ∨ x + 233 ≤ q) → M10 q = M q := fun q q1 q2 q3 q4 => by rw [← hM10, up2_o _ _ _ q1, cpM_o _ _ _ _ (by omega), k1 q q2 q4]
    have hY : TY M10 y n c := ⟨hn, by rw [k10 _ (by omega) (by omega) (by omega) (by omega)]; exact t2, fun i hi => ⟨(hc i hi).1, by rw [k10 _ (by omega) (by omega) (by omega) (by omega)]; exact (hc i hi).2.2⟩⟩
    obtain ⟨M2, e2, b1, b2, -, b4⟩ := mAll hY
    obtain ⟨b5, b6⟩ := b4 R' o1
    have k2 : ∀ q, q < y → M2 q = M10 q := fun q hq => b2 q (by omega) (by omega) (by omega) (by omega)
    refine ⟨_, M10, M2, ?_, e2, ?_⟩
    · unfold f_X11_read f_X7_forget
      rw [e1, bd2_some, if_neg o2, copy_ok M1 _ _ (R' 0 1) (by omega) h4 C1.2.1, Option.bind_some, bnd_e, hM10, Option.bind_some]
    · have x220 : M10 (x + 220) 1 = M (x + 220) 1 := by rw [← hM10, up2_o _ _ _ (by omega), cpM_o _ _ _ _ (by omega)]; exact a2
      refine hI.setNow hy ⟨R', 0, fun _ => R', ⟨⟨tu', cc.mono (fun q h1 h2 => ?_)⟩, ?_, fun i hi => ?_, nw, c3, ?_, fun i hi => by omega⟩, ⟨b5, ?_, fun i hi => by omega⟩, ⟨hD.rok hn _, by omega, fun i hi => by omega⟩⟩ (fun q hq => ?_) (by rw [k2 _ (by omega)]; exact x220) (by rw [b1, k10 _ (by omega) (by omega) (by omega) (by omega)])
      · rw [k2 q (by omega), ← hM10, up2_o _ _ _ (by omega)]
      · rw [k2 _ (by omega), ← hM10, up2_at, if_pos ⟨rfl, rfl⟩]
        rfl
      · rw [k2 _ (by omega), k10 _ (by omega) (by omega) (by omega) (by omega)]
        exact c7 i hi
      · rw [k2 _ (by omega), ← hM10, up2_at, if_neg (by omega), cpM_o _ _ _ _ (by omega), k1 _ (by omega) (by omega)]
        exact c4
      · rw [Nat.zero_add]; exact b6
      · by_cases hq2 : q < y
        · rw [k2 q hq2, k10 q (by omega) (by omega) (by omega) (by omega)]
        · rw [b2 q (by omega) (by omega) (by omega) (by omega), k10 q (by omega) (by omega) (by omega) (by omega)]
end STH
