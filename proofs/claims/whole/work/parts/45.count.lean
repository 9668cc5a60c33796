/-! sums: there, count, digest -/
theorem sea_inv {P t j : Nat} (hj : j < P) (ht : t < P) : sea P t ((j + t) % P) = j := by
  rw [mod_if hj ht]
  unfold sea
  split <;> split <;> omega
theorem lin10 {M : Mm} {a P l : Nat} {g : Nat → Nat} (h9 : M a 9 = nI P) (hP : P ≤ 24) (hl : l < 5) (hg : ∀ j, j < P → M (a + 3) (24 * l + j) = nI (g j)) : ∀ (k i n : Nat), i + k = P → k < n → f_X5_lumpsIn_L10 a M n (nI (smF g i)) (nI (l * 24)) (nI (l * 24 + i)) = some (nI (smF g P)) := by
  intro k
  induction k with
  | zero =>
    intro i n hi hn
    obtain ⟨n, rfl⟩ : ∃ m, n = m + 1 := ⟨n - 1, by omega⟩
    have e : i = P := by omega
    subst e
    rw [f_X5_lumpsIn_L10, h9, nI_add, ifle (by omega) (by omega), if_pos (by omega)]
  | succ k ih =>
    intro i n hi hn
    obtain ⟨n, rfl⟩ : ∃ m, n = m + 1 := ⟨n - 1, by omega⟩
    rw [f_X5_lumpsIn_L10, h9, nI_add, ifle (by omega) (by omega), if_neg (by omega), ck_nI (by omega) (by omega), bnd_e, bnd_e, cl_nI (by omega), show l * 24 + i = 24 * l + i by omega, hg i (by omega), nI_add, nI_1, show 24 * l + i + 1 = l * 24 + (i + 1) by omega]
    exact ih (i + 1) n (by omega) (by omega)
theorem lumpsIn_ok {M : Mm} {a l : Nat} {tu : Nat → Nat} {R : Rg} (h : CRing M a tu R) (hl : l < 5) (hP : R 0 0 ≤ 24) : f_X5_lumpsIn a (nI l) M = some (nI (smF (R (10 + l)) (R 0 0))) := by
  by_cases h0 : R 0 0 = 0
  · have e := lin10 (a := a) (g := fun _ => 0) h.1 hP hl (fun j hj => by omega) (R 0 0) 0 2000 (by omega) (by omega)
    unfold f_X5_lumpsIn
    rw [nlit 24, pk_mul, bnd_e]
    refine Eq.trans e ?_
    rw [h0]
    rfl
  · obtain ⟨h4, ht⟩ := h.2.2.2.2.2.1.1 l hl
    have e := lin10 (a := a) (g := fun j => R (10 + l) ((j + tu l) % R 0 0)) h.1 hP hl (fun j hj => by
      have hm : (j + tu l) % R 0 0 < R 0 0 := Nat.mod_lt _ (by omega)
      have := h.2.2.2.2.2.1.2 l _ hl hm
      rw [sea_inv hj ht] at this
      exact this) (R 0 0) 0 2000 (by omega) (by omega)
    rw [smF_rot (f := R (10 + l)) (g := fun j => R (10 + l) ((j + tu l) % R 0 0)) ht (fun p hp => by
      have := rot_sea (s := tu l) hp
      rw [Nat.mod_eq_of_lt ht] at this
      show R (10 + l) ((sea (R 0 0) (tu l) p + tu l) % R 0 0) = _
      rw [this])] at e
    unfold f_X5_lumpsIn
    rw [nlit 24, pk_mul, bnd_e]
    exact e
theorem linAll {M : Mm} {a : Nat} {tu : Nat → Nat} {R : Rg} (h : CRing M a tu R) (hP : R 0 0 ≤ 24) : ∀ (k i n : Nat), i + k = 5 → k < n → f_X5_lumpsInAll_L4 a M n (nI (smF (fun l => smF (R (10 + l)) (R 0 0)) i)) (nI i) = some (nI (tot (R 0 0) R)) := by
  intro k
  induction k with
  | zero =>
    intro i n hi hn
    obtain ⟨n, rfl⟩ : ∃ m, n = m + 1 := ⟨n - 1, by omega⟩
    have e : i = 5 := by omega
    subst e
    rw [f_X5_lumpsInAll_L4, nlit 5, ifle (by omega) (by omega), if_pos (by omega)]
    rfl
  | succ k ih =>
    intro i n hi hn
    obtain ⟨n, rfl⟩ : ∃ m, n = m + 1 := ⟨n - 1, by omega⟩
    rw [f_X5_lumpsInAll_L4, nlit 5, ifle (by omega) (by omega), if_neg (by omega), lumpsIn_ok h (by omega) hP, Option.bind_some, bnd_e, bnd_e, nI_add, nI_1]
    exact ih (i + 1) n (by omega) (by omega)
theorem sumL5 {M : Mm} {b nn F T : Nat} {g : Nat → Nat} (hF : F + T ≤ nn) (hn2 : nn < 2000) (hg : ∀ j, j < T → M b (F + j) = nI (g j)) : ∀ (k i n : Nat), i + k = T → k < n → f_X12_sumOf_L5 b nn M n (nI F) (nI T) (nI (smF g i)) (nI i) = some (nI (smF g T)) := by
  intro k
  induction k with
  | zero =>
    intro i n hi hn
    obtain ⟨n, rfl⟩ : ∃ m, n = m + 1 := ⟨n - 1, by omega⟩
    have e : i = T := by omega
    subst e
    rw [f_X12_sumOf_L5, ifle (by omega) (by omega), if_pos (by omega)]
  | succ k ih =>
    intro i n hi hn
    obtain ⟨n, rfl⟩ : ∃ m, n = m + 1 := ⟨n - 1, by omega⟩
    rw [f_X12_sumOf_L5, ifle (by omega) (by omega), if_neg (by omega), nI_add, ck_nI (by omega) (by omega), bnd_e, bnd_e, cl_nI (by omega), hg i (by omega), nI_add, nI_1]
    exact ih (i + 1) n (by omega) (by omega)
theorem sumOf_ok {M : Mm} {b nn F T : Nat} {g : Nat → Nat} (hF : F + T ≤ nn) (hn2 : nn < 2000) (hg : ∀ j, j < T → M b (F + j) = nI (g j)) : f_X12_sumOf b nn (nI F) (nI T) M = some (nI (smF g T)) := by
  unfold f_X12_sumOf
  exact sumL5 hF hn2 hg T 0 2000 (by omega) (by omega)
theorem smF_cut (f : Nat → Nat) {P n : Nat} (h : P ≤ n) : smF (fun p => if p < P then f p else 0) n = smF f P := by
  obtain ⟨d, rfl⟩ : ∃ d, n = P + d := ⟨n - P, by omega⟩
  rw [smF_split]
  have h1 : smF (fun p => if p < P then f p else 0) P = smF f P := smF_cong (fun j hj => if_pos hj)
  have h2 : smF (fun k => if P + k < P then f (P + k) else 0) d = smF (fun _ => 0) d := smF_cong (fun j hj => if_neg (by omega))
  rw [h1, h2, sm0]
  omega
theorem smF_120 (f : Nat → Nat) : smF f 120 = smF (fun l => smF (fun p => f (24 * l + p)) 24) 5 := by
  rw [show 120 = 24 + (24 + (24 + (24 + 24))) from rfl, smF_split f 24, smF_split _ 24, smF_split _ 24, smF_split _ 24]
  show _ = 0 + smF (fun p => f (24 * 0 + p)) 24 + smF (fun p => f (24 * 1 + p)) 24 + smF (fun p => f (24 * 2 + p)) 24 + smF (fun p => f (24 * 3 + p)) 24 + smF (fun p => f (24 * 4 + p)) 24
  have e0 : smF (fun p => f (24 * 0 + p)) 24 = smF f 24 := smF_cong (fun j _ => by rw [show 24 * 0 + j = j by omega])
  have e2 : smF (fun p => f (24 * 2 + p)) 24 = smF (fun k => f (24 + (24 + k))) 24 := smF_cong (fun j _ => by rw [show 24 * 2 + j = 24 + (24 + j) by omega])
  have e3 : smF (fun p => f (24 * 3 + p)) 24 = smF (fun k => f (24 + (24 + (24 + k)))) 24 := smF_cong (fun j _ => by rw [show 24 * 3 + j = 24 + (24 + (24 + j)) by omega])
  have e4 : smF (fun p => f (24 * 4 + p)) 24 = smF (fun k => f (24 + (24 + (24 + (24 + k))))) 24 := smF_cong (fun j _ => by rw [show 24 * 4 + j = 24 + (24 + (24 + (24 + j))) by omega])
  have e1 : smF (fun p => f (24 * 1 + p)) 24 = smF (fun k => f (24 + k)) 24 := rfl
  rw [e0, e1, e2, e3, e4]
  omega
theorem tot_120 (R : Rg) {P : Nat} (hP : P ≤ 24) : smF (fun j => if j % 24 < P then R (10 + j / 24) (j % 24) else 0) 120 = tot P R := by
  rw [smF_120]
  refine smF_cong (fun l hl => ?_)
  rw [← smF_cut (R (10 + l)) hP]
  exact smF_cong (fun p hp => by rw [show (24 * l + p) % 24 = p by omega, show (24 * l + p) / 24 = l by omega])
theorem MLum.at {M : Mm} {b o P : Nat} {R : Rg} (h : MLum M b o P R) {j : Nat} (hj : j < 120) : M b (o + j) = nI (if j % 24 < P then R (10 + j / 24) (j % 24) else 0) := by
  have := h (j / 24) (j % 24) (by omega) (by omega)
  rw [show o + 24 * (j / 24) + j % 24 = o + j by omega] at this
  exact this
def cntv (R : Rg) (u n w : Nat) : Nat := if w = 0 then R 0 0 else if w = 1 then tot (R 0 0) R else if w = 2 then R 0 1 else if w = 3 then R 0 2 else if w = 4 then R 0 3 else if w = 5 then u else n
section STW
variable {x y k : Nat} {M : Mm} {N : Ml}
theorem s_there (hy : y = x + 234) (q0 q1 : Int32) (hI : IInv x y k M N) : ∃ (v : Int32) (M1 M2 : Mm), f_X11_there x q0 q1 M = some (v, M1) ∧ f_X12_there y q0 q1 M1 = some (v, M2) ∧ IInv x y (k + 5) M2 N := by
  obtain ⟨R, tu, c1, m1, s⟩ := hI.ring
  have ec : M (x + 7 + 1) 9 = nI (R 0 0) := c1.1
  have em : M (y + 1) 0 = nI (R 0 0) := m1.1
  have hP := s.1.2
  unfold f_X11_there f_X12_there f_X11_there_J20 f_X12_there_J20 f_X11_there_J28 f_X12_there_J27
  rw [lane_ok, Option.bind_some, ite_b01]
  by_cases c : (0 : Int32) ≤ q0 ∧ q0 ≤ 4
  · rw [if_pos c]
    obtain ⟨l, hl, rfl⟩ := in_nat (b := 4) (by omega) c
    by_cases e : q1 = (-1 : Int32)
    · rw [if_pos e, if_pos e, lumpsIn_ok c1 (by omega) hP, Option.bind_some]
      refine ⟨_, _, M, rfl, ?_, hI.up (by omega)⟩
      rw [mlane_ok, Option.bind_some, ite_b01, if_pos c, if_pos e, if_pos e, mplaces_ok, Option.bind_some, em, nlit 6, nlit 24, pk_mul, nI_add, sumOf_ok (g := R (10 + l)) (by omega) (by omega) (fun j hj => by
        have := m1.2.2.1 l j (by omega) (by omega)
        rw [Nat.zero_add, if_pos hj] at this
        exact this), Option.bind_some]
    · rw [if_neg e, if_neg e, isPlace_ok, Option.bind_some, ite_b01, ec]
      by_cases d : (0 : Int32) ≤ q1 ∧ q1 ≤ nI (R 0 0) - 1
      · obtain ⟨p, hp, rfl⟩ := (cplace_ok q1 _ hP _ rfl).mp d
        rw [if_pos d, lumpsAt_ok c1 (by omega) hp hP, Option.bind_some]
        refine ⟨_, _, M, rfl, ?_, hI.up (by omega)⟩
        rw [mlane_ok, Option.bind_some, ite_b01, if_pos c, if_neg e, if_neg e, misPlace_ok, Option.bind_some, ite_b01, em, if_pos d, nlit 6, nlit 24, pk_mul, nI_add, nI_add, ck_nI (by omega) (by omega), cl_nI (by omega)]
        have := m1.2.2.1 l p (by omega) (by omega)
        rw [Nat.zero_add, if_pos hp] at this
        rw [this]
      · rw [if_neg d, rj]
        refine ⟨_, _, _, rfl, ?_, hI.refused hy (w := 0) (by omega)⟩
        rw [mlane_ok, Option.bind_some, ite_b01, if_pos c, if_neg e, misPlace_ok, Option.bind_some, ite_b01, up2_o _ _ _ (by omega), em, if_neg d, bj]
  · rw [if_neg c, rj]
    refine ⟨_, _, _, rfl, ?_, hI.refused hy (w := 0) (by omega)⟩
    rw [mlane_ok, Option.bind_some, ite_b01, if_neg c, bj]
theorem counted_both (hI : IInv x y k M N) : ∃ (R : Rg) (tu : Nat → Nat) (u n : Nat), CRing M (x + 7 + 1) tu R ∧ MRing M (y + 1) 0 R ∧ ROk k R ∧ ∀ w, w ≤ 6 → f_X11_counted x (nI w) M = some (nI (cntv R u n w)) ∧ f_X12_counted y (nI w) M = some (nI (cntv R u n w)) := by
  obtain ⟨⟨R, u, ps, ⟨⟨tu, c1⟩, c2, -⟩, ⟨m1, m2, -⟩, s⟩, -, ⟨n, hn, t1, t2, t3⟩, -⟩ := hI
  refine ⟨R, tu, u, n, c1, m1, s.1, fun w hw => ?_⟩
  obtain ⟨a1, a2, a3, a4, -⟩ := id c1
  have hP := s.1.1.2
  have b0 := m1.1
  have b2 := m1.2.2.2.1
  have b3 := m1.2.2.2.2.2.1
  have b4 := m1.2.2.2.2.2.2
  rw [Nat.zero_add] at b2 b3 b4 m2
  have e1 : f_X5_lumpsInAll (x + 7 + 1) M = some (nI (tot (R 0 0) R)) := linAll c1 hP 5 0 2000 (by omega) (by omega)
  have e2 : f_X12_sumOf (y + 1) 913 (nI 6) (nI 120) M = some (nI (tot (R 0 0) R)) := by
    rw [← tot_120 R hP]
    exact sumOf_ok (by omega) (by omega) (fun j hj => by
      have := m1.2.2.1.at hj
      rw [Nat.zero_add] at this
      exact this)
  unfold f_X11_counted f_X12_counted cntv
  rw [n0, nlit 1, nlit 2, nlit 3, nlit 4, nlit 5, nlit 6, nlit 120, nlit 148, nlit 149, nlit 150, e1, e2, mplaces_ok, mmoons_ok, ck_nI (by omega) (by omega), ck_nI (by omega) (by omega), ck_nI (by omega) (by omega), cl_nI (by omega), cl_nI (by omega), cl_nI (by omega), a1, a2, a3, a4, c2, t1, t2, b0, b2, b3, b4, m2]
  rcases (show w = 0 ∨ w = 1 ∨ w = 2 ∨ w = 3 ∨ w = 4 ∨ w = 5 ∨ w = 6 by omega) with rfl | rfl | rfl | rfl | rfl | rfl | rfl <;> exact ⟨rfl, rfl⟩
theorem s_count (hy : y = x + 234) (q0 : Int32) (hI : IInv x y k M N) : ∃ (v : Int32) (M1 M2 : Mm), f_X11_count x q0 M = some (v, M1) ∧ f_X12_count y q0 M1 = some (v, M2) ∧ IInv x y (k + 5) M2 N := by
  obtain ⟨R, tu, u, n, -, -, -, h⟩ := counted_both hI
  unfold f_X11_count f_X12_count
  rw [within_ok, Option.bind_some, ite_b01]
  by_cases c : (0 : Int32) ≤ q0 ∧ q0 ≤ 6
  · obtain ⟨w, hw, rfl⟩ := in_nat (b := 6) (by omega) c
    rw [if_pos c, (h w hw).1, Option.bind_some]
    refine ⟨_, _, M, rfl, ?_, hI.up (by omega)⟩
    rw [show (0 : Int64) = (0 : Int32).toInt64 from rfl, show (6 : Int64) = (6 : Int32).toInt64 from rfl, in_ok, Option.bind_some, ite_b01, if_pos c, (h w hw).2, Option.bind_some]
  · rw [if_neg c, rj]
    refine ⟨_, _, _, rfl, ?_, hI.refused hy (w := 0) (by omega)⟩
    rw [show (0 : Int64) = (0 : Int32).toInt64 from rfl, show (6 : Int64) = (6 : Int32).toInt64 from rfl, in_ok, Option.bind_some, ite_b01, if_neg c, bj]
end STW
/-! digest -/
def dgF (f : Nat → Nat) (h : Int64) : Nat → Int64
  | 0 => h
  | n + 1 => 31 * dgF f h n + (nI (f n)).toInt64
theorem dgF_split (f : Nat → Nat) (h : Int64) (a : Nat) : ∀ b, dgF f h (a + b) = dgF (fun k => f (a + k)) (dgF f h a) b
  | 0 => rfl
  | b + 1 => by rw [← Nat.add_assoc, dgF, dgF, dgF_split f h a b]
theorem dgF_cong {f g : Nat → Nat} (h : Int64) : ∀ {n : Nat}, (∀ j, j < n → f j = g j) → dgF f h n = dgF g h n
  | 0, _ => rfl
  | n + 1, e => by rw [dgF, dgF, dgF_cong h (fun j hj => e j (by omega)), e n (by omega)]
/-- over the lanes, from lane l on -/
def dgL (R : Rg) (l : Nat) (h : Int64) : Nat → Int64
  | 0 => h
  | k + 1 => dgL R (l + 1) (dgF (R (10 + l)) (31 * (31 * h + (nI (R 1 l)).toInt64) + (nI (R 2 l)).toInt64) (R 0 0)) k
def mnF (R : Rg) (j : Nat) : Nat := R (3 + j % 4) (j / 4)
section DIG
variable {x y a : Nat} {M : Mm} {N : Ml} {R : Rg} {tu : Nat → Nat}
theorem dg96 (h : CRing M a tu R) (hR : R 0 1 ≤ 4) (kb : Int64 → Int32 → Option Int64) {m : Nat} (hm : m < R 0 1) (v : Int64) : ∀ (k i n : Nat), i + k = 4 → k < n → f_X5_addTo_L96 a M kb n (dgF (fun w => R (3 + w) m) v i) (nI m) (nI i) = kb (dgF (fun w => R (3 + w) m) v 4) (nI (m + 1)) := by
  intro k
  induction k with
  | zero =>
    intro i n hi hn
    obtain ⟨n, rfl⟩ : ∃ m, n = m + 1 := ⟨n - 1, by omega⟩
    have e : i = 4 := by omega
    subst e
    rw [f_X5_addTo_L96, nlit 4, ifle (by omega) (by omega), if_pos (by omega), bnd_e, nI_1]
  | succ k ih =>
    intro i n hi hn
    obtain ⟨n, rfl⟩ : ∃ m, n = m + 1 := ⟨n - 1, by omega⟩
    have e : M (a + 5 + i) m = nI (R (3 + i) m) := by
      obtain ⟨a5, a6, a7, a8⟩ := h.2.2.2.2.2.2 m hm
      rcases (show i = 0 ∨ i = 1 ∨ i = 2 ∨ i = 3 by omega) with rfl | rfl | rfl | rfl
      · exact a5
      · exact a6
      · exact a7
      · exact a8
    rw [f_X5_addTo_L96, nlit 4, ifle (by omega) (by omega), if_neg (by omega), aboutMoon_ok _ _ _ _ (by omega) (by omega), Option.bind_some, bnd_e, bnd_e, nI_1, e]
    exact ih (i + 1) n (by omega) (by omega)
theorem dg84 (h : CRing M a tu R) (hR : R 0 1 ≤ 4) (v : Int64) : ∀ (k i n : Nat), i + k = R 0 1 → k < n → f_X5_addTo_L84 a M n (dgF (mnF R) v (4 * i)) (nI i) = some (dgF (mnF R) v (4 * R 0 1)) := by
  intro k
  induction k with
  | zero =>
    intro i n hi hn
    obtain ⟨n, rfl⟩ : ∃ m, n = m + 1 := ⟨n - 1, by omega⟩
    have e : i = R 0 1 := by omega
    rw [f_X5_addTo_L84, h.2.1, ifle (by omega) (by omega), if_pos (by omega), e]
  | succ k ih =>
    intro i n hi hn
    obtain ⟨n, rfl⟩ : ∃ m, n = m + 1 := ⟨n - 1, by omega⟩
    rw [f_X5_addTo_L84, h.2.1, ifle (by omega) (by omega), if_neg (by omega)]
    have g := dg96 h hR (fun x3 x5 => f_X5_addTo_L84 a M n x3 x5) (show i < R 0 1 by omega) (dgF (mnF R) v (4 * i)) 4 0 2000 (by omega) (by omega)
    refine Eq.trans g ?_
    rw [← ih (i + 1) n (by omega) (by omega), show 4 * (i + 1) = 4 * i + 4 by omega, dgF_split]
    have e : dgF (fun w => R (3 + w) i) (dgF (mnF R) v (4 * i)) 4 = dgF (fun k => mnF R (4 * i + k)) (dgF (mnF R) v (4 * i)) 4 := dgF_cong _ (fun j hj => by
      unfold mnF
      rw [show (4 * i + j) % 4 = j by omega, show (4 * i + j) / 4 = i by omega])
    rw [e]
theorem dg44 (h : CRing M a tu R) (hP : R 0 0 ≤ 24) (kb : Int64 → Int32 → Option Int64) {l : Nat} (hl : l < 5) (v : Int64) : ∀ (k i n : Nat), i + k = R 0 0 → k < n → f_X5_addTo_L44 a M kb n (dgF (R (10 + l)) v i) (nI l) (nI i) = kb (dgF (R (10 + l)) v (R 0 0)) (nI (l + 1)) := by
  intro k
  induction k with
  | zero =>
    intro i n hi hn
    obtain ⟨n, rfl⟩ : ∃ m, n = m + 1 := ⟨n - 1, by omega⟩
    have e : i = R 0 0 := by omega
    rw [f_X5_addTo_L44, h.1, ifle (by omega) (by omega), if_pos (by omega), bnd_e, nI_1, e]
  | succ k ih =>
    intro i n hi hn
    obtain ⟨n, rfl⟩ : ∃ m, n = m + 1 := ⟨n - 1, by omega⟩
    rw [f_X5_addTo_L44, h.1, ifle (by omega) (by omega), if_neg (by omega), lumpsAt_ok h hl (by omega) hP, Option.bind_some, bnd_e, bnd_e, nI_1]
    exact ih (i + 1) n (by omega) (by omega)
theorem dg5 (h : CRing M a tu R) (hP : R 0 0 ≤ 24) (hR : R 0 1 ≤ 4) : ∀ (k i n : Nat) (v : Int64), i + k = 5 → k < n → f_X5_addTo_L5 a M n v (nI i) = some (dgF (mnF R) (dgL R i v k) (4 * R 0 1)) := by
  intro k
  induction k with
  | zero =>
    intro i n v hi hn
    obtain ⟨n, rfl⟩ : ∃ m, n = m + 1 := ⟨n - 1, by omega⟩
    rw [f_X5_addTo_L5, nlit 5, ifle (by omega) (by omega), if_pos (by omega)]
    exact dg84 h hR v (R 0 1) 0 2000 (by omega) (by omega)
  | succ k ih =>
    intro i n v hi hn
    obtain ⟨n, rfl⟩ : ∃ m, n = m + 1 := ⟨n - 1, by omega⟩
    obtain ⟨e1, e2⟩ := h.2.2.2.2.1 i (by omega)
    rw [f_X5_addTo_L5, nlit 5, ifle (by omega) (by omega), if_neg (by omega), ck_nI (by omega) (by omega), bnd_e, ck_nI (by omega) (by omega), bnd_e, cl_nI (by omega), e1, e2]
    have g := dg44 h hP (fun x3 x5 => f_X5_addTo_L5 a M n x3 x5) (show i < 5 by omega) (31 * (31 * v + (nI (R 1 i)).toInt64) + (nI (R 2 i)).toInt64) (R 0 0) 0 2000 (by omega) (by omega)
    exact Eq.trans g (ih (i + 1) n _ (by omega) (by omega))
theorem sums_L {F T : Nat} {g : Nat → Nat} (v : Int64) (hF : F + T ≤ 913) (hg : ∀ j, j < T → M (y + 1) (F + j) = nI (g j)) : ∀ (k i n : Nat), i + k = T → k < n → f_X12_sums_L6 y M n (nI F) (nI T) (dgF g v i) (nI i) = some (dgF g v T) := by
  intro k
  induction k with
  | zero =>
    intro i n hi hn
    obtain ⟨n, rfl⟩ : ∃ m, n = m + 1 := ⟨n - 1, by omega⟩
    have e : i = T := by omega
    subst e
    rw [f_X12_sums_L6, ifle (by omega) (by omega), if_pos (by omega)]
  | succ k ih =>
    intro i n hi hn
    obtain ⟨n, rfl⟩ : ∃ m, n = m + 1 := ⟨n - 1, by omega⟩
    rw [f_X12_sums_L6, ifle (by omega) (by omega), if_neg (by omega), nI_add, ck_nI (by omega) (by omega), bnd_e, bnd_e, cl_nI (by omega), hg i (by omega), nI_1]
    exact ih (i + 1) n (by omega) (by omega)
theorem sums_ok {F T : Nat} {g : Nat → Nat} (v : Int64) (hF : F + T ≤ 913) (hg : ∀ j, j < T → M (y + 1) (F + j) = nI (g j)) : f_X12_sums y v (nI F) (nI T) M = some (dgF g v T) := by
  unfold f_X12_sums
  exact sums_L v hF hg T 0 2000 (by omega) (by omega)
theorem dg33 (h : MRing M (y + 1) 0 R) (hP : R 0 0 ≤ 24) (hR : R 0 1 ≤ 4) : ∀ (k i n : Nat) (v : Int64), i + k = 5 → k < n → f_X12_digest_L33 y M N n v (nI i) = some (31 * (31 * dgF (mnF R) (dgL R i v k) (4 * R 0 1) + N y 4) + N y 5) := by
  obtain ⟨b1, b2, b3, b4, b5, -⟩ := h
  rw [Nat.zero_add] at b4
  intro k
  induction k with
  | zero =>
    intro i n v hi hn
    obtain ⟨n, rfl⟩ : ∃ m, n = m + 1 := ⟨n - 1, by omega⟩
    rw [f_X12_digest_L33, nlit 5, ifle (by omega) (by omega), if_pos (by omega), mmoons_ok, Option.bind_some, b4, nlit 127, nlit 4, pk_mul, sums_ok (g := mnF R) v (by omega) (fun j hj => by
      have := b5 (j / 4) (j % 4) (by omega) (by omega)
      rw [show 0 + 127 + 4 * (j / 4) + j % 4 = 127 + j by omega] at this
      exact this), Option.bind_some]
    rfl
  | succ k ih =>
    intro i n v hi hn
    obtain ⟨n, rfl⟩ : ∃ m, n = m + 1 := ⟨n - 1, by omega⟩
    obtain ⟨e1, e2⟩ := b2 i (by omega)
    rw [Nat.zero_add] at e1 e2
    rw [f_X12_digest_L33, nlit 5, ifle (by omega) (by omega), if_neg (by omega), nlit 1, nlit 143, nI_add, nI_add, ck_nI (by omega) (by omega), ck_nI (by omega) (by omega), bnd_e, cl_nI (by omega), cl_nI (by omega), e1, e2, mplaces_ok, Option.bind_some, b1, nlit 6, nlit 24, pk_mul, nI_add, sums_ok (g := R (10 + i)) _ (by omega) (fun j hj => by
      have := b3 i j (by omega) (by omega)
      rw [Nat.zero_add, if_pos hj] at this
      exact this), Option.bind_some, bnd_e, nI_add]
    exact ih (i + 1) n _ (by omega) (by omega)
end DIG
theorem s_digest {x y k : Nat} {M : Mm} {N : Ml} (hI : IInv x y k M N) : ∃ (v : Int64), f_X11_digest x M N = some v ∧ f_X12_digest y M N = some v ∧ IInv x y (k + 5) M N := by
  obtain ⟨R, tu, u, n, c1, m1, s, h⟩ := counted_both hI
  have hP := s.1.2
  have hR := s.2.1
  have cd : ∀ (k i n' : Nat), i + k = 7 → k < n' → f_X11_digest_L6 x M N n' (dgF (cntv R u n) 821 i) (nI i) = some (31 * (31 * dgF (mnF R) (dgL R 0 (dgF (cntv R u n) 821 7) 5) (4 * R 0 1) + N x 7) + N x 8) := by
    intro k
    induction k with
    | zero =>
      intro i n' hi hn
      obtain ⟨n', rfl⟩ : ∃ m, n' = m + 1 := ⟨n' - 1, by omega⟩
      have e : i = 7 := by omega
      subst e
      have g : f_X5_addTo (x + 7 + 1) (dgF (cntv R u n) 821 7) M = _ := dg5 c1 hP hR 5 0 2000 (dgF (cntv R u n) 821 7) (by omega) (by omega)
      rw [f_X11_digest_L6, nlit 7, ifle (by omega) (by omega), if_pos (by omega), g, Option.bind_some, bnd_e]
    | succ k ih =>
      intro i n' hi hn
      obtain ⟨n', rfl⟩ : ∃ m, n' = m + 1 := ⟨n' - 1, by omega⟩
      rw [f_X11_digest_L6, nlit 7, ifle (by omega) (by omega), if_neg (by omega), (h i (by omega)).1, Option.bind_some, bnd_e, bnd_e, nI_1]
      exact ih (i + 1) n' (by omega) (by omega)
  have md : ∀ (k i n' : Nat), i + k = 7 → k < n' → f_X12_digest_L6 y M N n' (dgF (cntv R u n) 821 i) (nI i) = some (31 * (31 * dgF (mnF R) (dgL R 0 (dgF (cntv R u n) 821 7) 5) (4 * R 0 1) + N y 4) + N y 5) := by
    intro k
    induction k with
    | zero =>
      intro i n' hi hn
      obtain ⟨n', rfl⟩ : ∃ m, n' = m + 1 := ⟨n' - 1, by omega⟩
      have e : i = 7 := by omega
      subst e
      rw [f_X12_digest_L6, nlit 7, ifle (by omega) (by omega), if_pos (by omega)]
      exact dg33 m1 hP hR 5 0 2000 _ (by omega) (by omega)
    | succ k ih =>
      intro i n' hi hn
      obtain ⟨n', rfl⟩ : ∃ m, n' = m + 1 := ⟨n' - 1, by omega⟩
      rw [f_X12_digest_L6, nlit 7, ifle (by omega) (by omega), if_neg (by omega), (h i (by omega)).2, Option.bind_some, bnd_e, bnd_e, nI_1]
      exact ih (i + 1) n' (by omega) (by omega)
  refine ⟨_, cd 7 0 2000 (by omega) (by omega), ?_, hI.up (by omega)⟩
  have g := md 7 0 2000 (by omega) (by omega)
  rw [← hI.2.2.2.2.1, ← hI.2.2.2.2.2] at g
  exact g
