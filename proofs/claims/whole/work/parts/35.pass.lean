/-! a round, on numbers -/
theorem jr_nI {a d : Nat} (ha : a < 2 ^ 31) (h0 : 0 < d) (hd : d < 2 ^ 31) : jr (nI a) (nI d) = nI (a % d) := pk_rem ha h0 hd
abbrev byR (P pl kd p : Nat) : Prop := p = pl ∨ ((kd = 1 ∨ kd = 3) ∧ (p = (pl + 1) % P ∨ p = (pl + P - 1) % P))
/-- where a lane's lumps go, 3 more than the lane -/
def toL (kd ed l : Nat) : Nat := if l = ed then (if kd = 3 then l + 5 else if kd = 2 then l + 2 else l + 4) else if l + 1 = ed then (if kd = 3 then l + 1 else if kd = 2 then l + 4 else l + 2) else l + 3
def ncK (kd ed : Nat) (c : Nat → Nat) (l n : Nat) : Nat := smF (fun l' => if toL kd ed l' = l + 3 then c l' else 0) n
def lcK (kd ed : Nat) (c : Nat → Nat) (n : Nat) : Nat := smF (fun l' => if 3 ≤ toL kd ed l' ∧ toL kd ed l' < 8 then 0 else c l') n
def colR (R : Rg) (p kd ed : Nat) : Rg := fun b j => if (10 ≤ b ∧ b < 15) ∧ j = p then ncK kd ed (fun l' => R (10 + l') p) (b - 10) 5 else R b j
def setZ (R : Rg) (z p v : Nat) : Rg := if 3 ≤ z ∧ z < 8 then updR R (7 + z) p v else R
theorem col_sum (kd ed : Nat) (c : Nat → Nat) (hk : kd ≤ 4) (he : ed ≤ 5) : smF (fun l => ncK kd ed c l 5) 5 + lcK kd ed c 5 = smF c 5 := by
  rcases (show kd = 0 ∨ kd = 1 ∨ kd = 2 ∨ kd = 3 ∨ kd = 4 by omega) with rfl | rfl | rfl | rfl | rfl <;>
  rcases (show ed = 0 ∨ ed = 1 ∨ ed = 2 ∨ ed = 3 ∨ ed = 4 ∨ ed = 5 by omega) with rfl | rfl | rfl | rfl | rfl | rfl <;>
  simp [ncK, lcK, smF, toL] <;> omega
theorem tot_col (R : Rg) : ∀ P, tot P R = smF (fun p => smF (fun l => R (10 + l) p) 5) P
  | 0 => by simp [tot, smF]
  | P + 1 => by
    rw [smF, ← tot_col R P]
    simp only [tot, smF]
    omega
theorem colR_tot (R : Rg) {P p kd ed : Nat} (hp : p < P) (hk : kd ≤ 4) (he : ed ≤ 5) : tot P (colR R p kd ed) + lcK kd ed (fun l' => R (10 + l') p) 5 = tot P R := by
  rw [tot_col, tot_col]
  have h1 := smF_upd (fun q => smF (fun l => R (10 + l) q) 5) p (smF (fun l => ncK kd ed (fun l' => R (10 + l') p) l 5) 5) hp
  have h2 := col_sum kd ed (fun l' => R (10 + l') p) hk he
  have h3 : smF (fun q => smF (fun l => colR R p kd ed (10 + l) q) 5) P = smF (fun q => if q = p then smF (fun l => ncK kd ed (fun l' => R (10 + l') p) l 5) 5 else smF (fun l => R (10 + l) q) 5) P := smF_cong (fun q hq => by
    by_cases e : q = p
    · subst e
      rw [if_pos rfl]
      exact smF_cong (fun l hl => by
        show (if (10 ≤ 10 + l ∧ 10 + l < 15) ∧ q = q then ncK kd ed (fun l' => R (10 + l') q) (10 + l - 10) 5 else R (10 + l) q) = _
        rw [if_pos ⟨by omega, rfl⟩, show 10 + l - 10 = l by omega])
    · rw [if_neg e]
      exact smF_cong (fun l hl => by
        show (if (10 ≤ 10 + l ∧ 10 + l < 15) ∧ q = p then ncK kd ed (fun l' => R (10 + l') p) (10 + l - 10) 5 else R (10 + l) q) = _
        rw [if_neg (by omega)]))
  rw [h3]
  omega
/-! the class's side -/
theorem lane_z {z : Nat} (hz : z ≤ 10) : ((0 : Int32) ≤ nI z - nI 3 ∧ nI z - nI 3 ≤ 4) ↔ (3 ≤ z ∧ z < 8) := by
  rcases (show z = 0 ∨ z = 1 ∨ z = 2 ∨ z = 3 ∨ z = 4 ∨ z = 5 ∨ z = 6 ∨ z = 7 ∨ z = 8 ∨ z = 9 ∨ z = 10 by omega) with rfl | rfl | rfl | rfl | rfl | rfl | rfl | rfl | rfl | rfl | rfl <;> decide
theorem takeZ {M : Mm} {a z p : Nat} {tu : Nat → Nat} {R : Rg} (h : CRing M a tu R) (hP : R 0 0 ≤ 24) (hp : p < R 0 0) (hz : z ≤ 10) : ∃ M', f_X5_takeAll a (nI z - nI 3) (nI p) M = some (nI (if 3 ≤ z ∧ z < 8 then R (7 + z) p else 0), M') ∧ CRing M' a tu (setZ R z p 0) ∧ ∀ q, q ≠ a + 3 → M' q = M q := by
  unfold f_X5_takeAll setZ
  rw [lane_ok, Option.bind_some, ite_b01]
  by_cases hl : 3 ≤ z ∧ z < 8
  · obtain ⟨l, rfl⟩ : ∃ l, z = l + 3 := ⟨z - 3, by omega⟩
    have hl5 : l < 5 := by omega
    have e1 : nI (l + 3) - nI 3 = nI l := by rw [pk_sub (by omega)]; congr 1
    obtain ⟨h4, ht⟩ := h.2.2.2.2.2.1.1 l hl5
    have hs := sea_lt hp ht
    rw [if_pos ((lane_z hz).mpr hl), if_pos hl, if_pos hl, e1, seat_ok h4 h.1 hl5 hp ht hP, Option.bind_some, ck_nI (by omega) (by omega), bnd_e, ck_nI (by omega) (by omega), bnd_e, cl_nI (by omega), h.2.2.2.2.2.1.2 l p hl5 hp, show 7 + (l + 3) = 10 + l by omega]
    exact ⟨_, rfl, h.setLumps hl5 hp hP 0, fun q hq => up2_o _ _ _ hq⟩
  · rw [if_neg (fun q => hl ((lane_z hz).mp q)), if_neg hl, if_neg hl]
    exact ⟨M, rfl, h, fun q _ => rfl⟩
theorem putZ {M : Mm} {a z p v : Nat} {tu : Nat → Nat} {R : Rg} (h : CRing M a tu R) (hP : R 0 0 ≤ 24) (hp : p < R 0 0) (hz : z ≤ 10) : ∃ M', f_X5_put a (nI z - nI 3) (nI p) (nI v) M = some (nI (if 3 ≤ z ∧ z < 8 then 0 else v), M') ∧ CRing M' a tu (setZ R z p (R (7 + z) p + v)) ∧ ∀ q, q ≠ a + 3 → M' q = M q := by
  unfold f_X5_put setZ
  rw [lane_ok, Option.bind_some, ite_b01]
  by_cases hl : 3 ≤ z ∧ z < 8
  · obtain ⟨l, rfl⟩ : ∃ l, z = l + 3 := ⟨z - 3, by omega⟩
    have hl5 : l < 5 := by omega
    have e1 : nI (l + 3) - nI 3 = nI l := by rw [pk_sub (by omega)]; congr 1
    obtain ⟨h4, ht⟩ := h.2.2.2.2.2.1.1 l hl5
    have hs := sea_lt hp ht
    rw [if_pos ((lane_z hz).mpr hl), if_pos hl, if_pos hl, e1, seat_ok h4 h.1 hl5 hp ht hP, Option.bind_some, ck_nI (by omega) (by omega), ck_nI (by omega) (by omega), bnd_e, cl_nI (by omega), h.2.2.2.2.2.1.2 l p hl5 hp, show 7 + (l + 3) = 10 + l by omega, nI_add]
    exact ⟨_, rfl, h.setLumps hl5 hp hP _, fun q hq => up2_o _ _ _ hq⟩
  · rw [if_neg (fun q => hl ((lane_z hz).mp q)), if_neg hl, if_neg hl]
    exact ⟨M, rfl, h, fun q _ => rfl⟩
/-- the lanes to which the outer and the inner lumps go, 3 more -/
def zO (kd ed : Nat) : Nat := if kd = 3 then ed + 5 else if kd = 2 then ed + 2 else ed + 4
def zI (kd ed : Nat) : Nat := if kd = 3 then ed else if kd = 2 then ed + 3 else ed + 1
def four (R : Rg) (p kd ed : Nat) : Rg :=
  let R2 := setZ (setZ R (ed + 3) p 0) (ed + 2) p 0
  let o := if 3 ≤ ed + 3 ∧ ed + 3 < 8 then R (7 + (ed + 3)) p else 0
  let i := if 3 ≤ ed + 2 ∧ ed + 2 < 8 then (setZ R (ed + 3) p 0) (7 + (ed + 2)) p else 0
  let R3 := setZ R2 (zO kd ed) p (R2 (7 + zO kd ed) p + o)
  setZ R3 (zI kd ed) p (R3 (7 + zI kd ed) p + i)
theorem four_out (R : Rg) (p kd ed b j : Nat) (h : ¬ ((10 ≤ b ∧ b < 15) ∧ j = p)) : four R p kd ed b j = R b j := by
  have s : ∀ (R : Rg) z v, setZ R z p v b j = R b j := fun R z v => by
    unfold setZ
    split
    · rw [updR_at, if_neg (by omega)]
    · rfl
  unfold four
  simp only [s]
theorem four_col (R : Rg) (p kd ed : Nat) (hk : kd ≤ 4) (he : ed ≤ 5) : four R p kd ed = colR R p kd ed := by
  funext b j
  by_cases h : (10 ≤ b ∧ b < 15) ∧ j = p
  · obtain ⟨h1, rfl⟩ := h
    rw [show colR R j kd ed b j = ncK kd ed (fun l' => R (10 + l') j) (b - 10) 5 from if_pos ⟨h1, rfl⟩]
    rcases (show kd = 0 ∨ kd = 1 ∨ kd = 2 ∨ kd = 3 ∨ kd = 4 by omega) with rfl | rfl | rfl | rfl | rfl <;>
    rcases (show ed = 0 ∨ ed = 1 ∨ ed = 2 ∨ ed = 3 ∨ ed = 4 ∨ ed = 5 by omega) with rfl | rfl | rfl | rfl | rfl | rfl <;>
    rcases (show b = 10 ∨ b = 11 ∨ b = 12 ∨ b = 13 ∨ b = 14 by omega) with rfl | rfl | rfl | rfl | rfl <;>
    simp [four, setZ, zO, zI, ncK, smF, toL, updR] <;> omega
  · rw [four_out R p kd ed b j h]
    simp only [colR]
    rw [if_neg h]
def foI (kd : Nat) : Int32 := if kd = 2 then -1 else if kd = 3 then 2 else 1
theorem col_ok {M : Mm} {a p kd ed : Nat} {tu : Nat → Nat} {R : Rg} (h : CRing M a tu R) (hP : R 0 0 ≤ 24) (hp : p < R 0 0) (hk : kd ≤ 4) (he : ed ≤ 5) : ∃ r1 M1 r2 M2 r3 M3 r4 M4, f_X5_takeAll a (nI ed) (nI p) M = some (r1, M1) ∧ f_X5_takeAll a (nI ed - 1) (nI p) M1 = some (r2, M2) ∧ f_X5_put a (nI ed + foI kd) (nI p) r1 M2 = some (r3, M3) ∧ f_X5_put a ((nI ed - 1) - foI kd) (nI p) r2 M3 = some (r4, M4) ∧ r3 + r4 = nI (lcK kd ed (fun l' => R (10 + l') p) 5) ∧ CRing M4 a tu (colR R p kd ed) ∧ ∀ q, q ≠ a + 3 → M4 q = M q := by
  have e1 : nI ed = nI (ed + 3) - nI 3 := by rw [pk_sub (by omega)]; congr 1
  have e2 : nI ed - 1 = nI (ed + 2) - nI 3 := by
    rcases (show ed = 0 ∨ ed = 1 ∨ ed = 2 ∨ ed = 3 ∨ ed = 4 ∨ ed = 5 by omega) with rfl | rfl | rfl | rfl | rfl | rfl <;> decide
  have e3 : nI ed + foI kd = nI (zO kd ed) - nI 3 := by
    rcases (show kd = 0 ∨ kd = 1 ∨ kd = 2 ∨ kd = 3 ∨ kd = 4 by omega) with rfl | rfl | rfl | rfl | rfl <;>
    rcases (show ed = 0 ∨ ed = 1 ∨ ed = 2 ∨ ed = 3 ∨ ed = 4 ∨ ed = 5 by omega) with rfl | rfl | rfl | rfl | rfl | rfl <;> decide
  have e4 : (nI ed - 1) - foI kd = nI (zI kd ed) - nI 3 := by
    rcases (show kd = 0 ∨ kd = 1 ∨ kd = 2 ∨ kd = 3 ∨ kd = 4 by omega) with rfl | rfl | rfl | rfl | rfl <;>
    rcases (show ed = 0 ∨ ed = 1 ∨ ed = 2 ∨ ed = 3 ∨ ed = 4 ∨ ed = 5 by omega) with rfl | rfl | rfl | rfl | rfl | rfl <;> decide
  have z0 : ∀ (R : Rg) z v, setZ R z p v 0 0 = R 0 0 := fun R z v => by
    unfold setZ
    split
    · rw [updR_at, if_neg (by omega)]
    · rfl
  have hO : zO kd ed ≤ 10 := by unfold zO; split <;> (try split) <;> omega
  rw [e4, e2, e3]
  obtain ⟨M1, t1, c1, k1⟩ := takeZ (z := ed + 3) h hP hp (by omega)
  rw [← e1] at t1
  obtain ⟨M2, t2, c2, k2⟩ := takeZ (z := ed + 2) (p := p) c1 (by rw [z0]; exact hP) (by rw [z0]; exact hp) (by omega)
  obtain ⟨M3, t3, c3, k3⟩ := putZ (z := zO kd ed) (p := p) (v := if 3 ≤ ed + 3 ∧ ed + 3 < 8 then R (7 + (ed + 3)) p else 0) c2 (by rw [z0, z0]; exact hP) (by rw [z0, z0]; exact hp) hO
  obtain ⟨M4, t4, c4, k4⟩ := putZ (z := zI kd ed) (p := p) (v := if 3 ≤ ed + 2 ∧ ed + 2 < 8 then (setZ R (ed + 3) p 0) (7 + (ed + 2)) p else 0) c3 (by rw [z0, z0, z0]; exact hP) (by rw [z0, z0, z0]; exact hp) (by unfold zI; split <;> (try split) <;> omega)
  refine ⟨_, M1, _, M2, _, M3, _, M4, t1, t2, t3, t4, ?_, ?_, fun q hq => by rw [k4 q hq, k3 q hq, k2 q hq, k1 q hq]⟩
  · rw [nI_add]
    congr 1
    rcases (show kd = 0 ∨ kd = 1 ∨ kd = 2 ∨ kd = 3 ∨ kd = 4 by omega) with rfl | rfl | rfl | rfl | rfl <;>
    rcases (show ed = 0 ∨ ed = 1 ∨ ed = 2 ∨ ed = 3 ∨ ed = 4 ∨ ed = 5 by omega) with rfl | rfl | rfl | rfl | rfl | rfl <;>
    simp [lcK, smF, toL, zO, zI, setZ, updR]
  · have := c4
    rw [← four_col R p kd ed hk he]
    exact c4
