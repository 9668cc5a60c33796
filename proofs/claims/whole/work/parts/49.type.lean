/-! type -/
theorem byt_and (v : BitVec 64) (s : Nat) (hs : s ≤ 56) : v.sshiftRight s &&& 255#64 = v >>> s &&& 255#64 := by
  apply BitVec.eq_of_getLsbD_eq
  intro i hi
  rw [BitVec.getLsbD_and, BitVec.getLsbD_and]
  by_cases h : i < 8
  · congr 1
    rw [BitVec.getLsbD_sshiftRight, BitVec.getLsbD_ushiftRight]
    simp [show ¬ 64 ≤ i by omega, show s + i < 64 by omega]
  · have e : (255#64).getLsbD i = false := by
      rw [BitVec.getLsbD_ofNat, show (255 : Nat) = 2 ^ 8 - 1 from rfl, Nat.testBit_two_pow_sub_one]
      simp [h]
    rw [e, Bool.and_false, Bool.and_false]
theorem sh_s (x : Int64) {i : Nat} (hi : i < 8) : jsrL x (nI 8 * nI i) &&& 255 = jusrL x (nI 8 * nI i) &&& 255 := by
  rw [pk_mul]
  have e1 : (jsrL x (nI (8 * i))).toBitVec = x.toBitVec.sshiftRight (8 * i) := by
    have hs : (((nI (8 * i)).toInt64 &&& 63).toBitVec.smod 64).toNat = 8 * i := by
      rcases (show i = 0 ∨ i = 1 ∨ i = 2 ∨ i = 3 ∨ i = 4 ∨ i = 5 ∨ i = 6 ∨ i = 7 by omega) with rfl | rfl | rfl | rfl | rfl | rfl | rfl | rfl <;> decide
    show x.toBitVec.sshiftRight (((nI (8 * i)).toInt64 &&& 63).toBitVec.smod 64).toNat = _
    rw [hs]
  have e2 : (jusrL x (nI (8 * i))).toBitVec = x.toBitVec >>> (8 * i) := by
    have hs : (((nI (8 * i)).toInt64.toUInt64 &&& Int64.toUInt64 63).toBitVec % 64).toNat = 8 * i := by
      rcases (show i = 0 ∨ i = 1 ∨ i = 2 ∨ i = 3 ∨ i = 4 ∨ i = 5 ∨ i = 6 ∨ i = 7 by omega) with rfl | rfl | rfl | rfl | rfl | rfl | rfl | rfl <;> decide
    refine (UInt64.toBitVec_shiftRight _ _).trans ?_
    show x.toBitVec >>> (((nI (8 * i)).toInt64.toUInt64 &&& Int64.toUInt64 63).toBitVec % 64).toNat = _
    rw [hs]
  apply Int64.toBitVec_inj.mp
  rw [Int64.toBitVec_and, Int64.toBitVec_and, e1, e2]
  exact byt_and _ _ (by omega)
theorem and255 (w : Int64) : ∃ c, c < 256 ∧ (w &&& 255).toInt32 = nI c := by
  have hlt : w.toBitVec.toNat % 256 < 256 := Nat.mod_lt _ (by omega)
  refine ⟨w.toBitVec.toNat % 256, hlt, ?_⟩
  apply Int32.toBitVec_inj.mp
  apply BitVec.eq_of_toNat_eq
  rw [pk_tn (by omega)]
  show ((w &&& 255).toBitVec.signExtend 32).toNat = _
  rw [BitVec.signExtend_eq_setWidth_of_le _ (by omega), BitVec.toNat_setWidth, Int64.toBitVec_and, BitVec.toNat_and]
  show (w.toBitVec.toNat &&& 255) % 2 ^ 32 = w.toBitVec.toNat % 256
  rw [show (255 : Nat) = 2 ^ 8 - 1 from rfl, Nat.and_two_pow_sub_one_eq_mod]
  omega
def tyB (v : Int64) (i : Nat) : Int32 := (jsrL v (nI 8 * nI i) &&& 255).toInt32
theorem ty5 {t : Nat} (v : Int64) : ∀ (i n s : Nat) (M : Mm), i < n → i ≤ 8 → s + i ≤ 250 → M t 1 = nI s → ∃ M', f_X9_add_L5 t n v (nI i - 1) M = some M' ∧ M' t 1 = nI (s + i) ∧ (∀ j, j < i → M' (t + 1) (s + j) = tyB v (i - 1 - j)) ∧ (∀ q, q < s → M' (t + 1) q = M (t + 1) q) ∧ ∀ q, q ≠ t → q ≠ t + 1 → M' q = M q := by
  intro i
  induction i with
  | zero =>
    intro n s M hn h8 hs h1
    obtain ⟨n, rfl⟩ : ∃ m, n = m + 1 := ⟨n - 1, by omega⟩
    refine ⟨M, ?_, h1, fun j hj => by omega, fun _ _ => rfl, fun _ _ _ => rfl⟩
    rw [f_X9_add_L5, if_pos (by decide)]
  | succ i ih =>
    intro n s M hn h8 hs h1
    obtain ⟨n, rfl⟩ : ∃ m, n = m + 1 := ⟨n - 1, by omega⟩
    obtain ⟨M', e, a1, a2, a3, a4⟩ := ih n (s + 1) (up2 (up2 M (t + 1) s (tyB v i)) t 1 (nI (s + 1))) (by omega) (by omega) (by omega) (by rw [up2_at, if_pos ⟨rfl, rfl⟩])
    refine ⟨M', ?_, by rw [a1]; congr 1; omega, fun j hj => ?_, fun q hq => ?_, fun q h2 h3 => by rw [a4 q h2 h3, up2_o _ _ _ h2, up2_o _ _ _ h3]⟩
    · rw [f_X9_add_L5, nI_pred, if_neg (nI_pos (by omega)), h1, ck_nI (by omega) (by omega), bnd_e, cl_nI (by omega), bnd_e, up2_o _ _ _ (by omega), h1, nI_1, bnd_e, nlit 8, show nI i + (-1 : Int32) = nI i - 1 from (Int32.sub_eq_add_neg _ _).symm]
      exact e
    · by_cases h : j = 0
      · subst h
        rw [Nat.add_zero, a3 _ (by omega), up2_o _ _ _ (by omega), up2_at, if_pos ⟨rfl, rfl⟩]
        congr 1
      · have := a2 (j - 1) (by omega)
        rw [show s + 1 + (j - 1) = s + j by omega] at this
        rw [this]
        congr 1
        omega
    · rw [a3 q (by omega), up2_o _ _ _ (by omega), up2_at, if_neg (by omega)]
theorem ty41 {y : Nat} (v : Int64) : ∀ (i n s : Nat) (M : Mm), i < n → i ≤ 8 → s + i ≤ 250 → M y 18 = nI s → ∃ M', f_X12_type_L41 y n v (nI i - 1) M = some (nI (s + i), M') ∧ M' y 18 = nI (s + i) ∧ (∀ j, j < i → M' (y + 11) (s + j) = tyB v (i - 1 - j)) ∧ (∀ q, q < s → M' (y + 11) q = M (y + 11) q) ∧ ∀ q, q ≠ y → q ≠ y + 11 → M' q = M q := by
  intro i
  induction i with
  | zero =>
    intro n s M hn h8 hs h1
    obtain ⟨n, rfl⟩ : ∃ m, n = m + 1 := ⟨n - 1, by omega⟩
    refine ⟨M, ?_, h1, fun j hj => by omega, fun _ _ => rfl, fun _ _ _ => rfl⟩
    rw [f_X12_type_L41, if_pos (by decide), h1]
    rfl
  | succ i ih =>
    intro n s M hn h8 hs h1
    obtain ⟨n, rfl⟩ : ∃ m, n = m + 1 := ⟨n - 1, by omega⟩
    obtain ⟨M', e, a1, a2, a3, a4⟩ := ih n (s + 1) (up2 (up2 M (y + 11) s (tyB v i)) y 18 (nI (s + 1))) (by omega) (by omega) (by omega) (by rw [up2_at, if_pos ⟨rfl, rfl⟩])
    rw [show s + 1 + i = s + (i + 1) by omega] at e
    refine ⟨M', ?_, by rw [a1]; congr 1; omega, fun j hj => ?_, fun q hq => ?_, fun q h2 h3 => by rw [a4 q h2 h3, up2_o _ _ _ h2, up2_o _ _ _ h3]⟩
    · have hb : (jusrL v (nI 8 * nI i) &&& 255).toInt32 = tyB v i := by
        unfold tyB
        rw [sh_s v (by omega)]
      rw [f_X12_type_L41, nI_pred, if_neg (nI_pos (by omega)), h1, ck_nI (by omega) (by omega), bnd_e, cl_nI (by omega), bnd_e, up2_o _ _ _ (by omega), h1, nI_1, bnd_e, nlit 8, hb, show nI i + (-1 : Int32) = nI i - 1 from (Int32.sub_eq_add_neg _ _).symm]
      exact e
    · by_cases h : j = 0
      · subst h
        rw [Nat.add_zero, a3 _ (by omega), up2_o _ _ _ (by omega), up2_at, if_pos ⟨rfl, rfl⟩]
        congr 1
      · have := a2 (j - 1) (by omega)
        rw [show s + 1 + (j - 1) = s + j by omega] at this
        rw [this]
        congr 1
        omega
    · rw [a3 q (by omega), up2_o _ _ _ (by omega), up2_at, if_neg (by omega)]
section STA
variable {x y k : Nat} {M : Mm} {N : Ml}
theorem s_type (hy : y = x + 234) (q0 : Int64) (q1 : Int32) (hI : IInv x y k M N) : ∃ (v : Int32) (M1 M2 : Mm), f_X11_type x q0 q1 M = some (v, M1) ∧ f_X12_type y q0 q1 M1 = some (v, M2) ∧ IInv x y (k + 5) M2 N := by
  unfold f_X11_type f_X12_type
  rw [within_ok, Option.bind_some, ite_b01]
  by_cases c : (1 : Int32) ≤ q1 ∧ q1 ≤ 8
  · rw [if_pos c]
    obtain ⟨h1, h2, ⟨n, hn, t1, t2, t3⟩, h4, h5⟩ := hI.up (show k ≤ k + 5 by omega)
    obtain ⟨i, hi1, hi2, rfl⟩ := in_nat2 (a := 1) (b := 8) (by omega) (by omega) c
    rw [t1, nI_add, nlit 250, ifle (by omega) (by omega)]
    by_cases hf : n + i ≤ 250
    · obtain ⟨M1, e1, a1, a2, a3, a4⟩ := ty5 (t := x + 220) q0 i 2000 n M (by omega) (by omega) (by omega) t1
      have t2' : M1 y 18 = nI n := by rw [a4 _ (by omega) (by omega)]; exact t2
      obtain ⟨M2, e2, b1, b2, b3, b4⟩ := ty41 (y := y) q0 i 2000 n M1 (by omega) (by omega) (by omega) t2'
      have ea : f_X9_add (x + 220) q0 (nI i) M = some M1 := by
        unfold f_X9_add
        rw [bnd_e]
        exact e1
      rw [if_pos hf, ea, Option.bind_some, a1]
      refine ⟨_, M1, M2, rfl, ?_, ?_⟩
      · rw [show (1 : Int64) = (1 : Int32).toInt64 from rfl, show (8 : Int64) = (8 : Int32).toInt64 from rfl, in_ok, Option.bind_some, ite_b01, if_pos c, t2', nI_add, ifle (by omega) (by omega), if_pos hf, bnd_e]
        exact e2
      · have kk : ∀ q, q ≠ x + 220 → q ≠ x + 221 → q ≠ y → q ≠ y + 11 → M2 q = M q := fun q g1 g2 g3 g4 => by rw [b4 q g3 g4, a4 q g1 g2]
        refine ⟨h1.mono (fun q g1 g2 => kk q (by omega) (by omega) (by omega) (by omega)) (kk _ (by omega) (by omega) (by omega) (by omega)), h2.mono (fun q g1 g2 => kk q (by omega) (by omega) (by omega) (by omega)) (kk _ (by omega) (by omega) (by omega) (by omega)) (kk _ (by omega) (by omega) (by omega) (by omega)), ⟨n + i, hf, ?_, b1, fun j hj => ?_⟩, fun j hj => ?_, h5⟩
        · rw [b4 _ (by omega) (by omega)]; exact a1
        · rw [b4 (x + 221) (by omega) (by omega)]
          by_cases hjn : j < n
          · obtain ⟨cc, g1, g2, g3⟩ := t3 j hjn
            exact ⟨cc, g1, by rw [a3 j hjn]; exact g2, by rw [b3 j hjn, a4 _ (by omega) (by omega)]; exact g3⟩
          · obtain ⟨cc, g1, g2⟩ := and255 (jsrL q0 (nI 8 * nI (i - 1 - (j - n))))
            refine ⟨cc, g1, ?_, ?_⟩
            · have := a2 (j - n) (by omega)
              rw [show n + (j - n) = j by omega] at this
              exact this.trans g2
            · have := b2 (j - n) (by omega)
              rw [show n + (j - n) = j by omega] at this
              exact this.trans g2
        · rw [kk _ (by omega) (by omega) (by omega) (by omega), kk _ (by omega) (by omega) (by omega) (by omega)]; exact h4 j hj
    · rw [if_neg hf, rj2]
      refine ⟨_, _, _, rfl, ?_, hI.refused hy (w := 2) (by omega)⟩
      rw [show (1 : Int64) = (1 : Int32).toInt64 from rfl, show (8 : Int64) = (8 : Int32).toInt64 from rfl, in_ok, Option.bind_some, ite_b01, if_pos c, up2_o _ _ _ (by omega), t2, nI_add, ifle (by omega) (by omega), if_neg hf, bj2]
  · rw [if_neg c, rj]
    refine ⟨_, _, _, rfl, ?_, hI.refused hy (w := 0) (by omega)⟩
    rw [show (1 : Int64) = (1 : Int32).toInt64 from rfl, show (8 : Int64) = (8 : Int32).toInt64 from rfl, in_ok, Option.bind_some, ite_b01, if_neg c, bj]
end STA
