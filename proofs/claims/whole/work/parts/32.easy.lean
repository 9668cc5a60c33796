theorem bd2_some {α β γ : Type} (a : α) (b : β) (f : α → β → Option γ) : bd2 (some (a, b)) f = f a b := Eq.trans (Eq.refl (f a b)) rfl
theorem rj (x : Nat) (v : Int32) (M : Mm) : (bd2 (f_X11_refuse x (0 : Int32) v M) fun r M' => some (r, M')) = some (v, up2 M (x + 233) 0 (M (x + 233) 0 + 1)) := by
  rw [n0, refuse_ok x 0 (by omega), bd2_some]
theorem bj (y : Nat) (v : Int32) (M : Mm) : (bd2 (f_X12_bad y v M) fun r M' => some (r, M')) = some (v, up2 M (y + 4) 0 (M (y + 4) 0 + 1)) := by
  rw [bad_ok, bd2_some]
/-- the start -/
def R0 : Rg := fun a l => if a = 0 then (if l = 0 then 12 else 0) else if a = 1 then 5 - l else 0
theorem R0_tot : tot (R0 0 0) R0 = 0 := by decide
theorem sm0 : ∀ n, smF (fun _ => 0) n = 0
  | 0 => rfl
  | n + 1 => by rw [smF, sm0 n]
theorem inv_init (x : Nat) (M : Mm) (N : Ml) (ht : tInit M N x) (hm : mInit M N (x + 234)) : IInv x (x + 234) 0 M N := by
  obtain ⟨⟨r1, r2, r3, r4, r5, r6, r7, r8⟩, t2, t3, t4, t5, t6, t7, t8⟩ := ht
  obtain ⟨⟨M0, m1⟩, m2, m3, m4, m5, m6⟩ := hm
  have hrow : ∀ j, M (x + 234 + 1) j = if j = 0 then 12 else if j < 6 then nI (6 - j) else if j < 151 then 0 else M0 (x + 234 + 1) j := by
    intro j
    rw [m1]
    simp [mbegM]
  refine ⟨⟨R0, 0, fun _ => R0, ⟨⟨fun _ => 0, ?_⟩, t3.1, fun i hi => ⟨0, by omega, t3.2 i hi⟩, 0, by omega, t2, fun i hi => by omega⟩, ⟨?_, ?_, fun i hi => by omega⟩, ⟨?_, by omega, fun i hi => by omega⟩⟩, fun i hi => Or.inl ⟨t4 i, m2 i⟩, ⟨0, by omega, t5, m4, fun i hi => by omega⟩, fun j _ => by rw [t6 j, m3 j], by rw [t7, m5], by rw [t8, m6]⟩
  · refine ⟨r1, r2, r3, r4, fun l hl => ⟨r5 l hl, r6 l hl⟩, ⟨fun l hl => ⟨r8 l hl, by show 0 < 12; omega⟩, fun l p hl hp => ?_⟩, fun j hj => absurd hj (by show ¬ j < 0; omega)⟩
    have hp : p < 12 := hp
    rw [r7 _ (by simp [sea]; omega)]
    have h10 : ¬ 10 + l = 1 := by omega
    simp [R0, h10]
    rfl
  · refine ⟨?_, fun l hl => ⟨?_, ?_⟩, fun l p hl hp => ?_, ?_, fun j w hj => absurd hj (by show ¬ j < 0; omega), ?_, ?_⟩
    · rw [hrow]; rfl
    · rw [hrow, if_neg (by omega), if_pos (by omega)]
      show nI (6 - (0 + 1 + l)) = nI (5 - l)
      congr 1
      omega
    · rw [hrow, if_neg (by omega), if_neg (by omega), if_pos (by omega)]
      rfl
    · rw [hrow, if_neg (by omega), if_neg (by omega), if_pos (by omega)]
      have h10 : ¬ 10 + l = 1 := by omega
      simp [R0, h10]
      rfl
    · rw [hrow]; rfl
    · rw [hrow]; rfl
    · rw [hrow]; rfl
  · rw [hrow]; rfl
  · refine ⟨⟨by decide, by decide⟩, by decide, by decide, by decide, fun l hl => ?_, fun j hj => absurd hj (by show ¬ j < 0; omega), by rw [R0_tot]; omega⟩
    show 5 - l ≤ 9 ∧ 0 ≤ 9999
    omega
section STP
variable {x y k : Nat} {M : Mm} {N : Ml}
theorem s_none (hI : IInv x y k M N) : IInv x y (k + 5) M N := hI.up (by omega)
theorem s_clear (hy : y = x + 234) (hI : IInv x y k M N) : ∃ (v : Int32) (M1 M2 : Mm), f_X11_clear x M = some (v, M1) ∧ f_X12_clear y M1 = some (v, M2) ∧ IInv x y (k + 5) M2 N := by
  subst hy
  obtain ⟨h1, h2, ⟨n, hn, t1, t2, t3⟩, h4, h5⟩ := hI.up (show k ≤ k + 5 by omega)
  refine ⟨nI n, up2 M (x + 220) 1 0, up2 (up2 M (x + 220) 1 0) (x + 234) 18 0, ?_, ?_, ?_⟩
  · unfold f_X11_clear
    rw [bnd_e, bnd_e, t1]
  · unfold f_X12_clear
    rw [bnd_e, bnd_e, up2_o _ _ _ (by omega), t2]
  · have hne : ∀ q, q ≠ x + 220 → q ≠ x + 234 → up2 (up2 M (x + 220) 1 0) (x + 234) 18 0 q = M q := fun q a b => by rw [up2_o _ _ _ b, up2_o _ _ _ a]
    refine ⟨h1.mono (fun q a b => hne q (by omega) (by omega)) (hne _ (by omega) (by omega)), h2.mono (fun q a b => hne q (by omega) (by omega)) (hne _ (by omega) (by omega)) (hne _ (by omega) (by omega)), ⟨0, by omega, ?_, ?_, fun i hi => by omega⟩, fun j hj => ?_, h5⟩
    · rw [up2_o _ _ _ (by omega)]; simp [up2_at]; rfl
    · simp [up2_at]; rfl
    · rw [hne _ (by omega) (by omega), hne _ (by omega) (by omega)]; exact h4 j hj
theorem s_status (hy : y = x + 234) (q0 : Int32) (hI : IInv x y k M N) : ∃ (v : Int32) (M1 M2 : Mm), f_X11_status x q0 M = some (v, M1) ∧ f_X12_status y q0 M1 = some (v, M2) ∧ IInv x y (k + 5) M2 N := by
  unfold f_X11_status f_X12_status
  rw [within_ok, Option.bind_some, ite_b01]
  by_cases c : (0 : Int32) ≤ q0 ∧ q0 ≤ 2
  · obtain ⟨n, hn, rfl⟩ := in_nat (b := 2) (by omega) c
    rw [if_pos c, ck_nI (by omega) (by omega), cl_nI (by omega)]
    refine ⟨_, _, M, rfl, ?_, hI.up (by omega)⟩
    rw [show (0 : Int64) = (0 : Int32).toInt64 from rfl, show (2 : Int64) = (2 : Int32).toInt64 from rfl, in_ok, Option.bind_some, ite_b01, if_pos c, ck_nI (by omega) (by omega), hI.2.2.2.1 n (by omega)]
  · rw [if_neg c, rj]
    refine ⟨_, _, _, rfl, ?_, hI.refused hy (w := 0) (by omega)⟩
    rw [show (0 : Int64) = (0 : Int32).toInt64 from rfl, show (2 : Int64) = (2 : Int32).toInt64 from rfl, in_ok, Option.bind_some, ite_b01, if_neg c, bj]
theorem s_part (hy : y = x + 234) (q0 : Int32) (hI : IInv x y k M N) : ∃ (v : Int64) (M1 M2 : Mm), f_X11_part x q0 M N = some (v, M1) ∧ f_X12_part y q0 M1 N = some (v, M2) ∧ IInv x y (k + 5) M2 N := by
  unfold f_X11_part f_X12_part
  rw [within_ok, Option.bind_some, ite_b01]
  by_cases c : (0 : Int32) ≤ q0 ∧ q0 ≤ 1
  · obtain ⟨n, hn, rfl⟩ := in_nat (b := 1) (by omega) c
    rw [if_pos c]
    rcases (show n = 0 ∨ n = 1 by omega) with rfl | rfl
    · refine ⟨N x 7, M, M, by simp [nI], ?_, hI.up (by omega)⟩
      simp [nI]
      exact hI.2.2.2.2.1.symm
    · refine ⟨N x 8, M, M, by simp [nI], ?_, hI.up (by omega)⟩
      simp [nI]
      exact hI.2.2.2.2.2.symm
  · have c0 : ¬ q0 = 0 := fun h => c (by rw [h]; decide)
    have c1 : ¬ q0 = 1 := fun h => c (by rw [h]; decide)
    rw [if_neg c, n0, refuse_ok x 0 (by omega), bd2_some]
    refine ⟨_, _, _, rfl, ?_, hI.refused hy (w := 0) (by omega)⟩
    rw [← n0, if_neg c0, if_neg c1, bad_ok, bd2_some]
end STP
