theorem cw_L_13 : CWd RL 13 yX11_ring cX11_ring 3 (some .int) 1 := ⟨q_173, q_2, by decide, by decide, by decide⟩
theorem cw_L_17 : CWd RL 17 yX12_ring cX12_ring 3 (some .int) 1 := ⟨q_190, q_5, by decide, by decide, by decide⟩
theorem cw_L_18 : CWd RL 18 yX11_step cX11_step 4 (some .int) 2 := ⟨q_207, q_2, by decide, by decide, by decide⟩
theorem cw_L_22 : CWd RL 22 yX12_step cX12_step 4 (some .int) 2 := ⟨q_215, q_5, by decide, by decide, by decide⟩
theorem cw_L_23 : CWd RL 23 yX11_lumps cX11_lumps 5 (some .int) 3 := ⟨q_223, q_2, by decide, by decide, by decide⟩
theorem cw_L_27 : CWd RL 27 yX12_lumps cX12_lumps 5 (some .int) 3 := ⟨q_243, q_5, by decide, by decide, by decide⟩
theorem cw_L_28 : CWd RL 28 yX11_moon cX11_moon 5 (some .int) 4 := ⟨q_252, q_2, by decide, by decide, by decide⟩
theorem cw_L_32 : CWd RL 32 yX12_moon cX12_moon 5 (some .int) 4 := ⟨q_261, q_5, by decide, by decide, by decide⟩
theorem cw_L_35 : CWd RL 35 yX11_type cX11_type 4 (some .int) 2 := ⟨q_277, q_2, by decide, by decide, by decide⟩
theorem cw_L_39 : CWd RL 39 yX12_type cX12_type 5 (some .int) 2 := ⟨q_287, q_5, by decide, by decide, by decide⟩
theorem cw_L_40 : CWd RL 40 yX11_clear cX11_clear 2 (some .int) 0 := ⟨q_294, q_2, by decide, by decide, by decide⟩
theorem cw_L_44 : CWd RL 44 yX12_clear cX12_clear 2 (some .int) 0 := ⟨q_298, q_5, by decide, by decide, by decide⟩
theorem cw_L_45 : CWd RL 45 yX11_read cX11_read 2 (some .int) 0 := ⟨q_302, q_2, by decide, by decide, by decide⟩
theorem cw_L_48 : CWd RL 48 yX12_read cX12_read 3 (some .int) 0 := ⟨q_424, q_5, by decide, by decide, by decide⟩
theorem cw_L_49 : CWd RL 49 yX11_round cX11_round 1 (some .int) 0 := ⟨q_470, q_2, by decide, by decide, by decide⟩
theorem cw_L_52 : CWd RL 52 yX12_round cX12_round 4 (some .int) 0 := ⟨q_542, q_5, by decide, by decide, by decide⟩
theorem cw_L_53 : CWd RL 53 yX11_undo cX11_undo 1 (some .int) 0 := ⟨q_588, q_2, by decide, by decide, by decide⟩
theorem cw_L_56 : CWd RL 56 yX12_undo cX12_undo 3 (some .int) 0 := ⟨q_598, q_5, by decide, by decide, by decide⟩
theorem cw_L_57 : CWd RL 57 yX11_there cX11_there 3 (some .int) 2 := ⟨q_606, q_2, by decide, by decide, by decide⟩
theorem cw_L_60 : CWd RL 60 yX12_there cX12_there 3 (some .int) 2 := ⟨q_614, q_5, by decide, by decide, by decide⟩
theorem cw_L_61 : CWd RL 61 yX11_about cX11_about 3 (some .int) 2 := ⟨q_621, q_2, by decide, by decide, by decide⟩
theorem cw_L_64 : CWd RL 64 yX12_about cX12_about 3 (some .int) 2 := ⟨q_633, q_5, by decide, by decide, by decide⟩
theorem cw_L_65 : CWd RL 65 yX11_where cX11_where 6 (some .int) 4 := ⟨q_642, q_2, by decide, by decide, by decide⟩
theorem cw_L_68 : CWd RL 68 yX12_where cX12_where 5 (some .int) 4 := ⟨q_681, q_5, by decide, by decide, by decide⟩
theorem cw_L_69 : CWd RL 69 yX11_loss cX11_loss 2 (some .int) 1 := ⟨q_701, q_2, by decide, by decide, by decide⟩
theorem cw_L_72 : CWd RL 72 yX12_loss cX12_loss 2 (some .int) 1 := ⟨q_715, q_5, by decide, by decide, by decide⟩
theorem cw_L_73 : CWd RL 73 yX11_pushes cX11_pushes 2 (some .int) 1 := ⟨q_723, q_2, by decide, by decide, by decide⟩
theorem cw_L_76 : CWd RL 76 yX12_pushes cX12_pushes 9 (some .int) 1 := ⟨q_752, q_5, by decide, by decide, by decide⟩
theorem cw_L_77 : CWd RL 77 yX11_moved cX11_moved 3 (some .int) 2 := ⟨q_762, q_2, by decide, by decide, by decide⟩
theorem cw_L_80 : CWd RL 80 yX12_moved cX12_moved 9 (some .int) 2 := ⟨q_771, q_5, by decide, by decide, by decide⟩
theorem cw_L_81 : CWd RL 81 yX11_road cX11_road 5 (some .int) 3 := ⟨q_775, q_2, by decide, by decide, by decide⟩
theorem cw_L_84 : CWd RL 84 yX12_road cX12_road 10 (some .int) 3 := ⟨q_793, q_5, by decide, by decide, by decide⟩
theorem cw_L_85 : CWd RL 85 yX11_back cX11_back 1 (some .int) 0 := ⟨q_801, q_2, by decide, by decide, by decide⟩
theorem cw_L_88 : CWd RL 88 yX12_back cX12_back 4 (some .int) 0 := ⟨q_813, q_5, by decide, by decide, by decide⟩
theorem cw_L_89 : CWd RL 89 yX11_told cX11_told 4 (some .int) 2 := ⟨q_824, q_2, by decide, by decide, by decide⟩
theorem cw_L_92 : CWd RL 92 yX12_told cX12_told 4 (some .int) 2 := ⟨q_829, q_5, by decide, by decide, by decide⟩
theorem cw_L_93 : CWd RL 93 yX11_taken cX11_taken 4 (some .int) 2 := ⟨q_834, q_2, by decide, by decide, by decide⟩
theorem cw_L_96 : CWd RL 96 yX12_taken cX12_taken 8 (some .int) 2 := ⟨q_853, q_5, by decide, by decide, by decide⟩
theorem cw_L_97 : CWd RL 97 yX11_game cX11_game 3 (some .int) 2 := ⟨q_861, q_2, by decide, by decide, by decide⟩
theorem cw_L_100 : CWd RL 100 yX12_game cX12_game 12 (some .int) 2 := ⟨q_882, q_5, by decide, by decide, by decide⟩
theorem cw_L_101 : CWd RL 101 yX11_fee cX11_fee 9 (some .int) 2 := ⟨q_893, q_2, by decide, by decide, by decide⟩
theorem cw_L_104 : CWd RL 104 yX12_fee cX12_fee 13 (some .int) 2 := ⟨q_925, q_5, by decide, by decide, by decide⟩
theorem cw_L_105 : CWd RL 105 yX11_part cX11_part 2 (some .long) 1 := ⟨q_936, q_2, by decide, by decide, by decide⟩
theorem cw_L_109 : CWd RL 109 yX12_part cX12_part 2 (some .long) 1 := ⟨q_940, q_5, by decide, by decide, by decide⟩
theorem cw_L_110 : CWd RL 110 yX11_image cX11_image 2 (some .int) 1 := ⟨q_944, q_2, by decide, by decide, by decide⟩
theorem cw_L_113 : CWd RL 113 yX12_image cX12_image 3 (some .int) 1 := ⟨q_952, q_5, by decide, by decide, by decide⟩
theorem cw_L_114 : CWd RL 114 yX11_from cX11_from 2 (some .int) 1 := ⟨q_956, q_2, by decide, by decide, by decide⟩
theorem cw_L_117 : CWd RL 117 yX12_from cX12_from 3 (some .int) 1 := ⟨q_960, q_5, by decide, by decide, by decide⟩
theorem cw_L_118 : CWd RL 118 yX11_status cX11_status 2 (some .int) 1 := ⟨q_964, q_2, by decide, by decide, by decide⟩
theorem cw_L_121 : CWd RL 121 yX12_status cX12_status 2 (some .int) 1 := ⟨q_968, q_5, by decide, by decide, by decide⟩
theorem cw_L_122 : CWd RL 122 yX11_count cX11_count 2 (some .int) 1 := ⟨q_972, q_2, by decide, by decide, by decide⟩
theorem cw_L_125 : CWd RL 125 yX12_count cX12_count 2 (some .int) 1 := ⟨q_987, q_5, by decide, by decide, by decide⟩
theorem cw_L_126 : CWd RL 126 yX11_digest cX11_digest 4 (some .long) 0 := ⟨q_995, q_2, by decide, by decide, by decide⟩
theorem cw_L_130 : CWd RL 130 yX12_digest cX12_digest 4 (some .long) 0 := ⟨q_1007, q_5, by decide, by decide, by decide⟩
/-- the pure side: a call on both, from memories that agree, answers alike, and they agree again -/
def LawSteps (x y : Nat) (Inv : Nat → Mm → Ml → Prop) : Prop :=
  (∀ (k : Nat) (M : Mm) (N : Ml), Inv k M N → Inv (k + 5) M N) ∧
  (∀ (k : Nat) (q0 : Int32) (M : Mm) (N : Ml), k < 320 → Inv k M N → ∃ (v : Int32) (M1 : Mm) (M2 : Mm), f_X11_ring x q0 M = some (v, M1) ∧ f_X12_ring y q0 M1 = some (v, M2) ∧ Inv (k + 5) M2 N) ∧
  (∀ (k : Nat) (q0 : Int32) (q1 : Int32) (M : Mm) (N : Ml), k < 320 → Inv k M N → ∃ (v : Int32) (M1 : Mm) (M2 : Mm), f_X11_step x q0 q1 M = some (v, M1) ∧ f_X12_step y q0 q1 M1 = some (v, M2) ∧ Inv (k + 5) M2 N) ∧
  (∀ (k : Nat) (q0 : Int32) (q1 : Int32) (q2 : Int32) (M : Mm) (N : Ml), k < 320 → Inv k M N → ∃ (v : Int32) (M1 : Mm) (M2 : Mm), f_X11_lumps x q0 q1 q2 M = some (v, M1) ∧ f_X12_lumps y q0 q1 q2 M1 = some (v, M2) ∧ Inv (k + 5) M2 N) ∧
  (∀ (k : Nat) (q0 : Int32) (q1 : Int32) (q2 : Int32) (q3 : Int32) (M : Mm) (N : Ml), k < 320 → Inv k M N → ∃ (v : Int32) (M1 : Mm) (M2 : Mm), f_X11_moon x q0 q1 q2 q3 M = some (v, M1) ∧ f_X12_moon y q0 q1 q2 q3 M1 = some (v, M2) ∧ Inv (k + 5) M2 N) ∧
  (∀ (k : Nat) (q0 : Int64) (q1 : Int32) (M : Mm) (N : Ml), k < 320 → Inv k M N → ∃ (v : Int32) (M1 : Mm) (M2 : Mm), f_X11_type x q0 q1 M = some (v, M1) ∧ f_X12_type y q0 q1 M1 = some (v, M2) ∧ Inv (k + 5) M2 N) ∧
  (∀ (k : Nat) (M : Mm) (N : Ml), k < 320 → Inv k M N → ∃ (v : Int32) (M1 : Mm) (M2 : Mm), f_X11_clear x M = some (v, M1) ∧ f_X12_clear y M1 = some (v, M2) ∧ Inv (k + 5) M2 N) ∧
  (∀ (k : Nat) (M : Mm) (N : Ml), k < 320 → Inv k M N → ∃ (v : Int32) (M1 : Mm) (M2 : Mm), f_X11_read x M = some (v, M1) ∧ f_X12_read y M1 = some (v, M2) ∧ Inv (k + 5) M2 N) ∧
  (∀ (k : Nat) (M : Mm) (N : Ml), k < 320 → Inv k M N → ∃ (v : Int32) (M1 : Mm) (M2 : Mm), f_X11_round x M = some (v, M1) ∧ f_X12_round y M1 = some (v, M2) ∧ Inv (k + 5) M2 N) ∧
  (∀ (k : Nat) (M : Mm) (N : Ml), k < 320 → Inv k M N → ∃ (v : Int32) (M1 : Mm) (M2 : Mm), f_X11_undo x M = some (v, M1) ∧ f_X12_undo y M1 = some (v, M2) ∧ Inv (k + 5) M2 N) ∧
  (∀ (k : Nat) (q0 : Int32) (q1 : Int32) (M : Mm) (N : Ml), k < 320 → Inv k M N → ∃ (v : Int32) (M1 : Mm) (M2 : Mm), f_X11_there x q0 q1 M = some (v, M1) ∧ f_X12_there y q0 q1 M1 = some (v, M2) ∧ Inv (k + 5) M2 N) ∧
  (∀ (k : Nat) (q0 : Int32) (q1 : Int32) (M : Mm) (N : Ml), k < 320 → Inv k M N → ∃ (v : Int32) (M1 : Mm) (M2 : Mm), f_X11_about x q0 q1 M = some (v, M1) ∧ f_X12_about y q0 q1 M1 = some (v, M2) ∧ Inv (k + 5) M2 N) ∧
  (∀ (k : Nat) (q0 : Int32) (q1 : Int32) (q2 : Int32) (q3 : Int32) (M : Mm) (N : Ml), k < 320 → Inv k M N → ∃ (v : Int32) (M1 : Mm) (M2 : Mm), f_X11_where x q0 q1 q2 q3 M = some (v, M1) ∧ f_X12_where y q0 q1 q2 q3 M1 = some (v, M2) ∧ Inv (k + 5) M2 N) ∧
  (∀ (k : Nat) (q0 : Int32) (M : Mm) (N : Ml), k < 320 → Inv k M N → ∃ (v : Int32) (M1 : Mm) (M2 : Mm), f_X11_loss x q0 M = some (v, M1) ∧ f_X12_loss y q0 M1 = some (v, M2) ∧ Inv (k + 5) M2 N) ∧
  (∀ (k : Nat) (q0 : Int32) (M : Mm) (N : Ml), k < 320 → Inv k M N → ∃ (v : Int32) (M1 : Mm) (M2 : Mm), f_X11_pushes x q0 M = some (v, M1) ∧ f_X12_pushes y q0 M1 = some (v, M2) ∧ Inv (k + 5) M2 N) ∧
  (∀ (k : Nat) (q0 : Int32) (q1 : Int32) (M : Mm) (N : Ml), k < 320 → Inv k M N → ∃ (v : Int32) (M1 : Mm) (M2 : Mm), f_X11_moved x q0 q1 M = some (v, M1) ∧ f_X12_moved y q0 q1 M1 = some (v, M2) ∧ Inv (k + 5) M2 N) ∧
  (∀ (k : Nat) (q0 : Int32) (q1 : Int32) (q2 : Int32) (M : Mm) (N : Ml), k < 320 → Inv k M N → ∃ (v : Int32) (M1 : Mm) (M2 : Mm), f_X11_road x q0 q1 q2 M = some (v, M1) ∧ f_X12_road y q0 q1 q2 M1 = some (v, M2) ∧ Inv (k + 5) M2 N) ∧
  (∀ (k : Nat) (M : Mm) (N : Ml), k < 320 → Inv k M N → ∃ (v : Int32), f_X11_back x M = some v ∧ f_X12_back y M = some v ∧ Inv (k + 5) M N) ∧
  (∀ (k : Nat) (q0 : Int32) (q1 : Int32) (M : Mm) (N : Ml), k < 320 → Inv k M N → ∃ (v : Int32) (M1 : Mm) (M2 : Mm), f_X11_told x q0 q1 M = some (v, M1) ∧ f_X12_told y q0 q1 M1 = some (v, M2) ∧ Inv (k + 5) M2 N) ∧
  (∀ (k : Nat) (q0 : Int32) (q1 : Int32) (M : Mm) (N : Ml), k < 320 → Inv k M N → ∃ (v : Int32) (M1 : Mm) (M2 : Mm), f_X11_taken x q0 q1 M = some (v, M1) ∧ f_X12_taken y q0 q1 M1 = some (v, M2) ∧ Inv (k + 5) M2 N) ∧
  (∀ (k : Nat) (q0 : Int32) (q1 : Int32) (M : Mm) (N : Ml), k < 320 → Inv k M N → ∃ (v : Int32) (M1 : Mm) (M2 : Mm), f_X11_game x q0 q1 M = some (v, M1) ∧ f_X12_game y q0 q1 M1 = some (v, M2) ∧ Inv (k + 5) M2 N) ∧
  (∀ (k : Nat) (q0 : Int32) (q1 : Int32) (M : Mm) (N : Ml), k < 320 → Inv k M N → ∃ (v : Int32) (M1 : Mm) (N1 : Ml) (M2 : Mm) (N2 : Ml), f_X11_fee x q0 q1 M N = some (v, M1, N1) ∧ f_X12_fee y q0 q1 M1 N1 = some (v, M2, N2) ∧ Inv (k + 5) M2 N2) ∧
  (∀ (k : Nat) (q0 : Int32) (M : Mm) (N : Ml), k < 320 → Inv k M N → ∃ (v : Int64) (M1 : Mm) (M2 : Mm), f_X11_part x q0 M N = some (v, M1) ∧ f_X12_part y q0 M1 N = some (v, M2) ∧ Inv (k + 5) M2 N) ∧
  (∀ (k : Nat) (q0 : Int32) (M : Mm) (N : Ml), k < 320 → Inv k M N → ∃ (v : Int32) (M1 : Mm) (M2 : Mm), f_X11_image x q0 M = some (v, M1) ∧ f_X12_image y q0 M1 = some (v, M2) ∧ Inv (k + 5) M2 N) ∧
  (∀ (k : Nat) (q0 : Int32) (M : Mm) (N : Ml), k < 320 → Inv k M N → ∃ (v : Int32) (M1 : Mm) (M2 : Mm), f_X11_from x q0 M = some (v, M1) ∧ f_X12_from y q0 M1 = some (v, M2) ∧ Inv (k + 5) M2 N) ∧
  (∀ (k : Nat) (q0 : Int32) (M : Mm) (N : Ml), k < 320 → Inv k M N → ∃ (v : Int32) (M1 : Mm) (M2 : Mm), f_X11_status x q0 M = some (v, M1) ∧ f_X12_status y q0 M1 = some (v, M2) ∧ Inv (k + 5) M2 N) ∧
  (∀ (k : Nat) (q0 : Int32) (M : Mm) (N : Ml), k < 320 → Inv k M N → ∃ (v : Int32) (M1 : Mm) (M2 : Mm), f_X11_count x q0 M = some (v, M1) ∧ f_X12_count y q0 M1 = some (v, M2) ∧ Inv (k + 5) M2 N) ∧
  (∀ (k : Nat) (M : Mm) (N : Ml), k < 320 → Inv k M N → ∃ (v : Int64), f_X11_digest x M N = some v ∧ f_X12_digest y M N = some v ∧ Inv (k + 5) M N)
theorem lg_cmp_self (v : Int64) : lg_cmp v v = 0 := by simp [lg_cmp]
theorem Rm.L (d : Nat) (h : d + 1 ≤ 2048) (h2 : 64 * d + 64 ≤ 84000) : Rm room_1 d 600000 7302250 := ⟨h, h2, Nat.le_refl _, Nat.le_refl _⟩
theorem nI_off {k i : Nat} (x3 : Int32) (h : x3 = nI k) (j : Int32) (hj : j = nI i) : x3 + j = nI (k + i) := by rw [h, hj, nI_add]
theorem law_i {k L : Nat} (hL : L ≤ 320) (hk : k ≤ 325) (h : ¬ Int32.ofNat L - 5 < nI k) : k + 5 ≤ L := by
  rcases Nat.lt_or_ge L (k + 5) with q | q
  · exfalso
    apply h
    rw [Int32.lt_iff_toInt_lt]
    have h5 : (5 : Int32) = nI 5 := rfl
    have e1 : (Int32.ofNat L - 5).toInt = (L : Int) - 5 := by
      rw [h5]
      exact pk_sub_toInt (a := L) (b := 5) (by omega) (by omega)
    rw [e1, nI_toInt (by omega)]
    omega
  · exact q
theorem sw_ts {x : Int32} (k : Int) (h : x.toInt = k) : x = Int32.ofInt k := by rw [← h]; exact (Int32.ofInt_toInt x).symm
theorem sw27 (w : Int32) : w = 0 ∨ w = 1 ∨ w = 2 ∨ w = 3 ∨ w = 4 ∨ w = 5 ∨ w = 6 ∨ w = 7 ∨ w = 8 ∨ w = 9 ∨ w = 10 ∨ w = 11 ∨ w = 12 ∨ w = 13 ∨ w = 14 ∨ w = 15 ∨ w = 16 ∨ w = 17 ∨ w = 18 ∨ w = 19 ∨ w = 20 ∨ w = 21 ∨ w = 22 ∨ w = 23 ∨ w = 24 ∨ w = 25 ∨ w = 26 ∨ (w.toInt < 0 ∨ 26 < w.toInt) := by
  by_cases q : w.toInt < 0
  · simp [q]
  · by_cases q2 : 26 < w.toInt
    · simp [q2]
    · have h : w.toInt = 0 ∨ w.toInt = 1 ∨ w.toInt = 2 ∨ w.toInt = 3 ∨ w.toInt = 4 ∨ w.toInt = 5 ∨ w.toInt = 6 ∨ w.toInt = 7 ∨ w.toInt = 8 ∨ w.toInt = 9 ∨ w.toInt = 10 ∨ w.toInt = 11 ∨ w.toInt = 12 ∨ w.toInt = 13 ∨ w.toInt = 14 ∨ w.toInt = 15 ∨ w.toInt = 16 ∨ w.toInt = 17 ∨ w.toInt = 18 ∨ w.toInt = 19 ∨ w.toInt = 20 ∨ w.toInt = 21 ∨ w.toInt = 22 ∨ w.toInt = 23 ∨ w.toInt = 24 ∨ w.toInt = 25 ∨ w.toInt = 26 := by omega
      rcases h with h | h | h | h | h | h | h | h | h | h | h | h | h | h | h | h | h | h | h | h | h | h | h | h | h | h | h <;> (have hw := sw_ts _ h; subst hw; simp; done)
set_option maxHeartbeats 4000000 in
set_option maxRecDepth 100000 in
theorem law_loop {p : Program} {l : Launch} {e : Env} {s : State} {m : MethodId} {below : List Frame} {meth : Method} {c : Code} {b L : Nat} {xs : Nat → Int32} {g : Ev} {x y : Nat} {Inv : Nat → Mm → Ml → Prop} (hL : L ≤ 320) (hg : g.2.1.Nodup) (hO : oTop g x) (hY : oModel g y) (hC : Cx g p s m #[Value.ref b] c cL_law 4 RL) (hr : meth.sig.returnType = ret) (hlk : meth.locks = false) (hX : va_X b L xs s s.heap) (hbl : b < s.heap.size) (hbA : ¬ wA g b) (hLs : ∀ q, wA g q → s.heap.size ≤ q) (hSt : LawSteps x y Inv) :
    ∀ (n k : Nat) (x3 : Int32) (M : Mm) (N : Ml) (H : Heap) (locs : List Loc) (ls : Array Slot), x3 = nI k → k ≤ 325 → L < k + 5 * n → Inv k M N → wP g M N H → va_S (wA g) s.heap H locs → lv_has ls 4 [(0, .ref b), (1, .ref x), (2, .ref y), (3, .int x3)] → W p l e room_1 s m #[Value.ref b] below meth c H locs 600000 7302250 (lw_Z below #[Value.ref b] s) (F0 m 18 ls []) := by
  have hx := hC.1
  have hb := hC.2.1
  intro n
  induction n with
  | zero =>
    intro k x3 M N H locs ls e3 hk hn hI hP hS hl
    refine lv_iload_n hx hb dL_law_18 rfl (lv_at hl 3 rfl) ?_
    refine lv_aload_n hx hb dL_law_19 rfl (lv_at hl 0 rfl) ?_
    refine va_slen hx hb hX hbl hbA hS dL_law_20 ?_
    refine lv_iconst (v := (5 : Int32)) hx hb dL_law_21 (by decide) ?_
    refine lv_isub hx hb dL_law_22 ?_
    refine lv_icmp_gt (tgt := 945) hx hb dL_law_23 (by decide) (fun c1 => ?_) (fun c1 => ?_)
    · refine lv_iconst (v := 1) hx hb dL_law_945 (by decide) ?_
      refine va_forget (fun q hq => hLs _ (hS.2.2 q hq)) ?_
      exact lw_ret hx hb hr hlk dL_law_946
    · exact absurd (law_i hL hk (by rw [← e3]; exact c1)) (by omega)
  | succ n ih =>
    intro k x3 M N H locs ls e3 hk hn hI hP hS hl
    refine lv_iload_n hx hb dL_law_18 rfl (lv_at hl 3 rfl) ?_
    refine lv_aload_n hx hb dL_law_19 rfl (lv_at hl 0 rfl) ?_
    refine va_slen hx hb hX hbl hbA hS dL_law_20 ?_
    refine lv_iconst (v := (5 : Int32)) hx hb dL_law_21 (by decide) ?_
    refine lv_isub hx hb dL_law_22 ?_
    refine lv_icmp_gt (tgt := 945) hx hb dL_law_23 (by decide) (fun c1 => ?_) (fun c1 => ?_)
    · refine lv_iconst (v := 1) hx hb dL_law_945 (by decide) ?_
      refine va_forget (fun q hq => hLs _ (hS.2.2 q hq)) ?_
      exact lw_ret hx hb hr hlk dL_law_946
    have hkL := law_i hL hk (by rw [← e3]; exact c1)
    have hi0 : vp_in x3 L := by rw [e3]; exact vp_in_nI (by omega) (by omega)
    have hi1 : vp_in (x3 + (1 : Int32)) L := by rw [nI_off x3 e3 1 (i := 1) rfl]; exact vp_in_nI (by omega) (by omega)
    have hi2 : vp_in (x3 + (2 : Int32)) L := by rw [nI_off x3 e3 2 (i := 2) rfl]; exact vp_in_nI (by omega) (by omega)
    have hi3 : vp_in (x3 + (3 : Int32)) L := by rw [nI_off x3 e3 3 (i := 3) rfl]; exact vp_in_nI (by omega) (by omega)
    have hi4 : vp_in (x3 + (4 : Int32)) L := by rw [nI_off x3 e3 4 (i := 4) rfl]; exact vp_in_nI (by omega) (by omega)
    have hnext : ∀ (M : Mm) (N : Ml) (H : Heap) (locs : List Loc) (ls : Array Slot), Inv (k + 5) M N → wP g M N H → va_S (wA g) s.heap H locs → lv_has ls 4 [(0, .ref b), (1, .ref x), (2, .ref y), (3, .int x3)] → W p l e room_1 s m #[Value.ref b] below meth c H locs 600000 7302250 (lw_Z below #[Value.ref b] s) (F0 m 939 ls []) := by
      intro M N H locs ls hI hP hS hl
      refine lv_iinc (v := x3 + 5) (lv' := [(3, .int (x3 + 5)), (0, .ref b), (1, .ref x), (2, .ref y)]) hx hb dL_law_939 hl (k := 3) rfl rfl (by decide) rfl (fun ls hl => ?_)
      refine lv_goto (tgt := 18) hx hb dL_law_942 (by decide) ?_
      exact ih (k + 5) (x3 + 5) M N H locs ls (nI_off x3 e3 5 (i := 5) rfl) (by omega) (by omega) hI hP hS (lv_sub hl [1, 2, 3, 0] rfl)
    refine lv_aload_n hx hb dL_law_26 rfl (lv_at hl 0 rfl) ?_
    refine lv_iload_n hx hb dL_law_27 rfl (lv_at hl 3 rfl) ?_
    refine va_sld hx hb hX hbl hbA hS hi0 dL_law_28 ?_
    refine lv_bipush (v := (31 : Int32)) hx hb dL_law_29 (by decide) ?_
    refine lv_iand hx hb dL_law_31 ?_
    refine lv_topi (fun w ew => ?_)
    rcases sw27 w with hw | hw | hw | hw | hw | hw | hw | hw | hw | hw | hw | hw | hw | hw | hw | hw | hw | hw | hw | hw | hw | hw | hw | hw | hw | hw | hw | hw
    · refine lv_tableIn (tgt := 156) (off := 124) hx hb dL_law_32 (by rw [hw]; decide) (by rw [hw]; decide) (by rw [hw]; rfl) (by decide) ?_
      obtain ⟨v, M1, M2, h1, h2, hI2⟩ := hSt.2.1 k (xs (x3 + (1 : Int32)).toNatClampNeg) M N (by omega) hI
      refine lv_aload_n hx hb dL_law_156 rfl (lv_at hl 1 rfl) ?_
      refine lv_aload_n hx hb dL_law_157 rfl (lv_at hl 0 rfl) ?_
      refine lv_iload_n hx hb dL_law_158 rfl (lv_at hl 3 rfl) ?_
      refine lv_iconst (v := (1 : Int32)) hx hb dL_law_159 (by decide) ?_
      refine lv_iadd hx hb dL_law_160 ?_
      refine va_sld hx hb hX hbl hbA hS (hi1) dL_law_161 ?_
      refine r_goI (r_runV (As := [.int (xs (x3 + (1 : Int32)).toNatClampNeg)]) (rest := []) hC hP hS (k_X11_ring hg hO h1) cw_L_13 q_170 q_171 q_172 (Rm.L 2 (by decide) (by decide)) hO.1 rfl rfl hl.1 rfl (Nat.le_of_ble_eq_true rfl) dL_law_162) hS (fun H locs hP hS => ?_)
      refine lv_aload_n hx hb dL_law_165 rfl (lv_at hl 2 rfl) ?_
      refine lv_aload_n hx hb dL_law_166 rfl (lv_at hl 0 rfl) ?_
      refine lv_iload_n hx hb dL_law_167 rfl (lv_at hl 3 rfl) ?_
      refine lv_iconst (v := (1 : Int32)) hx hb dL_law_168 (by decide) ?_
      refine lv_iadd hx hb dL_law_169 ?_
      refine va_sld hx hb hX hbl hbA hS (hi1) dL_law_170 ?_
      refine r_goI (r_runV (As := [.int (xs (x3 + (1 : Int32)).toNatClampNeg)]) (rest := [.int v]) hC hP hS (k_X12_ring hg hY h2) cw_L_17 q_187 q_188 q_189 (Rm.L 1 (by decide) (by decide)) hY.1 rfl rfl hl.1 rfl (Nat.le_of_ble_eq_true rfl) dL_law_171) hS (fun H locs hP hS => ?_)
      refine lv_icmp_eq (tgt := 939) hx hb dL_law_174 (by decide) (fun _ => ?_) (fun hne => absurd rfl hne)
      exact hnext M2 N H locs ls hI2 hP hS hl
    · refine lv_tableIn (tgt := 179) (off := 147) hx hb dL_law_32 (by rw [hw]; decide) (by rw [hw]; decide) (by rw [hw]; rfl) (by decide) ?_
      obtain ⟨v, M1, M2, h1, h2, hI2⟩ := hSt.2.2.1 k (xs (x3 + (1 : Int32)).toNatClampNeg) (xs (x3 + (2 : Int32)).toNatClampNeg) M N (by omega) hI
      refine lv_aload_n hx hb dL_law_179 rfl (lv_at hl 1 rfl) ?_
      refine lv_aload_n hx hb dL_law_180 rfl (lv_at hl 0 rfl) ?_
      refine lv_iload_n hx hb dL_law_181 rfl (lv_at hl 3 rfl) ?_
      refine lv_iconst (v := (1 : Int32)) hx hb dL_law_182 (by decide) ?_
      refine lv_iadd hx hb dL_law_183 ?_
      refine va_sld hx hb hX hbl hbA hS (hi1) dL_law_184 ?_
      refine lv_aload_n hx hb dL_law_185 rfl (lv_at hl 0 rfl) ?_
      refine lv_iload_n hx hb dL_law_186 rfl (lv_at hl 3 rfl) ?_
      refine lv_iconst (v := (2 : Int32)) hx hb dL_law_187 (by decide) ?_
      refine lv_iadd hx hb dL_law_188 ?_
      refine va_sld hx hb hX hbl hbA hS (hi2) dL_law_189 ?_
      refine r_goI (r_runV (As := [.int (xs (x3 + (1 : Int32)).toNatClampNeg), .int (xs (x3 + (2 : Int32)).toNatClampNeg)]) (rest := []) hC hP hS (k_X11_step hg hO h1) cw_L_18 q_204 q_205 q_206 (Rm.L 1 (by decide) (by decide)) hO.1 rfl rfl hl.1 rfl (Nat.le_of_ble_eq_true rfl) dL_law_190) hS (fun H locs hP hS => ?_)
      refine lv_aload_n hx hb dL_law_193 rfl (lv_at hl 2 rfl) ?_
      refine lv_aload_n hx hb dL_law_194 rfl (lv_at hl 0 rfl) ?_
      refine lv_iload_n hx hb dL_law_195 rfl (lv_at hl 3 rfl) ?_
      refine lv_iconst (v := (1 : Int32)) hx hb dL_law_196 (by decide) ?_
      refine lv_iadd hx hb dL_law_197 ?_
      refine va_sld hx hb hX hbl hbA hS (hi1) dL_law_198 ?_
      refine lv_aload_n hx hb dL_law_199 rfl (lv_at hl 0 rfl) ?_
      refine lv_iload_n hx hb dL_law_200 rfl (lv_at hl 3 rfl) ?_
      refine lv_iconst (v := (2 : Int32)) hx hb dL_law_201 (by decide) ?_
      refine lv_iadd hx hb dL_law_202 ?_
      refine va_sld hx hb hX hbl hbA hS (hi2) dL_law_203 ?_
      refine r_goI (r_runV (As := [.int (xs (x3 + (1 : Int32)).toNatClampNeg), .int (xs (x3 + (2 : Int32)).toNatClampNeg)]) (rest := [.int v]) hC hP hS (k_X12_step hg hY h2) cw_L_22 q_212 q_213 q_214 (Rm.L 2 (by decide) (by decide)) hY.1 rfl rfl hl.1 rfl (Nat.le_of_ble_eq_true rfl) dL_law_204) hS (fun H locs hP hS => ?_)
      refine lv_icmp_eq (tgt := 939) hx hb dL_law_207 (by decide) (fun _ => ?_) (fun hne => absurd rfl hne)
      exact hnext M2 N H locs ls hI2 hP hS hl
    · refine lv_tableIn (tgt := 212) (off := 180) hx hb dL_law_32 (by rw [hw]; decide) (by rw [hw]; decide) (by rw [hw]; rfl) (by decide) ?_
      obtain ⟨v, M1, M2, h1, h2, hI2⟩ := hSt.2.2.2.1 k (xs (x3 + (1 : Int32)).toNatClampNeg) (xs (x3 + (2 : Int32)).toNatClampNeg) (xs (x3 + (3 : Int32)).toNatClampNeg) M N (by omega) hI
      refine lv_aload_n hx hb dL_law_212 rfl (lv_at hl 1 rfl) ?_
      refine lv_aload_n hx hb dL_law_213 rfl (lv_at hl 0 rfl) ?_
      refine lv_iload_n hx hb dL_law_214 rfl (lv_at hl 3 rfl) ?_
      refine lv_iconst (v := (1 : Int32)) hx hb dL_law_215 (by decide) ?_
      refine lv_iadd hx hb dL_law_216 ?_
      refine va_sld hx hb hX hbl hbA hS (hi1) dL_law_217 ?_
      refine lv_aload_n hx hb dL_law_218 rfl (lv_at hl 0 rfl) ?_
      refine lv_iload_n hx hb dL_law_219 rfl (lv_at hl 3 rfl) ?_
      refine lv_iconst (v := (2 : Int32)) hx hb dL_law_220 (by decide) ?_
      refine lv_iadd hx hb dL_law_221 ?_
      refine va_sld hx hb hX hbl hbA hS (hi2) dL_law_222 ?_
      refine lv_aload_n hx hb dL_law_223 rfl (lv_at hl 0 rfl) ?_
      refine lv_iload_n hx hb dL_law_224 rfl (lv_at hl 3 rfl) ?_
      refine lv_iconst (v := (3 : Int32)) hx hb dL_law_225 (by decide) ?_
      refine lv_iadd hx hb dL_law_226 ?_
      refine va_sld hx hb hX hbl hbA hS (hi3) dL_law_227 ?_
      refine r_goI (r_runV (As := [.int (xs (x3 + (1 : Int32)).toNatClampNeg), .int (xs (x3 + (2 : Int32)).toNatClampNeg), .int (xs (x3 + (3 : Int32)).toNatClampNeg)]) (rest := []) hC hP hS (k_X11_lumps hg hO h1) cw_L_23 q_220 q_221 q_222 (Rm.L 2 (by decide) (by decide)) hO.1 rfl rfl hl.1 rfl (Nat.le_of_ble_eq_true rfl) dL_law_228) hS (fun H locs hP hS => ?_)
      refine lv_aload_n hx hb dL_law_231 rfl (lv_at hl 2 rfl) ?_
      refine lv_aload_n hx hb dL_law_232 rfl (lv_at hl 0 rfl) ?_
      refine lv_iload_n hx hb dL_law_233 rfl (lv_at hl 3 rfl) ?_
      refine lv_iconst (v := (1 : Int32)) hx hb dL_law_234 (by decide) ?_
      refine lv_iadd hx hb dL_law_235 ?_
      refine va_sld hx hb hX hbl hbA hS (hi1) dL_law_236 ?_
      refine lv_aload_n hx hb dL_law_237 rfl (lv_at hl 0 rfl) ?_
      refine lv_iload_n hx hb dL_law_238 rfl (lv_at hl 3 rfl) ?_
      refine lv_iconst (v := (2 : Int32)) hx hb dL_law_239 (by decide) ?_
      refine lv_iadd hx hb dL_law_240 ?_
      refine va_sld hx hb hX hbl hbA hS (hi2) dL_law_241 ?_
      refine lv_aload_n hx hb dL_law_242 rfl (lv_at hl 0 rfl) ?_
      refine lv_iload_n hx hb dL_law_243 rfl (lv_at hl 3 rfl) ?_
      refine lv_iconst (v := (3 : Int32)) hx hb dL_law_244 (by decide) ?_
      refine lv_iadd hx hb dL_law_245 ?_
      refine va_sld hx hb hX hbl hbA hS (hi3) dL_law_246 ?_
      refine r_goI (r_runV (As := [.int (xs (x3 + (1 : Int32)).toNatClampNeg), .int (xs (x3 + (2 : Int32)).toNatClampNeg), .int (xs (x3 + (3 : Int32)).toNatClampNeg)]) (rest := [.int v]) hC hP hS (k_X12_lumps hg hY h2) cw_L_27 q_240 q_241 q_242 (Rm.L 2 (by decide) (by decide)) hY.1 rfl rfl hl.1 rfl (Nat.le_of_ble_eq_true rfl) dL_law_247) hS (fun H locs hP hS => ?_)
      refine lv_icmp_eq (tgt := 939) hx hb dL_law_250 (by decide) (fun _ => ?_) (fun hne => absurd rfl hne)
      exact hnext M2 N H locs ls hI2 hP hS hl
    · refine lv_tableIn (tgt := 255) (off := 223) hx hb dL_law_32 (by rw [hw]; decide) (by rw [hw]; decide) (by rw [hw]; rfl) (by decide) ?_
      obtain ⟨v, M1, M2, h1, h2, hI2⟩ := hSt.2.2.2.2.1 k (xs (x3 + (1 : Int32)).toNatClampNeg) (xs (x3 + (2 : Int32)).toNatClampNeg) (xs (x3 + (3 : Int32)).toNatClampNeg) (xs (x3 + (4 : Int32)).toNatClampNeg) M N (by omega) hI
      refine lv_aload_n hx hb dL_law_255 rfl (lv_at hl 1 rfl) ?_
      refine lv_aload_n hx hb dL_law_256 rfl (lv_at hl 0 rfl) ?_
      refine lv_iload_n hx hb dL_law_257 rfl (lv_at hl 3 rfl) ?_
      refine lv_iconst (v := (1 : Int32)) hx hb dL_law_258 (by decide) ?_
      refine lv_iadd hx hb dL_law_259 ?_
      refine va_sld hx hb hX hbl hbA hS (hi1) dL_law_260 ?_
      refine lv_aload_n hx hb dL_law_261 rfl (lv_at hl 0 rfl) ?_
      refine lv_iload_n hx hb dL_law_262 rfl (lv_at hl 3 rfl) ?_
      refine lv_iconst (v := (2 : Int32)) hx hb dL_law_263 (by decide) ?_
      refine lv_iadd hx hb dL_law_264 ?_
      refine va_sld hx hb hX hbl hbA hS (hi2) dL_law_265 ?_
      refine lv_aload_n hx hb dL_law_266 rfl (lv_at hl 0 rfl) ?_
      refine lv_iload_n hx hb dL_law_267 rfl (lv_at hl 3 rfl) ?_
      refine lv_iconst (v := (3 : Int32)) hx hb dL_law_268 (by decide) ?_
      refine lv_iadd hx hb dL_law_269 ?_
      refine va_sld hx hb hX hbl hbA hS (hi3) dL_law_270 ?_
      refine lv_aload_n hx hb dL_law_271 rfl (lv_at hl 0 rfl) ?_
      refine lv_iload_n hx hb dL_law_272 rfl (lv_at hl 3 rfl) ?_
      refine lv_iconst (v := (4 : Int32)) hx hb dL_law_273 (by decide) ?_
      refine lv_iadd hx hb dL_law_274 ?_
      refine va_sld hx hb hX hbl hbA hS (hi4) dL_law_275 ?_
      refine r_goI (r_runV (As := [.int (xs (x3 + (1 : Int32)).toNatClampNeg), .int (xs (x3 + (2 : Int32)).toNatClampNeg), .int (xs (x3 + (3 : Int32)).toNatClampNeg), .int (xs (x3 + (4 : Int32)).toNatClampNeg)]) (rest := []) hC hP hS (k_X11_moon hg hO h1) cw_L_28 q_249 q_250 q_251 (Rm.L 2 (by decide) (by decide)) hO.1 rfl rfl hl.1 rfl (Nat.le_of_ble_eq_true rfl) dL_law_276) hS (fun H locs hP hS => ?_)
      refine lv_aload_n hx hb dL_law_279 rfl (lv_at hl 2 rfl) ?_
      refine lv_aload_n hx hb dL_law_280 rfl (lv_at hl 0 rfl) ?_
      refine lv_iload_n hx hb dL_law_281 rfl (lv_at hl 3 rfl) ?_
      refine lv_iconst (v := (1 : Int32)) hx hb dL_law_282 (by decide) ?_
      refine lv_iadd hx hb dL_law_283 ?_
      refine va_sld hx hb hX hbl hbA hS (hi1) dL_law_284 ?_
      refine lv_aload_n hx hb dL_law_285 rfl (lv_at hl 0 rfl) ?_
      refine lv_iload_n hx hb dL_law_286 rfl (lv_at hl 3 rfl) ?_
      refine lv_iconst (v := (2 : Int32)) hx hb dL_law_287 (by decide) ?_
      refine lv_iadd hx hb dL_law_288 ?_
      refine va_sld hx hb hX hbl hbA hS (hi2) dL_law_289 ?_
      refine lv_aload_n hx hb dL_law_290 rfl (lv_at hl 0 rfl) ?_
      refine lv_iload_n hx hb dL_law_291 rfl (lv_at hl 3 rfl) ?_
      refine lv_iconst (v := (3 : Int32)) hx hb dL_law_292 (by decide) ?_
      refine lv_iadd hx hb dL_law_293 ?_
      refine va_sld hx hb hX hbl hbA hS (hi3) dL_law_294 ?_
      refine lv_aload_n hx hb dL_law_295 rfl (lv_at hl 0 rfl) ?_
      refine lv_iload_n hx hb dL_law_296 rfl (lv_at hl 3 rfl) ?_
      refine lv_iconst (v := (4 : Int32)) hx hb dL_law_297 (by decide) ?_
      refine lv_iadd hx hb dL_law_298 ?_
      refine va_sld hx hb hX hbl hbA hS (hi4) dL_law_299 ?_
      refine r_goI (r_runV (As := [.int (xs (x3 + (1 : Int32)).toNatClampNeg), .int (xs (x3 + (2 : Int32)).toNatClampNeg), .int (xs (x3 + (3 : Int32)).toNatClampNeg), .int (xs (x3 + (4 : Int32)).toNatClampNeg)]) (rest := [.int v]) hC hP hS (k_X12_moon hg hY h2) cw_L_32 q_258 q_259 q_260 (Rm.L 2 (by decide) (by decide)) hY.1 rfl rfl hl.1 rfl (Nat.le_of_ble_eq_true rfl) dL_law_300) hS (fun H locs hP hS => ?_)
      refine lv_icmp_eq (tgt := 939) hx hb dL_law_303 (by decide) (fun _ => ?_) (fun hne => absurd rfl hne)
      exact hnext M2 N H locs ls hI2 hP hS hl
    · refine lv_tableIn (tgt := 308) (off := 276) hx hb dL_law_32 (by rw [hw]; decide) (by rw [hw]; decide) (by rw [hw]; rfl) (by decide) ?_
      obtain ⟨v, M1, M2, h1, h2, hI2⟩ := hSt.2.2.2.2.2.1 k ((jslL ((xs (x3 + (1 : Int32)).toNatClampNeg).toInt64) (32 : Int32)) ||| (((xs (x3 + (2 : Int32)).toNatClampNeg).toInt64) &&& (4294967295 : Int64))) (xs (x3 + (3 : Int32)).toNatClampNeg) M N (by omega) hI
      refine lv_aload_n hx hb dL_law_308 rfl (lv_at hl 1 rfl) ?_
      refine lv_aload_n hx hb dL_law_309 rfl (lv_at hl 0 rfl) ?_
      refine lv_iload_n hx hb dL_law_310 rfl (lv_at hl 3 rfl) ?_
      refine lv_iconst (v := (1 : Int32)) hx hb dL_law_311 (by decide) ?_
      refine lv_iadd hx hb dL_law_312 ?_
      refine va_sld hx hb hX hbl hbA hS (hi1) dL_law_313 ?_
      refine lv_i2l hx hb dL_law_314 rfl ?_
      refine lv_bipush (v := (32 : Int32)) hx hb dL_law_315 (by decide) ?_
      refine lv_lshl hx hb dL_law_317 rfl ?_
      refine lv_aload_n hx hb dL_law_318 rfl (lv_at hl 0 rfl) ?_
      refine lv_iload_n hx hb dL_law_319 rfl (lv_at hl 3 rfl) ?_
      refine lv_iconst (v := (2 : Int32)) hx hb dL_law_320 (by decide) ?_
      refine lv_iadd hx hb dL_law_321 ?_
      refine va_sld hx hb hX hbl hbA hS (hi2) dL_law_322 ?_
      refine lv_i2l hx hb dL_law_323 rfl ?_
      refine lv_ldc2 (v := (4294967295 : Int64)) hx hb hC.2.2.2.1 (hC.2.2.2.2.1 _ q_6) dL_law_324 ?_
      refine lv_land hx hb dL_law_327 ?_
      refine lv_lor hx hb dL_law_328 ?_
      refine lv_aload_n hx hb dL_law_329 rfl (lv_at hl 0 rfl) ?_
      refine lv_iload_n hx hb dL_law_330 rfl (lv_at hl 3 rfl) ?_
      refine lv_iconst (v := (3 : Int32)) hx hb dL_law_331 (by decide) ?_
      refine lv_iadd hx hb dL_law_332 ?_
      refine va_sld hx hb hX hbl hbA hS (hi3) dL_law_333 ?_
      refine r_goI (r_runV (As := [.long ((jslL ((xs (x3 + (1 : Int32)).toNatClampNeg).toInt64) (32 : Int32)) ||| (((xs (x3 + (2 : Int32)).toNatClampNeg).toInt64) &&& (4294967295 : Int64))), .int (xs (x3 + (3 : Int32)).toNatClampNeg)]) (rest := []) hC hP hS (k_X11_type hg hO h1) cw_L_35 q_274 q_275 q_276 (Rm.L 1 (by decide) (by decide)) hO.1 rfl rfl hl.1 rfl (Nat.le_of_ble_eq_true rfl) dL_law_334) hS (fun H locs hP hS => ?_)
      refine lv_aload_n hx hb dL_law_337 rfl (lv_at hl 2 rfl) ?_
      refine lv_aload_n hx hb dL_law_338 rfl (lv_at hl 0 rfl) ?_
      refine lv_iload_n hx hb dL_law_339 rfl (lv_at hl 3 rfl) ?_
      refine lv_iconst (v := (1 : Int32)) hx hb dL_law_340 (by decide) ?_
      refine lv_iadd hx hb dL_law_341 ?_
      refine va_sld hx hb hX hbl hbA hS (hi1) dL_law_342 ?_
      refine lv_i2l hx hb dL_law_343 rfl ?_
      refine lv_bipush (v := (32 : Int32)) hx hb dL_law_344 (by decide) ?_
      refine lv_lshl hx hb dL_law_346 rfl ?_
      refine lv_aload_n hx hb dL_law_347 rfl (lv_at hl 0 rfl) ?_
      refine lv_iload_n hx hb dL_law_348 rfl (lv_at hl 3 rfl) ?_
      refine lv_iconst (v := (2 : Int32)) hx hb dL_law_349 (by decide) ?_
      refine lv_iadd hx hb dL_law_350 ?_
      refine va_sld hx hb hX hbl hbA hS (hi2) dL_law_351 ?_
      refine lv_i2l hx hb dL_law_352 rfl ?_
      refine lv_ldc2 (v := (4294967295 : Int64)) hx hb hC.2.2.2.1 (hC.2.2.2.2.1 _ q_6) dL_law_353 ?_
      refine lv_land hx hb dL_law_356 ?_
      refine lv_lor hx hb dL_law_357 ?_
      refine lv_aload_n hx hb dL_law_358 rfl (lv_at hl 0 rfl) ?_
      refine lv_iload_n hx hb dL_law_359 rfl (lv_at hl 3 rfl) ?_
      refine lv_iconst (v := (3 : Int32)) hx hb dL_law_360 (by decide) ?_
      refine lv_iadd hx hb dL_law_361 ?_
      refine va_sld hx hb hX hbl hbA hS (hi3) dL_law_362 ?_
      refine r_goI (r_runV (As := [.long ((jslL ((xs (x3 + (1 : Int32)).toNatClampNeg).toInt64) (32 : Int32)) ||| (((xs (x3 + (2 : Int32)).toNatClampNeg).toInt64) &&& (4294967295 : Int64))), .int (xs (x3 + (3 : Int32)).toNatClampNeg)]) (rest := [.int v]) hC hP hS (k_X12_type hg hY h2) cw_L_39 q_284 q_285 q_286 (Rm.L 1 (by decide) (by decide)) hY.1 rfl rfl hl.1 rfl (Nat.le_of_ble_eq_true rfl) dL_law_363) hS (fun H locs hP hS => ?_)
      refine lv_icmp_eq (tgt := 939) hx hb dL_law_366 (by decide) (fun _ => ?_) (fun hne => absurd rfl hne)
      exact hnext M2 N H locs ls hI2 hP hS hl
    · refine lv_tableIn (tgt := 371) (off := 339) hx hb dL_law_32 (by rw [hw]; decide) (by rw [hw]; decide) (by rw [hw]; rfl) (by decide) ?_
      obtain ⟨v, M1, M2, h1, h2, hI2⟩ := hSt.2.2.2.2.2.2.1 k M N (by omega) hI
      refine lv_aload_n hx hb dL_law_371 rfl (lv_at hl 1 rfl) ?_
      refine r_goI (r_runV (As := []) (rest := []) hC hP hS (k_X11_clear hg hO h1) cw_L_40 q_291 q_292 q_293 (Rm.L 0 (by decide) (by decide)) hO.1 rfl rfl hl.1 rfl (Nat.le_of_ble_eq_true rfl) dL_law_372) hS (fun H locs hP hS => ?_)
      refine lv_aload_n hx hb dL_law_375 rfl (lv_at hl 2 rfl) ?_
      refine r_goI (r_runV (As := []) (rest := [.int v]) hC hP hS (k_X12_clear hg hY h2) cw_L_44 q_295 q_296 q_297 (Rm.L 0 (by decide) (by decide)) hY.1 rfl rfl hl.1 rfl (Nat.le_of_ble_eq_true rfl) dL_law_376) hS (fun H locs hP hS => ?_)
      refine lv_icmp_eq (tgt := 939) hx hb dL_law_379 (by decide) (fun _ => ?_) (fun hne => absurd rfl hne)
      exact hnext M2 N H locs ls hI2 hP hS hl
    · refine lv_tableIn (tgt := 384) (off := 352) hx hb dL_law_32 (by rw [hw]; decide) (by rw [hw]; decide) (by rw [hw]; rfl) (by decide) ?_
      obtain ⟨v, M1, M2, h1, h2, hI2⟩ := hSt.2.2.2.2.2.2.2.1 k M N (by omega) hI
      refine lv_aload_n hx hb dL_law_384 rfl (lv_at hl 1 rfl) ?_
      refine r_goI (r_runV (As := []) (rest := []) hC hP hS (k_X11_read hg hO h1) cw_L_45 q_299 q_300 q_301 (Rm.L 7 (by decide) (by decide)) hO.1 rfl rfl hl.1 rfl (Nat.le_of_ble_eq_true rfl) dL_law_385) hS (fun H locs hP hS => ?_)
      refine lv_aload_n hx hb dL_law_388 rfl (lv_at hl 2 rfl) ?_
      refine r_goI (r_runV (As := []) (rest := [.int v]) hC hP hS (k_X12_read hg hY h2) cw_L_48 q_421 q_422 q_423 (Rm.L 6 (by decide) (by decide)) hY.1 rfl rfl hl.1 rfl (Nat.le_of_ble_eq_true rfl) dL_law_389) hS (fun H locs hP hS => ?_)
      refine lv_icmp_eq (tgt := 939) hx hb dL_law_392 (by decide) (fun _ => ?_) (fun hne => absurd rfl hne)
      exact hnext M2 N H locs ls hI2 hP hS hl
    · refine lv_tableIn (tgt := 397) (off := 365) hx hb dL_law_32 (by rw [hw]; decide) (by rw [hw]; decide) (by rw [hw]; rfl) (by decide) ?_
      obtain ⟨v, M1, M2, h1, h2, hI2⟩ := hSt.2.2.2.2.2.2.2.2.1 k M N (by omega) hI
      refine lv_aload_n hx hb dL_law_397 rfl (lv_at hl 1 rfl) ?_
      refine r_goI (r_runV (As := []) (rest := []) hC hP hS (k_X11_round hg hO h1) cw_L_49 q_467 q_468 q_469 (Rm.L 5 (by decide) (by decide)) hO.1 rfl rfl hl.1 rfl (Nat.le_of_ble_eq_true rfl) dL_law_398) hS (fun H locs hP hS => ?_)
      refine lv_aload_n hx hb dL_law_401 rfl (lv_at hl 2 rfl) ?_
      refine r_goI (r_runV (As := []) (rest := [.int v]) hC hP hS (k_X12_round hg hY h2) cw_L_52 q_539 q_540 q_541 (Rm.L 4 (by decide) (by decide)) hY.1 rfl rfl hl.1 rfl (Nat.le_of_ble_eq_true rfl) dL_law_402) hS (fun H locs hP hS => ?_)
      refine lv_icmp_eq (tgt := 939) hx hb dL_law_405 (by decide) (fun _ => ?_) (fun hne => absurd rfl hne)
      exact hnext M2 N H locs ls hI2 hP hS hl
    · refine lv_tableIn (tgt := 410) (off := 378) hx hb dL_law_32 (by rw [hw]; decide) (by rw [hw]; decide) (by rw [hw]; rfl) (by decide) ?_
      obtain ⟨v, M1, M2, h1, h2, hI2⟩ := hSt.2.2.2.2.2.2.2.2.2.1 k M N (by omega) hI
      refine lv_aload_n hx hb dL_law_410 rfl (lv_at hl 1 rfl) ?_
      refine r_goI (r_runV (As := []) (rest := []) hC hP hS (k_X11_undo hg hO h1) cw_L_53 q_585 q_586 q_587 (Rm.L 3 (by decide) (by decide)) hO.1 rfl rfl hl.1 rfl (Nat.le_of_ble_eq_true rfl) dL_law_411) hS (fun H locs hP hS => ?_)
      refine lv_aload_n hx hb dL_law_414 rfl (lv_at hl 2 rfl) ?_
      refine r_goI (r_runV (As := []) (rest := [.int v]) hC hP hS (k_X12_undo hg hY h2) cw_L_56 q_595 q_596 q_597 (Rm.L 1 (by decide) (by decide)) hY.1 rfl rfl hl.1 rfl (Nat.le_of_ble_eq_true rfl) dL_law_415) hS (fun H locs hP hS => ?_)
      refine lv_icmp_eq (tgt := 939) hx hb dL_law_418 (by decide) (fun _ => ?_) (fun hne => absurd rfl hne)
      exact hnext M2 N H locs ls hI2 hP hS hl
    · refine lv_tableIn (tgt := 423) (off := 391) hx hb dL_law_32 (by rw [hw]; decide) (by rw [hw]; decide) (by rw [hw]; rfl) (by decide) ?_
      obtain ⟨v, M1, M2, h1, h2, hI2⟩ := hSt.2.2.2.2.2.2.2.2.2.2.1 k (xs (x3 + (1 : Int32)).toNatClampNeg) (xs (x3 + (2 : Int32)).toNatClampNeg) M N (by omega) hI
      refine lv_aload_n hx hb dL_law_423 rfl (lv_at hl 1 rfl) ?_
      refine lv_aload_n hx hb dL_law_424 rfl (lv_at hl 0 rfl) ?_
      refine lv_iload_n hx hb dL_law_425 rfl (lv_at hl 3 rfl) ?_
      refine lv_iconst (v := (1 : Int32)) hx hb dL_law_426 (by decide) ?_
      refine lv_iadd hx hb dL_law_427 ?_
      refine va_sld hx hb hX hbl hbA hS (hi1) dL_law_428 ?_
      refine lv_aload_n hx hb dL_law_429 rfl (lv_at hl 0 rfl) ?_
      refine lv_iload_n hx hb dL_law_430 rfl (lv_at hl 3 rfl) ?_
      refine lv_iconst (v := (2 : Int32)) hx hb dL_law_431 (by decide) ?_
      refine lv_iadd hx hb dL_law_432 ?_
      refine va_sld hx hb hX hbl hbA hS (hi2) dL_law_433 ?_
      refine r_goI (r_runV (As := [.int (xs (x3 + (1 : Int32)).toNatClampNeg), .int (xs (x3 + (2 : Int32)).toNatClampNeg)]) (rest := []) hC hP hS (k_X11_there hg hO h1) cw_L_57 q_603 q_604 q_605 (Rm.L 2 (by decide) (by decide)) hO.1 rfl rfl hl.1 rfl (Nat.le_of_ble_eq_true rfl) dL_law_434) hS (fun H locs hP hS => ?_)
      refine lv_aload_n hx hb dL_law_437 rfl (lv_at hl 2 rfl) ?_
      refine lv_aload_n hx hb dL_law_438 rfl (lv_at hl 0 rfl) ?_
      refine lv_iload_n hx hb dL_law_439 rfl (lv_at hl 3 rfl) ?_
      refine lv_iconst (v := (1 : Int32)) hx hb dL_law_440 (by decide) ?_
      refine lv_iadd hx hb dL_law_441 ?_
      refine va_sld hx hb hX hbl hbA hS (hi1) dL_law_442 ?_
      refine lv_aload_n hx hb dL_law_443 rfl (lv_at hl 0 rfl) ?_
      refine lv_iload_n hx hb dL_law_444 rfl (lv_at hl 3 rfl) ?_
      refine lv_iconst (v := (2 : Int32)) hx hb dL_law_445 (by decide) ?_
      refine lv_iadd hx hb dL_law_446 ?_
      refine va_sld hx hb hX hbl hbA hS (hi2) dL_law_447 ?_
      refine r_goI (r_runV (As := [.int (xs (x3 + (1 : Int32)).toNatClampNeg), .int (xs (x3 + (2 : Int32)).toNatClampNeg)]) (rest := [.int v]) hC hP hS (k_X12_there hg hY h2) cw_L_60 q_611 q_612 q_613 (Rm.L 2 (by decide) (by decide)) hY.1 rfl rfl hl.1 rfl (Nat.le_of_ble_eq_true rfl) dL_law_448) hS (fun H locs hP hS => ?_)
      refine lv_icmp_eq (tgt := 939) hx hb dL_law_451 (by decide) (fun _ => ?_) (fun hne => absurd rfl hne)
      exact hnext M2 N H locs ls hI2 hP hS hl
    · refine lv_tableIn (tgt := 456) (off := 424) hx hb dL_law_32 (by rw [hw]; decide) (by rw [hw]; decide) (by rw [hw]; rfl) (by decide) ?_
      obtain ⟨v, M1, M2, h1, h2, hI2⟩ := hSt.2.2.2.2.2.2.2.2.2.2.2.1 k (xs (x3 + (1 : Int32)).toNatClampNeg) (xs (x3 + (2 : Int32)).toNatClampNeg) M N (by omega) hI
      refine lv_aload_n hx hb dL_law_456 rfl (lv_at hl 1 rfl) ?_
      refine lv_aload_n hx hb dL_law_457 rfl (lv_at hl 0 rfl) ?_
      refine lv_iload_n hx hb dL_law_458 rfl (lv_at hl 3 rfl) ?_
      refine lv_iconst (v := (1 : Int32)) hx hb dL_law_459 (by decide) ?_
      refine lv_iadd hx hb dL_law_460 ?_
      refine va_sld hx hb hX hbl hbA hS (hi1) dL_law_461 ?_
      refine lv_aload_n hx hb dL_law_462 rfl (lv_at hl 0 rfl) ?_
      refine lv_iload_n hx hb dL_law_463 rfl (lv_at hl 3 rfl) ?_
      refine lv_iconst (v := (2 : Int32)) hx hb dL_law_464 (by decide) ?_
      refine lv_iadd hx hb dL_law_465 ?_
      refine va_sld hx hb hX hbl hbA hS (hi2) dL_law_466 ?_
      refine r_goI (r_runV (As := [.int (xs (x3 + (1 : Int32)).toNatClampNeg), .int (xs (x3 + (2 : Int32)).toNatClampNeg)]) (rest := []) hC hP hS (k_X11_about hg hO h1) cw_L_61 q_618 q_619 q_620 (Rm.L 2 (by decide) (by decide)) hO.1 rfl rfl hl.1 rfl (Nat.le_of_ble_eq_true rfl) dL_law_467) hS (fun H locs hP hS => ?_)
      refine lv_aload_n hx hb dL_law_470 rfl (lv_at hl 2 rfl) ?_
      refine lv_aload_n hx hb dL_law_471 rfl (lv_at hl 0 rfl) ?_
      refine lv_iload_n hx hb dL_law_472 rfl (lv_at hl 3 rfl) ?_
      refine lv_iconst (v := (1 : Int32)) hx hb dL_law_473 (by decide) ?_
      refine lv_iadd hx hb dL_law_474 ?_
      refine va_sld hx hb hX hbl hbA hS (hi1) dL_law_475 ?_
      refine lv_aload_n hx hb dL_law_476 rfl (lv_at hl 0 rfl) ?_
      refine lv_iload_n hx hb dL_law_477 rfl (lv_at hl 3 rfl) ?_
      refine lv_iconst (v := (2 : Int32)) hx hb dL_law_478 (by decide) ?_
      refine lv_iadd hx hb dL_law_479 ?_
      refine va_sld hx hb hX hbl hbA hS (hi2) dL_law_480 ?_
      refine r_goI (r_runV (As := [.int (xs (x3 + (1 : Int32)).toNatClampNeg), .int (xs (x3 + (2 : Int32)).toNatClampNeg)]) (rest := [.int v]) hC hP hS (k_X12_about hg hY h2) cw_L_64 q_630 q_631 q_632 (Rm.L 2 (by decide) (by decide)) hY.1 rfl rfl hl.1 rfl (Nat.le_of_ble_eq_true rfl) dL_law_481) hS (fun H locs hP hS => ?_)
      refine lv_icmp_eq (tgt := 939) hx hb dL_law_484 (by decide) (fun _ => ?_) (fun hne => absurd rfl hne)
      exact hnext M2 N H locs ls hI2 hP hS hl
    · refine lv_tableIn (tgt := 489) (off := 457) hx hb dL_law_32 (by rw [hw]; decide) (by rw [hw]; decide) (by rw [hw]; rfl) (by decide) ?_
      obtain ⟨v, M1, M2, h1, h2, hI2⟩ := hSt.2.2.2.2.2.2.2.2.2.2.2.2.1 k (xs (x3 + (1 : Int32)).toNatClampNeg) (xs (x3 + (2 : Int32)).toNatClampNeg) (xs (x3 + (3 : Int32)).toNatClampNeg) (xs (x3 + (4 : Int32)).toNatClampNeg) M N (by omega) hI
      refine lv_aload_n hx hb dL_law_489 rfl (lv_at hl 1 rfl) ?_
      refine lv_aload_n hx hb dL_law_490 rfl (lv_at hl 0 rfl) ?_
      refine lv_iload_n hx hb dL_law_491 rfl (lv_at hl 3 rfl) ?_
      refine lv_iconst (v := (1 : Int32)) hx hb dL_law_492 (by decide) ?_
      refine lv_iadd hx hb dL_law_493 ?_
      refine va_sld hx hb hX hbl hbA hS (hi1) dL_law_494 ?_
      refine lv_aload_n hx hb dL_law_495 rfl (lv_at hl 0 rfl) ?_
      refine lv_iload_n hx hb dL_law_496 rfl (lv_at hl 3 rfl) ?_
      refine lv_iconst (v := (2 : Int32)) hx hb dL_law_497 (by decide) ?_
      refine lv_iadd hx hb dL_law_498 ?_
      refine va_sld hx hb hX hbl hbA hS (hi2) dL_law_499 ?_
      refine lv_aload_n hx hb dL_law_500 rfl (lv_at hl 0 rfl) ?_
      refine lv_iload_n hx hb dL_law_501 rfl (lv_at hl 3 rfl) ?_
      refine lv_iconst (v := (3 : Int32)) hx hb dL_law_502 (by decide) ?_
      refine lv_iadd hx hb dL_law_503 ?_
      refine va_sld hx hb hX hbl hbA hS (hi3) dL_law_504 ?_
      refine lv_aload_n hx hb dL_law_505 rfl (lv_at hl 0 rfl) ?_
      refine lv_iload_n hx hb dL_law_506 rfl (lv_at hl 3 rfl) ?_
      refine lv_iconst (v := (4 : Int32)) hx hb dL_law_507 (by decide) ?_
      refine lv_iadd hx hb dL_law_508 ?_
      refine va_sld hx hb hX hbl hbA hS (hi4) dL_law_509 ?_
      refine r_goI (r_runV (As := [.int (xs (x3 + (1 : Int32)).toNatClampNeg), .int (xs (x3 + (2 : Int32)).toNatClampNeg), .int (xs (x3 + (3 : Int32)).toNatClampNeg), .int (xs (x3 + (4 : Int32)).toNatClampNeg)]) (rest := []) hC hP hS (k_X11_where hg hO h1) cw_L_65 q_639 q_640 q_641 (Rm.L 5 (by decide) (by decide)) hO.1 rfl rfl hl.1 rfl (Nat.le_of_ble_eq_true rfl) dL_law_510) hS (fun H locs hP hS => ?_)
      refine lv_aload_n hx hb dL_law_513 rfl (lv_at hl 2 rfl) ?_
      refine lv_aload_n hx hb dL_law_514 rfl (lv_at hl 0 rfl) ?_
      refine lv_iload_n hx hb dL_law_515 rfl (lv_at hl 3 rfl) ?_
      refine lv_iconst (v := (1 : Int32)) hx hb dL_law_516 (by decide) ?_
      refine lv_iadd hx hb dL_law_517 ?_
      refine va_sld hx hb hX hbl hbA hS (hi1) dL_law_518 ?_
      refine lv_aload_n hx hb dL_law_519 rfl (lv_at hl 0 rfl) ?_
      refine lv_iload_n hx hb dL_law_520 rfl (lv_at hl 3 rfl) ?_
      refine lv_iconst (v := (2 : Int32)) hx hb dL_law_521 (by decide) ?_
      refine lv_iadd hx hb dL_law_522 ?_
      refine va_sld hx hb hX hbl hbA hS (hi2) dL_law_523 ?_
      refine lv_aload_n hx hb dL_law_524 rfl (lv_at hl 0 rfl) ?_
      refine lv_iload_n hx hb dL_law_525 rfl (lv_at hl 3 rfl) ?_
      refine lv_iconst (v := (3 : Int32)) hx hb dL_law_526 (by decide) ?_
      refine lv_iadd hx hb dL_law_527 ?_
      refine va_sld hx hb hX hbl hbA hS (hi3) dL_law_528 ?_
      refine lv_aload_n hx hb dL_law_529 rfl (lv_at hl 0 rfl) ?_
      refine lv_iload_n hx hb dL_law_530 rfl (lv_at hl 3 rfl) ?_
      refine lv_iconst (v := (4 : Int32)) hx hb dL_law_531 (by decide) ?_
      refine lv_iadd hx hb dL_law_532 ?_
      refine va_sld hx hb hX hbl hbA hS (hi4) dL_law_533 ?_
      refine r_goI (r_runV (As := [.int (xs (x3 + (1 : Int32)).toNatClampNeg), .int (xs (x3 + (2 : Int32)).toNatClampNeg), .int (xs (x3 + (3 : Int32)).toNatClampNeg), .int (xs (x3 + (4 : Int32)).toNatClampNeg)]) (rest := [.int v]) hC hP hS (k_X12_where hg hY h2) cw_L_68 q_678 q_679 q_680 (Rm.L 4 (by decide) (by decide)) hY.1 rfl rfl hl.1 rfl (Nat.le_of_ble_eq_true rfl) dL_law_534) hS (fun H locs hP hS => ?_)
      refine lv_icmp_eq (tgt := 939) hx hb dL_law_537 (by decide) (fun _ => ?_) (fun hne => absurd rfl hne)
      exact hnext M2 N H locs ls hI2 hP hS hl
    · refine lv_tableIn (tgt := 542) (off := 510) hx hb dL_law_32 (by rw [hw]; decide) (by rw [hw]; decide) (by rw [hw]; rfl) (by decide) ?_
      obtain ⟨v, M1, M2, h1, h2, hI2⟩ := hSt.2.2.2.2.2.2.2.2.2.2.2.2.2.1 k (xs (x3 + (1 : Int32)).toNatClampNeg) M N (by omega) hI
      refine lv_aload_n hx hb dL_law_542 rfl (lv_at hl 1 rfl) ?_
      refine lv_aload_n hx hb dL_law_543 rfl (lv_at hl 0 rfl) ?_
      refine lv_iload_n hx hb dL_law_544 rfl (lv_at hl 3 rfl) ?_
      refine lv_iconst (v := (1 : Int32)) hx hb dL_law_545 (by decide) ?_
      refine lv_iadd hx hb dL_law_546 ?_
      refine va_sld hx hb hX hbl hbA hS (hi1) dL_law_547 ?_
      refine r_goI (r_runV (As := [.int (xs (x3 + (1 : Int32)).toNatClampNeg)]) (rest := []) hC hP hS (k_X11_loss hg hO h1) cw_L_69 q_698 q_699 q_700 (Rm.L 6 (by decide) (by decide)) hO.1 rfl rfl hl.1 rfl (Nat.le_of_ble_eq_true rfl) dL_law_548) hS (fun H locs hP hS => ?_)
      refine lv_aload_n hx hb dL_law_551 rfl (lv_at hl 2 rfl) ?_
      refine lv_aload_n hx hb dL_law_552 rfl (lv_at hl 0 rfl) ?_
      refine lv_iload_n hx hb dL_law_553 rfl (lv_at hl 3 rfl) ?_
      refine lv_iconst (v := (1 : Int32)) hx hb dL_law_554 (by decide) ?_
      refine lv_iadd hx hb dL_law_555 ?_
      refine va_sld hx hb hX hbl hbA hS (hi1) dL_law_556 ?_
      refine r_goI (r_runV (As := [.int (xs (x3 + (1 : Int32)).toNatClampNeg)]) (rest := [.int v]) hC hP hS (k_X12_loss hg hY h2) cw_L_72 q_712 q_713 q_714 (Rm.L 5 (by decide) (by decide)) hY.1 rfl rfl hl.1 rfl (Nat.le_of_ble_eq_true rfl) dL_law_557) hS (fun H locs hP hS => ?_)
      refine lv_icmp_eq (tgt := 939) hx hb dL_law_560 (by decide) (fun _ => ?_) (fun hne => absurd rfl hne)
      exact hnext M2 N H locs ls hI2 hP hS hl
    · refine lv_tableIn (tgt := 565) (off := 533) hx hb dL_law_32 (by rw [hw]; decide) (by rw [hw]; decide) (by rw [hw]; rfl) (by decide) ?_
      obtain ⟨v, M1, M2, h1, h2, hI2⟩ := hSt.2.2.2.2.2.2.2.2.2.2.2.2.2.2.1 k (xs (x3 + (1 : Int32)).toNatClampNeg) M N (by omega) hI
      refine lv_aload_n hx hb dL_law_565 rfl (lv_at hl 1 rfl) ?_
      refine lv_aload_n hx hb dL_law_566 rfl (lv_at hl 0 rfl) ?_
      refine lv_iload_n hx hb dL_law_567 rfl (lv_at hl 3 rfl) ?_
      refine lv_iconst (v := (1 : Int32)) hx hb dL_law_568 (by decide) ?_
      refine lv_iadd hx hb dL_law_569 ?_
      refine va_sld hx hb hX hbl hbA hS (hi1) dL_law_570 ?_
      refine r_goI (r_runV (As := [.int (xs (x3 + (1 : Int32)).toNatClampNeg)]) (rest := []) hC hP hS (k_X11_pushes hg hO h1) cw_L_73 q_720 q_721 q_722 (Rm.L 6 (by decide) (by decide)) hO.1 rfl rfl hl.1 rfl (Nat.le_of_ble_eq_true rfl) dL_law_571) hS (fun H locs hP hS => ?_)
      refine lv_aload_n hx hb dL_law_574 rfl (lv_at hl 2 rfl) ?_
      refine lv_aload_n hx hb dL_law_575 rfl (lv_at hl 0 rfl) ?_
      refine lv_iload_n hx hb dL_law_576 rfl (lv_at hl 3 rfl) ?_
      refine lv_iconst (v := (1 : Int32)) hx hb dL_law_577 (by decide) ?_
      refine lv_iadd hx hb dL_law_578 ?_
      refine va_sld hx hb hX hbl hbA hS (hi1) dL_law_579 ?_
      refine r_goI (r_runV (As := [.int (xs (x3 + (1 : Int32)).toNatClampNeg)]) (rest := [.int v]) hC hP hS (k_X12_pushes hg hY h2) cw_L_76 q_749 q_750 q_751 (Rm.L 4 (by decide) (by decide)) hY.1 rfl rfl hl.1 rfl (Nat.le_of_ble_eq_true rfl) dL_law_580) hS (fun H locs hP hS => ?_)
      refine lv_icmp_eq (tgt := 939) hx hb dL_law_583 (by decide) (fun _ => ?_) (fun hne => absurd rfl hne)
      exact hnext M2 N H locs ls hI2 hP hS hl
    · refine lv_tableIn (tgt := 588) (off := 556) hx hb dL_law_32 (by rw [hw]; decide) (by rw [hw]; decide) (by rw [hw]; rfl) (by decide) ?_
      obtain ⟨v, M1, M2, h1, h2, hI2⟩ := hSt.2.2.2.2.2.2.2.2.2.2.2.2.2.2.2.1 k (xs (x3 + (1 : Int32)).toNatClampNeg) (xs (x3 + (2 : Int32)).toNatClampNeg) M N (by omega) hI
      refine lv_aload_n hx hb dL_law_588 rfl (lv_at hl 1 rfl) ?_
      refine lv_aload_n hx hb dL_law_589 rfl (lv_at hl 0 rfl) ?_
      refine lv_iload_n hx hb dL_law_590 rfl (lv_at hl 3 rfl) ?_
      refine lv_iconst (v := (1 : Int32)) hx hb dL_law_591 (by decide) ?_
      refine lv_iadd hx hb dL_law_592 ?_
      refine va_sld hx hb hX hbl hbA hS (hi1) dL_law_593 ?_
      refine lv_aload_n hx hb dL_law_594 rfl (lv_at hl 0 rfl) ?_
      refine lv_iload_n hx hb dL_law_595 rfl (lv_at hl 3 rfl) ?_
      refine lv_iconst (v := (2 : Int32)) hx hb dL_law_596 (by decide) ?_
      refine lv_iadd hx hb dL_law_597 ?_
      refine va_sld hx hb hX hbl hbA hS (hi2) dL_law_598 ?_
      refine r_goI (r_runV (As := [.int (xs (x3 + (1 : Int32)).toNatClampNeg), .int (xs (x3 + (2 : Int32)).toNatClampNeg)]) (rest := []) hC hP hS (k_X11_moved hg hO h1) cw_L_77 q_759 q_760 q_761 (Rm.L 6 (by decide) (by decide)) hO.1 rfl rfl hl.1 rfl (Nat.le_of_ble_eq_true rfl) dL_law_599) hS (fun H locs hP hS => ?_)
      refine lv_aload_n hx hb dL_law_602 rfl (lv_at hl 2 rfl) ?_
      refine lv_aload_n hx hb dL_law_603 rfl (lv_at hl 0 rfl) ?_
      refine lv_iload_n hx hb dL_law_604 rfl (lv_at hl 3 rfl) ?_
      refine lv_iconst (v := (1 : Int32)) hx hb dL_law_605 (by decide) ?_
      refine lv_iadd hx hb dL_law_606 ?_
      refine va_sld hx hb hX hbl hbA hS (hi1) dL_law_607 ?_
      refine lv_aload_n hx hb dL_law_608 rfl (lv_at hl 0 rfl) ?_
      refine lv_iload_n hx hb dL_law_609 rfl (lv_at hl 3 rfl) ?_
      refine lv_iconst (v := (2 : Int32)) hx hb dL_law_610 (by decide) ?_
      refine lv_iadd hx hb dL_law_611 ?_
      refine va_sld hx hb hX hbl hbA hS (hi2) dL_law_612 ?_
      refine r_goI (r_runV (As := [.int (xs (x3 + (1 : Int32)).toNatClampNeg), .int (xs (x3 + (2 : Int32)).toNatClampNeg)]) (rest := [.int v]) hC hP hS (k_X12_moved hg hY h2) cw_L_80 q_768 q_769 q_770 (Rm.L 5 (by decide) (by decide)) hY.1 rfl rfl hl.1 rfl (Nat.le_of_ble_eq_true rfl) dL_law_613) hS (fun H locs hP hS => ?_)
      refine lv_icmp_eq (tgt := 939) hx hb dL_law_616 (by decide) (fun _ => ?_) (fun hne => absurd rfl hne)
      exact hnext M2 N H locs ls hI2 hP hS hl
    · refine lv_tableIn (tgt := 621) (off := 589) hx hb dL_law_32 (by rw [hw]; decide) (by rw [hw]; decide) (by rw [hw]; rfl) (by decide) ?_
      obtain ⟨v, M1, M2, h1, h2, hI2⟩ := hSt.2.2.2.2.2.2.2.2.2.2.2.2.2.2.2.2.1 k (xs (x3 + (1 : Int32)).toNatClampNeg) (xs (x3 + (2 : Int32)).toNatClampNeg) (xs (x3 + (3 : Int32)).toNatClampNeg) M N (by omega) hI
      refine lv_aload_n hx hb dL_law_621 rfl (lv_at hl 1 rfl) ?_
      refine lv_aload_n hx hb dL_law_622 rfl (lv_at hl 0 rfl) ?_
      refine lv_iload_n hx hb dL_law_623 rfl (lv_at hl 3 rfl) ?_
      refine lv_iconst (v := (1 : Int32)) hx hb dL_law_624 (by decide) ?_
      refine lv_iadd hx hb dL_law_625 ?_
      refine va_sld hx hb hX hbl hbA hS (hi1) dL_law_626 ?_
      refine lv_aload_n hx hb dL_law_627 rfl (lv_at hl 0 rfl) ?_
      refine lv_iload_n hx hb dL_law_628 rfl (lv_at hl 3 rfl) ?_
      refine lv_iconst (v := (2 : Int32)) hx hb dL_law_629 (by decide) ?_
      refine lv_iadd hx hb dL_law_630 ?_
      refine va_sld hx hb hX hbl hbA hS (hi2) dL_law_631 ?_
      refine lv_aload_n hx hb dL_law_632 rfl (lv_at hl 0 rfl) ?_
      refine lv_iload_n hx hb dL_law_633 rfl (lv_at hl 3 rfl) ?_
      refine lv_iconst (v := (3 : Int32)) hx hb dL_law_634 (by decide) ?_
      refine lv_iadd hx hb dL_law_635 ?_
      refine va_sld hx hb hX hbl hbA hS (hi3) dL_law_636 ?_
      refine r_goI (r_runV (As := [.int (xs (x3 + (1 : Int32)).toNatClampNeg), .int (xs (x3 + (2 : Int32)).toNatClampNeg), .int (xs (x3 + (3 : Int32)).toNatClampNeg)]) (rest := []) hC hP hS (k_X11_road hg hO h1) cw_L_81 q_772 q_773 q_774 (Rm.L 5 (by decide) (by decide)) hO.1 rfl rfl hl.1 rfl (Nat.le_of_ble_eq_true rfl) dL_law_637) hS (fun H locs hP hS => ?_)
      refine lv_aload_n hx hb dL_law_640 rfl (lv_at hl 2 rfl) ?_
      refine lv_aload_n hx hb dL_law_641 rfl (lv_at hl 0 rfl) ?_
      refine lv_iload_n hx hb dL_law_642 rfl (lv_at hl 3 rfl) ?_
      refine lv_iconst (v := (1 : Int32)) hx hb dL_law_643 (by decide) ?_
      refine lv_iadd hx hb dL_law_644 ?_
      refine va_sld hx hb hX hbl hbA hS (hi1) dL_law_645 ?_
      refine lv_aload_n hx hb dL_law_646 rfl (lv_at hl 0 rfl) ?_
      refine lv_iload_n hx hb dL_law_647 rfl (lv_at hl 3 rfl) ?_
      refine lv_iconst (v := (2 : Int32)) hx hb dL_law_648 (by decide) ?_
      refine lv_iadd hx hb dL_law_649 ?_
      refine va_sld hx hb hX hbl hbA hS (hi2) dL_law_650 ?_
      refine lv_aload_n hx hb dL_law_651 rfl (lv_at hl 0 rfl) ?_
      refine lv_iload_n hx hb dL_law_652 rfl (lv_at hl 3 rfl) ?_
      refine lv_iconst (v := (3 : Int32)) hx hb dL_law_653 (by decide) ?_
      refine lv_iadd hx hb dL_law_654 ?_
      refine va_sld hx hb hX hbl hbA hS (hi3) dL_law_655 ?_
      refine r_goI (r_runV (As := [.int (xs (x3 + (1 : Int32)).toNatClampNeg), .int (xs (x3 + (2 : Int32)).toNatClampNeg), .int (xs (x3 + (3 : Int32)).toNatClampNeg)]) (rest := [.int v]) hC hP hS (k_X12_road hg hY h2) cw_L_84 q_790 q_791 q_792 (Rm.L 4 (by decide) (by decide)) hY.1 rfl rfl hl.1 rfl (Nat.le_of_ble_eq_true rfl) dL_law_656) hS (fun H locs hP hS => ?_)
      refine lv_icmp_eq (tgt := 939) hx hb dL_law_659 (by decide) (fun _ => ?_) (fun hne => absurd rfl hne)
      exact hnext M2 N H locs ls hI2 hP hS hl
    · refine lv_tableIn (tgt := 664) (off := 632) hx hb dL_law_32 (by rw [hw]; decide) (by rw [hw]; decide) (by rw [hw]; rfl) (by decide) ?_
      obtain ⟨v, h1, h2, hI2⟩ := hSt.2.2.2.2.2.2.2.2.2.2.2.2.2.2.2.2.2.1 k M N (by omega) hI
      refine lv_aload_n hx hb dL_law_664 rfl (lv_at hl 1 rfl) ?_
      refine r_goI (r_runV (As := []) (rest := []) hC hP hS (k_X11_back hg hO h1) cw_L_85 q_798 q_799 q_800 (Rm.L 3 (by decide) (by decide)) hO.1 rfl rfl hl.1 rfl (Nat.le_of_ble_eq_true rfl) dL_law_665) hS (fun H locs hP hS => ?_)
      refine lv_aload_n hx hb dL_law_668 rfl (lv_at hl 2 rfl) ?_
      refine r_goI (r_runV (As := []) (rest := [.int v]) hC hP hS (k_X12_back hg hY h2) cw_L_88 q_810 q_811 q_812 (Rm.L 2 (by decide) (by decide)) hY.1 rfl rfl hl.1 rfl (Nat.le_of_ble_eq_true rfl) dL_law_669) hS (fun H locs hP hS => ?_)
      refine lv_icmp_eq (tgt := 939) hx hb dL_law_672 (by decide) (fun _ => ?_) (fun hne => absurd rfl hne)
      exact hnext M N H locs ls hI2 hP hS hl
    · refine lv_tableIn (tgt := 677) (off := 645) hx hb dL_law_32 (by rw [hw]; decide) (by rw [hw]; decide) (by rw [hw]; rfl) (by decide) ?_
      obtain ⟨v, M1, M2, h1, h2, hI2⟩ := hSt.2.2.2.2.2.2.2.2.2.2.2.2.2.2.2.2.2.2.1 k (xs (x3 + (1 : Int32)).toNatClampNeg) (xs (x3 + (2 : Int32)).toNatClampNeg) M N (by omega) hI
      refine lv_aload_n hx hb dL_law_677 rfl (lv_at hl 1 rfl) ?_
      refine lv_aload_n hx hb dL_law_678 rfl (lv_at hl 0 rfl) ?_
      refine lv_iload_n hx hb dL_law_679 rfl (lv_at hl 3 rfl) ?_
      refine lv_iconst (v := (1 : Int32)) hx hb dL_law_680 (by decide) ?_
      refine lv_iadd hx hb dL_law_681 ?_
      refine va_sld hx hb hX hbl hbA hS (hi1) dL_law_682 ?_
      refine lv_aload_n hx hb dL_law_683 rfl (lv_at hl 0 rfl) ?_
      refine lv_iload_n hx hb dL_law_684 rfl (lv_at hl 3 rfl) ?_
      refine lv_iconst (v := (2 : Int32)) hx hb dL_law_685 (by decide) ?_
      refine lv_iadd hx hb dL_law_686 ?_
      refine va_sld hx hb hX hbl hbA hS (hi2) dL_law_687 ?_
      refine r_goI (r_runV (As := [.int (xs (x3 + (1 : Int32)).toNatClampNeg), .int (xs (x3 + (2 : Int32)).toNatClampNeg)]) (rest := []) hC hP hS (k_X11_told hg hO h1) cw_L_89 q_821 q_822 q_823 (Rm.L 1 (by decide) (by decide)) hO.1 rfl rfl hl.1 rfl (Nat.le_of_ble_eq_true rfl) dL_law_688) hS (fun H locs hP hS => ?_)
      refine lv_aload_n hx hb dL_law_691 rfl (lv_at hl 2 rfl) ?_
      refine lv_aload_n hx hb dL_law_692 rfl (lv_at hl 0 rfl) ?_
      refine lv_iload_n hx hb dL_law_693 rfl (lv_at hl 3 rfl) ?_
      refine lv_iconst (v := (1 : Int32)) hx hb dL_law_694 (by decide) ?_
      refine lv_iadd hx hb dL_law_695 ?_
      refine va_sld hx hb hX hbl hbA hS (hi1) dL_law_696 ?_
      refine lv_aload_n hx hb dL_law_697 rfl (lv_at hl 0 rfl) ?_
      refine lv_iload_n hx hb dL_law_698 rfl (lv_at hl 3 rfl) ?_
      refine lv_iconst (v := (2 : Int32)) hx hb dL_law_699 (by decide) ?_
      refine lv_iadd hx hb dL_law_700 ?_
      refine va_sld hx hb hX hbl hbA hS (hi2) dL_law_701 ?_
      refine r_goI (r_runV (As := [.int (xs (x3 + (1 : Int32)).toNatClampNeg), .int (xs (x3 + (2 : Int32)).toNatClampNeg)]) (rest := [.int v]) hC hP hS (k_X12_told hg hY h2) cw_L_92 q_826 q_827 q_828 (Rm.L 2 (by decide) (by decide)) hY.1 rfl rfl hl.1 rfl (Nat.le_of_ble_eq_true rfl) dL_law_702) hS (fun H locs hP hS => ?_)
      refine lv_icmp_eq (tgt := 939) hx hb dL_law_705 (by decide) (fun _ => ?_) (fun hne => absurd rfl hne)
      exact hnext M2 N H locs ls hI2 hP hS hl
    · refine lv_tableIn (tgt := 710) (off := 678) hx hb dL_law_32 (by rw [hw]; decide) (by rw [hw]; decide) (by rw [hw]; rfl) (by decide) ?_
      obtain ⟨v, M1, M2, h1, h2, hI2⟩ := hSt.2.2.2.2.2.2.2.2.2.2.2.2.2.2.2.2.2.2.2.1 k (xs (x3 + (1 : Int32)).toNatClampNeg) (xs (x3 + (2 : Int32)).toNatClampNeg) M N (by omega) hI
      refine lv_aload_n hx hb dL_law_710 rfl (lv_at hl 1 rfl) ?_
      refine lv_aload_n hx hb dL_law_711 rfl (lv_at hl 0 rfl) ?_
      refine lv_iload_n hx hb dL_law_712 rfl (lv_at hl 3 rfl) ?_
      refine lv_iconst (v := (1 : Int32)) hx hb dL_law_713 (by decide) ?_
      refine lv_iadd hx hb dL_law_714 ?_
      refine va_sld hx hb hX hbl hbA hS (hi1) dL_law_715 ?_
      refine lv_aload_n hx hb dL_law_716 rfl (lv_at hl 0 rfl) ?_
      refine lv_iload_n hx hb dL_law_717 rfl (lv_at hl 3 rfl) ?_
      refine lv_iconst (v := (2 : Int32)) hx hb dL_law_718 (by decide) ?_
      refine lv_iadd hx hb dL_law_719 ?_
      refine va_sld hx hb hX hbl hbA hS (hi2) dL_law_720 ?_
      refine r_goI (r_runV (As := [.int (xs (x3 + (1 : Int32)).toNatClampNeg), .int (xs (x3 + (2 : Int32)).toNatClampNeg)]) (rest := []) hC hP hS (k_X11_taken hg hO h1) cw_L_93 q_831 q_832 q_833 (Rm.L 7 (by decide) (by decide)) hO.1 rfl rfl hl.1 rfl (Nat.le_of_ble_eq_true rfl) dL_law_721) hS (fun H locs hP hS => ?_)
      refine lv_aload_n hx hb dL_law_724 rfl (lv_at hl 2 rfl) ?_
      refine lv_aload_n hx hb dL_law_725 rfl (lv_at hl 0 rfl) ?_
      refine lv_iload_n hx hb dL_law_726 rfl (lv_at hl 3 rfl) ?_
      refine lv_iconst (v := (1 : Int32)) hx hb dL_law_727 (by decide) ?_
      refine lv_iadd hx hb dL_law_728 ?_
      refine va_sld hx hb hX hbl hbA hS (hi1) dL_law_729 ?_
      refine lv_aload_n hx hb dL_law_730 rfl (lv_at hl 0 rfl) ?_
      refine lv_iload_n hx hb dL_law_731 rfl (lv_at hl 3 rfl) ?_
      refine lv_iconst (v := (2 : Int32)) hx hb dL_law_732 (by decide) ?_
      refine lv_iadd hx hb dL_law_733 ?_
      refine va_sld hx hb hX hbl hbA hS (hi2) dL_law_734 ?_
      refine r_goI (r_runV (As := [.int (xs (x3 + (1 : Int32)).toNatClampNeg), .int (xs (x3 + (2 : Int32)).toNatClampNeg)]) (rest := [.int v]) hC hP hS (k_X12_taken hg hY h2) cw_L_96 q_850 q_851 q_852 (Rm.L 5 (by decide) (by decide)) hY.1 rfl rfl hl.1 rfl (Nat.le_of_ble_eq_true rfl) dL_law_735) hS (fun H locs hP hS => ?_)
      refine lv_icmp_eq (tgt := 939) hx hb dL_law_738 (by decide) (fun _ => ?_) (fun hne => absurd rfl hne)
      exact hnext M2 N H locs ls hI2 hP hS hl
    · refine lv_tableIn (tgt := 743) (off := 711) hx hb dL_law_32 (by rw [hw]; decide) (by rw [hw]; decide) (by rw [hw]; rfl) (by decide) ?_
      obtain ⟨v, M1, M2, h1, h2, hI2⟩ := hSt.2.2.2.2.2.2.2.2.2.2.2.2.2.2.2.2.2.2.2.2.1 k (xs (x3 + (1 : Int32)).toNatClampNeg) (xs (x3 + (2 : Int32)).toNatClampNeg) M N (by omega) hI
      refine lv_aload_n hx hb dL_law_743 rfl (lv_at hl 1 rfl) ?_
      refine lv_aload_n hx hb dL_law_744 rfl (lv_at hl 0 rfl) ?_
      refine lv_iload_n hx hb dL_law_745 rfl (lv_at hl 3 rfl) ?_
      refine lv_iconst (v := (1 : Int32)) hx hb dL_law_746 (by decide) ?_
      refine lv_iadd hx hb dL_law_747 ?_
      refine va_sld hx hb hX hbl hbA hS (hi1) dL_law_748 ?_
      refine lv_aload_n hx hb dL_law_749 rfl (lv_at hl 0 rfl) ?_
      refine lv_iload_n hx hb dL_law_750 rfl (lv_at hl 3 rfl) ?_
      refine lv_iconst (v := (2 : Int32)) hx hb dL_law_751 (by decide) ?_
      refine lv_iadd hx hb dL_law_752 ?_
      refine va_sld hx hb hX hbl hbA hS (hi2) dL_law_753 ?_
      refine r_goI (r_runV (As := [.int (xs (x3 + (1 : Int32)).toNatClampNeg), .int (xs (x3 + (2 : Int32)).toNatClampNeg)]) (rest := []) hC hP hS (k_X11_game hg hO h1) cw_L_97 q_858 q_859 q_860 (Rm.L 11 (by decide) (by decide)) hO.1 rfl rfl hl.1 rfl (Nat.le_of_ble_eq_true rfl) dL_law_754) hS (fun H locs hP hS => ?_)
      refine lv_aload_n hx hb dL_law_757 rfl (lv_at hl 2 rfl) ?_
      refine lv_aload_n hx hb dL_law_758 rfl (lv_at hl 0 rfl) ?_
      refine lv_iload_n hx hb dL_law_759 rfl (lv_at hl 3 rfl) ?_
      refine lv_iconst (v := (1 : Int32)) hx hb dL_law_760 (by decide) ?_
      refine lv_iadd hx hb dL_law_761 ?_
      refine va_sld hx hb hX hbl hbA hS (hi1) dL_law_762 ?_
      refine lv_aload_n hx hb dL_law_763 rfl (lv_at hl 0 rfl) ?_
      refine lv_iload_n hx hb dL_law_764 rfl (lv_at hl 3 rfl) ?_
      refine lv_iconst (v := (2 : Int32)) hx hb dL_law_765 (by decide) ?_
      refine lv_iadd hx hb dL_law_766 ?_
      refine va_sld hx hb hX hbl hbA hS (hi2) dL_law_767 ?_
      refine r_goI (r_runV (As := [.int (xs (x3 + (1 : Int32)).toNatClampNeg), .int (xs (x3 + (2 : Int32)).toNatClampNeg)]) (rest := [.int v]) hC hP hS (k_X12_game hg hY h2) cw_L_100 q_879 q_880 q_881 (Rm.L 2 (by decide) (by decide)) hY.1 rfl rfl hl.1 rfl (Nat.le_of_ble_eq_true rfl) dL_law_768) hS (fun H locs hP hS => ?_)
      refine lv_icmp_eq (tgt := 939) hx hb dL_law_771 (by decide) (fun _ => ?_) (fun hne => absurd rfl hne)
      exact hnext M2 N H locs ls hI2 hP hS hl
    · refine lv_tableIn (tgt := 776) (off := 744) hx hb dL_law_32 (by rw [hw]; decide) (by rw [hw]; decide) (by rw [hw]; rfl) (by decide) ?_
      obtain ⟨v, M1, N1, M2, N2, h1, h2, hI2⟩ := hSt.2.2.2.2.2.2.2.2.2.2.2.2.2.2.2.2.2.2.2.2.2.1 k (xs (x3 + (1 : Int32)).toNatClampNeg) (xs (x3 + (2 : Int32)).toNatClampNeg) M N (by omega) hI
      refine lv_aload_n hx hb dL_law_776 rfl (lv_at hl 1 rfl) ?_
      refine lv_aload_n hx hb dL_law_777 rfl (lv_at hl 0 rfl) ?_
      refine lv_iload_n hx hb dL_law_778 rfl (lv_at hl 3 rfl) ?_
      refine lv_iconst (v := (1 : Int32)) hx hb dL_law_779 (by decide) ?_
      refine lv_iadd hx hb dL_law_780 ?_
      refine va_sld hx hb hX hbl hbA hS (hi1) dL_law_781 ?_
      refine lv_aload_n hx hb dL_law_782 rfl (lv_at hl 0 rfl) ?_
      refine lv_iload_n hx hb dL_law_783 rfl (lv_at hl 3 rfl) ?_
      refine lv_iconst (v := (2 : Int32)) hx hb dL_law_784 (by decide) ?_
      refine lv_iadd hx hb dL_law_785 ?_
      refine va_sld hx hb hX hbl hbA hS (hi2) dL_law_786 ?_
      refine r_goI (r_runV (As := [.int (xs (x3 + (1 : Int32)).toNatClampNeg), .int (xs (x3 + (2 : Int32)).toNatClampNeg)]) (rest := []) hC hP hS (k_X11_fee hg hO h1) cw_L_101 q_890 q_891 q_892 (Rm.L 6 (by decide) (by decide)) hO.1 rfl rfl hl.1 rfl (Nat.le_of_ble_eq_true rfl) dL_law_787) hS (fun H locs hP hS => ?_)
      refine lv_aload_n hx hb dL_law_790 rfl (lv_at hl 2 rfl) ?_
      refine lv_aload_n hx hb dL_law_791 rfl (lv_at hl 0 rfl) ?_
      refine lv_iload_n hx hb dL_law_792 rfl (lv_at hl 3 rfl) ?_
      refine lv_iconst (v := (1 : Int32)) hx hb dL_law_793 (by decide) ?_
      refine lv_iadd hx hb dL_law_794 ?_
      refine va_sld hx hb hX hbl hbA hS (hi1) dL_law_795 ?_
      refine lv_aload_n hx hb dL_law_796 rfl (lv_at hl 0 rfl) ?_
      refine lv_iload_n hx hb dL_law_797 rfl (lv_at hl 3 rfl) ?_
      refine lv_iconst (v := (2 : Int32)) hx hb dL_law_798 (by decide) ?_
      refine lv_iadd hx hb dL_law_799 ?_
      refine va_sld hx hb hX hbl hbA hS (hi2) dL_law_800 ?_
      refine r_goI (r_runV (As := [.int (xs (x3 + (1 : Int32)).toNatClampNeg), .int (xs (x3 + (2 : Int32)).toNatClampNeg)]) (rest := [.int v]) hC hP hS (k_X12_fee hg hY h2) cw_L_104 q_922 q_923 q_924 (Rm.L 5 (by decide) (by decide)) hY.1 rfl rfl hl.1 rfl (Nat.le_of_ble_eq_true rfl) dL_law_801) hS (fun H locs hP hS => ?_)
      refine lv_icmp_eq (tgt := 939) hx hb dL_law_804 (by decide) (fun _ => ?_) (fun hne => absurd rfl hne)
      exact hnext M2 N2 H locs ls hI2 hP hS hl
    · refine lv_tableIn (tgt := 809) (off := 777) hx hb dL_law_32 (by rw [hw]; decide) (by rw [hw]; decide) (by rw [hw]; rfl) (by decide) ?_
      obtain ⟨v, M1, M2, h1, h2, hI2⟩ := hSt.2.2.2.2.2.2.2.2.2.2.2.2.2.2.2.2.2.2.2.2.2.2.1 k (xs (x3 + (1 : Int32)).toNatClampNeg) M N (by omega) hI
      refine lv_aload_n hx hb dL_law_809 rfl (lv_at hl 1 rfl) ?_
      refine lv_aload_n hx hb dL_law_810 rfl (lv_at hl 0 rfl) ?_
      refine lv_iload_n hx hb dL_law_811 rfl (lv_at hl 3 rfl) ?_
      refine lv_iconst (v := (1 : Int32)) hx hb dL_law_812 (by decide) ?_
      refine lv_iadd hx hb dL_law_813 ?_
      refine va_sld hx hb hX hbl hbA hS (hi1) dL_law_814 ?_
      refine r_goL (r_runV (As := [.int (xs (x3 + (1 : Int32)).toNatClampNeg)]) (rest := []) hC hP hS (k_X11_part hg hO h1) cw_L_105 q_933 q_934 q_935 (Rm.L 1 (by decide) (by decide)) hO.1 rfl rfl hl.1 rfl (Nat.le_of_ble_eq_true rfl) dL_law_815) hS (fun H locs hP hS => ?_)
      refine lv_aload_n hx hb dL_law_818 rfl (lv_at hl 2 rfl) ?_
      refine lv_aload_n hx hb dL_law_819 rfl (lv_at hl 0 rfl) ?_
      refine lv_iload_n hx hb dL_law_820 rfl (lv_at hl 3 rfl) ?_
      refine lv_iconst (v := (1 : Int32)) hx hb dL_law_821 (by decide) ?_
      refine lv_iadd hx hb dL_law_822 ?_
      refine va_sld hx hb hX hbl hbA hS (hi1) dL_law_823 ?_
      refine r_goL (r_runV (As := [.int (xs (x3 + (1 : Int32)).toNatClampNeg)]) (rest := [.long v]) hC hP hS (k_X12_part hg hY h2) cw_L_109 q_937 q_938 q_939 (Rm.L 1 (by decide) (by decide)) hY.1 rfl rfl hl.1 rfl (Nat.le_of_ble_eq_true rfl) dL_law_824) hS (fun H locs hP hS => ?_)
      refine W.lcmp hx hb dL_law_827 ?_
      refine lv_if_eq (tgt := 939) hx hb dL_law_828 (by decide) (fun _ => ?_) (fun hne => absurd (lg_cmp_self v) hne)
      exact hnext M2 N H locs ls hI2 hP hS hl
    · refine lv_tableIn (tgt := 833) (off := 801) hx hb dL_law_32 (by rw [hw]; decide) (by rw [hw]; decide) (by rw [hw]; rfl) (by decide) ?_
      obtain ⟨v, M1, M2, h1, h2, hI2⟩ := hSt.2.2.2.2.2.2.2.2.2.2.2.2.2.2.2.2.2.2.2.2.2.2.2.1 k (xs (x3 + (1 : Int32)).toNatClampNeg) M N (by omega) hI
      refine lv_aload_n hx hb dL_law_833 rfl (lv_at hl 1 rfl) ?_
      refine lv_aload_n hx hb dL_law_834 rfl (lv_at hl 0 rfl) ?_
      refine lv_iload_n hx hb dL_law_835 rfl (lv_at hl 3 rfl) ?_
      refine lv_iconst (v := (1 : Int32)) hx hb dL_law_836 (by decide) ?_
      refine lv_iadd hx hb dL_law_837 ?_
      refine va_sld hx hb hX hbl hbA hS (hi1) dL_law_838 ?_
      refine r_goI (r_runV (As := [.int (xs (x3 + (1 : Int32)).toNatClampNeg)]) (rest := []) hC hP hS (k_X11_image hg hO h1) cw_L_110 q_941 q_942 q_943 (Rm.L 4 (by decide) (by decide)) hO.1 rfl rfl hl.1 rfl (Nat.le_of_ble_eq_true rfl) dL_law_839) hS (fun H locs hP hS => ?_)
      refine lv_aload_n hx hb dL_law_842 rfl (lv_at hl 2 rfl) ?_
      refine lv_aload_n hx hb dL_law_843 rfl (lv_at hl 0 rfl) ?_
      refine lv_iload_n hx hb dL_law_844 rfl (lv_at hl 3 rfl) ?_
      refine lv_iconst (v := (1 : Int32)) hx hb dL_law_845 (by decide) ?_
      refine lv_iadd hx hb dL_law_846 ?_
      refine va_sld hx hb hX hbl hbA hS (hi1) dL_law_847 ?_
      refine r_goI (r_runV (As := [.int (xs (x3 + (1 : Int32)).toNatClampNeg)]) (rest := [.int v]) hC hP hS (k_X12_image hg hY h2) cw_L_113 q_949 q_950 q_951 (Rm.L 1 (by decide) (by decide)) hY.1 rfl rfl hl.1 rfl (Nat.le_of_ble_eq_true rfl) dL_law_848) hS (fun H locs hP hS => ?_)
      refine lv_icmp_eq (tgt := 939) hx hb dL_law_851 (by decide) (fun _ => ?_) (fun hne => absurd rfl hne)
      exact hnext M2 N H locs ls hI2 hP hS hl
    · refine lv_tableIn (tgt := 856) (off := 824) hx hb dL_law_32 (by rw [hw]; decide) (by rw [hw]; decide) (by rw [hw]; rfl) (by decide) ?_
      obtain ⟨v, M1, M2, h1, h2, hI2⟩ := hSt.2.2.2.2.2.2.2.2.2.2.2.2.2.2.2.2.2.2.2.2.2.2.2.2.1 k (xs (x3 + (1 : Int32)).toNatClampNeg) M N (by omega) hI
      refine lv_aload_n hx hb dL_law_856 rfl (lv_at hl 1 rfl) ?_
      refine lv_aload_n hx hb dL_law_857 rfl (lv_at hl 0 rfl) ?_
      refine lv_iload_n hx hb dL_law_858 rfl (lv_at hl 3 rfl) ?_
      refine lv_iconst (v := (1 : Int32)) hx hb dL_law_859 (by decide) ?_
      refine lv_iadd hx hb dL_law_860 ?_
      refine va_sld hx hb hX hbl hbA hS (hi1) dL_law_861 ?_
      refine r_goI (r_runV (As := [.int (xs (x3 + (1 : Int32)).toNatClampNeg)]) (rest := []) hC hP hS (k_X11_from hg hO h1) cw_L_114 q_953 q_954 q_955 (Rm.L 4 (by decide) (by decide)) hO.1 rfl rfl hl.1 rfl (Nat.le_of_ble_eq_true rfl) dL_law_862) hS (fun H locs hP hS => ?_)
      refine lv_aload_n hx hb dL_law_865 rfl (lv_at hl 2 rfl) ?_
      refine lv_aload_n hx hb dL_law_866 rfl (lv_at hl 0 rfl) ?_
      refine lv_iload_n hx hb dL_law_867 rfl (lv_at hl 3 rfl) ?_
      refine lv_iconst (v := (1 : Int32)) hx hb dL_law_868 (by decide) ?_
      refine lv_iadd hx hb dL_law_869 ?_
      refine va_sld hx hb hX hbl hbA hS (hi1) dL_law_870 ?_
      refine r_goI (r_runV (As := [.int (xs (x3 + (1 : Int32)).toNatClampNeg)]) (rest := [.int v]) hC hP hS (k_X12_from hg hY h2) cw_L_117 q_957 q_958 q_959 (Rm.L 1 (by decide) (by decide)) hY.1 rfl rfl hl.1 rfl (Nat.le_of_ble_eq_true rfl) dL_law_871) hS (fun H locs hP hS => ?_)
      refine lv_icmp_eq (tgt := 939) hx hb dL_law_874 (by decide) (fun _ => ?_) (fun hne => absurd rfl hne)
      exact hnext M2 N H locs ls hI2 hP hS hl
    · refine lv_tableIn (tgt := 879) (off := 847) hx hb dL_law_32 (by rw [hw]; decide) (by rw [hw]; decide) (by rw [hw]; rfl) (by decide) ?_
      obtain ⟨v, M1, M2, h1, h2, hI2⟩ := hSt.2.2.2.2.2.2.2.2.2.2.2.2.2.2.2.2.2.2.2.2.2.2.2.2.2.1 k (xs (x3 + (1 : Int32)).toNatClampNeg) M N (by omega) hI
      refine lv_aload_n hx hb dL_law_879 rfl (lv_at hl 1 rfl) ?_
      refine lv_aload_n hx hb dL_law_880 rfl (lv_at hl 0 rfl) ?_
      refine lv_iload_n hx hb dL_law_881 rfl (lv_at hl 3 rfl) ?_
      refine lv_iconst (v := (1 : Int32)) hx hb dL_law_882 (by decide) ?_
      refine lv_iadd hx hb dL_law_883 ?_
      refine va_sld hx hb hX hbl hbA hS (hi1) dL_law_884 ?_
      refine r_goI (r_runV (As := [.int (xs (x3 + (1 : Int32)).toNatClampNeg)]) (rest := []) hC hP hS (k_X11_status hg hO h1) cw_L_118 q_961 q_962 q_963 (Rm.L 1 (by decide) (by decide)) hO.1 rfl rfl hl.1 rfl (Nat.le_of_ble_eq_true rfl) dL_law_885) hS (fun H locs hP hS => ?_)
      refine lv_aload_n hx hb dL_law_888 rfl (lv_at hl 2 rfl) ?_
      refine lv_aload_n hx hb dL_law_889 rfl (lv_at hl 0 rfl) ?_
      refine lv_iload_n hx hb dL_law_890 rfl (lv_at hl 3 rfl) ?_
      refine lv_iconst (v := (1 : Int32)) hx hb dL_law_891 (by decide) ?_
      refine lv_iadd hx hb dL_law_892 ?_
      refine va_sld hx hb hX hbl hbA hS (hi1) dL_law_893 ?_
      refine r_goI (r_runV (As := [.int (xs (x3 + (1 : Int32)).toNatClampNeg)]) (rest := [.int v]) hC hP hS (k_X12_status hg hY h2) cw_L_121 q_965 q_966 q_967 (Rm.L 1 (by decide) (by decide)) hY.1 rfl rfl hl.1 rfl (Nat.le_of_ble_eq_true rfl) dL_law_894) hS (fun H locs hP hS => ?_)
      refine lv_icmp_eq (tgt := 939) hx hb dL_law_897 (by decide) (fun _ => ?_) (fun hne => absurd rfl hne)
      exact hnext M2 N H locs ls hI2 hP hS hl
    · refine lv_tableIn (tgt := 902) (off := 870) hx hb dL_law_32 (by rw [hw]; decide) (by rw [hw]; decide) (by rw [hw]; rfl) (by decide) ?_
      obtain ⟨v, M1, M2, h1, h2, hI2⟩ := hSt.2.2.2.2.2.2.2.2.2.2.2.2.2.2.2.2.2.2.2.2.2.2.2.2.2.2.1 k (xs (x3 + (1 : Int32)).toNatClampNeg) M N (by omega) hI
      refine lv_aload_n hx hb dL_law_902 rfl (lv_at hl 1 rfl) ?_
      refine lv_aload_n hx hb dL_law_903 rfl (lv_at hl 0 rfl) ?_
      refine lv_iload_n hx hb dL_law_904 rfl (lv_at hl 3 rfl) ?_
      refine lv_iconst (v := (1 : Int32)) hx hb dL_law_905 (by decide) ?_
      refine lv_iadd hx hb dL_law_906 ?_
      refine va_sld hx hb hX hbl hbA hS (hi1) dL_law_907 ?_
      refine r_goI (r_runV (As := [.int (xs (x3 + (1 : Int32)).toNatClampNeg)]) (rest := []) hC hP hS (k_X11_count hg hO h1) cw_L_122 q_969 q_970 q_971 (Rm.L 3 (by decide) (by decide)) hO.1 rfl rfl hl.1 rfl (Nat.le_of_ble_eq_true rfl) dL_law_908) hS (fun H locs hP hS => ?_)
      refine lv_aload_n hx hb dL_law_911 rfl (lv_at hl 2 rfl) ?_
      refine lv_aload_n hx hb dL_law_912 rfl (lv_at hl 0 rfl) ?_
      refine lv_iload_n hx hb dL_law_913 rfl (lv_at hl 3 rfl) ?_
      refine lv_iconst (v := (1 : Int32)) hx hb dL_law_914 (by decide) ?_
      refine lv_iadd hx hb dL_law_915 ?_
      refine va_sld hx hb hX hbl hbA hS (hi1) dL_law_916 ?_
      refine r_goI (r_runV (As := [.int (xs (x3 + (1 : Int32)).toNatClampNeg)]) (rest := [.int v]) hC hP hS (k_X12_count hg hY h2) cw_L_125 q_984 q_985 q_986 (Rm.L 2 (by decide) (by decide)) hY.1 rfl rfl hl.1 rfl (Nat.le_of_ble_eq_true rfl) dL_law_917) hS (fun H locs hP hS => ?_)
      refine lv_icmp_eq (tgt := 939) hx hb dL_law_920 (by decide) (fun _ => ?_) (fun hne => absurd rfl hne)
      exact hnext M2 N H locs ls hI2 hP hS hl
    · refine lv_tableIn (tgt := 925) (off := 893) hx hb dL_law_32 (by rw [hw]; decide) (by rw [hw]; decide) (by rw [hw]; rfl) (by decide) ?_
      obtain ⟨v, h1, h2, hI2⟩ := hSt.2.2.2.2.2.2.2.2.2.2.2.2.2.2.2.2.2.2.2.2.2.2.2.2.2.2.2 k M N (by omega) hI
      refine lv_aload_n hx hb dL_law_925 rfl (lv_at hl 1 rfl) ?_
      refine r_goL (r_runV (As := []) (rest := []) hC hP hS (k_X11_digest hg hO h1) cw_L_126 q_992 q_993 q_994 (Rm.L 3 (by decide) (by decide)) hO.1 rfl rfl hl.1 rfl (Nat.le_of_ble_eq_true rfl) dL_law_926) hS (fun H locs hP hS => ?_)
      refine lv_aload_n hx hb dL_law_929 rfl (lv_at hl 2 rfl) ?_
      refine r_goL (r_runV (As := []) (rest := [.long v]) hC hP hS (k_X12_digest hg hY h2) cw_L_130 q_1004 q_1005 q_1006 (Rm.L 2 (by decide) (by decide)) hY.1 rfl rfl hl.1 rfl (Nat.le_of_ble_eq_true rfl) dL_law_930) hS (fun H locs hP hS => ?_)
      refine W.lcmp hx hb dL_law_933 ?_
      refine lv_if_eq (tgt := 939) hx hb dL_law_934 (by decide) (fun _ => ?_) (fun hne => absurd (lg_cmp_self v) hne)
      exact hnext M N H locs ls hI2 hP hS hl
    · refine lv_tableOut (tgt := 939) hx hb dL_law_32 hw (by decide) ?_
      exact hnext M N H locs ls (hSt.1 k M N hI) hP hS hl
