set_option maxRecDepth 100000 in
set_option maxHeartbeats 4000000 in
theorem k_X12_goRound {g : Ev} {l : Launch} (hg : g.2.1.Nodup) {y : Nat} (hO : oModel g y) {M : Mm} {N : Ml}  {v : Int32} {MR : Mm} (hf : f_X12_goRound y M = some (v, MR)) : KM g l yX12_goRound cX12_goRound 3 (some .int) 3 [.ref y] M N (QI g v MR N) := by
  refine KM.mk hg (by decide) (Nat.le_of_ble_eq_true rfl) ?_
  intro p e s m below meth c ls hC hr hlk hl hP hS
  have hx := hC.1
  have hb := hC.2.1
  have hl : lv_has ls 3 [(0, .ref y)] := hl
  have J127 : ∀ (kb101 : Int32 → Int32 → Mm → Option (Int32 × Mm)) (hkb101 : ∀ (x1 : Int32) (x2 : Int32) (M : Mm) (H : Heap) (locs : List Loc) (ls : Array Slot), kb101 x1 x2 M = some (v, MR) → wP g M N H → va_S (wA g) s.heap H locs → lv_has ls 3 [(0, .ref y), (1, .int x1), (2, .int x2)] → W p l e (rmD 3) s m ([.ref y] : List Value).toArray below meth c H locs 0 0 (MQ below (QI g v MR N) ([.ref y] : List Value).toArray s 0 0 (wA g)) (F0 m 101 ls [])) (x2 : Int32) (s0 : Int32) (s1 : Int32) (M : Mm) (H : Heap) (locs : List Loc) (ls : Array Slot), f_X12_goRound_J127 y x2 s0 s1 M kb101 = some (v, MR) → wP g M N H → va_S (wA g) s.heap H locs → lv_has ls 3 [(0, .ref y), (2, .int x2)] → W p l e (rmD 3) s m ([.ref y] : List Value).toArray below meth c H locs 0 0 (MQ below (QI g v MR N) ([.ref y] : List Value).toArray s 0 0 (wA g)) (F0 m 127 ls [.int s1, .int s0]) := by
    intro kb101 hkb101 x2 s0 s1 M H locs ls hf hP hS hl
    unfold f_X12_goRound_J127 at hf
    refine lv_iadd hx hb dX12_goRound_127 ?_
    refine lv_topi (fun z13 ez13 => ?_)
    have hf := bs ez13 hf
    refine lv_istore_n (lv' := [(1, .int z13), (0, .ref y), (2, .int x2)]) hx hb dX12_goRound_128 rfl hl (by decide) rfl (fun ls hl => ?_)
    obtain ⟨z14, ez14, hf⟩ := bsJ hf
    refine lv_iinc (v := z14) (lv' := [(2, .int z14), (1, .int z13), (0, .ref y)]) hx hb dX12_goRound_129 hl (k := 2) rfl (by rw [ez14]; rfl) (by decide) rfl (fun ls hl => ?_)
    refine lv_goto (tgt := 101) hx hb dX12_goRound_132 (by decide) ?_
    exact hkb101 z13 z14 M _ _ _ hf hP hS (lv_sub hl [2, 1, 0] rfl)
  have L101 : ∀ (n : Nat) (x1 : Int32) (x2 : Int32) (M : Mm) (H : Heap) (locs : List Loc) (ls : Array Slot), f_X12_goRound_L101 y n x1 x2 M = some (v, MR) → wP g M N H → va_S (wA g) s.heap H locs → lv_has ls 3 [(0, .ref y), (1, .int x1), (2, .int x2)] → W p l e (rmD 3) s m ([.ref y] : List Value).toArray below meth c H locs 0 0 (MQ below (QI g v MR N) ([.ref y] : List Value).toArray s 0 0 (wA g)) (F0 m 101 ls []) := by
    intro n
    induction n with
    | zero =>
      intro x1 x2 M H locs ls hf
      exact absurd hf (by simp [f_X12_goRound_L101])
    | succ n ih =>
      intro x1 x2 M H locs ls hf hP hS hl
      unfold f_X12_goRound_L101 at hf
      refine lv_iload_n hx hb dX12_goRound_101 rfl (lv_at hl 2 rfl) ?_
      refine lv_aload_n hx hb dX12_goRound_102 rfl (lv_at hl 0 rfl) ?_
      obtain ⟨r5, hu6, hf⟩ := bd_s hf
      refine r_goI (r_runV (As := []) (rest := [.int x2]) hC hP hS (k_X12_moons hg hO hu6) cw_X12_68 q_263 q_264 q_265 (Rm.D 0 3 rfl) hO.1 rfl rfl hl.1 rfl (Nat.le_of_ble_eq_true rfl) dX12_goRound_103) hS (fun H locs hP hS => ?_)
      refine lv_icmp_ge (tgt := 135) hx hb dX12_goRound_106 (by decide) (fun c8 => ?_) (fun c8 => ?_)
      · have hf := if_t c8 hf
        refine lv_iload_n hx hb dX12_goRound_135 rfl (lv_at hl 1 rfl) ?_
        exact e_IM hC hr hlk hP hS dX12_goRound_136 hf
      · have hf := if_f c8 hf
        refine lv_iload_n hx hb dX12_goRound_109 rfl (lv_at hl 1 rfl) ?_
        refine lv_aload_n hx hb dX12_goRound_110 rfl (lv_at hl 0 rfl) ?_
        refine lv_iload_n hx hb dX12_goRound_111 rfl (lv_at hl 2 rfl) ?_
        obtain ⟨r9, hu10, hf⟩ := bd_s hf
        refine r_goI (r_runV (As := [.int x2]) (rest := [.int x1]) hC hP hS (k_X12_isAwake hg hO hu10) cw_X12_121 q_565 q_566 q_567 (Rm.D 1 3 rfl) hO.1 rfl rfl hl.1 rfl (Nat.le_of_ble_eq_true rfl) dX12_goRound_112) hS (fun H locs hP hS => ?_)
        refine lv_if_eq (tgt := 126) hx hb dX12_goRound_115 (by decide) (fun c12 => ?_) (fun c12 => ?_)
        · have hf := if_t c12 hf
          refine lv_iconst (v := (0 : Int32)) hx hb dX12_goRound_126 (by decide) ?_
          exact J127 _ ih x2 x1 (0 : Int32) M _ _ _ hf hP hS (lv_sub hl [0, 2] rfl)
        · have hf := if_f c12 hf
          refine lv_aload_n hx hb dX12_goRound_118 rfl (lv_at hl 0 rfl) ?_
          refine lv_iload_n hx hb dX12_goRound_119 rfl (lv_at hl 2 rfl) ?_
          obtain ⟨r15, M17, hu16, hf⟩ := bd2_s hf
          refine r_goI (r_runV (As := [.int x2]) (rest := [.int x1]) hC hP hS (k_X12_goMoon hg hO hu16) cw_X12_124 q_569 q_570 q_571 (Rm.D 2 3 rfl) hO.1 rfl rfl hl.1 rfl (Nat.le_of_ble_eq_true rfl) dX12_goRound_120) hS (fun H locs hP hS => ?_)
          refine lv_goto (tgt := 127) hx hb dX12_goRound_123 (by decide) ?_
          exact J127 _ ih x2 x1 r15 M17 _ _ _ hf hP hS (lv_sub hl [0, 2] rfl)
  have L56 : ∀ (kb2 : Int32 → Mm → Option (Int32 × Mm)) (hkb2 : ∀ (x1 : Int32) (M : Mm) (H : Heap) (locs : List Loc) (ls : Array Slot), kb2 x1 M = some (v, MR) → wP g M N H → va_S (wA g) s.heap H locs → lv_has ls 3 [(0, .ref y), (1, .int x1)] → W p l e (rmD 3) s m ([.ref y] : List Value).toArray below meth c H locs 0 0 (MQ below (QI g v MR N) ([.ref y] : List Value).toArray s 0 0 (wA g)) (F0 m 2 ls [])) (n : Nat) (x1 : Int32) (x2 : Int32) (M : Mm) (H : Heap) (locs : List Loc) (ls : Array Slot), f_X12_goRound_L56 y kb2 n x1 x2 M = some (v, MR) → wP g M N H → va_S (wA g) s.heap H locs → lv_has ls 3 [(0, .ref y), (1, .int x1), (2, .int x2)] → W p l e (rmD 3) s m ([.ref y] : List Value).toArray below meth c H locs 0 0 (MQ below (QI g v MR N) ([.ref y] : List Value).toArray s 0 0 (wA g)) (F0 m 56 ls []) := by
    intro kb2 hkb2
    intro n
    induction n with
    | zero =>
      intro x1 x2 M H locs ls hf
      exact absurd hf (by simp [f_X12_goRound_L56])
    | succ n ih =>
      intro x1 x2 M H locs ls hf hP hS hl
      unfold f_X12_goRound_L56 at hf
      refine lv_iload_n hx hb dX12_goRound_56 rfl (lv_at hl 2 rfl) ?_
      refine lv_aload_n hx hb dX12_goRound_57 rfl (lv_at hl 0 rfl) ?_
      obtain ⟨r22, hu23, hf⟩ := bd_s hf
      refine r_goI (r_runV (As := []) (rest := [.int x2]) hC hP hS (k_X12_places hg hO hu23) cw_X12_64 q_200 q_201 q_202 (Rm.D 0 3 rfl) hO.1 rfl rfl hl.1 rfl (Nat.le_of_ble_eq_true rfl) dX12_goRound_58) hS (fun H locs hP hS => ?_)
      refine lv_icmp_ge (tgt := 87) hx hb dX12_goRound_61 (by decide) (fun c25 => ?_) (fun c25 => ?_)
      · have hf := if_t c25 hf
        obtain ⟨z26, ez26, hf⟩ := bsJ hf
        refine lv_iinc (v := z26) (lv' := [(1, .int z26), (0, .ref y), (2, .int x2)]) hx hb dX12_goRound_87 hl (k := 1) rfl (by rw [ez26]; rfl) (by decide) rfl (fun ls hl => ?_)
        refine lv_goto (tgt := 2) hx hb dX12_goRound_90 (by decide) ?_
        exact hkb2 z26 M _ _ _ hf hP hS (lv_sub hl [1, 0] rfl)
      · have hf := if_f c25 hf
        refine lv_aload_n hx hb dX12_goRound_64 rfl (lv_at hl 0 rfl) ?_
        refine r_getR hC hP hO.1 fl_X12_27 rfl dX12_goRound_65 ?_
        refine lv_bipush (v := (24 : Int32)) hx hb dX12_goRound_68 (by decide) ?_
        refine lv_iload_n hx hb dX12_goRound_70 rfl (lv_at hl 1 rfl) ?_
        refine lv_imul hx hb dX12_goRound_71 ?_
        refine lv_iload_n hx hb dX12_goRound_72 rfl (lv_at hl 2 rfl) ?_
        refine lv_iadd hx hb dX12_goRound_73 ?_
        refine lv_aload_n hx hb dX12_goRound_74 rfl (lv_at hl 0 rfl) ?_
        refine r_getR hC hP hO.1 fl_X12_30 rfl dX12_goRound_75 ?_
        refine lv_iload_n hx hb dX12_goRound_78 rfl (lv_at hl 2 rfl) ?_
        obtain ⟨hb27, hf⟩ := ck_s hf
        refine r_iald hC hP hO.2.2.2.2.2.2.1 hb27 dX12_goRound_79 ?_
        obtain ⟨hb28, hf⟩ := ck_s hf
        refine r_iast hC hP hS hO.2.2.2.2.2.1 hb28 dX12_goRound_80 (fun H locs hP hS => ?_)
        obtain ⟨M29, eM29, hf, hP⟩ := bsM hf hP
        obtain ⟨z30, ez30, hf⟩ := bsJ hf
        refine lv_iinc (v := z30) (lv' := [(2, .int z30), (0, .ref y), (1, .int x1)]) hx hb dX12_goRound_81 hl (k := 2) rfl (by rw [ez30]; rfl) (by decide) rfl (fun ls hl => ?_)
        refine lv_goto (tgt := 56) hx hb dX12_goRound_84 (by decide) ?_
        exact ih x1 z30 M29 _ _ _ hf hP hS (lv_sub hl [1, 2, 0] rfl)
  have L9 : ∀ (kb2 : Int32 → Mm → Option (Int32 × Mm)) (hkb2 : ∀ (x1 : Int32) (M : Mm) (H : Heap) (locs : List Loc) (ls : Array Slot), kb2 x1 M = some (v, MR) → wP g M N H → va_S (wA g) s.heap H locs → lv_has ls 3 [(0, .ref y), (1, .int x1)] → W p l e (rmD 3) s m ([.ref y] : List Value).toArray below meth c H locs 0 0 (MQ below (QI g v MR N) ([.ref y] : List Value).toArray s 0 0 (wA g)) (F0 m 2 ls [])) (n : Nat) (x1 : Int32) (x2 : Int32) (M : Mm) (H : Heap) (locs : List Loc) (ls : Array Slot), f_X12_goRound_L9 y kb2 n x1 x2 M = some (v, MR) → wP g M N H → va_S (wA g) s.heap H locs → lv_has ls 3 [(0, .ref y), (1, .int x1), (2, .int x2)] → W p l e (rmD 3) s m ([.ref y] : List Value).toArray below meth c H locs 0 0 (MQ below (QI g v MR N) ([.ref y] : List Value).toArray s 0 0 (wA g)) (F0 m 9 ls []) := by
    intro kb2 hkb2
    intro n
    induction n with
    | zero =>
      intro x1 x2 M H locs ls hf
      exact absurd hf (by simp [f_X12_goRound_L9])
    | succ n ih =>
      intro x1 x2 M H locs ls hf hP hS hl
      unfold f_X12_goRound_L9 at hf
      refine lv_iload_n hx hb dX12_goRound_9 rfl (lv_at hl 2 rfl) ?_
      refine lv_aload_n hx hb dX12_goRound_10 rfl (lv_at hl 0 rfl) ?_
      obtain ⟨r18, hu19, hf⟩ := bd_s hf
      refine r_goI (r_runV (As := []) (rest := [.int x2]) hC hP hS (k_X12_places hg hO hu19) cw_X12_64 q_200 q_201 q_202 (Rm.D 0 3 rfl) hO.1 rfl rfl hl.1 rfl (Nat.le_of_ble_eq_true rfl) dX12_goRound_11) hS (fun H locs hP hS => ?_)
      refine lv_icmp_ge (tgt := 54) hx hb dX12_goRound_14 (by decide) (fun c21 => ?_) (fun c21 => ?_)
      · have hf := if_t c21 hf
        refine lv_iconst (v := (0 : Int32)) hx hb dX12_goRound_54 (by decide) ?_
        refine lv_istore_n (lv' := [(2, .int (0 : Int32)), (0, .ref y), (1, .int x1)]) hx hb dX12_goRound_55 rfl hl (by decide) rfl (fun ls hl => ?_)
        exact L56 _ hkb2 _ x1 (0 : Int32) M _ _ _ hf hP hS (lv_sub hl [1, 2, 0] rfl)
      · have hf := if_f c21 hf
        refine lv_aload_n hx hb dX12_goRound_17 rfl (lv_at hl 0 rfl) ?_
        refine r_getR hC hP hO.1 fl_X12_30 rfl dX12_goRound_18 ?_
        refine lv_iload_n hx hb dX12_goRound_21 rfl (lv_at hl 2 rfl) ?_
        refine lv_aload_n hx hb dX12_goRound_22 rfl (lv_at hl 0 rfl) ?_
        refine r_getR hC hP hO.1 fl_X12_7 rfl dX12_goRound_23 ?_
        refine lv_iconst (v := (1 : Int32)) hx hb dX12_goRound_26 (by decide) ?_
        refine lv_iload_n hx hb dX12_goRound_27 rfl (lv_at hl 1 rfl) ?_
        refine lv_iadd hx hb dX12_goRound_28 ?_
        obtain ⟨hb31, hf⟩ := ck_s hf
        refine r_iald hC hP hO.2.1 hb31 dX12_goRound_29 ?_
        refine lv_iadd hx hb dX12_goRound_30 ?_
        refine lv_aload_n hx hb dX12_goRound_31 rfl (lv_at hl 0 rfl) ?_
        obtain ⟨r32, hu33, hf⟩ := bd_s hf
        refine r_goI (r_runV (As := []) (rest := [.int (x2 + (M (y + 1) ((1 : Int32) + x1).toNatClampNeg)), .ref (y + 6)]) hC hP hS (k_X12_places hg hO hu33) cw_X12_64 q_200 q_201 q_202 (Rm.D 0 3 rfl) hO.1 rfl rfl hl.1 rfl (Nat.le_of_ble_eq_true rfl) dX12_goRound_32) hS (fun H locs hP hS => ?_)
        obtain ⟨hz35, hf⟩ := cz_s hf
        refine lv_irem hx hb dX12_goRound_35 hz35 ?_
        refine lv_aload_n hx hb dX12_goRound_36 rfl (lv_at hl 0 rfl) ?_
        refine r_getR hC hP hO.1 fl_X12_27 rfl dX12_goRound_37 ?_
        refine lv_bipush (v := (24 : Int32)) hx hb dX12_goRound_40 (by decide) ?_
        refine lv_iload_n hx hb dX12_goRound_42 rfl (lv_at hl 1 rfl) ?_
        refine lv_imul hx hb dX12_goRound_43 ?_
        refine lv_iload_n hx hb dX12_goRound_44 rfl (lv_at hl 2 rfl) ?_
        refine lv_iadd hx hb dX12_goRound_45 ?_
        obtain ⟨hb36, hf⟩ := ck_s hf
        refine r_iald hC hP hO.2.2.2.2.2.1 hb36 dX12_goRound_46 ?_
        obtain ⟨hb37, hf⟩ := ck_s hf
        refine r_iast hC hP hS hO.2.2.2.2.2.2.1 hb37 dX12_goRound_47 (fun H locs hP hS => ?_)
        obtain ⟨M38, eM38, hf, hP⟩ := bsM hf hP
        obtain ⟨z39, ez39, hf⟩ := bsJ hf
        refine lv_iinc (v := z39) (lv' := [(2, .int z39), (0, .ref y), (1, .int x1)]) hx hb dX12_goRound_48 hl (k := 2) rfl (by rw [ez39]; rfl) (by decide) rfl (fun ls hl => ?_)
        refine lv_goto (tgt := 9) hx hb dX12_goRound_51 (by decide) ?_
        exact ih x1 z39 M38 _ _ _ hf hP hS (lv_sub hl [1, 2, 0] rfl)
  have L2 : ∀ (n : Nat) (x1 : Int32) (M : Mm) (H : Heap) (locs : List Loc) (ls : Array Slot), f_X12_goRound_L2 y n x1 M = some (v, MR) → wP g M N H → va_S (wA g) s.heap H locs → lv_has ls 3 [(0, .ref y), (1, .int x1)] → W p l e (rmD 3) s m ([.ref y] : List Value).toArray below meth c H locs 0 0 (MQ below (QI g v MR N) ([.ref y] : List Value).toArray s 0 0 (wA g)) (F0 m 2 ls []) := by
    intro n
    induction n with
    | zero =>
      intro x1 M H locs ls hf
      exact absurd hf (by simp [f_X12_goRound_L2])
    | succ n ih =>
      intro x1 M H locs ls hf hP hS hl
      unfold f_X12_goRound_L2 at hf
      refine lv_iload_n hx hb dX12_goRound_2 rfl (lv_at hl 1 rfl) ?_
      refine lv_iconst (v := (5 : Int32)) hx hb dX12_goRound_3 (by decide) ?_
      refine lv_icmp_ge (tgt := 93) hx hb dX12_goRound_4 (by decide) (fun c1 => ?_) (fun c1 => ?_)
      · have hf := if_t c1 hf
        refine lv_aload_n hx hb dX12_goRound_93 rfl (lv_at hl 0 rfl) ?_
        obtain ⟨M4, hu3, hf⟩ := bd_s hf
        refine r_goV (r_runV (As := []) (rest := []) hC hP hS (k_X12_goMoons hg hO hu3) cw_X12_118 q_561 q_562 q_563 (Rm.D 1 3 rfl) hO.1 rfl rfl hl.1 rfl (Nat.le_of_ble_eq_true rfl) dX12_goRound_94) hS (fun H locs hP hS => ?_)
        refine lv_iconst (v := (0 : Int32)) hx hb dX12_goRound_97 (by decide) ?_
        refine lv_istore_n (lv' := [(1, .int (0 : Int32)), (0, .ref y)]) hx hb dX12_goRound_98 rfl hl (by decide) rfl (fun ls hl => ?_)
        refine lv_iconst (v := (0 : Int32)) hx hb dX12_goRound_99 (by decide) ?_
        refine lv_istore_n (lv' := [(2, .int (0 : Int32)), (1, .int (0 : Int32)), (0, .ref y)]) hx hb dX12_goRound_100 rfl hl (by decide) rfl (fun ls hl => ?_)
        exact L101 _ (0 : Int32) (0 : Int32) M4 _ _ _ hf hP hS (lv_sub hl [2, 1, 0] rfl)
      · have hf := if_f c1 hf
        refine lv_iconst (v := (0 : Int32)) hx hb dX12_goRound_7 (by decide) ?_
        refine lv_istore_n (lv' := [(2, .int (0 : Int32)), (0, .ref y), (1, .int x1)]) hx hb dX12_goRound_8 rfl hl (by decide) rfl (fun ls hl => ?_)
        exact L9 _ ih _ x1 (0 : Int32) M _ _ _ hf hP hS (lv_sub hl [1, 2, 0] rfl)
  unfold f_X12_goRound at hf
  refine lv_iconst (v := (0 : Int32)) hx hb dX12_goRound_0 (by decide) ?_
  refine lv_istore_n (lv' := [(1, .int (0 : Int32)), (0, .ref y)]) hx hb dX12_goRound_1 rfl hl (by decide) rfl (fun ls hl => ?_)
  exact L2 _ (0 : Int32) M _ _ _ hf hP hS (lv_sub hl [1, 0] rfl)
set_option maxRecDepth 100000 in
set_option maxHeartbeats 4000000 in
theorem k_X12_lossOf {g : Ev} {l : Launch} (hg : g.2.1.Nodup) {y : Nat} (hO : oModel g y) {M : Mm} {N : Ml} {p0 : Int32} {p1 : Int32} {v : Int32} {MR : Mm} (hf : f_X12_lossOf y p0 p1 M = some (v, MR)) : KM g l yX12_lossOf cX12_lossOf 5 (some .int) 4 [.ref y, .int p0, .int p1] M N (QI g v MR N) := by
  refine KM.mk hg (by decide) (Nat.le_of_ble_eq_true rfl) ?_
  intro p e s m below meth c ls hC hr hlk hl hP hS
  have hx := hC.1
  have hb := hC.2.1
  have hl : lv_has ls 5 [(0, .ref y), (1, .int p0), (2, .int p1)] := hl
  have L10 : ∀ (n : Nat) (x1 : Int32) (x3 : Int32) (x4 : Int32) (M : Mm) (H : Heap) (locs : List Loc) (ls : Array Slot), f_X12_lossOf_L10 y n x1 x3 x4 M = some (v, MR) → wP g M N H → va_S (wA g) s.heap H locs → lv_has ls 5 [(0, .ref y), (1, .int x1), (3, .int x3), (4, .int x4)] → W p l e (rmD 4) s m ([.ref y, .int p0, .int p1] : List Value).toArray below meth c H locs 0 0 (MQ below (QI g v MR N) ([.ref y, .int p0, .int p1] : List Value).toArray s 0 0 (wA g)) (F0 m 10 ls []) := by
    intro n
    induction n with
    | zero =>
      intro x1 x3 x4 M H locs ls hf
      exact absurd hf (by simp [f_X12_lossOf_L10])
    | succ n ih =>
      intro x1 x3 x4 M H locs ls hf hP hS hl
      unfold f_X12_lossOf_L10 at hf
      refine lv_iload hx hb dX12_lossOf_10 (lv_at hl 3 rfl) ?_
      refine lv_iload_n hx hb dX12_lossOf_12 rfl (lv_at hl 1 rfl) ?_
      refine lv_icmp_ge (tgt := 29) hx hb dX12_lossOf_13 (by decide) (fun c4 => ?_) (fun c4 => ?_)
      · have hf := if_t c4 hf
        refine lv_iload_n hx hb dX12_lossOf_29 rfl (lv_at hl 2 rfl) ?_
        exact e_IM hC hr hlk hP hS dX12_lossOf_30 hf
      · have hf := if_f c4 hf
        refine lv_iload_n hx hb dX12_lossOf_16 rfl (lv_at hl 2 rfl) ?_
        refine lv_aload_n hx hb dX12_lossOf_17 rfl (lv_at hl 0 rfl) ?_
        obtain ⟨r5, M7, hu6, hf⟩ := bd2_s hf
        refine r_goI (r_runV (As := []) (rest := [.int x3]) hC hP hS (k_X12_goRound hg hO hu6) cw_X12_134 q_557 q_558 q_559 (Rm.D 3 4 rfl) hO.1 rfl rfl hl.1 rfl (Nat.le_of_ble_eq_true rfl) dX12_lossOf_18) hS (fun H locs hP hS => ?_)
        refine lv_iadd hx hb dX12_lossOf_21 ?_
        refine lv_topi (fun z8 ez8 => ?_)
        have hf := bs ez8 hf
        refine lv_istore_n (lv' := [(3, .int z8), (0, .ref y), (1, .int x1), (4, .int x4)]) hx hb dX12_lossOf_22 rfl hl (by decide) rfl (fun ls hl => ?_)
        obtain ⟨z9, ez9, hf⟩ := bsJ hf
        refine lv_iinc (v := z9) (lv' := [(4, .int z9), (3, .int z8), (0, .ref y), (1, .int x1)]) hx hb dX12_lossOf_23 hl (k := 3) rfl (by rw [ez9]; rfl) (by decide) rfl (fun ls hl => ?_)
        refine lv_goto (tgt := 10) hx hb dX12_lossOf_26 (by decide) ?_
        exact ih x1 z8 z9 M7 _ _ _ hf hP hS (lv_sub hl [2, 3, 1, 0] rfl)
  unfold f_X12_lossOf at hf
  refine lv_aload_n hx hb dX12_lossOf_0 rfl (lv_at hl 0 rfl) ?_
  refine lv_iload_n hx hb dX12_lossOf_1 rfl (lv_at hl 2 rfl) ?_
  obtain ⟨M3, hu2, hf⟩ := bd_s hf
  refine r_goV (r_runV (As := [.int p1]) (rest := []) hC hP hS (k_X12_takeNow hg hO hu2) cw_X12_130 q_547 q_548 q_549 (Rm.D 1 4 rfl) hO.1 rfl rfl hl.1 rfl (Nat.le_of_ble_eq_true rfl) dX12_lossOf_2) hS (fun H locs hP hS => ?_)
  refine lv_iconst (v := (0 : Int32)) hx hb dX12_lossOf_5 (by decide) ?_
  refine lv_istore_n (lv' := [(3, .int (0 : Int32)), (0, .ref y), (1, .int p0), (2, .int p1)]) hx hb dX12_lossOf_6 rfl hl (by decide) rfl (fun ls hl => ?_)
  refine lv_iconst (v := (0 : Int32)) hx hb dX12_lossOf_7 (by decide) ?_
  refine lv_istore (lv' := [(4, .int (0 : Int32)), (3, .int (0 : Int32)), (0, .ref y), (1, .int p0), (2, .int p1)]) hx hb dX12_lossOf_8 hl (by decide) rfl (fun ls hl => ?_)
  exact L10 _ p0 (0 : Int32) (0 : Int32) M3 _ _ _ hf hP hS (lv_sub hl [2, 3, 1, 0] rfl)
set_option maxRecDepth 100000 in
set_option maxHeartbeats 4000000 in
theorem k_X12_fee {g : Ev} {l : Launch} (hg : g.2.1.Nodup) {y : Nat} (hO : oModel g y) {M : Mm} {N : Ml} {p0 : Int32} {p1 : Int32} {v : Int32} {MR : Mm} {NR : Ml} (hf : f_X12_fee y p0 p1 M N = some (v, MR, NR)) : KM g l yX12_fee cX12_fee 13 (some .int) 5 [.ref y, .int p0, .int p1] M N (QI g v MR NR) := by
  refine KM.mk hg (by decide) (Nat.le_of_ble_eq_true rfl) ?_
  intro p e s m below meth c ls hC hr hlk hl hP hS
  have hx := hC.1
  have hb := hC.2.1
  have hl : lv_has ls 13 [(0, .ref y), (1, .int p0), (2, .int p1)] := hl
  have J15 : ∀ (M : Mm) (N : Ml) (H : Heap) (locs : List Loc) (ls : Array Slot), f_X12_fee_J15 y M N = some (v, MR, NR) → wP g M N H → va_S (wA g) s.heap H locs → lv_has ls 13 [(0, .ref y)] → W p l e (rmD 5) s m ([.ref y, .int p0, .int p1] : List Value).toArray below meth c H locs 0 0 (MQ below (QI g v MR NR) ([.ref y, .int p0, .int p1] : List Value).toArray s 0 0 (wA g)) (F0 m 15 ls []) := by
    intro M N H locs ls hf hP hS hl
    unfold f_X12_fee_J15 at hf
    refine lv_aload_n hx hb dX12_fee_15 rfl (lv_at hl 0 rfl) ?_
    refine lv_bipush (v := (-2 : Int32)) hx hb dX12_fee_16 (by decide) ?_
    obtain ⟨r5, M7, hu6, hf⟩ := bd2_s hf
    refine r_goI (r_runV (As := [.int (-2 : Int32)]) (rest := []) hC hP hS (k_X12_bad hg hO hu6) cw_X12_73 q_196 q_197 q_198 (Rm.D 0 5 rfl) hO.1 rfl rfl hl.1 rfl (Nat.le_of_ble_eq_true rfl) dX12_fee_18) hS (fun H locs hP hS => ?_)
    exact e_IN hC hr hlk hP hS dX12_fee_21 hf
  have L139 : ∀ (n : Nat) (x4 : Int64) (x6 : Int32) (x7 : Int64) (x9 : Int64) (M : Mm) (N : Ml) (H : Heap) (locs : List Loc) (ls : Array Slot), f_X12_fee_L139 y n x4 x6 x7 x9 M N = some (v, MR, NR) → wP g M N H → va_S (wA g) s.heap H locs → lv_has ls 13 [(0, .ref y), (4, .long x4), (6, .int x6), (7, .long x7), (9, .long x9)] → W p l e (rmD 5) s m ([.ref y, .int p0, .int p1] : List Value).toArray below meth c H locs 0 0 (MQ below (QI g v MR NR) ([.ref y, .int p0, .int p1] : List Value).toArray s 0 0 (wA g)) (F0 m 139 ls []) := by
    intro n
    induction n with
    | zero =>
      intro x4 x6 x7 x9 M N H locs ls hf
      exact absurd hf (by simp [f_X12_fee_L139])
    | succ n ih =>
      intro x4 x6 x7 x9 M N H locs ls hf hP hS hl
      unfold f_X12_fee_L139 at hf
      refine lv_lload hx hb dX12_fee_139 (lv_at hl 4 rfl) ?_
      refine lv_lconst (v := (0 : Int64)) hx hb dX12_fee_141 (by decide) ?_
      refine W.lcmp hx hb dX12_fee_142 ?_
      refine lv_if_eq (tgt := 164) hx hb dX12_fee_143 (by decide) (fun c25 => ?_) (fun c25 => ?_)
      · have hf := if_t c25 hf
        refine lv_aload_n hx hb dX12_fee_164 rfl (lv_at hl 0 rfl) ?_
        refine lv_lload hx hb dX12_fee_165 (lv_at hl 1 rfl) ?_
        refine lv_lload hx hb dX12_fee_167 (lv_at hl 3 rfl) ?_
        obtain ⟨hz26, hf⟩ := czL_s hf
        refine lv_ldiv hx hb dX12_fee_169 hz26 ?_
        refine r_putL hC hP hS hO.1 fl_X12_209 tyX12 tyX12_ok nmX12 rfl rfl rfl dX12_fee_170 (fun H locs hP hS => ?_)
        obtain ⟨N27, eN27, hf, hP⟩ := bsN hf hP
        refine lv_aload_n hx hb dX12_fee_173 rfl (lv_at hl 0 rfl) ?_
        refine lv_iload hx hb dX12_fee_174 (lv_at hl 2 rfl) ?_
        refine lv_i2l hx hb dX12_fee_176 rfl ?_
        refine lv_lload hx hb dX12_fee_177 (lv_at hl 3 rfl) ?_
        obtain ⟨hz28, hf⟩ := czL_s hf
        refine lv_ldiv hx hb dX12_fee_179 hz28 ?_
        refine r_putL hC hP hS hO.1 fl_X12_23 tyX12 tyX12_ok nmX12 rfl rfl rfl dX12_fee_180 (fun H locs hP hS => ?_)
        obtain ⟨N29, eN29, hf, hP⟩ := bsN hf hP
        refine lv_iconst (v := (1 : Int32)) hx hb dX12_fee_183 (by decide) ?_
        exact e_IN hC hr hlk hP hS dX12_fee_184 hf
      · have hf := if_f c25 hf
        refine lv_lload hx hb dX12_fee_146 (lv_at hl 3 rfl) ?_
        refine lv_lload hx hb dX12_fee_148 (lv_at hl 4 rfl) ?_
        obtain ⟨hz30, hf⟩ := czL_s hf
        refine lv_lrem hx hb dX12_fee_150 hz30 ?_
        refine lv_topl (fun z31 ez31 => ?_)
        have hf := bs ez31 hf
        refine lv_lstore (lv' := [(11, .long z31), (0, .ref y), (4, .long x4), (6, .int x6), (7, .long x7), (9, .long x9)]) hx hb dX12_fee_151 hl (by decide) rfl (fun ls hl => ?_)
        refine lv_lload hx hb dX12_fee_153 (lv_at hl 5 rfl) ?_
        refine lv_lstore (lv' := [(7, .long x9), (11, .long z31), (0, .ref y), (4, .long x4), (6, .int x6), (9, .long x9)]) hx hb dX12_fee_155 hl (by decide) rfl (fun ls hl => ?_)
        refine lv_lload hx hb dX12_fee_157 (lv_at hl 1 rfl) ?_
        refine lv_lstore (lv' := [(9, .long z31), (7, .long x9), (11, .long z31), (0, .ref y), (4, .long x4), (6, .int x6)]) hx hb dX12_fee_159 hl (by decide) rfl (fun ls hl => ?_)
        refine lv_goto (tgt := 139) hx hb dX12_fee_161 (by decide) ?_
        exact ih x4 x6 x9 z31 M N _ _ _ hf hP hS (lv_sub hl [3, 4, 5, 1, 0] rfl)
  have J132 : ∀ (x4 : Int64) (x6 : Int32) (s0 : Int64) (M : Mm) (N : Ml) (H : Heap) (locs : List Loc) (ls : Array Slot), f_X12_fee_J132 y x4 x6 s0 M N = some (v, MR, NR) → wP g M N H → va_S (wA g) s.heap H locs → lv_has ls 13 [(0, .ref y), (4, .long x4), (6, .int x6)] → W p l e (rmD 5) s m ([.ref y, .int p0, .int p1] : List Value).toArray below meth c H locs 0 0 (MQ below (QI g v MR NR) ([.ref y, .int p0, .int p1] : List Value).toArray s 0 0 (wA g)) (F0 m 132 ls [.long s0]) := by
    intro x4 x6 s0 M N H locs ls hf hP hS hl
    unfold f_X12_fee_J132 at hf
    refine lv_lstore (lv' := [(7, .long s0), (0, .ref y), (4, .long x4), (6, .int x6)]) hx hb dX12_fee_132 hl (by decide) rfl (fun ls hl => ?_)
    refine lv_iload hx hb dX12_fee_134 (lv_at hl 3 rfl) ?_
    refine lv_i2l hx hb dX12_fee_136 rfl ?_
    refine lv_topl (fun z24 ez24 => ?_)
    have hf := bs ez24 hf
    refine lv_lstore (lv' := [(9, .long z24), (7, .long s0), (0, .ref y), (4, .long x4), (6, .int x6)]) hx hb dX12_fee_137 hl (by decide) rfl (fun ls hl => ?_)
    exact L139 _ x4 x6 s0 z24 M N _ _ _ hf hP hS (lv_sub hl [2, 3, 4, 1, 0] rfl)
  have J102 : ∀ (kb32 : Int32 → Int32 → Int64 → Int32 → Mm → Ml → Option (Int32 × Mm × Ml)) (hkb32 : ∀ (x2 : Int32) (x3 : Int32) (x4 : Int64) (x6 : Int32) (M : Mm) (N : Ml) (H : Heap) (locs : List Loc) (ls : Array Slot), kb32 x2 x3 x4 x6 M N = some (v, MR, NR) → wP g M N H → va_S (wA g) s.heap H locs → lv_has ls 13 [(0, .ref y), (2, .int x2), (3, .int x3), (4, .long x4), (6, .int x6)] → W p l e (rmD 5) s m ([.ref y, .int p0, .int p1] : List Value).toArray below meth c H locs 0 0 (MQ below (QI g v MR NR) ([.ref y, .int p0, .int p1] : List Value).toArray s 0 0 (wA g)) (F0 m 32 ls [])) (x2 : Int32) (x3 : Int32) (x4 : Int64) (x6 : Int32) (M : Mm) (N : Ml) (H : Heap) (locs : List Loc) (ls : Array Slot), f_X12_fee_J102 y x2 x3 x4 x6 M N kb32 = some (v, MR, NR) → wP g M N H → va_S (wA g) s.heap H locs → lv_has ls 13 [(0, .ref y), (2, .int x2), (3, .int x3), (4, .long x4), (6, .int x6)] → W p l e (rmD 5) s m ([.ref y, .int p0, .int p1] : List Value).toArray below meth c H locs 0 0 (MQ below (QI g v MR NR) ([.ref y, .int p0, .int p1] : List Value).toArray s 0 0 (wA g)) (F0 m 102 ls []) := by
    intro kb32 hkb32 x2 x3 x4 x6 M N H locs ls hf hP hS hl
    unfold f_X12_fee_J102 at hf
    obtain ⟨z33, ez33, hf⟩ := bsJ hf
    refine lv_iinc (v := z33) (lv' := [(6, .int z33), (0, .ref y), (2, .int x2), (3, .int x3), (4, .long x4)]) hx hb dX12_fee_102 hl (k := 4) rfl (by rw [ez33]; rfl) (by decide) rfl (fun ls hl => ?_)
    refine lv_goto (tgt := 32) hx hb dX12_fee_105 (by decide) ?_
    exact hkb32 x2 x3 x4 z33 M N _ _ _ hf hP hS (lv_sub hl [1, 2, 3, 4, 0] rfl)
  have L32 : ∀ (n : Nat) (x2 : Int32) (x3 : Int32) (x4 : Int64) (x6 : Int32) (M : Mm) (N : Ml) (H : Heap) (locs : List Loc) (ls : Array Slot), f_X12_fee_L32 y n x2 x3 x4 x6 M N = some (v, MR, NR) → wP g M N H → va_S (wA g) s.heap H locs → lv_has ls 13 [(0, .ref y), (2, .int x2), (3, .int x3), (4, .long x4), (6, .int x6)] → W p l e (rmD 5) s m ([.ref y, .int p0, .int p1] : List Value).toArray below meth c H locs 0 0 (MQ below (QI g v MR NR) ([.ref y, .int p0, .int p1] : List Value).toArray s 0 0 (wA g)) (F0 m 32 ls []) := by
    intro n
    induction n with
    | zero =>
      intro x2 x3 x4 x6 M N H locs ls hf
      exact absurd hf (by simp [f_X12_fee_L32])
    | succ n ih =>
      intro x2 x3 x4 x6 M N H locs ls hf hP hS hl
      unfold f_X12_fee_L32 at hf
      refine lv_iload hx hb dX12_fee_32 (lv_at hl 4 rfl) ?_
      refine lv_aload_n hx hb dX12_fee_34 rfl (lv_at hl 0 rfl) ?_
      obtain ⟨r13, hu14, hf⟩ := bd_s hf
      refine r_goI (r_runV (As := []) (rest := [.int x6]) hC hP hS (k_X12_all hg hO hu14) cw_X12_127 q_543 q_544 q_545 (Rm.D 1 5 rfl) hO.1 rfl rfl hl.1 rfl (Nat.le_of_ble_eq_true rfl) dX12_fee_35) hS (fun H locs hP hS => ?_)
      refine lv_icmp_gt (tgt := 108) hx hb dX12_fee_38 (by decide) (fun c16 => ?_) (fun c16 => ?_)
      · have hf := if_t c16 hf
        refine lv_aload_n hx hb dX12_fee_108 rfl (lv_at hl 0 rfl) ?_
        obtain ⟨r17, hu18, hf⟩ := bd_s hf
        refine r_goI (r_runV (As := []) (rest := []) hC hP hS (k_X12_moons hg hO hu18) cw_X12_68 q_263 q_264 q_265 (Rm.D 0 5 rfl) hO.1 rfl rfl hl.1 rfl (Nat.le_of_ble_eq_true rfl) dX12_fee_109) hS (fun H locs hP hS => ?_)
        obtain ⟨r20, hu21, hf⟩ := bd_s hf
        refine r_goI (r_runS (As := [.int r17]) (rest := []) hC hP hS (k_X12_factorial hg hu21) cw_X12_206 q_930 q_931 (Rm.D 0 5 rfl) rfl hl.1 rfl (Nat.le_of_ble_eq_true rfl) dX12_fee_112) hS (fun H locs hP hS => ?_)
        refine lv_istore (lv' := [(6, .int r20), (0, .ref y), (2, .int x2), (3, .int x3), (4, .long x4)]) hx hb dX12_fee_115 hl (by decide) rfl (fun ls hl => ?_)
        refine lv_lload hx hb dX12_fee_117 (lv_at hl 4 rfl) ?_
        refine lv_lconst (v := (0 : Int64)) hx hb dX12_fee_119 (by decide) ?_
        refine W.lcmp hx hb dX12_fee_120 ?_
        refine lv_if_ge (tgt := 130) hx hb dX12_fee_121 (by decide) (fun c23 => ?_) (fun c23 => ?_)
        · have hf := if_t c23 hf
          refine lv_lload hx hb dX12_fee_130 (lv_at hl 4 rfl) ?_
          exact J132 x4 r20 x4 M N _ _ _ hf hP hS (lv_sub hl [1, 4, 0] rfl)
        · have hf := if_f c23 hf
          refine lv_lload hx hb dX12_fee_124 (lv_at hl 4 rfl) ?_
          refine lv_lneg hx hb dX12_fee_126 ?_
          refine lv_goto (tgt := 132) hx hb dX12_fee_127 (by decide) ?_
          exact J132 x4 r20 (-x4) M N _ _ _ hf hP hS (lv_sub hl [1, 4, 0] rfl)
      · have hf := if_f c16 hf
        refine lv_iload hx hb dX12_fee_41 (lv_at hl 4 rfl) ?_
        refine lv_iload_n hx hb dX12_fee_43 rfl (lv_at hl 2 rfl) ?_
        refine lv_iand hx hb dX12_fee_44 ?_
        refine lv_if_ne (tgt := 102) hx hb dX12_fee_45 (by decide) (fun c32 => ?_) (fun c32 => ?_)
        · have hf := if_f c32 hf
          exact J102 _ ih x2 x3 x4 x6 M N _ _ _ hf hP hS (lv_sub hl [0, 1, 2, 3, 4] rfl)
        · have hf := if_t c32 hf
          refine lv_iload hx hb dX12_fee_48 (lv_at hl 4 rfl) ?_
          obtain ⟨r34, hu35, hf⟩ := bd_s hf
          refine r_goI (r_runS (As := [.int x6]) (rest := []) hC hP hS (k_X12_bits hg hu35) cw_X12_203 q_927 q_928 (Rm.D 0 5 rfl) rfl hl.1 rfl (Nat.le_of_ble_eq_true rfl) dX12_fee_50) hS (fun H locs hP hS => ?_)
          obtain ⟨r37, hu38, hf⟩ := bd_s hf
          refine r_goI (r_runS (As := [.int r34]) (rest := []) hC hP hS (k_X12_factorial hg hu38) cw_X12_206 q_930 q_931 (Rm.D 0 5 rfl) rfl hl.1 rfl (Nat.le_of_ble_eq_true rfl) dX12_fee_53) hS (fun H locs hP hS => ?_)
          refine lv_i2l hx hb dX12_fee_56 rfl ?_
          refine lv_aload_n hx hb dX12_fee_57 rfl (lv_at hl 0 rfl) ?_
          obtain ⟨r40, hu41, hf⟩ := bd_s hf
          refine r_goI (r_runV (As := []) (rest := [.long r37.toInt64]) hC hP hS (k_X12_moons hg hO hu41) cw_X12_68 q_263 q_264 q_265 (Rm.D 0 5 rfl) hO.1 rfl rfl hl.1 rfl (Nat.le_of_ble_eq_true rfl) dX12_fee_58) hS (fun H locs hP hS => ?_)
          refine lv_iconst (v := (1 : Int32)) hx hb dX12_fee_61 (by decide) ?_
          refine lv_isub hx hb dX12_fee_62 ?_
          refine lv_iload hx hb dX12_fee_63 (lv_at hl 4 rfl) ?_
          obtain ⟨r43, hu44, hf⟩ := bd_s hf
          refine r_goI (r_runS (As := [.int x6]) (rest := [.int (r40 - (1 : Int32)), .long r37.toInt64]) hC hP hS (k_X12_bits hg hu44) cw_X12_203 q_927 q_928 (Rm.D 0 5 rfl) rfl hl.1 rfl (Nat.le_of_ble_eq_true rfl) dX12_fee_65) hS (fun H locs hP hS => ?_)
          refine lv_isub hx hb dX12_fee_68 ?_
          obtain ⟨r46, hu47, hf⟩ := bd_s hf
          refine r_goI (r_runS (As := [.int ((r40 - (1 : Int32)) - r43)]) (rest := [.long r37.toInt64]) hC hP hS (k_X12_factorial hg hu47) cw_X12_206 q_930 q_931 (Rm.D 0 5 rfl) rfl hl.1 rfl (Nat.le_of_ble_eq_true rfl) dX12_fee_69) hS (fun H locs hP hS => ?_)
          refine lv_i2l hx hb dX12_fee_72 rfl ?_
          refine lv_lmul hx hb dX12_fee_73 ?_
          refine lv_topl (fun z49 ez49 => ?_)
          have hf := bs ez49 hf
          refine lv_lstore (lv' := [(7, .long z49), (0, .ref y), (2, .int x2), (3, .int x3), (4, .long x4), (6, .int x6)]) hx hb dX12_fee_74 hl (by decide) rfl (fun ls hl => ?_)
          refine lv_lload hx hb dX12_fee_76 (lv_at hl 4 rfl) ?_
          refine lv_lload hx hb dX12_fee_78 (lv_at hl 0 rfl) ?_
          refine lv_aload_n hx hb dX12_fee_80 rfl (lv_at hl 1 rfl) ?_
          refine lv_iload_n hx hb dX12_fee_81 rfl (lv_at hl 2 rfl) ?_
          refine lv_iload hx hb dX12_fee_82 (lv_at hl 5 rfl) ?_
          refine lv_iload_n hx hb dX12_fee_84 rfl (lv_at hl 3 rfl) ?_
          refine lv_ior hx hb dX12_fee_85 ?_
          obtain ⟨r50, M52, hu51, hf⟩ := bd2_s hf
          refine r_goI (r_runV (As := [.int x2, .int (x6 ||| x3)]) (rest := [.long z49, .long x4]) hC hP hS (k_X12_lossOf hg hO hu51) cw_X12_172 q_716 q_717 q_718 (Rm.D 4 5 rfl) hO.1 rfl rfl hl.1 rfl (Nat.le_of_ble_eq_true rfl) dX12_fee_86) hS (fun H locs hP hS => ?_)
          refine lv_aload_n hx hb dX12_fee_89 rfl (lv_at hl 1 rfl) ?_
          refine lv_iload_n hx hb dX12_fee_90 rfl (lv_at hl 2 rfl) ?_
          refine lv_iload hx hb dX12_fee_91 (lv_at hl 5 rfl) ?_
          obtain ⟨r53, M55, hu54, hf⟩ := bd2_s hf
          refine r_goI (r_runV (As := [.int x2, .int x6]) (rest := [.int r50, .long z49, .long x4]) hC hP hS (k_X12_lossOf hg hO hu54) cw_X12_172 q_716 q_717 q_718 (Rm.D 4 5 rfl) hO.1 rfl rfl hl.1 rfl (Nat.le_of_ble_eq_true rfl) dX12_fee_93) hS (fun H locs hP hS => ?_)
          refine lv_isub hx hb dX12_fee_96 ?_
          refine lv_i2l hx hb dX12_fee_97 rfl ?_
          refine lv_lmul hx hb dX12_fee_98 ?_
          refine lv_ladd hx hb dX12_fee_99 ?_
          refine lv_topl (fun z56 ez56 => ?_)
          have hf := bs ez56 hf
          refine lv_lstore (lv' := [(4, .long z56), (7, .long z49), (0, .ref y), (2, .int x2), (3, .int x3), (6, .int x6)]) hx hb dX12_fee_100 hl (by decide) rfl (fun ls hl => ?_)
          exact J102 _ ih x2 x3 z56 x6 M55 N _ _ _ hf hP hS (lv_sub hl [2, 3, 4, 0, 5] rfl)
  unfold f_X12_fee at hf
  refine lv_aload_n hx hb dX12_fee_0 rfl (lv_at hl 0 rfl) ?_
  refine lv_iload_n hx hb dX12_fee_1 rfl (lv_at hl 1 rfl) ?_
  obtain ⟨r1, hu2, hf⟩ := bd_s hf
  refine r_goI (r_runV (As := [.int p0]) (rest := []) hC hP hS (k_X12_isMoon hg hO hu2) cw_X12_144 q_635 q_636 q_637 (Rm.D 1 5 rfl) hO.1 rfl rfl hl.1 rfl (Nat.le_of_ble_eq_true rfl) dX12_fee_2) hS (fun H locs hP hS => ?_)
  refine lv_if_eq (tgt := 15) hx hb dX12_fee_5 (by decide) (fun c4 => ?_) (fun c4 => ?_)
  · have hf := if_t c4 hf
    exact J15 M N _ _ _ hf hP hS (lv_sub hl [0] rfl)
  · have hf := if_f c4 hf
    refine lv_iload_n hx hb dX12_fee_8 rfl (lv_at hl 2 rfl) ?_
    obtain ⟨r8, hu9, hf⟩ := bd_s hf
    refine r_goI (r_runS (As := [.int p1]) (rest := []) hC hP hS (k_X12_isLong hg hu9) cw_X12_163 q_686 q_687 (Rm.D 1 5 rfl) rfl hl.1 rfl (Nat.le_of_ble_eq_true rfl) dX12_fee_9) hS (fun H locs hP hS => ?_)
    refine lv_if_ne (tgt := 22) hx hb dX12_fee_12 (by decide) (fun c11 => ?_) (fun c11 => ?_)
    · have hf := if_f c11 hf
      refine lv_iconst (v := (1 : Int32)) hx hb dX12_fee_22 (by decide) ?_
      refine lv_iload_n hx hb dX12_fee_23 rfl (lv_at hl 1 rfl) ?_
      refine lv_ishl hx hb dX12_fee_24 ?_
      refine lv_topi (fun z12 ez12 => ?_)
      have hf := bs ez12 hf
      refine lv_istore_n (lv' := [(3, .int z12), (0, .ref y), (1, .int p0), (2, .int p1)]) hx hb dX12_fee_25 rfl hl (by decide) rfl (fun ls hl => ?_)
      refine lv_lconst (v := (0 : Int64)) hx hb dX12_fee_26 (by decide) ?_
      refine lv_lstore (lv' := [(4, .long (0 : Int64)), (3, .int z12), (0, .ref y), (1, .int p0), (2, .int p1)]) hx hb dX12_fee_27 hl (by decide) rfl (fun ls hl => ?_)
      refine lv_iconst (v := (0 : Int32)) hx hb dX12_fee_29 (by decide) ?_
      refine lv_istore (lv' := [(6, .int (0 : Int32)), (4, .long (0 : Int64)), (3, .int z12), (0, .ref y), (1, .int p0), (2, .int p1)]) hx hb dX12_fee_30 hl (by decide) rfl (fun ls hl => ?_)
      exact L32 _ p1 z12 (0 : Int64) (0 : Int32) M N _ _ _ hf hP hS (lv_sub hl [3, 5, 2, 1, 0] rfl)
    · have hf := if_t c11 hf
      exact J15 M N _ _ _ hf hP hS (lv_sub hl [0] rfl)
set_option maxRecDepth 100000 in
set_option maxHeartbeats 4000000 in
theorem k_X12_no {g : Ev} {l : Launch} (hg : g.2.1.Nodup) {y : Nat} (hO : oModel g y) {M : Mm} {N : Ml}  {v : Int32} {MR : Mm} (hf : f_X12_no y M = some (v, MR)) : KM g l yX12_no cX12_no 1 (some .int) 0 [.ref y] M N (QI g v MR N) := by
  refine KM.mk hg (by decide) (Nat.le_of_ble_eq_true rfl) ?_
  intro p e s m below meth c ls hC hr hlk hl hP hS
  have hx := hC.1
  have hb := hC.2.1
  have hl : lv_has ls 1 [(0, .ref y)] := hl
  unfold f_X12_no at hf
  refine lv_aload_n hx hb dX12_no_0 rfl (lv_at hl 0 rfl) ?_
  refine r_getR hC hP hO.1 fl_X12_20 rfl dX12_no_1 ?_
  refine lv_iconst (v := (1 : Int32)) hx hb dX12_no_4 (by decide) ?_
  refine lv_dup2_11 hx hb dX12_no_5 rfl rfl ?_
  obtain ⟨hb1, hf⟩ := ck_s hf
  refine r_iald hC hP hO.2.2.2.2.1 hb1 dX12_no_6 ?_
  refine lv_iconst (v := (1 : Int32)) hx hb dX12_no_7 (by decide) ?_
  refine lv_iadd hx hb dX12_no_8 ?_
  obtain ⟨hb2, hf⟩ := ck_s hf
  refine r_iast hC hP hS hO.2.2.2.2.1 hb2 dX12_no_9 (fun H locs hP hS => ?_)
  obtain ⟨M3, eM3, hf, hP⟩ := bsM hf hP
  refine lv_bipush (v := (-3 : Int32)) hx hb dX12_no_10 (by decide) ?_
  exact e_IM hC hr hlk hP hS dX12_no_12 hf
set_option maxRecDepth 100000 in
set_option maxHeartbeats 4000000 in
theorem k_X12_from {g : Ev} {l : Launch} (hg : g.2.1.Nodup) {y : Nat} (hO : oModel g y) {M : Mm} {N : Ml} {p0 : Int32} {v : Int32} {MR : Mm} (hf : f_X12_from y p0 M = some (v, MR)) : KM g l yX12_from cX12_from 3 (some .int) 1 [.ref y, .int p0] M N (QI g v MR N) := by
  refine KM.mk hg (by decide) (Nat.le_of_ble_eq_true rfl) ?_
  intro p e s m below meth c ls hC hr hlk hl hP hS
  have hx := hC.1
  have hb := hC.2.1
  have hl : lv_has ls 3 [(0, .ref y), (1, .int p0)] := hl
  have L33 : ∀ (n : Nat) (x1 : Int32) (x2 : Int32) (M : Mm) (H : Heap) (locs : List Loc) (ls : Array Slot), f_X12_from_L33 y n x1 x2 M = some (v, MR) → wP g M N H → va_S (wA g) s.heap H locs → lv_has ls 3 [(0, .ref y), (1, .int x1), (2, .int x2)] → W p l e (rmD 1) s m ([.ref y, .int p0] : List Value).toArray below meth c H locs 0 0 (MQ below (QI g v MR N) ([.ref y, .int p0] : List Value).toArray s 0 0 (wA g)) (F0 m 33 ls []) := by
    intro n
    induction n with
    | zero =>
      intro x1 x2 M H locs ls hf
      exact absurd hf (by simp [f_X12_from_L33])
    | succ n ih =>
      intro x1 x2 M H locs ls hf hP hS hl
      unfold f_X12_from_L33 at hf
      refine lv_iload_n hx hb dX12_from_33 rfl (lv_at hl 2 rfl) ?_
      refine lv_sipush (v := (913 : Int32)) hx hb dX12_from_34 (by decide) ?_
      refine lv_icmp_ge (tgt := 64) hx hb dX12_from_37 (by decide) (fun c7 => ?_) (fun c7 => ?_)
      · have hf := if_t c7 hf
        refine lv_iconst (v := (1 : Int32)) hx hb dX12_from_64 (by decide) ?_
        exact e_IM hC hr hlk hP hS dX12_from_65 hf
      · have hf := if_f c7 hf
        refine lv_aload_n hx hb dX12_from_40 rfl (lv_at hl 0 rfl) ?_
        refine r_getR hC hP hO.1 fl_X12_7 rfl dX12_from_41 ?_
        refine lv_iload_n hx hb dX12_from_44 rfl (lv_at hl 2 rfl) ?_
        refine lv_aload_n hx hb dX12_from_45 rfl (lv_at hl 0 rfl) ?_
        refine r_getR hC hP hO.1 fl_X12_13 rfl dX12_from_46 ?_
        refine lv_sipush (v := (913 : Int32)) hx hb dX12_from_49 (by decide) ?_
        refine lv_iload_n hx hb dX12_from_52 rfl (lv_at hl 1 rfl) ?_
        refine lv_imul hx hb dX12_from_53 ?_
        refine lv_iload_n hx hb dX12_from_54 rfl (lv_at hl 2 rfl) ?_
        refine lv_iadd hx hb dX12_from_55 ?_
        obtain ⟨hb8, hf⟩ := ck_s hf
        refine r_iald hC hP hO.2.2.1 hb8 dX12_from_56 ?_
        obtain ⟨hb9, hf⟩ := ck_s hf
        refine r_iast hC hP hS hO.2.1 hb9 dX12_from_57 (fun H locs hP hS => ?_)
        obtain ⟨M10, eM10, hf, hP⟩ := bsM hf hP
        obtain ⟨z11, ez11, hf⟩ := bsJ hf
        refine lv_iinc (v := z11) (lv' := [(2, .int z11), (0, .ref y), (1, .int x1)]) hx hb dX12_from_58 hl (k := 2) rfl (by rw [ez11]; rfl) (by decide) rfl (fun ls hl => ?_)
        refine lv_goto (tgt := 33) hx hb dX12_from_61 (by decide) ?_
        exact ih x1 z11 M10 _ _ _ hf hP hS (lv_sub hl [1, 2, 0] rfl)
  unfold f_X12_from at hf
  refine lv_iload_n hx hb dX12_from_0 rfl (lv_at hl 1 rfl) ?_
  refine lv_i2l hx hb dX12_from_1 rfl ?_
  refine lv_lconst (v := (0 : Int64)) hx hb dX12_from_2 (by decide) ?_
  refine lv_lconst (v := (1 : Int64)) hx hb dX12_from_3 (by decide) ?_
  obtain ⟨r1, hu2, hf⟩ := bd_s hf
  refine r_goI (r_runS (As := [.long p0.toInt64, .long (0 : Int64), .long (1 : Int64)]) (rest := []) hC hP hS (k_X12_in hg hu2) cw_X12_60 q_193 q_194 (Rm.D 0 1 rfl) rfl hl.1 rfl (Nat.le_of_ble_eq_true rfl) dX12_from_4) hS (fun H locs hP hS => ?_)
  refine lv_if_ne (tgt := 17) hx hb dX12_from_7 (by decide) (fun c4 => ?_) (fun c4 => ?_)
  · have hf := if_f c4 hf
    refine lv_aload_n hx hb dX12_from_17 rfl (lv_at hl 0 rfl) ?_
    refine r_getR hC hP hO.1 fl_X12_16 rfl dX12_from_18 ?_
    refine lv_iload_n hx hb dX12_from_21 rfl (lv_at hl 1 rfl) ?_
    obtain ⟨hb5, hf⟩ := ck_s hf
    refine r_zald hC hP hO.2.2.2.1 hb5 dX12_from_22 ?_
    refine lv_if_ne (tgt := 31) hx hb dX12_from_23 (by decide) (fun c6 => ?_) (fun c6 => ?_)
    · have hf := if_f c6 hf
      refine lv_iconst (v := (0 : Int32)) hx hb dX12_from_31 (by decide) ?_
      refine lv_istore_n (lv' := [(2, .int (0 : Int32)), (0, .ref y), (1, .int p0)]) hx hb dX12_from_32 rfl hl (by decide) rfl (fun ls hl => ?_)
      exact L33 _ p0 (0 : Int32) M _ _ _ hf hP hS (lv_sub hl [1, 2, 0] rfl)
    · have hf := if_t c6 hf
      refine lv_aload_n hx hb dX12_from_26 rfl (lv_at hl 0 rfl) ?_
      obtain ⟨r12, M14, hu13, hf⟩ := bd2_s hf
      refine r_goI (r_runV (As := []) (rest := []) hC hP hS (k_X12_no hg hO hu13) cw_X12_137 q_599 q_600 q_601 (Rm.D 0 1 rfl) hO.1 rfl rfl hl.1 rfl (Nat.le_of_ble_eq_true rfl) dX12_from_27) hS (fun H locs hP hS => ?_)
      exact e_IM hC hr hlk hP hS dX12_from_30 hf
  · have hf := if_t c4 hf
    refine lv_aload_n hx hb dX12_from_10 rfl (lv_at hl 0 rfl) ?_
    refine lv_bipush (v := (-2 : Int32)) hx hb dX12_from_11 (by decide) ?_
    obtain ⟨r15, M17, hu16, hf⟩ := bd2_s hf
    refine r_goI (r_runV (As := [.int (-2 : Int32)]) (rest := []) hC hP hS (k_X12_bad hg hO hu16) cw_X12_73 q_196 q_197 q_198 (Rm.D 0 1 rfl) hO.1 rfl rfl hl.1 rfl (Nat.le_of_ble_eq_true rfl) dX12_from_13) hS (fun H locs hP hS => ?_)
    exact e_IM hC hr hlk hP hS dX12_from_16 hf
set_option maxRecDepth 100000 in
set_option maxHeartbeats 4000000 in
theorem k_X12_full {g : Ev} {l : Launch} (hg : g.2.1.Nodup) {y : Nat} (hO : oModel g y) {M : Mm} {N : Ml}  {v : Int32} {MR : Mm} (hf : f_X12_full y M = some (v, MR)) : KM g l yX12_full cX12_full 1 (some .int) 0 [.ref y] M N (QI g v MR N) := by
  refine KM.mk hg (by decide) (Nat.le_of_ble_eq_true rfl) ?_
  intro p e s m below meth c ls hC hr hlk hl hP hS
  have hx := hC.1
  have hb := hC.2.1
  have hl : lv_has ls 1 [(0, .ref y)] := hl
  unfold f_X12_full at hf
  refine lv_aload_n hx hb dX12_full_0 rfl (lv_at hl 0 rfl) ?_
  refine r_getR hC hP hO.1 fl_X12_20 rfl dX12_full_1 ?_
  refine lv_iconst (v := (2 : Int32)) hx hb dX12_full_4 (by decide) ?_
  refine lv_dup2_11 hx hb dX12_full_5 rfl rfl ?_
  obtain ⟨hb1, hf⟩ := ck_s hf
  refine r_iald hC hP hO.2.2.2.2.1 hb1 dX12_full_6 ?_
  refine lv_iconst (v := (1 : Int32)) hx hb dX12_full_7 (by decide) ?_
  refine lv_iadd hx hb dX12_full_8 ?_
  obtain ⟨hb2, hf⟩ := ck_s hf
  refine r_iast hC hP hS hO.2.2.2.2.1 hb2 dX12_full_9 (fun H locs hP hS => ?_)
  obtain ⟨M3, eM3, hf, hP⟩ := bsM hf hP
  refine lv_bipush (v := (-4 : Int32)) hx hb dX12_full_10 (by decide) ?_
  exact e_IM hC hr hlk hP hS dX12_full_12 hf
set_option maxRecDepth 100000 in
set_option maxHeartbeats 4000000 in
theorem k_X12_laneSum {g : Ev} {l : Launch} (hg : g.2.1.Nodup) {y : Nat} (hO : oModel g y) {M : Mm} {N : Ml} {p0 : Int32} {v : Int32} (hf : f_X12_laneSum y p0 M = some v) : KM g l yX12_laneSum cX12_laneSum 2 (some .int) 1 [.ref y, .int p0] M N (QI g v M N) := by
  refine KM.mk hg (by decide) (Nat.le_of_ble_eq_true rfl) ?_
  intro p e s m below meth c ls hC hr hlk hl hP hS
  have hx := hC.1
  have hb := hC.2.1
  have hl : lv_has ls 2 [(0, .ref y), (1, .int p0)] := hl
  unfold f_X12_laneSum at hf
  refine lv_aload_n hx hb dX12_laneSum_0 rfl (lv_at hl 0 rfl) ?_
  refine r_getR hC hP hO.1 fl_X12_7 rfl dX12_laneSum_1 ?_
  refine lv_bipush (v := (6 : Int32)) hx hb dX12_laneSum_4 (by decide) ?_
  refine lv_bipush (v := (24 : Int32)) hx hb dX12_laneSum_6 (by decide) ?_
  refine lv_iload_n hx hb dX12_laneSum_8 rfl (lv_at hl 1 rfl) ?_
  refine lv_imul hx hb dX12_laneSum_9 ?_
  refine lv_iadd hx hb dX12_laneSum_10 ?_
  refine lv_aload_n hx hb dX12_laneSum_11 rfl (lv_at hl 0 rfl) ?_
  obtain ⟨r1, hu2, hf⟩ := bd_s hf
  refine r_goI (r_runV (As := []) (rest := [.int ((6 : Int32) + ((24 : Int32) * p0)), .ref (y + 1)]) hC hP hS (k_X12_places hg hO hu2) cw_X12_64 q_200 q_201 q_202 (Rm.D 0 1 rfl) hO.1 rfl rfl hl.1 rfl (Nat.le_of_ble_eq_true rfl) dX12_laneSum_12) hS (fun H locs hP hS => ?_)
  obtain ⟨r4, hu5, hf⟩ := bd_s hf
  refine r_goI (r_runS (As := [.ref (y + 1), .int ((6 : Int32) + ((24 : Int32) * p0)), .int r1]) (rest := []) hC hP hS (k_X12_sumOf hg hO.2.1 hu5) cw_X12_140 q_615 q_616 (Rm.D 0 1 rfl) rfl hl.1 rfl (Nat.le_of_ble_eq_true rfl) dX12_laneSum_15) hS (fun H locs hP hS => ?_)
  exact e_I hC hr hlk hP hS dX12_laneSum_18 hf
set_option maxRecDepth 100000 in
set_option maxHeartbeats 4000000 in
theorem k_X12_game {g : Ev} {l : Launch} (hg : g.2.1.Nodup) {y : Nat} (hO : oModel g y) {M : Mm} {N : Ml} {p0 : Int32} {p1 : Int32} {v : Int32} {MR : Mm} (hf : f_X12_game y p0 p1 M = some (v, MR)) : KM g l yX12_game cX12_game 12 (some .int) 2 [.ref y, .int p0, .int p1] M N (QI g v MR N) := by
  refine KM.mk hg (by decide) (Nat.le_of_ble_eq_true rfl) ?_
  intro p e s m below meth c ls hC hr hlk hl hP hS
  have hx := hC.1
  have hb := hC.2.1
  have hl : lv_has ls 12 [(0, .ref y), (1, .int p0), (2, .int p1)] := hl
  have J22 : ∀ (M : Mm) (H : Heap) (locs : List Loc) (ls : Array Slot), f_X12_game_J22 y M = some (v, MR) → wP g M N H → va_S (wA g) s.heap H locs → lv_has ls 12 [(0, .ref y)] → W p l e (rmD 2) s m ([.ref y, .int p0, .int p1] : List Value).toArray below meth c H locs 0 0 (MQ below (QI g v MR N) ([.ref y, .int p0, .int p1] : List Value).toArray s 0 0 (wA g)) (F0 m 22 ls []) := by
    intro M H locs ls hf hP hS hl
    unfold f_X12_game_J22 at hf
    refine lv_aload_n hx hb dX12_game_22 rfl (lv_at hl 0 rfl) ?_
    refine lv_ldc (v := (-100000 : Int32)) hx hb hC.2.2.2.1 (hC.2.2.2.2.1 _ q_884) dX12_game_23 ?_
    obtain ⟨r5, M7, hu6, hf⟩ := bd2_s hf
    refine r_goI (r_runV (As := [.int (-100000 : Int32)]) (rest := []) hC hP hS (k_X12_bad hg hO hu6) cw_X12_73 q_196 q_197 q_198 (Rm.D 0 2 rfl) hO.1 rfl rfl hl.1 rfl (Nat.le_of_ble_eq_true rfl) dX12_game_25) hS (fun H locs hP hS => ?_)
    exact e_IM hC hr hlk hP hS dX12_game_28 hf
  have J290 : ∀ (kb96 : Int32 → Int32 → Int32 → Int32 → Int32 → Mm → Option (Int32 × Mm)) (hkb96 : ∀ (x1 : Int32) (x2 : Int32) (x3 : Int32) (x4 : Int32) (x5 : Int32) (M : Mm) (H : Heap) (locs : List Loc) (ls : Array Slot), kb96 x1 x2 x3 x4 x5 M = some (v, MR) → wP g M N H → va_S (wA g) s.heap H locs → lv_has ls 12 [(0, .ref y), (1, .int x1), (2, .int x2), (3, .int x3), (4, .int x4), (5, .int x5)] → W p l e (rmD 2) s m ([.ref y, .int p0, .int p1] : List Value).toArray below meth c H locs 0 0 (MQ below (QI g v MR N) ([.ref y, .int p0, .int p1] : List Value).toArray s 0 0 (wA g)) (F0 m 96 ls [])) (kb105 : Int32 → Int32 → Int32 → Int32 → Int32 → Int32 → Mm → Option (Int32 × Mm)) (hkb105 : ∀ (x1 : Int32) (x2 : Int32) (x3 : Int32) (x4 : Int32) (x5 : Int32) (x6 : Int32) (M : Mm) (H : Heap) (locs : List Loc) (ls : Array Slot), kb105 x1 x2 x3 x4 x5 x6 M = some (v, MR) → wP g M N H → va_S (wA g) s.heap H locs → lv_has ls 12 [(0, .ref y), (1, .int x1), (2, .int x2), (3, .int x3), (4, .int x4), (5, .int x5), (6, .int x6)] → W p l e (rmD 2) s m ([.ref y, .int p0, .int p1] : List Value).toArray below meth c H locs 0 0 (MQ below (QI g v MR N) ([.ref y, .int p0, .int p1] : List Value).toArray s 0 0 (wA g)) (F0 m 105 ls [])) (x1 : Int32) (x2 : Int32) (x3 : Int32) (x5 : Int32) (x6 : Int32) (s0 : Int32) (M : Mm) (H : Heap) (locs : List Loc) (ls : Array Slot), f_X12_game_J290 y x1 x2 x3 x5 x6 s0 M kb96 kb105 = some (v, MR) → wP g M N H → va_S (wA g) s.heap H locs → lv_has ls 12 [(0, .ref y), (1, .int x1), (2, .int x2), (3, .int x3), (5, .int x5), (6, .int x6)] → W p l e (rmD 2) s m ([.ref y, .int p0, .int p1] : List Value).toArray below meth c H locs 0 0 (MQ below (QI g v MR N) ([.ref y, .int p0, .int p1] : List Value).toArray s 0 0 (wA g)) (F0 m 290 ls [.int s0]) := by
    intro kb96 hkb96 kb105 hkb105 x1 x2 x3 x5 x6 s0 M H locs ls hf hP hS hl
    unfold f_X12_game_J290 at hf
    refine lv_istore (lv' := [(4, .int s0), (0, .ref y), (1, .int x1), (2, .int x2), (3, .int x3), (5, .int x5), (6, .int x6)]) hx hb dX12_game_290 hl (by decide) rfl (fun ls hl => ?_)
    obtain ⟨z24, ez24, hf⟩ := bsJ hf
    refine lv_iinc (v := z24) (lv' := [(6, .int z24), (4, .int s0), (0, .ref y), (1, .int x1), (2, .int x2), (3, .int x3), (5, .int x5)]) hx hb dX12_game_292 hl (k := 6) rfl (by rw [ez24]; rfl) (by decide) rfl (fun ls hl => ?_)
    refine lv_goto (tgt := 105) hx hb dX12_game_295 (by decide) ?_
    exact hkb105 x1 x2 x3 s0 x5 z24 M _ _ _ hf hP hS (lv_sub hl [2, 3, 4, 5, 1, 6, 0] rfl)
  have J288 : ∀ (kb96 : Int32 → Int32 → Int32 → Int32 → Int32 → Mm → Option (Int32 × Mm)) (hkb96 : ∀ (x1 : Int32) (x2 : Int32) (x3 : Int32) (x4 : Int32) (x5 : Int32) (M : Mm) (H : Heap) (locs : List Loc) (ls : Array Slot), kb96 x1 x2 x3 x4 x5 M = some (v, MR) → wP g M N H → va_S (wA g) s.heap H locs → lv_has ls 12 [(0, .ref y), (1, .int x1), (2, .int x2), (3, .int x3), (4, .int x4), (5, .int x5)] → W p l e (rmD 2) s m ([.ref y, .int p0, .int p1] : List Value).toArray below meth c H locs 0 0 (MQ below (QI g v MR N) ([.ref y, .int p0, .int p1] : List Value).toArray s 0 0 (wA g)) (F0 m 96 ls [])) (kb105 : Int32 → Int32 → Int32 → Int32 → Int32 → Int32 → Mm → Option (Int32 × Mm)) (hkb105 : ∀ (x1 : Int32) (x2 : Int32) (x3 : Int32) (x4 : Int32) (x5 : Int32) (x6 : Int32) (M : Mm) (H : Heap) (locs : List Loc) (ls : Array Slot), kb105 x1 x2 x3 x4 x5 x6 M = some (v, MR) → wP g M N H → va_S (wA g) s.heap H locs → lv_has ls 12 [(0, .ref y), (1, .int x1), (2, .int x2), (3, .int x3), (4, .int x4), (5, .int x5), (6, .int x6)] → W p l e (rmD 2) s m ([.ref y, .int p0, .int p1] : List Value).toArray below meth c H locs 0 0 (MQ below (QI g v MR N) ([.ref y, .int p0, .int p1] : List Value).toArray s 0 0 (wA g)) (F0 m 105 ls [])) (x1 : Int32) (x2 : Int32) (x3 : Int32) (x4 : Int32) (x5 : Int32) (x6 : Int32) (M : Mm) (H : Heap) (locs : List Loc) (ls : Array Slot), f_X12_game_J288 y x1 x2 x3 x4 x5 x6 M kb96 kb105 = some (v, MR) → wP g M N H → va_S (wA g) s.heap H locs → lv_has ls 12 [(0, .ref y), (1, .int x1), (2, .int x2), (3, .int x3), (4, .int x4), (5, .int x5), (6, .int x6)] → W p l e (rmD 2) s m ([.ref y, .int p0, .int p1] : List Value).toArray below meth c H locs 0 0 (MQ below (QI g v MR N) ([.ref y, .int p0, .int p1] : List Value).toArray s 0 0 (wA g)) (F0 m 288 ls []) := by
    intro kb96 hkb96 kb105 hkb105 x1 x2 x3 x4 x5 x6 M H locs ls hf hP hS hl
    unfold f_X12_game_J288 at hf
    refine lv_iload hx hb dX12_game_288 (lv_at hl 4 rfl) ?_
    exact J290 _ hkb96 _ hkb105 x1 x2 x3 x5 x6 x4 M _ _ _ hf hP hS (lv_sub hl [0, 1, 2, 3, 5, 6] rfl)
  have J248 : ∀ (kb96 : Int32 → Int32 → Int32 → Int32 → Int32 → Mm → Option (Int32 × Mm)) (hkb96 : ∀ (x1 : Int32) (x2 : Int32) (x3 : Int32) (x4 : Int32) (x5 : Int32) (M : Mm) (H : Heap) (locs : List Loc) (ls : Array Slot), kb96 x1 x2 x3 x4 x5 M = some (v, MR) → wP g M N H → va_S (wA g) s.heap H locs → lv_has ls 12 [(0, .ref y), (1, .int x1), (2, .int x2), (3, .int x3), (4, .int x4), (5, .int x5)] → W p l e (rmD 2) s m ([.ref y, .int p0, .int p1] : List Value).toArray below meth c H locs 0 0 (MQ below (QI g v MR N) ([.ref y, .int p0, .int p1] : List Value).toArray s 0 0 (wA g)) (F0 m 96 ls [])) (kb105 : Int32 → Int32 → Int32 → Int32 → Int32 → Int32 → Mm → Option (Int32 × Mm)) (hkb105 : ∀ (x1 : Int32) (x2 : Int32) (x3 : Int32) (x4 : Int32) (x5 : Int32) (x6 : Int32) (M : Mm) (H : Heap) (locs : List Loc) (ls : Array Slot), kb105 x1 x2 x3 x4 x5 x6 M = some (v, MR) → wP g M N H → va_S (wA g) s.heap H locs → lv_has ls 12 [(0, .ref y), (1, .int x1), (2, .int x2), (3, .int x3), (4, .int x4), (5, .int x5), (6, .int x6)] → W p l e (rmD 2) s m ([.ref y, .int p0, .int p1] : List Value).toArray below meth c H locs 0 0 (MQ below (QI g v MR N) ([.ref y, .int p0, .int p1] : List Value).toArray s 0 0 (wA g)) (F0 m 105 ls [])) (kb143 : Int32 → Int32 → Int32 → Int32 → Int32 → Int32 → Int32 → Int32 → Int32 → Mm → Option (Int32 × Mm)) (hkb143 : ∀ (x1 : Int32) (x2 : Int32) (x3 : Int32) (x4 : Int32) (x5 : Int32) (x6 : Int32) (x7 : Int32) (x8 : Int32) (x9 : Int32) (M : Mm) (H : Heap) (locs : List Loc) (ls : Array Slot), kb143 x1 x2 x3 x4 x5 x6 x7 x8 x9 M = some (v, MR) → wP g M N H → va_S (wA g) s.heap H locs → lv_has ls 12 [(0, .ref y), (1, .int x1), (2, .int x2), (3, .int x3), (4, .int x4), (5, .int x5), (6, .int x6), (7, .int x7), (8, .int x8), (9, .int x9)] → W p l e (rmD 2) s m ([.ref y, .int p0, .int p1] : List Value).toArray below meth c H locs 0 0 (MQ below (QI g v MR N) ([.ref y, .int p0, .int p1] : List Value).toArray s 0 0 (wA g)) (F0 m 143 ls [])) (x1 : Int32) (x2 : Int32) (x3 : Int32) (x4 : Int32) (x5 : Int32) (x6 : Int32) (x8 : Int32) (x9 : Int32) (s0 : Int32) (M : Mm) (H : Heap) (locs : List Loc) (ls : Array Slot), f_X12_game_J248 y x1 x2 x3 x4 x5 x6 x8 x9 s0 M kb96 kb105 kb143 = some (v, MR) → wP g M N H → va_S (wA g) s.heap H locs → lv_has ls 12 [(0, .ref y), (1, .int x1), (2, .int x2), (3, .int x3), (4, .int x4), (5, .int x5), (6, .int x6), (8, .int x8), (9, .int x9)] → W p l e (rmD 2) s m ([.ref y, .int p0, .int p1] : List Value).toArray below meth c H locs 0 0 (MQ below (QI g v MR N) ([.ref y, .int p0, .int p1] : List Value).toArray s 0 0 (wA g)) (F0 m 248 ls [.int s0]) := by
    intro kb96 hkb96 kb105 hkb105 kb143 hkb143 x1 x2 x3 x4 x5 x6 x8 x9 s0 M H locs ls hf hP hS hl
    unfold f_X12_game_J248 at hf
    refine lv_istore (lv' := [(7, .int s0), (0, .ref y), (1, .int x1), (2, .int x2), (3, .int x3), (4, .int x4), (5, .int x5), (6, .int x6), (8, .int x8), (9, .int x9)]) hx hb dX12_game_248 hl (by decide) rfl (fun ls hl => ?_)
    obtain ⟨z30, ez30, hf⟩ := bsJ hf
    refine lv_iinc (v := z30) (lv' := [(9, .int z30), (7, .int s0), (0, .ref y), (1, .int x1), (2, .int x2), (3, .int x3), (4, .int x4), (5, .int x5), (6, .int x6), (8, .int x8)]) hx hb dX12_game_250 hl (k := 9) rfl (by rw [ez30]; rfl) (by decide) rfl (fun ls hl => ?_)
    refine lv_goto (tgt := 143) hx hb dX12_game_253 (by decide) ?_
    exact hkb143 x1 x2 x3 x4 x5 x6 s0 x8 z30 M _ _ _ hf hP hS (lv_sub hl [2, 3, 4, 5, 6, 7, 8, 1, 9, 0] rfl)
  have J246 : ∀ (kb96 : Int32 → Int32 → Int32 → Int32 → Int32 → Mm → Option (Int32 × Mm)) (hkb96 : ∀ (x1 : Int32) (x2 : Int32) (x3 : Int32) (x4 : Int32) (x5 : Int32) (M : Mm) (H : Heap) (locs : List Loc) (ls : Array Slot), kb96 x1 x2 x3 x4 x5 M = some (v, MR) → wP g M N H → va_S (wA g) s.heap H locs → lv_has ls 12 [(0, .ref y), (1, .int x1), (2, .int x2), (3, .int x3), (4, .int x4), (5, .int x5)] → W p l e (rmD 2) s m ([.ref y, .int p0, .int p1] : List Value).toArray below meth c H locs 0 0 (MQ below (QI g v MR N) ([.ref y, .int p0, .int p1] : List Value).toArray s 0 0 (wA g)) (F0 m 96 ls [])) (kb105 : Int32 → Int32 → Int32 → Int32 → Int32 → Int32 → Mm → Option (Int32 × Mm)) (hkb105 : ∀ (x1 : Int32) (x2 : Int32) (x3 : Int32) (x4 : Int32) (x5 : Int32) (x6 : Int32) (M : Mm) (H : Heap) (locs : List Loc) (ls : Array Slot), kb105 x1 x2 x3 x4 x5 x6 M = some (v, MR) → wP g M N H → va_S (wA g) s.heap H locs → lv_has ls 12 [(0, .ref y), (1, .int x1), (2, .int x2), (3, .int x3), (4, .int x4), (5, .int x5), (6, .int x6)] → W p l e (rmD 2) s m ([.ref y, .int p0, .int p1] : List Value).toArray below meth c H locs 0 0 (MQ below (QI g v MR N) ([.ref y, .int p0, .int p1] : List Value).toArray s 0 0 (wA g)) (F0 m 105 ls [])) (kb143 : Int32 → Int32 → Int32 → Int32 → Int32 → Int32 → Int32 → Int32 → Int32 → Mm → Option (Int32 × Mm)) (hkb143 : ∀ (x1 : Int32) (x2 : Int32) (x3 : Int32) (x4 : Int32) (x5 : Int32) (x6 : Int32) (x7 : Int32) (x8 : Int32) (x9 : Int32) (M : Mm) (H : Heap) (locs : List Loc) (ls : Array Slot), kb143 x1 x2 x3 x4 x5 x6 x7 x8 x9 M = some (v, MR) → wP g M N H → va_S (wA g) s.heap H locs → lv_has ls 12 [(0, .ref y), (1, .int x1), (2, .int x2), (3, .int x3), (4, .int x4), (5, .int x5), (6, .int x6), (7, .int x7), (8, .int x8), (9, .int x9)] → W p l e (rmD 2) s m ([.ref y, .int p0, .int p1] : List Value).toArray below meth c H locs 0 0 (MQ below (QI g v MR N) ([.ref y, .int p0, .int p1] : List Value).toArray s 0 0 (wA g)) (F0 m 143 ls [])) (x1 : Int32) (x2 : Int32) (x3 : Int32) (x4 : Int32) (x5 : Int32) (x6 : Int32) (x7 : Int32) (x8 : Int32) (x9 : Int32) (M : Mm) (H : Heap) (locs : List Loc) (ls : Array Slot), f_X12_game_J246 y x1 x2 x3 x4 x5 x6 x7 x8 x9 M kb96 kb105 kb143 = some (v, MR) → wP g M N H → va_S (wA g) s.heap H locs → lv_has ls 12 [(0, .ref y), (1, .int x1), (2, .int x2), (3, .int x3), (4, .int x4), (5, .int x5), (6, .int x6), (7, .int x7), (8, .int x8), (9, .int x9)] → W p l e (rmD 2) s m ([.ref y, .int p0, .int p1] : List Value).toArray below meth c H locs 0 0 (MQ below (QI g v MR N) ([.ref y, .int p0, .int p1] : List Value).toArray s 0 0 (wA g)) (F0 m 246 ls []) := by
    intro kb96 hkb96 kb105 hkb105 kb143 hkb143 x1 x2 x3 x4 x5 x6 x7 x8 x9 M H locs ls hf hP hS hl
    unfold f_X12_game_J246 at hf
    refine lv_iload hx hb dX12_game_246 (lv_at hl 7 rfl) ?_
    exact J248 _ hkb96 _ hkb105 _ hkb143 x1 x2 x3 x4 x5 x6 x8 x9 x7 M _ _ _ hf hP hS (lv_sub hl [0, 1, 2, 3, 4, 5, 6, 8, 9] rfl)
  have J227 : ∀ (kb96 : Int32 → Int32 → Int32 → Int32 → Int32 → Mm → Option (Int32 × Mm)) (hkb96 : ∀ (x1 : Int32) (x2 : Int32) (x3 : Int32) (x4 : Int32) (x5 : Int32) (M : Mm) (H : Heap) (locs : List Loc) (ls : Array Slot), kb96 x1 x2 x3 x4 x5 M = some (v, MR) → wP g M N H → va_S (wA g) s.heap H locs → lv_has ls 12 [(0, .ref y), (1, .int x1), (2, .int x2), (3, .int x3), (4, .int x4), (5, .int x5)] → W p l e (rmD 2) s m ([.ref y, .int p0, .int p1] : List Value).toArray below meth c H locs 0 0 (MQ below (QI g v MR N) ([.ref y, .int p0, .int p1] : List Value).toArray s 0 0 (wA g)) (F0 m 96 ls [])) (kb105 : Int32 → Int32 → Int32 → Int32 → Int32 → Int32 → Mm → Option (Int32 × Mm)) (hkb105 : ∀ (x1 : Int32) (x2 : Int32) (x3 : Int32) (x4 : Int32) (x5 : Int32) (x6 : Int32) (M : Mm) (H : Heap) (locs : List Loc) (ls : Array Slot), kb105 x1 x2 x3 x4 x5 x6 M = some (v, MR) → wP g M N H → va_S (wA g) s.heap H locs → lv_has ls 12 [(0, .ref y), (1, .int x1), (2, .int x2), (3, .int x3), (4, .int x4), (5, .int x5), (6, .int x6)] → W p l e (rmD 2) s m ([.ref y, .int p0, .int p1] : List Value).toArray below meth c H locs 0 0 (MQ below (QI g v MR N) ([.ref y, .int p0, .int p1] : List Value).toArray s 0 0 (wA g)) (F0 m 105 ls [])) (kb143 : Int32 → Int32 → Int32 → Int32 → Int32 → Int32 → Int32 → Int32 → Int32 → Mm → Option (Int32 × Mm)) (hkb143 : ∀ (x1 : Int32) (x2 : Int32) (x3 : Int32) (x4 : Int32) (x5 : Int32) (x6 : Int32) (x7 : Int32) (x8 : Int32) (x9 : Int32) (M : Mm) (H : Heap) (locs : List Loc) (ls : Array Slot), kb143 x1 x2 x3 x4 x5 x6 x7 x8 x9 M = some (v, MR) → wP g M N H → va_S (wA g) s.heap H locs → lv_has ls 12 [(0, .ref y), (1, .int x1), (2, .int x2), (3, .int x3), (4, .int x4), (5, .int x5), (6, .int x6), (7, .int x7), (8, .int x8), (9, .int x9)] → W p l e (rmD 2) s m ([.ref y, .int p0, .int p1] : List Value).toArray below meth c H locs 0 0 (MQ below (QI g v MR N) ([.ref y, .int p0, .int p1] : List Value).toArray s 0 0 (wA g)) (F0 m 143 ls [])) (x1 : Int32) (x2 : Int32) (x3 : Int32) (x4 : Int32) (x5 : Int32) (x6 : Int32) (x7 : Int32) (x9 : Int32) (x10 : Int32) (x11 : Int32) (s0 : Int32) (M : Mm) (H : Heap) (locs : List Loc) (ls : Array Slot), f_X12_game_J227 y x1 x2 x3 x4 x5 x6 x7 x9 x10 x11 s0 M kb96 kb105 kb143 = some (v, MR) → wP g M N H → va_S (wA g) s.heap H locs → lv_has ls 12 [(0, .ref y), (1, .int x1), (2, .int x2), (3, .int x3), (4, .int x4), (5, .int x5), (6, .int x6), (7, .int x7), (9, .int x9), (10, .int x10), (11, .int x11)] → W p l e (rmD 2) s m ([.ref y, .int p0, .int p1] : List Value).toArray below meth c H locs 0 0 (MQ below (QI g v MR N) ([.ref y, .int p0, .int p1] : List Value).toArray s 0 0 (wA g)) (F0 m 227 ls [.int s0]) := by
    intro kb96 hkb96 kb105 hkb105 kb143 hkb143 x1 x2 x3 x4 x5 x6 x7 x9 x10 x11 s0 M H locs ls hf hP hS hl
    unfold f_X12_game_J227 at hf
    refine lv_istore (lv' := [(8, .int s0), (0, .ref y), (1, .int x1), (2, .int x2), (3, .int x3), (4, .int x4), (5, .int x5), (6, .int x6), (7, .int x7), (9, .int x9), (10, .int x10), (11, .int x11)]) hx hb dX12_game_227 hl (by decide) rfl (fun ls hl => ?_)
    refine lv_iload hx hb dX12_game_229 (lv_at hl 10 rfl) ?_
    refine lv_if_eq (tgt := 246) hx hb dX12_game_231 (by decide) (fun c29 => ?_) (fun c29 => ?_)
    · have hf := if_t c29 hf
      exact J246 _ hkb96 _ hkb105 _ hkb143 x1 x2 x3 x4 x5 x6 x7 s0 x9 M _ _ _ hf hP hS (lv_sub hl [1, 2, 3, 4, 5, 6, 7, 8, 0, 9] rfl)
    · have hf := if_f c29 hf
      refine lv_iload hx hb dX12_game_234 (lv_at hl 11 rfl) ?_
      refine lv_iload hx hb dX12_game_236 (lv_at hl 8 rfl) ?_
      refine lv_icmp_le (tgt := 246) hx hb dX12_game_238 (by decide) (fun c31 => ?_) (fun c31 => ?_)
      · have hf := if_t c31 hf
        exact J246 _ hkb96 _ hkb105 _ hkb143 x1 x2 x3 x4 x5 x6 x7 s0 x9 M _ _ _ hf hP hS (lv_sub hl [1, 2, 3, 4, 5, 6, 7, 8, 0, 9] rfl)
      · have hf := if_f c31 hf
        refine lv_iload hx hb dX12_game_241 (lv_at hl 11 rfl) ?_
        refine lv_goto (tgt := 248) hx hb dX12_game_243 (by decide) ?_
        exact J248 _ hkb96 _ hkb105 _ hkb143 x1 x2 x3 x4 x5 x6 s0 x9 x11 M _ _ _ hf hP hS (lv_sub hl [1, 2, 3, 4, 5, 6, 7, 0, 9] rfl)
  have J225 : ∀ (kb96 : Int32 → Int32 → Int32 → Int32 → Int32 → Mm → Option (Int32 × Mm)) (hkb96 : ∀ (x1 : Int32) (x2 : Int32) (x3 : Int32) (x4 : Int32) (x5 : Int32) (M : Mm) (H : Heap) (locs : List Loc) (ls : Array Slot), kb96 x1 x2 x3 x4 x5 M = some (v, MR) → wP g M N H → va_S (wA g) s.heap H locs → lv_has ls 12 [(0, .ref y), (1, .int x1), (2, .int x2), (3, .int x3), (4, .int x4), (5, .int x5)] → W p l e (rmD 2) s m ([.ref y, .int p0, .int p1] : List Value).toArray below meth c H locs 0 0 (MQ below (QI g v MR N) ([.ref y, .int p0, .int p1] : List Value).toArray s 0 0 (wA g)) (F0 m 96 ls [])) (kb105 : Int32 → Int32 → Int32 → Int32 → Int32 → Int32 → Mm → Option (Int32 × Mm)) (hkb105 : ∀ (x1 : Int32) (x2 : Int32) (x3 : Int32) (x4 : Int32) (x5 : Int32) (x6 : Int32) (M : Mm) (H : Heap) (locs : List Loc) (ls : Array Slot), kb105 x1 x2 x3 x4 x5 x6 M = some (v, MR) → wP g M N H → va_S (wA g) s.heap H locs → lv_has ls 12 [(0, .ref y), (1, .int x1), (2, .int x2), (3, .int x3), (4, .int x4), (5, .int x5), (6, .int x6)] → W p l e (rmD 2) s m ([.ref y, .int p0, .int p1] : List Value).toArray below meth c H locs 0 0 (MQ below (QI g v MR N) ([.ref y, .int p0, .int p1] : List Value).toArray s 0 0 (wA g)) (F0 m 105 ls [])) (kb143 : Int32 → Int32 → Int32 → Int32 → Int32 → Int32 → Int32 → Int32 → Int32 → Mm → Option (Int32 × Mm)) (hkb143 : ∀ (x1 : Int32) (x2 : Int32) (x3 : Int32) (x4 : Int32) (x5 : Int32) (x6 : Int32) (x7 : Int32) (x8 : Int32) (x9 : Int32) (M : Mm) (H : Heap) (locs : List Loc) (ls : Array Slot), kb143 x1 x2 x3 x4 x5 x6 x7 x8 x9 M = some (v, MR) → wP g M N H → va_S (wA g) s.heap H locs → lv_has ls 12 [(0, .ref y), (1, .int x1), (2, .int x2), (3, .int x3), (4, .int x4), (5, .int x5), (6, .int x6), (7, .int x7), (8, .int x8), (9, .int x9)] → W p l e (rmD 2) s m ([.ref y, .int p0, .int p1] : List Value).toArray below meth c H locs 0 0 (MQ below (QI g v MR N) ([.ref y, .int p0, .int p1] : List Value).toArray s 0 0 (wA g)) (F0 m 143 ls [])) (x1 : Int32) (x2 : Int32) (x3 : Int32) (x4 : Int32) (x5 : Int32) (x6 : Int32) (x7 : Int32) (x8 : Int32) (x9 : Int32) (x10 : Int32) (x11 : Int32) (M : Mm) (H : Heap) (locs : List Loc) (ls : Array Slot), f_X12_game_J225 y x1 x2 x3 x4 x5 x6 x7 x8 x9 x10 x11 M kb96 kb105 kb143 = some (v, MR) → wP g M N H → va_S (wA g) s.heap H locs → lv_has ls 12 [(0, .ref y), (1, .int x1), (2, .int x2), (3, .int x3), (4, .int x4), (5, .int x5), (6, .int x6), (7, .int x7), (8, .int x8), (9, .int x9), (10, .int x10), (11, .int x11)] → W p l e (rmD 2) s m ([.ref y, .int p0, .int p1] : List Value).toArray below meth c H locs 0 0 (MQ below (QI g v MR N) ([.ref y, .int p0, .int p1] : List Value).toArray s 0 0 (wA g)) (F0 m 225 ls []) := by
    intro kb96 hkb96 kb105 hkb105 kb143 hkb143 x1 x2 x3 x4 x5 x6 x7 x8 x9 x10 x11 M H locs ls hf hP hS hl
    unfold f_X12_game_J225 at hf
    refine lv_iload hx hb dX12_game_225 (lv_at hl 8 rfl) ?_
    exact J227 _ hkb96 _ hkb105 _ hkb143 x1 x2 x3 x4 x5 x6 x7 x9 x10 x11 x8 M _ _ _ hf hP hS (lv_sub hl [0, 1, 2, 3, 4, 5, 6, 7, 9, 10, 11] rfl)
  have J206 : ∀ (kb96 : Int32 → Int32 → Int32 → Int32 → Int32 → Mm → Option (Int32 × Mm)) (hkb96 : ∀ (x1 : Int32) (x2 : Int32) (x3 : Int32) (x4 : Int32) (x5 : Int32) (M : Mm) (H : Heap) (locs : List Loc) (ls : Array Slot), kb96 x1 x2 x3 x4 x5 M = some (v, MR) → wP g M N H → va_S (wA g) s.heap H locs → lv_has ls 12 [(0, .ref y), (1, .int x1), (2, .int x2), (3, .int x3), (4, .int x4), (5, .int x5)] → W p l e (rmD 2) s m ([.ref y, .int p0, .int p1] : List Value).toArray below meth c H locs 0 0 (MQ below (QI g v MR N) ([.ref y, .int p0, .int p1] : List Value).toArray s 0 0 (wA g)) (F0 m 96 ls [])) (kb105 : Int32 → Int32 → Int32 → Int32 → Int32 → Int32 → Mm → Option (Int32 × Mm)) (hkb105 : ∀ (x1 : Int32) (x2 : Int32) (x3 : Int32) (x4 : Int32) (x5 : Int32) (x6 : Int32) (M : Mm) (H : Heap) (locs : List Loc) (ls : Array Slot), kb105 x1 x2 x3 x4 x5 x6 M = some (v, MR) → wP g M N H → va_S (wA g) s.heap H locs → lv_has ls 12 [(0, .ref y), (1, .int x1), (2, .int x2), (3, .int x3), (4, .int x4), (5, .int x5), (6, .int x6)] → W p l e (rmD 2) s m ([.ref y, .int p0, .int p1] : List Value).toArray below meth c H locs 0 0 (MQ below (QI g v MR N) ([.ref y, .int p0, .int p1] : List Value).toArray s 0 0 (wA g)) (F0 m 105 ls [])) (kb143 : Int32 → Int32 → Int32 → Int32 → Int32 → Int32 → Int32 → Int32 → Int32 → Mm → Option (Int32 × Mm)) (hkb143 : ∀ (x1 : Int32) (x2 : Int32) (x3 : Int32) (x4 : Int32) (x5 : Int32) (x6 : Int32) (x7 : Int32) (x8 : Int32) (x9 : Int32) (M : Mm) (H : Heap) (locs : List Loc) (ls : Array Slot), kb143 x1 x2 x3 x4 x5 x6 x7 x8 x9 M = some (v, MR) → wP g M N H → va_S (wA g) s.heap H locs → lv_has ls 12 [(0, .ref y), (1, .int x1), (2, .int x2), (3, .int x3), (4, .int x4), (5, .int x5), (6, .int x6), (7, .int x7), (8, .int x8), (9, .int x9)] → W p l e (rmD 2) s m ([.ref y, .int p0, .int p1] : List Value).toArray below meth c H locs 0 0 (MQ below (QI g v MR N) ([.ref y, .int p0, .int p1] : List Value).toArray s 0 0 (wA g)) (F0 m 143 ls [])) (x1 : Int32) (x2 : Int32) (x3 : Int32) (x4 : Int32) (x5 : Int32) (x6 : Int32) (x7 : Int32) (x8 : Int32) (x9 : Int32) (x10 : Int32) (s0 : Int32) (M : Mm) (H : Heap) (locs : List Loc) (ls : Array Slot), f_X12_game_J206 y x1 x2 x3 x4 x5 x6 x7 x8 x9 x10 s0 M kb96 kb105 kb143 = some (v, MR) → wP g M N H → va_S (wA g) s.heap H locs → lv_has ls 12 [(0, .ref y), (1, .int x1), (2, .int x2), (3, .int x3), (4, .int x4), (5, .int x5), (6, .int x6), (7, .int x7), (8, .int x8), (9, .int x9), (10, .int x10)] → W p l e (rmD 2) s m ([.ref y, .int p0, .int p1] : List Value).toArray below meth c H locs 0 0 (MQ below (QI g v MR N) ([.ref y, .int p0, .int p1] : List Value).toArray s 0 0 (wA g)) (F0 m 206 ls [.int s0]) := by
    intro kb96 hkb96 kb105 hkb105 kb143 hkb143 x1 x2 x3 x4 x5 x6 x7 x8 x9 x10 s0 M H locs ls hf hP hS hl
    unfold f_X12_game_J206 at hf
    refine lv_istore (lv' := [(11, .int s0), (0, .ref y), (1, .int x1), (2, .int x2), (3, .int x3), (4, .int x4), (5, .int x5), (6, .int x6), (7, .int x7), (8, .int x8), (9, .int x9), (10, .int x10)]) hx hb dX12_game_206 hl (by decide) rfl (fun ls hl => ?_)
    refine lv_iload hx hb dX12_game_208 (lv_at hl 11 rfl) ?_
    refine lv_if_eq (tgt := 225) hx hb dX12_game_210 (by decide) (fun c28 => ?_) (fun c28 => ?_)
    · have hf := if_t c28 hf
      exact J225 _ hkb96 _ hkb105 _ hkb143 x1 x2 x3 x4 x5 x6 x7 x8 x9 x10 s0 M _ _ _ hf hP hS (lv_sub hl [1, 2, 3, 4, 5, 6, 7, 8, 9, 10, 11, 0] rfl)
    · have hf := if_f c28 hf
      refine lv_iload hx hb dX12_game_213 (lv_at hl 0 rfl) ?_
      refine lv_iload hx hb dX12_game_215 (lv_at hl 8 rfl) ?_
      refine lv_icmp_le (tgt := 225) hx hb dX12_game_217 (by decide) (fun c32 => ?_) (fun c32 => ?_)
      · have hf := if_t c32 hf
        exact J225 _ hkb96 _ hkb105 _ hkb143 x1 x2 x3 x4 x5 x6 x7 x8 x9 x10 s0 M _ _ _ hf hP hS (lv_sub hl [1, 2, 3, 4, 5, 6, 7, 8, 9, 10, 11, 0] rfl)
      · have hf := if_f c32 hf
        refine lv_iload hx hb dX12_game_220 (lv_at hl 10 rfl) ?_
        refine lv_goto (tgt := 227) hx hb dX12_game_222 (by decide) ?_
        exact J227 _ hkb96 _ hkb105 _ hkb143 x1 x2 x3 x4 x5 x6 x7 x9 x10 s0 x9 M _ _ _ hf hP hS (lv_sub hl [1, 2, 3, 4, 5, 6, 7, 8, 10, 11, 0] rfl)
  have J165 : ∀ (kb96 : Int32 → Int32 → Int32 → Int32 → Int32 → Mm → Option (Int32 × Mm)) (hkb96 : ∀ (x1 : Int32) (x2 : Int32) (x3 : Int32) (x4 : Int32) (x5 : Int32) (M : Mm) (H : Heap) (locs : List Loc) (ls : Array Slot), kb96 x1 x2 x3 x4 x5 M = some (v, MR) → wP g M N H → va_S (wA g) s.heap H locs → lv_has ls 12 [(0, .ref y), (1, .int x1), (2, .int x2), (3, .int x3), (4, .int x4), (5, .int x5)] → W p l e (rmD 2) s m ([.ref y, .int p0, .int p1] : List Value).toArray below meth c H locs 0 0 (MQ below (QI g v MR N) ([.ref y, .int p0, .int p1] : List Value).toArray s 0 0 (wA g)) (F0 m 96 ls [])) (kb105 : Int32 → Int32 → Int32 → Int32 → Int32 → Int32 → Mm → Option (Int32 × Mm)) (hkb105 : ∀ (x1 : Int32) (x2 : Int32) (x3 : Int32) (x4 : Int32) (x5 : Int32) (x6 : Int32) (M : Mm) (H : Heap) (locs : List Loc) (ls : Array Slot), kb105 x1 x2 x3 x4 x5 x6 M = some (v, MR) → wP g M N H → va_S (wA g) s.heap H locs → lv_has ls 12 [(0, .ref y), (1, .int x1), (2, .int x2), (3, .int x3), (4, .int x4), (5, .int x5), (6, .int x6)] → W p l e (rmD 2) s m ([.ref y, .int p0, .int p1] : List Value).toArray below meth c H locs 0 0 (MQ below (QI g v MR N) ([.ref y, .int p0, .int p1] : List Value).toArray s 0 0 (wA g)) (F0 m 105 ls [])) (kb143 : Int32 → Int32 → Int32 → Int32 → Int32 → Int32 → Int32 → Int32 → Int32 → Mm → Option (Int32 × Mm)) (hkb143 : ∀ (x1 : Int32) (x2 : Int32) (x3 : Int32) (x4 : Int32) (x5 : Int32) (x6 : Int32) (x7 : Int32) (x8 : Int32) (x9 : Int32) (M : Mm) (H : Heap) (locs : List Loc) (ls : Array Slot), kb143 x1 x2 x3 x4 x5 x6 x7 x8 x9 M = some (v, MR) → wP g M N H → va_S (wA g) s.heap H locs → lv_has ls 12 [(0, .ref y), (1, .int x1), (2, .int x2), (3, .int x3), (4, .int x4), (5, .int x5), (6, .int x6), (7, .int x7), (8, .int x8), (9, .int x9)] → W p l e (rmD 2) s m ([.ref y, .int p0, .int p1] : List Value).toArray below meth c H locs 0 0 (MQ below (QI g v MR N) ([.ref y, .int p0, .int p1] : List Value).toArray s 0 0 (wA g)) (F0 m 143 ls [])) (x1 : Int32) (x2 : Int32) (x3 : Int32) (x4 : Int32) (x5 : Int32) (x6 : Int32) (x7 : Int32) (x8 : Int32) (x9 : Int32) (s0 : Int32) (M : Mm) (H : Heap) (locs : List Loc) (ls : Array Slot), f_X12_game_J165 y x1 x2 x3 x4 x5 x6 x7 x8 x9 s0 M kb96 kb105 kb143 = some (v, MR) → wP g M N H → va_S (wA g) s.heap H locs → lv_has ls 12 [(0, .ref y), (1, .int x1), (2, .int x2), (3, .int x3), (4, .int x4), (5, .int x5), (6, .int x6), (7, .int x7), (8, .int x8), (9, .int x9)] → W p l e (rmD 2) s m ([.ref y, .int p0, .int p1] : List Value).toArray below meth c H locs 0 0 (MQ below (QI g v MR N) ([.ref y, .int p0, .int p1] : List Value).toArray s 0 0 (wA g)) (F0 m 165 ls [.int s0]) := by
    intro kb96 hkb96 kb105 hkb105 kb143 hkb143 x1 x2 x3 x4 x5 x6 x7 x8 x9 s0 M H locs ls hf hP hS hl
    unfold f_X12_game_J165 at hf
    refine lv_istore (lv' := [(10, .int s0), (0, .ref y), (1, .int x1), (2, .int x2), (3, .int x3), (4, .int x4), (5, .int x5), (6, .int x6), (7, .int x7), (8, .int x8), (9, .int x9)]) hx hb dX12_game_165 hl (by decide) rfl (fun ls hl => ?_)
    refine lv_iload hx hb dX12_game_167 (lv_at hl 0 rfl) ?_
    refine lv_if_eq (tgt := 204) hx hb dX12_game_169 (by decide) (fun c27 => ?_) (fun c27 => ?_)
    · have hf := if_t c27 hf
      refine lv_ldc (v := (-100000000 : Int32)) hx hb hC.2.2.2.1 (hC.2.2.2.2.1 _ q_885) dX12_game_204 ?_
      exact J206 _ hkb96 _ hkb105 _ hkb143 x1 x2 x3 x4 x5 x6 x7 x8 x9 s0 (-100000000 : Int32) M _ _ _ hf hP hS (lv_sub hl [1, 2, 3, 4, 5, 6, 7, 8, 9, 10, 0] rfl)
    · have hf := if_f c27 hf
      refine lv_aload_n hx hb dX12_game_172 rfl (lv_at hl 1 rfl) ?_
      refine lv_iload hx hb dX12_game_173 (lv_at hl 10 rfl) ?_
      obtain ⟨r33, hu34, hf⟩ := bd_s hf
      refine r_goI (r_runV (As := [.int x9]) (rest := []) hC hP hS (k_X12_laneSum hg hO hu34) cw_X12_199 q_886 q_887 q_888 (Rm.D 1 2 rfl) hO.1 rfl rfl hl.1 rfl (Nat.le_of_ble_eq_true rfl) dX12_game_175) hS (fun H locs hP hS => ?_)
      refine lv_aload_n hx hb dX12_game_178 rfl (lv_at hl 1 rfl) ?_
      refine r_getR hC hP hO.1 fl_X12_42 rfl dX12_game_179 ?_
      refine lv_bipush (v := (32 : Int32)) hx hb dX12_game_182 (by decide) ?_
      refine lv_iload hx hb dX12_game_184 (lv_at hl 6 rfl) ?_
      refine lv_iconst (v := (1 : Int32)) hx hb dX12_game_186 (by decide) ?_
      refine lv_isub hx hb dX12_game_187 ?_
      refine lv_imul hx hb dX12_game_188 ?_
      refine lv_iload hx hb dX12_game_189 (lv_at hl 7 rfl) ?_
      refine lv_iconst (v := (1 : Int32)) hx hb dX12_game_191 (by decide) ?_
      refine lv_iload hx hb dX12_game_192 (lv_at hl 10 rfl) ?_
      refine lv_ishl hx hb dX12_game_194 ?_
      refine lv_iconst (v := (-1 : Int32)) hx hb dX12_game_195 (by decide) ?_
      refine lv_ixor hx hb dX12_game_196 ?_
      refine lv_iand hx hb dX12_game_197 ?_
      refine lv_iadd hx hb dX12_game_198 ?_
      obtain ⟨hb36, hf⟩ := ck_s hf
      refine r_iald hC hP hO.2.2.2.2.2.2.2.2.2.2.1 hb36 dX12_game_199 ?_
      refine lv_isub hx hb dX12_game_200 ?_
      refine lv_goto (tgt := 206) hx hb dX12_game_201 (by decide) ?_
      exact J206 _ hkb96 _ hkb105 _ hkb143 x1 x2 x3 x4 x5 x6 x7 x8 x9 s0 (r33 - (M (y + 10) (((32 : Int32) * (x5 - (1 : Int32))) + (x6 &&& ((jsl (1 : Int32) x9) ^^^ (-1 : Int32)))).toNatClampNeg)) M _ _ _ hf hP hS (lv_sub hl [1, 2, 3, 4, 5, 6, 7, 8, 9, 10, 0] rfl)
  have L143 : ∀ (kb96 : Int32 → Int32 → Int32 → Int32 → Int32 → Mm → Option (Int32 × Mm)) (hkb96 : ∀ (x1 : Int32) (x2 : Int32) (x3 : Int32) (x4 : Int32) (x5 : Int32) (M : Mm) (H : Heap) (locs : List Loc) (ls : Array Slot), kb96 x1 x2 x3 x4 x5 M = some (v, MR) → wP g M N H → va_S (wA g) s.heap H locs → lv_has ls 12 [(0, .ref y), (1, .int x1), (2, .int x2), (3, .int x3), (4, .int x4), (5, .int x5)] → W p l e (rmD 2) s m ([.ref y, .int p0, .int p1] : List Value).toArray below meth c H locs 0 0 (MQ below (QI g v MR N) ([.ref y, .int p0, .int p1] : List Value).toArray s 0 0 (wA g)) (F0 m 96 ls [])) (kb105 : Int32 → Int32 → Int32 → Int32 → Int32 → Int32 → Mm → Option (Int32 × Mm)) (hkb105 : ∀ (x1 : Int32) (x2 : Int32) (x3 : Int32) (x4 : Int32) (x5 : Int32) (x6 : Int32) (M : Mm) (H : Heap) (locs : List Loc) (ls : Array Slot), kb105 x1 x2 x3 x4 x5 x6 M = some (v, MR) → wP g M N H → va_S (wA g) s.heap H locs → lv_has ls 12 [(0, .ref y), (1, .int x1), (2, .int x2), (3, .int x3), (4, .int x4), (5, .int x5), (6, .int x6)] → W p l e (rmD 2) s m ([.ref y, .int p0, .int p1] : List Value).toArray below meth c H locs 0 0 (MQ below (QI g v MR N) ([.ref y, .int p0, .int p1] : List Value).toArray s 0 0 (wA g)) (F0 m 105 ls [])) (n : Nat) (x1 : Int32) (x2 : Int32) (x3 : Int32) (x4 : Int32) (x5 : Int32) (x6 : Int32) (x7 : Int32) (x8 : Int32) (x9 : Int32) (M : Mm) (H : Heap) (locs : List Loc) (ls : Array Slot), f_X12_game_L143 y kb96 kb105 n x1 x2 x3 x4 x5 x6 x7 x8 x9 M = some (v, MR) → wP g M N H → va_S (wA g) s.heap H locs → lv_has ls 12 [(0, .ref y), (1, .int x1), (2, .int x2), (3, .int x3), (4, .int x4), (5, .int x5), (6, .int x6), (7, .int x7), (8, .int x8), (9, .int x9)] → W p l e (rmD 2) s m ([.ref y, .int p0, .int p1] : List Value).toArray below meth c H locs 0 0 (MQ below (QI g v MR N) ([.ref y, .int p0, .int p1] : List Value).toArray s 0 0 (wA g)) (F0 m 143 ls []) := by
    intro kb96 hkb96 kb105 hkb105
    intro n
    induction n with
    | zero =>
      intro x1 x2 x3 x4 x5 x6 x7 x8 x9 M H locs ls hf
      exact absurd hf (by simp [f_X12_game_L143])
    | succ n ih =>
      intro x1 x2 x3 x4 x5 x6 x7 x8 x9 M H locs ls hf hP hS hl
      unfold f_X12_game_L143 at hf
      refine lv_iload hx hb dX12_game_143 (lv_at hl 9 rfl) ?_
      refine lv_iconst (v := (5 : Int32)) hx hb dX12_game_145 (by decide) ?_
      refine lv_icmp_ge (tgt := 256) hx hb dX12_game_146 (by decide) (fun c20 => ?_) (fun c20 => ?_)
      · have hf := if_t c20 hf
        refine lv_aload_n hx hb dX12_game_256 rfl (lv_at hl 0 rfl) ?_
        refine r_getR hC hP hO.1 fl_X12_42 rfl dX12_game_257 ?_
        refine lv_bipush (v := (32 : Int32)) hx hb dX12_game_260 (by decide) ?_
        refine lv_iload hx hb dX12_game_262 (lv_at hl 5 rfl) ?_
        refine lv_imul hx hb dX12_game_264 ?_
        refine lv_iload hx hb dX12_game_265 (lv_at hl 6 rfl) ?_
        refine lv_iadd hx hb dX12_game_267 ?_
        refine lv_iload hx hb dX12_game_268 (lv_at hl 7 rfl) ?_
        obtain ⟨hb21, hf⟩ := ck_s hf
        refine r_iast hC hP hS hO.2.2.2.2.2.2.2.2.2.2.1 hb21 dX12_game_270 (fun H locs hP hS => ?_)
        obtain ⟨M22, eM22, hf, hP⟩ := bsM hf hP
        refine lv_iload hx hb dX12_game_271 (lv_at hl 5 rfl) ?_
        refine lv_iload_n hx hb dX12_game_273 rfl (lv_at hl 1 rfl) ?_
        refine lv_icmp_ne (tgt := 288) hx hb dX12_game_274 (by decide) (fun c23 => ?_) (fun c23 => ?_)
        · have hf := if_f c23 hf
          exact J288 _ hkb96 _ hkb105 x1 x2 x3 x4 x5 x6 M22 _ _ _ hf hP hS (lv_sub hl [0, 1, 2, 3, 4, 5, 6] rfl)
        · have hf := if_t c23 hf
          refine lv_iload hx hb dX12_game_277 (lv_at hl 6 rfl) ?_
          refine lv_iload_n hx hb dX12_game_279 rfl (lv_at hl 3 rfl) ?_
          refine lv_icmp_ne (tgt := 288) hx hb dX12_game_280 (by decide) (fun c25 => ?_) (fun c25 => ?_)
          · have hf := if_f c25 hf
            exact J288 _ hkb96 _ hkb105 x1 x2 x3 x4 x5 x6 M22 _ _ _ hf hP hS (lv_sub hl [0, 1, 2, 3, 4, 5, 6] rfl)
          · have hf := if_t c25 hf
            refine lv_iload hx hb dX12_game_283 (lv_at hl 8 rfl) ?_
            refine lv_goto (tgt := 290) hx hb dX12_game_285 (by decide) ?_
            exact J290 _ hkb96 _ hkb105 x1 x2 x3 x5 x6 x8 M22 _ _ _ hf hP hS (lv_sub hl [0, 1, 2, 3, 5, 6] rfl)
      · have hf := if_f c20 hf
        refine lv_iload hx hb dX12_game_149 (lv_at hl 6 rfl) ?_
        refine lv_iload hx hb dX12_game_151 (lv_at hl 9 rfl) ?_
        refine lv_ishr hx hb dX12_game_153 ?_
        refine lv_iconst (v := (1 : Int32)) hx hb dX12_game_154 (by decide) ?_
        refine lv_iand hx hb dX12_game_155 ?_
        refine lv_iconst (v := (1 : Int32)) hx hb dX12_game_156 (by decide) ?_
        refine lv_icmp_ne (tgt := 164) hx hb dX12_game_157 (by decide) (fun c26 => ?_) (fun c26 => ?_)
        · have hf := if_f c26 hf
          refine lv_iconst (v := (0 : Int32)) hx hb dX12_game_164 (by decide) ?_
          exact J165 _ hkb96 _ hkb105 _ ih x1 x2 x3 x4 x5 x6 x7 x8 x9 (0 : Int32) M _ _ _ hf hP hS (lv_sub hl [0, 1, 2, 3, 4, 5, 6, 7, 8, 9] rfl)
        · have hf := if_t c26 hf
          refine lv_iconst (v := (1 : Int32)) hx hb dX12_game_160 (by decide) ?_
          refine lv_goto (tgt := 165) hx hb dX12_game_161 (by decide) ?_
          exact J165 _ hkb96 _ hkb105 _ ih x1 x2 x3 x4 x5 x6 x7 x8 x9 (1 : Int32) M _ _ _ hf hP hS (lv_sub hl [0, 1, 2, 3, 4, 5, 6, 7, 8, 9] rfl)
  have J135 : ∀ (kb96 : Int32 → Int32 → Int32 → Int32 → Int32 → Mm → Option (Int32 × Mm)) (hkb96 : ∀ (x1 : Int32) (x2 : Int32) (x3 : Int32) (x4 : Int32) (x5 : Int32) (M : Mm) (H : Heap) (locs : List Loc) (ls : Array Slot), kb96 x1 x2 x3 x4 x5 M = some (v, MR) → wP g M N H → va_S (wA g) s.heap H locs → lv_has ls 12 [(0, .ref y), (1, .int x1), (2, .int x2), (3, .int x3), (4, .int x4), (5, .int x5)] → W p l e (rmD 2) s m ([.ref y, .int p0, .int p1] : List Value).toArray below meth c H locs 0 0 (MQ below (QI g v MR N) ([.ref y, .int p0, .int p1] : List Value).toArray s 0 0 (wA g)) (F0 m 96 ls [])) (kb105 : Int32 → Int32 → Int32 → Int32 → Int32 → Int32 → Mm → Option (Int32 × Mm)) (hkb105 : ∀ (x1 : Int32) (x2 : Int32) (x3 : Int32) (x4 : Int32) (x5 : Int32) (x6 : Int32) (M : Mm) (H : Heap) (locs : List Loc) (ls : Array Slot), kb105 x1 x2 x3 x4 x5 x6 M = some (v, MR) → wP g M N H → va_S (wA g) s.heap H locs → lv_has ls 12 [(0, .ref y), (1, .int x1), (2, .int x2), (3, .int x3), (4, .int x4), (5, .int x5), (6, .int x6)] → W p l e (rmD 2) s m ([.ref y, .int p0, .int p1] : List Value).toArray below meth c H locs 0 0 (MQ below (QI g v MR N) ([.ref y, .int p0, .int p1] : List Value).toArray s 0 0 (wA g)) (F0 m 105 ls [])) (x1 : Int32) (x2 : Int32) (x3 : Int32) (x4 : Int32) (x5 : Int32) (x6 : Int32) (s0 : Int32) (M : Mm) (H : Heap) (locs : List Loc) (ls : Array Slot), f_X12_game_J135 y x1 x2 x3 x4 x5 x6 s0 M kb96 kb105 = some (v, MR) → wP g M N H → va_S (wA g) s.heap H locs → lv_has ls 12 [(0, .ref y), (1, .int x1), (2, .int x2), (3, .int x3), (4, .int x4), (5, .int x5), (6, .int x6)] → W p l e (rmD 2) s m ([.ref y, .int p0, .int p1] : List Value).toArray below meth c H locs 0 0 (MQ below (QI g v MR N) ([.ref y, .int p0, .int p1] : List Value).toArray s 0 0 (wA g)) (F0 m 135 ls [.int s0]) := by
    intro kb96 hkb96 kb105 hkb105 x1 x2 x3 x4 x5 x6 s0 M H locs ls hf hP hS hl
    unfold f_X12_game_J135 at hf
    refine lv_istore (lv' := [(7, .int s0), (0, .ref y), (1, .int x1), (2, .int x2), (3, .int x3), (4, .int x4), (5, .int x5), (6, .int x6)]) hx hb dX12_game_135 hl (by decide) rfl (fun ls hl => ?_)
    refine lv_iconst (v := (-1 : Int32)) hx hb dX12_game_137 (by decide) ?_
    refine lv_istore (lv' := [(8, .int (-1 : Int32)), (7, .int s0), (0, .ref y), (1, .int x1), (2, .int x2), (3, .int x3), (4, .int x4), (5, .int x5), (6, .int x6)]) hx hb dX12_game_138 hl (by decide) rfl (fun ls hl => ?_)
    refine lv_iconst (v := (0 : Int32)) hx hb dX12_game_140 (by decide) ?_
    refine lv_istore (lv' := [(9, .int (0 : Int32)), (8, .int (-1 : Int32)), (7, .int s0), (0, .ref y), (1, .int x1), (2, .int x2), (3, .int x3), (4, .int x4), (5, .int x5), (6, .int x6)]) hx hb dX12_game_141 hl (by decide) rfl (fun ls hl => ?_)
    exact L143 _ hkb96 _ hkb105 _ x1 x2 x3 x4 x5 x6 s0 (-1 : Int32) (0 : Int32) M _ _ _ hf hP hS (lv_sub hl [3, 4, 5, 6, 7, 8, 9, 2, 1, 0] rfl)
  have L105 : ∀ (kb96 : Int32 → Int32 → Int32 → Int32 → Int32 → Mm → Option (Int32 × Mm)) (hkb96 : ∀ (x1 : Int32) (x2 : Int32) (x3 : Int32) (x4 : Int32) (x5 : Int32) (M : Mm) (H : Heap) (locs : List Loc) (ls : Array Slot), kb96 x1 x2 x3 x4 x5 M = some (v, MR) → wP g M N H → va_S (wA g) s.heap H locs → lv_has ls 12 [(0, .ref y), (1, .int x1), (2, .int x2), (3, .int x3), (4, .int x4), (5, .int x5)] → W p l e (rmD 2) s m ([.ref y, .int p0, .int p1] : List Value).toArray below meth c H locs 0 0 (MQ below (QI g v MR N) ([.ref y, .int p0, .int p1] : List Value).toArray s 0 0 (wA g)) (F0 m 96 ls [])) (n : Nat) (x1 : Int32) (x2 : Int32) (x3 : Int32) (x4 : Int32) (x5 : Int32) (x6 : Int32) (M : Mm) (H : Heap) (locs : List Loc) (ls : Array Slot), f_X12_game_L105 y kb96 n x1 x2 x3 x4 x5 x6 M = some (v, MR) → wP g M N H → va_S (wA g) s.heap H locs → lv_has ls 12 [(0, .ref y), (1, .int x1), (2, .int x2), (3, .int x3), (4, .int x4), (5, .int x5), (6, .int x6)] → W p l e (rmD 2) s m ([.ref y, .int p0, .int p1] : List Value).toArray below meth c H locs 0 0 (MQ below (QI g v MR N) ([.ref y, .int p0, .int p1] : List Value).toArray s 0 0 (wA g)) (F0 m 105 ls []) := by
    intro kb96 hkb96
    intro n
    induction n with
    | zero =>
      intro x1 x2 x3 x4 x5 x6 M H locs ls hf
      exact absurd hf (by simp [f_X12_game_L105])
    | succ n ih =>
      intro x1 x2 x3 x4 x5 x6 M H locs ls hf hP hS hl
      unfold f_X12_game_L105 at hf
      refine lv_iload hx hb dX12_game_105 (lv_at hl 6 rfl) ?_
      refine lv_bipush (v := (32 : Int32)) hx hb dX12_game_107 (by decide) ?_
      refine lv_icmp_ge (tgt := 298) hx hb dX12_game_109 (by decide) (fun c17 => ?_) (fun c17 => ?_)
      · have hf := if_t c17 hf
        obtain ⟨z18, ez18, hf⟩ := bsJ hf
        refine lv_iinc (v := z18) (lv' := [(5, .int z18), (0, .ref y), (1, .int x1), (2, .int x2), (3, .int x3), (4, .int x4), (6, .int x6)]) hx hb dX12_game_298 hl (k := 5) rfl (by rw [ez18]; rfl) (by decide) rfl (fun ls hl => ?_)
        refine lv_goto (tgt := 96) hx hb dX12_game_301 (by decide) ?_
        exact hkb96 x1 x2 x3 x4 z18 M _ _ _ hf hP hS (lv_sub hl [1, 2, 3, 4, 5, 0] rfl)
      · have hf := if_f c17 hf
        refine lv_iload hx hb dX12_game_112 (lv_at hl 6 rfl) ?_
        refine lv_if_ne (tgt := 133) hx hb dX12_game_114 (by decide) (fun c19 => ?_) (fun c19 => ?_)
        · have hf := if_f c19 hf
          refine lv_ldc (v := (-100000000 : Int32)) hx hb hC.2.2.2.1 (hC.2.2.2.2.1 _ q_885) dX12_game_133 ?_
          exact J135 _ hkb96 _ ih x1 x2 x3 x4 x5 x6 (-100000000 : Int32) M _ _ _ hf hP hS (lv_sub hl [0, 1, 2, 3, 4, 5, 6] rfl)
        · have hf := if_t c19 hf
          refine lv_aload_n hx hb dX12_game_117 rfl (lv_at hl 0 rfl) ?_
          refine r_getR hC hP hO.1 fl_X12_42 rfl dX12_game_118 ?_
          refine lv_bipush (v := (32 : Int32)) hx hb dX12_game_121 (by decide) ?_
          refine lv_iload hx hb dX12_game_123 (lv_at hl 5 rfl) ?_
          refine lv_iconst (v := (1 : Int32)) hx hb dX12_game_125 (by decide) ?_
          refine lv_isub hx hb dX12_game_126 ?_
          refine lv_imul hx hb dX12_game_127 ?_
          obtain ⟨hb37, hf⟩ := ck_s hf
          refine r_iald hC hP hO.2.2.2.2.2.2.2.2.2.2.1 hb37 dX12_game_128 ?_
          refine lv_ineg hx hb dX12_game_129 ?_
          refine lv_goto (tgt := 135) hx hb dX12_game_130 (by decide) ?_
          exact J135 _ hkb96 _ ih x1 x2 x3 x4 x5 x6 (-(M (y + 10) ((32 : Int32) * (x5 - (1 : Int32))).toNatClampNeg)) M _ _ _ hf hP hS (lv_sub hl [0, 1, 2, 3, 4, 5, 6] rfl)
  have L96 : ∀ (n : Nat) (x1 : Int32) (x2 : Int32) (x3 : Int32) (x4 : Int32) (x5 : Int32) (M : Mm) (H : Heap) (locs : List Loc) (ls : Array Slot), f_X12_game_L96 y n x1 x2 x3 x4 x5 M = some (v, MR) → wP g M N H → va_S (wA g) s.heap H locs → lv_has ls 12 [(0, .ref y), (1, .int x1), (2, .int x2), (3, .int x3), (4, .int x4), (5, .int x5)] → W p l e (rmD 2) s m ([.ref y, .int p0, .int p1] : List Value).toArray below meth c H locs 0 0 (MQ below (QI g v MR N) ([.ref y, .int p0, .int p1] : List Value).toArray s 0 0 (wA g)) (F0 m 96 ls []) := by
    intro n
    induction n with
    | zero =>
      intro x1 x2 x3 x4 x5 M H locs ls hf
      exact absurd hf (by simp [f_X12_game_L96])
    | succ n ih =>
      intro x1 x2 x3 x4 x5 M H locs ls hf hP hS hl
      unfold f_X12_game_L96 at hf
      refine lv_iload hx hb dX12_game_96 (lv_at hl 5 rfl) ?_
      refine lv_iload_n hx hb dX12_game_98 rfl (lv_at hl 1 rfl) ?_
      refine lv_icmp_gt (tgt := 304) hx hb dX12_game_99 (by decide) (fun c14 => ?_) (fun c14 => ?_)
      · have hf := if_t c14 hf
        refine lv_iload_n hx hb dX12_game_304 rfl (lv_at hl 2 rfl) ?_
        refine lv_if_ne (tgt := 322) hx hb dX12_game_305 (by decide) (fun c15 => ?_) (fun c15 => ?_)
        · have hf := if_f c15 hf
          refine lv_iload hx hb dX12_game_322 (lv_at hl 4 rfl) ?_
          exact e_IM hC hr hlk hP hS dX12_game_324 hf
        · have hf := if_t c15 hf
          refine lv_aload_n hx hb dX12_game_308 rfl (lv_at hl 0 rfl) ?_
          refine r_getR hC hP hO.1 fl_X12_42 rfl dX12_game_309 ?_
          refine lv_bipush (v := (32 : Int32)) hx hb dX12_game_312 (by decide) ?_
          refine lv_iload_n hx hb dX12_game_314 rfl (lv_at hl 1 rfl) ?_
          refine lv_imul hx hb dX12_game_315 ?_
          refine lv_iload_n hx hb dX12_game_316 rfl (lv_at hl 3 rfl) ?_
          refine lv_iadd hx hb dX12_game_317 ?_
          obtain ⟨hb16, hf⟩ := ck_s hf
          refine r_iald hC hP hO.2.2.2.2.2.2.2.2.2.2.1 hb16 dX12_game_318 ?_
          refine lv_goto (tgt := 324) hx hb dX12_game_319 (by decide) ?_
          exact e_IM hC hr hlk hP hS dX12_game_324 hf
      · have hf := if_f c14 hf
        refine lv_iconst (v := (0 : Int32)) hx hb dX12_game_102 (by decide) ?_
        refine lv_istore (lv' := [(6, .int (0 : Int32)), (0, .ref y), (1, .int x1), (2, .int x2), (3, .int x3), (4, .int x4), (5, .int x5)]) hx hb dX12_game_103 hl (by decide) rfl (fun ls hl => ?_)
        exact L105 _ ih _ x1 x2 x3 x4 x5 (0 : Int32) M _ _ _ hf hP hS (lv_sub hl [1, 2, 3, 4, 5, 6, 0] rfl)
  have L72 : ∀ (n : Nat) (x1 : Int32) (x2 : Int32) (x3 : Int32) (x4 : Int32) (x5 : Int32) (M : Mm) (H : Heap) (locs : List Loc) (ls : Array Slot), f_X12_game_L72 y n x1 x2 x3 x4 x5 M = some (v, MR) → wP g M N H → va_S (wA g) s.heap H locs → lv_has ls 12 [(0, .ref y), (1, .int x1), (2, .int x2), (3, .int x3), (4, .int x4), (5, .int x5)] → W p l e (rmD 2) s m ([.ref y, .int p0, .int p1] : List Value).toArray below meth c H locs 0 0 (MQ below (QI g v MR N) ([.ref y, .int p0, .int p1] : List Value).toArray s 0 0 (wA g)) (F0 m 72 ls []) := by
    intro n
    induction n with
    | zero =>
      intro x1 x2 x3 x4 x5 M H locs ls hf
      exact absurd hf (by simp [f_X12_game_L72])
    | succ n ih =>
      intro x1 x2 x3 x4 x5 M H locs ls hf hP hS hl
      unfold f_X12_game_L72 at hf
      refine lv_iload hx hb dX12_game_72 (lv_at hl 5 rfl) ?_
      refine lv_bipush (v := (32 : Int32)) hx hb dX12_game_74 (by decide) ?_
      refine lv_icmp_ge (tgt := 93) hx hb dX12_game_76 (by decide) (fun c13 => ?_) (fun c13 => ?_)
      · have hf := if_t c13 hf
        refine lv_iconst (v := (1 : Int32)) hx hb dX12_game_93 (by decide) ?_
        refine lv_istore (lv' := [(5, .int (1 : Int32)), (0, .ref y), (1, .int x1), (2, .int x2), (3, .int x3), (4, .int x4)]) hx hb dX12_game_94 hl (by decide) rfl (fun ls hl => ?_)
        exact L96 _ x1 x2 x3 x4 (1 : Int32) M _ _ _ hf hP hS (lv_sub hl [1, 2, 3, 4, 5, 0] rfl)
      · have hf := if_f c13 hf
        refine lv_aload_n hx hb dX12_game_79 rfl (lv_at hl 0 rfl) ?_
        refine r_getR hC hP hO.1 fl_X12_42 rfl dX12_game_80 ?_
        refine lv_iload hx hb dX12_game_83 (lv_at hl 5 rfl) ?_
        refine lv_iconst (v := (0 : Int32)) hx hb dX12_game_85 (by decide) ?_
        obtain ⟨hb38, hf⟩ := ck_s hf
        refine r_iast hC hP hS hO.2.2.2.2.2.2.2.2.2.2.1 hb38 dX12_game_86 (fun H locs hP hS => ?_)
        obtain ⟨M39, eM39, hf, hP⟩ := bsM hf hP
        obtain ⟨z40, ez40, hf⟩ := bsJ hf
        refine lv_iinc (v := z40) (lv' := [(5, .int z40), (0, .ref y), (1, .int x1), (2, .int x2), (3, .int x3), (4, .int x4)]) hx hb dX12_game_87 hl (k := 5) rfl (by rw [ez40]; rfl) (by decide) rfl (fun ls hl => ?_)
        refine lv_goto (tgt := 72) hx hb dX12_game_90 (by decide) ?_
        exact ih x1 x2 x3 x4 z40 M39 _ _ _ hf hP hS (lv_sub hl [1, 2, 3, 4, 5, 0] rfl)
  have J58 : ∀ (kb34 : Int32 → Int32 → Int32 → Int32 → Mm → Option (Int32 × Mm)) (hkb34 : ∀ (x1 : Int32) (x2 : Int32) (x3 : Int32) (x4 : Int32) (M : Mm) (H : Heap) (locs : List Loc) (ls : Array Slot), kb34 x1 x2 x3 x4 M = some (v, MR) → wP g M N H → va_S (wA g) s.heap H locs → lv_has ls 12 [(0, .ref y), (1, .int x1), (2, .int x2), (3, .int x3), (4, .int x4)] → W p l e (rmD 2) s m ([.ref y, .int p0, .int p1] : List Value).toArray below meth c H locs 0 0 (MQ below (QI g v MR N) ([.ref y, .int p0, .int p1] : List Value).toArray s 0 0 (wA g)) (F0 m 34 ls [])) (x1 : Int32) (x2 : Int32) (x4 : Int32) (s0 : Int32) (s1 : Int32) (M : Mm) (H : Heap) (locs : List Loc) (ls : Array Slot), f_X12_game_J58 y x1 x2 x4 s0 s1 M kb34 = some (v, MR) → wP g M N H → va_S (wA g) s.heap H locs → lv_has ls 12 [(0, .ref y), (1, .int x1), (2, .int x2), (4, .int x4)] → W p l e (rmD 2) s m ([.ref y, .int p0, .int p1] : List Value).toArray below meth c H locs 0 0 (MQ below (QI g v MR N) ([.ref y, .int p0, .int p1] : List Value).toArray s 0 0 (wA g)) (F0 m 58 ls [.int s1, .int s0]) := by
    intro kb34 hkb34 x1 x2 x4 s0 s1 M H locs ls hf hP hS hl
    unfold f_X12_game_J58 at hf
    refine lv_ior hx hb dX12_game_58 ?_
    refine lv_topi (fun z45 ez45 => ?_)
    have hf := bs ez45 hf
    refine lv_istore_n (lv' := [(3, .int z45), (0, .ref y), (1, .int x1), (2, .int x2), (4, .int x4)]) hx hb dX12_game_59 rfl hl (by decide) rfl (fun ls hl => ?_)
    obtain ⟨z46, ez46, hf⟩ := bsJ hf
    refine lv_iinc (v := z46) (lv' := [(4, .int z46), (3, .int z45), (0, .ref y), (1, .int x1), (2, .int x2)]) hx hb dX12_game_60 hl (k := 4) rfl (by rw [ez46]; rfl) (by decide) rfl (fun ls hl => ?_)
    refine lv_goto (tgt := 34) hx hb dX12_game_63 (by decide) ?_
    exact hkb34 x1 x2 z45 z46 M _ _ _ hf hP hS (lv_sub hl [2, 3, 4, 1, 0] rfl)
  have L34 : ∀ (n : Nat) (x1 : Int32) (x2 : Int32) (x3 : Int32) (x4 : Int32) (M : Mm) (H : Heap) (locs : List Loc) (ls : Array Slot), f_X12_game_L34 y n x1 x2 x3 x4 M = some (v, MR) → wP g M N H → va_S (wA g) s.heap H locs → lv_has ls 12 [(0, .ref y), (1, .int x1), (2, .int x2), (3, .int x3), (4, .int x4)] → W p l e (rmD 2) s m ([.ref y, .int p0, .int p1] : List Value).toArray below meth c H locs 0 0 (MQ below (QI g v MR N) ([.ref y, .int p0, .int p1] : List Value).toArray s 0 0 (wA g)) (F0 m 34 ls []) := by
    intro n
    induction n with
    | zero =>
      intro x1 x2 x3 x4 M H locs ls hf
      exact absurd hf (by simp [f_X12_game_L34])
    | succ n ih =>
      intro x1 x2 x3 x4 M H locs ls hf hP hS hl
      unfold f_X12_game_L34 at hf
      refine lv_iload hx hb dX12_game_34 (lv_at hl 4 rfl) ?_
      refine lv_iconst (v := (5 : Int32)) hx hb dX12_game_36 (by decide) ?_
      refine lv_icmp_ge (tgt := 66) hx hb dX12_game_37 (by decide) (fun c12 => ?_) (fun c12 => ?_)
      · have hf := if_t c12 hf
        refine lv_iconst (v := (-1 : Int32)) hx hb dX12_game_66 (by decide) ?_
        refine lv_istore (lv' := [(4, .int (-1 : Int32)), (0, .ref y), (1, .int x1), (2, .int x2), (3, .int x3)]) hx hb dX12_game_67 hl (by decide) rfl (fun ls hl => ?_)
        refine lv_iconst (v := (0 : Int32)) hx hb dX12_game_69 (by decide) ?_
        refine lv_istore (lv' := [(5, .int (0 : Int32)), (4, .int (-1 : Int32)), (0, .ref y), (1, .int x1), (2, .int x2), (3, .int x3)]) hx hb dX12_game_70 hl (by decide) rfl (fun ls hl => ?_)
        exact L72 _ x1 x2 x3 (-1 : Int32) (0 : Int32) M _ _ _ hf hP hS (lv_sub hl [2, 3, 4, 5, 1, 0] rfl)
      · have hf := if_f c12 hf
        refine lv_iload_n hx hb dX12_game_40 rfl (lv_at hl 3 rfl) ?_
        refine lv_aload_n hx hb dX12_game_41 rfl (lv_at hl 0 rfl) ?_
        refine lv_iload hx hb dX12_game_42 (lv_at hl 4 rfl) ?_
        obtain ⟨r41, hu42, hf⟩ := bd_s hf
        refine r_goI (r_runV (As := [.int x4]) (rest := [.int x3]) hC hP hS (k_X12_laneSum hg hO hu42) cw_X12_199 q_886 q_887 q_888 (Rm.D 1 2 rfl) hO.1 rfl rfl hl.1 rfl (Nat.le_of_ble_eq_true rfl) dX12_game_44) hS (fun H locs hP hS => ?_)
        refine lv_if_le (tgt := 57) hx hb dX12_game_47 (by decide) (fun c44 => ?_) (fun c44 => ?_)
        · have hf := if_t c44 hf
          refine lv_iconst (v := (0 : Int32)) hx hb dX12_game_57 (by decide) ?_
          exact J58 _ ih x1 x2 x4 x3 (0 : Int32) M _ _ _ hf hP hS (lv_sub hl [0, 1, 2, 4] rfl)
        · have hf := if_f c44 hf
          refine lv_iconst (v := (1 : Int32)) hx hb dX12_game_50 (by decide) ?_
          refine lv_iload hx hb dX12_game_51 (lv_at hl 4 rfl) ?_
          refine lv_ishl hx hb dX12_game_53 ?_
          refine lv_goto (tgt := 58) hx hb dX12_game_54 (by decide) ?_
          exact J58 _ ih x1 x2 x4 x3 (jsl (1 : Int32) x4) M _ _ _ hf hP hS (lv_sub hl [0, 1, 2, 4] rfl)
  unfold f_X12_game at hf
  refine lv_iload_n hx hb dX12_game_0 rfl (lv_at hl 1 rfl) ?_
  refine lv_i2l hx hb dX12_game_1 rfl ?_
  refine lv_lconst (v := (1 : Int64)) hx hb dX12_game_2 (by decide) ?_
  refine lv_ldc2 (v := (6 : Int64)) hx hb hC.2.2.2.1 (hC.2.2.2.2.1 _ q_883) dX12_game_3 ?_
  obtain ⟨r1, hu2, hf⟩ := bd_s hf
  refine r_goI (r_runS (As := [.long p0.toInt64, .long (1 : Int64), .long (6 : Int64)]) (rest := []) hC hP hS (k_X12_in hg hu2) cw_X12_60 q_193 q_194 (Rm.D 0 2 rfl) rfl hl.1 rfl (Nat.le_of_ble_eq_true rfl) dX12_game_6) hS (fun H locs hP hS => ?_)
  refine lv_if_eq (tgt := 22) hx hb dX12_game_9 (by decide) (fun c4 => ?_) (fun c4 => ?_)
  · have hf := if_t c4 hf
    exact J22 M _ _ _ hf hP hS (lv_sub hl [0] rfl)
  · have hf := if_f c4 hf
    refine lv_iload_n hx hb dX12_game_12 rfl (lv_at hl 2 rfl) ?_
    refine lv_i2l hx hb dX12_game_13 rfl ?_
    refine lv_lconst (v := (0 : Int64)) hx hb dX12_game_14 (by decide) ?_
    refine lv_lconst (v := (1 : Int64)) hx hb dX12_game_15 (by decide) ?_
    obtain ⟨r8, hu9, hf⟩ := bd_s hf
    refine r_goI (r_runS (As := [.long p1.toInt64, .long (0 : Int64), .long (1 : Int64)]) (rest := []) hC hP hS (k_X12_in hg hu9) cw_X12_60 q_193 q_194 (Rm.D 0 2 rfl) rfl hl.1 rfl (Nat.le_of_ble_eq_true rfl) dX12_game_16) hS (fun H locs hP hS => ?_)
    refine lv_if_ne (tgt := 29) hx hb dX12_game_19 (by decide) (fun c11 => ?_) (fun c11 => ?_)
    · have hf := if_f c11 hf
      refine lv_iconst (v := (0 : Int32)) hx hb dX12_game_29 (by decide) ?_
      refine lv_istore_n (lv' := [(3, .int (0 : Int32)), (0, .ref y), (1, .int p0), (2, .int p1)]) hx hb dX12_game_30 rfl hl (by decide) rfl (fun ls hl => ?_)
      refine lv_iconst (v := (0 : Int32)) hx hb dX12_game_31 (by decide) ?_
      refine lv_istore (lv' := [(4, .int (0 : Int32)), (3, .int (0 : Int32)), (0, .ref y), (1, .int p0), (2, .int p1)]) hx hb dX12_game_32 hl (by decide) rfl (fun ls hl => ?_)
      exact L34 _ p0 p1 (0 : Int32) (0 : Int32) M _ _ _ hf hP hS (lv_sub hl [2, 3, 4, 1, 0] rfl)
    · have hf := if_t c11 hf
      exact J22 M _ _ _ hf hP hS (lv_sub hl [0] rfl)
