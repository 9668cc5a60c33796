set_option maxRecDepth 100000 in
set_option maxHeartbeats 4000000 in
theorem k_X12_isLane {g : Ev} {l : Launch} (hg : g.2.1.Nodup)   {M : Mm} {N : Ml} {p0 : Int32} {v : Int32} (hf : f_X12_isLane p0 M = some v) : KM g l yX12_isLane cX12_isLane 1 (some .boolean) 1 [.int p0] M N (QI g v M N) := by
  refine KM.mk hg (by decide) (Nat.le_of_ble_eq_true rfl) ?_
  intro p e s m below meth c ls hC hr hlk hl hP hS
  have hx := hC.1
  have hb := hC.2.1
  have hl : lv_has ls 1 [(0, .int p0)] := hl
  unfold f_X12_isLane at hf
  refine lv_iload_n hx hb dX12_isLane_0 rfl (lv_at hl 0 rfl) ?_
  refine lv_i2l hx hb dX12_isLane_1 rfl ?_
  refine lv_lconst (v := (0 : Int64)) hx hb dX12_isLane_2 (by decide) ?_
  refine lv_ldc2 (v := (4 : Int64)) hx hb hC.2.2.2.1 (hC.2.2.2.2.1 _ q_191) dX12_isLane_3 ?_
  obtain ⟨r1, hu2, hf⟩ := bd_s hf
  refine r_goI (r_runS (As := [.long p0.toInt64, .long (0 : Int64), .long (4 : Int64)]) (rest := []) hC hP hS (k_X12_in hg hu2) cw_X12_60 q_193 q_194 (Rm.D 0 1 rfl) rfl hl.1 rfl (Nat.le_of_ble_eq_true rfl) dX12_isLane_6) hS (fun H locs hP hS => ?_)
  obtain ⟨hn4, hf⟩ := cb_s hf
  exact e_Z hC hr hlk hn4 hP hS dX12_isLane_9 hf
set_option maxRecDepth 100000 in
set_option maxHeartbeats 4000000 in
theorem k_X12_isAwake {g : Ev} {l : Launch} (hg : g.2.1.Nodup) {y : Nat} (hO : oModel g y) {M : Mm} {N : Ml} {p0 : Int32} {v : Int32} (hf : f_X12_isAwake y p0 M = some v) : KM g l yX12_isAwake cX12_isAwake 2 (some .boolean) 1 [.ref y, .int p0] M N (QI g v M N) := by
  refine KM.mk hg (by decide) (Nat.le_of_ble_eq_true rfl) ?_
  intro p e s m below meth c ls hC hr hlk hl hP hS
  have hx := hC.1
  have hb := hC.2.1
  have hl : lv_has ls 2 [(0, .ref y), (1, .int p0)] := hl
  have J31 : ∀ (H : Heap) (locs : List Loc) (ls : Array Slot), f_X12_isAwake_J31 y M = some v → wP g M N H → va_S (wA g) s.heap H locs → lv_has ls 2 [] → W p l e (rmD 1) s m ([.ref y, .int p0] : List Value).toArray below meth c H locs 0 0 (MQ below (QI g v M N) ([.ref y, .int p0] : List Value).toArray s 0 0 (wA g)) (F0 m 31 ls []) := by
    intro H locs ls hf hP hS hl
    unfold f_X12_isAwake_J31 at hf
    refine lv_iconst (v := (1 : Int32)) hx hb dX12_isAwake_31 (by decide) ?_
    refine lv_goto (tgt := 36) hx hb dX12_isAwake_32 (by decide) ?_
    exact e_Z hC hr hlk (Or.inr rfl) hP hS dX12_isAwake_36 hf
  unfold f_X12_isAwake at hf
  refine lv_aload_n hx hb dX12_isAwake_0 rfl (lv_at hl 0 rfl) ?_
  refine r_getI hC hP hO.1 fl_X12_105 rfl dX12_isAwake_1 ?_
  refine lv_iload_n hx hb dX12_isAwake_4 rfl (lv_at hl 1 rfl) ?_
  refine lv_ishr hx hb dX12_isAwake_5 ?_
  refine lv_iconst (v := (1 : Int32)) hx hb dX12_isAwake_6 (by decide) ?_
  refine lv_iand hx hb dX12_isAwake_7 ?_
  refine lv_iconst (v := (1 : Int32)) hx hb dX12_isAwake_8 (by decide) ?_
  refine lv_icmp_ne (tgt := 35) hx hb dX12_isAwake_9 (by decide) (fun c1 => ?_) (fun c1 => ?_)
  · have hf := if_f c1 hf
    refine lv_iconst (v := (0 : Int32)) hx hb dX12_isAwake_35 (by decide) ?_
    exact e_Z hC hr hlk (Or.inl rfl) hP hS dX12_isAwake_36 hf
  · have hf := if_t c1 hf
    refine lv_aload_n hx hb dX12_isAwake_12 rfl (lv_at hl 0 rfl) ?_
    refine lv_iload_n hx hb dX12_isAwake_13 rfl (lv_at hl 1 rfl) ?_
    refine lv_iconst (v := (0 : Int32)) hx hb dX12_isAwake_14 (by decide) ?_
    obtain ⟨r2, hu3, hf⟩ := bd_s hf
    refine r_goI (r_runV (As := [.int p0, .int (0 : Int32)]) (rest := []) hC hP hS (k_X12_of hg hO hu3) cw_X12_97 q_553 q_554 q_555 (Rm.D 0 1 rfl) hO.1 rfl rfl hl.1 rfl (Nat.le_of_ble_eq_true rfl) dX12_isAwake_15) hS (fun H locs hP hS => ?_)
    refine lv_iconst (v := (4 : Int32)) hx hb dX12_isAwake_18 (by decide) ?_
    refine lv_icmp_ne (tgt := 31) hx hb dX12_isAwake_19 (by decide) (fun c5 => ?_) (fun c5 => ?_)
    · have hf := if_f c5 hf
      exact J31 _ _ _ hf hP hS (lv_sub hl [] rfl)
    · have hf := if_t c5 hf
      refine lv_aload_n hx hb dX12_isAwake_22 rfl (lv_at hl 0 rfl) ?_
      refine r_getI hC hP hO.1 fl_X12_101 rfl dX12_isAwake_23 ?_
      refine lv_iconst (v := (3 : Int32)) hx hb dX12_isAwake_26 (by decide) ?_
      obtain ⟨hz6, hf⟩ := cz_s hf
      refine lv_irem hx hb dX12_isAwake_27 hz6 ?_
      refine lv_if_eq (tgt := 35) hx hb dX12_isAwake_28 (by decide) (fun c7 => ?_) (fun c7 => ?_)
      · have hf := if_t c7 hf
        refine lv_iconst (v := (0 : Int32)) hx hb dX12_isAwake_35 (by decide) ?_
        exact e_Z hC hr hlk (Or.inl rfl) hP hS dX12_isAwake_36 hf
      · have hf := if_f c7 hf
        exact J31 _ _ _ hf hP hS (lv_sub hl [] rfl)
set_option maxRecDepth 100000 in
set_option maxHeartbeats 4000000 in
theorem k_X12_isBy {g : Ev} {l : Launch} (hg : g.2.1.Nodup) {y : Nat} (hO : oModel g y) {M : Mm} {N : Ml} {p0 : Int32} {p1 : Int32} {v : Int32} (hf : f_X12_isBy y p0 p1 M = some v) : KM g l yX12_isBy cX12_isBy 5 (some .boolean) 1 [.ref y, .int p0, .int p1] M N (QI g v M N) := by
  refine KM.mk hg (by decide) (Nat.le_of_ble_eq_true rfl) ?_
  intro p e s m below meth c ls hC hr hlk hl hP hS
  have hx := hC.1
  have hb := hC.2.1
  have hl : lv_has ls 5 [(0, .ref y), (1, .int p0), (2, .int p1)] := hl
  have J72 : ∀ (H : Heap) (locs : List Loc) (ls : Array Slot), f_X12_isBy_J72 y M = some v → wP g M N H → va_S (wA g) s.heap H locs → lv_has ls 5 [] → W p l e (rmD 1) s m ([.ref y, .int p0, .int p1] : List Value).toArray below meth c H locs 0 0 (MQ below (QI g v M N) ([.ref y, .int p0, .int p1] : List Value).toArray s 0 0 (wA g)) (F0 m 72 ls []) := by
    intro H locs ls hf hP hS hl
    unfold f_X12_isBy_J72 at hf
    refine lv_iconst (v := (1 : Int32)) hx hb dX12_isBy_72 (by decide) ?_
    refine lv_goto (tgt := 77) hx hb dX12_isBy_73 (by decide) ?_
    exact e_Z hC hr hlk (Or.inr rfl) hP hS dX12_isBy_77 hf
  have J25 : ∀ (x1 : Int32) (x2 : Int32) (s0 : Int32) (H : Heap) (locs : List Loc) (ls : Array Slot), f_X12_isBy_J25 y M x1 x2 s0 = some v → wP g M N H → va_S (wA g) s.heap H locs → lv_has ls 5 [(0, .ref y), (1, .int x1), (2, .int x2)] → W p l e (rmD 1) s m ([.ref y, .int p0, .int p1] : List Value).toArray below meth c H locs 0 0 (MQ below (QI g v M N) ([.ref y, .int p0, .int p1] : List Value).toArray s 0 0 (wA g)) (F0 m 25 ls [.int s0]) := by
    intro x1 x2 s0 H locs ls hf hP hS hl
    unfold f_X12_isBy_J25 at hf
    refine lv_istore_n (lv' := [(3, .int s0), (0, .ref y), (1, .int x1), (2, .int x2)]) hx hb dX12_isBy_25 rfl hl (by decide) rfl (fun ls hl => ?_)
    refine lv_iload_n hx hb dX12_isBy_26 rfl (lv_at hl 3 rfl) ?_
    refine lv_aload_n hx hb dX12_isBy_27 rfl (lv_at hl 1 rfl) ?_
    refine r_getR hC hP hO.1 fl_X12_33 rfl dX12_isBy_28 ?_
    refine lv_iload_n hx hb dX12_isBy_31 rfl (lv_at hl 2 rfl) ?_
    obtain ⟨hb5, hf⟩ := ck_s hf
    refine r_iald hC hP hO.2.2.2.2.2.2.2.1 hb5 dX12_isBy_32 ?_
    refine lv_isub hx hb dX12_isBy_33 ?_
    refine lv_aload_n hx hb dX12_isBy_34 rfl (lv_at hl 1 rfl) ?_
    obtain ⟨r6, hu7, hf⟩ := bd_s hf
    refine r_goI (r_runV (As := []) (rest := [.int (x2 - (M (y + 7) x1.toNatClampNeg))]) hC hP hS (k_X12_places hg hO hu7) cw_X12_64 q_200 q_201 q_202 (Rm.D 0 1 rfl) hO.1 rfl rfl hl.1 rfl (Nat.le_of_ble_eq_true rfl) dX12_isBy_35) hS (fun H locs hP hS => ?_)
    refine lv_iadd hx hb dX12_isBy_38 ?_
    refine lv_aload_n hx hb dX12_isBy_39 rfl (lv_at hl 1 rfl) ?_
    obtain ⟨r9, hu10, hf⟩ := bd_s hf
    refine r_goI (r_runV (As := []) (rest := [.int ((x2 - (M (y + 7) x1.toNatClampNeg)) + r6)]) hC hP hS (k_X12_places hg hO hu10) cw_X12_64 q_200 q_201 q_202 (Rm.D 0 1 rfl) hO.1 rfl rfl hl.1 rfl (Nat.le_of_ble_eq_true rfl) dX12_isBy_40) hS (fun H locs hP hS => ?_)
    obtain ⟨hz12, hf⟩ := cz_s hf
    refine lv_irem hx hb dX12_isBy_43 hz12 ?_
    refine lv_topi (fun z13 ez13 => ?_)
    have hf := bs ez13 hf
    refine lv_istore (lv' := [(4, .int z13), (3, .int s0), (0, .ref y), (1, .int x1), (2, .int x2)]) hx hb dX12_isBy_44 hl (by decide) rfl (fun ls hl => ?_)
    refine lv_iload hx hb dX12_isBy_46 (lv_at hl 0 rfl) ?_
    refine lv_if_eq (tgt := 72) hx hb dX12_isBy_48 (by decide) (fun c14 => ?_) (fun c14 => ?_)
    · have hf := if_t c14 hf
      exact J72 _ _ _ hf hP hS (lv_sub hl [] rfl)
    · have hf := if_f c14 hf
      refine lv_iload_n hx hb dX12_isBy_51 rfl (lv_at hl 1 rfl) ?_
      refine lv_if_eq (tgt := 76) hx hb dX12_isBy_52 (by decide) (fun c15 => ?_) (fun c15 => ?_)
      · have hf := if_t c15 hf
        refine lv_iconst (v := (0 : Int32)) hx hb dX12_isBy_76 (by decide) ?_
        exact e_Z hC hr hlk (Or.inl rfl) hP hS dX12_isBy_77 hf
      · have hf := if_f c15 hf
        refine lv_iload hx hb dX12_isBy_55 (lv_at hl 0 rfl) ?_
        refine lv_iconst (v := (1 : Int32)) hx hb dX12_isBy_57 (by decide) ?_
        refine lv_icmp_eq (tgt := 72) hx hb dX12_isBy_58 (by decide) (fun c16 => ?_) (fun c16 => ?_)
        · have hf := if_t c16 hf
          exact J72 _ _ _ hf hP hS (lv_sub hl [] rfl)
        · have hf := if_f c16 hf
          refine lv_iload hx hb dX12_isBy_61 (lv_at hl 0 rfl) ?_
          refine lv_aload_n hx hb dX12_isBy_63 rfl (lv_at hl 2 rfl) ?_
          obtain ⟨r17, hu18, hf⟩ := bd_s hf
          refine r_goI (r_runV (As := []) (rest := [.int z13]) hC hP hS (k_X12_places hg hO hu18) cw_X12_64 q_200 q_201 q_202 (Rm.D 0 1 rfl) hO.1 rfl rfl hl.1 rfl (Nat.le_of_ble_eq_true rfl) dX12_isBy_64) hS (fun H locs hP hS => ?_)
          refine lv_iconst (v := (1 : Int32)) hx hb dX12_isBy_67 (by decide) ?_
          refine lv_isub hx hb dX12_isBy_68 ?_
          refine lv_icmp_ne (tgt := 76) hx hb dX12_isBy_69 (by decide) (fun c20 => ?_) (fun c20 => ?_)
          · have hf := if_f c20 hf
            refine lv_iconst (v := (0 : Int32)) hx hb dX12_isBy_76 (by decide) ?_
            exact e_Z hC hr hlk (Or.inl rfl) hP hS dX12_isBy_77 hf
          · have hf := if_t c20 hf
            exact J72 _ _ _ hf hP hS (lv_sub hl [] rfl)
  have J20 : ∀ (x1 : Int32) (x2 : Int32) (H : Heap) (locs : List Loc) (ls : Array Slot), f_X12_isBy_J20 y M x1 x2 = some v → wP g M N H → va_S (wA g) s.heap H locs → lv_has ls 5 [(0, .ref y), (1, .int x1), (2, .int x2)] → W p l e (rmD 1) s m ([.ref y, .int p0, .int p1] : List Value).toArray below meth c H locs 0 0 (MQ below (QI g v M N) ([.ref y, .int p0, .int p1] : List Value).toArray s 0 0 (wA g)) (F0 m 20 ls []) := by
    intro x1 x2 H locs ls hf hP hS hl
    unfold f_X12_isBy_J20 at hf
    refine lv_iconst (v := (1 : Int32)) hx hb dX12_isBy_20 (by decide) ?_
    refine lv_goto (tgt := 25) hx hb dX12_isBy_21 (by decide) ?_
    exact J25 x1 x2 (1 : Int32) _ _ _ hf hP hS (lv_sub hl [0, 1, 2] rfl)
  unfold f_X12_isBy at hf
  refine lv_aload_n hx hb dX12_isBy_0 rfl (lv_at hl 0 rfl) ?_
  refine lv_iload_n hx hb dX12_isBy_1 rfl (lv_at hl 1 rfl) ?_
  refine lv_iconst (v := (0 : Int32)) hx hb dX12_isBy_2 (by decide) ?_
  obtain ⟨r1, hu2, hf⟩ := bd_s hf
  refine r_goI (r_runV (As := [.int p0, .int (0 : Int32)]) (rest := []) hC hP hS (k_X12_of hg hO hu2) cw_X12_97 q_553 q_554 q_555 (Rm.D 0 1 rfl) hO.1 rfl rfl hl.1 rfl (Nat.le_of_ble_eq_true rfl) dX12_isBy_3) hS (fun H locs hP hS => ?_)
  refine lv_iconst (v := (1 : Int32)) hx hb dX12_isBy_6 (by decide) ?_
  refine lv_icmp_eq (tgt := 20) hx hb dX12_isBy_7 (by decide) (fun c4 => ?_) (fun c4 => ?_)
  · have hf := if_t c4 hf
    exact J20 p0 p1 _ _ _ hf hP hS (lv_sub hl [0, 1, 2] rfl)
  · have hf := if_f c4 hf
    refine lv_aload_n hx hb dX12_isBy_10 rfl (lv_at hl 0 rfl) ?_
    refine lv_iload_n hx hb dX12_isBy_11 rfl (lv_at hl 1 rfl) ?_
    refine lv_iconst (v := (0 : Int32)) hx hb dX12_isBy_12 (by decide) ?_
    obtain ⟨r21, hu22, hf⟩ := bd_s hf
    refine r_goI (r_runV (As := [.int p0, .int (0 : Int32)]) (rest := []) hC hP hS (k_X12_of hg hO hu22) cw_X12_97 q_553 q_554 q_555 (Rm.D 0 1 rfl) hO.1 rfl rfl hl.1 rfl (Nat.le_of_ble_eq_true rfl) dX12_isBy_13) hS (fun H locs hP hS => ?_)
    refine lv_iconst (v := (3 : Int32)) hx hb dX12_isBy_16 (by decide) ?_
    refine lv_icmp_ne (tgt := 24) hx hb dX12_isBy_17 (by decide) (fun c24 => ?_) (fun c24 => ?_)
    · have hf := if_f c24 hf
      refine lv_iconst (v := (0 : Int32)) hx hb dX12_isBy_24 (by decide) ?_
      exact J25 p0 p1 (0 : Int32) _ _ _ hf hP hS (lv_sub hl [0, 1, 2] rfl)
    · have hf := if_t c24 hf
      exact J20 p0 p1 _ _ _ hf hP hS (lv_sub hl [0, 1, 2] rfl)
set_option maxRecDepth 100000 in
set_option maxHeartbeats 4000000 in
theorem k_X12_isBeside {g : Ev} {l : Launch} (hg : g.2.1.Nodup) {y : Nat} (hO : oModel g y) {M : Mm} {N : Ml} {p0 : Int32} {p1 : Int32} {v : Int32} (hf : f_X12_isBeside y p0 p1 M = some v) : KM g l yX12_isBeside cX12_isBeside 3 (some .boolean) 1 [.ref y, .int p0, .int p1] M N (QI g v M N) := by
  refine KM.mk hg (by decide) (Nat.le_of_ble_eq_true rfl) ?_
  intro p e s m below meth c ls hC hr hlk hl hP hS
  have hx := hC.1
  have hb := hC.2.1
  have hl : lv_has ls 3 [(0, .ref y), (1, .int p0), (2, .int p1)] := hl
  have J22 : ∀ (H : Heap) (locs : List Loc) (ls : Array Slot), f_X12_isBeside_J22 y M = some v → wP g M N H → va_S (wA g) s.heap H locs → lv_has ls 3 [] → W p l e (rmD 1) s m ([.ref y, .int p0, .int p1] : List Value).toArray below meth c H locs 0 0 (MQ below (QI g v M N) ([.ref y, .int p0, .int p1] : List Value).toArray s 0 0 (wA g)) (F0 m 22 ls []) := by
    intro H locs ls hf hP hS hl
    unfold f_X12_isBeside_J22 at hf
    refine lv_iconst (v := (1 : Int32)) hx hb dX12_isBeside_22 (by decide) ?_
    refine lv_goto (tgt := 27) hx hb dX12_isBeside_23 (by decide) ?_
    exact e_Z hC hr hlk (Or.inr rfl) hP hS dX12_isBeside_27 hf
  unfold f_X12_isBeside at hf
  refine lv_iload_n hx hb dX12_isBeside_0 rfl (lv_at hl 2 rfl) ?_
  refine lv_aload_n hx hb dX12_isBeside_1 rfl (lv_at hl 0 rfl) ?_
  refine lv_iload_n hx hb dX12_isBeside_2 rfl (lv_at hl 1 rfl) ?_
  refine lv_iconst (v := (1 : Int32)) hx hb dX12_isBeside_3 (by decide) ?_
  obtain ⟨r1, hu2, hf⟩ := bd_s hf
  refine r_goI (r_runV (As := [.int p0, .int (1 : Int32)]) (rest := [.int p1]) hC hP hS (k_X12_of hg hO hu2) cw_X12_97 q_553 q_554 q_555 (Rm.D 0 1 rfl) hO.1 rfl rfl hl.1 rfl (Nat.le_of_ble_eq_true rfl) dX12_isBeside_4) hS (fun H locs hP hS => ?_)
  refine lv_icmp_eq (tgt := 22) hx hb dX12_isBeside_7 (by decide) (fun c4 => ?_) (fun c4 => ?_)
  · have hf := if_t c4 hf
    exact J22 _ _ _ hf hP hS (lv_sub hl [] rfl)
  · have hf := if_f c4 hf
    refine lv_iload_n hx hb dX12_isBeside_10 rfl (lv_at hl 2 rfl) ?_
    refine lv_aload_n hx hb dX12_isBeside_11 rfl (lv_at hl 0 rfl) ?_
    refine lv_iload_n hx hb dX12_isBeside_12 rfl (lv_at hl 1 rfl) ?_
    refine lv_iconst (v := (1 : Int32)) hx hb dX12_isBeside_13 (by decide) ?_
    obtain ⟨r5, hu6, hf⟩ := bd_s hf
    refine r_goI (r_runV (As := [.int p0, .int (1 : Int32)]) (rest := [.int p1]) hC hP hS (k_X12_of hg hO hu6) cw_X12_97 q_553 q_554 q_555 (Rm.D 0 1 rfl) hO.1 rfl rfl hl.1 rfl (Nat.le_of_ble_eq_true rfl) dX12_isBeside_14) hS (fun H locs hP hS => ?_)
    refine lv_iconst (v := (1 : Int32)) hx hb dX12_isBeside_17 (by decide) ?_
    refine lv_isub hx hb dX12_isBeside_18 ?_
    refine lv_icmp_ne (tgt := 26) hx hb dX12_isBeside_19 (by decide) (fun c8 => ?_) (fun c8 => ?_)
    · have hf := if_f c8 hf
      refine lv_iconst (v := (0 : Int32)) hx hb dX12_isBeside_26 (by decide) ?_
      exact e_Z hC hr hlk (Or.inl rfl) hP hS dX12_isBeside_27 hf
    · have hf := if_t c8 hf
      exact J22 _ _ _ hf hP hS (lv_sub hl [] rfl)
set_option maxRecDepth 100000 in
set_option maxHeartbeats 4000000 in
theorem k_X12_movedTo {g : Ev} {l : Launch} (hg : g.2.1.Nodup) {y : Nat} (hO : oModel g y) {M : Mm} {N : Ml} {p0 : Int32} {p1 : Int32} {v : Int32} (hf : f_X12_movedTo y p0 p1 M = some v) : KM g l yX12_movedTo cX12_movedTo 6 (some .int) 1 [.ref y, .int p0, .int p1] M N (QI g v M N) := by
  refine KM.mk hg (by decide) (Nat.le_of_ble_eq_true rfl) ?_
  intro p e s m below meth c ls hC hr hlk hl hP hS
  have hx := hC.1
  have hb := hC.2.1
  have hl : lv_has ls 6 [(0, .ref y), (1, .int p0), (2, .int p1)] := hl
  have J48 : ∀ (x2 : Int32) (x4 : Int32) (s0 : Int32) (s1 : Int32) (H : Heap) (locs : List Loc) (ls : Array Slot), f_X12_movedTo_J48 y M x2 x4 s0 s1 = some v → wP g M N H → va_S (wA g) s.heap H locs → lv_has ls 6 [(2, .int x2), (4, .int x4)] → W p l e (rmD 1) s m ([.ref y, .int p0, .int p1] : List Value).toArray below meth c H locs 0 0 (MQ below (QI g v M N) ([.ref y, .int p0, .int p1] : List Value).toArray s 0 0 (wA g)) (F0 m 48 ls [.int s1, .int s0]) := by
    intro x2 x4 s0 s1 H locs ls hf hP hS hl
    unfold f_X12_movedTo_J48 at hf
    refine lv_icmp_ne (tgt := 58) hx hb dX12_movedTo_48 (by decide) (fun c10 => ?_) (fun c10 => ?_)
    · have hf := if_f c10 hf
      refine lv_iload_n hx hb dX12_movedTo_58 rfl (lv_at hl 0 rfl) ?_
      refine lv_iload hx hb dX12_movedTo_59 (lv_at hl 1 rfl) ?_
      refine lv_isub hx hb dX12_movedTo_61 ?_
      exact e_I hC hr hlk hP hS dX12_movedTo_62 hf
    · have hf := if_t c10 hf
      refine lv_iload_n hx hb dX12_movedTo_51 rfl (lv_at hl 0 rfl) ?_
      refine lv_iload hx hb dX12_movedTo_52 (lv_at hl 1 rfl) ?_
      refine lv_iadd hx hb dX12_movedTo_54 ?_
      refine lv_goto (tgt := 62) hx hb dX12_movedTo_55 (by decide) ?_
      exact e_I hC hr hlk hP hS dX12_movedTo_62 hf
  have J34 : ∀ (x2 : Int32) (x3 : Int32) (x4 : Int32) (s0 : Int32) (H : Heap) (locs : List Loc) (ls : Array Slot), f_X12_movedTo_J34 y M x2 x3 x4 s0 = some v → wP g M N H → va_S (wA g) s.heap H locs → lv_has ls 6 [(2, .int x2), (3, .int x3), (4, .int x4)] → W p l e (rmD 1) s m ([.ref y, .int p0, .int p1] : List Value).toArray below meth c H locs 0 0 (MQ below (QI g v M N) ([.ref y, .int p0, .int p1] : List Value).toArray s 0 0 (wA g)) (F0 m 34 ls [.int s0]) := by
    intro x2 x3 x4 s0 H locs ls hf hP hS hl
    unfold f_X12_movedTo_J34 at hf
    refine lv_istore (lv' := [(5, .int s0), (2, .int x2), (3, .int x3), (4, .int x4)]) hx hb dX12_movedTo_34 hl (by decide) rfl (fun ls hl => ?_)
    refine lv_iload hx hb dX12_movedTo_36 (lv_at hl 0 rfl) ?_
    refine lv_iload_n hx hb dX12_movedTo_38 rfl (lv_at hl 2 rfl) ?_
    refine lv_iconst (v := (2 : Int32)) hx hb dX12_movedTo_39 (by decide) ?_
    refine lv_icmp_eq (tgt := 47) hx hb dX12_movedTo_40 (by decide) (fun c9 => ?_) (fun c9 => ?_)
    · have hf := if_t c9 hf
      refine lv_iconst (v := (0 : Int32)) hx hb dX12_movedTo_47 (by decide) ?_
      exact J48 x2 x4 s0 (0 : Int32) _ _ _ hf hP hS (lv_sub hl [1, 3] rfl)
    · have hf := if_f c9 hf
      refine lv_iconst (v := (1 : Int32)) hx hb dX12_movedTo_43 (by decide) ?_
      refine lv_goto (tgt := 48) hx hb dX12_movedTo_44 (by decide) ?_
      exact J48 x2 x4 s0 (1 : Int32) _ _ _ hf hP hS (lv_sub hl [1, 3] rfl)
  have J17 : ∀ (x1 : Int32) (x2 : Int32) (x3 : Int32) (s0 : Int32) (H : Heap) (locs : List Loc) (ls : Array Slot), f_X12_movedTo_J17 y M x1 x2 x3 s0 = some v → wP g M N H → va_S (wA g) s.heap H locs → lv_has ls 6 [(0, .ref y), (1, .int x1), (2, .int x2), (3, .int x3)] → W p l e (rmD 1) s m ([.ref y, .int p0, .int p1] : List Value).toArray below meth c H locs 0 0 (MQ below (QI g v M N) ([.ref y, .int p0, .int p1] : List Value).toArray s 0 0 (wA g)) (F0 m 17 ls [.int s0]) := by
    intro x1 x2 x3 s0 H locs ls hf hP hS hl
    unfold f_X12_movedTo_J17 at hf
    refine lv_istore (lv' := [(4, .int s0), (0, .ref y), (1, .int x1), (2, .int x2), (3, .int x3)]) hx hb dX12_movedTo_17 hl (by decide) rfl (fun ls hl => ?_)
    refine lv_iload_n hx hb dX12_movedTo_19 rfl (lv_at hl 3 rfl) ?_
    refine lv_aload_n hx hb dX12_movedTo_20 rfl (lv_at hl 1 rfl) ?_
    refine lv_iload_n hx hb dX12_movedTo_21 rfl (lv_at hl 2 rfl) ?_
    refine lv_iconst (v := (1 : Int32)) hx hb dX12_movedTo_22 (by decide) ?_
    obtain ⟨r5, hu6, hf⟩ := bd_s hf
    refine r_goI (r_runV (As := [.int x1, .int (1 : Int32)]) (rest := [.int x2]) hC hP hS (k_X12_of hg hO hu6) cw_X12_97 q_553 q_554 q_555 (Rm.D 0 1 rfl) hO.1 rfl rfl hl.1 rfl (Nat.le_of_ble_eq_true rfl) dX12_movedTo_23) hS (fun H locs hP hS => ?_)
    refine lv_icmp_ne (tgt := 33) hx hb dX12_movedTo_26 (by decide) (fun c8 => ?_) (fun c8 => ?_)
    · have hf := if_f c8 hf
      refine lv_iconst (v := (0 : Int32)) hx hb dX12_movedTo_33 (by decide) ?_
      exact J34 x2 x3 s0 (0 : Int32) _ _ _ hf hP hS (lv_sub hl [3, 4, 0] rfl)
    · have hf := if_t c8 hf
      refine lv_iconst (v := (1 : Int32)) hx hb dX12_movedTo_29 (by decide) ?_
      refine lv_goto (tgt := 34) hx hb dX12_movedTo_30 (by decide) ?_
      exact J34 x2 x3 s0 (1 : Int32) _ _ _ hf hP hS (lv_sub hl [3, 4, 0] rfl)
  unfold f_X12_movedTo at hf
  refine lv_aload_n hx hb dX12_movedTo_0 rfl (lv_at hl 0 rfl) ?_
  refine lv_iload_n hx hb dX12_movedTo_1 rfl (lv_at hl 1 rfl) ?_
  refine lv_iconst (v := (0 : Int32)) hx hb dX12_movedTo_2 (by decide) ?_
  obtain ⟨r1, hu2, hf⟩ := bd_s hf
  refine r_goI (r_runV (As := [.int p0, .int (0 : Int32)]) (rest := []) hC hP hS (k_X12_of hg hO hu2) cw_X12_97 q_553 q_554 q_555 (Rm.D 0 1 rfl) hO.1 rfl rfl hl.1 rfl (Nat.le_of_ble_eq_true rfl) dX12_movedTo_3) hS (fun H locs hP hS => ?_)
  refine lv_istore_n (lv' := [(3, .int r1), (0, .ref y), (1, .int p0), (2, .int p1)]) hx hb dX12_movedTo_6 rfl hl (by decide) rfl (fun ls hl => ?_)
  refine lv_iload_n hx hb dX12_movedTo_7 rfl (lv_at hl 0 rfl) ?_
  refine lv_iconst (v := (3 : Int32)) hx hb dX12_movedTo_8 (by decide) ?_
  refine lv_icmp_ne (tgt := 16) hx hb dX12_movedTo_9 (by decide) (fun c4 => ?_) (fun c4 => ?_)
  · have hf := if_f c4 hf
    refine lv_iconst (v := (1 : Int32)) hx hb dX12_movedTo_16 (by decide) ?_
    exact J17 p0 p1 r1 (1 : Int32) _ _ _ hf hP hS (lv_sub hl [1, 2, 3, 0] rfl)
  · have hf := if_t c4 hf
    refine lv_iconst (v := (2 : Int32)) hx hb dX12_movedTo_12 (by decide) ?_
    refine lv_goto (tgt := 17) hx hb dX12_movedTo_13 (by decide) ?_
    exact J17 p0 p1 r1 (2 : Int32) _ _ _ hf hP hS (lv_sub hl [1, 2, 3, 0] rfl)
set_option maxRecDepth 100000 in
set_option maxHeartbeats 4000000 in
theorem k_X12_goOne {g : Ev} {l : Launch} (hg : g.2.1.Nodup) {y : Nat} (hO : oModel g y) {M : Mm} {N : Ml}  {MR : Mm} (hf : f_X12_goOne y M = some MR) : KM g l yX12_goOne cX12_goOne 2 none 2 [.ref y] M N (QV g MR N) := by
  refine KM.mk hg (by decide) (Nat.le_of_ble_eq_true rfl) ?_
  intro p e s m below meth c ls hC hr hlk hl hP hS
  have hx := hC.1
  have hb := hC.2.1
  have hl : lv_has ls 2 [(0, .ref y)] := hl
  have J104 : ∀ (kb31 : Int32 → Mm → Option (Mm)) (hkb31 : ∀ (x1 : Int32) (M : Mm) (H : Heap) (locs : List Loc) (ls : Array Slot), kb31 x1 M = some MR → wP g M N H → va_S (wA g) s.heap H locs → lv_has ls 2 [(0, .ref y), (1, .int x1)] → W p l e (rmD 2) s m ([.ref y] : List Value).toArray below meth c H locs 0 0 (MQ below (QV g MR N) ([.ref y] : List Value).toArray s 0 0 (wA g)) (F0 m 31 ls [])) (x1 : Int32) (M : Mm) (H : Heap) (locs : List Loc) (ls : Array Slot), f_X12_goOne_J104 y x1 M kb31 = some MR → wP g M N H → va_S (wA g) s.heap H locs → lv_has ls 2 [(0, .ref y), (1, .int x1)] → W p l e (rmD 2) s m ([.ref y] : List Value).toArray below meth c H locs 0 0 (MQ below (QV g MR N) ([.ref y] : List Value).toArray s 0 0 (wA g)) (F0 m 104 ls []) := by
    intro kb31 hkb31 x1 M H locs ls hf hP hS hl
    unfold f_X12_goOne_J104 at hf
    obtain ⟨z22, ez22, hf⟩ := bsJ hf
    refine lv_iinc (v := z22) (lv' := [(1, .int z22), (0, .ref y)]) hx hb dX12_goOne_104 hl (k := 1) rfl (by rw [ez22]; rfl) (by decide) rfl (fun ls hl => ?_)
    refine lv_goto (tgt := 31) hx hb dX12_goOne_107 (by decide) ?_
    exact hkb31 z22 M _ _ _ hf hP hS (lv_sub hl [1, 0] rfl)
  have L31 : ∀ (n : Nat) (x1 : Int32) (M : Mm) (H : Heap) (locs : List Loc) (ls : Array Slot), f_X12_goOne_L31 y n x1 M = some MR → wP g M N H → va_S (wA g) s.heap H locs → lv_has ls 2 [(0, .ref y), (1, .int x1)] → W p l e (rmD 2) s m ([.ref y] : List Value).toArray below meth c H locs 0 0 (MQ below (QV g MR N) ([.ref y] : List Value).toArray s 0 0 (wA g)) (F0 m 31 ls []) := by
    intro n
    induction n with
    | zero =>
      intro x1 M H locs ls hf
      exact absurd hf (by simp [f_X12_goOne_L31])
    | succ n ih =>
      intro x1 M H locs ls hf hP hS hl
      unfold f_X12_goOne_L31 at hf
      refine lv_iload_n hx hb dX12_goOne_31 rfl (lv_at hl 1 rfl) ?_
      refine lv_aload_n hx hb dX12_goOne_32 rfl (lv_at hl 0 rfl) ?_
      obtain ⟨r10, hu11, hf⟩ := bd_s hf
      refine r_goI (r_runV (As := []) (rest := [.int x1]) hC hP hS (k_X12_moons hg hO hu11) cw_X12_68 q_263 q_264 q_265 (Rm.D 0 2 rfl) hO.1 rfl rfl hl.1 rfl (Nat.le_of_ble_eq_true rfl) dX12_goOne_33) hS (fun H locs hP hS => ?_)
      refine lv_icmp_ge (tgt := 110) hx hb dX12_goOne_36 (by decide) (fun c13 => ?_) (fun c13 => ?_)
      · have hf := if_t c13 hf
        exact e_VM hC hr hlk hP hS dX12_goOne_110 hf
      · have hf := if_f c13 hf
        refine lv_aload_n hx hb dX12_goOne_39 rfl (lv_at hl 0 rfl) ?_
        refine r_getI hC hP hO.1 fl_X12_152 rfl dX12_goOne_40 ?_
        obtain ⟨r14, hu15, hf⟩ := bd_s hf
        refine r_goI (r_runS (As := [.int (M y 11)]) (rest := []) hC hP hS (k_X12_isLane hg hu15) cw_X12_77 q_217 q_218 (Rm.D 1 2 rfl) rfl hl.1 rfl (Nat.le_of_ble_eq_true rfl) dX12_goOne_43) hS (fun H locs hP hS => ?_)
        refine lv_if_eq (tgt := 110) hx hb dX12_goOne_46 (by decide) (fun c17 => ?_) (fun c17 => ?_)
        · have hf := if_t c17 hf
          exact e_VM hC hr hlk hP hS dX12_goOne_110 hf
        · have hf := if_f c17 hf
          refine lv_aload_n hx hb dX12_goOne_49 rfl (lv_at hl 0 rfl) ?_
          refine lv_iload_n hx hb dX12_goOne_50 rfl (lv_at hl 1 rfl) ?_
          obtain ⟨r18, hu19, hf⟩ := bd_s hf
          refine r_goI (r_runV (As := [.int x1]) (rest := []) hC hP hS (k_X12_isAwake hg hO hu19) cw_X12_121 q_565 q_566 q_567 (Rm.D 1 2 rfl) hO.1 rfl rfl hl.1 rfl (Nat.le_of_ble_eq_true rfl) dX12_goOne_51) hS (fun H locs hP hS => ?_)
          refine lv_if_eq (tgt := 104) hx hb dX12_goOne_54 (by decide) (fun c21 => ?_) (fun c21 => ?_)
          · have hf := if_t c21 hf
            exact J104 _ ih x1 M _ _ _ hf hP hS (lv_sub hl [0, 1] rfl)
          · have hf := if_f c21 hf
            refine lv_aload_n hx hb dX12_goOne_57 rfl (lv_at hl 0 rfl) ?_
            refine lv_iload_n hx hb dX12_goOne_58 rfl (lv_at hl 1 rfl) ?_
            refine lv_aload_n hx hb dX12_goOne_59 rfl (lv_at hl 0 rfl) ?_
            refine r_getI hC hP hO.1 fl_X12_149 rfl dX12_goOne_60 ?_
            obtain ⟨r23, hu24, hf⟩ := bd_s hf
            refine r_goI (r_runV (As := [.int x1, .int (M y 12)]) (rest := []) hC hP hS (k_X12_isBy hg hO hu24) cw_X12_108 q_573 q_574 q_575 (Rm.D 1 2 rfl) hO.1 rfl rfl hl.1 rfl (Nat.le_of_ble_eq_true rfl) dX12_goOne_63) hS (fun H locs hP hS => ?_)
            refine lv_if_eq (tgt := 104) hx hb dX12_goOne_66 (by decide) (fun c26 => ?_) (fun c26 => ?_)
            · have hf := if_t c26 hf
              exact J104 _ ih x1 M _ _ _ hf hP hS (lv_sub hl [0, 1] rfl)
            · have hf := if_f c26 hf
              refine lv_aload_n hx hb dX12_goOne_69 rfl (lv_at hl 0 rfl) ?_
              refine lv_iload_n hx hb dX12_goOne_70 rfl (lv_at hl 1 rfl) ?_
              refine lv_aload_n hx hb dX12_goOne_71 rfl (lv_at hl 0 rfl) ?_
              refine r_getI hC hP hO.1 fl_X12_152 rfl dX12_goOne_72 ?_
              obtain ⟨r27, hu28, hf⟩ := bd_s hf
              refine r_goI (r_runV (As := [.int x1, .int (M y 11)]) (rest := []) hC hP hS (k_X12_isBeside hg hO hu28) cw_X12_112 q_577 q_578 q_579 (Rm.D 1 2 rfl) hO.1 rfl rfl hl.1 rfl (Nat.le_of_ble_eq_true rfl) dX12_goOne_75) hS (fun H locs hP hS => ?_)
              refine lv_if_eq (tgt := 104) hx hb dX12_goOne_78 (by decide) (fun c30 => ?_) (fun c30 => ?_)
              · have hf := if_t c30 hf
                exact J104 _ ih x1 M _ _ _ hf hP hS (lv_sub hl [0, 1] rfl)
              · have hf := if_f c30 hf
                refine lv_aload_n hx hb dX12_goOne_81 rfl (lv_at hl 0 rfl) ?_
                refine lv_aload_n hx hb dX12_goOne_82 rfl (lv_at hl 0 rfl) ?_
                refine lv_iload_n hx hb dX12_goOne_83 rfl (lv_at hl 1 rfl) ?_
                refine lv_aload_n hx hb dX12_goOne_84 rfl (lv_at hl 0 rfl) ?_
                refine r_getI hC hP hO.1 fl_X12_152 rfl dX12_goOne_85 ?_
                obtain ⟨r31, hu32, hf⟩ := bd_s hf
                refine r_goI (r_runV (As := [.int x1, .int (M y 11)]) (rest := [.ref y]) hC hP hS (k_X12_movedTo hg hO hu32) cw_X12_115 q_581 q_582 q_583 (Rm.D 1 2 rfl) hO.1 rfl rfl hl.1 rfl (Nat.le_of_ble_eq_true rfl) dX12_goOne_88) hS (fun H locs hP hS => ?_)
                refine r_putI hC hP hS hO.1 fl_X12_152 tyX12 tyX12_ok nmX12 rfl rfl rfl dX12_goOne_91 (fun H locs hP hS => ?_)
                obtain ⟨M34, eM34, hf, hP⟩ := bsM hf hP
                refine lv_aload_n hx hb dX12_goOne_94 rfl (lv_at hl 0 rfl) ?_
                refine lv_dup hx hb dX12_goOne_95 rfl ?_
                refine r_getI hC hP hO.1 fl_X12_155 rfl dX12_goOne_96 ?_
                refine lv_iconst (v := (1 : Int32)) hx hb dX12_goOne_99 (by decide) ?_
                refine lv_iadd hx hb dX12_goOne_100 ?_
                refine r_putI hC hP hS hO.1 fl_X12_155 tyX12 tyX12_ok nmX12 rfl rfl rfl dX12_goOne_101 (fun H locs hP hS => ?_)
                obtain ⟨M35, eM35, hf, hP⟩ := bsM hf hP
                exact J104 _ ih x1 M35 _ _ _ hf hP hS (lv_sub hl [0, 1] rfl)
  unfold f_X12_goOne at hf
  refine lv_aload_n hx hb dX12_goOne_0 rfl (lv_at hl 0 rfl) ?_
  refine lv_aload_n hx hb dX12_goOne_1 rfl (lv_at hl 0 rfl) ?_
  refine r_getI hC hP hO.1 fl_X12_149 rfl dX12_goOne_2 ?_
  refine lv_aload_n hx hb dX12_goOne_5 rfl (lv_at hl 0 rfl) ?_
  refine r_getR hC hP hO.1 fl_X12_7 rfl dX12_goOne_6 ?_
  refine lv_iconst (v := (1 : Int32)) hx hb dX12_goOne_9 (by decide) ?_
  refine lv_aload_n hx hb dX12_goOne_10 rfl (lv_at hl 0 rfl) ?_
  refine r_getI hC hP hO.1 fl_X12_152 rfl dX12_goOne_11 ?_
  refine lv_iadd hx hb dX12_goOne_14 ?_
  obtain ⟨hb1, hf⟩ := ck_s hf
  refine r_iald hC hP hO.2.1 hb1 dX12_goOne_15 ?_
  refine lv_iadd hx hb dX12_goOne_16 ?_
  refine lv_aload_n hx hb dX12_goOne_17 rfl (lv_at hl 0 rfl) ?_
  obtain ⟨r2, hu3, hf⟩ := bd_s hf
  refine r_goI (r_runV (As := []) (rest := [.int ((M y 12) + (M (y + 1) ((1 : Int32) + (M y 11)).toNatClampNeg)), .ref y]) hC hP hS (k_X12_places hg hO hu3) cw_X12_64 q_200 q_201 q_202 (Rm.D 0 2 rfl) hO.1 rfl rfl hl.1 rfl (Nat.le_of_ble_eq_true rfl) dX12_goOne_18) hS (fun H locs hP hS => ?_)
  obtain ⟨hz5, hf⟩ := cz_s hf
  refine lv_irem hx hb dX12_goOne_21 hz5 ?_
  refine r_putI hC hP hS hO.1 fl_X12_149 tyX12 tyX12_ok nmX12 rfl rfl rfl dX12_goOne_22 (fun H locs hP hS => ?_)
  obtain ⟨M6, eM6, hf, hP⟩ := bsM hf hP
  refine lv_aload_n hx hb dX12_goOne_25 rfl (lv_at hl 0 rfl) ?_
  obtain ⟨M9, hu8, hf⟩ := bd_s hf
  refine r_goV (r_runV (As := []) (rest := []) hC hP hS (k_X12_goMoons hg hO hu8) cw_X12_118 q_561 q_562 q_563 (Rm.D 1 2 rfl) hO.1 rfl rfl hl.1 rfl (Nat.le_of_ble_eq_true rfl) dX12_goOne_26) hS (fun H locs hP hS => ?_)
  refine lv_iconst (v := (0 : Int32)) hx hb dX12_goOne_29 (by decide) ?_
  refine lv_istore_n (lv' := [(1, .int (0 : Int32)), (0, .ref y)]) hx hb dX12_goOne_30 rfl hl (by decide) rfl (fun ls hl => ?_)
  exact L31 _ (0 : Int32) M9 _ _ _ hf hP hS (lv_sub hl [1, 0] rfl)
set_option maxRecDepth 100000 in
set_option maxHeartbeats 4000000 in
theorem k_X12_behind {g : Ev} {l : Launch} (hg : g.2.1.Nodup) {y : Nat} (hO : oModel g y) {M : Mm} {N : Ml} {p0 : Int32} {p1 : Int32} {p2 : Int32} {v : Int32} {MR : Mm} (hf : f_X12_behind y p0 p1 p2 M = some (v, MR)) : KM g l yX12_behind cX12_behind 5 (some .int) 3 [.ref y, .int p0, .int p1, .int p2] M N (QI g v MR N) := by
  refine KM.mk hg (by decide) (Nat.le_of_ble_eq_true rfl) ?_
  intro p e s m below meth c ls hC hr hlk hl hP hS
  have hx := hC.1
  have hb := hC.2.1
  have hl : lv_has ls 5 [(0, .ref y), (1, .int p0), (2, .int p1), (3, .int p2)] := hl
  have L3 : ∀ (n : Nat) (x1 : Int32) (x2 : Int32) (x3 : Int32) (x4 : Int32) (M : Mm) (H : Heap) (locs : List Loc) (ls : Array Slot), f_X12_behind_L3 y n x1 x2 x3 x4 M = some (v, MR) → wP g M N H → va_S (wA g) s.heap H locs → lv_has ls 5 [(0, .ref y), (1, .int x1), (2, .int x2), (3, .int x3), (4, .int x4)] → W p l e (rmD 3) s m ([.ref y, .int p0, .int p1, .int p2] : List Value).toArray below meth c H locs 0 0 (MQ below (QI g v MR N) ([.ref y, .int p0, .int p1, .int p2] : List Value).toArray s 0 0 (wA g)) (F0 m 3 ls []) := by
    intro n
    induction n with
    | zero =>
      intro x1 x2 x3 x4 M H locs ls hf
      exact absurd hf (by simp [f_X12_behind_L3])
    | succ n ih =>
      intro x1 x2 x3 x4 M H locs ls hf hP hS hl
      unfold f_X12_behind_L3 at hf
      refine lv_iload hx hb dX12_behind_3 (lv_at hl 4 rfl) ?_
      refine lv_aload_n hx hb dX12_behind_5 rfl (lv_at hl 0 rfl) ?_
      obtain ⟨r1, hu2, hf⟩ := bd_s hf
      refine r_goI (r_runV (As := []) (rest := [.int x4]) hC hP hS (k_X12_moons hg hO hu2) cw_X12_68 q_263 q_264 q_265 (Rm.D 0 3 rfl) hO.1 rfl rfl hl.1 rfl (Nat.le_of_ble_eq_true rfl) dX12_behind_6) hS (fun H locs hP hS => ?_)
      refine lv_icmp_ge (tgt := 47) hx hb dX12_behind_9 (by decide) (fun c4 => ?_) (fun c4 => ?_)
      · have hf := if_t c4 hf
        refine lv_aload_n hx hb dX12_behind_47 rfl (lv_at hl 0 rfl) ?_
        refine lv_aload_n hx hb dX12_behind_48 rfl (lv_at hl 0 rfl) ?_
        refine r_getR hC hP hO.1 fl_X12_7 rfl dX12_behind_49 ?_
        refine lv_sipush (v := (148 : Int32)) hx hb dX12_behind_52 (by decide) ?_
        obtain ⟨hb5, hf⟩ := ck_s hf
        refine r_iald hC hP hO.2.1 hb5 dX12_behind_55 ?_
        refine lv_iload_n hx hb dX12_behind_56 rfl (lv_at hl 1 rfl) ?_
        refine lv_iadd hx hb dX12_behind_57 ?_
        refine r_putI hC hP hS hO.1 fl_X12_101 tyX12 tyX12_ok nmX12 rfl rfl rfl dX12_behind_58 (fun H locs hP hS => ?_)
        obtain ⟨M6, eM6, hf, hP⟩ := bsM hf hP
        refine lv_aload_n hx hb dX12_behind_61 rfl (lv_at hl 0 rfl) ?_
        refine lv_iload_n hx hb dX12_behind_62 rfl (lv_at hl 2 rfl) ?_
        refine r_putI hC hP hS hO.1 fl_X12_152 tyX12 tyX12_ok nmX12 rfl rfl rfl dX12_behind_63 (fun H locs hP hS => ?_)
        obtain ⟨M7, eM7, hf, hP⟩ := bsM hf hP
        refine lv_aload_n hx hb dX12_behind_66 rfl (lv_at hl 0 rfl) ?_
        refine lv_iload_n hx hb dX12_behind_67 rfl (lv_at hl 3 rfl) ?_
        refine r_putI hC hP hS hO.1 fl_X12_149 tyX12 tyX12_ok nmX12 rfl rfl rfl dX12_behind_68 (fun H locs hP hS => ?_)
        obtain ⟨M8, eM8, hf, hP⟩ := bsM hf hP
        refine lv_aload_n hx hb dX12_behind_71 rfl (lv_at hl 0 rfl) ?_
        obtain ⟨M11, hu10, hf⟩ := bd_s hf
        refine r_goV (r_runV (As := []) (rest := []) hC hP hS (k_X12_goOne hg hO hu10) cw_X12_158 q_694 q_695 q_696 (Rm.D 2 3 rfl) hO.1 rfl rfl hl.1 rfl (Nat.le_of_ble_eq_true rfl) dX12_behind_72) hS (fun H locs hP hS => ?_)
        refine lv_aload_n hx hb dX12_behind_75 rfl (lv_at hl 0 rfl) ?_
        refine r_getI hC hP hO.1 fl_X12_152 rfl dX12_behind_76 ?_
        obtain ⟨r12, hu13, hf⟩ := bd_s hf
        refine r_goI (r_runS (As := [.int (M11 y 11)]) (rest := []) hC hP hS (k_X12_isLane hg hu13) cw_X12_77 q_217 q_218 (Rm.D 1 3 rfl) rfl hl.1 rfl (Nat.le_of_ble_eq_true rfl) dX12_behind_79) hS (fun H locs hP hS => ?_)
        refine lv_if_eq (tgt := 100) hx hb dX12_behind_82 (by decide) (fun c15 => ?_) (fun c15 => ?_)
        · have hf := if_t c15 hf
          refine lv_iconst (v := (-1 : Int32)) hx hb dX12_behind_100 (by decide) ?_
          exact e_IM hC hr hlk hP hS dX12_behind_101 hf
        · have hf := if_f c15 hf
          refine lv_bipush (v := (24 : Int32)) hx hb dX12_behind_85 (by decide) ?_
          refine lv_aload_n hx hb dX12_behind_87 rfl (lv_at hl 0 rfl) ?_
          refine r_getI hC hP hO.1 fl_X12_152 rfl dX12_behind_88 ?_
          refine lv_imul hx hb dX12_behind_91 ?_
          refine lv_aload_n hx hb dX12_behind_92 rfl (lv_at hl 0 rfl) ?_
          refine r_getI hC hP hO.1 fl_X12_149 rfl dX12_behind_93 ?_
          refine lv_iadd hx hb dX12_behind_96 ?_
          refine lv_goto (tgt := 101) hx hb dX12_behind_97 (by decide) ?_
          exact e_IM hC hr hlk hP hS dX12_behind_101 hf
      · have hf := if_f c4 hf
        refine lv_aload_n hx hb dX12_behind_12 rfl (lv_at hl 0 rfl) ?_
        refine r_getR hC hP hO.1 fl_X12_33 rfl dX12_behind_13 ?_
        refine lv_iload hx hb dX12_behind_16 (lv_at hl 4 rfl) ?_
        refine lv_aload_n hx hb dX12_behind_18 rfl (lv_at hl 0 rfl) ?_
        refine lv_iload hx hb dX12_behind_19 (lv_at hl 4 rfl) ?_
        refine lv_iconst (v := (2 : Int32)) hx hb dX12_behind_21 (by decide) ?_
        obtain ⟨r16, hu17, hf⟩ := bd_s hf
        refine r_goI (r_runV (As := [.int x4, .int (2 : Int32)]) (rest := [.int x4, .ref (y + 7)]) hC hP hS (k_X12_of hg hO hu17) cw_X12_97 q_553 q_554 q_555 (Rm.D 0 3 rfl) hO.1 rfl rfl hl.1 rfl (Nat.le_of_ble_eq_true rfl) dX12_behind_22) hS (fun H locs hP hS => ?_)
        refine lv_iload_n hx hb dX12_behind_25 rfl (lv_at hl 1 rfl) ?_
        refine lv_aload_n hx hb dX12_behind_26 rfl (lv_at hl 0 rfl) ?_
        refine lv_iload hx hb dX12_behind_27 (lv_at hl 4 rfl) ?_
        refine lv_iconst (v := (3 : Int32)) hx hb dX12_behind_29 (by decide) ?_
        obtain ⟨r19, hu20, hf⟩ := bd_s hf
        refine r_goI (r_runV (As := [.int x4, .int (3 : Int32)]) (rest := [.int x1, .int r16, .int x4, .ref (y + 7)]) hC hP hS (k_X12_of hg hO hu20) cw_X12_97 q_553 q_554 q_555 (Rm.D 0 3 rfl) hO.1 rfl rfl hl.1 rfl (Nat.le_of_ble_eq_true rfl) dX12_behind_30) hS (fun H locs hP hS => ?_)
        refine lv_imul hx hb dX12_behind_33 ?_
        refine lv_iadd hx hb dX12_behind_34 ?_
        refine lv_aload_n hx hb dX12_behind_35 rfl (lv_at hl 0 rfl) ?_
        obtain ⟨r22, hu23, hf⟩ := bd_s hf
        refine r_goI (r_runV (As := []) (rest := [.int (r16 + (x1 * r19)), .int x4, .ref (y + 7)]) hC hP hS (k_X12_places hg hO hu23) cw_X12_64 q_200 q_201 q_202 (Rm.D 0 3 rfl) hO.1 rfl rfl hl.1 rfl (Nat.le_of_ble_eq_true rfl) dX12_behind_36) hS (fun H locs hP hS => ?_)
        obtain ⟨hz25, hf⟩ := cz_s hf
        refine lv_irem hx hb dX12_behind_39 hz25 ?_
        obtain ⟨hb26, hf⟩ := ck_s hf
        refine r_iast hC hP hS hO.2.2.2.2.2.2.2.1 hb26 dX12_behind_40 (fun H locs hP hS => ?_)
        obtain ⟨M27, eM27, hf, hP⟩ := bsM hf hP
        obtain ⟨z28, ez28, hf⟩ := bsJ hf
        refine lv_iinc (v := z28) (lv' := [(4, .int z28), (0, .ref y), (1, .int x1), (2, .int x2), (3, .int x3)]) hx hb dX12_behind_41 hl (k := 4) rfl (by rw [ez28]; rfl) (by decide) rfl (fun ls hl => ?_)
        refine lv_goto (tgt := 3) hx hb dX12_behind_44 (by decide) ?_
        exact ih x1 x2 x3 z28 M27 _ _ _ hf hP hS (lv_sub hl [1, 2, 3, 4, 0] rfl)
  unfold f_X12_behind at hf
  refine lv_iconst (v := (0 : Int32)) hx hb dX12_behind_0 (by decide) ?_
  refine lv_istore (lv' := [(4, .int (0 : Int32)), (0, .ref y), (1, .int p0), (2, .int p1), (3, .int p2)]) hx hb dX12_behind_1 hl (by decide) rfl (fun ls hl => ?_)
  exact L3 _ p0 p1 p2 (0 : Int32) M _ _ _ hf hP hS (lv_sub hl [1, 2, 3, 4, 0] rfl)
set_option maxRecDepth 100000 in
set_option maxHeartbeats 4000000 in
theorem k_X12_bits {g : Ev} {l : Launch} (hg : g.2.1.Nodup)   {M : Mm} {N : Ml} {p0 : Int32} {v : Int32} (hf : f_X12_bits p0 M = some v) : KM g l yX12_bits cX12_bits 3 (some .int) 0 [.int p0] M N (QI g v M N) := by
  refine KM.mk hg (by decide) (Nat.le_of_ble_eq_true rfl) ?_
  intro p e s m below meth c ls hC hr hlk hl hP hS
  have hx := hC.1
  have hb := hC.2.1
  have hl : lv_has ls 3 [(0, .int p0)] := hl
  have L4 : ∀ (n : Nat) (x1 : Int32) (x2 : Int32) (H : Heap) (locs : List Loc) (ls : Array Slot), f_X12_bits_L4 M n x1 x2 = some v → wP g M N H → va_S (wA g) s.heap H locs → lv_has ls 3 [(1, .int x1), (2, .int x2)] → W p l e (rmD 0) s m ([.int p0] : List Value).toArray below meth c H locs 0 0 (MQ below (QI g v M N) ([.int p0] : List Value).toArray s 0 0 (wA g)) (F0 m 4 ls []) := by
    intro n
    induction n with
    | zero =>
      intro x1 x2 H locs ls hf
      exact absurd hf (by simp [f_X12_bits_L4])
    | succ n ih =>
      intro x1 x2 H locs ls hf hP hS hl
      unfold f_X12_bits_L4 at hf
      refine lv_iload_n hx hb dX12_bits_4 rfl (lv_at hl 1 rfl) ?_
      refine lv_if_le (tgt := 21) hx hb dX12_bits_5 (by decide) (fun c1 => ?_) (fun c1 => ?_)
      · have hf := if_t c1 hf
        refine lv_iload_n hx hb dX12_bits_21 rfl (lv_at hl 0 rfl) ?_
        exact e_I hC hr hlk hP hS dX12_bits_22 hf
      · have hf := if_f c1 hf
        refine lv_iload_n hx hb dX12_bits_8 rfl (lv_at hl 0 rfl) ?_
        refine lv_iload_n hx hb dX12_bits_9 rfl (lv_at hl 1 rfl) ?_
        refine lv_iconst (v := (1 : Int32)) hx hb dX12_bits_10 (by decide) ?_
        refine lv_iand hx hb dX12_bits_11 ?_
        refine lv_iadd hx hb dX12_bits_12 ?_
        refine lv_topi (fun z2 ez2 => ?_)
        have hf := bs ez2 hf
        refine lv_istore_n (lv' := [(1, .int z2), (2, .int x2)]) hx hb dX12_bits_13 rfl hl (by decide) rfl (fun ls hl => ?_)
        refine lv_iload_n hx hb dX12_bits_14 rfl (lv_at hl 1 rfl) ?_
        refine lv_iconst (v := (1 : Int32)) hx hb dX12_bits_15 (by decide) ?_
        refine lv_ishr hx hb dX12_bits_16 ?_
        refine lv_topi (fun z3 ez3 => ?_)
        have hf := bs ez3 hf
        refine lv_istore_n (lv' := [(2, .int z3), (1, .int z2)]) hx hb dX12_bits_17 rfl hl (by decide) rfl (fun ls hl => ?_)
        refine lv_goto (tgt := 4) hx hb dX12_bits_18 (by decide) ?_
        exact ih z2 z3 _ _ _ hf hP hS (lv_sub hl [1, 0] rfl)
  unfold f_X12_bits at hf
  refine lv_iconst (v := (0 : Int32)) hx hb dX12_bits_0 (by decide) ?_
  refine lv_istore_n (lv' := [(1, .int (0 : Int32)), (0, .int p0)]) hx hb dX12_bits_1 rfl hl (by decide) rfl (fun ls hl => ?_)
  refine lv_iload_n hx hb dX12_bits_2 rfl (lv_at hl 1 rfl) ?_
  refine lv_istore_n (lv' := [(2, .int p0), (1, .int (0 : Int32)), (0, .int p0)]) hx hb dX12_bits_3 rfl hl (by decide) rfl (fun ls hl => ?_)
  exact L4 _ (0 : Int32) p0 _ _ _ hf hP hS (lv_sub hl [1, 0] rfl)
set_option maxRecDepth 100000 in
set_option maxHeartbeats 4000000 in
theorem k_X12_clear {g : Ev} {l : Launch} (hg : g.2.1.Nodup) {y : Nat} (hO : oModel g y) {M : Mm} {N : Ml}  {v : Int32} {MR : Mm} (hf : f_X12_clear y M = some (v, MR)) : KM g l yX12_clear cX12_clear 2 (some .int) 0 [.ref y] M N (QI g v MR N) := by
  refine KM.mk hg (by decide) (Nat.le_of_ble_eq_true rfl) ?_
  intro p e s m below meth c ls hC hr hlk hl hP hS
  have hx := hC.1
  have hb := hC.2.1
  have hl : lv_has ls 2 [(0, .ref y)] := hl
  unfold f_X12_clear at hf
  refine lv_aload_n hx hb dX12_clear_0 rfl (lv_at hl 0 rfl) ?_
  refine r_getI hC hP hO.1 fl_X12_214 rfl dX12_clear_1 ?_
  refine lv_topi (fun z1 ez1 => ?_)
  have hf := bs ez1 hf
  refine lv_istore_n (lv' := [(1, .int z1), (0, .ref y)]) hx hb dX12_clear_4 rfl hl (by decide) rfl (fun ls hl => ?_)
  refine lv_aload_n hx hb dX12_clear_5 rfl (lv_at hl 1 rfl) ?_
  refine lv_iconst (v := (0 : Int32)) hx hb dX12_clear_6 (by decide) ?_
  refine r_putI hC hP hS hO.1 fl_X12_214 tyX12 tyX12_ok nmX12 rfl rfl rfl dX12_clear_7 (fun H locs hP hS => ?_)
  obtain ⟨M2, eM2, hf, hP⟩ := bsM hf hP
  refine lv_iload_n hx hb dX12_clear_10 rfl (lv_at hl 0 rfl) ?_
  exact e_IM hC hr hlk hP hS dX12_clear_11 hf
set_option maxRecDepth 100000 in
set_option maxHeartbeats 4000000 in
theorem k_X12_sumOf {g : Ev} {l : Launch} (hg : g.2.1.Nodup) {p0 : Nat} {p0n : Nat} (hp0 : iAt g p0 p0n) {M : Mm} {N : Ml} {p1 : Int32} {p2 : Int32} {v : Int32} (hf : f_X12_sumOf p0 p0n p1 p2 M = some v) : KM g l yX12_sumOf cX12_sumOf 5 (some .int) 0 [.ref p0, .int p1, .int p2] M N (QI g v M N) := by
  refine KM.mk hg (by decide) (Nat.le_of_ble_eq_true rfl) ?_
  intro p e s m below meth c ls hC hr hlk hl hP hS
  have hx := hC.1
  have hb := hC.2.1
  have hl : lv_has ls 5 [(0, .ref p0), (1, .int p1), (2, .int p2)] := hl
  have L5 : ∀ (n : Nat) (x1 : Int32) (x2 : Int32) (x3 : Int32) (x4 : Int32) (H : Heap) (locs : List Loc) (ls : Array Slot), f_X12_sumOf_L5 p0 p0n M n x1 x2 x3 x4 = some v → wP g M N H → va_S (wA g) s.heap H locs → lv_has ls 5 [(0, .ref p0), (1, .int x1), (2, .int x2), (3, .int x3), (4, .int x4)] → W p l e (rmD 0) s m ([.ref p0, .int p1, .int p2] : List Value).toArray below meth c H locs 0 0 (MQ below (QI g v M N) ([.ref p0, .int p1, .int p2] : List Value).toArray s 0 0 (wA g)) (F0 m 5 ls []) := by
    intro n
    induction n with
    | zero =>
      intro x1 x2 x3 x4 H locs ls hf
      exact absurd hf (by simp [f_X12_sumOf_L5])
    | succ n ih =>
      intro x1 x2 x3 x4 H locs ls hf hP hS hl
      unfold f_X12_sumOf_L5 at hf
      refine lv_iload hx hb dX12_sumOf_5 (lv_at hl 4 rfl) ?_
      refine lv_iload_n hx hb dX12_sumOf_7 rfl (lv_at hl 2 rfl) ?_
      refine lv_icmp_ge (tgt := 26) hx hb dX12_sumOf_8 (by decide) (fun c1 => ?_) (fun c1 => ?_)
      · have hf := if_t c1 hf
        refine lv_iload_n hx hb dX12_sumOf_26 rfl (lv_at hl 3 rfl) ?_
        exact e_I hC hr hlk hP hS dX12_sumOf_27 hf
      · have hf := if_f c1 hf
        refine lv_iload_n hx hb dX12_sumOf_11 rfl (lv_at hl 3 rfl) ?_
        refine lv_aload_n hx hb dX12_sumOf_12 rfl (lv_at hl 0 rfl) ?_
        refine lv_iload_n hx hb dX12_sumOf_13 rfl (lv_at hl 1 rfl) ?_
        refine lv_iload hx hb dX12_sumOf_14 (lv_at hl 4 rfl) ?_
        refine lv_iadd hx hb dX12_sumOf_16 ?_
        obtain ⟨hb2, hf⟩ := ck_s hf
        refine r_iald hC hP hp0 hb2 dX12_sumOf_17 ?_
        refine lv_iadd hx hb dX12_sumOf_18 ?_
        refine lv_topi (fun z3 ez3 => ?_)
        have hf := bs ez3 hf
        refine lv_istore_n (lv' := [(3, .int z3), (0, .ref p0), (1, .int x1), (2, .int x2), (4, .int x4)]) hx hb dX12_sumOf_19 rfl hl (by decide) rfl (fun ls hl => ?_)
        obtain ⟨z4, ez4, hf⟩ := bsJ hf
        refine lv_iinc (v := z4) (lv' := [(4, .int z4), (3, .int z3), (0, .ref p0), (1, .int x1), (2, .int x2)]) hx hb dX12_sumOf_20 hl (k := 4) rfl (by rw [ez4]; rfl) (by decide) rfl (fun ls hl => ?_)
        refine lv_goto (tgt := 5) hx hb dX12_sumOf_23 (by decide) ?_
        exact ih x1 x2 z3 z4 _ _ _ hf hP hS (lv_sub hl [2, 3, 4, 1, 0] rfl)
  unfold f_X12_sumOf at hf
  refine lv_iconst (v := (0 : Int32)) hx hb dX12_sumOf_0 (by decide) ?_
  refine lv_istore_n (lv' := [(3, .int (0 : Int32)), (0, .ref p0), (1, .int p1), (2, .int p2)]) hx hb dX12_sumOf_1 rfl hl (by decide) rfl (fun ls hl => ?_)
  refine lv_iconst (v := (0 : Int32)) hx hb dX12_sumOf_2 (by decide) ?_
  refine lv_istore (lv' := [(4, .int (0 : Int32)), (3, .int (0 : Int32)), (0, .ref p0), (1, .int p1), (2, .int p2)]) hx hb dX12_sumOf_3 hl (by decide) rfl (fun ls hl => ?_)
  exact L5 _ p1 p2 (0 : Int32) (0 : Int32) _ _ _ hf hP hS (lv_sub hl [2, 3, 4, 1, 0] rfl)
set_option maxRecDepth 100000 in
set_option maxHeartbeats 4000000 in
theorem k_X12_counted {g : Ev} {l : Launch} (hg : g.2.1.Nodup) {y : Nat} (hO : oModel g y) {M : Mm} {N : Ml} {p0 : Int32} {v : Int32} (hf : f_X12_counted y p0 M = some v) : KM g l yX12_counted cX12_counted 2 (some .int) 1 [.ref y, .int p0] M N (QI g v M N) := by
  refine KM.mk hg (by decide) (Nat.le_of_ble_eq_true rfl) ?_
  intro p e s m below meth c ls hC hr hlk hl hP hS
  have hx := hC.1
  have hb := hC.2.1
  have hl : lv_has ls 2 [(0, .ref y), (1, .int p0)] := hl
  unfold f_X12_counted at hf
  refine lv_iload_n hx hb dX12_counted_0 rfl (lv_at hl 1 rfl) ?_
  by_cases t1 : p0 = (0 : Int32)
  · have hf := if_t t1 hf
    refine lv_tableIn (tgt := 40) (off := 39) hx hb dX12_counted_1 (by rw [t1]; decide) (by rw [t1]; decide) (by rw [t1]; rfl) (by decide) ?_
    refine lv_aload_n hx hb dX12_counted_40 rfl (lv_at hl 0 rfl) ?_
    obtain ⟨r2, hu3, hf⟩ := bd_s hf
    refine r_goI (r_runV (As := []) (rest := []) hC hP hS (k_X12_places hg hO hu3) cw_X12_64 q_200 q_201 q_202 (Rm.D 0 1 rfl) hO.1 rfl rfl hl.1 rfl (Nat.le_of_ble_eq_true rfl) dX12_counted_41) hS (fun H locs hP hS => ?_)
    exact e_I hC hr hlk hP hS dX12_counted_44 hf
  · have hf := if_f t1 hf
    by_cases t5 : p0 = (1 : Int32)
    · have hf := if_t t5 hf
      refine lv_tableIn (tgt := 45) (off := 44) hx hb dX12_counted_1 (by rw [t5]; decide) (by rw [t5]; decide) (by rw [t5]; rfl) (by decide) ?_
      refine lv_aload_n hx hb dX12_counted_45 rfl (lv_at hl 0 rfl) ?_
      refine r_getR hC hP hO.1 fl_X12_7 rfl dX12_counted_46 ?_
      refine lv_bipush (v := (6 : Int32)) hx hb dX12_counted_49 (by decide) ?_
      refine lv_bipush (v := (120 : Int32)) hx hb dX12_counted_51 (by decide) ?_
      obtain ⟨r6, hu7, hf⟩ := bd_s hf
      refine r_goI (r_runS (As := [.ref (y + 1), .int (6 : Int32), .int (120 : Int32)]) (rest := []) hC hP hS (k_X12_sumOf hg hO.2.1 hu7) cw_X12_140 q_615 q_616 (Rm.D 0 1 rfl) rfl hl.1 rfl (Nat.le_of_ble_eq_true rfl) dX12_counted_53) hS (fun H locs hP hS => ?_)
      exact e_I hC hr hlk hP hS dX12_counted_56 hf
    · have hf := if_f t5 hf
      by_cases t9 : p0 = (2 : Int32)
      · have hf := if_t t9 hf
        refine lv_tableIn (tgt := 57) (off := 56) hx hb dX12_counted_1 (by rw [t9]; decide) (by rw [t9]; decide) (by rw [t9]; rfl) (by decide) ?_
        refine lv_aload_n hx hb dX12_counted_57 rfl (lv_at hl 0 rfl) ?_
        obtain ⟨r10, hu11, hf⟩ := bd_s hf
        refine r_goI (r_runV (As := []) (rest := []) hC hP hS (k_X12_moons hg hO hu11) cw_X12_68 q_263 q_264 q_265 (Rm.D 0 1 rfl) hO.1 rfl rfl hl.1 rfl (Nat.le_of_ble_eq_true rfl) dX12_counted_58) hS (fun H locs hP hS => ?_)
        exact e_I hC hr hlk hP hS dX12_counted_61 hf
      · have hf := if_f t9 hf
        by_cases t13 : p0 = (3 : Int32)
        · have hf := if_t t13 hf
          refine lv_tableIn (tgt := 62) (off := 61) hx hb dX12_counted_1 (by rw [t13]; decide) (by rw [t13]; decide) (by rw [t13]; rfl) (by decide) ?_
          refine lv_aload_n hx hb dX12_counted_62 rfl (lv_at hl 0 rfl) ?_
          refine r_getR hC hP hO.1 fl_X12_7 rfl dX12_counted_63 ?_
          refine lv_sipush (v := (148 : Int32)) hx hb dX12_counted_66 (by decide) ?_
          obtain ⟨hb14, hf⟩ := ck_s hf
          refine r_iald hC hP hO.2.1 hb14 dX12_counted_69 ?_
          exact e_I hC hr hlk hP hS dX12_counted_70 hf
        · have hf := if_f t13 hf
          by_cases t15 : p0 = (4 : Int32)
          · have hf := if_t t15 hf
            refine lv_tableIn (tgt := 71) (off := 70) hx hb dX12_counted_1 (by rw [t15]; decide) (by rw [t15]; decide) (by rw [t15]; rfl) (by decide) ?_
            refine lv_aload_n hx hb dX12_counted_71 rfl (lv_at hl 0 rfl) ?_
            refine r_getR hC hP hO.1 fl_X12_7 rfl dX12_counted_72 ?_
            refine lv_sipush (v := (149 : Int32)) hx hb dX12_counted_75 (by decide) ?_
            obtain ⟨hb16, hf⟩ := ck_s hf
            refine r_iald hC hP hO.2.1 hb16 dX12_counted_78 ?_
            exact e_I hC hr hlk hP hS dX12_counted_79 hf
          · have hf := if_f t15 hf
            by_cases t17 : p0 = (5 : Int32)
            · have hf := if_t t17 hf
              refine lv_tableIn (tgt := 80) (off := 79) hx hb dX12_counted_1 (by rw [t17]; decide) (by rw [t17]; decide) (by rw [t17]; rfl) (by decide) ?_
              refine lv_aload_n hx hb dX12_counted_80 rfl (lv_at hl 0 rfl) ?_
              refine r_getR hC hP hO.1 fl_X12_7 rfl dX12_counted_81 ?_
              refine lv_sipush (v := (150 : Int32)) hx hb dX12_counted_84 (by decide) ?_
              obtain ⟨hb18, hf⟩ := ck_s hf
              refine r_iald hC hP hO.2.1 hb18 dX12_counted_87 ?_
              exact e_I hC hr hlk hP hS dX12_counted_88 hf
            · have hf := if_f t17 hf
              refine lv_tableOut (tgt := 89) hx hb dX12_counted_1 (tsout5 t1 t5 t9 t13 t15 t17) (by decide) ?_
              refine lv_aload_n hx hb dX12_counted_89 rfl (lv_at hl 0 rfl) ?_
              refine r_getI hC hP hO.1 fl_X12_214 rfl dX12_counted_90 ?_
              exact e_I hC hr hlk hP hS dX12_counted_93 hf
set_option maxRecDepth 100000 in
set_option maxHeartbeats 4000000 in
theorem k_X12_count {g : Ev} {l : Launch} (hg : g.2.1.Nodup) {y : Nat} (hO : oModel g y) {M : Mm} {N : Ml} {p0 : Int32} {v : Int32} {MR : Mm} (hf : f_X12_count y p0 M = some (v, MR)) : KM g l yX12_count cX12_count 2 (some .int) 2 [.ref y, .int p0] M N (QI g v MR N) := by
  refine KM.mk hg (by decide) (Nat.le_of_ble_eq_true rfl) ?_
  intro p e s m below meth c ls hC hr hlk hl hP hS
  have hx := hC.1
  have hb := hC.2.1
  have hl : lv_has ls 2 [(0, .ref y), (1, .int p0)] := hl
  unfold f_X12_count at hf
  refine lv_iload_n hx hb dX12_count_0 rfl (lv_at hl 1 rfl) ?_
  refine lv_i2l hx hb dX12_count_1 rfl ?_
  refine lv_lconst (v := (0 : Int64)) hx hb dX12_count_2 (by decide) ?_
  refine lv_ldc2 (v := (6 : Int64)) hx hb hC.2.2.2.1 (hC.2.2.2.2.1 _ q_883) dX12_count_3 ?_
  obtain ⟨r1, hu2, hf⟩ := bd_s hf
  refine r_goI (r_runS (As := [.long p0.toInt64, .long (0 : Int64), .long (6 : Int64)]) (rest := []) hC hP hS (k_X12_in hg hu2) cw_X12_60 q_193 q_194 (Rm.D 0 2 rfl) rfl hl.1 rfl (Nat.le_of_ble_eq_true rfl) dX12_count_6) hS (fun H locs hP hS => ?_)
  refine lv_if_eq (tgt := 20) hx hb dX12_count_9 (by decide) (fun c4 => ?_) (fun c4 => ?_)
  · have hf := if_t c4 hf
    refine lv_aload_n hx hb dX12_count_20 rfl (lv_at hl 0 rfl) ?_
    refine lv_bipush (v := (-2 : Int32)) hx hb dX12_count_21 (by decide) ?_
    obtain ⟨r5, M7, hu6, hf⟩ := bd2_s hf
    refine r_goI (r_runV (As := [.int (-2 : Int32)]) (rest := []) hC hP hS (k_X12_bad hg hO hu6) cw_X12_73 q_196 q_197 q_198 (Rm.D 0 2 rfl) hO.1 rfl rfl hl.1 rfl (Nat.le_of_ble_eq_true rfl) dX12_count_23) hS (fun H locs hP hS => ?_)
    exact e_IM hC hr hlk hP hS dX12_count_26 hf
  · have hf := if_f c4 hf
    refine lv_aload_n hx hb dX12_count_12 rfl (lv_at hl 0 rfl) ?_
    refine lv_iload_n hx hb dX12_count_13 rfl (lv_at hl 1 rfl) ?_
    obtain ⟨r8, hu9, hf⟩ := bd_s hf
    refine r_goI (r_runV (As := [.int p0]) (rest := []) hC hP hS (k_X12_counted hg hO hu9) cw_X12_269 q_988 q_989 q_990 (Rm.D 1 2 rfl) hO.1 rfl rfl hl.1 rfl (Nat.le_of_ble_eq_true rfl) dX12_count_14) hS (fun H locs hP hS => ?_)
    refine lv_goto (tgt := 26) hx hb dX12_count_17 (by decide) ?_
    exact e_IM hC hr hlk hP hS dX12_count_26 hf
set_option maxRecDepth 100000 in
set_option maxHeartbeats 4000000 in
theorem k_X12_sums {g : Ev} {l : Launch} (hg : g.2.1.Nodup) {y : Nat} (hO : oModel g y) {M : Mm} {N : Ml} {p0 : Int64} {p1 : Int32} {p2 : Int32} {v : Int64} (hf : f_X12_sums y p0 p1 p2 M = some v) : KM g l yX12_sums cX12_sums 8 (some .long) 0 [.ref y, .long p0, .int p1, .int p2] M N (QL g v M N) := by
  refine KM.mk hg (by decide) (Nat.le_of_ble_eq_true rfl) ?_
  intro p e s m below meth c ls hC hr hlk hl hP hS
  have hx := hC.1
  have hb := hC.2.1
  have hl : lv_has ls 8 [(0, .ref y), (1, .long p0), (3, .int p1), (4, .int p2)] := hl
  have L6 : ∀ (n : Nat) (x3 : Int32) (x4 : Int32) (x5 : Int64) (x7 : Int32) (H : Heap) (locs : List Loc) (ls : Array Slot), f_X12_sums_L6 y M n x3 x4 x5 x7 = some v → wP g M N H → va_S (wA g) s.heap H locs → lv_has ls 8 [(0, .ref y), (3, .int x3), (4, .int x4), (5, .long x5), (7, .int x7)] → W p l e (rmD 0) s m ([.ref y, .long p0, .int p1, .int p2] : List Value).toArray below meth c H locs 0 0 (MQ below (QL g v M N) ([.ref y, .long p0, .int p1, .int p2] : List Value).toArray s 0 0 (wA g)) (F0 m 6 ls []) := by
    intro n
    induction n with
    | zero =>
      intro x3 x4 x5 x7 H locs ls hf
      exact absurd hf (by simp [f_X12_sums_L6])
    | succ n ih =>
      intro x3 x4 x5 x7 H locs ls hf hP hS hl
      unfold f_X12_sums_L6 at hf
      refine lv_iload hx hb dX12_sums_6 (lv_at hl 4 rfl) ?_
      refine lv_iload hx hb dX12_sums_8 (lv_at hl 2 rfl) ?_
      refine lv_icmp_ge (tgt := 38) hx hb dX12_sums_10 (by decide) (fun c1 => ?_) (fun c1 => ?_)
      · have hf := if_t c1 hf
        refine lv_lload hx hb dX12_sums_38 (lv_at hl 3 rfl) ?_
        exact e_L hC hr hlk hP hS dX12_sums_40 hf
      · have hf := if_f c1 hf
        refine lv_ldc2 (v := (31 : Int64)) hx hb hC.2.2.2.1 (hC.2.2.2.2.1 _ q_1009) dX12_sums_13 ?_
        refine lv_lload hx hb dX12_sums_16 (lv_at hl 3 rfl) ?_
        refine lv_lmul hx hb dX12_sums_18 ?_
        refine lv_aload_n hx hb dX12_sums_19 rfl (lv_at hl 0 rfl) ?_
        refine r_getR hC hP hO.1 fl_X12_7 rfl dX12_sums_20 ?_
        refine lv_iload_n hx hb dX12_sums_23 rfl (lv_at hl 1 rfl) ?_
        refine lv_iload hx hb dX12_sums_24 (lv_at hl 4 rfl) ?_
        refine lv_iadd hx hb dX12_sums_26 ?_
        obtain ⟨hb2, hf⟩ := ck_s hf
        refine r_iald hC hP hO.2.1 hb2 dX12_sums_27 ?_
        refine lv_i2l hx hb dX12_sums_28 rfl ?_
        refine lv_ladd hx hb dX12_sums_29 ?_
        refine lv_topl (fun z3 ez3 => ?_)
        have hf := bs ez3 hf
        refine lv_lstore (lv' := [(5, .long z3), (0, .ref y), (3, .int x3), (4, .int x4), (7, .int x7)]) hx hb dX12_sums_30 hl (by decide) rfl (fun ls hl => ?_)
        obtain ⟨z4, ez4, hf⟩ := bsJ hf
        refine lv_iinc (v := z4) (lv' := [(7, .int z4), (5, .long z3), (0, .ref y), (3, .int x3), (4, .int x4)]) hx hb dX12_sums_32 hl (k := 4) rfl (by rw [ez4]; rfl) (by decide) rfl (fun ls hl => ?_)
        refine lv_goto (tgt := 6) hx hb dX12_sums_35 (by decide) ?_
        exact ih x3 x4 z3 z4 _ _ _ hf hP hS (lv_sub hl [2, 3, 4, 1, 0] rfl)
  unfold f_X12_sums at hf
  refine lv_lload_n hx hb dX12_sums_0 rfl (lv_at hl 1 rfl) ?_
  refine lv_lstore (lv' := [(5, .long p0), (0, .ref y), (1, .long p0), (3, .int p1), (4, .int p2)]) hx hb dX12_sums_1 hl (by decide) rfl (fun ls hl => ?_)
  refine lv_iconst (v := (0 : Int32)) hx hb dX12_sums_3 (by decide) ?_
  refine lv_istore (lv' := [(7, .int (0 : Int32)), (5, .long p0), (0, .ref y), (1, .long p0), (3, .int p1), (4, .int p2)]) hx hb dX12_sums_4 hl (by decide) rfl (fun ls hl => ?_)
  exact L6 _ p1 p2 p0 (0 : Int32) _ _ _ hf hP hS (lv_sub hl [2, 4, 5, 1, 0] rfl)
set_option maxRecDepth 100000 in
set_option maxHeartbeats 4000000 in
theorem k_X12_digest {g : Ev} {l : Launch} (hg : g.2.1.Nodup) {y : Nat} (hO : oModel g y) {M : Mm} {N : Ml}  {v : Int64} (hf : f_X12_digest y M N = some v) : KM g l yX12_digest cX12_digest 4 (some .long) 2 [.ref y] M N (QL g v M N) := by
  refine KM.mk hg (by decide) (Nat.le_of_ble_eq_true rfl) ?_
  intro p e s m below meth c ls hC hr hlk hl hP hS
  have hx := hC.1
  have hb := hC.2.1
  have hl : lv_has ls 4 [(0, .ref y)] := hl
  have L33 : ∀ (n : Nat) (x1 : Int64) (x3 : Int32) (H : Heap) (locs : List Loc) (ls : Array Slot), f_X12_digest_L33 y M N n x1 x3 = some v → wP g M N H → va_S (wA g) s.heap H locs → lv_has ls 4 [(0, .ref y), (1, .long x1), (3, .int x3)] → W p l e (rmD 2) s m ([.ref y] : List Value).toArray below meth c H locs 0 0 (MQ below (QL g v M N) ([.ref y] : List Value).toArray s 0 0 (wA g)) (F0 m 33 ls []) := by
    intro n
    induction n with
    | zero =>
      intro x1 x3 H locs ls hf
      exact absurd hf (by simp [f_X12_digest_L33])
    | succ n ih =>
      intro x1 x3 H locs ls hf hP hS hl
      unfold f_X12_digest_L33 at hf
      refine lv_iload_n hx hb dX12_digest_33 rfl (lv_at hl 2 rfl) ?_
      refine lv_iconst (v := (5 : Int32)) hx hb dX12_digest_34 (by decide) ?_
      refine lv_icmp_ge (tgt := 93) hx hb dX12_digest_35 (by decide) (fun c2 => ?_) (fun c2 => ?_)
      · have hf := if_t c2 hf
        refine lv_aload_n hx hb dX12_digest_93 rfl (lv_at hl 0 rfl) ?_
        refine lv_lload_n hx hb dX12_digest_94 rfl (lv_at hl 1 rfl) ?_
        refine lv_bipush (v := (127 : Int32)) hx hb dX12_digest_95 (by decide) ?_
        refine lv_iconst (v := (4 : Int32)) hx hb dX12_digest_97 (by decide) ?_
        refine lv_aload_n hx hb dX12_digest_98 rfl (lv_at hl 0 rfl) ?_
        obtain ⟨r3, hu4, hf⟩ := bd_s hf
        refine r_goI (r_runV (As := []) (rest := [.int (4 : Int32), .int (127 : Int32), .long x1, .ref y]) hC hP hS (k_X12_moons hg hO hu4) cw_X12_68 q_263 q_264 q_265 (Rm.D 0 2 rfl) hO.1 rfl rfl hl.1 rfl (Nat.le_of_ble_eq_true rfl) dX12_digest_99) hS (fun H locs hP hS => ?_)
        refine lv_imul hx hb dX12_digest_102 ?_
        obtain ⟨r6, hu7, hf⟩ := bd_s hf
        refine r_goL (r_runV (As := [.long x1, .int (127 : Int32), .int ((4 : Int32) * r3)]) (rest := []) hC hP hS (k_X12_sums hg hO hu7) cw_X12_276 q_1010 q_1011 q_1012 (Rm.D 0 2 rfl) hO.1 rfl rfl hl.1 rfl (Nat.le_of_ble_eq_true rfl) dX12_digest_103) hS (fun H locs hP hS => ?_)
        refine lv_lstore_n (lv' := [(1, .long r6), (0, .ref y), (3, .int x3)]) hx hb dX12_digest_106 rfl hl (by decide) rfl (fun ls hl => ?_)
        refine lv_ldc2 (v := (31 : Int64)) hx hb hC.2.2.2.1 (hC.2.2.2.2.1 _ q_1009) dX12_digest_107 ?_
        refine lv_ldc2 (v := (31 : Int64)) hx hb hC.2.2.2.1 (hC.2.2.2.2.1 _ q_1009) dX12_digest_110 ?_
        refine lv_lload_n hx hb dX12_digest_113 rfl (lv_at hl 0 rfl) ?_
        refine lv_lmul hx hb dX12_digest_114 ?_
        refine lv_aload_n hx hb dX12_digest_115 rfl (lv_at hl 1 rfl) ?_
        refine r_getL hC hP hO.1 fl_X12_209 rfl dX12_digest_116 ?_
        refine lv_ladd hx hb dX12_digest_119 ?_
        refine lv_lmul hx hb dX12_digest_120 ?_
        refine lv_aload_n hx hb dX12_digest_121 rfl (lv_at hl 1 rfl) ?_
        refine r_getL hC hP hO.1 fl_X12_23 rfl dX12_digest_122 ?_
        refine lv_ladd hx hb dX12_digest_125 ?_
        exact e_L hC hr hlk hP hS dX12_digest_126 hf
      · have hf := if_f c2 hf
        refine lv_ldc2 (v := (31 : Int64)) hx hb hC.2.2.2.1 (hC.2.2.2.2.1 _ q_1009) dX12_digest_38 ?_
        refine lv_ldc2 (v := (31 : Int64)) hx hb hC.2.2.2.1 (hC.2.2.2.2.1 _ q_1009) dX12_digest_41 ?_
        refine lv_lload_n hx hb dX12_digest_44 rfl (lv_at hl 1 rfl) ?_
        refine lv_lmul hx hb dX12_digest_45 ?_
        refine lv_aload_n hx hb dX12_digest_46 rfl (lv_at hl 0 rfl) ?_
        refine r_getR hC hP hO.1 fl_X12_7 rfl dX12_digest_47 ?_
        refine lv_iconst (v := (1 : Int32)) hx hb dX12_digest_50 (by decide) ?_
        refine lv_iload_n hx hb dX12_digest_51 rfl (lv_at hl 2 rfl) ?_
        refine lv_iadd hx hb dX12_digest_52 ?_
        obtain ⟨hb9, hf⟩ := ck_s hf
        refine r_iald hC hP hO.2.1 hb9 dX12_digest_53 ?_
        refine lv_i2l hx hb dX12_digest_54 rfl ?_
        refine lv_ladd hx hb dX12_digest_55 ?_
        refine lv_lmul hx hb dX12_digest_56 ?_
        refine lv_aload_n hx hb dX12_digest_57 rfl (lv_at hl 0 rfl) ?_
        refine r_getR hC hP hO.1 fl_X12_7 rfl dX12_digest_58 ?_
        refine lv_sipush (v := (143 : Int32)) hx hb dX12_digest_61 (by decide) ?_
        refine lv_iload_n hx hb dX12_digest_64 rfl (lv_at hl 2 rfl) ?_
        refine lv_iadd hx hb dX12_digest_65 ?_
        obtain ⟨hb10, hf⟩ := ck_s hf
        refine r_iald hC hP hO.2.1 hb10 dX12_digest_66 ?_
        refine lv_i2l hx hb dX12_digest_67 rfl ?_
        refine lv_ladd hx hb dX12_digest_68 ?_
        refine lv_topl (fun z11 ez11 => ?_)
        have hf := bs ez11 hf
        refine lv_lstore_n (lv' := [(1, .long z11), (0, .ref y), (3, .int x3)]) hx hb dX12_digest_69 rfl hl (by decide) rfl (fun ls hl => ?_)
        refine lv_aload_n hx hb dX12_digest_70 rfl (lv_at hl 1 rfl) ?_
        refine lv_lload_n hx hb dX12_digest_71 rfl (lv_at hl 0 rfl) ?_
        refine lv_bipush (v := (6 : Int32)) hx hb dX12_digest_72 (by decide) ?_
        refine lv_bipush (v := (24 : Int32)) hx hb dX12_digest_74 (by decide) ?_
        refine lv_iload_n hx hb dX12_digest_76 rfl (lv_at hl 2 rfl) ?_
        refine lv_imul hx hb dX12_digest_77 ?_
        refine lv_iadd hx hb dX12_digest_78 ?_
        refine lv_aload_n hx hb dX12_digest_79 rfl (lv_at hl 1 rfl) ?_
        obtain ⟨r12, hu13, hf⟩ := bd_s hf
        refine r_goI (r_runV (As := []) (rest := [.int ((6 : Int32) + ((24 : Int32) * x3)), .long z11, .ref y]) hC hP hS (k_X12_places hg hO hu13) cw_X12_64 q_200 q_201 q_202 (Rm.D 0 2 rfl) hO.1 rfl rfl hl.1 rfl (Nat.le_of_ble_eq_true rfl) dX12_digest_80) hS (fun H locs hP hS => ?_)
        obtain ⟨r15, hu16, hf⟩ := bd_s hf
        refine r_goL (r_runV (As := [.long z11, .int ((6 : Int32) + ((24 : Int32) * x3)), .int r12]) (rest := []) hC hP hS (k_X12_sums hg hO hu16) cw_X12_276 q_1010 q_1011 q_1012 (Rm.D 0 2 rfl) hO.1 rfl rfl hl.1 rfl (Nat.le_of_ble_eq_true rfl) dX12_digest_83) hS (fun H locs hP hS => ?_)
        refine lv_lstore_n (lv' := [(1, .long r15), (0, .ref y), (3, .int x3)]) hx hb dX12_digest_86 rfl hl (by decide) rfl (fun ls hl => ?_)
        obtain ⟨z18, ez18, hf⟩ := bsJ hf
        refine lv_iinc (v := z18) (lv' := [(3, .int z18), (1, .long r15), (0, .ref y)]) hx hb dX12_digest_87 hl (k := 2) rfl (by rw [ez18]; rfl) (by decide) rfl (fun ls hl => ?_)
        refine lv_goto (tgt := 33) hx hb dX12_digest_90 (by decide) ?_
        exact ih r15 z18 _ _ _ hf hP hS (lv_sub hl [2, 1, 0] rfl)
  have L6 : ∀ (n : Nat) (x1 : Int64) (x3 : Int32) (H : Heap) (locs : List Loc) (ls : Array Slot), f_X12_digest_L6 y M N n x1 x3 = some v → wP g M N H → va_S (wA g) s.heap H locs → lv_has ls 4 [(0, .ref y), (1, .long x1), (3, .int x3)] → W p l e (rmD 2) s m ([.ref y] : List Value).toArray below meth c H locs 0 0 (MQ below (QL g v M N) ([.ref y] : List Value).toArray s 0 0 (wA g)) (F0 m 6 ls []) := by
    intro n
    induction n with
    | zero =>
      intro x1 x3 H locs ls hf
      exact absurd hf (by simp [f_X12_digest_L6])
    | succ n ih =>
      intro x1 x3 H locs ls hf hP hS hl
      unfold f_X12_digest_L6 at hf
      refine lv_iload_n hx hb dX12_digest_6 rfl (lv_at hl 2 rfl) ?_
      refine lv_bipush (v := (7 : Int32)) hx hb dX12_digest_7 (by decide) ?_
      refine lv_icmp_ge (tgt := 31) hx hb dX12_digest_9 (by decide) (fun c1 => ?_) (fun c1 => ?_)
      · have hf := if_t c1 hf
        refine lv_iconst (v := (0 : Int32)) hx hb dX12_digest_31 (by decide) ?_
        refine lv_istore_n (lv' := [(3, .int (0 : Int32)), (0, .ref y), (1, .long x1)]) hx hb dX12_digest_32 rfl hl (by decide) rfl (fun ls hl => ?_)
        exact L33 _ x1 (0 : Int32) _ _ _ hf hP hS (lv_sub hl [1, 2, 0] rfl)
      · have hf := if_f c1 hf
        refine lv_ldc2 (v := (31 : Int64)) hx hb hC.2.2.2.1 (hC.2.2.2.2.1 _ q_1009) dX12_digest_12 ?_
        refine lv_lload_n hx hb dX12_digest_15 rfl (lv_at hl 1 rfl) ?_
        refine lv_lmul hx hb dX12_digest_16 ?_
        refine lv_aload_n hx hb dX12_digest_17 rfl (lv_at hl 0 rfl) ?_
        refine lv_iload_n hx hb dX12_digest_18 rfl (lv_at hl 2 rfl) ?_
        obtain ⟨r19, hu20, hf⟩ := bd_s hf
        refine r_goI (r_runV (As := [.int x3]) (rest := [.long ((31 : Int64) * x1)]) hC hP hS (k_X12_counted hg hO hu20) cw_X12_269 q_988 q_989 q_990 (Rm.D 1 2 rfl) hO.1 rfl rfl hl.1 rfl (Nat.le_of_ble_eq_true rfl) dX12_digest_19) hS (fun H locs hP hS => ?_)
        refine lv_i2l hx hb dX12_digest_22 rfl ?_
        refine lv_ladd hx hb dX12_digest_23 ?_
        refine lv_topl (fun z22 ez22 => ?_)
        have hf := bs ez22 hf
        refine lv_lstore_n (lv' := [(1, .long z22), (0, .ref y), (3, .int x3)]) hx hb dX12_digest_24 rfl hl (by decide) rfl (fun ls hl => ?_)
        obtain ⟨z23, ez23, hf⟩ := bsJ hf
        refine lv_iinc (v := z23) (lv' := [(3, .int z23), (1, .long z22), (0, .ref y)]) hx hb dX12_digest_25 hl (k := 2) rfl (by rw [ez23]; rfl) (by decide) rfl (fun ls hl => ?_)
        refine lv_goto (tgt := 6) hx hb dX12_digest_28 (by decide) ?_
        exact ih z22 z23 _ _ _ hf hP hS (lv_sub hl [2, 1, 0] rfl)
  unfold f_X12_digest at hf
  refine lv_ldc2 (v := (821 : Int64)) hx hb hC.2.2.2.1 (hC.2.2.2.2.1 _ q_1008) dX12_digest_0 ?_
  refine lv_lstore_n (lv' := [(1, .long (821 : Int64)), (0, .ref y)]) hx hb dX12_digest_3 rfl hl (by decide) rfl (fun ls hl => ?_)
  refine lv_iconst (v := (0 : Int32)) hx hb dX12_digest_4 (by decide) ?_
  refine lv_istore_n (lv' := [(3, .int (0 : Int32)), (1, .long (821 : Int64)), (0, .ref y)]) hx hb dX12_digest_5 rfl hl (by decide) rfl (fun ls hl => ?_)
  exact L6 _ (821 : Int64) (0 : Int32) _ _ _ hf hP hS (lv_sub hl [2, 1, 0] rfl)
set_option maxRecDepth 100000 in
set_option maxHeartbeats 4000000 in
theorem k_X12_factorial {g : Ev} {l : Launch} (hg : g.2.1.Nodup)   {M : Mm} {N : Ml} {p0 : Int32} {v : Int32} (hf : f_X12_factorial p0 M = some v) : KM g l yX12_factorial cX12_factorial 3 (some .int) 0 [.int p0] M N (QI g v M N) := by
  refine KM.mk hg (by decide) (Nat.le_of_ble_eq_true rfl) ?_
  intro p e s m below meth c ls hC hr hlk hl hP hS
  have hx := hC.1
  have hb := hC.2.1
  have hl : lv_has ls 3 [(0, .int p0)] := hl
  have L4 : ∀ (n : Nat) (x0 : Int32) (x1 : Int32) (x2 : Int32) (H : Heap) (locs : List Loc) (ls : Array Slot), f_X12_factorial_L4 M n x0 x1 x2 = some v → wP g M N H → va_S (wA g) s.heap H locs → lv_has ls 3 [(0, .int x0), (1, .int x1), (2, .int x2)] → W p l e (rmD 0) s m ([.int p0] : List Value).toArray below meth c H locs 0 0 (MQ below (QI g v M N) ([.int p0] : List Value).toArray s 0 0 (wA g)) (F0 m 4 ls []) := by
    intro n
    induction n with
    | zero =>
      intro x0 x1 x2 H locs ls hf
      exact absurd hf (by simp [f_X12_factorial_L4])
    | succ n ih =>
      intro x0 x1 x2 H locs ls hf hP hS hl
      unfold f_X12_factorial_L4 at hf
      refine lv_iload_n hx hb dX12_factorial_4 rfl (lv_at hl 2 rfl) ?_
      refine lv_iload_n hx hb dX12_factorial_5 rfl (lv_at hl 0 rfl) ?_
      refine lv_icmp_gt (tgt := 19) hx hb dX12_factorial_6 (by decide) (fun c1 => ?_) (fun c1 => ?_)
      · have hf := if_t c1 hf
        refine lv_iload_n hx hb dX12_factorial_19 rfl (lv_at hl 1 rfl) ?_
        exact e_I hC hr hlk hP hS dX12_factorial_20 hf
      · have hf := if_f c1 hf
        refine lv_iload_n hx hb dX12_factorial_9 rfl (lv_at hl 1 rfl) ?_
        refine lv_iload_n hx hb dX12_factorial_10 rfl (lv_at hl 2 rfl) ?_
        refine lv_imul hx hb dX12_factorial_11 ?_
        refine lv_topi (fun z2 ez2 => ?_)
        have hf := bs ez2 hf
        refine lv_istore_n (lv' := [(1, .int z2), (0, .int x0), (2, .int x2)]) hx hb dX12_factorial_12 rfl hl (by decide) rfl (fun ls hl => ?_)
        obtain ⟨z3, ez3, hf⟩ := bsJ hf
        refine lv_iinc (v := z3) (lv' := [(2, .int z3), (1, .int z2), (0, .int x0)]) hx hb dX12_factorial_13 hl (k := 2) rfl (by rw [ez3]; rfl) (by decide) rfl (fun ls hl => ?_)
        refine lv_goto (tgt := 4) hx hb dX12_factorial_16 (by decide) ?_
        exact ih x0 z2 z3 _ _ _ hf hP hS (lv_sub hl [2, 1, 0] rfl)
  unfold f_X12_factorial at hf
  refine lv_iconst (v := (1 : Int32)) hx hb dX12_factorial_0 (by decide) ?_
  refine lv_istore_n (lv' := [(1, .int (1 : Int32)), (0, .int p0)]) hx hb dX12_factorial_1 rfl hl (by decide) rfl (fun ls hl => ?_)
  refine lv_iconst (v := (2 : Int32)) hx hb dX12_factorial_2 (by decide) ?_
  refine lv_istore_n (lv' := [(2, .int (2 : Int32)), (1, .int (1 : Int32)), (0, .int p0)]) hx hb dX12_factorial_3 rfl hl (by decide) rfl (fun ls hl => ?_)
  exact L4 _ p0 (1 : Int32) (2 : Int32) _ _ _ hf hP hS (lv_sub hl [2, 1, 0] rfl)
set_option maxRecDepth 100000 in
set_option maxHeartbeats 4000000 in
theorem k_X12_isLong {g : Ev} {l : Launch} (hg : g.2.1.Nodup)   {M : Mm} {N : Ml} {p0 : Int32} {v : Int32} (hf : f_X12_isLong p0 M = some v) : KM g l yX12_isLong cX12_isLong 1 (some .boolean) 1 [.int p0] M N (QI g v M N) := by
  refine KM.mk hg (by decide) (Nat.le_of_ble_eq_true rfl) ?_
  intro p e s m below meth c ls hC hr hlk hl hP hS
  have hx := hC.1
  have hb := hC.2.1
  have hl : lv_has ls 1 [(0, .int p0)] := hl
  unfold f_X12_isLong at hf
  refine lv_iload_n hx hb dX12_isLong_0 rfl (lv_at hl 0 rfl) ?_
  refine lv_i2l hx hb dX12_isLong_1 rfl ?_
  refine lv_lconst (v := (0 : Int64)) hx hb dX12_isLong_2 (by decide) ?_
  refine lv_ldc2 (v := (60 : Int64)) hx hb hC.2.2.2.1 (hC.2.2.2.2.1 _ q_689) dX12_isLong_3 ?_
  obtain ⟨r1, hu2, hf⟩ := bd_s hf
  refine r_goI (r_runS (As := [.long p0.toInt64, .long (0 : Int64), .long (60 : Int64)]) (rest := []) hC hP hS (k_X12_in hg hu2) cw_X12_60 q_193 q_194 (Rm.D 0 1 rfl) rfl hl.1 rfl (Nat.le_of_ble_eq_true rfl) dX12_isLong_6) hS (fun H locs hP hS => ?_)
  obtain ⟨hn4, hf⟩ := cb_s hf
  exact e_Z hC hr hlk hn4 hP hS dX12_isLong_9 hf
set_option maxRecDepth 100000 in
set_option maxHeartbeats 4000000 in
theorem k_X12_takeNow {g : Ev} {l : Launch} (hg : g.2.1.Nodup) {y : Nat} (hO : oModel g y) {M : Mm} {N : Ml} {p0 : Int32} {MR : Mm} (hf : f_X12_takeNow y p0 M = some MR) : KM g l yX12_takeNow cX12_takeNow 3 none 1 [.ref y, .int p0] M N (QV g MR N) := by
  refine KM.mk hg (by decide) (Nat.le_of_ble_eq_true rfl) ?_
  intro p e s m below meth c ls hC hr hlk hl hP hS
  have hx := hC.1
  have hb := hC.2.1
  have hl : lv_has ls 3 [(0, .ref y), (1, .int p0)] := hl
  have L31 : ∀ (n : Nat) (x1 : Int32) (x2 : Int32) (M : Mm) (H : Heap) (locs : List Loc) (ls : Array Slot), f_X12_takeNow_L31 y n x1 x2 M = some MR → wP g M N H → va_S (wA g) s.heap H locs → lv_has ls 3 [(0, .ref y), (1, .int x1), (2, .int x2)] → W p l e (rmD 1) s m ([.ref y, .int p0] : List Value).toArray below meth c H locs 0 0 (MQ below (QV g MR N) ([.ref y, .int p0] : List Value).toArray s 0 0 (wA g)) (F0 m 31 ls []) := by
    intro n
    induction n with
    | zero =>
      intro x1 x2 M H locs ls hf
      exact absurd hf (by simp [f_X12_takeNow_L31])
    | succ n ih =>
      intro x1 x2 M H locs ls hf hP hS hl
      unfold f_X12_takeNow_L31 at hf
      refine lv_iload_n hx hb dX12_takeNow_31 rfl (lv_at hl 2 rfl) ?_
      refine lv_aload_n hx hb dX12_takeNow_32 rfl (lv_at hl 0 rfl) ?_
      obtain ⟨r2, hu3, hf⟩ := bd_s hf
      refine r_goI (r_runV (As := []) (rest := [.int x2]) hC hP hS (k_X12_moons hg hO hu3) cw_X12_68 q_263 q_264 q_265 (Rm.D 0 1 rfl) hO.1 rfl rfl hl.1 rfl (Nat.le_of_ble_eq_true rfl) dX12_takeNow_33) hS (fun H locs hP hS => ?_)
      refine lv_icmp_ge (tgt := 57) hx hb dX12_takeNow_36 (by decide) (fun c5 => ?_) (fun c5 => ?_)
      · have hf := if_t c5 hf
        refine lv_aload_n hx hb dX12_takeNow_57 rfl (lv_at hl 0 rfl) ?_
        refine lv_aload_n hx hb dX12_takeNow_58 rfl (lv_at hl 0 rfl) ?_
        refine r_getR hC hP hO.1 fl_X12_7 rfl dX12_takeNow_59 ?_
        refine lv_sipush (v := (148 : Int32)) hx hb dX12_takeNow_62 (by decide) ?_
        obtain ⟨hb6, hf⟩ := ck_s hf
        refine r_iald hC hP hO.2.1 hb6 dX12_takeNow_65 ?_
        refine r_putI hC hP hS hO.1 fl_X12_101 tyX12 tyX12_ok nmX12 rfl rfl rfl dX12_takeNow_66 (fun H locs hP hS => ?_)
        obtain ⟨M7, eM7, hf, hP⟩ := bsM hf hP
        refine lv_aload_n hx hb dX12_takeNow_69 rfl (lv_at hl 0 rfl) ?_
        refine lv_iload_n hx hb dX12_takeNow_70 rfl (lv_at hl 1 rfl) ?_
        refine r_putI hC hP hS hO.1 fl_X12_105 tyX12 tyX12_ok nmX12 rfl rfl rfl dX12_takeNow_71 (fun H locs hP hS => ?_)
        obtain ⟨M8, eM8, hf, hP⟩ := bsM hf hP
        exact e_VM hC hr hlk hP hS dX12_takeNow_74 hf
      · have hf := if_f c5 hf
        refine lv_aload_n hx hb dX12_takeNow_39 rfl (lv_at hl 0 rfl) ?_
        refine r_getR hC hP hO.1 fl_X12_33 rfl dX12_takeNow_40 ?_
        refine lv_iload_n hx hb dX12_takeNow_43 rfl (lv_at hl 2 rfl) ?_
        refine lv_aload_n hx hb dX12_takeNow_44 rfl (lv_at hl 0 rfl) ?_
        refine lv_iload_n hx hb dX12_takeNow_45 rfl (lv_at hl 2 rfl) ?_
        refine lv_iconst (v := (2 : Int32)) hx hb dX12_takeNow_46 (by decide) ?_
        obtain ⟨r9, hu10, hf⟩ := bd_s hf
        refine r_goI (r_runV (As := [.int x2, .int (2 : Int32)]) (rest := [.int x2, .ref (y + 7)]) hC hP hS (k_X12_of hg hO hu10) cw_X12_97 q_553 q_554 q_555 (Rm.D 0 1 rfl) hO.1 rfl rfl hl.1 rfl (Nat.le_of_ble_eq_true rfl) dX12_takeNow_47) hS (fun H locs hP hS => ?_)
        obtain ⟨hb12, hf⟩ := ck_s hf
        refine r_iast hC hP hS hO.2.2.2.2.2.2.2.1 hb12 dX12_takeNow_50 (fun H locs hP hS => ?_)
        obtain ⟨M13, eM13, hf, hP⟩ := bsM hf hP
        obtain ⟨z14, ez14, hf⟩ := bsJ hf
        refine lv_iinc (v := z14) (lv' := [(2, .int z14), (0, .ref y), (1, .int x1)]) hx hb dX12_takeNow_51 hl (k := 2) rfl (by rw [ez14]; rfl) (by decide) rfl (fun ls hl => ?_)
        refine lv_goto (tgt := 31) hx hb dX12_takeNow_54 (by decide) ?_
        exact ih x1 z14 M13 _ _ _ hf hP hS (lv_sub hl [1, 2, 0] rfl)
  have L2 : ∀ (n : Nat) (x1 : Int32) (x2 : Int32) (M : Mm) (H : Heap) (locs : List Loc) (ls : Array Slot), f_X12_takeNow_L2 y n x1 x2 M = some MR → wP g M N H → va_S (wA g) s.heap H locs → lv_has ls 3 [(0, .ref y), (1, .int x1), (2, .int x2)] → W p l e (rmD 1) s m ([.ref y, .int p0] : List Value).toArray below meth c H locs 0 0 (MQ below (QV g MR N) ([.ref y, .int p0] : List Value).toArray s 0 0 (wA g)) (F0 m 2 ls []) := by
    intro n
    induction n with
    | zero =>
      intro x1 x2 M H locs ls hf
      exact absurd hf (by simp [f_X12_takeNow_L2])
    | succ n ih =>
      intro x1 x2 M H locs ls hf hP hS hl
      unfold f_X12_takeNow_L2 at hf
      refine lv_iload_n hx hb dX12_takeNow_2 rfl (lv_at hl 2 rfl) ?_
      refine lv_bipush (v := (120 : Int32)) hx hb dX12_takeNow_3 (by decide) ?_
      refine lv_icmp_ge (tgt := 29) hx hb dX12_takeNow_5 (by decide) (fun c1 => ?_) (fun c1 => ?_)
      · have hf := if_t c1 hf
        refine lv_iconst (v := (0 : Int32)) hx hb dX12_takeNow_29 (by decide) ?_
        refine lv_istore_n (lv' := [(2, .int (0 : Int32)), (0, .ref y), (1, .int x1)]) hx hb dX12_takeNow_30 rfl hl (by decide) rfl (fun ls hl => ?_)
        exact L31 _ x1 (0 : Int32) M _ _ _ hf hP hS (lv_sub hl [1, 2, 0] rfl)
      · have hf := if_f c1 hf
        refine lv_aload_n hx hb dX12_takeNow_8 rfl (lv_at hl 0 rfl) ?_
        refine r_getR hC hP hO.1 fl_X12_27 rfl dX12_takeNow_9 ?_
        refine lv_iload_n hx hb dX12_takeNow_12 rfl (lv_at hl 2 rfl) ?_
        refine lv_aload_n hx hb dX12_takeNow_13 rfl (lv_at hl 0 rfl) ?_
        refine r_getR hC hP hO.1 fl_X12_7 rfl dX12_takeNow_14 ?_
        refine lv_bipush (v := (6 : Int32)) hx hb dX12_takeNow_17 (by decide) ?_
        refine lv_iload_n hx hb dX12_takeNow_19 rfl (lv_at hl 2 rfl) ?_
        refine lv_iadd hx hb dX12_takeNow_20 ?_
        obtain ⟨hb15, hf⟩ := ck_s hf
        refine r_iald hC hP hO.2.1 hb15 dX12_takeNow_21 ?_
        obtain ⟨hb16, hf⟩ := ck_s hf
        refine r_iast hC hP hS hO.2.2.2.2.2.1 hb16 dX12_takeNow_22 (fun H locs hP hS => ?_)
        obtain ⟨M17, eM17, hf, hP⟩ := bsM hf hP
        obtain ⟨z18, ez18, hf⟩ := bsJ hf
        refine lv_iinc (v := z18) (lv' := [(2, .int z18), (0, .ref y), (1, .int x1)]) hx hb dX12_takeNow_23 hl (k := 2) rfl (by rw [ez18]; rfl) (by decide) rfl (fun ls hl => ?_)
        refine lv_goto (tgt := 2) hx hb dX12_takeNow_26 (by decide) ?_
        exact ih x1 z18 M17 _ _ _ hf hP hS (lv_sub hl [1, 2, 0] rfl)
  unfold f_X12_takeNow at hf
  refine lv_iconst (v := (0 : Int32)) hx hb dX12_takeNow_0 (by decide) ?_
  refine lv_istore_n (lv' := [(2, .int (0 : Int32)), (0, .ref y), (1, .int p0)]) hx hb dX12_takeNow_1 rfl hl (by decide) rfl (fun ls hl => ?_)
  exact L2 _ p0 (0 : Int32) M _ _ _ hf hP hS (lv_sub hl [1, 2, 0] rfl)
set_option maxRecDepth 100000 in
set_option maxHeartbeats 4000000 in
theorem k_X12_goMoon {g : Ev} {l : Launch} (hg : g.2.1.Nodup) {y : Nat} (hO : oModel g y) {M : Mm} {N : Ml} {p0 : Int32} {v : Int32} {MR : Mm} (hf : f_X12_goMoon y p0 M = some (v, MR)) : KM g l yX12_goMoon cX12_goMoon 7 (some .int) 2 [.ref y, .int p0] M N (QI g v MR N) := by
  refine KM.mk hg (by decide) (Nat.le_of_ble_eq_true rfl) ?_
  intro p e s m below meth c ls hC hr hlk hl hP hS
  have hx := hC.1
  have hb := hC.2.1
  have hl : lv_has ls 7 [(0, .ref y), (1, .int p0)] := hl
  have J159 : ∀ (kb4 : Int32 → Int32 → Int32 → Mm → Option (Int32 × Mm)) (hkb4 : ∀ (x1 : Int32) (x2 : Int32) (x3 : Int32) (M : Mm) (H : Heap) (locs : List Loc) (ls : Array Slot), kb4 x1 x2 x3 M = some (v, MR) → wP g M N H → va_S (wA g) s.heap H locs → lv_has ls 7 [(0, .ref y), (1, .int x1), (2, .int x2), (3, .int x3)] → W p l e (rmD 2) s m ([.ref y, .int p0] : List Value).toArray below meth c H locs 0 0 (MQ below (QI g v MR N) ([.ref y, .int p0] : List Value).toArray s 0 0 (wA g)) (F0 m 4 ls [])) (x1 : Int32) (x2 : Int32) (x3 : Int32) (M : Mm) (H : Heap) (locs : List Loc) (ls : Array Slot), f_X12_goMoon_J159 y x1 x2 x3 M kb4 = some (v, MR) → wP g M N H → va_S (wA g) s.heap H locs → lv_has ls 7 [(0, .ref y), (1, .int x1), (2, .int x2), (3, .int x3)] → W p l e (rmD 2) s m ([.ref y, .int p0] : List Value).toArray below meth c H locs 0 0 (MQ below (QI g v MR N) ([.ref y, .int p0] : List Value).toArray s 0 0 (wA g)) (F0 m 159 ls []) := by
    intro kb4 hkb4 x1 x2 x3 M H locs ls hf hP hS hl
    unfold f_X12_goMoon_J159 at hf
    obtain ⟨z9, ez9, hf⟩ := bsJ hf
    refine lv_iinc (v := z9) (lv' := [(3, .int z9), (0, .ref y), (1, .int x1), (2, .int x2)]) hx hb dX12_goMoon_159 hl (k := 3) rfl (by rw [ez9]; rfl) (by decide) rfl (fun ls hl => ?_)
    refine lv_goto (tgt := 4) hx hb dX12_goMoon_162 (by decide) ?_
    exact hkb4 x1 x2 z9 M _ _ _ hf hP hS (lv_sub hl [1, 2, 3, 0] rfl)
  have L128 : ∀ (kb4 : Int32 → Int32 → Int32 → Mm → Option (Int32 × Mm)) (hkb4 : ∀ (x1 : Int32) (x2 : Int32) (x3 : Int32) (M : Mm) (H : Heap) (locs : List Loc) (ls : Array Slot), kb4 x1 x2 x3 M = some (v, MR) → wP g M N H → va_S (wA g) s.heap H locs → lv_has ls 7 [(0, .ref y), (1, .int x1), (2, .int x2), (3, .int x3)] → W p l e (rmD 2) s m ([.ref y, .int p0] : List Value).toArray below meth c H locs 0 0 (MQ below (QI g v MR N) ([.ref y, .int p0] : List Value).toArray s 0 0 (wA g)) (F0 m 4 ls [])) (n : Nat) (x1 : Int32) (x2 : Int32) (x3 : Int32) (x4 : Int32) (M : Mm) (H : Heap) (locs : List Loc) (ls : Array Slot), f_X12_goMoon_L128 y kb4 n x1 x2 x3 x4 M = some (v, MR) → wP g M N H → va_S (wA g) s.heap H locs → lv_has ls 7 [(0, .ref y), (1, .int x1), (2, .int x2), (3, .int x3), (4, .int x4)] → W p l e (rmD 2) s m ([.ref y, .int p0] : List Value).toArray below meth c H locs 0 0 (MQ below (QI g v MR N) ([.ref y, .int p0] : List Value).toArray s 0 0 (wA g)) (F0 m 128 ls []) := by
    intro kb4 hkb4
    intro n
    induction n with
    | zero =>
      intro x1 x2 x3 x4 M H locs ls hf
      exact absurd hf (by simp [f_X12_goMoon_L128])
    | succ n ih =>
      intro x1 x2 x3 x4 M H locs ls hf hP hS hl
      unfold f_X12_goMoon_L128 at hf
      refine lv_iload hx hb dX12_goMoon_128 (lv_at hl 4 rfl) ?_
      refine lv_iconst (v := (5 : Int32)) hx hb dX12_goMoon_130 (by decide) ?_
      refine lv_icmp_ge (tgt := 159) hx hb dX12_goMoon_131 (by decide) (fun c12 => ?_) (fun c12 => ?_)
      · have hf := if_t c12 hf
        exact J159 _ hkb4 x1 x2 x3 M _ _ _ hf hP hS (lv_sub hl [0, 1, 2, 3] rfl)
      · have hf := if_f c12 hf
        refine lv_aload_n hx hb dX12_goMoon_134 rfl (lv_at hl 0 rfl) ?_
        refine r_getR hC hP hO.1 fl_X12_27 rfl dX12_goMoon_135 ?_
        refine lv_bipush (v := (24 : Int32)) hx hb dX12_goMoon_138 (by decide) ?_
        refine lv_iload hx hb dX12_goMoon_140 (lv_at hl 4 rfl) ?_
        refine lv_imul hx hb dX12_goMoon_142 ?_
        refine lv_iload_n hx hb dX12_goMoon_143 rfl (lv_at hl 3 rfl) ?_
        refine lv_iadd hx hb dX12_goMoon_144 ?_
        refine lv_aload_n hx hb dX12_goMoon_145 rfl (lv_at hl 0 rfl) ?_
        refine r_getR hC hP hO.1 fl_X12_30 rfl dX12_goMoon_146 ?_
        refine lv_iload hx hb dX12_goMoon_149 (lv_at hl 4 rfl) ?_
        obtain ⟨hb13, hf⟩ := ck_s hf
        refine r_iald hC hP hO.2.2.2.2.2.2.1 hb13 dX12_goMoon_151 ?_
        obtain ⟨hb14, hf⟩ := ck_s hf
        refine r_iast hC hP hS hO.2.2.2.2.2.1 hb14 dX12_goMoon_152 (fun H locs hP hS => ?_)
        obtain ⟨M15, eM15, hf, hP⟩ := bsM hf hP
        obtain ⟨z16, ez16, hf⟩ := bsJ hf
        refine lv_iinc (v := z16) (lv' := [(4, .int z16), (0, .ref y), (1, .int x1), (2, .int x2), (3, .int x3)]) hx hb dX12_goMoon_153 hl (k := 4) rfl (by rw [ez16]; rfl) (by decide) rfl (fun ls hl => ?_)
        refine lv_goto (tgt := 128) hx hb dX12_goMoon_156 (by decide) ?_
        exact ih x1 x2 x3 z16 M15 _ _ _ hf hP hS (lv_sub hl [1, 2, 3, 4, 0] rfl)
  have J119 : ∀ (kb4 : Int32 → Int32 → Int32 → Mm → Option (Int32 × Mm)) (hkb4 : ∀ (x1 : Int32) (x2 : Int32) (x3 : Int32) (M : Mm) (H : Heap) (locs : List Loc) (ls : Array Slot), kb4 x1 x2 x3 M = some (v, MR) → wP g M N H → va_S (wA g) s.heap H locs → lv_has ls 7 [(0, .ref y), (1, .int x1), (2, .int x2), (3, .int x3)] → W p l e (rmD 2) s m ([.ref y, .int p0] : List Value).toArray below meth c H locs 0 0 (MQ below (QI g v MR N) ([.ref y, .int p0] : List Value).toArray s 0 0 (wA g)) (F0 m 4 ls [])) (kb47 : Int32 → Int32 → Int32 → Int32 → Mm → Option (Int32 × Mm)) (hkb47 : ∀ (x1 : Int32) (x2 : Int32) (x3 : Int32) (x4 : Int32) (M : Mm) (H : Heap) (locs : List Loc) (ls : Array Slot), kb47 x1 x2 x3 x4 M = some (v, MR) → wP g M N H → va_S (wA g) s.heap H locs → lv_has ls 7 [(0, .ref y), (1, .int x1), (2, .int x2), (3, .int x3), (4, .int x4)] → W p l e (rmD 2) s m ([.ref y, .int p0] : List Value).toArray below meth c H locs 0 0 (MQ below (QI g v MR N) ([.ref y, .int p0] : List Value).toArray s 0 0 (wA g)) (F0 m 47 ls [])) (x1 : Int32) (x2 : Int32) (x3 : Int32) (x4 : Int32) (M : Mm) (H : Heap) (locs : List Loc) (ls : Array Slot), f_X12_goMoon_J119 y x1 x2 x3 x4 M kb4 kb47 = some (v, MR) → wP g M N H → va_S (wA g) s.heap H locs → lv_has ls 7 [(0, .ref y), (1, .int x1), (2, .int x2), (3, .int x3), (4, .int x4)] → W p l e (rmD 2) s m ([.ref y, .int p0] : List Value).toArray below meth c H locs 0 0 (MQ below (QI g v MR N) ([.ref y, .int p0] : List Value).toArray s 0 0 (wA g)) (F0 m 119 ls []) := by
    intro kb4 hkb4 kb47 hkb47 x1 x2 x3 x4 M H locs ls hf hP hS hl
    unfold f_X12_goMoon_J119 at hf
    obtain ⟨z28, ez28, hf⟩ := bsJ hf
    refine lv_iinc (v := z28) (lv' := [(4, .int z28), (0, .ref y), (1, .int x1), (2, .int x2), (3, .int x3)]) hx hb dX12_goMoon_119 hl (k := 4) rfl (by rw [ez28]; rfl) (by decide) rfl (fun ls hl => ?_)
    refine lv_goto (tgt := 47) hx hb dX12_goMoon_122 (by decide) ?_
    exact hkb47 x1 x2 x3 z28 M _ _ _ hf hP hS (lv_sub hl [1, 2, 3, 4, 0] rfl)
  have J89 : ∀ (kb4 : Int32 → Int32 → Int32 → Mm → Option (Int32 × Mm)) (hkb4 : ∀ (x1 : Int32) (x2 : Int32) (x3 : Int32) (M : Mm) (H : Heap) (locs : List Loc) (ls : Array Slot), kb4 x1 x2 x3 M = some (v, MR) → wP g M N H → va_S (wA g) s.heap H locs → lv_has ls 7 [(0, .ref y), (1, .int x1), (2, .int x2), (3, .int x3)] → W p l e (rmD 2) s m ([.ref y, .int p0] : List Value).toArray below meth c H locs 0 0 (MQ below (QI g v MR N) ([.ref y, .int p0] : List Value).toArray s 0 0 (wA g)) (F0 m 4 ls [])) (kb47 : Int32 → Int32 → Int32 → Int32 → Mm → Option (Int32 × Mm)) (hkb47 : ∀ (x1 : Int32) (x2 : Int32) (x3 : Int32) (x4 : Int32) (M : Mm) (H : Heap) (locs : List Loc) (ls : Array Slot), kb47 x1 x2 x3 x4 M = some (v, MR) → wP g M N H → va_S (wA g) s.heap H locs → lv_has ls 7 [(0, .ref y), (1, .int x1), (2, .int x2), (3, .int x3), (4, .int x4)] → W p l e (rmD 2) s m ([.ref y, .int p0] : List Value).toArray below meth c H locs 0 0 (MQ below (QI g v MR N) ([.ref y, .int p0] : List Value).toArray s 0 0 (wA g)) (F0 m 47 ls [])) (x1 : Int32) (x2 : Int32) (x3 : Int32) (x4 : Int32) (x5 : Int32) (s0 : Int32) (M : Mm) (H : Heap) (locs : List Loc) (ls : Array Slot), f_X12_goMoon_J89 y x1 x2 x3 x4 x5 s0 M kb4 kb47 = some (v, MR) → wP g M N H → va_S (wA g) s.heap H locs → lv_has ls 7 [(0, .ref y), (1, .int x1), (2, .int x2), (3, .int x3), (4, .int x4), (5, .int x5)] → W p l e (rmD 2) s m ([.ref y, .int p0] : List Value).toArray below meth c H locs 0 0 (MQ below (QI g v MR N) ([.ref y, .int p0] : List Value).toArray s 0 0 (wA g)) (F0 m 89 ls [.int s0]) := by
    intro kb4 hkb4 kb47 hkb47 x1 x2 x3 x4 x5 s0 M H locs ls hf hP hS hl
    unfold f_X12_goMoon_J89 at hf
    refine lv_istore (lv' := [(6, .int s0), (0, .ref y), (1, .int x1), (2, .int x2), (3, .int x3), (4, .int x4), (5, .int x5)]) hx hb dX12_goMoon_89 hl (by decide) rfl (fun ls hl => ?_)
    refine lv_iload hx hb dX12_goMoon_91 (lv_at hl 0 rfl) ?_
    obtain ⟨r23, hu24, hf⟩ := bd_s hf
    refine r_goI (r_runS (As := [.int s0]) (rest := []) hC hP hS (k_X12_isLane hg hu24) cw_X12_77 q_217 q_218 (Rm.D 1 2 rfl) rfl hl.1 rfl (Nat.le_of_ble_eq_true rfl) dX12_goMoon_93) hS (fun H locs hP hS => ?_)
    refine lv_if_eq (tgt := 114) hx hb dX12_goMoon_96 (by decide) (fun c26 => ?_) (fun c26 => ?_)
    · have hf := if_t c26 hf
      refine lv_iload_n hx hb dX12_goMoon_114 rfl (lv_at hl 3 rfl) ?_
      refine lv_iload hx hb dX12_goMoon_115 (lv_at hl 6 rfl) ?_
      refine lv_iadd hx hb dX12_goMoon_117 ?_
      refine lv_topi (fun z27 ez27 => ?_)
      have hf := bs ez27 hf
      refine lv_istore_n (lv' := [(2, .int z27), (6, .int s0), (0, .ref y), (1, .int x1), (3, .int x3), (4, .int x4), (5, .int x5)]) hx hb dX12_goMoon_118 rfl hl (by decide) rfl (fun ls hl => ?_)
      exact J119 _ hkb4 _ hkb47 x1 z27 x3 x4 M _ _ _ hf hP hS (lv_sub hl [2, 3, 0, 4, 5] rfl)
    · have hf := if_f c26 hf
      refine lv_aload_n hx hb dX12_goMoon_99 rfl (lv_at hl 1 rfl) ?_
      refine r_getR hC hP hO.1 fl_X12_30 rfl dX12_goMoon_100 ?_
      refine lv_iload hx hb dX12_goMoon_103 (lv_at hl 0 rfl) ?_
      refine lv_dup2_11 hx hb dX12_goMoon_105 rfl rfl ?_
      obtain ⟨hb29, hf⟩ := ck_s hf
      refine r_iald hC hP hO.2.2.2.2.2.2.1 hb29 dX12_goMoon_106 ?_
      refine lv_iload hx hb dX12_goMoon_107 (lv_at hl 6 rfl) ?_
      refine lv_iadd hx hb dX12_goMoon_109 ?_
      obtain ⟨hb30, hf⟩ := ck_s hf
      refine r_iast hC hP hS hO.2.2.2.2.2.2.1 hb30 dX12_goMoon_110 (fun H locs hP hS => ?_)
      obtain ⟨M31, eM31, hf, hP⟩ := bsM hf hP
      refine lv_goto (tgt := 119) hx hb dX12_goMoon_111 (by decide) ?_
      exact J119 _ hkb4 _ hkb47 x1 x2 x3 x4 M31 _ _ _ hf hP hS (lv_sub hl [1, 2, 3, 4, 5] rfl)
  have L47 : ∀ (kb4 : Int32 → Int32 → Int32 → Mm → Option (Int32 × Mm)) (hkb4 : ∀ (x1 : Int32) (x2 : Int32) (x3 : Int32) (M : Mm) (H : Heap) (locs : List Loc) (ls : Array Slot), kb4 x1 x2 x3 M = some (v, MR) → wP g M N H → va_S (wA g) s.heap H locs → lv_has ls 7 [(0, .ref y), (1, .int x1), (2, .int x2), (3, .int x3)] → W p l e (rmD 2) s m ([.ref y, .int p0] : List Value).toArray below meth c H locs 0 0 (MQ below (QI g v MR N) ([.ref y, .int p0] : List Value).toArray s 0 0 (wA g)) (F0 m 4 ls [])) (n : Nat) (x1 : Int32) (x2 : Int32) (x3 : Int32) (x4 : Int32) (M : Mm) (H : Heap) (locs : List Loc) (ls : Array Slot), f_X12_goMoon_L47 y kb4 n x1 x2 x3 x4 M = some (v, MR) → wP g M N H → va_S (wA g) s.heap H locs → lv_has ls 7 [(0, .ref y), (1, .int x1), (2, .int x2), (3, .int x3), (4, .int x4)] → W p l e (rmD 2) s m ([.ref y, .int p0] : List Value).toArray below meth c H locs 0 0 (MQ below (QI g v MR N) ([.ref y, .int p0] : List Value).toArray s 0 0 (wA g)) (F0 m 47 ls []) := by
    intro kb4 hkb4
    intro n
    induction n with
    | zero =>
      intro x1 x2 x3 x4 M H locs ls hf
      exact absurd hf (by simp [f_X12_goMoon_L47])
    | succ n ih =>
      intro x1 x2 x3 x4 M H locs ls hf hP hS hl
      unfold f_X12_goMoon_L47 at hf
      refine lv_iload hx hb dX12_goMoon_47 (lv_at hl 4 rfl) ?_
      refine lv_iconst (v := (5 : Int32)) hx hb dX12_goMoon_49 (by decide) ?_
      refine lv_icmp_ge (tgt := 125) hx hb dX12_goMoon_50 (by decide) (fun c11 => ?_) (fun c11 => ?_)
      · have hf := if_t c11 hf
        refine lv_iconst (v := (0 : Int32)) hx hb dX12_goMoon_125 (by decide) ?_
        refine lv_istore (lv' := [(4, .int (0 : Int32)), (0, .ref y), (1, .int x1), (2, .int x2), (3, .int x3)]) hx hb dX12_goMoon_126 hl (by decide) rfl (fun ls hl => ?_)
        exact L128 _ hkb4 _ x1 x2 x3 (0 : Int32) M _ _ _ hf hP hS (lv_sub hl [1, 2, 3, 4, 0] rfl)
      · have hf := if_f c11 hf
        refine lv_aload_n hx hb dX12_goMoon_53 rfl (lv_at hl 0 rfl) ?_
        refine r_getR hC hP hO.1 fl_X12_27 rfl dX12_goMoon_54 ?_
        refine lv_bipush (v := (24 : Int32)) hx hb dX12_goMoon_57 (by decide) ?_
        refine lv_iload hx hb dX12_goMoon_59 (lv_at hl 4 rfl) ?_
        refine lv_imul hx hb dX12_goMoon_61 ?_
        refine lv_iload_n hx hb dX12_goMoon_62 rfl (lv_at hl 3 rfl) ?_
        refine lv_iadd hx hb dX12_goMoon_63 ?_
        obtain ⟨hb17, hf⟩ := ck_s hf
        refine r_iald hC hP hO.2.2.2.2.2.1 hb17 dX12_goMoon_64 ?_
        refine lv_topi (fun z18 ez18 => ?_)
        have hf := bs ez18 hf
        refine lv_istore (lv' := [(5, .int z18), (0, .ref y), (1, .int x1), (2, .int x2), (3, .int x3), (4, .int x4)]) hx hb dX12_goMoon_65 hl (by decide) rfl (fun ls hl => ?_)
        refine lv_aload_n hx hb dX12_goMoon_67 rfl (lv_at hl 1 rfl) ?_
        refine lv_iload_n hx hb dX12_goMoon_68 rfl (lv_at hl 2 rfl) ?_
        refine lv_iload hx hb dX12_goMoon_69 (lv_at hl 5 rfl) ?_
        obtain ⟨r19, hu20, hf⟩ := bd_s hf
        refine r_goI (r_runV (As := [.int x1, .int x4]) (rest := []) hC hP hS (k_X12_isBeside hg hO hu20) cw_X12_112 q_577 q_578 q_579 (Rm.D 1 2 rfl) hO.1 rfl rfl hl.1 rfl (Nat.le_of_ble_eq_true rfl) dX12_goMoon_71) hS (fun H locs hP hS => ?_)
        refine lv_if_eq (tgt := 87) hx hb dX12_goMoon_74 (by decide) (fun c22 => ?_) (fun c22 => ?_)
        · have hf := if_t c22 hf
          refine lv_iload hx hb dX12_goMoon_87 (lv_at hl 5 rfl) ?_
          exact J89 _ hkb4 _ ih x1 x2 x3 x4 z18 x4 M _ _ _ hf hP hS (lv_sub hl [1, 2, 3, 4, 5, 0] rfl)
        · have hf := if_f c22 hf
          refine lv_aload_n hx hb dX12_goMoon_77 rfl (lv_at hl 1 rfl) ?_
          refine lv_iload_n hx hb dX12_goMoon_78 rfl (lv_at hl 2 rfl) ?_
          refine lv_iload hx hb dX12_goMoon_79 (lv_at hl 5 rfl) ?_
          obtain ⟨r32, hu33, hf⟩ := bd_s hf
          refine r_goI (r_runV (As := [.int x1, .int x4]) (rest := []) hC hP hS (k_X12_movedTo hg hO hu33) cw_X12_115 q_581 q_582 q_583 (Rm.D 1 2 rfl) hO.1 rfl rfl hl.1 rfl (Nat.le_of_ble_eq_true rfl) dX12_goMoon_81) hS (fun H locs hP hS => ?_)
          refine lv_goto (tgt := 89) hx hb dX12_goMoon_84 (by decide) ?_
          exact J89 _ hkb4 _ ih x1 x2 x3 x4 z18 r32 M _ _ _ hf hP hS (lv_sub hl [1, 2, 3, 4, 5, 0] rfl)
  have L24 : ∀ (kb4 : Int32 → Int32 → Int32 → Mm → Option (Int32 × Mm)) (hkb4 : ∀ (x1 : Int32) (x2 : Int32) (x3 : Int32) (M : Mm) (H : Heap) (locs : List Loc) (ls : Array Slot), kb4 x1 x2 x3 M = some (v, MR) → wP g M N H → va_S (wA g) s.heap H locs → lv_has ls 7 [(0, .ref y), (1, .int x1), (2, .int x2), (3, .int x3)] → W p l e (rmD 2) s m ([.ref y, .int p0] : List Value).toArray below meth c H locs 0 0 (MQ below (QI g v MR N) ([.ref y, .int p0] : List Value).toArray s 0 0 (wA g)) (F0 m 4 ls [])) (n : Nat) (x1 : Int32) (x2 : Int32) (x3 : Int32) (x4 : Int32) (M : Mm) (H : Heap) (locs : List Loc) (ls : Array Slot), f_X12_goMoon_L24 y kb4 n x1 x2 x3 x4 M = some (v, MR) → wP g M N H → va_S (wA g) s.heap H locs → lv_has ls 7 [(0, .ref y), (1, .int x1), (2, .int x2), (3, .int x3), (4, .int x4)] → W p l e (rmD 2) s m ([.ref y, .int p0] : List Value).toArray below meth c H locs 0 0 (MQ below (QI g v MR N) ([.ref y, .int p0] : List Value).toArray s 0 0 (wA g)) (F0 m 24 ls []) := by
    intro kb4 hkb4
    intro n
    induction n with
    | zero =>
      intro x1 x2 x3 x4 M H locs ls hf
      exact absurd hf (by simp [f_X12_goMoon_L24])
    | succ n ih =>
      intro x1 x2 x3 x4 M H locs ls hf hP hS hl
      unfold f_X12_goMoon_L24 at hf
      refine lv_iload hx hb dX12_goMoon_24 (lv_at hl 4 rfl) ?_
      refine lv_iconst (v := (5 : Int32)) hx hb dX12_goMoon_26 (by decide) ?_
      refine lv_icmp_ge (tgt := 44) hx hb dX12_goMoon_27 (by decide) (fun c10 => ?_) (fun c10 => ?_)
      · have hf := if_t c10 hf
        refine lv_iconst (v := (0 : Int32)) hx hb dX12_goMoon_44 (by decide) ?_
        refine lv_istore (lv' := [(4, .int (0 : Int32)), (0, .ref y), (1, .int x1), (2, .int x2), (3, .int x3)]) hx hb dX12_goMoon_45 hl (by decide) rfl (fun ls hl => ?_)
        exact L47 _ hkb4 _ x1 x2 x3 (0 : Int32) M _ _ _ hf hP hS (lv_sub hl [1, 2, 3, 4, 0] rfl)
      · have hf := if_f c10 hf
        refine lv_aload_n hx hb dX12_goMoon_30 rfl (lv_at hl 0 rfl) ?_
        refine r_getR hC hP hO.1 fl_X12_30 rfl dX12_goMoon_31 ?_
        refine lv_iload hx hb dX12_goMoon_34 (lv_at hl 4 rfl) ?_
        refine lv_iconst (v := (0 : Int32)) hx hb dX12_goMoon_36 (by decide) ?_
        obtain ⟨hb35, hf⟩ := ck_s hf
        refine r_iast hC hP hS hO.2.2.2.2.2.2.1 hb35 dX12_goMoon_37 (fun H locs hP hS => ?_)
        obtain ⟨M36, eM36, hf, hP⟩ := bsM hf hP
        obtain ⟨z37, ez37, hf⟩ := bsJ hf
        refine lv_iinc (v := z37) (lv' := [(4, .int z37), (0, .ref y), (1, .int x1), (2, .int x2), (3, .int x3)]) hx hb dX12_goMoon_38 hl (k := 4) rfl (by rw [ez37]; rfl) (by decide) rfl (fun ls hl => ?_)
        refine lv_goto (tgt := 24) hx hb dX12_goMoon_41 (by decide) ?_
        exact ih x1 x2 x3 z37 M36 _ _ _ hf hP hS (lv_sub hl [1, 2, 3, 4, 0] rfl)
  have L4 : ∀ (n : Nat) (x1 : Int32) (x2 : Int32) (x3 : Int32) (M : Mm) (H : Heap) (locs : List Loc) (ls : Array Slot), f_X12_goMoon_L4 y n x1 x2 x3 M = some (v, MR) → wP g M N H → va_S (wA g) s.heap H locs → lv_has ls 7 [(0, .ref y), (1, .int x1), (2, .int x2), (3, .int x3)] → W p l e (rmD 2) s m ([.ref y, .int p0] : List Value).toArray below meth c H locs 0 0 (MQ below (QI g v MR N) ([.ref y, .int p0] : List Value).toArray s 0 0 (wA g)) (F0 m 4 ls []) := by
    intro n
    induction n with
    | zero =>
      intro x1 x2 x3 M H locs ls hf
      exact absurd hf (by simp [f_X12_goMoon_L4])
    | succ n ih =>
      intro x1 x2 x3 M H locs ls hf hP hS hl
      unfold f_X12_goMoon_L4 at hf
      refine lv_iload_n hx hb dX12_goMoon_4 rfl (lv_at hl 3 rfl) ?_
      refine lv_aload_n hx hb dX12_goMoon_5 rfl (lv_at hl 0 rfl) ?_
      obtain ⟨r1, hu2, hf⟩ := bd_s hf
      refine r_goI (r_runV (As := []) (rest := [.int x3]) hC hP hS (k_X12_places hg hO hu2) cw_X12_64 q_200 q_201 q_202 (Rm.D 0 2 rfl) hO.1 rfl rfl hl.1 rfl (Nat.le_of_ble_eq_true rfl) dX12_goMoon_6) hS (fun H locs hP hS => ?_)
      refine lv_icmp_ge (tgt := 165) hx hb dX12_goMoon_9 (by decide) (fun c4 => ?_) (fun c4 => ?_)
      · have hf := if_t c4 hf
        refine lv_iload_n hx hb dX12_goMoon_165 rfl (lv_at hl 2 rfl) ?_
        exact e_IM hC hr hlk hP hS dX12_goMoon_166 hf
      · have hf := if_f c4 hf
        refine lv_aload_n hx hb dX12_goMoon_12 rfl (lv_at hl 0 rfl) ?_
        refine lv_iload_n hx hb dX12_goMoon_13 rfl (lv_at hl 1 rfl) ?_
        refine lv_iload_n hx hb dX12_goMoon_14 rfl (lv_at hl 3 rfl) ?_
        obtain ⟨r5, hu6, hf⟩ := bd_s hf
        refine r_goI (r_runV (As := [.int x1, .int x3]) (rest := []) hC hP hS (k_X12_isBy hg hO hu6) cw_X12_108 q_573 q_574 q_575 (Rm.D 1 2 rfl) hO.1 rfl rfl hl.1 rfl (Nat.le_of_ble_eq_true rfl) dX12_goMoon_15) hS (fun H locs hP hS => ?_)
        refine lv_if_eq (tgt := 159) hx hb dX12_goMoon_18 (by decide) (fun c8 => ?_) (fun c8 => ?_)
        · have hf := if_t c8 hf
          exact J159 _ ih x1 x2 x3 M _ _ _ hf hP hS (lv_sub hl [0, 1, 2, 3] rfl)
        · have hf := if_f c8 hf
          refine lv_iconst (v := (0 : Int32)) hx hb dX12_goMoon_21 (by decide) ?_
          refine lv_istore (lv' := [(4, .int (0 : Int32)), (0, .ref y), (1, .int x1), (2, .int x2), (3, .int x3)]) hx hb dX12_goMoon_22 hl (by decide) rfl (fun ls hl => ?_)
          exact L24 _ ih _ x1 x2 x3 (0 : Int32) M _ _ _ hf hP hS (lv_sub hl [1, 2, 3, 4, 0] rfl)
  unfold f_X12_goMoon at hf
  refine lv_iconst (v := (0 : Int32)) hx hb dX12_goMoon_0 (by decide) ?_
  refine lv_istore_n (lv' := [(2, .int (0 : Int32)), (0, .ref y), (1, .int p0)]) hx hb dX12_goMoon_1 rfl hl (by decide) rfl (fun ls hl => ?_)
  refine lv_iconst (v := (0 : Int32)) hx hb dX12_goMoon_2 (by decide) ?_
  refine lv_istore_n (lv' := [(3, .int (0 : Int32)), (2, .int (0 : Int32)), (0, .ref y), (1, .int p0)]) hx hb dX12_goMoon_3 rfl hl (by decide) rfl (fun ls hl => ?_)
  exact L4 _ p0 (0 : Int32) (0 : Int32) M _ _ _ hf hP hS (lv_sub hl [2, 3, 1, 0] rfl)
