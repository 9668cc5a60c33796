set_option maxRecDepth 100000 in
set_option maxHeartbeats 4000000 in
theorem k_X0_cell {g : Ev} {l : Launch} (hg : g.2.1.Nodup)   {M : Mm} {N : Ml} {p0 : Int32} {p1 : Int32} {v : Int32} (hf : f_X0_cell p0 p1 M = some v) : KM g l yX0_cell cX0_cell 2 (some .int) 0 [.int p0, .int p1] M N (QI g v M N) := by
  refine KM.mk hg (by decide) (Nat.le_of_ble_eq_true rfl) ?_
  intro p e s m below meth c ls hC hr hlk hl hP hS
  have hx := hC.1
  have hb := hC.2.1
  have hl : lv_has ls 2 [(0, .int p0), (1, .int p1)] := hl
  unfold f_X0_cell at hf
  refine lv_iload_n hx hb dX0_cell_0 rfl (lv_at hl 0 rfl) ?_
  refine lv_bipush (v := (24 : Int32)) hx hb dX0_cell_1 (by decide) ?_
  refine lv_imul hx hb dX0_cell_3 ?_
  refine lv_iload_n hx hb dX0_cell_4 rfl (lv_at hl 1 rfl) ?_
  refine lv_iadd hx hb dX0_cell_5 ?_
  exact e_I hC hr hlk hP hS dX0_cell_6 hf
set_option maxRecDepth 100000 in
set_option maxHeartbeats 4000000 in
theorem k_X0_costIfLeft {g : Ev} {l : Launch} (hg : g.2.1.Nodup) {kd : Nat} {cs : Nat} {r : Nat} (hO : oCourse g kd r cs) {M : Mm} {N : Ml} {p0 : Int32} {p1 : Int32} {v : Int32} (hf : f_X0_costIfLeft cs r p0 p1 M = some v) : KM g l yX0_costIfLeft cX0_costIfLeft 3 (some .int) 1 [.ref cs, .int p0, .int p1] M N (QI g v M N) := by
  refine KM.mk hg (by decide) (Nat.le_of_ble_eq_true rfl) ?_
  intro p e s m below meth c ls hC hr hlk hl hP hS
  have hx := hC.1
  have hb := hC.2.1
  have hl : lv_has ls 3 [(0, .ref cs), (1, .int p0), (2, .int p1)] := hl
  unfold f_X0_costIfLeft at hf
  refine lv_iload_n hx hb dX0_costIfLeft_0 rfl (lv_at hl 1 rfl) ?_
  obtain ⟨r1, hu2, hf⟩ := bd_s hf
  refine r_goI (r_runSN (As := [.int p0]) (rest := []) hC hP hS (k_X11_isLane hg hu2) cw_X0_104 hC.2.2.2.2.2.1.2.1.1 q_210 (Rm.D 0 1 rfl) rfl hl.1 rfl (Nat.le_of_ble_eq_true rfl) dX0_costIfLeft_1) hS (fun H locs hP hS => ?_)
  refine lv_if_eq (tgt := 20) hx hb dX0_costIfLeft_4 (by decide) (fun c4 => ?_) (fun c4 => ?_)
  · have hf := if_t c4 hf
    refine lv_sipush (v := (1000 : Int32)) hx hb dX0_costIfLeft_20 (by decide) ?_
    exact e_I hC hr hlk hP hS dX0_costIfLeft_23 hf
  · have hf := if_f c4 hf
    refine lv_aload_n hx hb dX0_costIfLeft_7 rfl (lv_at hl 0 rfl) ?_
    refine r_getR hC hP hO.1 fl_X0_32 rfl dX0_costIfLeft_8 ?_
    refine lv_iload_n hx hb dX0_costIfLeft_11 rfl (lv_at hl 1 rfl) ?_
    refine lv_iload_n hx hb dX0_costIfLeft_12 rfl (lv_at hl 2 rfl) ?_
    obtain ⟨r5, hu6, hf⟩ := bd_s hf
    refine r_goI (r_runS (As := [.int p0, .int p1]) (rest := [.ref (cs + 13)]) hC hP hS (k_X0_cell hg hu6) cw_X0_87 q_736 q_737 (Rm.D 0 1 rfl) rfl hl.1 rfl (Nat.le_of_ble_eq_true rfl) dX0_costIfLeft_13) hS (fun H locs hP hS => ?_)
    obtain ⟨hb8, hf⟩ := ck_s hf
    refine r_iald hC hP hO.2.2.2.2.2.2.1 hb8 dX0_costIfLeft_16 ?_
    refine lv_goto (tgt := 23) hx hb dX0_costIfLeft_17 (by decide) ?_
    exact e_I hC hr hlk hP hS dX0_costIfLeft_23 hf
set_option maxRecDepth 100000 in
set_option maxHeartbeats 4000000 in
theorem k_X5_lumpsIn {g : Ev} {l : Launch} (hg : g.2.1.Nodup) {kd : Nat} {a : Nat} (hO : oRing g kd a) {M : Mm} {N : Ml} {p0 : Int32} {v : Int32} (hf : f_X5_lumpsIn a p0 M = some v) : KM g l yX5_lumpsIn cX5_lumpsIn 5 (some .int) 0 [.ref a, .int p0] M N (QI g v M N) := by
  refine KM.mk hg (by decide) (Nat.le_of_ble_eq_true rfl) ?_
  intro p e s m below meth c ls hC hr hlk hl hP hS
  have hx := hC.1
  have hb := hC.2.1
  have hl : lv_has ls 5 [(0, .ref a), (1, .int p0)] := hl
  have L10 : ∀ (n : Nat) (x2 : Int32) (x3 : Int32) (x4 : Int32) (H : Heap) (locs : List Loc) (ls : Array Slot), f_X5_lumpsIn_L10 a M n x2 x3 x4 = some v → wP g M N H → va_S (wA g) s.heap H locs → lv_has ls 5 [(0, .ref a), (2, .int x2), (3, .int x3), (4, .int x4)] → W p l e (rmD 0) s m ([.ref a, .int p0] : List Value).toArray below meth c H locs 0 0 (MQ below (QI g v M N) ([.ref a, .int p0] : List Value).toArray s 0 0 (wA g)) (F0 m 10 ls []) := by
    intro n
    induction n with
    | zero =>
      intro x2 x3 x4 H locs ls hf
      exact absurd hf (by simp [f_X5_lumpsIn_L10])
    | succ n ih =>
      intro x2 x3 x4 H locs ls hf hP hS hl
      unfold f_X5_lumpsIn_L10 at hf
      refine lv_iload hx hb dX5_lumpsIn_10 (lv_at hl 3 rfl) ?_
      refine lv_iload_n hx hb dX5_lumpsIn_12 rfl (lv_at hl 2 rfl) ?_
      refine lv_aload_n hx hb dX5_lumpsIn_13 rfl (lv_at hl 0 rfl) ?_
      refine r_getI hC hP hO.1 fl_X5_44 rfl dX5_lumpsIn_14 ?_
      refine lv_iadd hx hb dX5_lumpsIn_17 ?_
      refine lv_icmp_ge (tgt := 37) hx hb dX5_lumpsIn_18 (by decide) (fun c2 => ?_) (fun c2 => ?_)
      · have hf := if_t c2 hf
        refine lv_iload_n hx hb dX5_lumpsIn_37 rfl (lv_at hl 1 rfl) ?_
        exact e_I hC hr hlk hP hS dX5_lumpsIn_38 hf
      · have hf := if_f c2 hf
        refine lv_iload_n hx hb dX5_lumpsIn_21 rfl (lv_at hl 1 rfl) ?_
        refine lv_aload_n hx hb dX5_lumpsIn_22 rfl (lv_at hl 0 rfl) ?_
        refine r_getR hC hP hO.1 fl_X5_22 rfl dX5_lumpsIn_23 ?_
        refine lv_iload hx hb dX5_lumpsIn_26 (lv_at hl 3 rfl) ?_
        obtain ⟨hb3, hf⟩ := ck_s hf
        refine r_iald hC hP hO.2.2.2.1 hb3 dX5_lumpsIn_28 ?_
        refine lv_iadd hx hb dX5_lumpsIn_29 ?_
        refine lv_topi (fun z4 ez4 => ?_)
        have hf := bs ez4 hf
        refine lv_istore_n (lv' := [(2, .int z4), (0, .ref a), (3, .int x3), (4, .int x4)]) hx hb dX5_lumpsIn_30 rfl hl (by decide) rfl (fun ls hl => ?_)
        obtain ⟨z5, ez5, hf⟩ := bsJ hf
        refine lv_iinc (v := z5) (lv' := [(4, .int z5), (2, .int z4), (0, .ref a), (3, .int x3)]) hx hb dX5_lumpsIn_31 hl (k := 3) rfl (by rw [ez5]; rfl) (by decide) rfl (fun ls hl => ?_)
        refine lv_goto (tgt := 10) hx hb dX5_lumpsIn_34 (by decide) ?_
        exact ih z4 x3 z5 _ _ _ hf hP hS (lv_sub hl [2, 1, 3, 0] rfl)
  unfold f_X5_lumpsIn at hf
  refine lv_iconst (v := (0 : Int32)) hx hb dX5_lumpsIn_0 (by decide) ?_
  refine lv_istore_n (lv' := [(2, .int (0 : Int32)), (0, .ref a), (1, .int p0)]) hx hb dX5_lumpsIn_1 rfl hl (by decide) rfl (fun ls hl => ?_)
  refine lv_iload_n hx hb dX5_lumpsIn_2 rfl (lv_at hl 2 rfl) ?_
  refine lv_bipush (v := (24 : Int32)) hx hb dX5_lumpsIn_3 (by decide) ?_
  refine lv_imul hx hb dX5_lumpsIn_5 ?_
  refine lv_topi (fun z1 ez1 => ?_)
  have hf := bs ez1 hf
  refine lv_istore_n (lv' := [(3, .int z1), (2, .int (0 : Int32)), (0, .ref a), (1, .int p0)]) hx hb dX5_lumpsIn_6 rfl hl (by decide) rfl (fun ls hl => ?_)
  refine lv_iload_n hx hb dX5_lumpsIn_7 rfl (lv_at hl 0 rfl) ?_
  refine lv_istore (lv' := [(4, .int z1), (3, .int z1), (2, .int (0 : Int32)), (0, .ref a), (1, .int p0)]) hx hb dX5_lumpsIn_8 hl (by decide) rfl (fun ls hl => ?_)
  exact L10 _ (0 : Int32) z1 z1 _ _ _ hf hP hS (lv_sub hl [3, 2, 1, 0] rfl)
set_option maxRecDepth 100000 in
set_option maxHeartbeats 4000000 in
theorem k_X0_sumLanes {g : Ev} {l : Launch} (hg : g.2.1.Nodup) {kd : Nat} {cs : Nat} {r : Nat} (hO : oCourse g kd r cs) {M : Mm} {N : Ml}  {MR : Mm} (hf : f_X0_sumLanes cs r M = some MR) : KM g l yX0_sumLanes cX0_sumLanes 2 none 1 [.ref cs] M N (QV g MR N) := by
  refine KM.mk hg (by decide) (Nat.le_of_ble_eq_true rfl) ?_
  intro p e s m below meth c ls hC hr hlk hl hP hS
  have hx := hC.1
  have hb := hC.2.1
  have hl : lv_has ls 2 [(0, .ref cs)] := hl
  have L2 : ∀ (n : Nat) (x1 : Int32) (M : Mm) (H : Heap) (locs : List Loc) (ls : Array Slot), f_X0_sumLanes_L2 cs r n x1 M = some MR → wP g M N H → va_S (wA g) s.heap H locs → lv_has ls 2 [(0, .ref cs), (1, .int x1)] → W p l e (rmD 1) s m ([.ref cs] : List Value).toArray below meth c H locs 0 0 (MQ below (QV g MR N) ([.ref cs] : List Value).toArray s 0 0 (wA g)) (F0 m 2 ls []) := by
    intro n
    induction n with
    | zero =>
      intro x1 M H locs ls hf
      exact absurd hf (by simp [f_X0_sumLanes_L2])
    | succ n ih =>
      intro x1 M H locs ls hf hP hS hl
      unfold f_X0_sumLanes_L2 at hf
      refine lv_iload_n hx hb dX0_sumLanes_2 rfl (lv_at hl 1 rfl) ?_
      refine lv_iconst (v := (5 : Int32)) hx hb dX0_sumLanes_3 (by decide) ?_
      refine lv_icmp_ge (tgt := 27) hx hb dX0_sumLanes_4 (by decide) (fun c1 => ?_) (fun c1 => ?_)
      · have hf := if_t c1 hf
        exact e_VM hC hr hlk hP hS dX0_sumLanes_27 hf
      · have hf := if_f c1 hf
        refine lv_aload_n hx hb dX0_sumLanes_7 rfl (lv_at hl 0 rfl) ?_
        refine r_getR hC hP hO.1 fl_X0_25 rfl dX0_sumLanes_8 ?_
        refine lv_iload_n hx hb dX0_sumLanes_11 rfl (lv_at hl 1 rfl) ?_
        refine lv_aload_n hx hb dX0_sumLanes_12 rfl (lv_at hl 0 rfl) ?_
        refine r_getR hC hP hO.1 fl_X0_9 rfl dX0_sumLanes_13 ?_
        refine lv_iload_n hx hb dX0_sumLanes_16 rfl (lv_at hl 1 rfl) ?_
        obtain ⟨r2, hu3, hf⟩ := bd_s hf
        refine r_goI (r_runV (As := [.int x1]) (rest := [.int x1, .ref (cs + 11)]) hC hP hS (k_X5_lumpsIn hg hO.2.1 hu3) cw_X0_122 q_845 q_608 q_609 (Rm.D 0 1 rfl) hO.2.1.1 rfl rfl hl.1 rfl (Nat.le_of_ble_eq_true rfl) dX0_sumLanes_17) hS (fun H locs hP hS => ?_)
        obtain ⟨hb5, hf⟩ := ck_s hf
        refine r_iast hC hP hS hO.2.2.2.2.1 hb5 dX0_sumLanes_20 (fun H locs hP hS => ?_)
        obtain ⟨M6, eM6, hf, hP⟩ := bsM hf hP
        obtain ⟨z7, ez7, hf⟩ := bsJ hf
        refine lv_iinc (v := z7) (lv' := [(1, .int z7), (0, .ref cs)]) hx hb dX0_sumLanes_21 hl (k := 1) rfl (by rw [ez7]; rfl) (by decide) rfl (fun ls hl => ?_)
        refine lv_goto (tgt := 2) hx hb dX0_sumLanes_24 (by decide) ?_
        exact ih z7 M6 _ _ _ hf hP hS (lv_sub hl [1, 0] rfl)
  unfold f_X0_sumLanes at hf
  refine lv_iconst (v := (0 : Int32)) hx hb dX0_sumLanes_0 (by decide) ?_
  refine lv_istore_n (lv' := [(1, .int (0 : Int32)), (0, .ref cs)]) hx hb dX0_sumLanes_1 rfl hl (by decide) rfl (fun ls hl => ?_)
  exact L2 _ (0 : Int32) M _ _ _ hf hP hS (lv_sub hl [1, 0] rfl)
set_option maxRecDepth 100000 in
set_option maxHeartbeats 4000000 in
theorem k_X0_farmerAhead {g : Ev} {l : Launch} (hg : g.2.1.Nodup) {kd : Nat} {cs : Nat} {r : Nat} (hO : oCourse g kd r cs) {M : Mm} {N : Ml} {p0 : Int32} {v : Int32} {MR : Mm} (hf : f_X0_farmerAhead cs r p0 M = some (v, MR)) : KM g l yX0_farmerAhead cX0_farmerAhead 2 (some .int) 9 [.ref cs, .int p0] M N (QI g v MR N) := by
  refine KM.mk hg (by decide) (Nat.le_of_ble_eq_true rfl) ?_
  intro p e s m below meth c ls hC hr hlk hl hP hS
  have hx := hC.1
  have hb := hC.2.1
  have hl : lv_has ls 2 [(0, .ref cs), (1, .int p0)] := hl
  unfold f_X0_farmerAhead at hf
  refine lv_aload_n hx hb dX0_farmerAhead_0 rfl (lv_at hl 0 rfl) ?_
  obtain ⟨M3, hu2, hf⟩ := bd_s hf
  refine r_goV (r_runV (As := []) (rest := []) hC hP hS (k_X0_sumLanes hg hO hu2) cw_X0_128 q_867 q_868 q_869 (Rm.D 1 9 rfl) hO.1 rfl rfl hl.1 rfl (Nat.le_of_ble_eq_true rfl) dX0_farmerAhead_1) hS (fun H locs hP hS => ?_)
  refine lv_aload_n hx hb dX0_farmerAhead_4 rfl (lv_at hl 0 rfl) ?_
  refine r_getR hC hP hO.1 fl_X0_25 rfl dX0_farmerAhead_5 ?_
  refine lv_iconst (v := (0 : Int32)) hx hb dX0_farmerAhead_8 (by decide) ?_
  refine lv_iload_n hx hb dX0_farmerAhead_9 rfl (lv_at hl 1 rfl) ?_
  obtain ⟨r4, hu5, hf⟩ := bd_s hf
  refine r_goI (r_runS (As := [.ref (cs + 11), .int (0 : Int32), .int p0]) (rest := []) hC hP hS (k_X0_aheadBy hg 8 hO.2.2.2.2.1 hu5) cw_X0_131 q_871 q_872 (Rm.D 8 9 rfl) rfl hl.1 rfl (Nat.le_of_ble_eq_true rfl) dX0_farmerAhead_10) hS (fun H locs hP hS => ?_)
  exact e_IM hC hr hlk hP hS dX0_farmerAhead_13 hf
set_option maxRecDepth 100000 in
set_option maxHeartbeats 4000000 in
theorem k_J7_fill_53178 {g : Ev} {l : Launch} (hg : g.2.1.Nodup) {p0 : Nat} {p0n : Nat} (hp0 : iAt g p0 p0n) {M : Mm} {N : Ml} {p1 : Int32} {MR : Mm} (hf : f_J7_fill_53178 p0 p0n p1 M = some MR) : KM g l yJ7_fill_53178 cJ7_fill_53178 4 none 0 [.ref p0, .int p1] M N (QV g MR N) := by
  refine KM.mk hg (by decide) (Nat.le_of_ble_eq_true rfl) ?_
  intro p e s m below meth c ls hC hr hlk hl hP hS
  have hx := hC.1
  have hb := hC.2.1
  have hl : lv_has ls 4 [(0, .ref p0), (1, .int p1)] := hl
  have L5 : ∀ (n : Nat) (x1 : Int32) (x2 : Int32) (x3 : Int32) (M : Mm) (H : Heap) (locs : List Loc) (ls : Array Slot), f_J7_fill_53178_L5 p0 p0n n x1 x2 x3 M = some MR → wP g M N H → va_S (wA g) s.heap H locs → lv_has ls 4 [(0, .ref p0), (1, .int x1), (2, .int x2), (3, .int x3)] → W p l e (rmD 0) s m ([.ref p0, .int p1] : List Value).toArray below meth c H locs 0 0 (MQ below (QV g MR N) ([.ref p0, .int p1] : List Value).toArray s 0 0 (wA g)) (F0 m 5 ls []) := by
    intro n
    induction n with
    | zero =>
      intro x1 x2 x3 M H locs ls hf
      exact absurd hf (by simp [f_J7_fill_53178_L5])
    | succ n ih =>
      intro x1 x2 x3 M H locs ls hf hP hS hl
      unfold f_J7_fill_53178_L5 at hf
      refine lv_iload_n hx hb dJ7_fill_53178_5 rfl (lv_at hl 2 rfl) ?_
      refine lv_iload_n hx hb dJ7_fill_53178_6 rfl (lv_at hl 3 rfl) ?_
      refine lv_icmp_ge (tgt := 20) hx hb dJ7_fill_53178_7 (by decide) (fun c2 => ?_) (fun c2 => ?_)
      · have hf := if_t c2 hf
        exact e_VM hC hr hlk hP hS dJ7_fill_53178_20 hf
      · have hf := if_f c2 hf
        refine lv_aload_n hx hb dJ7_fill_53178_10 rfl (lv_at hl 0 rfl) ?_
        refine lv_iload_n hx hb dJ7_fill_53178_11 rfl (lv_at hl 2 rfl) ?_
        refine lv_iload_n hx hb dJ7_fill_53178_12 rfl (lv_at hl 1 rfl) ?_
        obtain ⟨hb3, hf⟩ := ck_s hf
        refine r_iast hC hP hS hp0 hb3 dJ7_fill_53178_13 (fun H locs hP hS => ?_)
        obtain ⟨M4, eM4, hf, hP⟩ := bsM hf hP
        obtain ⟨z5, ez5, hf⟩ := bsJ hf
        refine lv_iinc (v := z5) (lv' := [(2, .int z5), (0, .ref p0), (1, .int x1), (3, .int x3)]) hx hb dJ7_fill_53178_14 hl (k := 2) rfl (by rw [ez5]; rfl) (by decide) rfl (fun ls hl => ?_)
        refine lv_goto (tgt := 5) hx hb dJ7_fill_53178_17 (by decide) ?_
        exact ih x1 z5 x3 M4 _ _ _ hf hP hS (lv_sub hl [1, 2, 0, 3] rfl)
  unfold f_J7_fill_53178 at hf
  refine lv_iconst (v := (0 : Int32)) hx hb dJ7_fill_53178_0 (by decide) ?_
  refine lv_istore_n (lv' := [(2, .int (0 : Int32)), (0, .ref p0), (1, .int p1)]) hx hb dJ7_fill_53178_1 rfl hl (by decide) rfl (fun ls hl => ?_)
  refine lv_aload_n hx hb dJ7_fill_53178_2 rfl (lv_at hl 1 rfl) ?_
  refine r_alen hC hP hp0 dJ7_fill_53178_3 ?_
  refine lv_topi (fun z1 ez1 => ?_)
  have hf := bs ez1 hf
  refine lv_istore_n (lv' := [(3, .int z1), (2, .int (0 : Int32)), (0, .ref p0), (1, .int p1)]) hx hb dJ7_fill_53178_4 rfl hl (by decide) rfl (fun ls hl => ?_)
  exact L5 _ p1 (0 : Int32) z1 M _ _ _ hf hP hS (lv_sub hl [2, 3, 1, 0] rfl)
set_option maxRecDepth 100000 in
set_option maxHeartbeats 4000000 in
theorem k_X2_lie {g : Ev} {l : Launch} (hg : g.2.1.Nodup) {a : Nat} (hO : oLump g a) {M : Mm} {N : Ml} {p0 : Int32} {p1 : Int32} {MR : Mm} (hf : f_X2_lie a p0 p1 M = some MR) : KM g l yX2_lie cX2_lie 3 none 0 [.ref a, .int p0, .int p1] M N (QV g MR N) := by
  refine KM.mk hg (by decide) (Nat.le_of_ble_eq_true rfl) ?_
  intro p e s m below meth c ls hC hr hlk hl hP hS
  have hx := hC.1
  have hb := hC.2.1
  have hl : lv_has ls 3 [(0, .ref a), (1, .int p0), (2, .int p1)] := hl
  unfold f_X2_lie at hf
  refine lv_aload_n hx hb dX2_lie_0 rfl (lv_at hl 0 rfl) ?_
  refine lv_iload_n hx hb dX2_lie_1 rfl (lv_at hl 1 rfl) ?_
  refine r_putI hC hP hS hO fl_X2_7 tyX2 tyX2_ok nmX2 rfl rfl rfl dX2_lie_2 (fun H locs hP hS => ?_)
  obtain ⟨M1, eM1, hf, hP⟩ := bsM hf hP
  refine lv_aload_n hx hb dX2_lie_5 rfl (lv_at hl 0 rfl) ?_
  refine lv_iload_n hx hb dX2_lie_6 rfl (lv_at hl 2 rfl) ?_
  refine r_putI hC hP hS hO fl_X2_13 tyX2 tyX2_ok nmX2 rfl rfl rfl dX2_lie_7 (fun H locs hP hS => ?_)
  obtain ⟨M2, eM2, hf, hP⟩ := bsM hf hP
  refine lv_aload_n hx hb dX2_lie_10 rfl (lv_at hl 0 rfl) ?_
  refine lv_iconst (v := (0 : Int32)) hx hb dX2_lie_11 (by decide) ?_
  refine r_putI hC hP hS hO fl_X2_16 tyX2 tyX2_ok nmX2 rfl rfl rfl dX2_lie_12 (fun H locs hP hS => ?_)
  obtain ⟨M3, eM3, hf, hP⟩ := bsM hf hP
  exact e_VM hC hr hlk hP hS dX2_lie_15 hf
set_option maxRecDepth 100000 in
set_option maxHeartbeats 4000000 in
theorem k_X2_isLost {g : Ev} {l : Launch} (hg : g.2.1.Nodup) {a : Nat} (hO : oLump g a) {M : Mm} {N : Ml}  {v : Int32} (hf : f_X2_isLost a M = some v) : KM g l yX2_isLost cX2_isLost 1 (some .boolean) 1 [.ref a] M N (QI g v M N) := by
  refine KM.mk hg (by decide) (Nat.le_of_ble_eq_true rfl) ?_
  intro p e s m below meth c ls hC hr hlk hl hP hS
  have hx := hC.1
  have hb := hC.2.1
  have hl : lv_has ls 1 [(0, .ref a)] := hl
  unfold f_X2_isLost at hf
  refine lv_aload_n hx hb dX2_isLost_0 rfl (lv_at hl 0 rfl) ?_
  refine r_getI hC hP hO fl_X2_7 rfl dX2_isLost_1 ?_
  obtain ⟨r1, hu2, hf⟩ := bd_s hf
  refine r_goI (r_runSN (As := [.int (M a 0)]) (rest := []) hC hP hS (k_X11_isLane hg hu2) cw_X2_19 hC.2.2.2.2.2.1.2.1.2.1 q_210 (Rm.D 0 1 rfl) rfl hl.1 rfl (Nat.le_of_ble_eq_true rfl) dX2_isLost_4) hS (fun H locs hP hS => ?_)
  refine lv_if_ne (tgt := 14) hx hb dX2_isLost_7 (by decide) (fun c4 => ?_) (fun c4 => ?_)
  · have hf := if_f c4 hf
    refine lv_iconst (v := (0 : Int32)) hx hb dX2_isLost_14 (by decide) ?_
    exact e_Z hC hr hlk (Or.inl rfl) hP hS dX2_isLost_15 hf
  · have hf := if_t c4 hf
    refine lv_iconst (v := (1 : Int32)) hx hb dX2_isLost_10 (by decide) ?_
    refine lv_goto (tgt := 15) hx hb dX2_isLost_11 (by decide) ?_
    exact e_Z hC hr hlk (Or.inr rfl) hP hS dX2_isLost_15 hf
set_option maxRecDepth 100000 in
set_option maxHeartbeats 4000000 in
theorem k_X5_pushOf {g : Ev} {l : Launch} (hg : g.2.1.Nodup) {kd : Nat} {a : Nat} (hO : oRing g kd a) {M : Mm} {N : Ml} {p0 : Int32} {p1 : Int32} {p2 : Int32} {p3 : Int32} {v : Int32} (hf : f_X5_pushOf a p0 p1 p2 p3 M = some v) : KM g l yX5_pushOf cX5_pushOf 8 (some .int) 2 [.ref a, .int p0, .int p1, .int p2, .int p3] M N (QI g v M N) := by
  refine KM.mk hg (by decide) (Nat.le_of_ble_eq_true rfl) ?_
  intro p e s m below meth c ls hC hr hlk hl hP hS
  have hx := hC.1
  have hb := hC.2.1
  have hl : lv_has ls 8 [(0, .ref a), (1, .int p0), (2, .int p1), (3, .int p2), (4, .int p3)] := hl
  have J24 : ∀ (x1 : Int32) (x2 : Int32) (x3 : Int32) (x4 : Int32) (x5 : Int32) (H : Heap) (locs : List Loc) (ls : Array Slot), f_X5_pushOf_J24 a M x1 x2 x3 x4 x5 = some v → wP g M N H → va_S (wA g) s.heap H locs → lv_has ls 8 [(0, .ref a), (1, .int x1), (2, .int x2), (3, .int x3), (4, .int x4), (5, .int x5)] → W p l e (rmD 2) s m ([.ref a, .int p0, .int p1, .int p2, .int p3] : List Value).toArray below meth c H locs 0 0 (MQ below (QI g v M N) ([.ref a, .int p0, .int p1, .int p2, .int p3] : List Value).toArray s 0 0 (wA g)) (F0 m 24 ls []) := by
    intro x1 x2 x3 x4 x5 H locs ls hf hP hS hl
    unfold f_X5_pushOf_J24 at hf
    refine lv_aload_n hx hb dX5_pushOf_24 rfl (lv_at hl 0 rfl) ?_
    refine r_getR hC hP hO.1 fl_X5_9 rfl dX5_pushOf_25 ?_
    refine lv_aload_n hx hb dX5_pushOf_28 rfl (lv_at hl 0 rfl) ?_
    refine r_getR hC hP hO.1 fl_X5_28 rfl dX5_pushOf_29 ?_
    refine lv_iload_n hx hb dX5_pushOf_32 rfl (lv_at hl 1 rfl) ?_
    obtain ⟨hb4, hf⟩ := ck_s hf
    refine r_iald hC hP hO.2.2.2.2.2.1 hb4 dX5_pushOf_33 ?_
    obtain ⟨hb5, hf⟩ := ck_s hf
    obtain ⟨j6, ej6, hf⟩ := bsJ hf
    have hj6 : j6 < 5 := by rw [ej6]; exact vin_lt hb5
    refine r_aalR (t0 := 2) (v := kd + 1 + j6) hC hP hO.2.2.2.2.2.2.2.2.2.1 rfl hb5 (by rw [ej6]) dX5_pushOf_34 ?_
    refine lv_astore (lv' := [(6, .ref (kd + 1 + j6)), (0, .ref a), (1, .int x1), (2, .int x2), (3, .int x3), (4, .int x4), (5, .int x5)]) hx hb dX5_pushOf_35 hl (by decide) rfl (fun ls hl => ?_)
    refine lv_aload hx hb dX5_pushOf_37 (lv_at hl 0 rfl) ?_
    refine lv_aload_n hx hb dX5_pushOf_39 rfl (lv_at hl 1 rfl) ?_
    refine r_getI hC hP hO.1 fl_X5_51 rfl dX5_pushOf_40 ?_
    refine lv_iload_n hx hb dX5_pushOf_43 rfl (lv_at hl 3 rfl) ?_
    refine lv_iadd hx hb dX5_pushOf_44 ?_
    obtain ⟨r7, hu8, hf⟩ := bd_s hf
    refine r_visAwake (rest := []) hC hl.1 hP hS hO.2.2.2.2.2.2.2.2.2 hu8 (Rm.D 1 2 rfl) (Nat.le_of_ble_eq_true rfl) dX5_pushOf_45 (fun H locs hP hS => ?_)
    refine lv_if_ne (tgt := 53) hx hb dX5_pushOf_48 (by decide) (fun c9 => ?_) (fun c9 => ?_)
    · have hf := if_f c9 hf
      refine lv_aload_n hx hb dX5_pushOf_53 rfl (lv_at hl 1 rfl) ?_
      refine lv_iload hx hb dX5_pushOf_54 (lv_at hl 5 rfl) ?_
      refine lv_aload_n hx hb dX5_pushOf_56 rfl (lv_at hl 1 rfl) ?_
      refine lv_aload_n hx hb dX5_pushOf_57 rfl (lv_at hl 1 rfl) ?_
      refine r_getR hC hP hO.1 fl_X5_34 rfl dX5_pushOf_58 ?_
      refine lv_iload_n hx hb dX5_pushOf_61 rfl (lv_at hl 2 rfl) ?_
      obtain ⟨hb10, hf⟩ := ck_s hf
      refine r_iald hC hP hO.2.2.2.2.2.2.2.1 hb10 dX5_pushOf_62 ?_
      refine lv_iload_n hx hb dX5_pushOf_63 rfl (lv_at hl 3 rfl) ?_
      refine lv_aload_n hx hb dX5_pushOf_64 rfl (lv_at hl 1 rfl) ?_
      refine r_getR hC hP hO.1 fl_X5_37 rfl dX5_pushOf_65 ?_
      refine lv_iload_n hx hb dX5_pushOf_68 rfl (lv_at hl 2 rfl) ?_
      obtain ⟨hb11, hf⟩ := ck_s hf
      refine r_iald hC hP hO.2.2.2.2.2.2.2.2.1 hb11 dX5_pushOf_69 ?_
      refine lv_imul hx hb dX5_pushOf_70 ?_
      refine lv_iadd hx hb dX5_pushOf_71 ?_
      obtain ⟨r12, hu13, hf⟩ := bd_s hf
      refine r_goI (r_runV (As := [.int ((M (a + 7) x1.toNatClampNeg) + (x2 * (M (a + 8) x1.toNatClampNeg)))]) (rest := [.int x4, .ref a]) hC hP hS (k_X5_around hg hO hu13) cw_X5_84 q_484 q_485 q_486 (Rm.D 0 2 rfl) hO.1 rfl rfl hl.1 rfl (Nat.le_of_ble_eq_true rfl) dX5_pushOf_72) hS (fun H locs hP hS => ?_)
      refine lv_isub hx hb dX5_pushOf_75 ?_
      refine lv_aload_n hx hb dX5_pushOf_76 rfl (lv_at hl 1 rfl) ?_
      refine r_getI hC hP hO.1 fl_X5_44 rfl dX5_pushOf_77 ?_
      refine lv_iadd hx hb dX5_pushOf_80 ?_
      obtain ⟨r15, hu16, hf⟩ := bd_s hf
      refine r_goI (r_runV (As := [.int ((x4 - r12) + (M a 9))]) (rest := []) hC hP hS (k_X5_around hg hO hu16) cw_X5_84 q_484 q_485 q_486 (Rm.D 0 2 rfl) hO.1 rfl rfl hl.1 rfl (Nat.le_of_ble_eq_true rfl) dX5_pushOf_81) hS (fun H locs hP hS => ?_)
      refine lv_istore (lv' := [(7, .int r15), (6, .ref (kd + 1 + j6)), (0, .ref a), (1, .int x1), (2, .int x2), (3, .int x3), (4, .int x4), (5, .int x5)]) hx hb dX5_pushOf_84 hl (by decide) rfl (fun ls hl => ?_)
      refine lv_iload hx hb dX5_pushOf_86 (lv_at hl 0 rfl) ?_
      refine lv_aload_n hx hb dX5_pushOf_88 rfl (lv_at hl 2 rfl) ?_
      refine r_getI hC hP hO.1 fl_X5_44 rfl dX5_pushOf_89 ?_
      refine lv_iload hx hb dX5_pushOf_92 (lv_at hl 0 rfl) ?_
      refine lv_isub hx hb dX5_pushOf_94 ?_
      refine r_min hC hl.1 q_676 q_476 q_477 q_478 (Rm.D 0 2 rfl) (Nat.le_of_ble_eq_true rfl) dX5_pushOf_95 ?_
      refine lv_aload hx hb dX5_pushOf_98 (lv_at hl 1 rfl) ?_
      obtain ⟨r18, hu19, hf⟩ := bd_s hf
      refine r_vreach (rest := [.int (jmin r15 ((M a 9) - r15))]) hC hl.1 hP hS hO.2.2.2.2.2.2.2.2.2 hu19 (Rm.D 1 2 rfl) (Nat.le_of_ble_eq_true rfl) dX5_pushOf_100 (fun H locs hP hS => ?_)
      refine lv_icmp_le (tgt := 108) hx hb dX5_pushOf_103 (by decide) (fun c20 => ?_) (fun c20 => ?_)
      · have hf := if_t c20 hf
        refine lv_iload_n hx hb dX5_pushOf_108 rfl (lv_at hl 5 rfl) ?_
        refine lv_iload hx hb dX5_pushOf_109 (lv_at hl 7 rfl) ?_
        refine lv_icmp_ne (tgt := 122) hx hb dX5_pushOf_111 (by decide) (fun c21 => ?_) (fun c21 => ?_)
        · have hf := if_f c21 hf
          refine lv_aload hx hb dX5_pushOf_122 (lv_at hl 1 rfl) ?_
          obtain ⟨r22, hu23, hf⟩ := bd_s hf
          refine r_vforce (rest := []) hC hl.1 hP hS hO.2.2.2.2.2.2.2.2.2 hu23 (Rm.D 1 2 rfl) (Nat.le_of_ble_eq_true rfl) dX5_pushOf_124 (fun H locs hP hS => ?_)
          refine lv_ineg hx hb dX5_pushOf_127 ?_
          exact e_I hC hr hlk hP hS dX5_pushOf_128 hf
        · have hf := if_t c21 hf
          refine lv_aload hx hb dX5_pushOf_114 (lv_at hl 1 rfl) ?_
          obtain ⟨r24, hu25, hf⟩ := bd_s hf
          refine r_vforce (rest := []) hC hl.1 hP hS hO.2.2.2.2.2.2.2.2.2 hu25 (Rm.D 1 2 rfl) (Nat.le_of_ble_eq_true rfl) dX5_pushOf_116 (fun H locs hP hS => ?_)
          refine lv_goto (tgt := 128) hx hb dX5_pushOf_119 (by decide) ?_
          exact e_I hC hr hlk hP hS dX5_pushOf_128 hf
      · have hf := if_f c20 hf
        refine lv_iconst (v := (0 : Int32)) hx hb dX5_pushOf_106 (by decide) ?_
        exact e_I hC hr hlk hP hS dX5_pushOf_107 hf
    · have hf := if_t c9 hf
      refine lv_iconst (v := (0 : Int32)) hx hb dX5_pushOf_51 (by decide) ?_
      exact e_I hC hr hlk hP hS dX5_pushOf_52 hf
  unfold f_X5_pushOf at hf
  refine lv_aload_n hx hb dX5_pushOf_0 rfl (lv_at hl 0 rfl) ?_
  refine r_getR hC hP hO.1 fl_X5_31 rfl dX5_pushOf_1 ?_
  refine lv_iload_n hx hb dX5_pushOf_4 rfl (lv_at hl 1 rfl) ?_
  obtain ⟨hb1, hf⟩ := ck_s hf
  refine r_iald hC hP hO.2.2.2.2.2.2.1 hb1 dX5_pushOf_5 ?_
  refine lv_topi (fun z2 ez2 => ?_)
  have hf := bs ez2 hf
  refine lv_istore (lv' := [(5, .int z2), (0, .ref a), (1, .int p0), (2, .int p1), (3, .int p2), (4, .int p3)]) hx hb dX5_pushOf_6 hl (by decide) rfl (fun ls hl => ?_)
  refine lv_iload_n hx hb dX5_pushOf_8 rfl (lv_at hl 4 rfl) ?_
  refine lv_iload hx hb dX5_pushOf_9 (lv_at hl 0 rfl) ?_
  refine lv_icmp_eq (tgt := 24) hx hb dX5_pushOf_11 (by decide) (fun c3 => ?_) (fun c3 => ?_)
  · have hf := if_t c3 hf
    exact J24 p0 p1 p2 p3 z2 _ _ _ hf hP hS (lv_sub hl [1, 2, 3, 4, 5, 0] rfl)
  · have hf := if_f c3 hf
    refine lv_iload_n hx hb dX5_pushOf_14 rfl (lv_at hl 4 rfl) ?_
    refine lv_iload hx hb dX5_pushOf_15 (lv_at hl 0 rfl) ?_
    refine lv_iconst (v := (1 : Int32)) hx hb dX5_pushOf_17 (by decide) ?_
    refine lv_isub hx hb dX5_pushOf_18 ?_
    refine lv_icmp_eq (tgt := 24) hx hb dX5_pushOf_19 (by decide) (fun c26 => ?_) (fun c26 => ?_)
    · have hf := if_t c26 hf
      exact J24 p0 p1 p2 p3 z2 _ _ _ hf hP hS (lv_sub hl [1, 2, 3, 4, 5, 0] rfl)
    · have hf := if_f c26 hf
      refine lv_iconst (v := (0 : Int32)) hx hb dX5_pushOf_22 (by decide) ?_
      exact e_I hC hr hlk hP hS dX5_pushOf_23 hf
set_option maxRecDepth 100000 in
set_option maxHeartbeats 4000000 in
theorem k_X2_goOn {g : Ev} {l : Launch} (hg : g.2.1.Nodup) {a : Nat} {p0 : Nat} {kdp0 : Nat} (hO : oLump g a) (hp0 : oRing g kdp0 p0) {M : Mm} {N : Ml} {p1 : Int32} {MR : Mm} (hf : f_X2_goOn a p0 p1 M = some MR) : KM g l yX2_goOn cX2_goOn 5 none 3 [.ref a, .ref p0, .int p1] M N (QV g MR N) := by
  refine KM.mk hg (by decide) (Nat.le_of_ble_eq_true rfl) ?_
  intro p e s m below meth c ls hC hr hlk hl hP hS
  have hx := hC.1
  have hb := hC.2.1
  have hl : lv_has ls 5 [(0, .ref a), (1, .ref p0), (2, .int p1)] := hl
  have J89 : ∀ (kb32 : Int32 → Int32 → Mm → Option (Mm)) (hkb32 : ∀ (x2 : Int32) (x3 : Int32) (M : Mm) (H : Heap) (locs : List Loc) (ls : Array Slot), kb32 x2 x3 M = some MR → wP g M N H → va_S (wA g) s.heap H locs → lv_has ls 5 [(0, .ref a), (1, .ref p0), (2, .int x2), (3, .int x3)] → W p l e (rmD 3) s m ([.ref a, .ref p0, .int p1] : List Value).toArray below meth c H locs 0 0 (MQ below (QV g MR N) ([.ref a, .ref p0, .int p1] : List Value).toArray s 0 0 (wA g)) (F0 m 32 ls [])) (x2 : Int32) (x3 : Int32) (M : Mm) (H : Heap) (locs : List Loc) (ls : Array Slot), f_X2_goOn_J89 a p0 x2 x3 M kb32 = some MR → wP g M N H → va_S (wA g) s.heap H locs → lv_has ls 5 [(0, .ref a), (1, .ref p0), (2, .int x2), (3, .int x3)] → W p l e (rmD 3) s m ([.ref a, .ref p0, .int p1] : List Value).toArray below meth c H locs 0 0 (MQ below (QV g MR N) ([.ref a, .ref p0, .int p1] : List Value).toArray s 0 0 (wA g)) (F0 m 89 ls []) := by
    intro kb32 hkb32 x2 x3 M H locs ls hf hP hS hl
    unfold f_X2_goOn_J89 at hf
    obtain ⟨z19, ez19, hf⟩ := bsJ hf
    refine lv_iinc (v := z19) (lv' := [(3, .int z19), (0, .ref a), (1, .ref p0), (2, .int x2)]) hx hb dX2_goOn_89 hl (k := 3) rfl (by rw [ez19]; rfl) (by decide) rfl (fun ls hl => ?_)
    refine lv_goto (tgt := 32) hx hb dX2_goOn_92 (by decide) ?_
    exact hkb32 x2 z19 M _ _ _ hf hP hS (lv_sub hl [1, 2, 3, 0] rfl)
  have L32 : ∀ (n : Nat) (x2 : Int32) (x3 : Int32) (M : Mm) (H : Heap) (locs : List Loc) (ls : Array Slot), f_X2_goOn_L32 a p0 n x2 x3 M = some MR → wP g M N H → va_S (wA g) s.heap H locs → lv_has ls 5 [(0, .ref a), (1, .ref p0), (2, .int x2), (3, .int x3)] → W p l e (rmD 3) s m ([.ref a, .ref p0, .int p1] : List Value).toArray below meth c H locs 0 0 (MQ below (QV g MR N) ([.ref a, .ref p0, .int p1] : List Value).toArray s 0 0 (wA g)) (F0 m 32 ls []) := by
    intro n
    induction n with
    | zero =>
      intro x2 x3 M H locs ls hf
      exact absurd hf (by simp [f_X2_goOn_L32])
    | succ n ih =>
      intro x2 x3 M H locs ls hf hP hS hl
      unfold f_X2_goOn_L32 at hf
      refine lv_iload_n hx hb dX2_goOn_32 rfl (lv_at hl 3 rfl) ?_
      refine lv_aload_n hx hb dX2_goOn_33 rfl (lv_at hl 1 rfl) ?_
      refine r_getI hC hP hp0.1 fl_X2_39 rfl dX2_goOn_34 ?_
      refine lv_icmp_ge (tgt := 95) hx hb dX2_goOn_37 (by decide) (fun c10 => ?_) (fun c10 => ?_)
      · have hf := if_t c10 hf
        exact e_VM hC hr hlk hP hS dX2_goOn_95 hf
      · have hf := if_f c10 hf
        refine lv_aload_n hx hb dX2_goOn_40 rfl (lv_at hl 0 rfl) ?_
        obtain ⟨r11, hu12, hf⟩ := bd_s hf
        refine r_goI (r_runV (As := []) (rest := []) hC hP hS (k_X2_isLost hg hO hu12) cw_X2_25 q_670 q_661 q_662 (Rm.D 1 3 rfl) hO rfl rfl hl.1 rfl (Nat.le_of_ble_eq_true rfl) dX2_goOn_41) hS (fun H locs hP hS => ?_)
        refine lv_if_ne (tgt := 95) hx hb dX2_goOn_44 (by decide) (fun c14 => ?_) (fun c14 => ?_)
        · have hf := if_f c14 hf
          exact e_VM hC hr hlk hP hS dX2_goOn_95 hf
        · have hf := if_t c14 hf
          refine lv_aload_n hx hb dX2_goOn_47 rfl (lv_at hl 1 rfl) ?_
          refine lv_iload_n hx hb dX2_goOn_48 rfl (lv_at hl 3 rfl) ?_
          refine lv_iload_n hx hb dX2_goOn_49 rfl (lv_at hl 2 rfl) ?_
          refine lv_aload_n hx hb dX2_goOn_50 rfl (lv_at hl 0 rfl) ?_
          refine r_getI hC hP hO fl_X2_7 rfl dX2_goOn_51 ?_
          refine lv_aload_n hx hb dX2_goOn_54 rfl (lv_at hl 0 rfl) ?_
          refine r_getI hC hP hO fl_X2_13 rfl dX2_goOn_55 ?_
          obtain ⟨r15, hu16, hf⟩ := bd_s hf
          refine r_goI (r_runV (As := [.int x3, .int x2, .int (M a 0), .int (M a 1)]) (rest := []) hC hP hS (k_X5_pushOf hg hp0 hu16) cw_X2_42 q_672 q_673 q_674 (Rm.D 2 3 rfl) hp0.1 rfl rfl hl.1 rfl (Nat.le_of_ble_eq_true rfl) dX2_goOn_58) hS (fun H locs hP hS => ?_)
          refine lv_istore (lv' := [(4, .int r15), (0, .ref a), (1, .ref p0), (2, .int x2), (3, .int x3)]) hx hb dX2_goOn_61 hl (by decide) rfl (fun ls hl => ?_)
          refine lv_iload hx hb dX2_goOn_63 (lv_at hl 0 rfl) ?_
          refine lv_if_eq (tgt := 89) hx hb dX2_goOn_65 (by decide) (fun c18 => ?_) (fun c18 => ?_)
          · have hf := if_t c18 hf
            exact J89 _ ih x2 x3 M _ _ _ hf hP hS (lv_sub hl [1, 2, 3, 4] rfl)
          · have hf := if_f c18 hf
            refine lv_aload_n hx hb dX2_goOn_68 rfl (lv_at hl 1 rfl) ?_
            refine lv_dup hx hb dX2_goOn_69 rfl ?_
            refine r_getI hC hP hO fl_X2_7 rfl dX2_goOn_70 ?_
            refine lv_iload hx hb dX2_goOn_73 (lv_at hl 0 rfl) ?_
            refine lv_iadd hx hb dX2_goOn_75 ?_
            refine r_putI hC hP hS hO fl_X2_7 tyX2 tyX2_ok nmX2 rfl rfl rfl dX2_goOn_76 (fun H locs hP hS => ?_)
            obtain ⟨M20, eM20, hf, hP⟩ := bsM hf hP
            refine lv_aload_n hx hb dX2_goOn_79 rfl (lv_at hl 1 rfl) ?_
            refine lv_dup hx hb dX2_goOn_80 rfl ?_
            refine r_getI hC hP hO fl_X2_16 rfl dX2_goOn_81 ?_
            refine lv_iconst (v := (1 : Int32)) hx hb dX2_goOn_84 (by decide) ?_
            refine lv_iadd hx hb dX2_goOn_85 ?_
            refine r_putI hC hP hS hO fl_X2_16 tyX2 tyX2_ok nmX2 rfl rfl rfl dX2_goOn_86 (fun H locs hP hS => ?_)
            obtain ⟨M21, eM21, hf, hP⟩ := bsM hf hP
            exact J89 _ ih x2 x3 M21 _ _ _ hf hP hS (lv_sub hl [1, 2, 3, 4] rfl)
  unfold f_X2_goOn at hf
  refine lv_aload_n hx hb dX2_goOn_0 rfl (lv_at hl 0 rfl) ?_
  obtain ⟨r1, hu2, hf⟩ := bd_s hf
  refine r_goI (r_runV (As := []) (rest := []) hC hP hS (k_X2_isLost hg hO hu2) cw_X2_25 q_670 q_661 q_662 (Rm.D 1 3 rfl) hO rfl rfl hl.1 rfl (Nat.le_of_ble_eq_true rfl) dX2_goOn_1) hS (fun H locs hP hS => ?_)
  refine lv_if_eq (tgt := 8) hx hb dX2_goOn_4 (by decide) (fun c4 => ?_) (fun c4 => ?_)
  · have hf := if_t c4 hf
    refine lv_aload_n hx hb dX2_goOn_8 rfl (lv_at hl 0 rfl) ?_
    refine lv_aload_n hx hb dX2_goOn_9 rfl (lv_at hl 1 rfl) ?_
    refine lv_aload_n hx hb dX2_goOn_10 rfl (lv_at hl 0 rfl) ?_
    refine r_getI hC hP hO fl_X2_13 rfl dX2_goOn_11 ?_
    refine lv_aload_n hx hb dX2_goOn_14 rfl (lv_at hl 1 rfl) ?_
    refine r_getR hC hP hp0.1 fl_X2_29 rfl dX2_goOn_15 ?_
    refine lv_aload_n hx hb dX2_goOn_18 rfl (lv_at hl 0 rfl) ?_
    refine r_getI hC hP hO fl_X2_7 rfl dX2_goOn_19 ?_
    obtain ⟨hb5, hf⟩ := ck_s hf
    refine r_iald hC hP hp0.2.1 hb5 dX2_goOn_22 ?_
    refine lv_iadd hx hb dX2_goOn_23 ?_
    obtain ⟨r6, hu7, hf⟩ := bd_s hf
    refine r_goI (r_runV (As := [.int ((M a 1) + (M (p0 + 1) (M a 0).toNatClampNeg))]) (rest := [.ref a]) hC hP hS (k_X5_around hg hp0 hu7) cw_X2_35 q_671 q_485 q_486 (Rm.D 0 3 rfl) hp0.1 rfl rfl hl.1 rfl (Nat.le_of_ble_eq_true rfl) dX2_goOn_24) hS (fun H locs hP hS => ?_)
    refine r_putI hC hP hS hO fl_X2_13 tyX2 tyX2_ok nmX2 rfl rfl rfl dX2_goOn_27 (fun H locs hP hS => ?_)
    obtain ⟨M9, eM9, hf, hP⟩ := bsM hf hP
    refine lv_iconst (v := (0 : Int32)) hx hb dX2_goOn_30 (by decide) ?_
    refine lv_istore_n (lv' := [(3, .int (0 : Int32)), (0, .ref a), (1, .ref p0), (2, .int p1)]) hx hb dX2_goOn_31 rfl hl (by decide) rfl (fun ls hl => ?_)
    exact L32 _ p1 (0 : Int32) M9 _ _ _ hf hP hS (lv_sub hl [1, 2, 3, 0] rfl)
  · have hf := if_f c4 hf
    exact e_VM hC hr hlk hP hS dX2_goOn_7 hf
set_option maxRecDepth 100000 in
set_option maxHeartbeats 4000000 in
theorem k_X0_leaveInRound {g : Ev} {l : Launch} (hg : g.2.1.Nodup) {kd : Nat} {cs : Nat} {r : Nat} (hO : oCourse g kd r cs) {M : Mm} {N : Ml} {p0 : Int32} {MR : Mm} (hf : f_X0_leaveInRound cs r p0 M = some MR) : KM g l yX0_leaveInRound cX0_leaveInRound 4 none 4 [.ref cs, .int p0] M N (QV g MR N) := by
  refine KM.mk hg (by decide) (Nat.le_of_ble_eq_true rfl) ?_
  intro p e s m below meth c ls hC hr hlk hl hP hS
  have hx := hC.1
  have hb := hC.2.1
  have hl : lv_has ls 4 [(0, .ref cs), (1, .int p0)] := hl
  have J88 : ∀ (kb2 : Int32 → Int32 → Mm → Option (Mm)) (hkb2 : ∀ (x1 : Int32) (x2 : Int32) (M : Mm) (H : Heap) (locs : List Loc) (ls : Array Slot), kb2 x1 x2 M = some MR → wP g M N H → va_S (wA g) s.heap H locs → lv_has ls 4 [(0, .ref cs), (1, .int x1), (2, .int x2)] → W p l e (rmD 4) s m ([.ref cs, .int p0] : List Value).toArray below meth c H locs 0 0 (MQ below (QV g MR N) ([.ref cs, .int p0] : List Value).toArray s 0 0 (wA g)) (F0 m 2 ls [])) (kb9 : Int32 → Int32 → Int32 → Mm → Option (Mm)) (hkb9 : ∀ (x1 : Int32) (x2 : Int32) (x3 : Int32) (M : Mm) (H : Heap) (locs : List Loc) (ls : Array Slot), kb9 x1 x2 x3 M = some MR → wP g M N H → va_S (wA g) s.heap H locs → lv_has ls 4 [(0, .ref cs), (1, .int x1), (2, .int x2), (3, .int x3)] → W p l e (rmD 4) s m ([.ref cs, .int p0] : List Value).toArray below meth c H locs 0 0 (MQ below (QV g MR N) ([.ref cs, .int p0] : List Value).toArray s 0 0 (wA g)) (F0 m 9 ls [])) (x1 : Int32) (x2 : Int32) (x3 : Int32) (s1 : Int32) (s2 : Int32) (M : Mm) (H : Heap) (locs : List Loc) (ls : Array Slot), f_X0_leaveInRound_J88 cs r x1 x2 x3 s1 s2 M kb2 kb9 = some MR → wP g M N H → va_S (wA g) s.heap H locs → lv_has ls 4 [(0, .ref cs), (1, .int x1), (2, .int x2), (3, .int x3)] → W p l e (rmD 4) s m ([.ref cs, .int p0] : List Value).toArray below meth c H locs 0 0 (MQ below (QV g MR N) ([.ref cs, .int p0] : List Value).toArray s 0 0 (wA g)) (F0 m 88 ls [.int s2, .int s1, .ref (cs + 13)]) := by
    intro kb2 hkb2 kb9 hkb9 x1 x2 x3 s1 s2 M H locs ls hf hP hS hl
    unfold f_X0_leaveInRound_J88 at hf
    obtain ⟨hb21, hf⟩ := ck_s hf
    refine r_iast hC hP hS hO.2.2.2.2.2.2.1 hb21 dX0_leaveInRound_88 (fun H locs hP hS => ?_)
    obtain ⟨M22, eM22, hf, hP⟩ := bsM hf hP
    obtain ⟨z23, ez23, hf⟩ := bsJ hf
    refine lv_iinc (v := z23) (lv' := [(3, .int z23), (0, .ref cs), (1, .int x1), (2, .int x2)]) hx hb dX0_leaveInRound_89 hl (k := 3) rfl (by rw [ez23]; rfl) (by decide) rfl (fun ls hl => ?_)
    refine lv_goto (tgt := 9) hx hb dX0_leaveInRound_92 (by decide) ?_
    exact hkb9 x1 x2 z23 M22 _ _ _ hf hP hS (lv_sub hl [1, 2, 3, 0] rfl)
  have L9 : ∀ (kb2 : Int32 → Int32 → Mm → Option (Mm)) (hkb2 : ∀ (x1 : Int32) (x2 : Int32) (M : Mm) (H : Heap) (locs : List Loc) (ls : Array Slot), kb2 x1 x2 M = some MR → wP g M N H → va_S (wA g) s.heap H locs → lv_has ls 4 [(0, .ref cs), (1, .int x1), (2, .int x2)] → W p l e (rmD 4) s m ([.ref cs, .int p0] : List Value).toArray below meth c H locs 0 0 (MQ below (QV g MR N) ([.ref cs, .int p0] : List Value).toArray s 0 0 (wA g)) (F0 m 2 ls [])) (n : Nat) (x1 : Int32) (x2 : Int32) (x3 : Int32) (M : Mm) (H : Heap) (locs : List Loc) (ls : Array Slot), f_X0_leaveInRound_L9 cs r kb2 n x1 x2 x3 M = some MR → wP g M N H → va_S (wA g) s.heap H locs → lv_has ls 4 [(0, .ref cs), (1, .int x1), (2, .int x2), (3, .int x3)] → W p l e (rmD 4) s m ([.ref cs, .int p0] : List Value).toArray below meth c H locs 0 0 (MQ below (QV g MR N) ([.ref cs, .int p0] : List Value).toArray s 0 0 (wA g)) (F0 m 9 ls []) := by
    intro kb2 hkb2
    intro n
    induction n with
    | zero =>
      intro x1 x2 x3 M H locs ls hf
      exact absurd hf (by simp [f_X0_leaveInRound_L9])
    | succ n ih =>
      intro x1 x2 x3 M H locs ls hf hP hS hl
      unfold f_X0_leaveInRound_L9 at hf
      refine lv_iload_n hx hb dX0_leaveInRound_9 rfl (lv_at hl 3 rfl) ?_
      refine lv_aload_n hx hb dX0_leaveInRound_10 rfl (lv_at hl 0 rfl) ?_
      refine r_getR hC hP hO.1 fl_X0_9 rfl dX0_leaveInRound_11 ?_
      refine r_getI hC hP hO.2.1.1 fl_X0_63 rfl dX0_leaveInRound_14 ?_
      refine lv_icmp_ge (tgt := 95) hx hb dX0_leaveInRound_17 (by decide) (fun c2 => ?_) (fun c2 => ?_)
      · have hf := if_t c2 hf
        obtain ⟨z3, ez3, hf⟩ := bsJ hf
        refine lv_iinc (v := z3) (lv' := [(2, .int z3), (0, .ref cs), (1, .int x1), (3, .int x3)]) hx hb dX0_leaveInRound_95 hl (k := 2) rfl (by rw [ez3]; rfl) (by decide) rfl (fun ls hl => ?_)
        refine lv_goto (tgt := 2) hx hb dX0_leaveInRound_98 (by decide) ?_
        exact hkb2 x1 z3 M _ _ _ hf hP hS (lv_sub hl [1, 2, 0] rfl)
      · have hf := if_f c2 hf
        refine lv_aload_n hx hb dX0_leaveInRound_20 rfl (lv_at hl 0 rfl) ?_
        refine r_getR hC hP hO.1 fl_X0_21 rfl dX0_leaveInRound_21 ?_
        refine lv_iload_n hx hb dX0_leaveInRound_24 rfl (lv_at hl 2 rfl) ?_
        refine lv_iload_n hx hb dX0_leaveInRound_25 rfl (lv_at hl 3 rfl) ?_
        obtain ⟨M6, hu5, hf⟩ := bd_s hf
        refine r_goV (r_runV (As := [.int x2, .int x3]) (rest := []) hC hP hS (k_X2_lie hg hO.2.2.2.1 hu5) cw_X0_41 q_653 q_654 q_655 (Rm.D 0 4 rfl) hO.2.2.2.1 rfl rfl hl.1 rfl (Nat.le_of_ble_eq_true rfl) dX0_leaveInRound_26) hS (fun H locs hP hS => ?_)
        refine lv_aload_n hx hb dX0_leaveInRound_29 rfl (lv_at hl 0 rfl) ?_
        refine r_getR hC hP hO.1 fl_X0_21 rfl dX0_leaveInRound_30 ?_
        refine lv_aload_n hx hb dX0_leaveInRound_33 rfl (lv_at hl 0 rfl) ?_
        refine r_getR hC hP hO.1 fl_X0_9 rfl dX0_leaveInRound_34 ?_
        refine lv_iload_n hx hb dX0_leaveInRound_37 rfl (lv_at hl 1 rfl) ?_
        obtain ⟨M9, hu8, hf⟩ := bd_s hf
        refine r_goV (r_runV (As := [.ref r, .int x1]) (rest := []) hC hP hS (k_X2_goOn hg hO.2.2.2.1 hO.2.1 hu8) cw_X0_49 q_664 q_665 q_666 (Rm.D 3 4 rfl) hO.2.2.2.1 rfl rfl hl.1 rfl (Nat.le_of_ble_eq_true rfl) dX0_leaveInRound_38) hS (fun H locs hP hS => ?_)
        refine lv_aload_n hx hb dX0_leaveInRound_41 rfl (lv_at hl 0 rfl) ?_
        refine r_getR hC hP hO.1 fl_X0_32 rfl dX0_leaveInRound_42 ?_
        refine lv_iload_n hx hb dX0_leaveInRound_45 rfl (lv_at hl 2 rfl) ?_
        refine lv_iload_n hx hb dX0_leaveInRound_46 rfl (lv_at hl 3 rfl) ?_
        obtain ⟨r10, hu11, hf⟩ := bd_s hf
        refine r_goI (r_runS (As := [.int x2, .int x3]) (rest := [.ref (cs + 13)]) hC hP hS (k_X0_cell hg hu11) cw_X0_87 q_736 q_737 (Rm.D 0 4 rfl) rfl hl.1 rfl (Nat.le_of_ble_eq_true rfl) dX0_leaveInRound_47) hS (fun H locs hP hS => ?_)
        refine lv_aload_n hx hb dX0_leaveInRound_50 rfl (lv_at hl 0 rfl) ?_
        refine r_getR hC hP hO.1 fl_X0_21 rfl dX0_leaveInRound_51 ?_
        obtain ⟨r13, hu14, hf⟩ := bd_s hf
        refine r_goI (r_runV (As := []) (rest := [.int r10, .ref (cs + 13)]) hC hP hS (k_X2_isLost hg hO.2.2.2.1 hu14) cw_X0_45 q_660 q_661 q_662 (Rm.D 1 4 rfl) hO.2.2.2.1 rfl rfl hl.1 rfl (Nat.le_of_ble_eq_true rfl) dX0_leaveInRound_54) hS (fun H locs hP hS => ?_)
        refine lv_if_eq (tgt := 66) hx hb dX0_leaveInRound_57 (by decide) (fun c16 => ?_) (fun c16 => ?_)
        · have hf := if_t c16 hf
          refine lv_aload_n hx hb dX0_leaveInRound_66 rfl (lv_at hl 0 rfl) ?_
          refine r_getR hC hP hO.1 fl_X0_29 rfl dX0_leaveInRound_67 ?_
          refine lv_aload_n hx hb dX0_leaveInRound_70 rfl (lv_at hl 0 rfl) ?_
          refine r_getR hC hP hO.1 fl_X0_21 rfl dX0_leaveInRound_71 ?_
          refine r_getI hC hP hO.2.2.2.1 fl_X0_90 rfl dX0_leaveInRound_74 ?_
          refine lv_aload_n hx hb dX0_leaveInRound_77 rfl (lv_at hl 0 rfl) ?_
          refine r_getR hC hP hO.1 fl_X0_21 rfl dX0_leaveInRound_78 ?_
          refine r_getI hC hP hO.2.2.2.1 fl_X0_93 rfl dX0_leaveInRound_81 ?_
          obtain ⟨r17, hu18, hf⟩ := bd_s hf
          refine r_goI (r_runS (As := [.int (M9 (cs + 10) 0), .int (M9 (cs + 10) 1)]) (rest := [.ref (cs + 12), .int r10, .ref (cs + 13)]) hC hP hS (k_X0_cell hg hu18) cw_X0_87 q_736 q_737 (Rm.D 0 4 rfl) rfl hl.1 rfl (Nat.le_of_ble_eq_true rfl) dX0_leaveInRound_84) hS (fun H locs hP hS => ?_)
          obtain ⟨hb20, hf⟩ := ck_s hf
          refine r_iald hC hP hO.2.2.2.2.2.1 hb20 dX0_leaveInRound_87 ?_
          exact J88 _ hkb2 _ ih x1 x2 x3 r10 (M9 (cs + 12) r17.toNatClampNeg) M9 _ _ _ hf hP hS (lv_sub hl [0, 1, 2, 3] rfl)
        · have hf := if_f c16 hf
          refine lv_sipush (v := (1000 : Int32)) hx hb dX0_leaveInRound_60 (by decide) ?_
          refine lv_goto (tgt := 88) hx hb dX0_leaveInRound_63 (by decide) ?_
          exact J88 _ hkb2 _ ih x1 x2 x3 r10 (1000 : Int32) M9 _ _ _ hf hP hS (lv_sub hl [0, 1, 2, 3] rfl)
  have L2 : ∀ (n : Nat) (x1 : Int32) (x2 : Int32) (M : Mm) (H : Heap) (locs : List Loc) (ls : Array Slot), f_X0_leaveInRound_L2 cs r n x1 x2 M = some MR → wP g M N H → va_S (wA g) s.heap H locs → lv_has ls 4 [(0, .ref cs), (1, .int x1), (2, .int x2)] → W p l e (rmD 4) s m ([.ref cs, .int p0] : List Value).toArray below meth c H locs 0 0 (MQ below (QV g MR N) ([.ref cs, .int p0] : List Value).toArray s 0 0 (wA g)) (F0 m 2 ls []) := by
    intro n
    induction n with
    | zero =>
      intro x1 x2 M H locs ls hf
      exact absurd hf (by simp [f_X0_leaveInRound_L2])
    | succ n ih =>
      intro x1 x2 M H locs ls hf hP hS hl
      unfold f_X0_leaveInRound_L2 at hf
      refine lv_iload_n hx hb dX0_leaveInRound_2 rfl (lv_at hl 2 rfl) ?_
      refine lv_iconst (v := (5 : Int32)) hx hb dX0_leaveInRound_3 (by decide) ?_
      refine lv_icmp_ge (tgt := 101) hx hb dX0_leaveInRound_4 (by decide) (fun c1 => ?_) (fun c1 => ?_)
      · have hf := if_t c1 hf
        exact e_VM hC hr hlk hP hS dX0_leaveInRound_101 hf
      · have hf := if_f c1 hf
        refine lv_iconst (v := (0 : Int32)) hx hb dX0_leaveInRound_7 (by decide) ?_
        refine lv_istore_n (lv' := [(3, .int (0 : Int32)), (0, .ref cs), (1, .int x1), (2, .int x2)]) hx hb dX0_leaveInRound_8 rfl hl (by decide) rfl (fun ls hl => ?_)
        exact L9 _ ih _ x1 x2 (0 : Int32) M _ _ _ hf hP hS (lv_sub hl [1, 2, 3, 0] rfl)
  unfold f_X0_leaveInRound at hf
  refine lv_iconst (v := (0 : Int32)) hx hb dX0_leaveInRound_0 (by decide) ?_
  refine lv_istore_n (lv' := [(2, .int (0 : Int32)), (0, .ref cs), (1, .int p0)]) hx hb dX0_leaveInRound_1 rfl hl (by decide) rfl (fun ls hl => ?_)
  exact L2 _ p0 (0 : Int32) M _ _ _ hf hP hS (lv_sub hl [1, 2, 0] rfl)
set_option maxRecDepth 100000 in
set_option maxHeartbeats 4000000 in
theorem k_X0_pushAheadOfRound {g : Ev} {l : Launch} (hg : g.2.1.Nodup) {kd : Nat} {cs : Nat} {r : Nat} (hO : oCourse g kd r cs) {M : Mm} {N : Ml}  {MR : Mm} (hf : f_X0_pushAheadOfRound cs r M = some MR) : KM g l yX0_pushAheadOfRound cX0_pushAheadOfRound 4 none 2 [.ref cs] M N (QV g MR N) := by
  refine KM.mk hg (by decide) (Nat.le_of_ble_eq_true rfl) ?_
  intro p e s m below meth c ls hC hr hlk hl hP hS
  have hx := hC.1
  have hb := hC.2.1
  have hl : lv_has ls 4 [(0, .ref cs)] := hl
  have L9 : ∀ (kb2 : Int32 → Mm → Option (Mm)) (hkb2 : ∀ (x1 : Int32) (M : Mm) (H : Heap) (locs : List Loc) (ls : Array Slot), kb2 x1 M = some MR → wP g M N H → va_S (wA g) s.heap H locs → lv_has ls 4 [(0, .ref cs), (1, .int x1)] → W p l e (rmD 2) s m ([.ref cs] : List Value).toArray below meth c H locs 0 0 (MQ below (QV g MR N) ([.ref cs] : List Value).toArray s 0 0 (wA g)) (F0 m 2 ls [])) (n : Nat) (x1 : Int32) (x2 : Int32) (M : Mm) (H : Heap) (locs : List Loc) (ls : Array Slot), f_X0_pushAheadOfRound_L9 cs r kb2 n x1 x2 M = some MR → wP g M N H → va_S (wA g) s.heap H locs → lv_has ls 4 [(0, .ref cs), (1, .int x1), (2, .int x2)] → W p l e (rmD 2) s m ([.ref cs] : List Value).toArray below meth c H locs 0 0 (MQ below (QV g MR N) ([.ref cs] : List Value).toArray s 0 0 (wA g)) (F0 m 9 ls []) := by
    intro kb2 hkb2
    intro n
    induction n with
    | zero =>
      intro x1 x2 M H locs ls hf
      exact absurd hf (by simp [f_X0_pushAheadOfRound_L9])
    | succ n ih =>
      intro x1 x2 M H locs ls hf hP hS hl
      unfold f_X0_pushAheadOfRound_L9 at hf
      refine lv_iload_n hx hb dX0_pushAheadOfRound_9 rfl (lv_at hl 2 rfl) ?_
      refine lv_aload_n hx hb dX0_pushAheadOfRound_10 rfl (lv_at hl 0 rfl) ?_
      refine r_getR hC hP hO.1 fl_X0_9 rfl dX0_pushAheadOfRound_11 ?_
      refine r_getI hC hP hO.2.1.1 fl_X0_63 rfl dX0_pushAheadOfRound_14 ?_
      refine lv_icmp_ge (tgt := 68) hx hb dX0_pushAheadOfRound_17 (by decide) (fun c2 => ?_) (fun c2 => ?_)
      · have hf := if_t c2 hf
        obtain ⟨z3, ez3, hf⟩ := bsJ hf
        refine lv_iinc (v := z3) (lv' := [(1, .int z3), (0, .ref cs), (2, .int x2)]) hx hb dX0_pushAheadOfRound_68 hl (k := 1) rfl (by rw [ez3]; rfl) (by decide) rfl (fun ls hl => ?_)
        refine lv_goto (tgt := 2) hx hb dX0_pushAheadOfRound_71 (by decide) ?_
        exact hkb2 z3 M _ _ _ hf hP hS (lv_sub hl [1, 0] rfl)
      · have hf := if_f c2 hf
        refine lv_iconst (v := (1 : Int32)) hx hb dX0_pushAheadOfRound_20 (by decide) ?_
        refine lv_aload_n hx hb dX0_pushAheadOfRound_21 rfl (lv_at hl 0 rfl) ?_
        refine lv_iload_n hx hb dX0_pushAheadOfRound_22 rfl (lv_at hl 1 rfl) ?_
        refine lv_iconst (v := (1 : Int32)) hx hb dX0_pushAheadOfRound_23 (by decide) ?_
        refine lv_isub hx hb dX0_pushAheadOfRound_24 ?_
        refine lv_iload_n hx hb dX0_pushAheadOfRound_25 rfl (lv_at hl 2 rfl) ?_
        obtain ⟨r4, hu5, hf⟩ := bd_s hf
        refine r_goI (r_runV (As := [.int (x1 - (1 : Int32)), .int x2]) (rest := [.int (1 : Int32)]) hC hP hS (k_X0_costIfLeft hg hO hu5) cw_X0_96 q_744 q_745 q_746 (Rm.D 1 2 rfl) hO.1 rfl rfl hl.1 rfl (Nat.le_of_ble_eq_true rfl) dX0_pushAheadOfRound_26) hS (fun H locs hP hS => ?_)
        refine lv_aload_n hx hb dX0_pushAheadOfRound_29 rfl (lv_at hl 0 rfl) ?_
        refine lv_iload_n hx hb dX0_pushAheadOfRound_30 rfl (lv_at hl 1 rfl) ?_
        refine lv_iconst (v := (1 : Int32)) hx hb dX0_pushAheadOfRound_31 (by decide) ?_
        refine lv_iadd hx hb dX0_pushAheadOfRound_32 ?_
        refine lv_iload_n hx hb dX0_pushAheadOfRound_33 rfl (lv_at hl 2 rfl) ?_
        obtain ⟨r7, hu8, hf⟩ := bd_s hf
        refine r_goI (r_runV (As := [.int (x1 + (1 : Int32)), .int x2]) (rest := [.int r4, .int (1 : Int32)]) hC hP hS (k_X0_costIfLeft hg hO hu8) cw_X0_96 q_744 q_745 q_746 (Rm.D 1 2 rfl) hO.1 rfl rfl hl.1 rfl (Nat.le_of_ble_eq_true rfl) dX0_pushAheadOfRound_34) hS (fun H locs hP hS => ?_)
        refine r_min hC hl.1 q_743 q_476 q_477 q_478 (Rm.D 0 2 rfl) (Nat.le_of_ble_eq_true rfl) dX0_pushAheadOfRound_37 ?_
        refine lv_iadd hx hb dX0_pushAheadOfRound_40 ?_
        refine lv_topi (fun z10 ez10 => ?_)
        have hf := bs ez10 hf
        refine lv_istore_n (lv' := [(3, .int z10), (0, .ref cs), (1, .int x1), (2, .int x2)]) hx hb dX0_pushAheadOfRound_41 rfl hl (by decide) rfl (fun ls hl => ?_)
        refine lv_aload_n hx hb dX0_pushAheadOfRound_42 rfl (lv_at hl 1 rfl) ?_
        refine r_getR hC hP hO.1 fl_X0_29 rfl dX0_pushAheadOfRound_43 ?_
        refine lv_iload_n hx hb dX0_pushAheadOfRound_46 rfl (lv_at hl 2 rfl) ?_
        refine lv_iload_n hx hb dX0_pushAheadOfRound_47 rfl (lv_at hl 3 rfl) ?_
        obtain ⟨r11, hu12, hf⟩ := bd_s hf
        refine r_goI (r_runS (As := [.int x1, .int x2]) (rest := [.ref (cs + 12)]) hC hP hS (k_X0_cell hg hu12) cw_X0_87 q_736 q_737 (Rm.D 0 2 rfl) rfl hl.1 rfl (Nat.le_of_ble_eq_true rfl) dX0_pushAheadOfRound_48) hS (fun H locs hP hS => ?_)
        refine lv_aload_n hx hb dX0_pushAheadOfRound_51 rfl (lv_at hl 1 rfl) ?_
        refine lv_iload_n hx hb dX0_pushAheadOfRound_52 rfl (lv_at hl 2 rfl) ?_
        refine lv_iload_n hx hb dX0_pushAheadOfRound_53 rfl (lv_at hl 3 rfl) ?_
        obtain ⟨r14, hu15, hf⟩ := bd_s hf
        refine r_goI (r_runV (As := [.int x1, .int x2]) (rest := [.int r11, .ref (cs + 12)]) hC hP hS (k_X0_costIfLeft hg hO hu15) cw_X0_96 q_744 q_745 q_746 (Rm.D 1 2 rfl) hO.1 rfl rfl hl.1 rfl (Nat.le_of_ble_eq_true rfl) dX0_pushAheadOfRound_54) hS (fun H locs hP hS => ?_)
        refine lv_iload_n hx hb dX0_pushAheadOfRound_57 rfl (lv_at hl 0 rfl) ?_
        refine r_min hC hl.1 q_743 q_476 q_477 q_478 (Rm.D 0 2 rfl) (Nat.le_of_ble_eq_true rfl) dX0_pushAheadOfRound_58 ?_
        obtain ⟨hb17, hf⟩ := ck_s hf
        refine r_iast hC hP hS hO.2.2.2.2.2.1 hb17 dX0_pushAheadOfRound_61 (fun H locs hP hS => ?_)
        obtain ⟨M18, eM18, hf, hP⟩ := bsM hf hP
        obtain ⟨z19, ez19, hf⟩ := bsJ hf
        refine lv_iinc (v := z19) (lv' := [(2, .int z19), (3, .int z10), (0, .ref cs), (1, .int x1)]) hx hb dX0_pushAheadOfRound_62 hl (k := 3) rfl (by rw [ez19]; rfl) (by decide) rfl (fun ls hl => ?_)
        refine lv_goto (tgt := 9) hx hb dX0_pushAheadOfRound_65 (by decide) ?_
        exact ih x1 z19 M18 _ _ _ hf hP hS (lv_sub hl [2, 3, 0] rfl)
  have L2 : ∀ (n : Nat) (x1 : Int32) (M : Mm) (H : Heap) (locs : List Loc) (ls : Array Slot), f_X0_pushAheadOfRound_L2 cs r n x1 M = some MR → wP g M N H → va_S (wA g) s.heap H locs → lv_has ls 4 [(0, .ref cs), (1, .int x1)] → W p l e (rmD 2) s m ([.ref cs] : List Value).toArray below meth c H locs 0 0 (MQ below (QV g MR N) ([.ref cs] : List Value).toArray s 0 0 (wA g)) (F0 m 2 ls []) := by
    intro n
    induction n with
    | zero =>
      intro x1 M H locs ls hf
      exact absurd hf (by simp [f_X0_pushAheadOfRound_L2])
    | succ n ih =>
      intro x1 M H locs ls hf hP hS hl
      unfold f_X0_pushAheadOfRound_L2 at hf
      refine lv_iload_n hx hb dX0_pushAheadOfRound_2 rfl (lv_at hl 1 rfl) ?_
      refine lv_iconst (v := (5 : Int32)) hx hb dX0_pushAheadOfRound_3 (by decide) ?_
      refine lv_icmp_ge (tgt := 74) hx hb dX0_pushAheadOfRound_4 (by decide) (fun c1 => ?_) (fun c1 => ?_)
      · have hf := if_t c1 hf
        exact e_VM hC hr hlk hP hS dX0_pushAheadOfRound_74 hf
      · have hf := if_f c1 hf
        refine lv_iconst (v := (0 : Int32)) hx hb dX0_pushAheadOfRound_7 (by decide) ?_
        refine lv_istore_n (lv' := [(2, .int (0 : Int32)), (0, .ref cs), (1, .int x1)]) hx hb dX0_pushAheadOfRound_8 rfl hl (by decide) rfl (fun ls hl => ?_)
        exact L9 _ ih _ x1 (0 : Int32) M _ _ _ hf hP hS (lv_sub hl [1, 2, 0] rfl)
  unfold f_X0_pushAheadOfRound at hf
  refine lv_iconst (v := (0 : Int32)) hx hb dX0_pushAheadOfRound_0 (by decide) ?_
  refine lv_istore_n (lv' := [(1, .int (0 : Int32)), (0, .ref cs)]) hx hb dX0_pushAheadOfRound_1 rfl hl (by decide) rfl (fun ls hl => ?_)
  exact L2 _ (0 : Int32) M _ _ _ hf hP hS (lv_sub hl [1, 0] rfl)
set_option maxRecDepth 100000 in
set_option maxHeartbeats 4000000 in
theorem k_X5_lumpsAt {g : Ev} {l : Launch} (hg : g.2.1.Nodup) {kd : Nat} {a : Nat} (hO : oRing g kd a) {M : Mm} {N : Ml} {p0 : Int32} {p1 : Int32} {v : Int32} (hf : f_X5_lumpsAt a p0 p1 M = some v) : KM g l yX5_lumpsAt cX5_lumpsAt 3 (some .int) 1 [.ref a, .int p0, .int p1] M N (QI g v M N) := by
  refine KM.mk hg (by decide) (Nat.le_of_ble_eq_true rfl) ?_
  intro p e s m below meth c ls hC hr hlk hl hP hS
  have hx := hC.1
  have hb := hC.2.1
  have hl : lv_has ls 3 [(0, .ref a), (1, .int p0), (2, .int p1)] := hl
  unfold f_X5_lumpsAt at hf
  refine lv_aload_n hx hb dX5_lumpsAt_0 rfl (lv_at hl 0 rfl) ?_
  refine r_getR hC hP hO.1 fl_X5_22 rfl dX5_lumpsAt_1 ?_
  refine lv_aload_n hx hb dX5_lumpsAt_4 rfl (lv_at hl 0 rfl) ?_
  refine lv_iload_n hx hb dX5_lumpsAt_5 rfl (lv_at hl 1 rfl) ?_
  refine lv_iload_n hx hb dX5_lumpsAt_6 rfl (lv_at hl 2 rfl) ?_
  obtain ⟨r1, hu2, hf⟩ := bd_s hf
  refine r_goI (r_runV (As := [.int p0, .int p1]) (rest := [.ref (a + 3)]) hC hP hS (k_X5_seat hg hO hu2) cw_X5_73 q_232 q_233 q_234 (Rm.D 0 1 rfl) hO.1 rfl rfl hl.1 rfl (Nat.le_of_ble_eq_true rfl) dX5_lumpsAt_7) hS (fun H locs hP hS => ?_)
  obtain ⟨hb4, hf⟩ := ck_s hf
  refine r_iald hC hP hO.2.2.2.1 hb4 dX5_lumpsAt_10 ?_
  exact e_I hC hr hlk hP hS dX5_lumpsAt_11 hf
set_option maxRecDepth 100000 in
set_option maxHeartbeats 4000000 in
theorem k_X0_fewestPushes {g : Ev} {l : Launch} (hg : g.2.1.Nodup) {kd : Nat} {cs : Nat} {r : Nat} (hO : oCourse g kd r cs) {M : Mm} {N : Ml} {p0 : Int32} {v : Int32} {MR : Mm} (hf : f_X0_fewestPushes cs r p0 M = some (v, MR)) : KM g l yX0_fewestPushes cX0_fewestPushes 7 (some .int) 5 [.ref cs, .int p0] M N (QI g v MR N) := by
  refine KM.mk hg (by decide) (Nat.le_of_ble_eq_true rfl) ?_
  intro p e s m below meth c ls hC hr hlk hl hP hS
  have hx := hC.1
  have hb := hC.2.1
  have hl : lv_has ls 7 [(0, .ref cs), (1, .int p0)] := hl
  have J94 : ∀ (kb34 : Int32 → Int32 → Mm → Option (Int32 × Mm)) (hkb34 : ∀ (x2 : Int32) (x3 : Int32) (M : Mm) (H : Heap) (locs : List Loc) (ls : Array Slot), kb34 x2 x3 M = some (v, MR) → wP g M N H → va_S (wA g) s.heap H locs → lv_has ls 7 [(0, .ref cs), (2, .int x2), (3, .int x3)] → W p l e (rmD 5) s m ([.ref cs, .int p0] : List Value).toArray below meth c H locs 0 0 (MQ below (QI g v MR N) ([.ref cs, .int p0] : List Value).toArray s 0 0 (wA g)) (F0 m 34 ls [])) (kb42 : Int32 → Int32 → Int32 → Mm → Option (Int32 × Mm)) (hkb42 : ∀ (x2 : Int32) (x3 : Int32) (x4 : Int32) (M : Mm) (H : Heap) (locs : List Loc) (ls : Array Slot), kb42 x2 x3 x4 M = some (v, MR) → wP g M N H → va_S (wA g) s.heap H locs → lv_has ls 7 [(0, .ref cs), (2, .int x2), (3, .int x3), (4, .int x4)] → W p l e (rmD 5) s m ([.ref cs, .int p0] : List Value).toArray below meth c H locs 0 0 (MQ below (QI g v MR N) ([.ref cs, .int p0] : List Value).toArray s 0 0 (wA g)) (F0 m 42 ls [])) (x2 : Int32) (x3 : Int32) (x4 : Int32) (x5 : Int32) (x6 : Int32) (M : Mm) (H : Heap) (locs : List Loc) (ls : Array Slot), f_X0_fewestPushes_J94 cs r x2 x3 x4 x5 x6 M kb34 kb42 = some (v, MR) → wP g M N H → va_S (wA g) s.heap H locs → lv_has ls 7 [(0, .ref cs), (2, .int x2), (3, .int x3), (4, .int x4), (5, .int x5), (6, .int x6)] → W p l e (rmD 5) s m ([.ref cs, .int p0] : List Value).toArray below meth c H locs 0 0 (MQ below (QI g v MR N) ([.ref cs, .int p0] : List Value).toArray s 0 0 (wA g)) (F0 m 94 ls []) := by
    intro kb34 hkb34 kb42 hkb42 x2 x3 x4 x5 x6 M H locs ls hf hP hS hl
    unfold f_X0_fewestPushes_J94 at hf
    refine lv_iload_n hx hb dX0_fewestPushes_94 rfl (lv_at hl 1 rfl) ?_
    refine lv_iload hx hb dX0_fewestPushes_95 (lv_at hl 4 rfl) ?_
    refine lv_iload hx hb dX0_fewestPushes_97 (lv_at hl 5 rfl) ?_
    refine lv_imul hx hb dX0_fewestPushes_99 ?_
    refine lv_iadd hx hb dX0_fewestPushes_100 ?_
    refine lv_topi (fun z17 ez17 => ?_)
    have hf := bs ez17 hf
    refine lv_istore_n (lv' := [(2, .int z17), (0, .ref cs), (3, .int x3), (4, .int x4), (5, .int x5), (6, .int x6)]) hx hb dX0_fewestPushes_101 rfl hl (by decide) rfl (fun ls hl => ?_)
    obtain ⟨z18, ez18, hf⟩ := bsJ hf
    refine lv_iinc (v := z18) (lv' := [(4, .int z18), (2, .int z17), (0, .ref cs), (3, .int x3), (5, .int x5), (6, .int x6)]) hx hb dX0_fewestPushes_102 hl (k := 3) rfl (by rw [ez18]; rfl) (by decide) rfl (fun ls hl => ?_)
    refine lv_goto (tgt := 42) hx hb dX0_fewestPushes_105 (by decide) ?_
    exact hkb42 z17 x3 z18 M _ _ _ hf hP hS (lv_sub hl [2, 1, 3, 0] rfl)
  have L42 : ∀ (kb34 : Int32 → Int32 → Mm → Option (Int32 × Mm)) (hkb34 : ∀ (x2 : Int32) (x3 : Int32) (M : Mm) (H : Heap) (locs : List Loc) (ls : Array Slot), kb34 x2 x3 M = some (v, MR) → wP g M N H → va_S (wA g) s.heap H locs → lv_has ls 7 [(0, .ref cs), (2, .int x2), (3, .int x3)] → W p l e (rmD 5) s m ([.ref cs, .int p0] : List Value).toArray below meth c H locs 0 0 (MQ below (QI g v MR N) ([.ref cs, .int p0] : List Value).toArray s 0 0 (wA g)) (F0 m 34 ls [])) (n : Nat) (x2 : Int32) (x3 : Int32) (x4 : Int32) (M : Mm) (H : Heap) (locs : List Loc) (ls : Array Slot), f_X0_fewestPushes_L42 cs r kb34 n x2 x3 x4 M = some (v, MR) → wP g M N H → va_S (wA g) s.heap H locs → lv_has ls 7 [(0, .ref cs), (2, .int x2), (3, .int x3), (4, .int x4)] → W p l e (rmD 5) s m ([.ref cs, .int p0] : List Value).toArray below meth c H locs 0 0 (MQ below (QI g v MR N) ([.ref cs, .int p0] : List Value).toArray s 0 0 (wA g)) (F0 m 42 ls []) := by
    intro kb34 hkb34
    intro n
    induction n with
    | zero =>
      intro x2 x3 x4 M H locs ls hf
      exact absurd hf (by simp [f_X0_fewestPushes_L42])
    | succ n ih =>
      intro x2 x3 x4 M H locs ls hf hP hS hl
      unfold f_X0_fewestPushes_L42 at hf
      refine lv_iload hx hb dX0_fewestPushes_42 (lv_at hl 3 rfl) ?_
      refine lv_aload_n hx hb dX0_fewestPushes_44 rfl (lv_at hl 0 rfl) ?_
      refine r_getR hC hP hO.1 fl_X0_9 rfl dX0_fewestPushes_45 ?_
      refine r_getI hC hP hO.2.1.1 fl_X0_63 rfl dX0_fewestPushes_48 ?_
      refine lv_icmp_ge (tgt := 108) hx hb dX0_fewestPushes_51 (by decide) (fun c6 => ?_) (fun c6 => ?_)
      · have hf := if_t c6 hf
        obtain ⟨z7, ez7, hf⟩ := bsJ hf
        refine lv_iinc (v := z7) (lv' := [(3, .int z7), (0, .ref cs), (2, .int x2), (4, .int x4)]) hx hb dX0_fewestPushes_108 hl (k := 2) rfl (by rw [ez7]; rfl) (by decide) rfl (fun ls hl => ?_)
        refine lv_goto (tgt := 34) hx hb dX0_fewestPushes_111 (by decide) ?_
        exact hkb34 x2 z7 M _ _ _ hf hP hS (lv_sub hl [1, 2, 0] rfl)
      · have hf := if_f c6 hf
        refine lv_aload_n hx hb dX0_fewestPushes_54 rfl (lv_at hl 0 rfl) ?_
        refine r_getR hC hP hO.1 fl_X0_9 rfl dX0_fewestPushes_55 ?_
        refine lv_iload_n hx hb dX0_fewestPushes_58 rfl (lv_at hl 2 rfl) ?_
        refine lv_iload hx hb dX0_fewestPushes_59 (lv_at hl 3 rfl) ?_
        obtain ⟨r8, hu9, hf⟩ := bd_s hf
        refine r_goI (r_runV (As := [.int x3, .int x4]) (rest := []) hC hP hS (k_X5_lumpsAt hg hO.2.1 hu9) cw_X0_83 q_748 q_229 q_230 (Rm.D 1 5 rfl) hO.2.1.1 rfl rfl hl.1 rfl (Nat.le_of_ble_eq_true rfl) dX0_fewestPushes_61) hS (fun H locs hP hS => ?_)
        refine lv_istore (lv' := [(5, .int r8), (0, .ref cs), (2, .int x2), (3, .int x3), (4, .int x4)]) hx hb dX0_fewestPushes_64 hl (by decide) rfl (fun ls hl => ?_)
        refine lv_aload_n hx hb dX0_fewestPushes_66 rfl (lv_at hl 1 rfl) ?_
        refine r_getR hC hP hO.1 fl_X0_29 rfl dX0_fewestPushes_67 ?_
        refine lv_iload_n hx hb dX0_fewestPushes_70 rfl (lv_at hl 3 rfl) ?_
        refine lv_iload hx hb dX0_fewestPushes_71 (lv_at hl 4 rfl) ?_
        obtain ⟨r11, hu12, hf⟩ := bd_s hf
        refine r_goI (r_runS (As := [.int x3, .int x4]) (rest := [.ref (cs + 12)]) hC hP hS (k_X0_cell hg hu12) cw_X0_87 q_736 q_737 (Rm.D 0 5 rfl) rfl hl.1 rfl (Nat.le_of_ble_eq_true rfl) dX0_fewestPushes_73) hS (fun H locs hP hS => ?_)
        obtain ⟨hb14, hf⟩ := ck_s hf
        refine r_iald hC hP hO.2.2.2.2.2.1 hb14 dX0_fewestPushes_76 ?_
        refine lv_topi (fun z15 ez15 => ?_)
        have hf := bs ez15 hf
        refine lv_istore (lv' := [(6, .int z15), (5, .int r8), (0, .ref cs), (2, .int x2), (3, .int x3), (4, .int x4)]) hx hb dX0_fewestPushes_77 hl (by decide) rfl (fun ls hl => ?_)
        refine lv_iload hx hb dX0_fewestPushes_79 (lv_at hl 1 rfl) ?_
        refine lv_if_le (tgt := 94) hx hb dX0_fewestPushes_81 (by decide) (fun c16 => ?_) (fun c16 => ?_)
        · have hf := if_t c16 hf
          exact J94 _ hkb34 _ ih x2 x3 x4 r8 z15 M _ _ _ hf hP hS (lv_sub hl [2, 3, 4, 5, 1, 0] rfl)
        · have hf := if_f c16 hf
          refine lv_iload hx hb dX0_fewestPushes_84 (lv_at hl 0 rfl) ?_
          refine lv_sipush (v := (1000 : Int32)) hx hb dX0_fewestPushes_86 (by decide) ?_
          refine lv_icmp_lt (tgt := 94) hx hb dX0_fewestPushes_89 (by decide) (fun c19 => ?_) (fun c19 => ?_)
          · have hf := if_t c19 hf
            exact J94 _ hkb34 _ ih x2 x3 x4 r8 z15 M _ _ _ hf hP hS (lv_sub hl [2, 3, 4, 5, 1, 0] rfl)
          · have hf := if_f c19 hf
            refine lv_iconst (v := (-1 : Int32)) hx hb dX0_fewestPushes_92 (by decide) ?_
            exact e_IM hC hr hlk hP hS dX0_fewestPushes_93 hf
  have L34 : ∀ (n : Nat) (x2 : Int32) (x3 : Int32) (M : Mm) (H : Heap) (locs : List Loc) (ls : Array Slot), f_X0_fewestPushes_L34 cs r n x2 x3 M = some (v, MR) → wP g M N H → va_S (wA g) s.heap H locs → lv_has ls 7 [(0, .ref cs), (2, .int x2), (3, .int x3)] → W p l e (rmD 5) s m ([.ref cs, .int p0] : List Value).toArray below meth c H locs 0 0 (MQ below (QI g v MR N) ([.ref cs, .int p0] : List Value).toArray s 0 0 (wA g)) (F0 m 34 ls []) := by
    intro n
    induction n with
    | zero =>
      intro x2 x3 M H locs ls hf
      exact absurd hf (by simp [f_X0_fewestPushes_L34])
    | succ n ih =>
      intro x2 x3 M H locs ls hf hP hS hl
      unfold f_X0_fewestPushes_L34 at hf
      refine lv_iload_n hx hb dX0_fewestPushes_34 rfl (lv_at hl 2 rfl) ?_
      refine lv_iconst (v := (5 : Int32)) hx hb dX0_fewestPushes_35 (by decide) ?_
      refine lv_icmp_ge (tgt := 114) hx hb dX0_fewestPushes_36 (by decide) (fun c5 => ?_) (fun c5 => ?_)
      · have hf := if_t c5 hf
        refine lv_iload_n hx hb dX0_fewestPushes_114 rfl (lv_at hl 1 rfl) ?_
        exact e_IM hC hr hlk hP hS dX0_fewestPushes_115 hf
      · have hf := if_f c5 hf
        refine lv_iconst (v := (0 : Int32)) hx hb dX0_fewestPushes_39 (by decide) ?_
        refine lv_istore (lv' := [(4, .int (0 : Int32)), (0, .ref cs), (2, .int x2), (3, .int x3)]) hx hb dX0_fewestPushes_40 hl (by decide) rfl (fun ls hl => ?_)
        exact L42 _ ih _ x2 x3 (0 : Int32) M _ _ _ hf hP hS (lv_sub hl [1, 2, 3, 0] rfl)
  have L10 : ∀ (n : Nat) (x2 : Int32) (M : Mm) (H : Heap) (locs : List Loc) (ls : Array Slot), f_X0_fewestPushes_L10 cs r n x2 M = some (v, MR) → wP g M N H → va_S (wA g) s.heap H locs → lv_has ls 7 [(0, .ref cs), (2, .int x2)] → W p l e (rmD 5) s m ([.ref cs, .int p0] : List Value).toArray below meth c H locs 0 0 (MQ below (QI g v MR N) ([.ref cs, .int p0] : List Value).toArray s 0 0 (wA g)) (F0 m 10 ls []) := by
    intro n
    induction n with
    | zero =>
      intro x2 M H locs ls hf
      exact absurd hf (by simp [f_X0_fewestPushes_L10])
    | succ n ih =>
      intro x2 M H locs ls hf hP hS hl
      unfold f_X0_fewestPushes_L10 at hf
      refine lv_iload_n hx hb dX0_fewestPushes_10 rfl (lv_at hl 1 rfl) ?_
      refine lv_iconst (v := (1 : Int32)) hx hb dX0_fewestPushes_11 (by decide) ?_
      refine lv_icmp_lt (tgt := 30) hx hb dX0_fewestPushes_12 (by decide) (fun c4 => ?_) (fun c4 => ?_)
      · have hf := if_t c4 hf
        refine lv_iconst (v := (0 : Int32)) hx hb dX0_fewestPushes_30 (by decide) ?_
        refine lv_istore_n (lv' := [(2, .int (0 : Int32)), (0, .ref cs)]) hx hb dX0_fewestPushes_31 rfl hl (by decide) rfl (fun ls hl => ?_)
        refine lv_iconst (v := (0 : Int32)) hx hb dX0_fewestPushes_32 (by decide) ?_
        refine lv_istore_n (lv' := [(3, .int (0 : Int32)), (2, .int (0 : Int32)), (0, .ref cs)]) hx hb dX0_fewestPushes_33 rfl hl (by decide) rfl (fun ls hl => ?_)
        exact L34 _ (0 : Int32) (0 : Int32) M _ _ _ hf hP hS (lv_sub hl [2, 1, 0] rfl)
      · have hf := if_f c4 hf
        refine lv_aload_n hx hb dX0_fewestPushes_15 rfl (lv_at hl 0 rfl) ?_
        refine lv_iload_n hx hb dX0_fewestPushes_16 rfl (lv_at hl 1 rfl) ?_
        obtain ⟨M22, hu21, hf⟩ := bd_s hf
        refine r_goV (r_runV (As := [.int x2]) (rest := []) hC hP hS (k_X0_leaveInRound hg hO hu21) cw_X0_76 q_730 q_731 q_732 (Rm.D 4 5 rfl) hO.1 rfl rfl hl.1 rfl (Nat.le_of_ble_eq_true rfl) dX0_fewestPushes_17) hS (fun H locs hP hS => ?_)
        refine lv_aload_n hx hb dX0_fewestPushes_20 rfl (lv_at hl 0 rfl) ?_
        obtain ⟨M25, hu24, hf⟩ := bd_s hf
        refine r_goV (r_runV (As := []) (rest := []) hC hP hS (k_X0_pushAheadOfRound hg hO hu24) cw_X0_80 q_739 q_740 q_741 (Rm.D 2 5 rfl) hO.1 rfl rfl hl.1 rfl (Nat.le_of_ble_eq_true rfl) dX0_fewestPushes_21) hS (fun H locs hP hS => ?_)
        obtain ⟨z26, ez26, hf⟩ := bsJ hf
        refine lv_iinc (v := z26) (lv' := [(2, .int z26), (0, .ref cs)]) hx hb dX0_fewestPushes_24 hl (k := 1) rfl (by rw [ez26]; rfl) (by decide) rfl (fun ls hl => ?_)
        refine lv_goto (tgt := 10) hx hb dX0_fewestPushes_27 (by decide) ?_
        exact ih z26 M25 _ _ _ hf hP hS (lv_sub hl [1, 0] rfl)
  unfold f_X0_fewestPushes at hf
  refine lv_aload_n hx hb dX0_fewestPushes_0 rfl (lv_at hl 0 rfl) ?_
  refine r_getR hC hP hO.1 fl_X0_29 rfl dX0_fewestPushes_1 ?_
  refine lv_iconst (v := (0 : Int32)) hx hb dX0_fewestPushes_4 (by decide) ?_
  obtain ⟨M3, hu2, hf⟩ := bd_s hf
  refine r_goV (r_runS (As := [.ref (cs + 12), .int (0 : Int32)]) (rest := []) hC hP hS (k_J7_fill_53178 hg hO.2.2.2.2.2.1 hu2) cw_X0_70 q_729 q_106 (Rm.D 0 5 rfl) rfl hl.1 rfl (Nat.le_of_ble_eq_true rfl) dX0_fewestPushes_5) hS (fun H locs hP hS => ?_)
  refine lv_iload_n hx hb dX0_fewestPushes_8 rfl (lv_at hl 1 rfl) ?_
  refine lv_istore_n (lv' := [(2, .int p0), (0, .ref cs), (1, .int p0)]) hx hb dX0_fewestPushes_9 rfl hl (by decide) rfl (fun ls hl => ?_)
  exact L10 _ p0 M3 _ _ _ hf hP hS (lv_sub hl [1, 0] rfl)
set_option maxRecDepth 100000 in
set_option maxHeartbeats 4000000 in
theorem k_X0_follow {g : Ev} {l : Launch} (hg : g.2.1.Nodup) {kd : Nat} {cs : Nat} {r : Nat} (hO : oCourse g kd r cs) {M : Mm} {N : Ml} {p0 : Int32} {p1 : Int32} {p2 : Int32} {MR : Mm} (hf : f_X0_follow cs r p0 p1 p2 M = some MR) : KM g l yX0_follow cX0_follow 5 (some (.object "RingShepherds$Lump")) 4 [.ref cs, .int p0, .int p1, .int p2] M N (QR g (cs + 10) MR N) := by
  refine KM.mk hg (by decide) (Nat.le_of_ble_eq_true rfl) ?_
  intro p e s m below meth c ls hC hr hlk hl hP hS
  have hx := hC.1
  have hb := hC.2.1
  have hl : lv_has ls 5 [(0, .ref cs), (1, .int p0), (2, .int p1), (3, .int p2)] := hl
  have L12 : ∀ (n : Nat) (x3 : Int32) (x4 : Int32) (M : Mm) (H : Heap) (locs : List Loc) (ls : Array Slot), f_X0_follow_L12 cs r n x3 x4 M = some MR → wP g M N H → va_S (wA g) s.heap H locs → lv_has ls 5 [(0, .ref cs), (3, .int x3), (4, .int x4)] → W p l e (rmD 4) s m ([.ref cs, .int p0, .int p1, .int p2] : List Value).toArray below meth c H locs 0 0 (MQ below (QR g (cs + 10) MR N) ([.ref cs, .int p0, .int p1, .int p2] : List Value).toArray s 0 0 (wA g)) (F0 m 12 ls []) := by
    intro n
    induction n with
    | zero =>
      intro x3 x4 M H locs ls hf
      exact absurd hf (by simp [f_X0_follow_L12])
    | succ n ih =>
      intro x3 x4 M H locs ls hf hP hS hl
      unfold f_X0_follow_L12 at hf
      refine lv_iload hx hb dX0_follow_12 (lv_at hl 2 rfl) ?_
      refine lv_iload_n hx hb dX0_follow_14 rfl (lv_at hl 1 rfl) ?_
      refine lv_icmp_gt (tgt := 47) hx hb dX0_follow_15 (by decide) (fun c4 => ?_) (fun c4 => ?_)
      · have hf := if_t c4 hf
        refine lv_aload_n hx hb dX0_follow_47 rfl (lv_at hl 0 rfl) ?_
        refine r_getR hC hP hO.1 fl_X0_21 rfl dX0_follow_48 ?_
        exact e_R hC hr (Or.inl ⟨_, rfl⟩) hlk hP hS dX0_follow_51 hf
      · have hf := if_f c4 hf
        refine lv_aload_n hx hb dX0_follow_18 rfl (lv_at hl 0 rfl) ?_
        refine r_getR hC hP hO.1 fl_X0_21 rfl dX0_follow_19 ?_
        obtain ⟨r5, hu6, hf⟩ := bd_s hf
        refine r_goI (r_runV (As := []) (rest := []) hC hP hS (k_X2_isLost hg hO.2.2.2.1 hu6) cw_X0_45 q_660 q_661 q_662 (Rm.D 1 4 rfl) hO.2.2.2.1 rfl rfl hl.1 rfl (Nat.le_of_ble_eq_true rfl) dX0_follow_22) hS (fun H locs hP hS => ?_)
        refine lv_if_ne (tgt := 47) hx hb dX0_follow_25 (by decide) (fun c8 => ?_) (fun c8 => ?_)
        · have hf := if_f c8 hf
          refine lv_aload_n hx hb dX0_follow_47 rfl (lv_at hl 0 rfl) ?_
          refine r_getR hC hP hO.1 fl_X0_21 rfl dX0_follow_48 ?_
          exact e_R hC hr (Or.inl ⟨_, rfl⟩) hlk hP hS dX0_follow_51 hf
        · have hf := if_t c8 hf
          refine lv_aload_n hx hb dX0_follow_28 rfl (lv_at hl 0 rfl) ?_
          refine r_getR hC hP hO.1 fl_X0_21 rfl dX0_follow_29 ?_
          refine lv_aload_n hx hb dX0_follow_32 rfl (lv_at hl 0 rfl) ?_
          refine r_getR hC hP hO.1 fl_X0_9 rfl dX0_follow_33 ?_
          refine lv_iload hx hb dX0_follow_36 (lv_at hl 2 rfl) ?_
          obtain ⟨M11, hu10, hf⟩ := bd_s hf
          refine r_goV (r_runV (As := [.ref r, .int x4]) (rest := []) hC hP hS (k_X2_goOn hg hO.2.2.2.1 hO.2.1 hu10) cw_X0_49 q_664 q_665 q_666 (Rm.D 3 4 rfl) hO.2.2.2.1 rfl rfl hl.1 rfl (Nat.le_of_ble_eq_true rfl) dX0_follow_38) hS (fun H locs hP hS => ?_)
          obtain ⟨z12, ez12, hf⟩ := bsJ hf
          refine lv_iinc (v := z12) (lv' := [(4, .int z12), (0, .ref cs), (3, .int x3)]) hx hb dX0_follow_41 hl (k := 2) rfl (by rw [ez12]; rfl) (by decide) rfl (fun ls hl => ?_)
          refine lv_goto (tgt := 12) hx hb dX0_follow_44 (by decide) ?_
          exact ih x3 z12 M11 _ _ _ hf hP hS (lv_sub hl [1, 2, 0] rfl)
  unfold f_X0_follow at hf
  refine lv_aload_n hx hb dX0_follow_0 rfl (lv_at hl 0 rfl) ?_
  refine r_getR hC hP hO.1 fl_X0_21 rfl dX0_follow_1 ?_
  refine lv_iload_n hx hb dX0_follow_4 rfl (lv_at hl 1 rfl) ?_
  refine lv_iload_n hx hb dX0_follow_5 rfl (lv_at hl 2 rfl) ?_
  obtain ⟨M3, hu2, hf⟩ := bd_s hf
  refine r_goV (r_runV (As := [.int p0, .int p1]) (rest := []) hC hP hS (k_X2_lie hg hO.2.2.2.1 hu2) cw_X0_41 q_653 q_654 q_655 (Rm.D 0 4 rfl) hO.2.2.2.1 rfl rfl hl.1 rfl (Nat.le_of_ble_eq_true rfl) dX0_follow_6) hS (fun H locs hP hS => ?_)
  refine lv_iconst (v := (1 : Int32)) hx hb dX0_follow_9 (by decide) ?_
  refine lv_istore (lv' := [(4, .int (1 : Int32)), (0, .ref cs), (1, .int p0), (2, .int p1), (3, .int p2)]) hx hb dX0_follow_10 hl (by decide) rfl (fun ls hl => ?_)
  exact L12 _ p2 (1 : Int32) M3 _ _ _ hf hP hS (lv_sub hl [1, 4, 0] rfl)
set_option maxRecDepth 100000 in
set_option maxHeartbeats 4000000 in
theorem k_X0_fitsWithout {g : Ev} {l : Launch} (hg : g.2.1.Nodup) {kd : Nat} {cs : Nat} {r : Nat} (hO : oCourse g kd r cs) {M : Mm} {N : Ml} {p0 : Int32} {p1 : Int32} {p2 : Int32} {v : Int32} {MR : Mm} (hf : f_X0_fitsWithout cs r p0 p1 p2 M = some (v, MR)) : KM g l yX0_fitsWithout cX0_fitsWithout 7 (some .boolean) 5 [.ref cs, .int p0, .int p1, .int p2] M N (QI g v MR N) := by
  refine KM.mk hg (by decide) (Nat.le_of_ble_eq_true rfl) ?_
  intro p e s m below meth c ls hC hr hlk hl hP hS
  have hx := hC.1
  have hb := hC.2.1
  have hl : lv_has ls 7 [(0, .ref cs), (1, .int p0), (2, .int p1), (3, .int p2)] := hl
  have J41 : ∀ (kb15 : Int32 → Int32 → Int32 → Int32 → Mm → Option (Int32 × Mm)) (hkb15 : ∀ (x1 : Int32) (x2 : Int32) (x4 : Int32) (x5 : Int32) (M : Mm) (H : Heap) (locs : List Loc) (ls : Array Slot), kb15 x1 x2 x4 x5 M = some (v, MR) → wP g M N H → va_S (wA g) s.heap H locs → lv_has ls 7 [(0, .ref cs), (1, .int x1), (2, .int x2), (4, .int x4), (5, .int x5)] → W p l e (rmD 5) s m ([.ref cs, .int p0, .int p1, .int p2] : List Value).toArray below meth c H locs 0 0 (MQ below (QI g v MR N) ([.ref cs, .int p0, .int p1, .int p2] : List Value).toArray s 0 0 (wA g)) (F0 m 15 ls [])) (x1 : Int32) (x2 : Int32) (x4 : Int32) (x5 : Int32) (s0 : Int32) (M : Mm) (H : Heap) (locs : List Loc) (ls : Array Slot), f_X0_fitsWithout_J41 cs r x1 x2 x4 x5 s0 M kb15 = some (v, MR) → wP g M N H → va_S (wA g) s.heap H locs → lv_has ls 7 [(0, .ref cs), (1, .int x1), (2, .int x2), (4, .int x4), (5, .int x5)] → W p l e (rmD 5) s m ([.ref cs, .int p0, .int p1, .int p2] : List Value).toArray below meth c H locs 0 0 (MQ below (QI g v MR N) ([.ref cs, .int p0, .int p1, .int p2] : List Value).toArray s 0 0 (wA g)) (F0 m 41 ls [.int s0]) := by
    intro kb15 hkb15 x1 x2 x4 x5 s0 M H locs ls hf hP hS hl
    unfold f_X0_fitsWithout_J41 at hf
    refine lv_istore (lv' := [(6, .int s0), (0, .ref cs), (1, .int x1), (2, .int x2), (4, .int x4), (5, .int x5)]) hx hb dX0_fitsWithout_41 hl (by decide) rfl (fun ls hl => ?_)
    refine lv_aload_n hx hb dX0_fitsWithout_43 rfl (lv_at hl 1 rfl) ?_
    refine r_getR hC hP hO.1 fl_X0_15 rfl dX0_fitsWithout_44 ?_
    refine lv_iload hx hb dX0_fitsWithout_47 (lv_at hl 5 rfl) ?_
    obtain ⟨r7, hu8, hf⟩ := bd_s hf
    refine r_goI (r_runV (As := [.int x5]) (rest := []) hC hP hS (k_X5_lumpsIn hg hO.2.2.1 hu8) cw_X0_122 q_845 q_608 q_609 (Rm.D 0 5 rfl) hO.2.2.1.1 rfl rfl hl.1 rfl (Nat.le_of_ble_eq_true rfl) dX0_fitsWithout_49) hS (fun H locs hP hS => ?_)
    refine lv_iload hx hb dX0_fitsWithout_52 (lv_at hl 0 rfl) ?_
    refine lv_isub hx hb dX0_fitsWithout_54 ?_
    refine lv_aload_n hx hb dX0_fitsWithout_55 rfl (lv_at hl 1 rfl) ?_
    refine r_getR hC hP hO.1 fl_X0_9 rfl dX0_fitsWithout_56 ?_
    refine r_getR hC hP hO.2.1.1 fl_X0_125 rfl dX0_fitsWithout_59 ?_
    refine lv_iload hx hb dX0_fitsWithout_62 (lv_at hl 5 rfl) ?_
    obtain ⟨hb10, hf⟩ := ck_s hf
    refine r_iald hC hP hO.2.1.2.2.1 hb10 dX0_fitsWithout_64 ?_
    refine lv_icmp_eq (tgt := 70) hx hb dX0_fitsWithout_65 (by decide) (fun c11 => ?_) (fun c11 => ?_)
    · have hf := if_t c11 hf
      obtain ⟨z12, ez12, hf⟩ := bsJ hf
      refine lv_iinc (v := z12) (lv' := [(5, .int z12), (6, .int s0), (0, .ref cs), (1, .int x1), (2, .int x2), (4, .int x4)]) hx hb dX0_fitsWithout_70 hl (k := 5) rfl (by rw [ez12]; rfl) (by decide) rfl (fun ls hl => ?_)
      refine lv_goto (tgt := 15) hx hb dX0_fitsWithout_73 (by decide) ?_
      exact hkb15 x1 x2 x4 z12 M _ _ _ hf hP hS (lv_sub hl [2, 3, 4, 5, 0] rfl)
    · have hf := if_f c11 hf
      refine lv_iconst (v := (0 : Int32)) hx hb dX0_fitsWithout_68 (by decide) ?_
      exact e_ZM hC hr hlk (Or.inl rfl) hP hS dX0_fitsWithout_69 hf
  have L15 : ∀ (n : Nat) (x1 : Int32) (x2 : Int32) (x4 : Int32) (x5 : Int32) (M : Mm) (H : Heap) (locs : List Loc) (ls : Array Slot), f_X0_fitsWithout_L15 cs r n x1 x2 x4 x5 M = some (v, MR) → wP g M N H → va_S (wA g) s.heap H locs → lv_has ls 7 [(0, .ref cs), (1, .int x1), (2, .int x2), (4, .int x4), (5, .int x5)] → W p l e (rmD 5) s m ([.ref cs, .int p0, .int p1, .int p2] : List Value).toArray below meth c H locs 0 0 (MQ below (QI g v MR N) ([.ref cs, .int p0, .int p1, .int p2] : List Value).toArray s 0 0 (wA g)) (F0 m 15 ls []) := by
    intro n
    induction n with
    | zero =>
      intro x1 x2 x4 x5 M H locs ls hf
      exact absurd hf (by simp [f_X0_fitsWithout_L15])
    | succ n ih =>
      intro x1 x2 x4 x5 M H locs ls hf hP hS hl
      unfold f_X0_fitsWithout_L15 at hf
      refine lv_iload hx hb dX0_fitsWithout_15 (lv_at hl 4 rfl) ?_
      refine lv_iconst (v := (5 : Int32)) hx hb dX0_fitsWithout_17 (by decide) ?_
      refine lv_icmp_ge (tgt := 76) hx hb dX0_fitsWithout_18 (by decide) (fun c5 => ?_) (fun c5 => ?_)
      · have hf := if_t c5 hf
        refine lv_iconst (v := (1 : Int32)) hx hb dX0_fitsWithout_76 (by decide) ?_
        exact e_ZM hC hr hlk (Or.inr rfl) hP hS dX0_fitsWithout_77 hf
      · have hf := if_f c5 hf
        refine lv_iload hx hb dX0_fitsWithout_21 (lv_at hl 4 rfl) ?_
        refine lv_iload hx hb dX0_fitsWithout_23 (lv_at hl 3 rfl) ?_
        refine lv_icmp_ne (tgt := 40) hx hb dX0_fitsWithout_25 (by decide) (fun c6 => ?_) (fun c6 => ?_)
        · have hf := if_f c6 hf
          refine lv_iconst (v := (0 : Int32)) hx hb dX0_fitsWithout_40 (by decide) ?_
          exact J41 _ ih x1 x2 x4 x5 (0 : Int32) M _ _ _ hf hP hS (lv_sub hl [0, 1, 2, 3, 4] rfl)
        · have hf := if_t c6 hf
          refine lv_aload_n hx hb dX0_fitsWithout_28 rfl (lv_at hl 0 rfl) ?_
          refine r_getR hC hP hO.1 fl_X0_9 rfl dX0_fitsWithout_29 ?_
          refine lv_iload_n hx hb dX0_fitsWithout_32 rfl (lv_at hl 1 rfl) ?_
          refine lv_iload_n hx hb dX0_fitsWithout_33 rfl (lv_at hl 2 rfl) ?_
          obtain ⟨r13, hu14, hf⟩ := bd_s hf
          refine r_goI (r_runV (As := [.int x1, .int x2]) (rest := []) hC hP hS (k_X5_lumpsAt hg hO.2.1 hu14) cw_X0_83 q_748 q_229 q_230 (Rm.D 1 5 rfl) hO.2.1.1 rfl rfl hl.1 rfl (Nat.le_of_ble_eq_true rfl) dX0_fitsWithout_34) hS (fun H locs hP hS => ?_)
          refine lv_goto (tgt := 41) hx hb dX0_fitsWithout_37 (by decide) ?_
          exact J41 _ ih x1 x2 x4 x5 r13 M _ _ _ hf hP hS (lv_sub hl [0, 1, 2, 3, 4] rfl)
  unfold f_X0_fitsWithout at hf
  refine lv_aload_n hx hb dX0_fitsWithout_0 rfl (lv_at hl 0 rfl) ?_
  refine lv_iload_n hx hb dX0_fitsWithout_1 rfl (lv_at hl 1 rfl) ?_
  refine lv_iload_n hx hb dX0_fitsWithout_2 rfl (lv_at hl 2 rfl) ?_
  refine lv_iload_n hx hb dX0_fitsWithout_3 rfl (lv_at hl 3 rfl) ?_
  obtain ⟨M3, hu2, hf⟩ := bd_s hf
  refine r_goR (r_runV (As := [.int p0, .int p1, .int p2]) (rest := []) hC hP hS (k_X0_follow hg hO hu2) cw_X0_118 q_844 q_650 q_651 (Rm.D 4 5 rfl) hO.1 rfl rfl hl.1 rfl (Nat.le_of_ble_eq_true rfl) dX0_fitsWithout_4) hS (fun H locs hP hS => ?_)
  refine r_getI hC hP hO.2.2.2.1 fl_X0_90 rfl dX0_fitsWithout_7 ?_
  refine lv_topi (fun z4 ez4 => ?_)
  have hf := bs ez4 hf
  refine lv_istore (lv' := [(4, .int z4), (0, .ref cs), (1, .int p0), (2, .int p1), (3, .int p2)]) hx hb dX0_fitsWithout_10 hl (by decide) rfl (fun ls hl => ?_)
  refine lv_iconst (v := (0 : Int32)) hx hb dX0_fitsWithout_12 (by decide) ?_
  refine lv_istore (lv' := [(5, .int (0 : Int32)), (4, .int z4), (0, .ref cs), (1, .int p0), (2, .int p1), (3, .int p2)]) hx hb dX0_fitsWithout_13 hl (by decide) rfl (fun ls hl => ?_)
  exact L15 _ p0 p1 z4 (0 : Int32) M3 _ _ _ hf hP hS (lv_sub hl [2, 3, 4, 1, 0] rfl)
set_option maxRecDepth 100000 in
set_option maxHeartbeats 4000000 in
theorem k_X0_findTaken {g : Ev} {l : Launch} (hg : g.2.1.Nodup) {kd : Nat} {cs : Nat} {r : Nat} (hO : oCourse g kd r cs) {M : Mm} {N : Ml} {p0 : Int32} {v : Int32} {MR : Mm} (hf : f_X0_findTaken cs r p0 M = some (v, MR)) : KM g l yX0_findTaken cX0_findTaken 5 (some .int) 6 [.ref cs, .int p0] M N (QI g v MR N) := by
  refine KM.mk hg (by decide) (Nat.le_of_ble_eq_true rfl) ?_
  intro p e s m below meth c ls hC hr hlk hl hP hS
  have hx := hC.1
  have hb := hC.2.1
  have hl : lv_has ls 5 [(0, .ref cs), (1, .int p0)] := hl
  have J84 : ∀ (kb24 : Int32 → Int32 → Int32 → Mm → Option (Int32 × Mm)) (hkb24 : ∀ (x1 : Int32) (x2 : Int32) (x3 : Int32) (M : Mm) (H : Heap) (locs : List Loc) (ls : Array Slot), kb24 x1 x2 x3 M = some (v, MR) → wP g M N H → va_S (wA g) s.heap H locs → lv_has ls 5 [(0, .ref cs), (1, .int x1), (2, .int x2), (3, .int x3)] → W p l e (rmD 6) s m ([.ref cs, .int p0] : List Value).toArray below meth c H locs 0 0 (MQ below (QI g v MR N) ([.ref cs, .int p0] : List Value).toArray s 0 0 (wA g)) (F0 m 24 ls [])) (kb32 : Int32 → Int32 → Int32 → Int32 → Mm → Option (Int32 × Mm)) (hkb32 : ∀ (x1 : Int32) (x2 : Int32) (x3 : Int32) (x4 : Int32) (M : Mm) (H : Heap) (locs : List Loc) (ls : Array Slot), kb32 x1 x2 x3 x4 M = some (v, MR) → wP g M N H → va_S (wA g) s.heap H locs → lv_has ls 5 [(0, .ref cs), (1, .int x1), (2, .int x2), (3, .int x3), (4, .int x4)] → W p l e (rmD 6) s m ([.ref cs, .int p0] : List Value).toArray below meth c H locs 0 0 (MQ below (QI g v MR N) ([.ref cs, .int p0] : List Value).toArray s 0 0 (wA g)) (F0 m 32 ls [])) (x1 : Int32) (x2 : Int32) (x3 : Int32) (x4 : Int32) (M : Mm) (H : Heap) (locs : List Loc) (ls : Array Slot), f_X0_findTaken_J84 cs r x1 x2 x3 x4 M kb24 kb32 = some (v, MR) → wP g M N H → va_S (wA g) s.heap H locs → lv_has ls 5 [(0, .ref cs), (1, .int x1), (2, .int x2), (3, .int x3), (4, .int x4)] → W p l e (rmD 6) s m ([.ref cs, .int p0] : List Value).toArray below meth c H locs 0 0 (MQ below (QI g v MR N) ([.ref cs, .int p0] : List Value).toArray s 0 0 (wA g)) (F0 m 84 ls []) := by
    intro kb24 hkb24 kb32 hkb32 x1 x2 x3 x4 M H locs ls hf hP hS hl
    unfold f_X0_findTaken_J84 at hf
    obtain ⟨z14, ez14, hf⟩ := bsJ hf
    refine lv_iinc (v := z14) (lv' := [(4, .int z14), (0, .ref cs), (1, .int x1), (2, .int x2), (3, .int x3)]) hx hb dX0_findTaken_84 hl (k := 4) rfl (by rw [ez14]; rfl) (by decide) rfl (fun ls hl => ?_)
    refine lv_goto (tgt := 32) hx hb dX0_findTaken_87 (by decide) ?_
    exact hkb32 x1 x2 x3 z14 M _ _ _ hf hP hS (lv_sub hl [1, 2, 3, 4, 0] rfl)
  have L32 : ∀ (kb24 : Int32 → Int32 → Int32 → Mm → Option (Int32 × Mm)) (hkb24 : ∀ (x1 : Int32) (x2 : Int32) (x3 : Int32) (M : Mm) (H : Heap) (locs : List Loc) (ls : Array Slot), kb24 x1 x2 x3 M = some (v, MR) → wP g M N H → va_S (wA g) s.heap H locs → lv_has ls 5 [(0, .ref cs), (1, .int x1), (2, .int x2), (3, .int x3)] → W p l e (rmD 6) s m ([.ref cs, .int p0] : List Value).toArray below meth c H locs 0 0 (MQ below (QI g v MR N) ([.ref cs, .int p0] : List Value).toArray s 0 0 (wA g)) (F0 m 24 ls [])) (n : Nat) (x1 : Int32) (x2 : Int32) (x3 : Int32) (x4 : Int32) (M : Mm) (H : Heap) (locs : List Loc) (ls : Array Slot), f_X0_findTaken_L32 cs r kb24 n x1 x2 x3 x4 M = some (v, MR) → wP g M N H → va_S (wA g) s.heap H locs → lv_has ls 5 [(0, .ref cs), (1, .int x1), (2, .int x2), (3, .int x3), (4, .int x4)] → W p l e (rmD 6) s m ([.ref cs, .int p0] : List Value).toArray below meth c H locs 0 0 (MQ below (QI g v MR N) ([.ref cs, .int p0] : List Value).toArray s 0 0 (wA g)) (F0 m 32 ls []) := by
    intro kb24 hkb24
    intro n
    induction n with
    | zero =>
      intro x1 x2 x3 x4 M H locs ls hf
      exact absurd hf (by simp [f_X0_findTaken_L32])
    | succ n ih =>
      intro x1 x2 x3 x4 M H locs ls hf hP hS hl
      unfold f_X0_findTaken_L32 at hf
      refine lv_iload hx hb dX0_findTaken_32 (lv_at hl 4 rfl) ?_
      refine lv_aload_n hx hb dX0_findTaken_34 rfl (lv_at hl 0 rfl) ?_
      refine r_getR hC hP hO.1 fl_X0_9 rfl dX0_findTaken_35 ?_
      refine r_getI hC hP hO.2.1.1 fl_X0_63 rfl dX0_findTaken_38 ?_
      refine lv_icmp_ge (tgt := 90) hx hb dX0_findTaken_41 (by decide) (fun c8 => ?_) (fun c8 => ?_)
      · have hf := if_t c8 hf
        obtain ⟨z9, ez9, hf⟩ := bsJ hf
        refine lv_iinc (v := z9) (lv' := [(3, .int z9), (0, .ref cs), (1, .int x1), (2, .int x2), (4, .int x4)]) hx hb dX0_findTaken_90 hl (k := 3) rfl (by rw [ez9]; rfl) (by decide) rfl (fun ls hl => ?_)
        refine lv_goto (tgt := 24) hx hb dX0_findTaken_93 (by decide) ?_
        exact hkb24 x1 x2 z9 M _ _ _ hf hP hS (lv_sub hl [1, 2, 3, 0] rfl)
      · have hf := if_f c8 hf
        refine lv_aload_n hx hb dX0_findTaken_44 rfl (lv_at hl 0 rfl) ?_
        refine r_getR hC hP hO.1 fl_X0_9 rfl dX0_findTaken_45 ?_
        refine lv_iload_n hx hb dX0_findTaken_48 rfl (lv_at hl 3 rfl) ?_
        refine lv_iload hx hb dX0_findTaken_49 (lv_at hl 4 rfl) ?_
        obtain ⟨r10, hu11, hf⟩ := bd_s hf
        refine r_goI (r_runV (As := [.int x3, .int x4]) (rest := []) hC hP hS (k_X5_lumpsAt hg hO.2.1 hu11) cw_X0_83 q_748 q_229 q_230 (Rm.D 1 6 rfl) hO.2.1.1 rfl rfl hl.1 rfl (Nat.le_of_ble_eq_true rfl) dX0_findTaken_51) hS (fun H locs hP hS => ?_)
        refine lv_if_le (tgt := 84) hx hb dX0_findTaken_54 (by decide) (fun c13 => ?_) (fun c13 => ?_)
        · have hf := if_t c13 hf
          exact J84 _ hkb24 _ ih x1 x2 x3 x4 M _ _ _ hf hP hS (lv_sub hl [0, 1, 2, 3, 4] rfl)
        · have hf := if_f c13 hf
          refine lv_aload_n hx hb dX0_findTaken_57 rfl (lv_at hl 0 rfl) ?_
          refine lv_iload_n hx hb dX0_findTaken_58 rfl (lv_at hl 3 rfl) ?_
          refine lv_iload hx hb dX0_findTaken_59 (lv_at hl 4 rfl) ?_
          refine lv_iload_n hx hb dX0_findTaken_61 rfl (lv_at hl 1 rfl) ?_
          obtain ⟨r15, M17, hu16, hf⟩ := bd2_s hf
          refine r_goI (r_runV (As := [.int x3, .int x4, .int x1]) (rest := []) hC hP hS (k_X0_fitsWithout hg hO hu16) cw_X0_114 q_839 q_840 q_841 (Rm.D 5 6 rfl) hO.1 rfl rfl hl.1 rfl (Nat.le_of_ble_eq_true rfl) dX0_findTaken_62) hS (fun H locs hP hS => ?_)
          refine lv_if_eq (tgt := 84) hx hb dX0_findTaken_65 (by decide) (fun c18 => ?_) (fun c18 => ?_)
          · have hf := if_t c18 hf
            exact J84 _ hkb24 _ ih x1 x2 x3 x4 M17 _ _ _ hf hP hS (lv_sub hl [0, 1, 2, 3, 4] rfl)
          · have hf := if_f c18 hf
            refine lv_aload_n hx hb dX0_findTaken_68 rfl (lv_at hl 0 rfl) ?_
            refine r_getR hC hP hO.1 fl_X0_35 rfl dX0_findTaken_69 ?_
            refine lv_iload_n hx hb dX0_findTaken_72 rfl (lv_at hl 2 rfl) ?_
            refine lv_bipush (v := (100 : Int32)) hx hb dX0_findTaken_73 (by decide) ?_
            refine lv_iload_n hx hb dX0_findTaken_75 rfl (lv_at hl 3 rfl) ?_
            refine lv_imul hx hb dX0_findTaken_76 ?_
            refine lv_iload hx hb dX0_findTaken_77 (lv_at hl 4 rfl) ?_
            refine lv_iadd hx hb dX0_findTaken_79 ?_
            obtain ⟨hb19, hf⟩ := ck_s hf
            refine r_iast hC hP hS hO.2.2.2.2.2.2.2.1 hb19 dX0_findTaken_80 (fun H locs hP hS => ?_)
            obtain ⟨M20, eM20, hf, hP⟩ := bsM hf hP
            obtain ⟨z21, ez21, hf⟩ := bsJ hf
            refine lv_iinc (v := z21) (lv' := [(2, .int z21), (0, .ref cs), (1, .int x1), (3, .int x3), (4, .int x4)]) hx hb dX0_findTaken_81 hl (k := 2) rfl (by rw [ez21]; rfl) (by decide) rfl (fun ls hl => ?_)
            exact J84 _ hkb24 _ ih x1 z21 x3 x4 M20 _ _ _ hf hP hS (lv_sub hl [1, 2, 0, 3, 4] rfl)
  have L24 : ∀ (n : Nat) (x1 : Int32) (x2 : Int32) (x3 : Int32) (M : Mm) (H : Heap) (locs : List Loc) (ls : Array Slot), f_X0_findTaken_L24 cs r n x1 x2 x3 M = some (v, MR) → wP g M N H → va_S (wA g) s.heap H locs → lv_has ls 5 [(0, .ref cs), (1, .int x1), (2, .int x2), (3, .int x3)] → W p l e (rmD 6) s m ([.ref cs, .int p0] : List Value).toArray below meth c H locs 0 0 (MQ below (QI g v MR N) ([.ref cs, .int p0] : List Value).toArray s 0 0 (wA g)) (F0 m 24 ls []) := by
    intro n
    induction n with
    | zero =>
      intro x1 x2 x3 M H locs ls hf
      exact absurd hf (by simp [f_X0_findTaken_L24])
    | succ n ih =>
      intro x1 x2 x3 M H locs ls hf hP hS hl
      unfold f_X0_findTaken_L24 at hf
      refine lv_iload_n hx hb dX0_findTaken_24 rfl (lv_at hl 3 rfl) ?_
      refine lv_iconst (v := (5 : Int32)) hx hb dX0_findTaken_25 (by decide) ?_
      refine lv_icmp_ge (tgt := 96) hx hb dX0_findTaken_26 (by decide) (fun c7 => ?_) (fun c7 => ?_)
      · have hf := if_t c7 hf
        refine lv_iload_n hx hb dX0_findTaken_96 rfl (lv_at hl 2 rfl) ?_
        exact e_IM hC hr hlk hP hS dX0_findTaken_97 hf
      · have hf := if_f c7 hf
        refine lv_iconst (v := (0 : Int32)) hx hb dX0_findTaken_29 (by decide) ?_
        refine lv_istore (lv' := [(4, .int (0 : Int32)), (0, .ref cs), (1, .int x1), (2, .int x2), (3, .int x3)]) hx hb dX0_findTaken_30 hl (by decide) rfl (fun ls hl => ?_)
        exact L32 _ ih _ x1 x2 x3 (0 : Int32) M _ _ _ hf hP hS (lv_sub hl [1, 2, 3, 4, 0] rfl)
  unfold f_X0_findTaken at hf
  refine lv_aload_n hx hb dX0_findTaken_0 rfl (lv_at hl 0 rfl) ?_
  refine r_getR hC hP hO.1 fl_X0_15 rfl dX0_findTaken_1 ?_
  refine lv_aload_n hx hb dX0_findTaken_4 rfl (lv_at hl 0 rfl) ?_
  refine r_getR hC hP hO.1 fl_X0_9 rfl dX0_findTaken_5 ?_
  obtain ⟨M3, hu2, hf⟩ := bd_s hf
  refine r_goV (r_runV (As := [.ref r]) (rest := []) hC hP hS (k_X5_copy hg hO.2.2.1 hO.2.1 hu2) cw_X0_53 q_706 q_410 q_411 (Rm.D 2 6 rfl) hO.2.2.1.1 rfl rfl hl.1 rfl (Nat.le_of_ble_eq_true rfl) dX0_findTaken_8) hS (fun H locs hP hS => ?_)
  refine lv_aload_n hx hb dX0_findTaken_11 rfl (lv_at hl 0 rfl) ?_
  refine r_getR hC hP hO.1 fl_X0_15 rfl dX0_findTaken_12 ?_
  refine lv_iload_n hx hb dX0_findTaken_15 rfl (lv_at hl 1 rfl) ?_
  obtain ⟨r4, M6, hu5, hf⟩ := bd2_s hf
  refine r_goI (r_runV (As := [.int p0]) (rest := []) hC hP hS (k_X5_goOnBy hg hO.2.2.1 hu5) cw_X0_59 q_707 q_708 q_709 (Rm.D 4 6 rfl) hO.2.2.1.1 rfl rfl hl.1 rfl (Nat.le_of_ble_eq_true rfl) dX0_findTaken_16) hS (fun H locs hP hS => ?_)
  refine lv_pop hx hb dX0_findTaken_19 rfl ?_
  refine lv_iconst (v := (0 : Int32)) hx hb dX0_findTaken_20 (by decide) ?_
  refine lv_istore_n (lv' := [(2, .int (0 : Int32)), (0, .ref cs), (1, .int p0)]) hx hb dX0_findTaken_21 rfl hl (by decide) rfl (fun ls hl => ?_)
  refine lv_iconst (v := (0 : Int32)) hx hb dX0_findTaken_22 (by decide) ?_
  refine lv_istore_n (lv' := [(3, .int (0 : Int32)), (2, .int (0 : Int32)), (0, .ref cs), (1, .int p0)]) hx hb dX0_findTaken_23 rfl hl (by decide) rfl (fun ls hl => ?_)
  exact L24 _ p0 (0 : Int32) (0 : Int32) M6 _ _ _ hf hP hS (lv_sub hl [2, 3, 1, 0] rfl)
set_option maxRecDepth 100000 in
set_option maxHeartbeats 4000000 in
theorem k_X0_firstTaken {g : Ev} {l : Launch} (hg : g.2.1.Nodup) {kd : Nat} {cs : Nat} {r : Nat} (hO : oCourse g kd r cs) {M : Mm} {N : Ml} {p0 : Int32} {v : Int32} {MR : Mm} (hf : f_X0_firstTaken cs r p0 M = some (v, MR)) : KM g l yX0_firstTaken cX0_firstTaken 4 (some .int) 10 [.ref cs, .int p0] M N (QI g v MR N) := by
  refine KM.mk hg (by decide) (Nat.le_of_ble_eq_true rfl) ?_
  intro p e s m below meth c ls hC hr hlk hl hP hS
  have hx := hC.1
  have hb := hC.2.1
  have hl : lv_has ls 4 [(0, .ref cs), (1, .int p0)] := hl
  have J48 : ∀ (kb8 : Int32 → Int32 → Int32 → Mm → Option (Int32 × Mm)) (hkb8 : ∀ (x1 : Int32) (x2 : Int32) (x3 : Int32) (M : Mm) (H : Heap) (locs : List Loc) (ls : Array Slot), kb8 x1 x2 x3 M = some (v, MR) → wP g M N H → va_S (wA g) s.heap H locs → lv_has ls 4 [(0, .ref cs), (1, .int x1), (2, .int x2), (3, .int x3)] → W p l e (rmD 10) s m ([.ref cs, .int p0] : List Value).toArray below meth c H locs 0 0 (MQ below (QI g v MR N) ([.ref cs, .int p0] : List Value).toArray s 0 0 (wA g)) (F0 m 8 ls [])) (x1 : Int32) (x2 : Int32) (x3 : Int32) (M : Mm) (H : Heap) (locs : List Loc) (ls : Array Slot), f_X0_firstTaken_J48 cs r x1 x2 x3 M kb8 = some (v, MR) → wP g M N H → va_S (wA g) s.heap H locs → lv_has ls 4 [(0, .ref cs), (1, .int x1), (2, .int x2), (3, .int x3)] → W p l e (rmD 10) s m ([.ref cs, .int p0] : List Value).toArray below meth c H locs 0 0 (MQ below (QI g v MR N) ([.ref cs, .int p0] : List Value).toArray s 0 0 (wA g)) (F0 m 48 ls []) := by
    intro kb8 hkb8 x1 x2 x3 M H locs ls hf hP hS hl
    unfold f_X0_firstTaken_J48 at hf
    obtain ⟨z7, ez7, hf⟩ := bsJ hf
    refine lv_iinc (v := z7) (lv' := [(3, .int z7), (0, .ref cs), (1, .int x1), (2, .int x2)]) hx hb dX0_firstTaken_48 hl (k := 3) rfl (by rw [ez7]; rfl) (by decide) rfl (fun ls hl => ?_)
    refine lv_goto (tgt := 8) hx hb dX0_firstTaken_51 (by decide) ?_
    exact hkb8 x1 x2 z7 M _ _ _ hf hP hS (lv_sub hl [1, 2, 3, 0] rfl)
  have L8 : ∀ (n : Nat) (x1 : Int32) (x2 : Int32) (x3 : Int32) (M : Mm) (H : Heap) (locs : List Loc) (ls : Array Slot), f_X0_firstTaken_L8 cs r n x1 x2 x3 M = some (v, MR) → wP g M N H → va_S (wA g) s.heap H locs → lv_has ls 4 [(0, .ref cs), (1, .int x1), (2, .int x2), (3, .int x3)] → W p l e (rmD 10) s m ([.ref cs, .int p0] : List Value).toArray below meth c H locs 0 0 (MQ below (QI g v MR N) ([.ref cs, .int p0] : List Value).toArray s 0 0 (wA g)) (F0 m 8 ls []) := by
    intro n
    induction n with
    | zero =>
      intro x1 x2 x3 M H locs ls hf
      exact absurd hf (by simp [f_X0_firstTaken_L8])
    | succ n ih =>
      intro x1 x2 x3 M H locs ls hf hP hS hl
      unfold f_X0_firstTaken_L8 at hf
      refine lv_iload_n hx hb dX0_firstTaken_8 rfl (lv_at hl 3 rfl) ?_
      refine lv_iconst (v := (5 : Int32)) hx hb dX0_firstTaken_9 (by decide) ?_
      refine lv_icmp_ge (tgt := 54) hx hb dX0_firstTaken_10 (by decide) (fun c4 => ?_) (fun c4 => ?_)
      · have hf := if_t c4 hf
        refine lv_iconst (v := (-1 : Int32)) hx hb dX0_firstTaken_54 (by decide) ?_
        exact e_IM hC hr hlk hP hS dX0_firstTaken_55 hf
      · have hf := if_f c4 hf
        refine lv_aload_n hx hb dX0_firstTaken_13 rfl (lv_at hl 0 rfl) ?_
        refine r_getR hC hP hO.1 fl_X0_25 rfl dX0_firstTaken_14 ?_
        refine lv_iload_n hx hb dX0_firstTaken_17 rfl (lv_at hl 3 rfl) ?_
        obtain ⟨hb5, hf⟩ := ck_s hf
        refine r_iald hC hP hO.2.2.2.2.1 hb5 dX0_firstTaken_18 ?_
        refine lv_if_le (tgt := 48) hx hb dX0_firstTaken_19 (by decide) (fun c6 => ?_) (fun c6 => ?_)
        · have hf := if_t c6 hf
          exact J48 _ ih x1 x2 x3 M _ _ _ hf hP hS (lv_sub hl [0, 1, 2, 3] rfl)
        · have hf := if_f c6 hf
          refine lv_aload_n hx hb dX0_firstTaken_22 rfl (lv_at hl 0 rfl) ?_
          refine r_getR hC hP hO.1 fl_X0_25 rfl dX0_firstTaken_23 ?_
          refine lv_iload_n hx hb dX0_firstTaken_26 rfl (lv_at hl 3 rfl) ?_
          obtain ⟨hb8, hf⟩ := ck_s hf
          refine r_iald hC hP hO.2.2.2.2.1 hb8 dX0_firstTaken_27 ?_
          refine lv_aload_n hx hb dX0_firstTaken_28 rfl (lv_at hl 0 rfl) ?_
          refine r_getR hC hP hO.1 fl_X0_25 rfl dX0_firstTaken_29 ?_
          refine lv_iconst (v := (1 : Int32)) hx hb dX0_firstTaken_32 (by decide) ?_
          refine lv_iload_n hx hb dX0_firstTaken_33 rfl (lv_at hl 3 rfl) ?_
          refine lv_ishl hx hb dX0_firstTaken_34 ?_
          refine lv_iload_n hx hb dX0_firstTaken_35 rfl (lv_at hl 1 rfl) ?_
          refine lv_iconst (v := (1 : Int32)) hx hb dX0_firstTaken_36 (by decide) ?_
          refine lv_isub hx hb dX0_firstTaken_37 ?_
          obtain ⟨r9, hu10, hf⟩ := bd_s hf
          refine r_goI (r_runS (As := [.ref (cs + 11), .int (jsl (1 : Int32) x3), .int (x1 - (1 : Int32))]) (rest := [.int (M (cs + 11) x3.toNatClampNeg)]) hC hP hS (k_X0_aheadBy hg 8 hO.2.2.2.2.1 hu10) cw_X0_131 q_871 q_872 (Rm.D 8 10 rfl) rfl hl.1 rfl (Nat.le_of_ble_eq_true rfl) dX0_firstTaken_38) hS (fun H locs hP hS => ?_)
          refine lv_isub hx hb dX0_firstTaken_41 ?_
          refine lv_iload_n hx hb dX0_firstTaken_42 rfl (lv_at hl 2 rfl) ?_
          refine lv_icmp_ne (tgt := 48) hx hb dX0_firstTaken_43 (by decide) (fun c12 => ?_) (fun c12 => ?_)
          · have hf := if_f c12 hf
            exact J48 _ ih x1 x2 x3 M _ _ _ hf hP hS (lv_sub hl [0, 1, 2, 3] rfl)
          · have hf := if_t c12 hf
            refine lv_iload_n hx hb dX0_firstTaken_46 rfl (lv_at hl 3 rfl) ?_
            exact e_IM hC hr hlk hP hS dX0_firstTaken_47 hf
  unfold f_X0_firstTaken at hf
  refine lv_aload_n hx hb dX0_firstTaken_0 rfl (lv_at hl 0 rfl) ?_
  refine lv_iload_n hx hb dX0_firstTaken_1 rfl (lv_at hl 1 rfl) ?_
  obtain ⟨r1, M3, hu2, hf⟩ := bd2_s hf
  refine r_goI (r_runV (As := [.int p0]) (rest := []) hC hP hS (k_X0_farmerAhead hg hO hu2) cw_X0_135 q_878 q_864 q_865 (Rm.D 9 10 rfl) hO.1 rfl rfl hl.1 rfl (Nat.le_of_ble_eq_true rfl) dX0_firstTaken_2) hS (fun H locs hP hS => ?_)
  refine lv_istore_n (lv' := [(2, .int r1), (0, .ref cs), (1, .int p0)]) hx hb dX0_firstTaken_5 rfl hl (by decide) rfl (fun ls hl => ?_)
  refine lv_iconst (v := (0 : Int32)) hx hb dX0_firstTaken_6 (by decide) ?_
  refine lv_istore_n (lv' := [(3, .int (0 : Int32)), (2, .int r1), (0, .ref cs), (1, .int p0)]) hx hb dX0_firstTaken_7 rfl hl (by decide) rfl (fun ls hl => ?_)
  exact L8 _ p0 r1 (0 : Int32) M3 _ _ _ hf hP hS (lv_sub hl [2, 3, 1, 0] rfl)
