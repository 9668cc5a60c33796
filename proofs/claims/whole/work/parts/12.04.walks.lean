set_option maxRecDepth 100000 in
set_option maxHeartbeats 4000000 in
theorem k_X7_forget {g : Ev} {l : Launch} (hg : g.2.1.Nodup) {kd : Nat} {b : Nat} (hO : oStory g kd b) {M : Mm} {N : Ml}  {MR : Mm} (hf : f_X7_forget b M = some MR) : KM g l yX7_forget cX7_forget 1 none 0 [.ref b] M N (QV g MR N) := by
  refine KM.mk hg (by decide) (Nat.le_of_ble_eq_true rfl) ?_
  intro p e s m below meth c ls hC hr hlk hl hP hS
  have hx := hC.1
  have hb := hC.2.1
  have hl : lv_has ls 1 [(0, .ref b)] := hl
  unfold f_X7_forget at hf
  refine lv_aload_n hx hb dX7_forget_0 rfl (lv_at hl 0 rfl) ?_
  refine lv_iconst (v := (0 : Int32)) hx hb dX7_forget_1 (by decide) ?_
  refine r_putI hC hP hS hO.1 fl_X7_28 tyX7 tyX7_ok nmX7 rfl rfl rfl dX7_forget_2 (fun H locs hP hS => ?_)
  obtain ⟨M1, eM1, hf, hP⟩ := bsM hf hP
  exact e_VM hC hr hlk hP hS dX7_forget_5 hf
set_option maxRecDepth 100000 in
set_option maxHeartbeats 4000000 in
theorem k_X11_read {g : Ev} {l : Launch} (hg : g.2.1.Nodup) {x : Nat} (hO : oTop g x) {M : Mm} {N : Ml}  {v : Int32} {MR : Mm} (hf : f_X11_read x M = some (v, MR)) : KM g l yX11_read cX11_read 2 (some .int) 7 [.ref x] M N (QI g v MR N) := by
  refine KM.mk hg (by decide) (Nat.le_of_ble_eq_true rfl) ?_
  intro p e s m below meth c ls hC hr hlk hl hP hS
  have hx := hC.1
  have hb := hC.2.1
  have hl : lv_has ls 2 [(0, .ref x)] := hl
  unfold f_X11_read at hf
  refine lv_aload_n hx hb dX11_read_0 rfl (lv_at hl 0 rfl) ?_
  refine r_getR hC hP hO.1 fl_X11_69 rfl dX11_read_1 ?_
  obtain ⟨r1, M3, hu2, hf⟩ := bd2_s hf
  refine r_goI (r_runV (As := []) (rest := []) hC hP hS (k_X4_readAll hg hO.2.2.2.2.2.2.2.1 hu2) cw_X11_134 q_304 q_305 q_306 (Rm.D 6 7 rfl) hO.2.2.2.2.2.2.2.1.1 rfl rfl hl.1 rfl (Nat.le_of_ble_eq_true rfl) dX11_read_4) hS (fun H locs hP hS => ?_)
  refine lv_istore_n (lv' := [(1, .int r1), (0, .ref x)]) hx hb dX11_read_7 rfl hl (by decide) rfl (fun ls hl => ?_)
  refine lv_iload_n hx hb dX11_read_8 rfl (lv_at hl 0 rfl) ?_
  refine lv_if_lt (tgt := 36) hx hb dX11_read_9 (by decide) (fun c4 => ?_) (fun c4 => ?_)
  · have hf := if_t c4 hf
    refine lv_iload_n hx hb dX11_read_36 rfl (lv_at hl 0 rfl) ?_
    exact e_IM hC hr hlk hP hS dX11_read_37 hf
  · have hf := if_f c4 hf
    refine lv_aload_n hx hb dX11_read_12 rfl (lv_at hl 1 rfl) ?_
    refine r_getR hC hP hO.1 fl_X11_27 rfl dX11_read_13 ?_
    refine r_getR hC hP hO.2.1.1 fl_X11_43 rfl dX11_read_16 ?_
    refine lv_aload_n hx hb dX11_read_19 rfl (lv_at hl 1 rfl) ?_
    refine r_getR hC hP hO.1 fl_X11_69 rfl dX11_read_20 ?_
    refine r_getR hC hP hO.2.2.2.2.2.2.2.1.1 fl_X11_138 rfl dX11_read_23 ?_
    obtain ⟨M7, hu6, hf⟩ := bd_s hf
    refine r_goV (r_runV (As := [.ref (x + 222 + 1)]) (rest := []) hC hP hS (k_X5_copy hg hO.2.1.2.1 hO.2.2.2.2.2.2.2.1.2.2.1 hu6) cw_X11_141 q_409 q_410 q_411 (Rm.D 2 7 rfl) hO.2.1.2.1.1 rfl rfl hl.1 rfl (Nat.le_of_ble_eq_true rfl) dX11_read_26) hS (fun H locs hP hS => ?_)
    refine lv_aload_n hx hb dX11_read_29 rfl (lv_at hl 1 rfl) ?_
    refine r_getR hC hP hO.1 fl_X11_27 rfl dX11_read_30 ?_
    obtain ⟨M10, hu9, hf⟩ := bd_s hf
    refine r_goV (r_runV (As := []) (rest := []) hC hP hS (k_X7_forget hg hO.2.1 hu9) cw_X11_100 q_183 q_184 q_185 (Rm.D 0 7 rfl) hO.2.1.1 rfl rfl hl.1 rfl (Nat.le_of_ble_eq_true rfl) dX11_read_33) hS (fun H locs hP hS => ?_)
    refine lv_iload_n hx hb dX11_read_36 rfl (lv_at hl 0 rfl) ?_
    exact e_IM hC hr hlk hP hS dX11_read_37 hf
set_option maxRecDepth 100000 in
set_option maxHeartbeats 4000000 in
theorem k_X11_ring {g : Ev} {l : Launch} (hg : g.2.1.Nodup) {x : Nat} (hO : oTop g x) {M : Mm} {N : Ml} {p0 : Int32} {v : Int32} {MR : Mm} (hf : f_X11_ring x p0 M = some (v, MR)) : KM g l yX11_ring cX11_ring 3 (some .int) 2 [.ref x, .int p0] M N (QI g v MR N) := by
  refine KM.mk hg (by decide) (Nat.le_of_ble_eq_true rfl) ?_
  intro p e s m below meth c ls hC hr hlk hl hP hS
  have hx := hC.1
  have hb := hC.2.1
  have hl : lv_has ls 3 [(0, .ref x), (1, .int p0)] := hl
  unfold f_X11_ring at hf
  refine lv_iload_n hx hb dX11_ring_0 rfl (lv_at hl 1 rfl) ?_
  refine lv_iconst (v := (4 : Int32)) hx hb dX11_ring_1 (by decide) ?_
  refine lv_bipush (v := (24 : Int32)) hx hb dX11_ring_2 (by decide) ?_
  obtain ⟨r1, hu2, hf⟩ := bd_s hf
  refine r_goI (r_runS (As := [.int p0, .int (4 : Int32), .int (24 : Int32)]) (rest := []) hC hP hS (k_X11_isWithin hg hu2) cw_X11_84 q_175 q_176 (Rm.D 0 2 rfl) rfl hl.1 rfl (Nat.le_of_ble_eq_true rfl) dX11_ring_4) hS (fun H locs hP hS => ?_)
  refine lv_if_ne (tgt := 18) hx hb dX11_ring_7 (by decide) (fun c4 => ?_) (fun c4 => ?_)
  · have hf := if_f c4 hf
    refine lv_aload_n hx hb dX11_ring_18 rfl (lv_at hl 0 rfl) ?_
    refine r_getR hC hP hO.1 fl_X11_27 rfl dX11_ring_19 ?_
    refine r_getR hC hP hO.2.1.1 fl_X11_43 rfl dX11_ring_22 ?_
    refine r_getI hC hP hO.2.1.2.1.1 fl_X11_92 rfl dX11_ring_25 ?_
    refine lv_topi (fun z5 ez5 => ?_)
    have hf := bs ez5 hf
    refine lv_istore_n (lv' := [(2, .int z5), (0, .ref x), (1, .int p0)]) hx hb dX11_ring_28 rfl hl (by decide) rfl (fun ls hl => ?_)
    refine lv_aload_n hx hb dX11_ring_29 rfl (lv_at hl 1 rfl) ?_
    refine r_getR hC hP hO.1 fl_X11_27 rfl dX11_ring_30 ?_
    refine r_getR hC hP hO.2.1.1 fl_X11_43 rfl dX11_ring_33 ?_
    refine lv_iload_n hx hb dX11_ring_36 rfl (lv_at hl 2 rfl) ?_
    obtain ⟨M8, hu7, hf⟩ := bd_s hf
    refine r_goV (r_runV (As := [.int p0]) (rest := []) hC hP hS (k_X5_begin hg hO.2.1.2.1 hu7) cw_X11_96 q_182 q_98 q_99 (Rm.D 1 2 rfl) hO.2.1.2.1.1 rfl rfl hl.1 rfl (Nat.le_of_ble_eq_true rfl) dX11_ring_37) hS (fun H locs hP hS => ?_)
    refine lv_aload_n hx hb dX11_ring_40 rfl (lv_at hl 1 rfl) ?_
    refine r_getR hC hP hO.1 fl_X11_27 rfl dX11_ring_41 ?_
    obtain ⟨M11, hu10, hf⟩ := bd_s hf
    refine r_goV (r_runV (As := []) (rest := []) hC hP hS (k_X7_forget hg hO.2.1 hu10) cw_X11_100 q_183 q_184 q_185 (Rm.D 0 2 rfl) hO.2.1.1 rfl rfl hl.1 rfl (Nat.le_of_ble_eq_true rfl) dX11_ring_44) hS (fun H locs hP hS => ?_)
    refine lv_iload_n hx hb dX11_ring_47 rfl (lv_at hl 0 rfl) ?_
    exact e_IM hC hr hlk hP hS dX11_ring_48 hf
  · have hf := if_t c4 hf
    refine lv_aload_n hx hb dX11_ring_10 rfl (lv_at hl 0 rfl) ?_
    refine lv_iconst (v := (0 : Int32)) hx hb dX11_ring_11 (by decide) ?_
    refine lv_bipush (v := (-2 : Int32)) hx hb dX11_ring_12 (by decide) ?_
    obtain ⟨r12, M14, hu13, hf⟩ := bd2_s hf
    refine r_goI (r_runV (As := [.int (0 : Int32), .int (-2 : Int32)]) (rest := []) hC hP hS (k_X11_refuse hg hO hu13) cw_X11_88 q_178 q_179 q_180 (Rm.D 0 2 rfl) hO.1 rfl rfl hl.1 rfl (Nat.le_of_ble_eq_true rfl) dX11_ring_14) hS (fun H locs hP hS => ?_)
    exact e_IM hC hr hlk hP hS dX11_ring_17 hf
set_option maxRecDepth 100000 in
set_option maxHeartbeats 4000000 in
theorem k_X11_road {g : Ev} {l : Launch} (hg : g.2.1.Nodup) {x : Nat} (hO : oTop g x) {M : Mm} {N : Ml} {p0 : Int32} {p1 : Int32} {p2 : Int32} {v : Int32} {MR : Mm} (hf : f_X11_road x p0 p1 p2 M = some (v, MR)) : KM g l yX11_road cX11_road 5 (some .int) 5 [.ref x, .int p0, .int p1, .int p2] M N (QI g v MR N) := by
  refine KM.mk hg (by decide) (Nat.le_of_ble_eq_true rfl) ?_
  intro p e s m below meth c ls hC hr hlk hl hP hS
  have hx := hC.1
  have hb := hC.2.1
  have hl : lv_has ls 5 [(0, .ref x), (1, .int p0), (2, .int p1), (3, .int p2)] := hl
  have J24 : ∀ (M : Mm) (H : Heap) (locs : List Loc) (ls : Array Slot), f_X11_road_J24 x M = some (v, MR) → wP g M N H → va_S (wA g) s.heap H locs → lv_has ls 5 [(0, .ref x)] → W p l e (rmD 5) s m ([.ref x, .int p0, .int p1, .int p2] : List Value).toArray below meth c H locs 0 0 (MQ below (QI g v MR N) ([.ref x, .int p0, .int p1, .int p2] : List Value).toArray s 0 0 (wA g)) (F0 m 24 ls []) := by
    intro M H locs ls hf hP hS hl
    unfold f_X11_road_J24 at hf
    refine lv_aload_n hx hb dX11_road_24 rfl (lv_at hl 0 rfl) ?_
    refine lv_iconst (v := (0 : Int32)) hx hb dX11_road_25 (by decide) ?_
    refine lv_bipush (v := (-10 : Int32)) hx hb dX11_road_26 (by decide) ?_
    obtain ⟨r5, M7, hu6, hf⟩ := bd2_s hf
    refine r_goI (r_runV (As := [.int (0 : Int32), .int (-10 : Int32)]) (rest := []) hC hP hS (k_X11_refuse hg hO hu6) cw_X11_88 q_178 q_179 q_180 (Rm.D 0 5 rfl) hO.1 rfl rfl hl.1 rfl (Nat.le_of_ble_eq_true rfl) dX11_road_28) hS (fun H locs hP hS => ?_)
    exact e_IM hC hr hlk hP hS dX11_road_31 hf
  unfold f_X11_road at hf
  refine lv_aload_n hx hb dX11_road_0 rfl (lv_at hl 0 rfl) ?_
  refine lv_iload_n hx hb dX11_road_1 rfl (lv_at hl 1 rfl) ?_
  obtain ⟨r1, hu2, hf⟩ := bd_s hf
  refine r_goI (r_runV (As := [.int p0]) (rest := []) hC hP hS (k_X11_isPlace hg hO hu2) cw_X11_110 q_224 q_225 q_226 (Rm.D 1 5 rfl) hO.1 rfl rfl hl.1 rfl (Nat.le_of_ble_eq_true rfl) dX11_road_2) hS (fun H locs hP hS => ?_)
  refine lv_if_eq (tgt := 24) hx hb dX11_road_5 (by decide) (fun c4 => ?_) (fun c4 => ?_)
  · have hf := if_t c4 hf
    exact J24 M _ _ _ hf hP hS (lv_sub hl [0] rfl)
  · have hf := if_f c4 hf
    refine lv_iload_n hx hb dX11_road_8 rfl (lv_at hl 2 rfl) ?_
    obtain ⟨r8, hu9, hf⟩ := bd_s hf
    refine r_goI (r_runS (As := [.int p1]) (rest := []) hC hP hS (k_X11_isRounds hg hu9) cw_X11_164 q_646 q_647 (Rm.D 1 5 rfl) rfl hl.1 rfl (Nat.le_of_ble_eq_true rfl) dX11_road_9) hS (fun H locs hP hS => ?_)
    refine lv_if_eq (tgt := 24) hx hb dX11_road_12 (by decide) (fun c11 => ?_) (fun c11 => ?_)
    · have hf := if_t c11 hf
      exact J24 M _ _ _ hf hP hS (lv_sub hl [0] rfl)
    · have hf := if_f c11 hf
      refine lv_iload_n hx hb dX11_road_15 rfl (lv_at hl 3 rfl) ?_
      refine lv_iconst (v := (0 : Int32)) hx hb dX11_road_16 (by decide) ?_
      refine lv_iconst (v := (1 : Int32)) hx hb dX11_road_17 (by decide) ?_
      obtain ⟨r12, hu13, hf⟩ := bd_s hf
      refine r_goI (r_runS (As := [.int p2, .int (0 : Int32), .int (1 : Int32)]) (rest := []) hC hP hS (k_X11_isWithin hg hu13) cw_X11_84 q_175 q_176 (Rm.D 0 5 rfl) rfl hl.1 rfl (Nat.le_of_ble_eq_true rfl) dX11_road_18) hS (fun H locs hP hS => ?_)
      refine lv_if_ne (tgt := 32) hx hb dX11_road_21 (by decide) (fun c15 => ?_) (fun c15 => ?_)
      · have hf := if_f c15 hf
        refine lv_aload_n hx hb dX11_road_32 rfl (lv_at hl 0 rfl) ?_
        refine r_getR hC hP hO.1 fl_X11_53 rfl dX11_road_33 ?_
        refine lv_iload_n hx hb dX11_road_36 rfl (lv_at hl 1 rfl) ?_
        refine lv_iload_n hx hb dX11_road_37 rfl (lv_at hl 2 rfl) ?_
        obtain ⟨r16, M18, hu17, hf⟩ := bd2_s hf
        refine r_goI (r_runV (As := [.int p0, .int p1]) (rest := []) hC hP hS (k_X0_roadOpens hg hO.2.2.2.2.2.1 hu17) cw_X11_195 q_776 q_777 q_778 (Rm.D 4 5 rfl) hO.2.2.2.2.2.1.1 rfl rfl hl.1 rfl (Nat.le_of_ble_eq_true rfl) dX11_road_38) hS (fun H locs hP hS => ?_)
        refine lv_istore (lv' := [(4, .int r16), (0, .ref x), (1, .int p0), (2, .int p1), (3, .int p2)]) hx hb dX11_road_41 hl (by decide) rfl (fun ls hl => ?_)
        refine lv_iload_n hx hb dX11_road_43 rfl (lv_at hl 4 rfl) ?_
        refine lv_if_eq (tgt := 53) hx hb dX11_road_44 (by decide) (fun c19 => ?_) (fun c19 => ?_)
        · have hf := if_t c19 hf
          refine lv_iload hx hb dX11_road_53 (lv_at hl 0 rfl) ?_
          exact e_IM hC hr hlk hP hS dX11_road_55 hf
        · have hf := if_f c19 hf
          refine lv_iload hx hb dX11_road_47 (lv_at hl 0 rfl) ?_
          refine lv_iconst (v := (-1 : Int32)) hx hb dX11_road_49 (by decide) ?_
          refine lv_icmp_ne (tgt := 56) hx hb dX11_road_50 (by decide) (fun c20 => ?_) (fun c20 => ?_)
          · have hf := if_f c20 hf
            refine lv_aload_n hx hb dX11_road_56 rfl (lv_at hl 1 rfl) ?_
            refine r_getR hC hP hO.1 fl_X11_53 rfl dX11_road_57 ?_
            refine lv_iload_n hx hb dX11_road_60 rfl (lv_at hl 2 rfl) ?_
            refine lv_iload_n hx hb dX11_road_61 rfl (lv_at hl 3 rfl) ?_
            refine lv_iload hx hb dX11_road_62 (lv_at hl 0 rfl) ?_
            obtain ⟨r21, M23, hu22, hf⟩ := bd2_s hf
            refine r_goI (r_runV (As := [.int p0, .int p1, .int r16]) (rest := []) hC hP hS (k_X0_roadLasts hg hO.2.2.2.2.2.1 hu22) cw_X11_198 q_786 q_787 q_788 (Rm.D 4 5 rfl) hO.2.2.2.2.2.1.1 rfl rfl hl.1 rfl (Nat.le_of_ble_eq_true rfl) dX11_road_64) hS (fun H locs hP hS => ?_)
            exact e_IM hC hr hlk hP hS dX11_road_67 hf
          · have hf := if_t c20 hf
            refine lv_iload hx hb dX11_road_53 (lv_at hl 0 rfl) ?_
            exact e_IM hC hr hlk hP hS dX11_road_55 hf
      · have hf := if_t c15 hf
        exact J24 M _ _ _ hf hP hS (lv_sub hl [0] rfl)
set_option maxRecDepth 100000 in
set_option maxHeartbeats 4000000 in
theorem k_X7_goOn {g : Ev} {l : Launch} (hg : g.2.1.Nodup) {kd : Nat} {b : Nat} (hO : oStory g kd b) {M : Mm} {N : Ml}  {v : Int32} {MR : Mm} (hf : f_X7_goOn b M = some (v, MR)) : KM g l yX7_goOn cX7_goOn 1 (some .int) 4 [.ref b] M N (QI g v MR N) := by
  refine KM.mk hg (by decide) (Nat.le_of_ble_eq_true rfl) ?_
  intro p e s m below meth c ls hC hr hlk hl hP hS
  have hx := hC.1
  have hb := hC.2.1
  have hl : lv_has ls 1 [(0, .ref b)] := hl
  unfold f_X7_goOn at hf
  refine lv_aload_n hx hb dX7_goOn_0 rfl (lv_at hl 0 rfl) ?_
  refine lv_aload_n hx hb dX7_goOn_1 rfl (lv_at hl 0 rfl) ?_
  refine r_getI hC hP hO.1 fl_X7_24 rfl dX7_goOn_2 ?_
  refine lv_iconst (v := (1 : Int32)) hx hb dX7_goOn_5 (by decide) ?_
  refine lv_iadd hx hb dX7_goOn_6 ?_
  refine lv_bipush (v := (6 : Int32)) hx hb dX7_goOn_7 (by decide) ?_
  obtain ⟨hz1, hf⟩ := cz_s hf
  refine lv_irem hx hb dX7_goOn_9 hz1 ?_
  refine r_putI hC hP hS hO.1 fl_X7_24 tyX7 tyX7_ok nmX7 rfl rfl rfl dX7_goOn_10 (fun H locs hP hS => ?_)
  obtain ⟨M2, eM2, hf, hP⟩ := bsM hf hP
  refine lv_aload_n hx hb dX7_goOn_13 rfl (lv_at hl 0 rfl) ?_
  refine lv_aload_n hx hb dX7_goOn_14 rfl (lv_at hl 0 rfl) ?_
  refine r_getI hC hP hO.1 fl_X7_28 rfl dX7_goOn_15 ?_
  refine lv_iconst (v := (1 : Int32)) hx hb dX7_goOn_18 (by decide) ?_
  refine lv_iadd hx hb dX7_goOn_19 ?_
  refine lv_bipush (v := (6 : Int32)) hx hb dX7_goOn_20 (by decide) ?_
  refine r_min hC hl.1 q_475 q_476 q_477 q_478 (Rm.D 0 4 rfl) (Nat.le_of_ble_eq_true rfl) dX7_goOn_22 ?_
  refine r_putI hC hP hS hO.1 fl_X7_28 tyX7 tyX7_ok nmX7 rfl rfl rfl dX7_goOn_25 (fun H locs hP hS => ?_)
  obtain ⟨M3, eM3, hf, hP⟩ := bsM hf hP
  refine lv_aload_n hx hb dX7_goOn_28 rfl (lv_at hl 0 rfl) ?_
  refine r_getR hC hP hO.1 fl_X7_20 rfl dX7_goOn_29 ?_
  refine lv_aload_n hx hb dX7_goOn_32 rfl (lv_at hl 0 rfl) ?_
  refine r_getI hC hP hO.1 fl_X7_24 rfl dX7_goOn_33 ?_
  obtain ⟨hb4, hf⟩ := ck_s hf
  obtain ⟨j5, ej5, hf⟩ := bsJ hf
  have hj5 : j5 < 6 := by rw [ej5]; exact vin_lt hb4
  refine r_aalR (t0 := 3) (v := b + 11 + 9 * j5) hC hP hO.2.2.1 rfl hb4 (by rw [ej5]) dX7_goOn_36 ?_
  refine lv_aload_n hx hb dX7_goOn_37 rfl (lv_at hl 0 rfl) ?_
  refine r_getR hC hP hO.1 fl_X7_14 rfl dX7_goOn_38 ?_
  obtain ⟨M8, hu7, hf⟩ := bd_s hf
  refine r_goV (r_runV (As := [.ref (b + 1)]) (rest := []) hC hP hS (k_X5_copy hg (hO.2.2.2 j5 hj5) hO.2.1 hu7) cw_X7_31 q_479 q_410 q_411 (Rm.D 2 4 rfl) ((hO.2.2.2 j5 hj5).1) rfl rfl hl.1 rfl (Nat.le_of_ble_eq_true rfl) dX7_goOn_41) hS (fun H locs hP hS => ?_)
  refine lv_aload_n hx hb dX7_goOn_44 rfl (lv_at hl 0 rfl) ?_
  refine r_getR hC hP hO.1 fl_X7_14 rfl dX7_goOn_45 ?_
  obtain ⟨r9, M11, hu10, hf⟩ := bd2_s hf
  refine r_goI (r_runV (As := []) (rest := []) hC hP hS (k_X5_goOn hg hO.2.1 hu10) cw_X7_41 q_480 q_481 q_482 (Rm.D 3 4 rfl) hO.2.1.1 rfl rfl hl.1 rfl (Nat.le_of_ble_eq_true rfl) dX7_goOn_48) hS (fun H locs hP hS => ?_)
  exact e_IM hC hr hlk hP hS dX7_goOn_51 hf
set_option maxRecDepth 100000 in
set_option maxHeartbeats 4000000 in
theorem k_X11_round {g : Ev} {l : Launch} (hg : g.2.1.Nodup) {x : Nat} (hO : oTop g x) {M : Mm} {N : Ml}  {v : Int32} {MR : Mm} (hf : f_X11_round x M = some (v, MR)) : KM g l yX11_round cX11_round 1 (some .int) 5 [.ref x] M N (QI g v MR N) := by
  refine KM.mk hg (by decide) (Nat.le_of_ble_eq_true rfl) ?_
  intro p e s m below meth c ls hC hr hlk hl hP hS
  have hx := hC.1
  have hb := hC.2.1
  have hl : lv_has ls 1 [(0, .ref x)] := hl
  unfold f_X11_round at hf
  refine lv_aload_n hx hb dX11_round_0 rfl (lv_at hl 0 rfl) ?_
  refine r_getR hC hP hO.1 fl_X11_27 rfl dX11_round_1 ?_
  obtain ⟨r1, M3, hu2, hf⟩ := bd2_s hf
  refine r_goI (r_runV (As := []) (rest := []) hC hP hS (k_X7_goOn hg hO.2.1 hu2) cw_X11_145 q_471 q_472 q_473 (Rm.D 4 5 rfl) hO.2.1.1 rfl rfl hl.1 rfl (Nat.le_of_ble_eq_true rfl) dX11_round_4) hS (fun H locs hP hS => ?_)
  exact e_IM hC hr hlk hP hS dX11_round_7 hf
set_option maxRecDepth 100000 in
set_option maxHeartbeats 4000000 in
theorem k_X11_status {g : Ev} {l : Launch} (hg : g.2.1.Nodup) {x : Nat} (hO : oTop g x) {M : Mm} {N : Ml} {p0 : Int32} {v : Int32} {MR : Mm} (hf : f_X11_status x p0 M = some (v, MR)) : KM g l yX11_status cX11_status 2 (some .int) 1 [.ref x, .int p0] M N (QI g v MR N) := by
  refine KM.mk hg (by decide) (Nat.le_of_ble_eq_true rfl) ?_
  intro p e s m below meth c ls hC hr hlk hl hP hS
  have hx := hC.1
  have hb := hC.2.1
  have hl : lv_has ls 2 [(0, .ref x), (1, .int p0)] := hl
  unfold f_X11_status at hf
  refine lv_iload_n hx hb dX11_status_0 rfl (lv_at hl 1 rfl) ?_
  refine lv_iconst (v := (0 : Int32)) hx hb dX11_status_1 (by decide) ?_
  refine lv_iconst (v := (2 : Int32)) hx hb dX11_status_2 (by decide) ?_
  obtain ⟨r1, hu2, hf⟩ := bd_s hf
  refine r_goI (r_runS (As := [.int p0, .int (0 : Int32), .int (2 : Int32)]) (rest := []) hC hP hS (k_X11_isWithin hg hu2) cw_X11_84 q_175 q_176 (Rm.D 0 1 rfl) rfl hl.1 rfl (Nat.le_of_ble_eq_true rfl) dX11_status_3) hS (fun H locs hP hS => ?_)
  refine lv_if_ne (tgt := 16) hx hb dX11_status_6 (by decide) (fun c4 => ?_) (fun c4 => ?_)
  · have hf := if_f c4 hf
    refine lv_aload_n hx hb dX11_status_16 rfl (lv_at hl 0 rfl) ?_
    refine r_getR hC hP hO.1 fl_X11_73 rfl dX11_status_17 ?_
    refine lv_iload_n hx hb dX11_status_20 rfl (lv_at hl 1 rfl) ?_
    obtain ⟨hb5, hf⟩ := ck_s hf
    refine r_iald hC hP hO.2.2.2.2.2.2.2.2 hb5 dX11_status_21 ?_
    exact e_IM hC hr hlk hP hS dX11_status_22 hf
  · have hf := if_t c4 hf
    refine lv_aload_n hx hb dX11_status_9 rfl (lv_at hl 0 rfl) ?_
    refine lv_iconst (v := (0 : Int32)) hx hb dX11_status_10 (by decide) ?_
    refine lv_iconst (v := (-1 : Int32)) hx hb dX11_status_11 (by decide) ?_
    obtain ⟨r6, M8, hu7, hf⟩ := bd2_s hf
    refine r_goI (r_runV (As := [.int (0 : Int32), .int (-1 : Int32)]) (rest := []) hC hP hS (k_X11_refuse hg hO hu7) cw_X11_88 q_178 q_179 q_180 (Rm.D 0 1 rfl) hO.1 rfl rfl hl.1 rfl (Nat.le_of_ble_eq_true rfl) dX11_status_12) hS (fun H locs hP hS => ?_)
    exact e_IM hC hr hlk hP hS dX11_status_15 hf
set_option maxRecDepth 100000 in
set_option maxHeartbeats 4000000 in
theorem k_X11_step {g : Ev} {l : Launch} (hg : g.2.1.Nodup) {x : Nat} (hO : oTop g x) {M : Mm} {N : Ml} {p0 : Int32} {p1 : Int32} {v : Int32} {MR : Mm} (hf : f_X11_step x p0 p1 M = some (v, MR)) : KM g l yX11_step cX11_step 4 (some .int) 1 [.ref x, .int p0, .int p1] M N (QI g v MR N) := by
  refine KM.mk hg (by decide) (Nat.le_of_ble_eq_true rfl) ?_
  intro p e s m below meth c ls hC hr hlk hl hP hS
  have hx := hC.1
  have hb := hC.2.1
  have hl : lv_has ls 4 [(0, .ref x), (1, .int p0), (2, .int p1)] := hl
  have J17 : ∀ (M : Mm) (H : Heap) (locs : List Loc) (ls : Array Slot), f_X11_step_J17 x M = some (v, MR) → wP g M N H → va_S (wA g) s.heap H locs → lv_has ls 4 [(0, .ref x)] → W p l e (rmD 1) s m ([.ref x, .int p0, .int p1] : List Value).toArray below meth c H locs 0 0 (MQ below (QI g v MR N) ([.ref x, .int p0, .int p1] : List Value).toArray s 0 0 (wA g)) (F0 m 17 ls []) := by
    intro M H locs ls hf hP hS hl
    unfold f_X11_step_J17 at hf
    refine lv_aload_n hx hb dX11_step_17 rfl (lv_at hl 0 rfl) ?_
    refine lv_iconst (v := (0 : Int32)) hx hb dX11_step_18 (by decide) ?_
    refine lv_bipush (v := (-2 : Int32)) hx hb dX11_step_19 (by decide) ?_
    obtain ⟨r5, M7, hu6, hf⟩ := bd2_s hf
    refine r_goI (r_runV (As := [.int (0 : Int32), .int (-2 : Int32)]) (rest := []) hC hP hS (k_X11_refuse hg hO hu6) cw_X11_88 q_178 q_179 q_180 (Rm.D 0 1 rfl) hO.1 rfl rfl hl.1 rfl (Nat.le_of_ble_eq_true rfl) dX11_step_21) hS (fun H locs hP hS => ?_)
    exact e_IM hC hr hlk hP hS dX11_step_24 hf
  unfold f_X11_step at hf
  refine lv_iload_n hx hb dX11_step_0 rfl (lv_at hl 1 rfl) ?_
  obtain ⟨r1, hu2, hf⟩ := bd_s hf
  refine r_goI (r_runS (As := [.int p0]) (rest := []) hC hP hS (k_X11_isLane hg hu2) cw_X11_103 q_209 q_210 (Rm.D 0 1 rfl) rfl hl.1 rfl (Nat.le_of_ble_eq_true rfl) dX11_step_1) hS (fun H locs hP hS => ?_)
  refine lv_if_eq (tgt := 17) hx hb dX11_step_4 (by decide) (fun c4 => ?_) (fun c4 => ?_)
  · have hf := if_t c4 hf
    exact J17 M _ _ _ hf hP hS (lv_sub hl [0] rfl)
  · have hf := if_f c4 hf
    refine lv_iload_n hx hb dX11_step_7 rfl (lv_at hl 2 rfl) ?_
    refine lv_iconst (v := (0 : Int32)) hx hb dX11_step_8 (by decide) ?_
    refine lv_bipush (v := (9 : Int32)) hx hb dX11_step_9 (by decide) ?_
    obtain ⟨r8, hu9, hf⟩ := bd_s hf
    refine r_goI (r_runS (As := [.int p1, .int (0 : Int32), .int (9 : Int32)]) (rest := []) hC hP hS (k_X11_isWithin hg hu9) cw_X11_84 q_175 q_176 (Rm.D 0 1 rfl) rfl hl.1 rfl (Nat.le_of_ble_eq_true rfl) dX11_step_11) hS (fun H locs hP hS => ?_)
    refine lv_if_ne (tgt := 25) hx hb dX11_step_14 (by decide) (fun c11 => ?_) (fun c11 => ?_)
    · have hf := if_f c11 hf
      refine lv_aload_n hx hb dX11_step_25 rfl (lv_at hl 0 rfl) ?_
      refine r_getR hC hP hO.1 fl_X11_27 rfl dX11_step_26 ?_
      refine r_getR hC hP hO.2.1.1 fl_X11_43 rfl dX11_step_29 ?_
      refine r_getR hC hP hO.2.1.2.1.1 fl_X11_107 rfl dX11_step_32 ?_
      refine lv_iload_n hx hb dX11_step_35 rfl (lv_at hl 1 rfl) ?_
      obtain ⟨hb12, hf⟩ := ck_s hf
      refine r_iald hC hP hO.2.1.2.1.2.1 hb12 dX11_step_36 ?_
      refine lv_topi (fun z13 ez13 => ?_)
      have hf := bs ez13 hf
      refine lv_istore_n (lv' := [(3, .int z13), (0, .ref x), (1, .int p0), (2, .int p1)]) hx hb dX11_step_37 rfl hl (by decide) rfl (fun ls hl => ?_)
      refine lv_aload_n hx hb dX11_step_38 rfl (lv_at hl 1 rfl) ?_
      refine r_getR hC hP hO.1 fl_X11_27 rfl dX11_step_39 ?_
      refine r_getR hC hP hO.2.1.1 fl_X11_43 rfl dX11_step_42 ?_
      refine r_getR hC hP hO.2.1.2.1.1 fl_X11_107 rfl dX11_step_45 ?_
      refine lv_iload_n hx hb dX11_step_48 rfl (lv_at hl 2 rfl) ?_
      refine lv_iload_n hx hb dX11_step_49 rfl (lv_at hl 3 rfl) ?_
      obtain ⟨hb14, hf⟩ := ck_s hf
      refine r_iast hC hP hS hO.2.1.2.1.2.1 hb14 dX11_step_50 (fun H locs hP hS => ?_)
      obtain ⟨M15, eM15, hf, hP⟩ := bsM hf hP
      refine lv_iload_n hx hb dX11_step_51 rfl (lv_at hl 0 rfl) ?_
      exact e_IM hC hr hlk hP hS dX11_step_52 hf
    · have hf := if_t c11 hf
      exact J17 M _ _ _ hf hP hS (lv_sub hl [0] rfl)
set_option maxRecDepth 100000 in
set_option maxHeartbeats 4000000 in
theorem k_X11_taken {g : Ev} {l : Launch} (hg : g.2.1.Nodup) {x : Nat} (hO : oTop g x) {M : Mm} {N : Ml} {p0 : Int32} {p1 : Int32} {v : Int32} {MR : Mm} (hf : f_X11_taken x p0 p1 M = some (v, MR)) : KM g l yX11_taken cX11_taken 4 (some .int) 7 [.ref x, .int p0, .int p1] M N (QI g v MR N) := by
  refine KM.mk hg (by decide) (Nat.le_of_ble_eq_true rfl) ?_
  intro p e s m below meth c ls hC hr hlk hl hP hS
  have hx := hC.1
  have hb := hC.2.1
  have hl : lv_has ls 4 [(0, .ref x), (1, .int p0), (2, .int p1)] := hl
  have J12 : ∀ (M : Mm) (H : Heap) (locs : List Loc) (ls : Array Slot), f_X11_taken_J12 x M = some (v, MR) → wP g M N H → va_S (wA g) s.heap H locs → lv_has ls 4 [(0, .ref x)] → W p l e (rmD 7) s m ([.ref x, .int p0, .int p1] : List Value).toArray below meth c H locs 0 0 (MQ below (QI g v MR N) ([.ref x, .int p0, .int p1] : List Value).toArray s 0 0 (wA g)) (F0 m 12 ls []) := by
    intro M H locs ls hf hP hS hl
    unfold f_X11_taken_J12 at hf
    refine lv_aload_n hx hb dX11_taken_12 rfl (lv_at hl 0 rfl) ?_
    refine lv_iconst (v := (0 : Int32)) hx hb dX11_taken_13 (by decide) ?_
    refine lv_bipush (v := (-10 : Int32)) hx hb dX11_taken_14 (by decide) ?_
    obtain ⟨r5, M7, hu6, hf⟩ := bd2_s hf
    refine r_goI (r_runV (As := [.int (0 : Int32), .int (-10 : Int32)]) (rest := []) hC hP hS (k_X11_refuse hg hO hu6) cw_X11_88 q_178 q_179 q_180 (Rm.D 0 7 rfl) hO.1 rfl rfl hl.1 rfl (Nat.le_of_ble_eq_true rfl) dX11_taken_16) hS (fun H locs hP hS => ?_)
    exact e_IM hC hr hlk hP hS dX11_taken_19 hf
  unfold f_X11_taken at hf
  refine lv_iload_n hx hb dX11_taken_0 rfl (lv_at hl 1 rfl) ?_
  obtain ⟨r1, hu2, hf⟩ := bd_s hf
  refine r_goI (r_runS (As := [.int p0]) (rest := []) hC hP hS (k_X11_isRounds hg hu2) cw_X11_164 q_646 q_647 (Rm.D 1 7 rfl) rfl hl.1 rfl (Nat.le_of_ble_eq_true rfl) dX11_taken_1) hS (fun H locs hP hS => ?_)
  refine lv_if_eq (tgt := 12) hx hb dX11_taken_4 (by decide) (fun c4 => ?_) (fun c4 => ?_)
  · have hf := if_t c4 hf
    exact J12 M _ _ _ hf hP hS (lv_sub hl [0] rfl)
  · have hf := if_f c4 hf
    refine lv_iload_n hx hb dX11_taken_7 rfl (lv_at hl 2 rfl) ?_
    refine lv_iconst (v := (-1 : Int32)) hx hb dX11_taken_8 (by decide) ?_
    refine lv_icmp_ge (tgt := 20) hx hb dX11_taken_9 (by decide) (fun c8 => ?_) (fun c8 => ?_)
    · have hf := if_t c8 hf
      refine lv_aload_n hx hb dX11_taken_20 rfl (lv_at hl 0 rfl) ?_
      refine r_getR hC hP hO.1 fl_X11_53 rfl dX11_taken_21 ?_
      refine lv_iload_n hx hb dX11_taken_24 rfl (lv_at hl 1 rfl) ?_
      obtain ⟨r9, M11, hu10, hf⟩ := bd2_s hf
      refine r_goI (r_runV (As := [.int p0]) (rest := []) hC hP hS (k_X0_findTaken hg hO.2.2.2.2.2.1 hu10) cw_X11_208 q_835 q_836 q_837 (Rm.D 6 7 rfl) hO.2.2.2.2.2.1.1 rfl rfl hl.1 rfl (Nat.le_of_ble_eq_true rfl) dX11_taken_25) hS (fun H locs hP hS => ?_)
      refine lv_istore_n (lv' := [(3, .int r9), (0, .ref x), (1, .int p0), (2, .int p1)]) hx hb dX11_taken_28 rfl hl (by decide) rfl (fun ls hl => ?_)
      refine lv_iload_n hx hb dX11_taken_29 rfl (lv_at hl 3 rfl) ?_
      refine lv_iconst (v := (-1 : Int32)) hx hb dX11_taken_30 (by decide) ?_
      refine lv_icmp_ne (tgt := 36) hx hb dX11_taken_31 (by decide) (fun c12 => ?_) (fun c12 => ?_)
      · have hf := if_f c12 hf
        refine lv_iload_n hx hb dX11_taken_36 rfl (lv_at hl 3 rfl) ?_
        refine lv_iload_n hx hb dX11_taken_37 rfl (lv_at hl 0 rfl) ?_
        refine lv_icmp_ge (tgt := 52) hx hb dX11_taken_38 (by decide) (fun c13 => ?_) (fun c13 => ?_)
        · have hf := if_t c13 hf
          refine lv_bipush (v := (-5 : Int32)) hx hb dX11_taken_52 (by decide) ?_
          exact e_IM hC hr hlk hP hS dX11_taken_54 hf
        · have hf := if_f c13 hf
          refine lv_aload_n hx hb dX11_taken_41 rfl (lv_at hl 1 rfl) ?_
          refine r_getR hC hP hO.1 fl_X11_53 rfl dX11_taken_42 ?_
          refine lv_iload_n hx hb dX11_taken_45 rfl (lv_at hl 3 rfl) ?_
          obtain ⟨r14, hu15, hf⟩ := bd_s hf
          refine r_goI (r_runV (As := [.int p1]) (rest := []) hC hP hS (k_X0_takenAt hg hO.2.2.2.2.2.1 hu15) cw_X11_211 q_846 q_847 q_848 (Rm.D 0 7 rfl) hO.2.2.2.2.2.1.1 rfl rfl hl.1 rfl (Nat.le_of_ble_eq_true rfl) dX11_taken_46) hS (fun H locs hP hS => ?_)
          refine lv_goto (tgt := 54) hx hb dX11_taken_49 (by decide) ?_
          exact e_IM hC hr hlk hP hS dX11_taken_54 hf
      · have hf := if_t c12 hf
        refine lv_iload_n hx hb dX11_taken_34 rfl (lv_at hl 0 rfl) ?_
        exact e_IM hC hr hlk hP hS dX11_taken_35 hf
    · have hf := if_f c8 hf
      exact J12 M _ _ _ hf hP hS (lv_sub hl [0] rfl)
set_option maxRecDepth 100000 in
set_option maxHeartbeats 4000000 in
theorem k_X11_there {g : Ev} {l : Launch} (hg : g.2.1.Nodup) {x : Nat} (hO : oTop g x) {M : Mm} {N : Ml} {p0 : Int32} {p1 : Int32} {v : Int32} {MR : Mm} (hf : f_X11_there x p0 p1 M = some (v, MR)) : KM g l yX11_there cX11_there 3 (some .int) 2 [.ref x, .int p0, .int p1] M N (QI g v MR N) := by
  refine KM.mk hg (by decide) (Nat.le_of_ble_eq_true rfl) ?_
  intro p e s m below meth c ls hC hr hlk hl hP hS
  have hx := hC.1
  have hb := hC.2.1
  have hl : lv_has ls 3 [(0, .ref x), (1, .int p0), (2, .int p1)] := hl
  have J20 : ∀ (M : Mm) (H : Heap) (locs : List Loc) (ls : Array Slot), f_X11_there_J20 x M = some (v, MR) → wP g M N H → va_S (wA g) s.heap H locs → lv_has ls 3 [(0, .ref x)] → W p l e (rmD 2) s m ([.ref x, .int p0, .int p1] : List Value).toArray below meth c H locs 0 0 (MQ below (QI g v MR N) ([.ref x, .int p0, .int p1] : List Value).toArray s 0 0 (wA g)) (F0 m 20 ls []) := by
    intro M H locs ls hf hP hS hl
    unfold f_X11_there_J20 at hf
    refine lv_aload_n hx hb dX11_there_20 rfl (lv_at hl 0 rfl) ?_
    refine lv_iconst (v := (0 : Int32)) hx hb dX11_there_21 (by decide) ?_
    refine lv_bipush (v := (-10 : Int32)) hx hb dX11_there_22 (by decide) ?_
    obtain ⟨r5, M7, hu6, hf⟩ := bd2_s hf
    refine r_goI (r_runV (As := [.int (0 : Int32), .int (-10 : Int32)]) (rest := []) hC hP hS (k_X11_refuse hg hO hu6) cw_X11_88 q_178 q_179 q_180 (Rm.D 0 2 rfl) hO.1 rfl rfl hl.1 rfl (Nat.le_of_ble_eq_true rfl) dX11_there_24) hS (fun H locs hP hS => ?_)
    exact e_IM hC hr hlk hP hS dX11_there_27 hf
  have J28 : ∀ (x1 : Int32) (x2 : Int32) (M : Mm) (H : Heap) (locs : List Loc) (ls : Array Slot), f_X11_there_J28 x x1 x2 M = some (v, MR) → wP g M N H → va_S (wA g) s.heap H locs → lv_has ls 3 [(0, .ref x), (1, .int x1), (2, .int x2)] → W p l e (rmD 2) s m ([.ref x, .int p0, .int p1] : List Value).toArray below meth c H locs 0 0 (MQ below (QI g v MR N) ([.ref x, .int p0, .int p1] : List Value).toArray s 0 0 (wA g)) (F0 m 28 ls []) := by
    intro x1 x2 M H locs ls hf hP hS hl
    unfold f_X11_there_J28 at hf
    refine lv_iload_n hx hb dX11_there_28 rfl (lv_at hl 2 rfl) ?_
    refine lv_iconst (v := (-1 : Int32)) hx hb dX11_there_29 (by decide) ?_
    refine lv_icmp_ne (tgt := 47) hx hb dX11_there_30 (by decide) (fun c9 => ?_) (fun c9 => ?_)
    · have hf := if_f c9 hf
      refine lv_aload_n hx hb dX11_there_47 rfl (lv_at hl 0 rfl) ?_
      refine r_getR hC hP hO.1 fl_X11_27 rfl dX11_there_48 ?_
      refine r_getR hC hP hO.2.1.1 fl_X11_43 rfl dX11_there_51 ?_
      refine lv_iload_n hx hb dX11_there_54 rfl (lv_at hl 1 rfl) ?_
      refine lv_iload_n hx hb dX11_there_55 rfl (lv_at hl 2 rfl) ?_
      obtain ⟨r10, hu11, hf⟩ := bd_s hf
      refine r_goI (r_runV (As := [.int x1, .int x2]) (rest := []) hC hP hS (k_X5_lumpsAt hg hO.2.1.2.1 hu11) cw_X11_113 q_228 q_229 q_230 (Rm.D 1 2 rfl) hO.2.1.2.1.1 rfl rfl hl.1 rfl (Nat.le_of_ble_eq_true rfl) dX11_there_56) hS (fun H locs hP hS => ?_)
      exact e_IM hC hr hlk hP hS dX11_there_59 hf
    · have hf := if_t c9 hf
      refine lv_aload_n hx hb dX11_there_33 rfl (lv_at hl 0 rfl) ?_
      refine r_getR hC hP hO.1 fl_X11_27 rfl dX11_there_34 ?_
      refine r_getR hC hP hO.2.1.1 fl_X11_43 rfl dX11_there_37 ?_
      refine lv_iload_n hx hb dX11_there_40 rfl (lv_at hl 1 rfl) ?_
      obtain ⟨r13, hu14, hf⟩ := bd_s hf
      refine r_goI (r_runV (As := [.int x1]) (rest := []) hC hP hS (k_X5_lumpsIn hg hO.2.1.2.1 hu14) cw_X11_154 q_607 q_608 q_609 (Rm.D 0 2 rfl) hO.2.1.2.1.1 rfl rfl hl.1 rfl (Nat.le_of_ble_eq_true rfl) dX11_there_41) hS (fun H locs hP hS => ?_)
      refine lv_goto (tgt := 59) hx hb dX11_there_44 (by decide) ?_
      exact e_IM hC hr hlk hP hS dX11_there_59 hf
  unfold f_X11_there at hf
  refine lv_iload_n hx hb dX11_there_0 rfl (lv_at hl 1 rfl) ?_
  obtain ⟨r1, hu2, hf⟩ := bd_s hf
  refine r_goI (r_runS (As := [.int p0]) (rest := []) hC hP hS (k_X11_isLane hg hu2) cw_X11_103 q_209 q_210 (Rm.D 0 2 rfl) rfl hl.1 rfl (Nat.le_of_ble_eq_true rfl) dX11_there_1) hS (fun H locs hP hS => ?_)
  refine lv_if_eq (tgt := 20) hx hb dX11_there_4 (by decide) (fun c4 => ?_) (fun c4 => ?_)
  · have hf := if_t c4 hf
    exact J20 M _ _ _ hf hP hS (lv_sub hl [0] rfl)
  · have hf := if_f c4 hf
    refine lv_iload_n hx hb dX11_there_7 rfl (lv_at hl 2 rfl) ?_
    refine lv_iconst (v := (-1 : Int32)) hx hb dX11_there_8 (by decide) ?_
    refine lv_icmp_eq (tgt := 28) hx hb dX11_there_9 (by decide) (fun c8 => ?_) (fun c8 => ?_)
    · have hf := if_t c8 hf
      exact J28 p0 p1 M _ _ _ hf hP hS (lv_sub hl [0, 1, 2] rfl)
    · have hf := if_f c8 hf
      refine lv_aload_n hx hb dX11_there_12 rfl (lv_at hl 0 rfl) ?_
      refine lv_iload_n hx hb dX11_there_13 rfl (lv_at hl 2 rfl) ?_
      obtain ⟨r16, hu17, hf⟩ := bd_s hf
      refine r_goI (r_runV (As := [.int p1]) (rest := []) hC hP hS (k_X11_isPlace hg hO hu17) cw_X11_110 q_224 q_225 q_226 (Rm.D 1 2 rfl) hO.1 rfl rfl hl.1 rfl (Nat.le_of_ble_eq_true rfl) dX11_there_14) hS (fun H locs hP hS => ?_)
      refine lv_if_ne (tgt := 28) hx hb dX11_there_17 (by decide) (fun c19 => ?_) (fun c19 => ?_)
      · have hf := if_f c19 hf
        exact J28 p0 p1 M _ _ _ hf hP hS (lv_sub hl [0, 1, 2] rfl)
      · have hf := if_t c19 hf
        exact J20 M _ _ _ hf hP hS (lv_sub hl [0] rfl)
set_option maxRecDepth 100000 in
set_option maxHeartbeats 4000000 in
theorem k_X11_told {g : Ev} {l : Launch} (hg : g.2.1.Nodup) {x : Nat} (hO : oTop g x) {M : Mm} {N : Ml} {p0 : Int32} {p1 : Int32} {v : Int32} {MR : Mm} (hf : f_X11_told x p0 p1 M = some (v, MR)) : KM g l yX11_told cX11_told 4 (some .int) 1 [.ref x, .int p0, .int p1] M N (QI g v MR N) := by
  refine KM.mk hg (by decide) (Nat.le_of_ble_eq_true rfl) ?_
  intro p e s m below meth c ls hC hr hlk hl hP hS
  have hx := hC.1
  have hb := hC.2.1
  have hl : lv_has ls 4 [(0, .ref x), (1, .int p0), (2, .int p1)] := hl
  have J18 : ∀ (M : Mm) (H : Heap) (locs : List Loc) (ls : Array Slot), f_X11_told_J18 x M = some (v, MR) → wP g M N H → va_S (wA g) s.heap H locs → lv_has ls 4 [(0, .ref x)] → W p l e (rmD 1) s m ([.ref x, .int p0, .int p1] : List Value).toArray below meth c H locs 0 0 (MQ below (QI g v MR N) ([.ref x, .int p0, .int p1] : List Value).toArray s 0 0 (wA g)) (F0 m 18 ls []) := by
    intro M H locs ls hf hP hS hl
    unfold f_X11_told_J18 at hf
    refine lv_aload_n hx hb dX11_told_18 rfl (lv_at hl 0 rfl) ?_
    refine lv_iconst (v := (0 : Int32)) hx hb dX11_told_19 (by decide) ?_
    refine lv_bipush (v := (-2 : Int32)) hx hb dX11_told_20 (by decide) ?_
    obtain ⟨r5, M7, hu6, hf⟩ := bd2_s hf
    refine r_goI (r_runV (As := [.int (0 : Int32), .int (-2 : Int32)]) (rest := []) hC hP hS (k_X11_refuse hg hO hu6) cw_X11_88 q_178 q_179 q_180 (Rm.D 0 1 rfl) hO.1 rfl rfl hl.1 rfl (Nat.le_of_ble_eq_true rfl) dX11_told_22) hS (fun H locs hP hS => ?_)
    exact e_IM hC hr hlk hP hS dX11_told_25 hf
  unfold f_X11_told at hf
  refine lv_iload_n hx hb dX11_told_0 rfl (lv_at hl 1 rfl) ?_
  obtain ⟨r1, hu2, hf⟩ := bd_s hf
  refine r_goI (r_runS (As := [.int p0]) (rest := []) hC hP hS (k_X11_isLane hg hu2) cw_X11_103 q_209 q_210 (Rm.D 0 1 rfl) rfl hl.1 rfl (Nat.le_of_ble_eq_true rfl) dX11_told_1) hS (fun H locs hP hS => ?_)
  refine lv_if_eq (tgt := 18) hx hb dX11_told_4 (by decide) (fun c4 => ?_) (fun c4 => ?_)
  · have hf := if_t c4 hf
    exact J18 M _ _ _ hf hP hS (lv_sub hl [0] rfl)
  · have hf := if_f c4 hf
    refine lv_iload_n hx hb dX11_told_7 rfl (lv_at hl 2 rfl) ?_
    refine lv_iconst (v := (0 : Int32)) hx hb dX11_told_8 (by decide) ?_
    refine lv_sipush (v := (9999 : Int32)) hx hb dX11_told_9 (by decide) ?_
    obtain ⟨r8, hu9, hf⟩ := bd_s hf
    refine r_goI (r_runS (As := [.int p1, .int (0 : Int32), .int (9999 : Int32)]) (rest := []) hC hP hS (k_X11_isWithin hg hu9) cw_X11_84 q_175 q_176 (Rm.D 0 1 rfl) rfl hl.1 rfl (Nat.le_of_ble_eq_true rfl) dX11_told_12) hS (fun H locs hP hS => ?_)
    refine lv_if_ne (tgt := 26) hx hb dX11_told_15 (by decide) (fun c11 => ?_) (fun c11 => ?_)
    · have hf := if_f c11 hf
      refine lv_aload_n hx hb dX11_told_26 rfl (lv_at hl 0 rfl) ?_
      refine r_getR hC hP hO.1 fl_X11_27 rfl dX11_told_27 ?_
      refine r_getR hC hP hO.2.1.1 fl_X11_43 rfl dX11_told_30 ?_
      refine r_getR hC hP hO.2.1.2.1.1 fl_X11_205 rfl dX11_told_33 ?_
      refine lv_iload_n hx hb dX11_told_36 rfl (lv_at hl 1 rfl) ?_
      obtain ⟨hb12, hf⟩ := ck_s hf
      refine r_iald hC hP hO.2.1.2.1.2.2.1 hb12 dX11_told_37 ?_
      refine lv_topi (fun z13 ez13 => ?_)
      have hf := bs ez13 hf
      refine lv_istore_n (lv' := [(3, .int z13), (0, .ref x), (1, .int p0), (2, .int p1)]) hx hb dX11_told_38 rfl hl (by decide) rfl (fun ls hl => ?_)
      refine lv_aload_n hx hb dX11_told_39 rfl (lv_at hl 1 rfl) ?_
      refine r_getR hC hP hO.1 fl_X11_27 rfl dX11_told_40 ?_
      refine r_getR hC hP hO.2.1.1 fl_X11_43 rfl dX11_told_43 ?_
      refine r_getR hC hP hO.2.1.2.1.1 fl_X11_205 rfl dX11_told_46 ?_
      refine lv_iload_n hx hb dX11_told_49 rfl (lv_at hl 2 rfl) ?_
      refine lv_iload_n hx hb dX11_told_50 rfl (lv_at hl 3 rfl) ?_
      obtain ⟨hb14, hf⟩ := ck_s hf
      refine r_iast hC hP hS hO.2.1.2.1.2.2.1 hb14 dX11_told_51 (fun H locs hP hS => ?_)
      obtain ⟨M15, eM15, hf, hP⟩ := bsM hf hP
      refine lv_iload_n hx hb dX11_told_52 rfl (lv_at hl 0 rfl) ?_
      exact e_IM hC hr hlk hP hS dX11_told_53 hf
    · have hf := if_t c11 hf
      exact J18 M _ _ _ hf hP hS (lv_sub hl [0] rfl)
set_option maxRecDepth 100000 in
set_option maxHeartbeats 4000000 in
theorem k_X9_add {g : Ev} {l : Launch} (hg : g.2.1.Nodup) {t : Nat} (hO : oText g t) {M : Mm} {N : Ml} {p0 : Int64} {p1 : Int32} {MR : Mm} (hf : f_X9_add t p0 p1 M = some MR) : KM g l yX9_add cX9_add 5 none 0 [.ref t, .long p0, .int p1] M N (QV g MR N) := by
  refine KM.mk hg (by decide) (Nat.le_of_ble_eq_true rfl) ?_
  intro p e s m below meth c ls hC hr hlk hl hP hS
  have hx := hC.1
  have hb := hC.2.1
  have hl : lv_has ls 5 [(0, .ref t), (1, .long p0), (3, .int p1)] := hl
  have L5 : ∀ (n : Nat) (x1 : Int64) (x4 : Int32) (M : Mm) (H : Heap) (locs : List Loc) (ls : Array Slot), f_X9_add_L5 t n x1 x4 M = some MR → wP g M N H → va_S (wA g) s.heap H locs → lv_has ls 5 [(0, .ref t), (1, .long x1), (4, .int x4)] → W p l e (rmD 0) s m ([.ref t, .long p0, .int p1] : List Value).toArray below meth c H locs 0 0 (MQ below (QV g MR N) ([.ref t, .long p0, .int p1] : List Value).toArray s 0 0 (wA g)) (F0 m 5 ls []) := by
    intro n
    induction n with
    | zero =>
      intro x1 x4 M H locs ls hf
      exact absurd hf (by simp [f_X9_add_L5])
    | succ n ih =>
      intro x1 x4 M H locs ls hf hP hS hl
      unfold f_X9_add_L5 at hf
      refine lv_iload hx hb dX9_add_5 (lv_at hl 2 rfl) ?_
      refine lv_if_lt (tgt := 47) hx hb dX9_add_7 (by decide) (fun c2 => ?_) (fun c2 => ?_)
      · have hf := if_t c2 hf
        exact e_VM hC hr hlk hP hS dX9_add_47 hf
      · have hf := if_f c2 hf
        refine lv_aload_n hx hb dX9_add_10 rfl (lv_at hl 0 rfl) ?_
        refine r_getR hC hP hO.1 fl_X9_9 rfl dX9_add_11 ?_
        refine lv_aload_n hx hb dX9_add_14 rfl (lv_at hl 0 rfl) ?_
        refine r_getI hC hP hO.1 fl_X9_15 rfl dX9_add_15 ?_
        refine lv_lload_n hx hb dX9_add_18 rfl (lv_at hl 1 rfl) ?_
        refine lv_bipush (v := (8 : Int32)) hx hb dX9_add_19 (by decide) ?_
        refine lv_iload hx hb dX9_add_21 (lv_at hl 2 rfl) ?_
        refine lv_imul hx hb dX9_add_23 ?_
        refine lv_lshr hx hb dX9_add_24 rfl ?_
        refine lv_ldc2 (v := (255 : Int64)) hx hb hC.2.2.2.1 (hC.2.2.2.2.1 _ q_283) dX9_add_25 ?_
        refine lv_land hx hb dX9_add_28 ?_
        refine lv_l2i hx hb dX9_add_29 rfl ?_
        obtain ⟨hb3, hf⟩ := ck_s hf
        refine r_iast hC hP hS hO.2 hb3 dX9_add_30 (fun H locs hP hS => ?_)
        obtain ⟨M4, eM4, hf, hP⟩ := bsM hf hP
        refine lv_aload_n hx hb dX9_add_31 rfl (lv_at hl 0 rfl) ?_
        refine lv_dup hx hb dX9_add_32 rfl ?_
        refine r_getI hC hP hO.1 fl_X9_15 rfl dX9_add_33 ?_
        refine lv_iconst (v := (1 : Int32)) hx hb dX9_add_36 (by decide) ?_
        refine lv_iadd hx hb dX9_add_37 ?_
        refine r_putI hC hP hS hO.1 fl_X9_15 tyX9 tyX9_ok nmX9 rfl rfl rfl dX9_add_38 (fun H locs hP hS => ?_)
        obtain ⟨M5, eM5, hf, hP⟩ := bsM hf hP
        obtain ⟨z6, ez6, hf⟩ := bsJ hf
        refine lv_iinc (v := z6) (lv' := [(4, .int z6), (0, .ref t), (1, .long x1)]) hx hb dX9_add_41 hl (k := 2) rfl (by rw [ez6]; rfl) (by decide) rfl (fun ls hl => ?_)
        refine lv_goto (tgt := 5) hx hb dX9_add_44 (by decide) ?_
        exact ih x1 z6 M5 _ _ _ hf hP hS (lv_sub hl [1, 2, 0] rfl)
  unfold f_X9_add at hf
  refine lv_iload_n hx hb dX9_add_0 rfl (lv_at hl 2 rfl) ?_
  refine lv_iconst (v := (1 : Int32)) hx hb dX9_add_1 (by decide) ?_
  refine lv_isub hx hb dX9_add_2 ?_
  refine lv_topi (fun z1 ez1 => ?_)
  have hf := bs ez1 hf
  refine lv_istore (lv' := [(4, .int z1), (0, .ref t), (1, .long p0), (3, .int p1)]) hx hb dX9_add_3 hl (by decide) rfl (fun ls hl => ?_)
  exact L5 _ p0 z1 M _ _ _ hf hP hS (lv_sub hl [1, 2, 0] rfl)
set_option maxRecDepth 100000 in
set_option maxHeartbeats 4000000 in
theorem k_X11_type {g : Ev} {l : Launch} (hg : g.2.1.Nodup) {x : Nat} (hO : oTop g x) {M : Mm} {N : Ml} {p0 : Int64} {p1 : Int32} {v : Int32} {MR : Mm} (hf : f_X11_type x p0 p1 M = some (v, MR)) : KM g l yX11_type cX11_type 4 (some .int) 1 [.ref x, .long p0, .int p1] M N (QI g v MR N) := by
  refine KM.mk hg (by decide) (Nat.le_of_ble_eq_true rfl) ?_
  intro p e s m below meth c ls hC hr hlk hl hP hS
  have hx := hC.1
  have hb := hC.2.1
  have hl : lv_has ls 4 [(0, .ref x), (1, .long p0), (3, .int p1)] := hl
  unfold f_X11_type at hf
  refine lv_iload_n hx hb dX11_type_0 rfl (lv_at hl 2 rfl) ?_
  refine lv_iconst (v := (1 : Int32)) hx hb dX11_type_1 (by decide) ?_
  refine lv_bipush (v := (8 : Int32)) hx hb dX11_type_2 (by decide) ?_
  obtain ⟨r1, hu2, hf⟩ := bd_s hf
  refine r_goI (r_runS (As := [.int p1, .int (1 : Int32), .int (8 : Int32)]) (rest := []) hC hP hS (k_X11_isWithin hg hu2) cw_X11_84 q_175 q_176 (Rm.D 0 1 rfl) rfl hl.1 rfl (Nat.le_of_ble_eq_true rfl) dX11_type_4) hS (fun H locs hP hS => ?_)
  refine lv_if_ne (tgt := 18) hx hb dX11_type_7 (by decide) (fun c4 => ?_) (fun c4 => ?_)
  · have hf := if_f c4 hf
    refine lv_aload_n hx hb dX11_type_18 rfl (lv_at hl 0 rfl) ?_
    refine r_getR hC hP hO.1 fl_X11_60 rfl dX11_type_19 ?_
    refine r_getI hC hP hO.2.2.2.2.2.2.1.1 fl_X11_127 rfl dX11_type_22 ?_
    refine lv_iload_n hx hb dX11_type_25 rfl (lv_at hl 2 rfl) ?_
    refine lv_iadd hx hb dX11_type_26 ?_
    refine lv_sipush (v := (250 : Int32)) hx hb dX11_type_27 (by decide) ?_
    refine lv_icmp_le (tgt := 41) hx hb dX11_type_30 (by decide) (fun c5 => ?_) (fun c5 => ?_)
    · have hf := if_t c5 hf
      refine lv_aload_n hx hb dX11_type_41 rfl (lv_at hl 0 rfl) ?_
      refine r_getR hC hP hO.1 fl_X11_60 rfl dX11_type_42 ?_
      refine lv_lload_n hx hb dX11_type_45 rfl (lv_at hl 1 rfl) ?_
      refine lv_iload_n hx hb dX11_type_46 rfl (lv_at hl 2 rfl) ?_
      obtain ⟨M8, hu7, hf⟩ := bd_s hf
      refine r_goV (r_runV (As := [.long p0, .int p1]) (rest := []) hC hP hS (k_X9_add hg hO.2.2.2.2.2.2.1 hu7) cw_X11_130 q_279 q_280 q_281 (Rm.D 0 1 rfl) hO.2.2.2.2.2.2.1.1 rfl rfl hl.1 rfl (Nat.le_of_ble_eq_true rfl) dX11_type_47) hS (fun H locs hP hS => ?_)
      refine lv_aload_n hx hb dX11_type_50 rfl (lv_at hl 0 rfl) ?_
      refine r_getR hC hP hO.1 fl_X11_60 rfl dX11_type_51 ?_
      refine r_getI hC hP hO.2.2.2.2.2.2.1.1 fl_X11_127 rfl dX11_type_54 ?_
      exact e_IM hC hr hlk hP hS dX11_type_57 hf
    · have hf := if_f c5 hf
      refine lv_aload_n hx hb dX11_type_33 rfl (lv_at hl 0 rfl) ?_
      refine lv_iconst (v := (2 : Int32)) hx hb dX11_type_34 (by decide) ?_
      refine lv_bipush (v := (-4 : Int32)) hx hb dX11_type_35 (by decide) ?_
      obtain ⟨r9, M11, hu10, hf⟩ := bd2_s hf
      refine r_goI (r_runV (As := [.int (2 : Int32), .int (-4 : Int32)]) (rest := []) hC hP hS (k_X11_refuse hg hO hu10) cw_X11_88 q_178 q_179 q_180 (Rm.D 0 1 rfl) hO.1 rfl rfl hl.1 rfl (Nat.le_of_ble_eq_true rfl) dX11_type_37) hS (fun H locs hP hS => ?_)
      exact e_IM hC hr hlk hP hS dX11_type_40 hf
  · have hf := if_t c4 hf
    refine lv_aload_n hx hb dX11_type_10 rfl (lv_at hl 0 rfl) ?_
    refine lv_iconst (v := (0 : Int32)) hx hb dX11_type_11 (by decide) ?_
    refine lv_bipush (v := (-2 : Int32)) hx hb dX11_type_12 (by decide) ?_
    obtain ⟨r12, M14, hu13, hf⟩ := bd2_s hf
    refine r_goI (r_runV (As := [.int (0 : Int32), .int (-2 : Int32)]) (rest := []) hC hP hS (k_X11_refuse hg hO hu13) cw_X11_88 q_178 q_179 q_180 (Rm.D 0 1 rfl) hO.1 rfl rfl hl.1 rfl (Nat.le_of_ble_eq_true rfl) dX11_type_14) hS (fun H locs hP hS => ?_)
    exact e_IM hC hr hlk hP hS dX11_type_17 hf
set_option maxRecDepth 100000 in
set_option maxHeartbeats 4000000 in
theorem k_X7_goBack {g : Ev} {l : Launch} (hg : g.2.1.Nodup) {kd : Nat} {b : Nat} (hO : oStory g kd b) {M : Mm} {N : Ml}  {MR : Mm} (hf : f_X7_goBack b M = some MR) : KM g l yX7_goBack cX7_goBack 1 none 2 [.ref b] M N (QV g MR N) := by
  refine KM.mk hg (by decide) (Nat.le_of_ble_eq_true rfl) ?_
  intro p e s m below meth c ls hC hr hlk hl hP hS
  have hx := hC.1
  have hb := hC.2.1
  have hl : lv_has ls 1 [(0, .ref b)] := hl
  unfold f_X7_goBack at hf
  refine lv_aload_n hx hb dX7_goBack_0 rfl (lv_at hl 0 rfl) ?_
  refine r_getR hC hP hO.1 fl_X7_14 rfl dX7_goBack_1 ?_
  refine lv_aload_n hx hb dX7_goBack_4 rfl (lv_at hl 0 rfl) ?_
  refine r_getR hC hP hO.1 fl_X7_20 rfl dX7_goBack_5 ?_
  refine lv_aload_n hx hb dX7_goBack_8 rfl (lv_at hl 0 rfl) ?_
  refine r_getI hC hP hO.1 fl_X7_24 rfl dX7_goBack_9 ?_
  obtain ⟨hb1, hf⟩ := ck_s hf
  obtain ⟨j2, ej2, hf⟩ := bsJ hf
  have hj2 : j2 < 6 := by rw [ej2]; exact vin_lt hb1
  refine r_aalR (t0 := 3) (v := b + 11 + 9 * j2) hC hP hO.2.2.1 rfl hb1 (by rw [ej2]) dX7_goBack_12 ?_
  obtain ⟨M5, hu4, hf⟩ := bd_s hf
  refine r_goV (r_runV (As := [.ref (b + 11 + 9 * j2)]) (rest := []) hC hP hS (k_X5_goBackTo hg hO.2.1 (hO.2.2.2 j2 hj2) hu4) cw_X7_45 q_594 q_418 q_419 (Rm.D 1 2 rfl) hO.2.1.1 rfl rfl hl.1 rfl (Nat.le_of_ble_eq_true rfl) dX7_goBack_13) hS (fun H locs hP hS => ?_)
  refine lv_aload_n hx hb dX7_goBack_16 rfl (lv_at hl 0 rfl) ?_
  refine lv_aload_n hx hb dX7_goBack_17 rfl (lv_at hl 0 rfl) ?_
  refine r_getI hC hP hO.1 fl_X7_24 rfl dX7_goBack_18 ?_
  refine lv_bipush (v := (6 : Int32)) hx hb dX7_goBack_21 (by decide) ?_
  refine lv_iadd hx hb dX7_goBack_23 ?_
  refine lv_iconst (v := (1 : Int32)) hx hb dX7_goBack_24 (by decide) ?_
  refine lv_isub hx hb dX7_goBack_25 ?_
  refine lv_bipush (v := (6 : Int32)) hx hb dX7_goBack_26 (by decide) ?_
  obtain ⟨hz6, hf⟩ := cz_s hf
  refine lv_irem hx hb dX7_goBack_28 hz6 ?_
  refine r_putI hC hP hS hO.1 fl_X7_24 tyX7 tyX7_ok nmX7 rfl rfl rfl dX7_goBack_29 (fun H locs hP hS => ?_)
  obtain ⟨M7, eM7, hf, hP⟩ := bsM hf hP
  refine lv_aload_n hx hb dX7_goBack_32 rfl (lv_at hl 0 rfl) ?_
  refine lv_dup hx hb dX7_goBack_33 rfl ?_
  refine r_getI hC hP hO.1 fl_X7_28 rfl dX7_goBack_34 ?_
  refine lv_iconst (v := (1 : Int32)) hx hb dX7_goBack_37 (by decide) ?_
  refine lv_isub hx hb dX7_goBack_38 ?_
  refine r_putI hC hP hS hO.1 fl_X7_28 tyX7 tyX7_ok nmX7 rfl rfl rfl dX7_goBack_39 (fun H locs hP hS => ?_)
  obtain ⟨M8, eM8, hf, hP⟩ := bsM hf hP
  exact e_VM hC hr hlk hP hS dX7_goBack_42 hf
set_option maxRecDepth 100000 in
set_option maxHeartbeats 4000000 in
theorem k_X11_undo {g : Ev} {l : Launch} (hg : g.2.1.Nodup) {x : Nat} (hO : oTop g x) {M : Mm} {N : Ml}  {v : Int32} {MR : Mm} (hf : f_X11_undo x M = some (v, MR)) : KM g l yX11_undo cX11_undo 1 (some .int) 3 [.ref x] M N (QI g v MR N) := by
  refine KM.mk hg (by decide) (Nat.le_of_ble_eq_true rfl) ?_
  intro p e s m below meth c ls hC hr hlk hl hP hS
  have hx := hC.1
  have hb := hC.2.1
  have hl : lv_has ls 1 [(0, .ref x)] := hl
  unfold f_X11_undo at hf
  refine lv_aload_n hx hb dX11_undo_0 rfl (lv_at hl 0 rfl) ?_
  refine r_getR hC hP hO.1 fl_X11_27 rfl dX11_undo_1 ?_
  refine r_getI hC hP hO.2.1.1 fl_X11_148 rfl dX11_undo_4 ?_
  refine lv_iconst (v := (1 : Int32)) hx hb dX11_undo_7 (by decide) ?_
  refine lv_icmp_ge (tgt := 19) hx hb dX11_undo_8 (by decide) (fun c1 => ?_) (fun c1 => ?_)
  · have hf := if_t c1 hf
    refine lv_aload_n hx hb dX11_undo_19 rfl (lv_at hl 0 rfl) ?_
    refine r_getR hC hP hO.1 fl_X11_27 rfl dX11_undo_20 ?_
    obtain ⟨M4, hu3, hf⟩ := bd_s hf
    refine r_goV (r_runV (As := []) (rest := []) hC hP hS (k_X7_goBack hg hO.2.1 hu3) cw_X11_151 q_590 q_591 q_592 (Rm.D 2 3 rfl) hO.2.1.1 rfl rfl hl.1 rfl (Nat.le_of_ble_eq_true rfl) dX11_undo_23) hS (fun H locs hP hS => ?_)
    refine lv_iconst (v := (1 : Int32)) hx hb dX11_undo_26 (by decide) ?_
    exact e_IM hC hr hlk hP hS dX11_undo_27 hf
  · have hf := if_f c1 hf
    refine lv_aload_n hx hb dX11_undo_11 rfl (lv_at hl 0 rfl) ?_
    refine lv_iconst (v := (1 : Int32)) hx hb dX11_undo_12 (by decide) ?_
    refine lv_bipush (v := (-3 : Int32)) hx hb dX11_undo_13 (by decide) ?_
    obtain ⟨r5, M7, hu6, hf⟩ := bd2_s hf
    refine r_goI (r_runV (As := [.int (1 : Int32), .int (-3 : Int32)]) (rest := []) hC hP hS (k_X11_refuse hg hO hu6) cw_X11_88 q_178 q_179 q_180 (Rm.D 0 3 rfl) hO.1 rfl rfl hl.1 rfl (Nat.le_of_ble_eq_true rfl) dX11_undo_15) hS (fun H locs hP hS => ?_)
    exact e_IM hC hr hlk hP hS dX11_undo_18 hf
set_option maxRecDepth 100000 in
set_option maxHeartbeats 4000000 in
theorem k_X11_where {g : Ev} {l : Launch} (hg : g.2.1.Nodup) {x : Nat} (hO : oTop g x) {M : Mm} {N : Ml} {p0 : Int32} {p1 : Int32} {p2 : Int32} {p3 : Int32} {v : Int32} {MR : Mm} (hf : f_X11_where x p0 p1 p2 p3 M = some (v, MR)) : KM g l yX11_where cX11_where 6 (some .int) 5 [.ref x, .int p0, .int p1, .int p2, .int p3] M N (QI g v MR N) := by
  refine KM.mk hg (by decide) (Nat.le_of_ble_eq_true rfl) ?_
  intro p e s m below meth c ls hC hr hlk hl hP hS
  have hx := hC.1
  have hb := hC.2.1
  have hl : lv_has ls 6 [(0, .ref x), (1, .int p0), (2, .int p1), (3, .int p2), (4, .int p3)] := hl
  have J32 : ∀ (M : Mm) (H : Heap) (locs : List Loc) (ls : Array Slot), f_X11_where_J32 x M = some (v, MR) → wP g M N H → va_S (wA g) s.heap H locs → lv_has ls 6 [(0, .ref x)] → W p l e (rmD 5) s m ([.ref x, .int p0, .int p1, .int p2, .int p3] : List Value).toArray below meth c H locs 0 0 (MQ below (QI g v MR N) ([.ref x, .int p0, .int p1, .int p2, .int p3] : List Value).toArray s 0 0 (wA g)) (F0 m 32 ls []) := by
    intro M H locs ls hf hP hS hl
    unfold f_X11_where_J32 at hf
    refine lv_aload_n hx hb dX11_where_32 rfl (lv_at hl 0 rfl) ?_
    refine lv_iconst (v := (0 : Int32)) hx hb dX11_where_33 (by decide) ?_
    refine lv_bipush (v := (-10 : Int32)) hx hb dX11_where_34 (by decide) ?_
    obtain ⟨r5, M7, hu6, hf⟩ := bd2_s hf
    refine r_goI (r_runV (As := [.int (0 : Int32), .int (-10 : Int32)]) (rest := []) hC hP hS (k_X11_refuse hg hO hu6) cw_X11_88 q_178 q_179 q_180 (Rm.D 0 5 rfl) hO.1 rfl rfl hl.1 rfl (Nat.le_of_ble_eq_true rfl) dX11_where_36) hS (fun H locs hP hS => ?_)
    exact e_IM hC hr hlk hP hS dX11_where_39 hf
  unfold f_X11_where at hf
  refine lv_iload_n hx hb dX11_where_0 rfl (lv_at hl 1 rfl) ?_
  obtain ⟨r1, hu2, hf⟩ := bd_s hf
  refine r_goI (r_runS (As := [.int p0]) (rest := []) hC hP hS (k_X11_isLane hg hu2) cw_X11_103 q_209 q_210 (Rm.D 0 5 rfl) rfl hl.1 rfl (Nat.le_of_ble_eq_true rfl) dX11_where_1) hS (fun H locs hP hS => ?_)
  refine lv_if_eq (tgt := 32) hx hb dX11_where_4 (by decide) (fun c4 => ?_) (fun c4 => ?_)
  · have hf := if_t c4 hf
    exact J32 M _ _ _ hf hP hS (lv_sub hl [0] rfl)
  · have hf := if_f c4 hf
    refine lv_aload_n hx hb dX11_where_7 rfl (lv_at hl 0 rfl) ?_
    refine lv_iload_n hx hb dX11_where_8 rfl (lv_at hl 2 rfl) ?_
    obtain ⟨r8, hu9, hf⟩ := bd_s hf
    refine r_goI (r_runV (As := [.int p1]) (rest := []) hC hP hS (k_X11_isPlace hg hO hu9) cw_X11_110 q_224 q_225 q_226 (Rm.D 1 5 rfl) hO.1 rfl rfl hl.1 rfl (Nat.le_of_ble_eq_true rfl) dX11_where_9) hS (fun H locs hP hS => ?_)
    refine lv_if_eq (tgt := 32) hx hb dX11_where_12 (by decide) (fun c11 => ?_) (fun c11 => ?_)
    · have hf := if_t c11 hf
      exact J32 M _ _ _ hf hP hS (lv_sub hl [0] rfl)
    · have hf := if_f c11 hf
      refine lv_iload_n hx hb dX11_where_15 rfl (lv_at hl 3 rfl) ?_
      obtain ⟨r12, hu13, hf⟩ := bd_s hf
      refine r_goI (r_runS (As := [.int p2]) (rest := []) hC hP hS (k_X11_isRounds hg hu13) cw_X11_164 q_646 q_647 (Rm.D 1 5 rfl) rfl hl.1 rfl (Nat.le_of_ble_eq_true rfl) dX11_where_16) hS (fun H locs hP hS => ?_)
      refine lv_if_eq (tgt := 32) hx hb dX11_where_19 (by decide) (fun c15 => ?_) (fun c15 => ?_)
      · have hf := if_t c15 hf
        exact J32 M _ _ _ hf hP hS (lv_sub hl [0] rfl)
      · have hf := if_f c15 hf
        refine lv_iload hx hb dX11_where_22 (lv_at hl 4 rfl) ?_
        refine lv_iconst (v := (0 : Int32)) hx hb dX11_where_24 (by decide) ?_
        refine lv_iconst (v := (2 : Int32)) hx hb dX11_where_25 (by decide) ?_
        obtain ⟨r16, hu17, hf⟩ := bd_s hf
        refine r_goI (r_runS (As := [.int p3, .int (0 : Int32), .int (2 : Int32)]) (rest := []) hC hP hS (k_X11_isWithin hg hu17) cw_X11_84 q_175 q_176 (Rm.D 0 5 rfl) rfl hl.1 rfl (Nat.le_of_ble_eq_true rfl) dX11_where_26) hS (fun H locs hP hS => ?_)
        refine lv_if_ne (tgt := 40) hx hb dX11_where_29 (by decide) (fun c19 => ?_) (fun c19 => ?_)
        · have hf := if_f c19 hf
          refine lv_aload_n hx hb dX11_where_40 rfl (lv_at hl 0 rfl) ?_
          refine r_getR hC hP hO.1 fl_X11_53 rfl dX11_where_41 ?_
          refine lv_iload_n hx hb dX11_where_44 rfl (lv_at hl 1 rfl) ?_
          refine lv_iload_n hx hb dX11_where_45 rfl (lv_at hl 2 rfl) ?_
          refine lv_iload_n hx hb dX11_where_46 rfl (lv_at hl 3 rfl) ?_
          obtain ⟨M22, hu21, hf⟩ := bd_s hf
          refine r_goR (r_runV (As := [.int p0, .int p1, .int p2]) (rest := []) hC hP hS (k_X0_follow hg hO.2.2.2.2.2.1 hu21) cw_X11_167 q_649 q_650 q_651 (Rm.D 4 5 rfl) hO.2.2.2.2.2.1.1 rfl rfl hl.1 rfl (Nat.le_of_ble_eq_true rfl) dX11_where_47) hS (fun H locs hP hS => ?_)
          refine lv_astore (lv' := [(5, .ref (x + 204 + 10)), (0, .ref x), (1, .int p0), (2, .int p1), (3, .int p2), (4, .int p3)]) hx hb dX11_where_50 hl (by decide) rfl (fun ls hl => ?_)
          refine lv_iload hx hb dX11_where_52 (lv_at hl 5 rfl) ?_
          refine lv_if_ne (tgt := 75) hx hb dX11_where_54 (by decide) (fun c23 => ?_) (fun c23 => ?_)
          · have hf := if_f c23 hf
            refine lv_iload hx hb dX11_where_75 (lv_at hl 5 rfl) ?_
            refine lv_iconst (v := (1 : Int32)) hx hb dX11_where_77 (by decide) ?_
            refine lv_icmp_ne (tgt := 89) hx hb dX11_where_78 (by decide) (fun c24 => ?_) (fun c24 => ?_)
            · have hf := if_f c24 hf
              refine lv_aload hx hb dX11_where_89 (lv_at hl 0 rfl) ?_
              refine r_getI hC hP hO.2.2.2.2.2.1.2.2.2.1 fl_X11_183 rfl dX11_where_91 ?_
              exact e_IM hC hr hlk hP hS dX11_where_94 hf
            · have hf := if_t c24 hf
              refine lv_aload hx hb dX11_where_81 (lv_at hl 0 rfl) ?_
              refine r_getI hC hP hO.2.2.2.2.2.1.2.2.2.1 fl_X11_180 rfl dX11_where_83 ?_
              refine lv_goto (tgt := 94) hx hb dX11_where_86 (by decide) ?_
              exact e_IM hC hr hlk hP hS dX11_where_94 hf
          · have hf := if_t c23 hf
            refine lv_aload hx hb dX11_where_57 (lv_at hl 0 rfl) ?_
            obtain ⟨r25, hu26, hf⟩ := bd_s hf
            refine r_goI (r_runV (As := []) (rest := []) hC hP hS (k_X2_isLost hg hO.2.2.2.2.2.1.2.2.2.1 hu26) cw_X11_171 q_677 q_661 q_662 (Rm.D 1 5 rfl) hO.2.2.2.2.2.1.2.2.2.1 rfl rfl hl.1 rfl (Nat.le_of_ble_eq_true rfl) dX11_where_59) hS (fun H locs hP hS => ?_)
            refine lv_if_eq (tgt := 69) hx hb dX11_where_62 (by decide) (fun c28 => ?_) (fun c28 => ?_)
            · have hf := if_t c28 hf
              refine lv_aload hx hb dX11_where_69 (lv_at hl 0 rfl) ?_
              refine r_getI hC hP hO.2.2.2.2.2.1.2.2.2.1 fl_X11_177 rfl dX11_where_71 ?_
              exact e_IM hC hr hlk hP hS dX11_where_74 hf
            · have hf := if_f c28 hf
              refine lv_iconst (v := (-1 : Int32)) hx hb dX11_where_65 (by decide) ?_
              refine lv_goto (tgt := 74) hx hb dX11_where_66 (by decide) ?_
              exact e_IM hC hr hlk hP hS dX11_where_74 hf
        · have hf := if_t c19 hf
          exact J32 M _ _ _ hf hP hS (lv_sub hl [0] rfl)
set_option maxRecDepth 100000 in
set_option maxHeartbeats 4000000 in
theorem k_X12_moons {g : Ev} {l : Launch} (hg : g.2.1.Nodup) {y : Nat} (hO : oModel g y) {M : Mm} {N : Ml}  {v : Int32} (hf : f_X12_moons y M = some v) : KM g l yX12_moons cX12_moons 1 (some .int) 0 [.ref y] M N (QI g v M N) := by
  refine KM.mk hg (by decide) (Nat.le_of_ble_eq_true rfl) ?_
  intro p e s m below meth c ls hC hr hlk hl hP hS
  have hx := hC.1
  have hb := hC.2.1
  have hl : lv_has ls 1 [(0, .ref y)] := hl
  unfold f_X12_moons at hf
  refine lv_aload_n hx hb dX12_moons_0 rfl (lv_at hl 0 rfl) ?_
  refine r_getR hC hP hO.1 fl_X12_7 rfl dX12_moons_1 ?_
  refine lv_bipush (v := (126 : Int32)) hx hb dX12_moons_4 (by decide) ?_
  obtain ⟨hb1, hf⟩ := ck_s hf
  refine r_iald hC hP hO.2.1 hb1 dX12_moons_6 ?_
  exact e_I hC hr hlk hP hS dX12_moons_7 hf
set_option maxRecDepth 100000 in
set_option maxHeartbeats 4000000 in
theorem k_X12_in {g : Ev} {l : Launch} (hg : g.2.1.Nodup)   {M : Mm} {N : Ml} {p0 : Int64} {p1 : Int64} {p2 : Int64} {v : Int32} (hf : f_X12_in p0 p1 p2 M = some v) : KM g l yX12_in cX12_in 6 (some .boolean) 0 [.long p0, .long p1, .long p2] M N (QI g v M N) := by
  refine KM.mk hg (by decide) (Nat.le_of_ble_eq_true rfl) ?_
  intro p e s m below meth c ls hC hr hlk hl hP hS
  have hx := hC.1
  have hb := hC.2.1
  have hl : lv_has ls 6 [(0, .long p0), (2, .long p1), (4, .long p2)] := hl
  unfold f_X12_in at hf
  refine lv_lload_n hx hb dX12_in_0 rfl (lv_at hl 0 rfl) ?_
  refine lv_lload_n hx hb dX12_in_1 rfl (lv_at hl 1 rfl) ?_
  refine W.lcmp hx hb dX12_in_2 ?_
  refine lv_if_lt (tgt := 17) hx hb dX12_in_3 (by decide) (fun c1 => ?_) (fun c1 => ?_)
  · have hf := if_t c1 hf
    refine lv_iconst (v := (0 : Int32)) hx hb dX12_in_17 (by decide) ?_
    exact e_Z hC hr hlk (Or.inl rfl) hP hS dX12_in_18 hf
  · have hf := if_f c1 hf
    refine lv_lload_n hx hb dX12_in_6 rfl (lv_at hl 0 rfl) ?_
    refine lv_lload hx hb dX12_in_7 (lv_at hl 2 rfl) ?_
    refine W.lcmp hx hb dX12_in_9 ?_
    refine lv_if_gt (tgt := 17) hx hb dX12_in_10 (by decide) (fun c2 => ?_) (fun c2 => ?_)
    · have hf := if_t c2 hf
      refine lv_iconst (v := (0 : Int32)) hx hb dX12_in_17 (by decide) ?_
      exact e_Z hC hr hlk (Or.inl rfl) hP hS dX12_in_18 hf
    · have hf := if_f c2 hf
      refine lv_iconst (v := (1 : Int32)) hx hb dX12_in_13 (by decide) ?_
      refine lv_goto (tgt := 18) hx hb dX12_in_14 (by decide) ?_
      exact e_Z hC hr hlk (Or.inr rfl) hP hS dX12_in_18 hf
set_option maxRecDepth 100000 in
set_option maxHeartbeats 4000000 in
theorem k_X12_isMoon {g : Ev} {l : Launch} (hg : g.2.1.Nodup) {y : Nat} (hO : oModel g y) {M : Mm} {N : Ml} {p0 : Int32} {v : Int32} (hf : f_X12_isMoon y p0 M = some v) : KM g l yX12_isMoon cX12_isMoon 2 (some .boolean) 1 [.ref y, .int p0] M N (QI g v M N) := by
  refine KM.mk hg (by decide) (Nat.le_of_ble_eq_true rfl) ?_
  intro p e s m below meth c ls hC hr hlk hl hP hS
  have hx := hC.1
  have hb := hC.2.1
  have hl : lv_has ls 2 [(0, .ref y), (1, .int p0)] := hl
  unfold f_X12_isMoon at hf
  refine lv_iload_n hx hb dX12_isMoon_0 rfl (lv_at hl 1 rfl) ?_
  refine lv_i2l hx hb dX12_isMoon_1 rfl ?_
  refine lv_lconst (v := (0 : Int64)) hx hb dX12_isMoon_2 (by decide) ?_
  refine lv_aload_n hx hb dX12_isMoon_3 rfl (lv_at hl 0 rfl) ?_
  obtain ⟨r1, hu2, hf⟩ := bd_s hf
  refine r_goI (r_runV (As := []) (rest := [.long (0 : Int64), .long p0.toInt64]) hC hP hS (k_X12_moons hg hO hu2) cw_X12_68 q_263 q_264 q_265 (Rm.D 0 1 rfl) hO.1 rfl rfl hl.1 rfl (Nat.le_of_ble_eq_true rfl) dX12_isMoon_4) hS (fun H locs hP hS => ?_)
  refine lv_iconst (v := (1 : Int32)) hx hb dX12_isMoon_7 (by decide) ?_
  refine lv_isub hx hb dX12_isMoon_8 ?_
  refine lv_i2l hx hb dX12_isMoon_9 rfl ?_
  obtain ⟨r4, hu5, hf⟩ := bd_s hf
  refine r_goI (r_runS (As := [.long p0.toInt64, .long (0 : Int64), .long ((r1 - (1 : Int32)).toInt64)]) (rest := []) hC hP hS (k_X12_in hg hu5) cw_X12_60 q_193 q_194 (Rm.D 0 1 rfl) rfl hl.1 rfl (Nat.le_of_ble_eq_true rfl) dX12_isMoon_10) hS (fun H locs hP hS => ?_)
  obtain ⟨hn7, hf⟩ := cb_s hf
  exact e_Z hC hr hlk hn7 hP hS dX12_isMoon_13 hf
set_option maxRecDepth 100000 in
set_option maxHeartbeats 4000000 in
theorem k_X12_of {g : Ev} {l : Launch} (hg : g.2.1.Nodup) {y : Nat} (hO : oModel g y) {M : Mm} {N : Ml} {p0 : Int32} {p1 : Int32} {v : Int32} (hf : f_X12_of y p0 p1 M = some v) : KM g l yX12_of cX12_of 3 (some .int) 0 [.ref y, .int p0, .int p1] M N (QI g v M N) := by
  refine KM.mk hg (by decide) (Nat.le_of_ble_eq_true rfl) ?_
  intro p e s m below meth c ls hC hr hlk hl hP hS
  have hx := hC.1
  have hb := hC.2.1
  have hl : lv_has ls 3 [(0, .ref y), (1, .int p0), (2, .int p1)] := hl
  unfold f_X12_of at hf
  refine lv_aload_n hx hb dX12_of_0 rfl (lv_at hl 0 rfl) ?_
  refine r_getR hC hP hO.1 fl_X12_7 rfl dX12_of_1 ?_
  refine lv_bipush (v := (127 : Int32)) hx hb dX12_of_4 (by decide) ?_
  refine lv_iconst (v := (4 : Int32)) hx hb dX12_of_6 (by decide) ?_
  refine lv_iload_n hx hb dX12_of_7 rfl (lv_at hl 1 rfl) ?_
  refine lv_imul hx hb dX12_of_8 ?_
  refine lv_iadd hx hb dX12_of_9 ?_
  refine lv_iload_n hx hb dX12_of_10 rfl (lv_at hl 2 rfl) ?_
  refine lv_iadd hx hb dX12_of_11 ?_
  obtain ⟨hb1, hf⟩ := ck_s hf
  refine r_iald hC hP hO.2.1 hb1 dX12_of_12 ?_
  exact e_I hC hr hlk hP hS dX12_of_13 hf
set_option maxRecDepth 100000 in
set_option maxHeartbeats 4000000 in
theorem k_X12_bad {g : Ev} {l : Launch} (hg : g.2.1.Nodup) {y : Nat} (hO : oModel g y) {M : Mm} {N : Ml} {p0 : Int32} {v : Int32} {MR : Mm} (hf : f_X12_bad y p0 M = some (v, MR)) : KM g l yX12_bad cX12_bad 2 (some .int) 0 [.ref y, .int p0] M N (QI g v MR N) := by
  refine KM.mk hg (by decide) (Nat.le_of_ble_eq_true rfl) ?_
  intro p e s m below meth c ls hC hr hlk hl hP hS
  have hx := hC.1
  have hb := hC.2.1
  have hl : lv_has ls 2 [(0, .ref y), (1, .int p0)] := hl
  unfold f_X12_bad at hf
  refine lv_aload_n hx hb dX12_bad_0 rfl (lv_at hl 0 rfl) ?_
  refine r_getR hC hP hO.1 fl_X12_20 rfl dX12_bad_1 ?_
  refine lv_iconst (v := (0 : Int32)) hx hb dX12_bad_4 (by decide) ?_
  refine lv_dup2_11 hx hb dX12_bad_5 rfl rfl ?_
  obtain ⟨hb1, hf⟩ := ck_s hf
  refine r_iald hC hP hO.2.2.2.2.1 hb1 dX12_bad_6 ?_
  refine lv_iconst (v := (1 : Int32)) hx hb dX12_bad_7 (by decide) ?_
  refine lv_iadd hx hb dX12_bad_8 ?_
  obtain ⟨hb2, hf⟩ := ck_s hf
  refine r_iast hC hP hS hO.2.2.2.2.1 hb2 dX12_bad_9 (fun H locs hP hS => ?_)
  obtain ⟨M3, eM3, hf, hP⟩ := bsM hf hP
  refine lv_iload_n hx hb dX12_bad_10 rfl (lv_at hl 1 rfl) ?_
  exact e_IM hC hr hlk hP hS dX12_bad_11 hf
set_option maxRecDepth 100000 in
set_option maxHeartbeats 4000000 in
theorem k_X12_about {g : Ev} {l : Launch} (hg : g.2.1.Nodup) {y : Nat} (hO : oModel g y) {M : Mm} {N : Ml} {p0 : Int32} {p1 : Int32} {v : Int32} {MR : Mm} (hf : f_X12_about y p0 p1 M = some (v, MR)) : KM g l yX12_about cX12_about 3 (some .int) 2 [.ref y, .int p0, .int p1] M N (QI g v MR N) := by
  refine KM.mk hg (by decide) (Nat.le_of_ble_eq_true rfl) ?_
  intro p e s m below meth c ls hC hr hlk hl hP hS
  have hx := hC.1
  have hb := hC.2.1
  have hl : lv_has ls 3 [(0, .ref y), (1, .int p0), (2, .int p1)] := hl
  have J29 : ∀ (M : Mm) (H : Heap) (locs : List Loc) (ls : Array Slot), f_X12_about_J29 y M = some (v, MR) → wP g M N H → va_S (wA g) s.heap H locs → lv_has ls 3 [(0, .ref y)] → W p l e (rmD 2) s m ([.ref y, .int p0, .int p1] : List Value).toArray below meth c H locs 0 0 (MQ below (QI g v MR N) ([.ref y, .int p0, .int p1] : List Value).toArray s 0 0 (wA g)) (F0 m 29 ls []) := by
    intro M H locs ls hf hP hS hl
    unfold f_X12_about_J29 at hf
    refine lv_aload_n hx hb dX12_about_29 rfl (lv_at hl 0 rfl) ?_
    refine lv_bipush (v := (-2 : Int32)) hx hb dX12_about_30 (by decide) ?_
    obtain ⟨r5, M7, hu6, hf⟩ := bd2_s hf
    refine r_goI (r_runV (As := [.int (-2 : Int32)]) (rest := []) hC hP hS (k_X12_bad hg hO hu6) cw_X12_73 q_196 q_197 q_198 (Rm.D 0 2 rfl) hO.1 rfl rfl hl.1 rfl (Nat.le_of_ble_eq_true rfl) dX12_about_32) hS (fun H locs hP hS => ?_)
    exact e_IM hC hr hlk hP hS dX12_about_35 hf
  unfold f_X12_about at hf
  refine lv_aload_n hx hb dX12_about_0 rfl (lv_at hl 0 rfl) ?_
  refine lv_iload_n hx hb dX12_about_1 rfl (lv_at hl 1 rfl) ?_
  obtain ⟨r1, hu2, hf⟩ := bd_s hf
  refine r_goI (r_runV (As := [.int p0]) (rest := []) hC hP hS (k_X12_isMoon hg hO hu2) cw_X12_144 q_635 q_636 q_637 (Rm.D 1 2 rfl) hO.1 rfl rfl hl.1 rfl (Nat.le_of_ble_eq_true rfl) dX12_about_2) hS (fun H locs hP hS => ?_)
  refine lv_if_eq (tgt := 29) hx hb dX12_about_5 (by decide) (fun c4 => ?_) (fun c4 => ?_)
  · have hf := if_t c4 hf
    exact J29 M _ _ _ hf hP hS (lv_sub hl [0] rfl)
  · have hf := if_f c4 hf
    refine lv_iload_n hx hb dX12_about_8 rfl (lv_at hl 2 rfl) ?_
    refine lv_i2l hx hb dX12_about_9 rfl ?_
    refine lv_lconst (v := (0 : Int64)) hx hb dX12_about_10 (by decide) ?_
    refine lv_ldc2 (v := (3 : Int64)) hx hb hC.2.2.2.1 (hC.2.2.2.2.1 _ q_634) dX12_about_11 ?_
    obtain ⟨r8, hu9, hf⟩ := bd_s hf
    refine r_goI (r_runS (As := [.long p1.toInt64, .long (0 : Int64), .long (3 : Int64)]) (rest := []) hC hP hS (k_X12_in hg hu9) cw_X12_60 q_193 q_194 (Rm.D 0 2 rfl) rfl hl.1 rfl (Nat.le_of_ble_eq_true rfl) dX12_about_14) hS (fun H locs hP hS => ?_)
    refine lv_if_eq (tgt := 29) hx hb dX12_about_17 (by decide) (fun c11 => ?_) (fun c11 => ?_)
    · have hf := if_t c11 hf
      exact J29 M _ _ _ hf hP hS (lv_sub hl [0] rfl)
    · have hf := if_f c11 hf
      refine lv_aload_n hx hb dX12_about_20 rfl (lv_at hl 0 rfl) ?_
      refine lv_iload_n hx hb dX12_about_21 rfl (lv_at hl 1 rfl) ?_
      refine lv_iload_n hx hb dX12_about_22 rfl (lv_at hl 2 rfl) ?_
      obtain ⟨r12, hu13, hf⟩ := bd_s hf
      refine r_goI (r_runV (As := [.int p0, .int p1]) (rest := []) hC hP hS (k_X12_of hg hO hu13) cw_X12_97 q_553 q_554 q_555 (Rm.D 0 2 rfl) hO.1 rfl rfl hl.1 rfl (Nat.le_of_ble_eq_true rfl) dX12_about_23) hS (fun H locs hP hS => ?_)
      refine lv_goto (tgt := 35) hx hb dX12_about_26 (by decide) ?_
      exact e_IM hC hr hlk hP hS dX12_about_35 hf
set_option maxRecDepth 100000 in
set_option maxHeartbeats 4000000 in
theorem k_X12_all {g : Ev} {l : Launch} (hg : g.2.1.Nodup) {y : Nat} (hO : oModel g y) {M : Mm} {N : Ml}  {v : Int32} (hf : f_X12_all y M = some v) : KM g l yX12_all cX12_all 1 (some .int) 1 [.ref y] M N (QI g v M N) := by
  refine KM.mk hg (by decide) (Nat.le_of_ble_eq_true rfl) ?_
  intro p e s m below meth c ls hC hr hlk hl hP hS
  have hx := hC.1
  have hb := hC.2.1
  have hl : lv_has ls 1 [(0, .ref y)] := hl
  unfold f_X12_all at hf
  refine lv_iconst (v := (1 : Int32)) hx hb dX12_all_0 (by decide) ?_
  refine lv_aload_n hx hb dX12_all_1 rfl (lv_at hl 0 rfl) ?_
  obtain ⟨r1, hu2, hf⟩ := bd_s hf
  refine r_goI (r_runV (As := []) (rest := [.int (1 : Int32)]) hC hP hS (k_X12_moons hg hO hu2) cw_X12_68 q_263 q_264 q_265 (Rm.D 0 1 rfl) hO.1 rfl rfl hl.1 rfl (Nat.le_of_ble_eq_true rfl) dX12_all_2) hS (fun H locs hP hS => ?_)
  refine lv_ishl hx hb dX12_all_5 ?_
  refine lv_iconst (v := (1 : Int32)) hx hb dX12_all_6 (by decide) ?_
  refine lv_isub hx hb dX12_all_7 ?_
  exact e_I hC hr hlk hP hS dX12_all_8 hf
set_option maxRecDepth 100000 in
set_option maxHeartbeats 4000000 in
theorem k_X12_places {g : Ev} {l : Launch} (hg : g.2.1.Nodup) {y : Nat} (hO : oModel g y) {M : Mm} {N : Ml}  {v : Int32} (hf : f_X12_places y M = some v) : KM g l yX12_places cX12_places 1 (some .int) 0 [.ref y] M N (QI g v M N) := by
  refine KM.mk hg (by decide) (Nat.le_of_ble_eq_true rfl) ?_
  intro p e s m below meth c ls hC hr hlk hl hP hS
  have hx := hC.1
  have hb := hC.2.1
  have hl : lv_has ls 1 [(0, .ref y)] := hl
  unfold f_X12_places at hf
  refine lv_aload_n hx hb dX12_places_0 rfl (lv_at hl 0 rfl) ?_
  refine r_getR hC hP hO.1 fl_X12_7 rfl dX12_places_1 ?_
  refine lv_iconst (v := (0 : Int32)) hx hb dX12_places_4 (by decide) ?_
  obtain ⟨hb1, hf⟩ := ck_s hf
  refine r_iald hC hP hO.2.1 hb1 dX12_places_5 ?_
  exact e_I hC hr hlk hP hS dX12_places_6 hf
set_option maxRecDepth 100000 in
set_option maxHeartbeats 4000000 in
theorem k_X12_common {g : Ev} {l : Launch} (hg : g.2.1.Nodup)   {M : Mm} {N : Ml} {p0 : Int32} {p1 : Int32} {v : Int32} (hf : f_X12_common p0 p1 M = some v) : KM g l yX12_common cX12_common 5 (some .int) 0 [.int p0, .int p1] M N (QI g v M N) := by
  refine KM.mk hg (by decide) (Nat.le_of_ble_eq_true rfl) ?_
  intro p e s m below meth c ls hC hr hlk hl hP hS
  have hx := hC.1
  have hb := hC.2.1
  have hl : lv_has ls 5 [(0, .int p0), (1, .int p1)] := hl
  have L4 : ∀ (n : Nat) (x2 : Int32) (x3 : Int32) (H : Heap) (locs : List Loc) (ls : Array Slot), f_X12_common_L4 M n x2 x3 = some v → wP g M N H → va_S (wA g) s.heap H locs → lv_has ls 5 [(2, .int x2), (3, .int x3)] → W p l e (rmD 0) s m ([.int p0, .int p1] : List Value).toArray below meth c H locs 0 0 (MQ below (QI g v M N) ([.int p0, .int p1] : List Value).toArray s 0 0 (wA g)) (F0 m 4 ls []) := by
    intro n
    induction n with
    | zero =>
      intro x2 x3 H locs ls hf
      exact absurd hf (by simp [f_X12_common_L4])
    | succ n ih =>
      intro x2 x3 H locs ls hf hP hS hl
      unfold f_X12_common_L4 at hf
      refine lv_iload_n hx hb dX12_common_4 rfl (lv_at hl 1 rfl) ?_
      refine lv_if_eq (tgt := 21) hx hb dX12_common_5 (by decide) (fun c1 => ?_) (fun c1 => ?_)
      · have hf := if_t c1 hf
        refine lv_iload_n hx hb dX12_common_21 rfl (lv_at hl 0 rfl) ?_
        exact e_I hC hr hlk hP hS dX12_common_22 hf
      · have hf := if_f c1 hf
        refine lv_iload_n hx hb dX12_common_8 rfl (lv_at hl 0 rfl) ?_
        refine lv_iload_n hx hb dX12_common_9 rfl (lv_at hl 1 rfl) ?_
        obtain ⟨hz2, hf⟩ := cz_s hf
        refine lv_irem hx hb dX12_common_10 hz2 ?_
        refine lv_topi (fun z3 ez3 => ?_)
        have hf := bs ez3 hf
        refine lv_istore (lv' := [(4, .int z3), (2, .int x2), (3, .int x3)]) hx hb dX12_common_11 hl (by decide) rfl (fun ls hl => ?_)
        refine lv_iload_n hx hb dX12_common_13 rfl (lv_at hl 2 rfl) ?_
        refine lv_istore_n (lv' := [(2, .int x3), (4, .int z3), (3, .int x3)]) hx hb dX12_common_14 rfl hl (by decide) rfl (fun ls hl => ?_)
        refine lv_iload hx hb dX12_common_15 (lv_at hl 1 rfl) ?_
        refine lv_istore_n (lv' := [(3, .int z3), (2, .int x3), (4, .int z3)]) hx hb dX12_common_17 rfl hl (by decide) rfl (fun ls hl => ?_)
        refine lv_goto (tgt := 4) hx hb dX12_common_18 (by decide) ?_
        exact ih x3 z3 _ _ _ hf hP hS (lv_sub hl [1, 0] rfl)
  unfold f_X12_common at hf
  refine lv_iload_n hx hb dX12_common_0 rfl (lv_at hl 0 rfl) ?_
  refine lv_istore_n (lv' := [(2, .int p0), (0, .int p0), (1, .int p1)]) hx hb dX12_common_1 rfl hl (by decide) rfl (fun ls hl => ?_)
  refine lv_iload_n hx hb dX12_common_2 rfl (lv_at hl 2 rfl) ?_
  refine lv_istore_n (lv' := [(3, .int p1), (2, .int p0), (0, .int p0), (1, .int p1)]) hx hb dX12_common_3 rfl hl (by decide) rfl (fun ls hl => ?_)
  exact L4 _ p0 p1 _ _ _ hf hP hS (lv_sub hl [1, 0] rfl)
set_option maxRecDepth 100000 in
set_option maxHeartbeats 4000000 in
theorem k_X12_turns {g : Ev} {l : Launch} (hg : g.2.1.Nodup) {y : Nat} (hO : oModel g y) {M : Mm} {N : Ml} {p0 : Int32} {v : Int32} (hf : f_X12_turns y p0 M = some v) : KM g l yX12_turns cX12_turns 2 (some .int) 1 [.ref y, .int p0] M N (QI g v M N) := by
  refine KM.mk hg (by decide) (Nat.le_of_ble_eq_true rfl) ?_
  intro p e s m below meth c ls hC hr hlk hl hP hS
  have hx := hC.1
  have hb := hC.2.1
  have hl : lv_has ls 2 [(0, .ref y), (1, .int p0)] := hl
  unfold f_X12_turns at hf
  refine lv_aload_n hx hb dX12_turns_0 rfl (lv_at hl 0 rfl) ?_
  obtain ⟨r1, hu2, hf⟩ := bd_s hf
  refine r_goI (r_runV (As := []) (rest := []) hC hP hS (k_X12_places hg hO hu2) cw_X12_64 q_200 q_201 q_202 (Rm.D 0 1 rfl) hO.1 rfl rfl hl.1 rfl (Nat.le_of_ble_eq_true rfl) dX12_turns_1) hS (fun H locs hP hS => ?_)
  refine lv_aload_n hx hb dX12_turns_4 rfl (lv_at hl 0 rfl) ?_
  obtain ⟨r4, hu5, hf⟩ := bd_s hf
  refine r_goI (r_runV (As := []) (rest := [.int r1]) hC hP hS (k_X12_places hg hO hu5) cw_X12_64 q_200 q_201 q_202 (Rm.D 0 1 rfl) hO.1 rfl rfl hl.1 rfl (Nat.le_of_ble_eq_true rfl) dX12_turns_5) hS (fun H locs hP hS => ?_)
  refine lv_iload_n hx hb dX12_turns_8 rfl (lv_at hl 1 rfl) ?_
  obtain ⟨r7, hu8, hf⟩ := bd_s hf
  refine r_goI (r_runS (As := [.int r4, .int p0]) (rest := [.int r1]) hC hP hS (k_X12_common hg hu8) cw_X12_185 q_818 q_819 (Rm.D 0 1 rfl) rfl hl.1 rfl (Nat.le_of_ble_eq_true rfl) dX12_turns_9) hS (fun H locs hP hS => ?_)
  obtain ⟨hz10, hf⟩ := cz_s hf
  refine lv_idiv hx hb dX12_turns_12 hz10 ?_
  exact e_I hC hr hlk hP hS dX12_turns_13 hf
set_option maxRecDepth 100000 in
set_option maxHeartbeats 4000000 in
theorem k_X12_back {g : Ev} {l : Launch} (hg : g.2.1.Nodup) {y : Nat} (hO : oModel g y) {M : Mm} {N : Ml}  {v : Int32} (hf : f_X12_back y M = some v) : KM g l yX12_back cX12_back 4 (some .int) 2 [.ref y] M N (QI g v M N) := by
  refine KM.mk hg (by decide) (Nat.le_of_ble_eq_true rfl) ?_
  intro p e s m below meth c ls hC hr hlk hl hP hS
  have hx := hC.1
  have hb := hC.2.1
  have hl : lv_has ls 4 [(0, .ref y)] := hl
  have L40 : ∀ (n : Nat) (x1 : Int32) (x2 : Int32) (H : Heap) (locs : List Loc) (ls : Array Slot), f_X12_back_L40 y M n x1 x2 = some v → wP g M N H → va_S (wA g) s.heap H locs → lv_has ls 4 [(0, .ref y), (1, .int x1), (2, .int x2)] → W p l e (rmD 2) s m ([.ref y] : List Value).toArray below meth c H locs 0 0 (MQ below (QI g v M N) ([.ref y] : List Value).toArray s 0 0 (wA g)) (F0 m 40 ls []) := by
    intro n
    induction n with
    | zero =>
      intro x1 x2 H locs ls hf
      exact absurd hf (by simp [f_X12_back_L40])
    | succ n ih =>
      intro x1 x2 H locs ls hf hP hS hl
      unfold f_X12_back_L40 at hf
      refine lv_iload_n hx hb dX12_back_40 rfl (lv_at hl 2 rfl) ?_
      refine lv_aload_n hx hb dX12_back_41 rfl (lv_at hl 0 rfl) ?_
      obtain ⟨r2, hu3, hf⟩ := bd_s hf
      refine r_goI (r_runV (As := []) (rest := [.int x2]) hC hP hS (k_X12_moons hg hO hu3) cw_X12_68 q_263 q_264 q_265 (Rm.D 0 2 rfl) hO.1 rfl rfl hl.1 rfl (Nat.le_of_ble_eq_true rfl) dX12_back_42) hS (fun H locs hP hS => ?_)
      refine lv_icmp_ge (tgt := 75) hx hb dX12_back_45 (by decide) (fun c5 => ?_) (fun c5 => ?_)
      · have hf := if_t c5 hf
        refine lv_iload_n hx hb dX12_back_75 rfl (lv_at hl 1 rfl) ?_
        exact e_I hC hr hlk hP hS dX12_back_76 hf
      · have hf := if_f c5 hf
        refine lv_aload_n hx hb dX12_back_48 rfl (lv_at hl 0 rfl) ?_
        refine lv_aload_n hx hb dX12_back_49 rfl (lv_at hl 0 rfl) ?_
        refine lv_iload_n hx hb dX12_back_50 rfl (lv_at hl 2 rfl) ?_
        refine lv_iconst (v := (3 : Int32)) hx hb dX12_back_51 (by decide) ?_
        obtain ⟨r6, hu7, hf⟩ := bd_s hf
        refine r_goI (r_runV (As := [.int x2, .int (3 : Int32)]) (rest := [.ref y]) hC hP hS (k_X12_of hg hO hu7) cw_X12_97 q_553 q_554 q_555 (Rm.D 0 2 rfl) hO.1 rfl rfl hl.1 rfl (Nat.le_of_ble_eq_true rfl) dX12_back_52) hS (fun H locs hP hS => ?_)
        obtain ⟨r9, hu10, hf⟩ := bd_s hf
        refine r_goI (r_runV (As := [.int r6]) (rest := []) hC hP hS (k_X12_turns hg hO hu10) cw_X12_188 q_814 q_815 q_816 (Rm.D 1 2 rfl) hO.1 rfl rfl hl.1 rfl (Nat.le_of_ble_eq_true rfl) dX12_back_55) hS (fun H locs hP hS => ?_)
        refine lv_istore_n (lv' := [(3, .int r9), (0, .ref y), (1, .int x1), (2, .int x2)]) hx hb dX12_back_58 rfl hl (by decide) rfl (fun ls hl => ?_)
        refine lv_iload_n hx hb dX12_back_59 rfl (lv_at hl 2 rfl) ?_
        refine lv_iload_n hx hb dX12_back_60 rfl (lv_at hl 2 rfl) ?_
        refine lv_iload_n hx hb dX12_back_61 rfl (lv_at hl 0 rfl) ?_
        obtain ⟨r12, hu13, hf⟩ := bd_s hf
        refine r_goI (r_runS (As := [.int x1, .int r9]) (rest := [.int x1]) hC hP hS (k_X12_common hg hu13) cw_X12_185 q_818 q_819 (Rm.D 0 2 rfl) rfl hl.1 rfl (Nat.le_of_ble_eq_true rfl) dX12_back_62) hS (fun H locs hP hS => ?_)
        obtain ⟨hz15, hf⟩ := cz_s hf
        refine lv_idiv hx hb dX12_back_65 hz15 ?_
        refine lv_iload_n hx hb dX12_back_66 rfl (lv_at hl 0 rfl) ?_
        refine lv_imul hx hb dX12_back_67 ?_
        refine lv_topi (fun z16 ez16 => ?_)
        have hf := bs ez16 hf
        refine lv_istore_n (lv' := [(1, .int z16), (3, .int r9), (0, .ref y), (2, .int x2)]) hx hb dX12_back_68 rfl hl (by decide) rfl (fun ls hl => ?_)
        obtain ⟨z17, ez17, hf⟩ := bsJ hf
        refine lv_iinc (v := z17) (lv' := [(2, .int z17), (1, .int z16), (3, .int r9), (0, .ref y)]) hx hb dX12_back_69 hl (k := 3) rfl (by rw [ez17]; rfl) (by decide) rfl (fun ls hl => ?_)
        refine lv_goto (tgt := 40) hx hb dX12_back_72 (by decide) ?_
        exact ih z16 z17 _ _ _ hf hP hS (lv_sub hl [3, 1, 0] rfl)
  have L4 : ∀ (n : Nat) (x1 : Int32) (x2 : Int32) (H : Heap) (locs : List Loc) (ls : Array Slot), f_X12_back_L4 y M n x1 x2 = some v → wP g M N H → va_S (wA g) s.heap H locs → lv_has ls 4 [(0, .ref y), (1, .int x1), (2, .int x2)] → W p l e (rmD 2) s m ([.ref y] : List Value).toArray below meth c H locs 0 0 (MQ below (QI g v M N) ([.ref y] : List Value).toArray s 0 0 (wA g)) (F0 m 4 ls []) := by
    intro n
    induction n with
    | zero =>
      intro x1 x2 H locs ls hf
      exact absurd hf (by simp [f_X12_back_L4])
    | succ n ih =>
      intro x1 x2 H locs ls hf hP hS hl
      unfold f_X12_back_L4 at hf
      refine lv_iload_n hx hb dX12_back_4 rfl (lv_at hl 2 rfl) ?_
      refine lv_iconst (v := (5 : Int32)) hx hb dX12_back_5 (by decide) ?_
      refine lv_icmp_ge (tgt := 38) hx hb dX12_back_6 (by decide) (fun c1 => ?_) (fun c1 => ?_)
      · have hf := if_t c1 hf
        refine lv_iconst (v := (0 : Int32)) hx hb dX12_back_38 (by decide) ?_
        refine lv_istore_n (lv' := [(2, .int (0 : Int32)), (0, .ref y), (1, .int x1)]) hx hb dX12_back_39 rfl hl (by decide) rfl (fun ls hl => ?_)
        exact L40 _ x1 (0 : Int32) _ _ _ hf hP hS (lv_sub hl [1, 2, 0] rfl)
      · have hf := if_f c1 hf
        refine lv_aload_n hx hb dX12_back_9 rfl (lv_at hl 0 rfl) ?_
        refine lv_aload_n hx hb dX12_back_10 rfl (lv_at hl 0 rfl) ?_
        refine r_getR hC hP hO.1 fl_X12_7 rfl dX12_back_11 ?_
        refine lv_iconst (v := (1 : Int32)) hx hb dX12_back_14 (by decide) ?_
        refine lv_iload_n hx hb dX12_back_15 rfl (lv_at hl 2 rfl) ?_
        refine lv_iadd hx hb dX12_back_16 ?_
        obtain ⟨hb18, hf⟩ := ck_s hf
        refine r_iald hC hP hO.2.1 hb18 dX12_back_17 ?_
        obtain ⟨r19, hu20, hf⟩ := bd_s hf
        refine r_goI (r_runV (As := [.int (M (y + 1) ((1 : Int32) + x2).toNatClampNeg)]) (rest := []) hC hP hS (k_X12_turns hg hO hu20) cw_X12_188 q_814 q_815 q_816 (Rm.D 1 2 rfl) hO.1 rfl rfl hl.1 rfl (Nat.le_of_ble_eq_true rfl) dX12_back_18) hS (fun H locs hP hS => ?_)
        refine lv_istore_n (lv' := [(3, .int r19), (0, .ref y), (1, .int x1), (2, .int x2)]) hx hb dX12_back_21 rfl hl (by decide) rfl (fun ls hl => ?_)
        refine lv_iload_n hx hb dX12_back_22 rfl (lv_at hl 2 rfl) ?_
        refine lv_iload_n hx hb dX12_back_23 rfl (lv_at hl 2 rfl) ?_
        refine lv_iload_n hx hb dX12_back_24 rfl (lv_at hl 0 rfl) ?_
        obtain ⟨r22, hu23, hf⟩ := bd_s hf
        refine r_goI (r_runS (As := [.int x1, .int r19]) (rest := [.int x1]) hC hP hS (k_X12_common hg hu23) cw_X12_185 q_818 q_819 (Rm.D 0 2 rfl) rfl hl.1 rfl (Nat.le_of_ble_eq_true rfl) dX12_back_25) hS (fun H locs hP hS => ?_)
        obtain ⟨hz25, hf⟩ := cz_s hf
        refine lv_idiv hx hb dX12_back_28 hz25 ?_
        refine lv_iload_n hx hb dX12_back_29 rfl (lv_at hl 0 rfl) ?_
        refine lv_imul hx hb dX12_back_30 ?_
        refine lv_topi (fun z26 ez26 => ?_)
        have hf := bs ez26 hf
        refine lv_istore_n (lv' := [(1, .int z26), (3, .int r19), (0, .ref y), (2, .int x2)]) hx hb dX12_back_31 rfl hl (by decide) rfl (fun ls hl => ?_)
        obtain ⟨z27, ez27, hf⟩ := bsJ hf
        refine lv_iinc (v := z27) (lv' := [(2, .int z27), (1, .int z26), (3, .int r19), (0, .ref y)]) hx hb dX12_back_32 hl (k := 3) rfl (by rw [ez27]; rfl) (by decide) rfl (fun ls hl => ?_)
        refine lv_goto (tgt := 4) hx hb dX12_back_35 (by decide) ?_
        exact ih z26 z27 _ _ _ hf hP hS (lv_sub hl [3, 1, 0] rfl)
  unfold f_X12_back at hf
  refine lv_iconst (v := (1 : Int32)) hx hb dX12_back_0 (by decide) ?_
  refine lv_istore_n (lv' := [(1, .int (1 : Int32)), (0, .ref y)]) hx hb dX12_back_1 rfl hl (by decide) rfl (fun ls hl => ?_)
  refine lv_iconst (v := (0 : Int32)) hx hb dX12_back_2 (by decide) ?_
  refine lv_istore_n (lv' := [(2, .int (0 : Int32)), (1, .int (1 : Int32)), (0, .ref y)]) hx hb dX12_back_3 rfl hl (by decide) rfl (fun ls hl => ?_)
  exact L4 _ (1 : Int32) (0 : Int32) _ _ _ hf hP hS (lv_sub hl [2, 1, 0] rfl)
set_option maxRecDepth 100000 in
set_option maxHeartbeats 4000000 in
theorem k_X12_begin {g : Ev} {l : Launch} (hg : g.2.1.Nodup) {p0 : Nat} {p0n : Nat} (hp0 : iAt g p0 p0n) {M : Mm} {N : Ml} {p1 : Int32} {MR : Mm} (hf : f_X12_begin p0 p0n p1 M = some MR) : KM g l yX12_begin cX12_begin 3 none 0 [.ref p0, .int p1] M N (QV g MR N) := by
  refine KM.mk hg (by decide) (Nat.le_of_ble_eq_true rfl) ?_
  intro p e s m below meth c ls hC hr hlk hl hP hS
  have hx := hC.1
  have hb := hC.2.1
  have hl : lv_has ls 3 [(0, .ref p0), (1, .int p1)] := hl
  have L25 : ∀ (n : Nat) (x2 : Int32) (M : Mm) (H : Heap) (locs : List Loc) (ls : Array Slot), f_X12_begin_L25 p0 p0n n x2 M = some MR → wP g M N H → va_S (wA g) s.heap H locs → lv_has ls 3 [(0, .ref p0), (2, .int x2)] → W p l e (rmD 0) s m ([.ref p0, .int p1] : List Value).toArray below meth c H locs 0 0 (MQ below (QV g MR N) ([.ref p0, .int p1] : List Value).toArray s 0 0 (wA g)) (F0 m 25 ls []) := by
    intro n
    induction n with
    | zero =>
      intro x2 M H locs ls hf
      exact absurd hf (by simp [f_X12_begin_L25])
    | succ n ih =>
      intro x2 M H locs ls hf hP hS hl
      unfold f_X12_begin_L25 at hf
      refine lv_iload_n hx hb dX12_begin_25 rfl (lv_at hl 1 rfl) ?_
      refine lv_iconst (v := (5 : Int32)) hx hb dX12_begin_26 (by decide) ?_
      refine lv_icmp_ge (tgt := 44) hx hb dX12_begin_27 (by decide) (fun c4 => ?_) (fun c4 => ?_)
      · have hf := if_t c4 hf
        exact e_VM hC hr hlk hP hS dX12_begin_44 hf
      · have hf := if_f c4 hf
        refine lv_aload_n hx hb dX12_begin_30 rfl (lv_at hl 0 rfl) ?_
        refine lv_iconst (v := (1 : Int32)) hx hb dX12_begin_31 (by decide) ?_
        refine lv_iload_n hx hb dX12_begin_32 rfl (lv_at hl 1 rfl) ?_
        refine lv_iadd hx hb dX12_begin_33 ?_
        refine lv_iconst (v := (5 : Int32)) hx hb dX12_begin_34 (by decide) ?_
        refine lv_iload_n hx hb dX12_begin_35 rfl (lv_at hl 1 rfl) ?_
        refine lv_isub hx hb dX12_begin_36 ?_
        obtain ⟨hb5, hf⟩ := ck_s hf
        refine r_iast hC hP hS hp0 hb5 dX12_begin_37 (fun H locs hP hS => ?_)
        obtain ⟨M6, eM6, hf, hP⟩ := bsM hf hP
        obtain ⟨z7, ez7, hf⟩ := bsJ hf
        refine lv_iinc (v := z7) (lv' := [(2, .int z7), (0, .ref p0)]) hx hb dX12_begin_38 hl (k := 1) rfl (by rw [ez7]; rfl) (by decide) rfl (fun ls hl => ?_)
        refine lv_goto (tgt := 25) hx hb dX12_begin_41 (by decide) ?_
        exact ih z7 M6 _ _ _ hf hP hS (lv_sub hl [1, 0] rfl)
  have L2 : ∀ (n : Nat) (x1 : Int32) (x2 : Int32) (M : Mm) (H : Heap) (locs : List Loc) (ls : Array Slot), f_X12_begin_L2 p0 p0n n x1 x2 M = some MR → wP g M N H → va_S (wA g) s.heap H locs → lv_has ls 3 [(0, .ref p0), (1, .int x1), (2, .int x2)] → W p l e (rmD 0) s m ([.ref p0, .int p1] : List Value).toArray below meth c H locs 0 0 (MQ below (QV g MR N) ([.ref p0, .int p1] : List Value).toArray s 0 0 (wA g)) (F0 m 2 ls []) := by
    intro n
    induction n with
    | zero =>
      intro x1 x2 M H locs ls hf
      exact absurd hf (by simp [f_X12_begin_L2])
    | succ n ih =>
      intro x1 x2 M H locs ls hf hP hS hl
      unfold f_X12_begin_L2 at hf
      refine lv_iload_n hx hb dX12_begin_2 rfl (lv_at hl 2 rfl) ?_
      refine lv_sipush (v := (151 : Int32)) hx hb dX12_begin_3 (by decide) ?_
      refine lv_icmp_ge (tgt := 19) hx hb dX12_begin_6 (by decide) (fun c1 => ?_) (fun c1 => ?_)
      · have hf := if_t c1 hf
        refine lv_aload_n hx hb dX12_begin_19 rfl (lv_at hl 0 rfl) ?_
        refine lv_iconst (v := (0 : Int32)) hx hb dX12_begin_20 (by decide) ?_
        refine lv_iload_n hx hb dX12_begin_21 rfl (lv_at hl 1 rfl) ?_
        obtain ⟨hb2, hf⟩ := ck_s hf
        refine r_iast hC hP hS hp0 hb2 dX12_begin_22 (fun H locs hP hS => ?_)
        obtain ⟨M3, eM3, hf, hP⟩ := bsM hf hP
        refine lv_iconst (v := (0 : Int32)) hx hb dX12_begin_23 (by decide) ?_
        refine lv_istore_n (lv' := [(2, .int (0 : Int32)), (0, .ref p0), (1, .int x1)]) hx hb dX12_begin_24 rfl hl (by decide) rfl (fun ls hl => ?_)
        exact L25 _ (0 : Int32) M3 _ _ _ hf hP hS (lv_sub hl [1, 0] rfl)
      · have hf := if_f c1 hf
        refine lv_aload_n hx hb dX12_begin_9 rfl (lv_at hl 0 rfl) ?_
        refine lv_iload_n hx hb dX12_begin_10 rfl (lv_at hl 2 rfl) ?_
        refine lv_iconst (v := (0 : Int32)) hx hb dX12_begin_11 (by decide) ?_
        obtain ⟨hb8, hf⟩ := ck_s hf
        refine r_iast hC hP hS hp0 hb8 dX12_begin_12 (fun H locs hP hS => ?_)
        obtain ⟨M9, eM9, hf, hP⟩ := bsM hf hP
        obtain ⟨z10, ez10, hf⟩ := bsJ hf
        refine lv_iinc (v := z10) (lv' := [(2, .int z10), (0, .ref p0), (1, .int x1)]) hx hb dX12_begin_13 hl (k := 2) rfl (by rw [ez10]; rfl) (by decide) rfl (fun ls hl => ?_)
        refine lv_goto (tgt := 2) hx hb dX12_begin_16 (by decide) ?_
        exact ih x1 z10 M9 _ _ _ hf hP hS (lv_sub hl [1, 2, 0] rfl)
  unfold f_X12_begin at hf
  refine lv_iconst (v := (0 : Int32)) hx hb dX12_begin_0 (by decide) ?_
  refine lv_istore_n (lv' := [(2, .int (0 : Int32)), (0, .ref p0), (1, .int p1)]) hx hb dX12_begin_1 rfl hl (by decide) rfl (fun ls hl => ?_)
  exact L2 _ p1 (0 : Int32) M _ _ _ hf hP hS (lv_sub hl [1, 2, 0] rfl)
set_option maxRecDepth 100000 in
set_option maxHeartbeats 4000000 in
theorem k_X12_goMoons {g : Ev} {l : Launch} (hg : g.2.1.Nodup) {y : Nat} (hO : oModel g y) {M : Mm} {N : Ml}  {MR : Mm} (hf : f_X12_goMoons y M = some MR) : KM g l yX12_goMoons cX12_goMoons 2 none 1 [.ref y] M N (QV g MR N) := by
  refine KM.mk hg (by decide) (Nat.le_of_ble_eq_true rfl) ?_
  intro p e s m below meth c ls hC hr hlk hl hP hS
  have hx := hC.1
  have hb := hC.2.1
  have hl : lv_has ls 2 [(0, .ref y)] := hl
  have L2 : ∀ (n : Nat) (x1 : Int32) (M : Mm) (H : Heap) (locs : List Loc) (ls : Array Slot), f_X12_goMoons_L2 y n x1 M = some MR → wP g M N H → va_S (wA g) s.heap H locs → lv_has ls 2 [(0, .ref y), (1, .int x1)] → W p l e (rmD 1) s m ([.ref y] : List Value).toArray below meth c H locs 0 0 (MQ below (QV g MR N) ([.ref y] : List Value).toArray s 0 0 (wA g)) (F0 m 2 ls []) := by
    intro n
    induction n with
    | zero =>
      intro x1 M H locs ls hf
      exact absurd hf (by simp [f_X12_goMoons_L2])
    | succ n ih =>
      intro x1 M H locs ls hf hP hS hl
      unfold f_X12_goMoons_L2 at hf
      refine lv_iload_n hx hb dX12_goMoons_2 rfl (lv_at hl 1 rfl) ?_
      refine lv_aload_n hx hb dX12_goMoons_3 rfl (lv_at hl 0 rfl) ?_
      obtain ⟨r1, hu2, hf⟩ := bd_s hf
      refine r_goI (r_runV (As := []) (rest := [.int x1]) hC hP hS (k_X12_moons hg hO hu2) cw_X12_68 q_263 q_264 q_265 (Rm.D 0 1 rfl) hO.1 rfl rfl hl.1 rfl (Nat.le_of_ble_eq_true rfl) dX12_goMoons_4) hS (fun H locs hP hS => ?_)
      refine lv_icmp_ge (tgt := 40) hx hb dX12_goMoons_7 (by decide) (fun c4 => ?_) (fun c4 => ?_)
      · have hf := if_t c4 hf
        refine lv_aload_n hx hb dX12_goMoons_40 rfl (lv_at hl 0 rfl) ?_
        refine lv_dup hx hb dX12_goMoons_41 rfl ?_
        refine r_getI hC hP hO.1 fl_X12_101 rfl dX12_goMoons_42 ?_
        refine lv_iconst (v := (1 : Int32)) hx hb dX12_goMoons_45 (by decide) ?_
        refine lv_iadd hx hb dX12_goMoons_46 ?_
        refine r_putI hC hP hS hO.1 fl_X12_101 tyX12 tyX12_ok nmX12 rfl rfl rfl dX12_goMoons_47 (fun H locs hP hS => ?_)
        obtain ⟨M5, eM5, hf, hP⟩ := bsM hf hP
        exact e_VM hC hr hlk hP hS dX12_goMoons_50 hf
      · have hf := if_f c4 hf
        refine lv_aload_n hx hb dX12_goMoons_10 rfl (lv_at hl 0 rfl) ?_
        refine r_getR hC hP hO.1 fl_X12_33 rfl dX12_goMoons_11 ?_
        refine lv_iload_n hx hb dX12_goMoons_14 rfl (lv_at hl 1 rfl) ?_
        refine lv_aload_n hx hb dX12_goMoons_15 rfl (lv_at hl 0 rfl) ?_
        refine r_getR hC hP hO.1 fl_X12_33 rfl dX12_goMoons_16 ?_
        refine lv_iload_n hx hb dX12_goMoons_19 rfl (lv_at hl 1 rfl) ?_
        obtain ⟨hb6, hf⟩ := ck_s hf
        refine r_iald hC hP hO.2.2.2.2.2.2.2.1 hb6 dX12_goMoons_20 ?_
        refine lv_aload_n hx hb dX12_goMoons_21 rfl (lv_at hl 0 rfl) ?_
        refine lv_iload_n hx hb dX12_goMoons_22 rfl (lv_at hl 1 rfl) ?_
        refine lv_iconst (v := (3 : Int32)) hx hb dX12_goMoons_23 (by decide) ?_
        obtain ⟨r7, hu8, hf⟩ := bd_s hf
        refine r_goI (r_runV (As := [.int x1, .int (3 : Int32)]) (rest := [.int (M (y + 7) x1.toNatClampNeg), .int x1, .ref (y + 7)]) hC hP hS (k_X12_of hg hO hu8) cw_X12_97 q_553 q_554 q_555 (Rm.D 0 1 rfl) hO.1 rfl rfl hl.1 rfl (Nat.le_of_ble_eq_true rfl) dX12_goMoons_24) hS (fun H locs hP hS => ?_)
        refine lv_iadd hx hb dX12_goMoons_27 ?_
        refine lv_aload_n hx hb dX12_goMoons_28 rfl (lv_at hl 0 rfl) ?_
        obtain ⟨r10, hu11, hf⟩ := bd_s hf
        refine r_goI (r_runV (As := []) (rest := [.int ((M (y + 7) x1.toNatClampNeg) + r7), .int x1, .ref (y + 7)]) hC hP hS (k_X12_places hg hO hu11) cw_X12_64 q_200 q_201 q_202 (Rm.D 0 1 rfl) hO.1 rfl rfl hl.1 rfl (Nat.le_of_ble_eq_true rfl) dX12_goMoons_29) hS (fun H locs hP hS => ?_)
        obtain ⟨hz13, hf⟩ := cz_s hf
        refine lv_irem hx hb dX12_goMoons_32 hz13 ?_
        obtain ⟨hb14, hf⟩ := ck_s hf
        refine r_iast hC hP hS hO.2.2.2.2.2.2.2.1 hb14 dX12_goMoons_33 (fun H locs hP hS => ?_)
        obtain ⟨M15, eM15, hf, hP⟩ := bsM hf hP
        obtain ⟨z16, ez16, hf⟩ := bsJ hf
        refine lv_iinc (v := z16) (lv' := [(1, .int z16), (0, .ref y)]) hx hb dX12_goMoons_34 hl (k := 1) rfl (by rw [ez16]; rfl) (by decide) rfl (fun ls hl => ?_)
        refine lv_goto (tgt := 2) hx hb dX12_goMoons_37 (by decide) ?_
        exact ih z16 M15 _ _ _ hf hP hS (lv_sub hl [1, 0] rfl)
  unfold f_X12_goMoons at hf
  refine lv_iconst (v := (0 : Int32)) hx hb dX12_goMoons_0 (by decide) ?_
  refine lv_istore_n (lv' := [(1, .int (0 : Int32)), (0, .ref y)]) hx hb dX12_goMoons_1 rfl hl (by decide) rfl (fun ls hl => ?_)
  exact L2 _ (0 : Int32) M _ _ _ hf hP hS (lv_sub hl [1, 0] rfl)
