set_option maxRecDepth 100000 in
set_option maxHeartbeats 4000000 in
theorem k_X11_isPlace {g : Ev} {l : Launch} (hg : g.2.1.Nodup) {x : Nat} (hO : oTop g x) {M : Mm} {N : Ml} {p0 : Int32} {v : Int32} (hf : f_X11_isPlace x p0 M = some v) : KM g l yX11_isPlace cX11_isPlace 2 (some .boolean) 1 [.ref x, .int p0] M N (QI g v M N) := by
  refine KM.mk hg (by decide) (Nat.le_of_ble_eq_true rfl) ?_
  intro p e s m below meth c ls hC hr hlk hl hP hS
  have hx := hC.1
  have hb := hC.2.1
  have hl : lv_has ls 2 [(0, .ref x), (1, .int p0)] := hl
  unfold f_X11_isPlace at hf
  refine lv_iload_n hx hb dX11_isPlace_0 rfl (lv_at hl 1 rfl) ?_
  refine lv_iconst (v := (0 : Int32)) hx hb dX11_isPlace_1 (by decide) ?_
  refine lv_aload_n hx hb dX11_isPlace_2 rfl (lv_at hl 0 rfl) ?_
  refine r_getR hC hP hO.1 fl_X11_27 rfl dX11_isPlace_3 ?_
  refine r_getR hC hP hO.2.1.1 fl_X11_43 rfl dX11_isPlace_6 ?_
  refine r_getI hC hP hO.2.1.2.1.1 fl_X11_92 rfl dX11_isPlace_9 ?_
  refine lv_iconst (v := (1 : Int32)) hx hb dX11_isPlace_12 (by decide) ?_
  refine lv_isub hx hb dX11_isPlace_13 ?_
  obtain ⟨r1, hu2, hf⟩ := bd_s hf
  refine r_goI (r_runS (As := [.int p0, .int (0 : Int32), .int ((M (x + 7 + 1) 9) - (1 : Int32))]) (rest := []) hC hP hS (k_X11_isWithin hg hu2) cw_X11_84 q_175 q_176 (Rm.D 0 1 rfl) rfl hl.1 rfl (Nat.le_of_ble_eq_true rfl) dX11_isPlace_14) hS (fun H locs hP hS => ?_)
  obtain ⟨hn4, hf⟩ := cb_s hf
  exact e_Z hC hr hlk hn4 hP hS dX11_isPlace_17 hf
set_option maxRecDepth 100000 in
set_option maxHeartbeats 4000000 in
theorem k_X11_loss {g : Ev} {l : Launch} (hg : g.2.1.Nodup) {x : Nat} (hO : oTop g x) {M : Mm} {N : Ml} {p0 : Int32} {v : Int32} {MR : Mm} (hf : f_X11_loss x p0 M = some (v, MR)) : KM g l yX11_loss cX11_loss 2 (some .int) 6 [.ref x, .int p0] M N (QI g v MR N) := by
  refine KM.mk hg (by decide) (Nat.le_of_ble_eq_true rfl) ?_
  intro p e s m below meth c ls hC hr hlk hl hP hS
  have hx := hC.1
  have hb := hC.2.1
  have hl : lv_has ls 2 [(0, .ref x), (1, .int p0)] := hl
  unfold f_X11_loss at hf
  refine lv_iload_n hx hb dX11_loss_0 rfl (lv_at hl 1 rfl) ?_
  obtain ⟨r1, hu2, hf⟩ := bd_s hf
  refine r_goI (r_runS (As := [.int p0]) (rest := []) hC hP hS (k_X11_isRounds hg hu2) cw_X11_164 q_646 q_647 (Rm.D 1 6 rfl) rfl hl.1 rfl (Nat.le_of_ble_eq_true rfl) dX11_loss_1) hS (fun H locs hP hS => ?_)
  refine lv_if_ne (tgt := 15) hx hb dX11_loss_4 (by decide) (fun c4 => ?_) (fun c4 => ?_)
  · have hf := if_f c4 hf
    refine lv_aload_n hx hb dX11_loss_15 rfl (lv_at hl 0 rfl) ?_
    refine r_getR hC hP hO.1 fl_X11_53 rfl dX11_loss_16 ?_
    refine lv_iload_n hx hb dX11_loss_19 rfl (lv_at hl 1 rfl) ?_
    obtain ⟨r5, M7, hu6, hf⟩ := bd2_s hf
    refine r_goI (r_runV (As := [.int p0]) (rest := []) hC hP hS (k_X0_lossIn hg hO.2.2.2.2.2.1 hu6) cw_X11_186 q_702 q_703 q_704 (Rm.D 5 6 rfl) hO.2.2.2.2.2.1.1 rfl rfl hl.1 rfl (Nat.le_of_ble_eq_true rfl) dX11_loss_20) hS (fun H locs hP hS => ?_)
    exact e_IM hC hr hlk hP hS dX11_loss_23 hf
  · have hf := if_t c4 hf
    refine lv_aload_n hx hb dX11_loss_7 rfl (lv_at hl 0 rfl) ?_
    refine lv_iconst (v := (0 : Int32)) hx hb dX11_loss_8 (by decide) ?_
    refine lv_bipush (v := (-2 : Int32)) hx hb dX11_loss_9 (by decide) ?_
    obtain ⟨r8, M10, hu9, hf⟩ := bd2_s hf
    refine r_goI (r_runV (As := [.int (0 : Int32), .int (-2 : Int32)]) (rest := []) hC hP hS (k_X11_refuse hg hO hu9) cw_X11_88 q_178 q_179 q_180 (Rm.D 0 6 rfl) hO.1 rfl rfl hl.1 rfl (Nat.le_of_ble_eq_true rfl) dX11_loss_11) hS (fun H locs hP hS => ?_)
    exact e_IM hC hr hlk hP hS dX11_loss_14 hf
set_option maxRecDepth 100000 in
set_option maxHeartbeats 4000000 in
theorem k_X5_setLumps {g : Ev} {l : Launch} (hg : g.2.1.Nodup) {kd : Nat} {a : Nat} (hO : oRing g kd a) {M : Mm} {N : Ml} {p0 : Int32} {p1 : Int32} {p2 : Int32} {MR : Mm} (hf : f_X5_setLumps a p0 p1 p2 M = some MR) : KM g l yX5_setLumps cX5_setLumps 4 none 1 [.ref a, .int p0, .int p1, .int p2] M N (QV g MR N) := by
  refine KM.mk hg (by decide) (Nat.le_of_ble_eq_true rfl) ?_
  intro p e s m below meth c ls hC hr hlk hl hP hS
  have hx := hC.1
  have hb := hC.2.1
  have hl : lv_has ls 4 [(0, .ref a), (1, .int p0), (2, .int p1), (3, .int p2)] := hl
  unfold f_X5_setLumps at hf
  refine lv_aload_n hx hb dX5_setLumps_0 rfl (lv_at hl 0 rfl) ?_
  refine r_getR hC hP hO.1 fl_X5_22 rfl dX5_setLumps_1 ?_
  refine lv_aload_n hx hb dX5_setLumps_4 rfl (lv_at hl 0 rfl) ?_
  refine lv_iload_n hx hb dX5_setLumps_5 rfl (lv_at hl 1 rfl) ?_
  refine lv_iload_n hx hb dX5_setLumps_6 rfl (lv_at hl 2 rfl) ?_
  obtain ⟨r1, hu2, hf⟩ := bd_s hf
  refine r_goI (r_runV (As := [.int p0, .int p1]) (rest := [.ref (a + 3)]) hC hP hS (k_X5_seat hg hO hu2) cw_X5_73 q_232 q_233 q_234 (Rm.D 0 1 rfl) hO.1 rfl rfl hl.1 rfl (Nat.le_of_ble_eq_true rfl) dX5_setLumps_7) hS (fun H locs hP hS => ?_)
  refine lv_iload_n hx hb dX5_setLumps_10 rfl (lv_at hl 3 rfl) ?_
  obtain ⟨hb4, hf⟩ := ck_s hf
  refine r_iast hC hP hS hO.2.2.2.1 hb4 dX5_setLumps_11 (fun H locs hP hS => ?_)
  obtain ⟨M5, eM5, hf, hP⟩ := bsM hf hP
  exact e_VM hC hr hlk hP hS dX5_setLumps_12 hf
set_option maxRecDepth 100000 in
set_option maxHeartbeats 4000000 in
theorem k_X11_lumps {g : Ev} {l : Launch} (hg : g.2.1.Nodup) {x : Nat} (hO : oTop g x) {M : Mm} {N : Ml} {p0 : Int32} {p1 : Int32} {p2 : Int32} {v : Int32} {MR : Mm} (hf : f_X11_lumps x p0 p1 p2 M = some (v, MR)) : KM g l yX11_lumps cX11_lumps 5 (some .int) 2 [.ref x, .int p0, .int p1, .int p2] M N (QI g v MR N) := by
  refine KM.mk hg (by decide) (Nat.le_of_ble_eq_true rfl) ?_
  intro p e s m below meth c ls hC hr hlk hl hP hS
  have hx := hC.1
  have hb := hC.2.1
  have hl : lv_has ls 5 [(0, .ref x), (1, .int p0), (2, .int p1), (3, .int p2)] := hl
  have J26 : ∀ (M : Mm) (H : Heap) (locs : List Loc) (ls : Array Slot), f_X11_lumps_J26 x M = some (v, MR) → wP g M N H → va_S (wA g) s.heap H locs → lv_has ls 5 [(0, .ref x)] → W p l e (rmD 2) s m ([.ref x, .int p0, .int p1, .int p2] : List Value).toArray below meth c H locs 0 0 (MQ below (QI g v MR N) ([.ref x, .int p0, .int p1, .int p2] : List Value).toArray s 0 0 (wA g)) (F0 m 26 ls []) := by
    intro M H locs ls hf hP hS hl
    unfold f_X11_lumps_J26 at hf
    refine lv_aload_n hx hb dX11_lumps_26 rfl (lv_at hl 0 rfl) ?_
    refine lv_iconst (v := (0 : Int32)) hx hb dX11_lumps_27 (by decide) ?_
    refine lv_bipush (v := (-2 : Int32)) hx hb dX11_lumps_28 (by decide) ?_
    obtain ⟨r5, M7, hu6, hf⟩ := bd2_s hf
    refine r_goI (r_runV (As := [.int (0 : Int32), .int (-2 : Int32)]) (rest := []) hC hP hS (k_X11_refuse hg hO hu6) cw_X11_88 q_178 q_179 q_180 (Rm.D 0 2 rfl) hO.1 rfl rfl hl.1 rfl (Nat.le_of_ble_eq_true rfl) dX11_lumps_30) hS (fun H locs hP hS => ?_)
    exact e_IM hC hr hlk hP hS dX11_lumps_33 hf
  unfold f_X11_lumps at hf
  refine lv_iload_n hx hb dX11_lumps_0 rfl (lv_at hl 1 rfl) ?_
  obtain ⟨r1, hu2, hf⟩ := bd_s hf
  refine r_goI (r_runS (As := [.int p0]) (rest := []) hC hP hS (k_X11_isLane hg hu2) cw_X11_103 q_209 q_210 (Rm.D 0 2 rfl) rfl hl.1 rfl (Nat.le_of_ble_eq_true rfl) dX11_lumps_1) hS (fun H locs hP hS => ?_)
  refine lv_if_eq (tgt := 26) hx hb dX11_lumps_4 (by decide) (fun c4 => ?_) (fun c4 => ?_)
  · have hf := if_t c4 hf
    exact J26 M _ _ _ hf hP hS (lv_sub hl [0] rfl)
  · have hf := if_f c4 hf
    refine lv_aload_n hx hb dX11_lumps_7 rfl (lv_at hl 0 rfl) ?_
    refine lv_iload_n hx hb dX11_lumps_8 rfl (lv_at hl 2 rfl) ?_
    obtain ⟨r8, hu9, hf⟩ := bd_s hf
    refine r_goI (r_runV (As := [.int p1]) (rest := []) hC hP hS (k_X11_isPlace hg hO hu9) cw_X11_110 q_224 q_225 q_226 (Rm.D 1 2 rfl) hO.1 rfl rfl hl.1 rfl (Nat.le_of_ble_eq_true rfl) dX11_lumps_9) hS (fun H locs hP hS => ?_)
    refine lv_if_eq (tgt := 26) hx hb dX11_lumps_12 (by decide) (fun c11 => ?_) (fun c11 => ?_)
    · have hf := if_t c11 hf
      exact J26 M _ _ _ hf hP hS (lv_sub hl [0] rfl)
    · have hf := if_f c11 hf
      refine lv_iload_n hx hb dX11_lumps_15 rfl (lv_at hl 3 rfl) ?_
      refine lv_iconst (v := (0 : Int32)) hx hb dX11_lumps_16 (by decide) ?_
      refine lv_sipush (v := (999 : Int32)) hx hb dX11_lumps_17 (by decide) ?_
      obtain ⟨r12, hu13, hf⟩ := bd_s hf
      refine r_goI (r_runS (As := [.int p2, .int (0 : Int32), .int (999 : Int32)]) (rest := []) hC hP hS (k_X11_isWithin hg hu13) cw_X11_84 q_175 q_176 (Rm.D 0 2 rfl) rfl hl.1 rfl (Nat.le_of_ble_eq_true rfl) dX11_lumps_20) hS (fun H locs hP hS => ?_)
      refine lv_if_ne (tgt := 34) hx hb dX11_lumps_23 (by decide) (fun c15 => ?_) (fun c15 => ?_)
      · have hf := if_f c15 hf
        refine lv_aload_n hx hb dX11_lumps_34 rfl (lv_at hl 0 rfl) ?_
        refine r_getR hC hP hO.1 fl_X11_27 rfl dX11_lumps_35 ?_
        refine r_getR hC hP hO.2.1.1 fl_X11_43 rfl dX11_lumps_38 ?_
        refine lv_iload_n hx hb dX11_lumps_41 rfl (lv_at hl 1 rfl) ?_
        refine lv_iload_n hx hb dX11_lumps_42 rfl (lv_at hl 2 rfl) ?_
        obtain ⟨r16, hu17, hf⟩ := bd_s hf
        refine r_goI (r_runV (As := [.int p0, .int p1]) (rest := []) hC hP hS (k_X5_lumpsAt hg hO.2.1.2.1 hu17) cw_X11_113 q_228 q_229 q_230 (Rm.D 1 2 rfl) hO.2.1.2.1.1 rfl rfl hl.1 rfl (Nat.le_of_ble_eq_true rfl) dX11_lumps_43) hS (fun H locs hP hS => ?_)
        refine lv_istore (lv' := [(4, .int r16), (0, .ref x), (1, .int p0), (2, .int p1), (3, .int p2)]) hx hb dX11_lumps_46 hl (by decide) rfl (fun ls hl => ?_)
        refine lv_aload_n hx hb dX11_lumps_48 rfl (lv_at hl 1 rfl) ?_
        refine r_getR hC hP hO.1 fl_X11_27 rfl dX11_lumps_49 ?_
        refine r_getR hC hP hO.2.1.1 fl_X11_43 rfl dX11_lumps_52 ?_
        refine lv_iload_n hx hb dX11_lumps_55 rfl (lv_at hl 2 rfl) ?_
        refine lv_iload_n hx hb dX11_lumps_56 rfl (lv_at hl 3 rfl) ?_
        refine lv_iload_n hx hb dX11_lumps_57 rfl (lv_at hl 4 rfl) ?_
        obtain ⟨M21, hu20, hf⟩ := bd_s hf
        refine r_goV (r_runV (As := [.int p0, .int p1, .int p2]) (rest := []) hC hP hS (k_X5_setLumps hg hO.2.1.2.1 hu20) cw_X11_116 q_236 q_237 q_238 (Rm.D 1 2 rfl) hO.2.1.2.1.1 rfl rfl hl.1 rfl (Nat.le_of_ble_eq_true rfl) dX11_lumps_58) hS (fun H locs hP hS => ?_)
        refine lv_iload hx hb dX11_lumps_61 (lv_at hl 0 rfl) ?_
        exact e_IM hC hr hlk hP hS dX11_lumps_63 hf
      · have hf := if_t c15 hf
        exact J26 M _ _ _ hf hP hS (lv_sub hl [0] rfl)
set_option maxRecDepth 100000 in
set_option maxHeartbeats 4000000 in
theorem k_X11_moon {g : Ev} {l : Launch} (hg : g.2.1.Nodup) {x : Nat} (hO : oTop g x) {M : Mm} {N : Ml} {p0 : Int32} {p1 : Int32} {p2 : Int32} {p3 : Int32} {v : Int32} {MR : Mm} (hf : f_X11_moon x p0 p1 p2 p3 M = some (v, MR)) : KM g l yX11_moon cX11_moon 5 (some .int) 2 [.ref x, .int p0, .int p1, .int p2, .int p3] M N (QI g v MR N) := by
  refine KM.mk hg (by decide) (Nat.le_of_ble_eq_true rfl) ?_
  intro p e s m below meth c ls hC hr hlk hl hP hS
  have hx := hC.1
  have hb := hC.2.1
  have hl : lv_has ls 5 [(0, .ref x), (1, .int p0), (2, .int p1), (3, .int p2), (4, .int p3)] := hl
  have J37 : ∀ (M : Mm) (H : Heap) (locs : List Loc) (ls : Array Slot), f_X11_moon_J37 x M = some (v, MR) → wP g M N H → va_S (wA g) s.heap H locs → lv_has ls 5 [(0, .ref x)] → W p l e (rmD 2) s m ([.ref x, .int p0, .int p1, .int p2, .int p3] : List Value).toArray below meth c H locs 0 0 (MQ below (QI g v MR N) ([.ref x, .int p0, .int p1, .int p2, .int p3] : List Value).toArray s 0 0 (wA g)) (F0 m 37 ls []) := by
    intro M H locs ls hf hP hS hl
    unfold f_X11_moon_J37 at hf
    refine lv_aload_n hx hb dX11_moon_37 rfl (lv_at hl 0 rfl) ?_
    refine lv_iconst (v := (0 : Int32)) hx hb dX11_moon_38 (by decide) ?_
    refine lv_bipush (v := (-2 : Int32)) hx hb dX11_moon_39 (by decide) ?_
    obtain ⟨r5, M7, hu6, hf⟩ := bd2_s hf
    refine r_goI (r_runV (As := [.int (0 : Int32), .int (-2 : Int32)]) (rest := []) hC hP hS (k_X11_refuse hg hO hu6) cw_X11_88 q_178 q_179 q_180 (Rm.D 0 2 rfl) hO.1 rfl rfl hl.1 rfl (Nat.le_of_ble_eq_true rfl) dX11_moon_41) hS (fun H locs hP hS => ?_)
    exact e_IM hC hr hlk hP hS dX11_moon_44 hf
  unfold f_X11_moon at hf
  refine lv_iload_n hx hb dX11_moon_0 rfl (lv_at hl 1 rfl) ?_
  refine lv_iconst (v := (0 : Int32)) hx hb dX11_moon_1 (by decide) ?_
  refine lv_iconst (v := (4 : Int32)) hx hb dX11_moon_2 (by decide) ?_
  obtain ⟨r1, hu2, hf⟩ := bd_s hf
  refine r_goI (r_runS (As := [.int p0, .int (0 : Int32), .int (4 : Int32)]) (rest := []) hC hP hS (k_X11_isWithin hg hu2) cw_X11_84 q_175 q_176 (Rm.D 0 2 rfl) rfl hl.1 rfl (Nat.le_of_ble_eq_true rfl) dX11_moon_3) hS (fun H locs hP hS => ?_)
  refine lv_if_eq (tgt := 37) hx hb dX11_moon_6 (by decide) (fun c4 => ?_) (fun c4 => ?_)
  · have hf := if_t c4 hf
    exact J37 M _ _ _ hf hP hS (lv_sub hl [0] rfl)
  · have hf := if_f c4 hf
    refine lv_iload_n hx hb dX11_moon_9 rfl (lv_at hl 2 rfl) ?_
    refine lv_iconst (v := (0 : Int32)) hx hb dX11_moon_10 (by decide) ?_
    refine lv_iconst (v := (5 : Int32)) hx hb dX11_moon_11 (by decide) ?_
    obtain ⟨r8, hu9, hf⟩ := bd_s hf
    refine r_goI (r_runS (As := [.int p1, .int (0 : Int32), .int (5 : Int32)]) (rest := []) hC hP hS (k_X11_isWithin hg hu9) cw_X11_84 q_175 q_176 (Rm.D 0 2 rfl) rfl hl.1 rfl (Nat.le_of_ble_eq_true rfl) dX11_moon_12) hS (fun H locs hP hS => ?_)
    refine lv_if_eq (tgt := 37) hx hb dX11_moon_15 (by decide) (fun c11 => ?_) (fun c11 => ?_)
    · have hf := if_t c11 hf
      exact J37 M _ _ _ hf hP hS (lv_sub hl [0] rfl)
    · have hf := if_f c11 hf
      refine lv_aload_n hx hb dX11_moon_18 rfl (lv_at hl 0 rfl) ?_
      refine lv_iload_n hx hb dX11_moon_19 rfl (lv_at hl 3 rfl) ?_
      obtain ⟨r12, hu13, hf⟩ := bd_s hf
      refine r_goI (r_runV (As := [.int p2]) (rest := []) hC hP hS (k_X11_isPlace hg hO hu13) cw_X11_110 q_224 q_225 q_226 (Rm.D 1 2 rfl) hO.1 rfl rfl hl.1 rfl (Nat.le_of_ble_eq_true rfl) dX11_moon_20) hS (fun H locs hP hS => ?_)
      refine lv_if_eq (tgt := 37) hx hb dX11_moon_23 (by decide) (fun c15 => ?_) (fun c15 => ?_)
      · have hf := if_t c15 hf
        exact J37 M _ _ _ hf hP hS (lv_sub hl [0] rfl)
      · have hf := if_f c15 hf
        refine lv_iload hx hb dX11_moon_26 (lv_at hl 4 rfl) ?_
        refine lv_iconst (v := (0 : Int32)) hx hb dX11_moon_28 (by decide) ?_
        refine lv_bipush (v := (9 : Int32)) hx hb dX11_moon_29 (by decide) ?_
        obtain ⟨r16, hu17, hf⟩ := bd_s hf
        refine r_goI (r_runS (As := [.int p3, .int (0 : Int32), .int (9 : Int32)]) (rest := []) hC hP hS (k_X11_isWithin hg hu17) cw_X11_84 q_175 q_176 (Rm.D 0 2 rfl) rfl hl.1 rfl (Nat.le_of_ble_eq_true rfl) dX11_moon_31) hS (fun H locs hP hS => ?_)
        refine lv_if_ne (tgt := 45) hx hb dX11_moon_34 (by decide) (fun c19 => ?_) (fun c19 => ?_)
        · have hf := if_f c19 hf
          refine lv_aload_n hx hb dX11_moon_45 rfl (lv_at hl 0 rfl) ?_
          refine r_getR hC hP hO.1 fl_X11_27 rfl dX11_moon_46 ?_
          refine r_getR hC hP hO.2.1.1 fl_X11_43 rfl dX11_moon_49 ?_
          refine r_getI hC hP hO.2.1.2.1.1 fl_X11_120 rfl dX11_moon_52 ?_
          refine lv_iconst (v := (4 : Int32)) hx hb dX11_moon_55 (by decide) ?_
          refine lv_icmp_lt (tgt := 67) hx hb dX11_moon_56 (by decide) (fun c20 => ?_) (fun c20 => ?_)
          · have hf := if_t c20 hf
            refine lv_aload_n hx hb dX11_moon_67 rfl (lv_at hl 0 rfl) ?_
            refine r_getR hC hP hO.1 fl_X11_27 rfl dX11_moon_68 ?_
            refine r_getR hC hP hO.2.1.1 fl_X11_43 rfl dX11_moon_71 ?_
            refine lv_iload_n hx hb dX11_moon_74 rfl (lv_at hl 1 rfl) ?_
            refine lv_iload_n hx hb dX11_moon_75 rfl (lv_at hl 2 rfl) ?_
            refine lv_iload_n hx hb dX11_moon_76 rfl (lv_at hl 3 rfl) ?_
            refine lv_iload hx hb dX11_moon_77 (lv_at hl 4 rfl) ?_
            obtain ⟨r21, M23, hu22, hf⟩ := bd2_s hf
            refine r_goI (r_runV (As := [.int p0, .int p1, .int p2, .int p3]) (rest := []) hC hP hS (k_X5_addMoon hg hO.2.1.2.1 hu22) cw_X11_123 q_254 q_255 q_256 (Rm.D 0 2 rfl) hO.2.1.2.1.1 rfl rfl hl.1 rfl (Nat.le_of_ble_eq_true rfl) dX11_moon_79) hS (fun H locs hP hS => ?_)
            exact e_IM hC hr hlk hP hS dX11_moon_82 hf
          · have hf := if_f c20 hf
            refine lv_aload_n hx hb dX11_moon_59 rfl (lv_at hl 0 rfl) ?_
            refine lv_iconst (v := (2 : Int32)) hx hb dX11_moon_60 (by decide) ?_
            refine lv_bipush (v := (-4 : Int32)) hx hb dX11_moon_61 (by decide) ?_
            obtain ⟨r24, M26, hu25, hf⟩ := bd2_s hf
            refine r_goI (r_runV (As := [.int (2 : Int32), .int (-4 : Int32)]) (rest := []) hC hP hS (k_X11_refuse hg hO hu25) cw_X11_88 q_178 q_179 q_180 (Rm.D 0 2 rfl) hO.1 rfl rfl hl.1 rfl (Nat.le_of_ble_eq_true rfl) dX11_moon_63) hS (fun H locs hP hS => ?_)
            exact e_IM hC hr hlk hP hS dX11_moon_66 hf
        · have hf := if_t c19 hf
          exact J37 M _ _ _ hf hP hS (lv_sub hl [0] rfl)
set_option maxRecDepth 100000 in
set_option maxHeartbeats 4000000 in
theorem k_X11_moved {g : Ev} {l : Launch} (hg : g.2.1.Nodup) {x : Nat} (hO : oTop g x) {M : Mm} {N : Ml} {p0 : Int32} {p1 : Int32} {v : Int32} {MR : Mm} (hf : f_X11_moved x p0 p1 M = some (v, MR)) : KM g l yX11_moved cX11_moved 3 (some .int) 6 [.ref x, .int p0, .int p1] M N (QI g v MR N) := by
  refine KM.mk hg (by decide) (Nat.le_of_ble_eq_true rfl) ?_
  intro p e s m below meth c ls hC hr hlk hl hP hS
  have hx := hC.1
  have hb := hC.2.1
  have hl : lv_has ls 3 [(0, .ref x), (1, .int p0), (2, .int p1)] := hl
  have J15 : ∀ (M : Mm) (H : Heap) (locs : List Loc) (ls : Array Slot), f_X11_moved_J15 x M = some (v, MR) → wP g M N H → va_S (wA g) s.heap H locs → lv_has ls 3 [(0, .ref x)] → W p l e (rmD 6) s m ([.ref x, .int p0, .int p1] : List Value).toArray below meth c H locs 0 0 (MQ below (QI g v MR N) ([.ref x, .int p0, .int p1] : List Value).toArray s 0 0 (wA g)) (F0 m 15 ls []) := by
    intro M H locs ls hf hP hS hl
    unfold f_X11_moved_J15 at hf
    refine lv_aload_n hx hb dX11_moved_15 rfl (lv_at hl 0 rfl) ?_
    refine lv_iconst (v := (0 : Int32)) hx hb dX11_moved_16 (by decide) ?_
    refine lv_bipush (v := (-2 : Int32)) hx hb dX11_moved_17 (by decide) ?_
    obtain ⟨r5, M7, hu6, hf⟩ := bd2_s hf
    refine r_goI (r_runV (As := [.int (0 : Int32), .int (-2 : Int32)]) (rest := []) hC hP hS (k_X11_refuse hg hO hu6) cw_X11_88 q_178 q_179 q_180 (Rm.D 0 6 rfl) hO.1 rfl rfl hl.1 rfl (Nat.le_of_ble_eq_true rfl) dX11_moved_19) hS (fun H locs hP hS => ?_)
    exact e_IM hC hr hlk hP hS dX11_moved_22 hf
  unfold f_X11_moved at hf
  refine lv_aload_n hx hb dX11_moved_0 rfl (lv_at hl 0 rfl) ?_
  refine lv_iload_n hx hb dX11_moved_1 rfl (lv_at hl 1 rfl) ?_
  obtain ⟨r1, hu2, hf⟩ := bd_s hf
  refine r_goI (r_runV (As := [.int p0]) (rest := []) hC hP hS (k_X11_isMoon hg hO hu2) cw_X11_158 q_622 q_623 q_624 (Rm.D 1 6 rfl) hO.1 rfl rfl hl.1 rfl (Nat.le_of_ble_eq_true rfl) dX11_moved_2) hS (fun H locs hP hS => ?_)
  refine lv_if_eq (tgt := 15) hx hb dX11_moved_5 (by decide) (fun c4 => ?_) (fun c4 => ?_)
  · have hf := if_t c4 hf
    exact J15 M _ _ _ hf hP hS (lv_sub hl [0] rfl)
  · have hf := if_f c4 hf
    refine lv_iload_n hx hb dX11_moved_8 rfl (lv_at hl 2 rfl) ?_
    obtain ⟨r8, hu9, hf⟩ := bd_s hf
    refine r_goI (r_runS (As := [.int p1]) (rest := []) hC hP hS (k_X11_isRounds hg hu9) cw_X11_164 q_646 q_647 (Rm.D 1 6 rfl) rfl hl.1 rfl (Nat.le_of_ble_eq_true rfl) dX11_moved_9) hS (fun H locs hP hS => ?_)
    refine lv_if_ne (tgt := 23) hx hb dX11_moved_12 (by decide) (fun c11 => ?_) (fun c11 => ?_)
    · have hf := if_f c11 hf
      refine lv_aload_n hx hb dX11_moved_23 rfl (lv_at hl 0 rfl) ?_
      refine r_getR hC hP hO.1 fl_X11_53 rfl dX11_moved_24 ?_
      refine lv_iload_n hx hb dX11_moved_27 rfl (lv_at hl 1 rfl) ?_
      refine lv_iload_n hx hb dX11_moved_28 rfl (lv_at hl 2 rfl) ?_
      obtain ⟨r12, M14, hu13, hf⟩ := bd2_s hf
      refine r_goI (r_runV (As := [.int p0, .int p1]) (rest := []) hC hP hS (k_X0_bestMove hg hO.2.2.2.2.2.1 hu13) cw_X11_192 q_763 q_764 q_765 (Rm.D 5 6 rfl) hO.2.2.2.2.2.1.1 rfl rfl hl.1 rfl (Nat.le_of_ble_eq_true rfl) dX11_moved_29) hS (fun H locs hP hS => ?_)
      exact e_IM hC hr hlk hP hS dX11_moved_32 hf
    · have hf := if_t c11 hf
      exact J15 M _ _ _ hf hP hS (lv_sub hl [0] rfl)
set_option maxRecDepth 100000 in
set_option maxHeartbeats 4000000 in
theorem k_X11_part {g : Ev} {l : Launch} (hg : g.2.1.Nodup) {x : Nat} (hO : oTop g x) {M : Mm} {N : Ml} {p0 : Int32} {v : Int64} {MR : Mm} (hf : f_X11_part x p0 M N = some (v, MR)) : KM g l yX11_part cX11_part 2 (some .long) 1 [.ref x, .int p0] M N (QL g v MR N) := by
  refine KM.mk hg (by decide) (Nat.le_of_ble_eq_true rfl) ?_
  intro p e s m below meth c ls hC hr hlk hl hP hS
  have hx := hC.1
  have hb := hC.2.1
  have hl : lv_has ls 2 [(0, .ref x), (1, .int p0)] := hl
  unfold f_X11_part at hf
  refine lv_iload_n hx hb dX11_part_0 rfl (lv_at hl 1 rfl) ?_
  refine lv_iconst (v := (0 : Int32)) hx hb dX11_part_1 (by decide) ?_
  refine lv_iconst (v := (1 : Int32)) hx hb dX11_part_2 (by decide) ?_
  obtain ⟨r1, hu2, hf⟩ := bd_s hf
  refine r_goI (r_runS (As := [.int p0, .int (0 : Int32), .int (1 : Int32)]) (rest := []) hC hP hS (k_X11_isWithin hg hu2) cw_X11_84 q_175 q_176 (Rm.D 0 1 rfl) rfl hl.1 rfl (Nat.le_of_ble_eq_true rfl) dX11_part_3) hS (fun H locs hP hS => ?_)
  refine lv_if_ne (tgt := 18) hx hb dX11_part_6 (by decide) (fun c4 => ?_) (fun c4 => ?_)
  · have hf := if_f c4 hf
    refine lv_iload_n hx hb dX11_part_18 rfl (lv_at hl 1 rfl) ?_
    refine lv_if_ne (tgt := 29) hx hb dX11_part_19 (by decide) (fun c5 => ?_) (fun c5 => ?_)
    · have hf := if_f c5 hf
      refine lv_aload_n hx hb dX11_part_29 rfl (lv_at hl 0 rfl) ?_
      refine r_getL hC hP hO.1 fl_X11_81 rfl dX11_part_30 ?_
      exact e_LM hC hr hlk hP hS dX11_part_33 hf
    · have hf := if_t c5 hf
      refine lv_aload_n hx hb dX11_part_22 rfl (lv_at hl 0 rfl) ?_
      refine r_getL hC hP hO.1 fl_X11_77 rfl dX11_part_23 ?_
      refine lv_goto (tgt := 33) hx hb dX11_part_26 (by decide) ?_
      exact e_LM hC hr hlk hP hS dX11_part_33 hf
  · have hf := if_t c4 hf
    refine lv_aload_n hx hb dX11_part_9 rfl (lv_at hl 0 rfl) ?_
    refine lv_iconst (v := (0 : Int32)) hx hb dX11_part_10 (by decide) ?_
    refine lv_ldc (v := (-100000 : Int32)) hx hb hC.2.2.2.1 (hC.2.2.2.2.1 _ q_862) dX11_part_11 ?_
    obtain ⟨r6, M8, hu7, hf⟩ := bd2_s hf
    refine r_goI (r_runV (As := [.int (0 : Int32), .int (-100000 : Int32)]) (rest := []) hC hP hS (k_X11_refuse hg hO hu7) cw_X11_88 q_178 q_179 q_180 (Rm.D 0 1 rfl) hO.1 rfl rfl hl.1 rfl (Nat.le_of_ble_eq_true rfl) dX11_part_13) hS (fun H locs hP hS => ?_)
    refine lv_i2l hx hb dX11_part_16 rfl ?_
    exact e_LM hC hr hlk hP hS dX11_part_17 hf
set_option maxRecDepth 100000 in
set_option maxHeartbeats 4000000 in
theorem k_X11_pushes {g : Ev} {l : Launch} (hg : g.2.1.Nodup) {x : Nat} (hO : oTop g x) {M : Mm} {N : Ml} {p0 : Int32} {v : Int32} {MR : Mm} (hf : f_X11_pushes x p0 M = some (v, MR)) : KM g l yX11_pushes cX11_pushes 2 (some .int) 6 [.ref x, .int p0] M N (QI g v MR N) := by
  refine KM.mk hg (by decide) (Nat.le_of_ble_eq_true rfl) ?_
  intro p e s m below meth c ls hC hr hlk hl hP hS
  have hx := hC.1
  have hb := hC.2.1
  have hl : lv_has ls 2 [(0, .ref x), (1, .int p0)] := hl
  unfold f_X11_pushes at hf
  refine lv_iload_n hx hb dX11_pushes_0 rfl (lv_at hl 1 rfl) ?_
  refine lv_iconst (v := (0 : Int32)) hx hb dX11_pushes_1 (by decide) ?_
  refine lv_bipush (v := (12 : Int32)) hx hb dX11_pushes_2 (by decide) ?_
  obtain ⟨r1, hu2, hf⟩ := bd_s hf
  refine r_goI (r_runS (As := [.int p0, .int (0 : Int32), .int (12 : Int32)]) (rest := []) hC hP hS (k_X11_isWithin hg hu2) cw_X11_84 q_175 q_176 (Rm.D 0 6 rfl) rfl hl.1 rfl (Nat.le_of_ble_eq_true rfl) dX11_pushes_4) hS (fun H locs hP hS => ?_)
  refine lv_if_ne (tgt := 18) hx hb dX11_pushes_7 (by decide) (fun c4 => ?_) (fun c4 => ?_)
  · have hf := if_f c4 hf
    refine lv_aload_n hx hb dX11_pushes_18 rfl (lv_at hl 0 rfl) ?_
    refine r_getR hC hP hO.1 fl_X11_53 rfl dX11_pushes_19 ?_
    refine lv_iload_n hx hb dX11_pushes_22 rfl (lv_at hl 1 rfl) ?_
    obtain ⟨r5, M7, hu6, hf⟩ := bd2_s hf
    refine r_goI (r_runV (As := [.int p0]) (rest := []) hC hP hS (k_X0_fewestPushes hg hO.2.2.2.2.2.1 hu6) cw_X11_189 q_724 q_725 q_726 (Rm.D 5 6 rfl) hO.2.2.2.2.2.1.1 rfl rfl hl.1 rfl (Nat.le_of_ble_eq_true rfl) dX11_pushes_23) hS (fun H locs hP hS => ?_)
    exact e_IM hC hr hlk hP hS dX11_pushes_26 hf
  · have hf := if_t c4 hf
    refine lv_aload_n hx hb dX11_pushes_10 rfl (lv_at hl 0 rfl) ?_
    refine lv_iconst (v := (0 : Int32)) hx hb dX11_pushes_11 (by decide) ?_
    refine lv_bipush (v := (-2 : Int32)) hx hb dX11_pushes_12 (by decide) ?_
    obtain ⟨r8, M10, hu9, hf⟩ := bd2_s hf
    refine r_goI (r_runV (As := [.int (0 : Int32), .int (-2 : Int32)]) (rest := []) hC hP hS (k_X11_refuse hg hO hu9) cw_X11_88 q_178 q_179 q_180 (Rm.D 0 6 rfl) hO.1 rfl rfl hl.1 rfl (Nat.le_of_ble_eq_true rfl) dX11_pushes_14) hS (fun H locs hP hS => ?_)
    exact e_IM hC hr hlk hP hS dX11_pushes_17 hf
set_option maxRecDepth 100000 in
set_option maxHeartbeats 4000000 in
theorem k_X9_rewind {g : Ev} {l : Launch} (hg : g.2.1.Nodup) {t : Nat} (hO : oText g t) {M : Mm} {N : Ml}  {MR : Mm} (hf : f_X9_rewind t M = some MR) : KM g l yX9_rewind cX9_rewind 1 none 0 [.ref t] M N (QV g MR N) := by
  refine KM.mk hg (by decide) (Nat.le_of_ble_eq_true rfl) ?_
  intro p e s m below meth c ls hC hr hlk hl hP hS
  have hx := hC.1
  have hb := hC.2.1
  have hl : lv_has ls 1 [(0, .ref t)] := hl
  unfold f_X9_rewind at hf
  refine lv_aload_n hx hb dX9_rewind_0 rfl (lv_at hl 0 rfl) ?_
  refine lv_iconst (v := (0 : Int32)) hx hb dX9_rewind_1 (by decide) ?_
  refine r_putI hC hP hS hO.1 fl_X9_24 tyX9 tyX9_ok nmX9 rfl rfl rfl dX9_rewind_2 (fun H locs hP hS => ?_)
  obtain ⟨M1, eM1, hf, hP⟩ := bsM hf hP
  refine lv_aload_n hx hb dX9_rewind_5 rfl (lv_at hl 0 rfl) ?_
  refine lv_iconst (v := (0 : Int32)) hx hb dX9_rewind_6 (by decide) ?_
  refine r_putI hC hP hS hO.1 fl_X9_27 tyX9 tyX9_ok nmX9 rfl rfl rfl dX9_rewind_7 (fun H locs hP hS => ?_)
  obtain ⟨M2, eM2, hf, hP⟩ := bsM hf hP
  refine lv_aload_n hx hb dX9_rewind_10 rfl (lv_at hl 0 rfl) ?_
  refine lv_iconst (v := (0 : Int32)) hx hb dX9_rewind_11 (by decide) ?_
  refine r_putI hC hP hS hO.1 fl_X9_30 tyX9 tyX9_ok nmX9 rfl rfl rfl dX9_rewind_12 (fun H locs hP hS => ?_)
  obtain ⟨M3, eM3, hf, hP⟩ := bsM hf hP
  exact e_VM hC hr hlk hP hS dX9_rewind_15 hf
set_option maxRecDepth 100000 in
set_option maxHeartbeats 4000000 in
theorem k_X9_begunBy {g : Ev} {l : Launch} (hg : g.2.1.Nodup)   {M : Mm} {N : Ml} {p0 : Int32} {v : Int32} (hf : f_X9_begunBy p0 M = some v) : KM g l yX9_begunBy cX9_begunBy 1 (some .int) 0 [.int p0] M N (QI g v M N) := by
  refine KM.mk hg (by decide) (Nat.le_of_ble_eq_true rfl) ?_
  intro p e s m below meth c ls hC hr hlk hl hP hS
  have hx := hC.1
  have hb := hC.2.1
  have hl : lv_has ls 1 [(0, .int p0)] := hl
  have J28 : ∀ (x0 : Int32) (H : Heap) (locs : List Loc) (ls : Array Slot), f_X9_begunBy_J28 M x0 = some v → wP g M N H → va_S (wA g) s.heap H locs → lv_has ls 1 [(0, .int x0)] → W p l e (rmD 0) s m ([.int p0] : List Value).toArray below meth c H locs 0 0 (MQ below (QI g v M N) ([.int p0] : List Value).toArray s 0 0 (wA g)) (F0 m 28 ls []) := by
    intro x0 H locs ls hf hP hS hl
    unfold f_X9_begunBy_J28 at hf
    refine lv_iload_n hx hb dX9_begunBy_28 rfl (lv_at hl 0 rfl) ?_
    refine lv_bipush (v := (59 : Int32)) hx hb dX9_begunBy_29 (by decide) ?_
    refine lv_icmp_ne (tgt := 38) hx hb dX9_begunBy_31 (by decide) (fun c3 => ?_) (fun c3 => ?_)
    · have hf := if_f c3 hf
      refine lv_iconst (v := (4 : Int32)) hx hb dX9_begunBy_38 (by decide) ?_
      exact e_I hC hr hlk hP hS dX9_begunBy_39 hf
    · have hf := if_t c3 hf
      refine lv_iconst (v := (3 : Int32)) hx hb dX9_begunBy_34 (by decide) ?_
      refine lv_goto (tgt := 39) hx hb dX9_begunBy_35 (by decide) ?_
      exact e_I hC hr hlk hP hS dX9_begunBy_39 hf
  have J14 : ∀ (x0 : Int32) (H : Heap) (locs : List Loc) (ls : Array Slot), f_X9_begunBy_J14 M x0 = some v → wP g M N H → va_S (wA g) s.heap H locs → lv_has ls 1 [(0, .int x0)] → W p l e (rmD 0) s m ([.int p0] : List Value).toArray below meth c H locs 0 0 (MQ below (QI g v M N) ([.int p0] : List Value).toArray s 0 0 (wA g)) (F0 m 14 ls []) := by
    intro x0 H locs ls hf hP hS hl
    unfold f_X9_begunBy_J14 at hf
    refine lv_iload_n hx hb dX9_begunBy_14 rfl (lv_at hl 0 rfl) ?_
    refine lv_bipush (v := (48 : Int32)) hx hb dX9_begunBy_15 (by decide) ?_
    refine lv_icmp_lt (tgt := 28) hx hb dX9_begunBy_17 (by decide) (fun c2 => ?_) (fun c2 => ?_)
    · have hf := if_t c2 hf
      exact J28 x0 _ _ _ hf hP hS (lv_sub hl [0] rfl)
    · have hf := if_f c2 hf
      refine lv_iload_n hx hb dX9_begunBy_20 rfl (lv_at hl 0 rfl) ?_
      refine lv_bipush (v := (57 : Int32)) hx hb dX9_begunBy_21 (by decide) ?_
      refine lv_icmp_gt (tgt := 28) hx hb dX9_begunBy_23 (by decide) (fun c4 => ?_) (fun c4 => ?_)
      · have hf := if_t c4 hf
        exact J28 x0 _ _ _ hf hP hS (lv_sub hl [0] rfl)
      · have hf := if_f c4 hf
        refine lv_iconst (v := (2 : Int32)) hx hb dX9_begunBy_26 (by decide) ?_
        exact e_I hC hr hlk hP hS dX9_begunBy_27 hf
  unfold f_X9_begunBy at hf
  refine lv_iload_n hx hb dX9_begunBy_0 rfl (lv_at hl 0 rfl) ?_
  refine lv_bipush (v := (97 : Int32)) hx hb dX9_begunBy_1 (by decide) ?_
  refine lv_icmp_lt (tgt := 14) hx hb dX9_begunBy_3 (by decide) (fun c1 => ?_) (fun c1 => ?_)
  · have hf := if_t c1 hf
    exact J14 p0 _ _ _ hf hP hS (lv_sub hl [0] rfl)
  · have hf := if_f c1 hf
    refine lv_iload_n hx hb dX9_begunBy_6 rfl (lv_at hl 0 rfl) ?_
    refine lv_bipush (v := (122 : Int32)) hx hb dX9_begunBy_7 (by decide) ?_
    refine lv_icmp_gt (tgt := 14) hx hb dX9_begunBy_9 (by decide) (fun c5 => ?_) (fun c5 => ?_)
    · have hf := if_t c5 hf
      exact J14 p0 _ _ _ hf hP hS (lv_sub hl [0] rfl)
    · have hf := if_f c5 hf
      refine lv_iconst (v := (1 : Int32)) hx hb dX9_begunBy_12 (by decide) ?_
      exact e_I hC hr hlk hP hS dX9_begunBy_13 hf
set_option maxRecDepth 100000 in
set_option maxHeartbeats 4000000 in
theorem k_X9_nextToken {g : Ev} {l : Launch} (hg : g.2.1.Nodup) {t : Nat} (hO : oText g t) {M : Mm} {N : Ml}  {MR : Mm} (hf : f_X9_nextToken t M = some MR) : KM g l yX9_nextToken cX9_nextToken 1 none 1 [.ref t] M N (QV g MR N) := by
  refine KM.mk hg (by decide) (Nat.le_of_ble_eq_true rfl) ?_
  intro p e s m below meth c ls hC hr hlk hl hP hS
  have hx := hC.1
  have hb := hC.2.1
  have hl : lv_has ls 1 [(0, .ref t)] := hl
  have J155 : ∀ (M : Mm) (H : Heap) (locs : List Loc) (ls : Array Slot), f_X9_nextToken_J155 t M = some MR → wP g M N H → va_S (wA g) s.heap H locs → lv_has ls 1 [(0, .ref t)] → W p l e (rmD 1) s m ([.ref t] : List Value).toArray below meth c H locs 0 0 (MQ below (QV g MR N) ([.ref t] : List Value).toArray s 0 0 (wA g)) (F0 m 155 ls []) := by
    intro M H locs ls hf hP hS hl
    unfold f_X9_nextToken_J155 at hf
    refine lv_aload_n hx hb dX9_nextToken_155 rfl (lv_at hl 0 rfl) ?_
    refine r_getI hC hP hO.1 fl_X9_24 rfl dX9_nextToken_156 ?_
    refine lv_iconst (v := (2 : Int32)) hx hb dX9_nextToken_159 (by decide) ?_
    refine lv_icmp_ne (tgt := 181) hx hb dX9_nextToken_160 (by decide) (fun c8 => ?_) (fun c8 => ?_)
    · have hf := if_f c8 hf
      exact e_VM hC hr hlk hP hS dX9_nextToken_181 hf
    · have hf := if_t c8 hf
      refine lv_aload_n hx hb dX9_nextToken_163 rfl (lv_at hl 0 rfl) ?_
      refine r_getI hC hP hO.1 fl_X9_30 rfl dX9_nextToken_164 ?_
      refine lv_aload_n hx hb dX9_nextToken_167 rfl (lv_at hl 0 rfl) ?_
      refine r_getI hC hP hO.1 fl_X9_27 rfl dX9_nextToken_168 ?_
      refine lv_isub hx hb dX9_nextToken_171 ?_
      refine lv_iconst (v := (3 : Int32)) hx hb dX9_nextToken_172 (by decide) ?_
      refine lv_icmp_le (tgt := 181) hx hb dX9_nextToken_173 (by decide) (fun c9 => ?_) (fun c9 => ?_)
      · have hf := if_t c9 hf
        exact e_VM hC hr hlk hP hS dX9_nextToken_181 hf
      · have hf := if_f c9 hf
        refine lv_aload_n hx hb dX9_nextToken_176 rfl (lv_at hl 0 rfl) ?_
        refine lv_iconst (v := (4 : Int32)) hx hb dX9_nextToken_177 (by decide) ?_
        refine r_putI hC hP hS hO.1 fl_X9_24 tyX9 tyX9_ok nmX9 rfl rfl rfl dX9_nextToken_178 (fun H locs hP hS => ?_)
        obtain ⟨M10, eM10, hf, hP⟩ := bsM hf hP
        exact e_VM hC hr hlk hP hS dX9_nextToken_181 hf
  have J112 : ∀ (kb96 : Mm → Option (Mm)) (hkb96 : ∀ (M : Mm) (H : Heap) (locs : List Loc) (ls : Array Slot), kb96 M = some MR → wP g M N H → va_S (wA g) s.heap H locs → lv_has ls 1 [(0, .ref t)] → W p l e (rmD 1) s m ([.ref t] : List Value).toArray below meth c H locs 0 0 (MQ below (QV g MR N) ([.ref t] : List Value).toArray s 0 0 (wA g)) (F0 m 96 ls [])) (M : Mm) (H : Heap) (locs : List Loc) (ls : Array Slot), f_X9_nextToken_J112 t M kb96 = some MR → wP g M N H → va_S (wA g) s.heap H locs → lv_has ls 1 [(0, .ref t)] → W p l e (rmD 1) s m ([.ref t] : List Value).toArray below meth c H locs 0 0 (MQ below (QV g MR N) ([.ref t] : List Value).toArray s 0 0 (wA g)) (F0 m 112 ls []) := by
    intro kb96 hkb96 M H locs ls hf hP hS hl
    unfold f_X9_nextToken_J112 at hf
    refine lv_aload_n hx hb dX9_nextToken_112 rfl (lv_at hl 0 rfl) ?_
    refine r_getI hC hP hO.1 fl_X9_30 rfl dX9_nextToken_113 ?_
    refine lv_aload_n hx hb dX9_nextToken_116 rfl (lv_at hl 0 rfl) ?_
    refine r_getI hC hP hO.1 fl_X9_15 rfl dX9_nextToken_117 ?_
    refine lv_icmp_ge (tgt := 155) hx hb dX9_nextToken_120 (by decide) (fun c7 => ?_) (fun c7 => ?_)
    · have hf := if_t c7 hf
      exact J155 M _ _ _ hf hP hS (lv_sub hl [0] rfl)
    · have hf := if_f c7 hf
      refine lv_aload_n hx hb dX9_nextToken_123 rfl (lv_at hl 0 rfl) ?_
      refine r_getR hC hP hO.1 fl_X9_9 rfl dX9_nextToken_124 ?_
      refine lv_aload_n hx hb dX9_nextToken_127 rfl (lv_at hl 0 rfl) ?_
      refine r_getI hC hP hO.1 fl_X9_30 rfl dX9_nextToken_128 ?_
      obtain ⟨hb11, hf⟩ := ck_s hf
      refine r_iald hC hP hO.2 hb11 dX9_nextToken_131 ?_
      obtain ⟨r12, hu13, hf⟩ := bd_s hf
      refine r_goI (r_runS (As := [.int (M (t + 1) (M t 4).toNatClampNeg)]) (rest := []) hC hP hS (k_X9_begunBy hg hu13) cw_X9_33 q_315 q_316 (Rm.D 0 1 rfl) rfl hl.1 rfl (Nat.le_of_ble_eq_true rfl) dX9_nextToken_132) hS (fun H locs hP hS => ?_)
      refine lv_aload_n hx hb dX9_nextToken_135 rfl (lv_at hl 0 rfl) ?_
      refine r_getI hC hP hO.1 fl_X9_24 rfl dX9_nextToken_136 ?_
      refine lv_icmp_ne (tgt := 155) hx hb dX9_nextToken_139 (by decide) (fun c15 => ?_) (fun c15 => ?_)
      · have hf := if_f c15 hf
        exact J155 M _ _ _ hf hP hS (lv_sub hl [0] rfl)
      · have hf := if_t c15 hf
        refine lv_aload_n hx hb dX9_nextToken_142 rfl (lv_at hl 0 rfl) ?_
        refine lv_dup hx hb dX9_nextToken_143 rfl ?_
        refine r_getI hC hP hO.1 fl_X9_30 rfl dX9_nextToken_144 ?_
        refine lv_iconst (v := (1 : Int32)) hx hb dX9_nextToken_147 (by decide) ?_
        refine lv_iadd hx hb dX9_nextToken_148 ?_
        refine r_putI hC hP hS hO.1 fl_X9_30 tyX9 tyX9_ok nmX9 rfl rfl rfl dX9_nextToken_149 (fun H locs hP hS => ?_)
        obtain ⟨M16, eM16, hf, hP⟩ := bsM hf hP
        refine lv_goto (tgt := 96) hx hb dX9_nextToken_152 (by decide) ?_
        exact hkb96 M16 _ _ _ hf hP hS (lv_sub hl [0] rfl)
  have L96 : ∀ (n : Nat) (M : Mm) (H : Heap) (locs : List Loc) (ls : Array Slot), f_X9_nextToken_L96 t n M = some MR → wP g M N H → va_S (wA g) s.heap H locs → lv_has ls 1 [(0, .ref t)] → W p l e (rmD 1) s m ([.ref t] : List Value).toArray below meth c H locs 0 0 (MQ below (QV g MR N) ([.ref t] : List Value).toArray s 0 0 (wA g)) (F0 m 96 ls []) := by
    intro n
    induction n with
    | zero =>
      intro M H locs ls hf
      exact absurd hf (by simp [f_X9_nextToken_L96])
    | succ n ih =>
      intro M H locs ls hf hP hS hl
      unfold f_X9_nextToken_L96 at hf
      refine lv_aload_n hx hb dX9_nextToken_96 rfl (lv_at hl 0 rfl) ?_
      refine r_getI hC hP hO.1 fl_X9_24 rfl dX9_nextToken_97 ?_
      refine lv_iconst (v := (1 : Int32)) hx hb dX9_nextToken_100 (by decide) ?_
      refine lv_icmp_eq (tgt := 112) hx hb dX9_nextToken_101 (by decide) (fun c6 => ?_) (fun c6 => ?_)
      · have hf := if_t c6 hf
        exact J112 _ ih M _ _ _ hf hP hS (lv_sub hl [0] rfl)
      · have hf := if_f c6 hf
        refine lv_aload_n hx hb dX9_nextToken_104 rfl (lv_at hl 0 rfl) ?_
        refine r_getI hC hP hO.1 fl_X9_24 rfl dX9_nextToken_105 ?_
        refine lv_iconst (v := (2 : Int32)) hx hb dX9_nextToken_108 (by decide) ?_
        refine lv_icmp_ne (tgt := 155) hx hb dX9_nextToken_109 (by decide) (fun c17 => ?_) (fun c17 => ?_)
        · have hf := if_f c17 hf
          exact J155 M _ _ _ hf hP hS (lv_sub hl [0] rfl)
        · have hf := if_t c17 hf
          exact J112 _ ih M _ _ _ hf hP hS (lv_sub hl [0] rfl)
  have J46 : ∀ (M : Mm) (H : Heap) (locs : List Loc) (ls : Array Slot), f_X9_nextToken_J46 t M = some MR → wP g M N H → va_S (wA g) s.heap H locs → lv_has ls 1 [(0, .ref t)] → W p l e (rmD 1) s m ([.ref t] : List Value).toArray below meth c H locs 0 0 (MQ below (QV g MR N) ([.ref t] : List Value).toArray s 0 0 (wA g)) (F0 m 46 ls []) := by
    intro M H locs ls hf hP hS hl
    unfold f_X9_nextToken_J46 at hf
    refine lv_aload_n hx hb dX9_nextToken_46 rfl (lv_at hl 0 rfl) ?_
    refine lv_aload_n hx hb dX9_nextToken_47 rfl (lv_at hl 0 rfl) ?_
    refine r_getI hC hP hO.1 fl_X9_27 rfl dX9_nextToken_48 ?_
    refine r_putI hC hP hS hO.1 fl_X9_30 tyX9 tyX9_ok nmX9 rfl rfl rfl dX9_nextToken_51 (fun H locs hP hS => ?_)
    obtain ⟨M3, eM3, hf, hP⟩ := bsM hf hP
    refine lv_aload_n hx hb dX9_nextToken_54 rfl (lv_at hl 0 rfl) ?_
    refine lv_iconst (v := (0 : Int32)) hx hb dX9_nextToken_55 (by decide) ?_
    refine r_putI hC hP hS hO.1 fl_X9_24 tyX9 tyX9_ok nmX9 rfl rfl rfl dX9_nextToken_56 (fun H locs hP hS => ?_)
    obtain ⟨M4, eM4, hf, hP⟩ := bsM hf hP
    refine lv_aload_n hx hb dX9_nextToken_59 rfl (lv_at hl 0 rfl) ?_
    refine r_getI hC hP hO.1 fl_X9_27 rfl dX9_nextToken_60 ?_
    refine lv_aload_n hx hb dX9_nextToken_63 rfl (lv_at hl 0 rfl) ?_
    refine r_getI hC hP hO.1 fl_X9_15 rfl dX9_nextToken_64 ?_
    refine lv_icmp_ge (tgt := 96) hx hb dX9_nextToken_67 (by decide) (fun c5 => ?_) (fun c5 => ?_)
    · have hf := if_t c5 hf
      exact L96 _ M4 _ _ _ hf hP hS (lv_sub hl [0] rfl)
    · have hf := if_f c5 hf
      refine lv_aload_n hx hb dX9_nextToken_70 rfl (lv_at hl 0 rfl) ?_
      refine lv_aload_n hx hb dX9_nextToken_71 rfl (lv_at hl 0 rfl) ?_
      refine r_getR hC hP hO.1 fl_X9_9 rfl dX9_nextToken_72 ?_
      refine lv_aload_n hx hb dX9_nextToken_75 rfl (lv_at hl 0 rfl) ?_
      refine r_getI hC hP hO.1 fl_X9_27 rfl dX9_nextToken_76 ?_
      obtain ⟨hb18, hf⟩ := ck_s hf
      refine r_iald hC hP hO.2 hb18 dX9_nextToken_79 ?_
      obtain ⟨r19, hu20, hf⟩ := bd_s hf
      refine r_goI (r_runS (As := [.int (M4 (t + 1) (M4 t 3).toNatClampNeg)]) (rest := [.ref t]) hC hP hS (k_X9_begunBy hg hu20) cw_X9_33 q_315 q_316 (Rm.D 0 1 rfl) rfl hl.1 rfl (Nat.le_of_ble_eq_true rfl) dX9_nextToken_80) hS (fun H locs hP hS => ?_)
      refine r_putI hC hP hS hO.1 fl_X9_24 tyX9 tyX9_ok nmX9 rfl rfl rfl dX9_nextToken_83 (fun H locs hP hS => ?_)
      obtain ⟨M22, eM22, hf, hP⟩ := bsM hf hP
      refine lv_aload_n hx hb dX9_nextToken_86 rfl (lv_at hl 0 rfl) ?_
      refine lv_dup hx hb dX9_nextToken_87 rfl ?_
      refine r_getI hC hP hO.1 fl_X9_30 rfl dX9_nextToken_88 ?_
      refine lv_iconst (v := (1 : Int32)) hx hb dX9_nextToken_91 (by decide) ?_
      refine lv_iadd hx hb dX9_nextToken_92 ?_
      refine r_putI hC hP hS hO.1 fl_X9_30 tyX9 tyX9_ok nmX9 rfl rfl rfl dX9_nextToken_93 (fun H locs hP hS => ?_)
      obtain ⟨M23, eM23, hf, hP⟩ := bsM hf hP
      exact L96 _ M23 _ _ _ hf hP hS (lv_sub hl [0] rfl)
  have L8 : ∀ (n : Nat) (M : Mm) (H : Heap) (locs : List Loc) (ls : Array Slot), f_X9_nextToken_L8 t n M = some MR → wP g M N H → va_S (wA g) s.heap H locs → lv_has ls 1 [(0, .ref t)] → W p l e (rmD 1) s m ([.ref t] : List Value).toArray below meth c H locs 0 0 (MQ below (QV g MR N) ([.ref t] : List Value).toArray s 0 0 (wA g)) (F0 m 8 ls []) := by
    intro n
    induction n with
    | zero =>
      intro M H locs ls hf
      exact absurd hf (by simp [f_X9_nextToken_L8])
    | succ n ih =>
      intro M H locs ls hf hP hS hl
      unfold f_X9_nextToken_L8 at hf
      refine lv_aload_n hx hb dX9_nextToken_8 rfl (lv_at hl 0 rfl) ?_
      refine r_getI hC hP hO.1 fl_X9_27 rfl dX9_nextToken_9 ?_
      refine lv_aload_n hx hb dX9_nextToken_12 rfl (lv_at hl 0 rfl) ?_
      refine r_getI hC hP hO.1 fl_X9_15 rfl dX9_nextToken_13 ?_
      refine lv_icmp_ge (tgt := 46) hx hb dX9_nextToken_16 (by decide) (fun c2 => ?_) (fun c2 => ?_)
      · have hf := if_t c2 hf
        exact J46 M _ _ _ hf hP hS (lv_sub hl [0] rfl)
      · have hf := if_f c2 hf
        refine lv_aload_n hx hb dX9_nextToken_19 rfl (lv_at hl 0 rfl) ?_
        refine r_getR hC hP hO.1 fl_X9_9 rfl dX9_nextToken_20 ?_
        refine lv_aload_n hx hb dX9_nextToken_23 rfl (lv_at hl 0 rfl) ?_
        refine r_getI hC hP hO.1 fl_X9_27 rfl dX9_nextToken_24 ?_
        obtain ⟨hb24, hf⟩ := ck_s hf
        refine r_iald hC hP hO.2 hb24 dX9_nextToken_27 ?_
        refine lv_bipush (v := (32 : Int32)) hx hb dX9_nextToken_28 (by decide) ?_
        refine lv_icmp_ne (tgt := 46) hx hb dX9_nextToken_30 (by decide) (fun c25 => ?_) (fun c25 => ?_)
        · have hf := if_f c25 hf
          exact J46 M _ _ _ hf hP hS (lv_sub hl [0] rfl)
        · have hf := if_t c25 hf
          refine lv_aload_n hx hb dX9_nextToken_33 rfl (lv_at hl 0 rfl) ?_
          refine lv_dup hx hb dX9_nextToken_34 rfl ?_
          refine r_getI hC hP hO.1 fl_X9_27 rfl dX9_nextToken_35 ?_
          refine lv_iconst (v := (1 : Int32)) hx hb dX9_nextToken_38 (by decide) ?_
          refine lv_iadd hx hb dX9_nextToken_39 ?_
          refine r_putI hC hP hS hO.1 fl_X9_27 tyX9 tyX9_ok nmX9 rfl rfl rfl dX9_nextToken_40 (fun H locs hP hS => ?_)
          obtain ⟨M26, eM26, hf, hP⟩ := bsM hf hP
          refine lv_goto (tgt := 8) hx hb dX9_nextToken_43 (by decide) ?_
          exact ih M26 _ _ _ hf hP hS (lv_sub hl [0] rfl)
  unfold f_X9_nextToken at hf
  refine lv_aload_n hx hb dX9_nextToken_0 rfl (lv_at hl 0 rfl) ?_
  refine lv_aload_n hx hb dX9_nextToken_1 rfl (lv_at hl 0 rfl) ?_
  refine r_getI hC hP hO.1 fl_X9_30 rfl dX9_nextToken_2 ?_
  refine r_putI hC hP hS hO.1 fl_X9_27 tyX9 tyX9_ok nmX9 rfl rfl rfl dX9_nextToken_5 (fun H locs hP hS => ?_)
  obtain ⟨M1, eM1, hf, hP⟩ := bsM hf hP
  exact L8 _ M1 _ _ _ hf hP hS (lv_sub hl [0] rfl)
set_option maxRecDepth 100000 in
set_option maxHeartbeats 4000000 in
theorem k_X9_isWord {g : Ev} {l : Launch} (hg : g.2.1.Nodup) {t : Nat} {p0 : Nat} (hO : oText g t) (hp0 : p0 < 4) {M : Mm} {N : Ml}  {v : Int32} (hf : f_X9_isWord t p0 M = some v) : KM g l yX9_isWord cX9_isWord 3 (some .boolean) 4 [.ref t, .ref (eK g p0)] M N (QI g v M N) := by
  refine KM.mk hg (by decide) (Nat.le_of_ble_eq_true rfl) ?_
  intro p e s m below meth c ls hC hr hlk hl hP hS
  have hx := hC.1
  have hb := hC.2.1
  have hl : lv_has ls 3 [(0, .ref t), (1, .ref (eK g p0))] := hl
  have L28 : ∀ (n : Nat) (x2 : Int32) (H : Heap) (locs : List Loc) (ls : Array Slot), f_X9_isWord_L28 t p0 M n x2 = some v → wP g M N H → va_S (wA g) s.heap H locs → lv_has ls 3 [(0, .ref t), (1, .ref (eK g p0)), (2, .int x2)] → W p l e (rmD 4) s m ([.ref t, .ref (eK g p0)] : List Value).toArray below meth c H locs 0 0 (MQ below (QI g v M N) ([.ref t, .ref (eK g p0)] : List Value).toArray s 0 0 (wA g)) (F0 m 28 ls []) := by
    intro n
    induction n with
    | zero =>
      intro x2 H locs ls hf
      exact absurd hf (by simp [f_X9_isWord_L28])
    | succ n ih =>
      intro x2 H locs ls hf hP hS hl
      unfold f_X9_isWord_L28 at hf
      refine lv_iload_n hx hb dX9_isWord_28 rfl (lv_at hl 2 rfl) ?_
      refine lv_aload_n hx hb dX9_isWord_29 rfl (lv_at hl 1 rfl) ?_
      refine r_slen hC hl.1 hP hS hp0 (Rm.D 3 4 rfl) (Nat.le_of_ble_eq_true rfl) dX9_isWord_30 (fun H locs hP hS => ?_)
      refine lv_icmp_ge (tgt := 63) hx hb dX9_isWord_33 (by decide) (fun c3 => ?_) (fun c3 => ?_)
      · have hf := if_t c3 hf
        refine lv_iconst (v := (1 : Int32)) hx hb dX9_isWord_63 (by decide) ?_
        exact e_Z hC hr hlk (Or.inr rfl) hP hS dX9_isWord_64 hf
      · have hf := if_f c3 hf
        refine lv_aload_n hx hb dX9_isWord_36 rfl (lv_at hl 0 rfl) ?_
        refine r_getR hC hP hO.1 fl_X9_9 rfl dX9_isWord_37 ?_
        refine lv_aload_n hx hb dX9_isWord_40 rfl (lv_at hl 0 rfl) ?_
        refine r_getI hC hP hO.1 fl_X9_27 rfl dX9_isWord_41 ?_
        refine lv_iload_n hx hb dX9_isWord_44 rfl (lv_at hl 2 rfl) ?_
        refine lv_iadd hx hb dX9_isWord_45 ?_
        obtain ⟨hb4, hf⟩ := ck_s hf
        refine r_iald hC hP hO.2 hb4 dX9_isWord_46 ?_
        refine lv_aload_n hx hb dX9_isWord_47 rfl (lv_at hl 1 rfl) ?_
        refine lv_iload_n hx hb dX9_isWord_48 rfl (lv_at hl 2 rfl) ?_
        obtain ⟨hb5, hf⟩ := ck_s hf
        refine r_schr hC hl.1 hP hS hp0 hb5 (Rm.D 3 4 rfl) (Nat.le_of_ble_eq_true rfl) dX9_isWord_49 (fun H locs hP hS => ?_)
        refine lv_icmp_eq (tgt := 57) hx hb dX9_isWord_52 (by decide) (fun c6 => ?_) (fun c6 => ?_)
        · have hf := if_t c6 hf
          obtain ⟨z7, ez7, hf⟩ := bsJ hf
          refine lv_iinc (v := z7) (lv' := [(2, .int z7), (0, .ref t), (1, .ref (eK g p0))]) hx hb dX9_isWord_57 hl (k := 2) rfl (by rw [ez7]; rfl) (by decide) rfl (fun ls hl => ?_)
          refine lv_goto (tgt := 28) hx hb dX9_isWord_60 (by decide) ?_
          exact ih z7 _ _ _ hf hP hS (lv_sub hl [1, 2, 0] rfl)
        · have hf := if_f c6 hf
          refine lv_iconst (v := (0 : Int32)) hx hb dX9_isWord_55 (by decide) ?_
          exact e_Z hC hr hlk (Or.inl rfl) hP hS dX9_isWord_56 hf
  unfold f_X9_isWord at hf
  refine lv_aload_n hx hb dX9_isWord_0 rfl (lv_at hl 0 rfl) ?_
  refine r_getI hC hP hO.1 fl_X9_24 rfl dX9_isWord_1 ?_
  refine lv_iconst (v := (1 : Int32)) hx hb dX9_isWord_4 (by decide) ?_
  refine lv_icmp_ne (tgt := 24) hx hb dX9_isWord_5 (by decide) (fun c1 => ?_) (fun c1 => ?_)
  · have hf := if_f c1 hf
    refine lv_iconst (v := (0 : Int32)) hx hb dX9_isWord_24 (by decide) ?_
    exact e_Z hC hr hlk (Or.inl rfl) hP hS dX9_isWord_25 hf
  · have hf := if_t c1 hf
    refine lv_aload_n hx hb dX9_isWord_8 rfl (lv_at hl 0 rfl) ?_
    refine r_getI hC hP hO.1 fl_X9_30 rfl dX9_isWord_9 ?_
    refine lv_aload_n hx hb dX9_isWord_12 rfl (lv_at hl 0 rfl) ?_
    refine r_getI hC hP hO.1 fl_X9_27 rfl dX9_isWord_13 ?_
    refine lv_isub hx hb dX9_isWord_16 ?_
    refine lv_aload_n hx hb dX9_isWord_17 rfl (lv_at hl 1 rfl) ?_
    refine r_slen hC hl.1 hP hS hp0 (Rm.D 3 4 rfl) (Nat.le_of_ble_eq_true rfl) dX9_isWord_18 (fun H locs hP hS => ?_)
    refine lv_icmp_eq (tgt := 26) hx hb dX9_isWord_21 (by decide) (fun c2 => ?_) (fun c2 => ?_)
    · have hf := if_t c2 hf
      refine lv_iconst (v := (0 : Int32)) hx hb dX9_isWord_26 (by decide) ?_
      refine lv_istore_n (lv' := [(2, .int (0 : Int32)), (0, .ref t), (1, .ref (eK g p0))]) hx hb dX9_isWord_27 rfl hl (by decide) rfl (fun ls hl => ?_)
      exact L28 _ (0 : Int32) _ _ _ hf hP hS (lv_sub hl [1, 2, 0] rfl)
    · have hf := if_f c2 hf
      refine lv_iconst (v := (0 : Int32)) hx hb dX9_isWord_24 (by decide) ?_
      exact e_Z hC hr hlk (Or.inl rfl) hP hS dX9_isWord_25 hf
set_option maxRecDepth 100000 in
set_option maxHeartbeats 4000000 in
theorem k_X9_number {g : Ev} {l : Launch} (hg : g.2.1.Nodup) {t : Nat} (hO : oText g t) {M : Mm} {N : Ml}  {v : Int32} (hf : f_X9_number t M = some v) : KM g l yX9_number cX9_number 3 (some .int) 0 [.ref t] M N (QI g v M N) := by
  refine KM.mk hg (by decide) (Nat.le_of_ble_eq_true rfl) ?_
  intro p e s m below meth c ls hC hr hlk hl hP hS
  have hx := hC.1
  have hb := hC.2.1
  have hl : lv_has ls 3 [(0, .ref t)] := hl
  have L17 : ∀ (n : Nat) (x1 : Int32) (x2 : Int32) (H : Heap) (locs : List Loc) (ls : Array Slot), f_X9_number_L17 t M n x1 x2 = some v → wP g M N H → va_S (wA g) s.heap H locs → lv_has ls 3 [(0, .ref t), (1, .int x1), (2, .int x2)] → W p l e (rmD 0) s m ([.ref t] : List Value).toArray below meth c H locs 0 0 (MQ below (QI g v M N) ([.ref t] : List Value).toArray s 0 0 (wA g)) (F0 m 17 ls []) := by
    intro n
    induction n with
    | zero =>
      intro x1 x2 H locs ls hf
      exact absurd hf (by simp [f_X9_number_L17])
    | succ n ih =>
      intro x1 x2 H locs ls hf hP hS hl
      unfold f_X9_number_L17 at hf
      refine lv_iload_n hx hb dX9_number_17 rfl (lv_at hl 2 rfl) ?_
      refine lv_aload_n hx hb dX9_number_18 rfl (lv_at hl 0 rfl) ?_
      refine r_getI hC hP hO.1 fl_X9_30 rfl dX9_number_19 ?_
      refine lv_icmp_ge (tgt := 46) hx hb dX9_number_22 (by decide) (fun c3 => ?_) (fun c3 => ?_)
      · have hf := if_t c3 hf
        refine lv_iload_n hx hb dX9_number_46 rfl (lv_at hl 1 rfl) ?_
        exact e_I hC hr hlk hP hS dX9_number_47 hf
      · have hf := if_f c3 hf
        refine lv_bipush (v := (10 : Int32)) hx hb dX9_number_25 (by decide) ?_
        refine lv_iload_n hx hb dX9_number_27 rfl (lv_at hl 1 rfl) ?_
        refine lv_imul hx hb dX9_number_28 ?_
        refine lv_aload_n hx hb dX9_number_29 rfl (lv_at hl 0 rfl) ?_
        refine r_getR hC hP hO.1 fl_X9_9 rfl dX9_number_30 ?_
        refine lv_iload_n hx hb dX9_number_33 rfl (lv_at hl 2 rfl) ?_
        obtain ⟨hb4, hf⟩ := ck_s hf
        refine r_iald hC hP hO.2 hb4 dX9_number_34 ?_
        refine lv_iadd hx hb dX9_number_35 ?_
        refine lv_bipush (v := (48 : Int32)) hx hb dX9_number_36 (by decide) ?_
        refine lv_isub hx hb dX9_number_38 ?_
        refine lv_topi (fun z5 ez5 => ?_)
        have hf := bs ez5 hf
        refine lv_istore_n (lv' := [(1, .int z5), (0, .ref t), (2, .int x2)]) hx hb dX9_number_39 rfl hl (by decide) rfl (fun ls hl => ?_)
        obtain ⟨z6, ez6, hf⟩ := bsJ hf
        refine lv_iinc (v := z6) (lv' := [(2, .int z6), (1, .int z5), (0, .ref t)]) hx hb dX9_number_40 hl (k := 2) rfl (by rw [ez6]; rfl) (by decide) rfl (fun ls hl => ?_)
        refine lv_goto (tgt := 17) hx hb dX9_number_43 (by decide) ?_
        exact ih z5 z6 _ _ _ hf hP hS (lv_sub hl [2, 1, 0] rfl)
  unfold f_X9_number at hf
  refine lv_aload_n hx hb dX9_number_0 rfl (lv_at hl 0 rfl) ?_
  refine r_getI hC hP hO.1 fl_X9_24 rfl dX9_number_1 ?_
  refine lv_iconst (v := (2 : Int32)) hx hb dX9_number_4 (by decide) ?_
  refine lv_icmp_eq (tgt := 10) hx hb dX9_number_5 (by decide) (fun c1 => ?_) (fun c1 => ?_)
  · have hf := if_t c1 hf
    refine lv_iconst (v := (0 : Int32)) hx hb dX9_number_10 (by decide) ?_
    refine lv_istore_n (lv' := [(1, .int (0 : Int32)), (0, .ref t)]) hx hb dX9_number_11 rfl hl (by decide) rfl (fun ls hl => ?_)
    refine lv_aload_n hx hb dX9_number_12 rfl (lv_at hl 1 rfl) ?_
    refine r_getI hC hP hO.1 fl_X9_27 rfl dX9_number_13 ?_
    refine lv_topi (fun z2 ez2 => ?_)
    have hf := bs ez2 hf
    refine lv_istore_n (lv' := [(2, .int z2), (1, .int (0 : Int32)), (0, .ref t)]) hx hb dX9_number_16 rfl hl (by decide) rfl (fun ls hl => ?_)
    exact L17 _ (0 : Int32) z2 _ _ _ hf hP hS (lv_sub hl [2, 1, 0] rfl)
  · have hf := if_f c1 hf
    refine lv_iconst (v := (-1 : Int32)) hx hb dX9_number_8 (by decide) ?_
    exact e_I hC hr hlk hP hS dX9_number_9 hf
set_option maxRecDepth 100000 in
set_option maxHeartbeats 4000000 in
theorem k_X4_takeNumber {g : Ev} {l : Launch} (hg : g.2.1.Nodup) {kd : Nat} {rd : Nat} {t : Nat} (hO : oReader g kd t rd) {M : Mm} {N : Ml} {p0 : Int32} {p1 : Int32} {p2 : Int32} {v : Int32} {MR : Mm} (hf : f_X4_takeNumber rd t p0 p1 p2 M = some (v, MR)) : KM g l yX4_takeNumber cX4_takeNumber 4 (some .boolean) 2 [.ref rd, .int p0, .int p1, .int p2] M N (QI g v MR N) := by
  refine KM.mk hg (by decide) (Nat.le_of_ble_eq_true rfl) ?_
  intro p e s m below meth c ls hC hr hlk hl hP hS
  have hx := hC.1
  have hb := hC.2.1
  have hl : lv_has ls 4 [(0, .ref rd), (1, .int p0), (2, .int p1), (3, .int p2)] := hl
  unfold f_X4_takeNumber at hf
  refine lv_aload_n hx hb dX4_takeNumber_0 rfl (lv_at hl 0 rfl) ?_
  refine r_getR hC hP hO.1 fl_X4_9 rfl dX4_takeNumber_1 ?_
  obtain ⟨M3, hu2, hf⟩ := bd_s hf
  refine r_goV (r_runV (As := []) (rest := []) hC hP hS (k_X9_nextToken hg hO.2.1 hu2) cw_X4_28 q_311 q_312 q_313 (Rm.D 1 2 rfl) hO.2.1.1 rfl rfl hl.1 rfl (Nat.le_of_ble_eq_true rfl) dX4_takeNumber_4) hS (fun H locs hP hS => ?_)
  refine lv_aload_n hx hb dX4_takeNumber_7 rfl (lv_at hl 0 rfl) ?_
  refine r_getR hC hP hO.1 fl_X4_19 rfl dX4_takeNumber_8 ?_
  refine lv_iload_n hx hb dX4_takeNumber_11 rfl (lv_at hl 1 rfl) ?_
  refine lv_aload_n hx hb dX4_takeNumber_12 rfl (lv_at hl 0 rfl) ?_
  refine r_getR hC hP hO.1 fl_X4_9 rfl dX4_takeNumber_13 ?_
  obtain ⟨r4, hu5, hf⟩ := bd_s hf
  refine r_goI (r_runV (As := []) (rest := [.int p0, .ref (rd + 10)]) hC hP hS (k_X9_number hg hO.2.1 hu5) cw_X4_96 q_379 q_380 q_381 (Rm.D 0 2 rfl) hO.2.1.1 rfl rfl hl.1 rfl (Nat.le_of_ble_eq_true rfl) dX4_takeNumber_16) hS (fun H locs hP hS => ?_)
  obtain ⟨hb7, hf⟩ := ck_s hf
  refine r_iast hC hP hS hO.2.2.2 hb7 dX4_takeNumber_19 (fun H locs hP hS => ?_)
  obtain ⟨M8, eM8, hf, hP⟩ := bsM hf hP
  refine lv_aload_n hx hb dX4_takeNumber_20 rfl (lv_at hl 0 rfl) ?_
  refine r_getR hC hP hO.1 fl_X4_19 rfl dX4_takeNumber_21 ?_
  refine lv_iload_n hx hb dX4_takeNumber_24 rfl (lv_at hl 1 rfl) ?_
  obtain ⟨hb9, hf⟩ := ck_s hf
  refine r_iald hC hP hO.2.2.2 hb9 dX4_takeNumber_25 ?_
  refine lv_iload_n hx hb dX4_takeNumber_26 rfl (lv_at hl 2 rfl) ?_
  refine lv_iload_n hx hb dX4_takeNumber_27 rfl (lv_at hl 3 rfl) ?_
  obtain ⟨r10, hu11, hf⟩ := bd_s hf
  refine r_goI (r_runSN (As := [.int (M8 (rd + 10) p0.toNatClampNeg), .int p1, .int p2]) (rest := []) hC hP hS (k_X11_isWithin hg hu11) cw_X4_100 hC.2.2.2.2.2.1.2.1.2.2.1 q_176 (Rm.D 0 2 rfl) rfl hl.1 rfl (Nat.le_of_ble_eq_true rfl) dX4_takeNumber_28) hS (fun H locs hP hS => ?_)
  obtain ⟨hn13, hf⟩ := cb_s hf
  exact e_ZM hC hr hlk hn13 hP hS dX4_takeNumber_31 hf
set_option maxRecDepth 100000 in
set_option maxHeartbeats 4000000 in
theorem k_X4_takeSemicolon {g : Ev} {l : Launch} (hg : g.2.1.Nodup) {kd : Nat} {rd : Nat} {t : Nat} (hO : oReader g kd t rd) {M : Mm} {N : Ml}  {v : Int32} {MR : Mm} (hf : f_X4_takeSemicolon rd t M = some (v, MR)) : KM g l yX4_takeSemicolon cX4_takeSemicolon 1 (some .boolean) 2 [.ref rd] M N (QI g v MR N) := by
  refine KM.mk hg (by decide) (Nat.le_of_ble_eq_true rfl) ?_
  intro p e s m below meth c ls hC hr hlk hl hP hS
  have hx := hC.1
  have hb := hC.2.1
  have hl : lv_has ls 1 [(0, .ref rd)] := hl
  unfold f_X4_takeSemicolon at hf
  refine lv_aload_n hx hb dX4_takeSemicolon_0 rfl (lv_at hl 0 rfl) ?_
  refine r_getR hC hP hO.1 fl_X4_9 rfl dX4_takeSemicolon_1 ?_
  obtain ⟨M3, hu2, hf⟩ := bd_s hf
  refine r_goV (r_runV (As := []) (rest := []) hC hP hS (k_X9_nextToken hg hO.2.1 hu2) cw_X4_28 q_311 q_312 q_313 (Rm.D 1 2 rfl) hO.2.1.1 rfl rfl hl.1 rfl (Nat.le_of_ble_eq_true rfl) dX4_takeSemicolon_4) hS (fun H locs hP hS => ?_)
  refine lv_aload_n hx hb dX4_takeSemicolon_7 rfl (lv_at hl 0 rfl) ?_
  refine r_getR hC hP hO.1 fl_X4_9 rfl dX4_takeSemicolon_8 ?_
  refine r_getI hC hP hO.2.1.1 fl_X4_39 rfl dX4_takeSemicolon_11 ?_
  refine lv_iconst (v := (3 : Int32)) hx hb dX4_takeSemicolon_14 (by decide) ?_
  refine lv_icmp_ne (tgt := 22) hx hb dX4_takeSemicolon_15 (by decide) (fun c4 => ?_) (fun c4 => ?_)
  · have hf := if_f c4 hf
    refine lv_iconst (v := (0 : Int32)) hx hb dX4_takeSemicolon_22 (by decide) ?_
    exact e_ZM hC hr hlk (Or.inl rfl) hP hS dX4_takeSemicolon_23 hf
  · have hf := if_t c4 hf
    refine lv_iconst (v := (1 : Int32)) hx hb dX4_takeSemicolon_18 (by decide) ?_
    refine lv_goto (tgt := 23) hx hb dX4_takeSemicolon_19 (by decide) ?_
    exact e_ZM hC hr hlk (Or.inr rfl) hP hS dX4_takeSemicolon_23 hf
set_option maxRecDepth 100000 in
set_option maxHeartbeats 4000000 in
theorem k_X5_begin {g : Ev} {l : Launch} (hg : g.2.1.Nodup) {kd : Nat} {a : Nat} (hO : oRing g kd a) {M : Mm} {N : Ml} {p0 : Int32} {MR : Mm} (hf : f_X5_begin a p0 M = some MR) : KM g l yX5_begin cX5_begin 3 none 1 [.ref a, .int p0] M N (QV g MR N) := by
  refine KM.mk hg (by decide) (Nat.le_of_ble_eq_true rfl) ?_
  intro p e s m below meth c ls hC hr hlk hl hP hS
  have hx := hC.1
  have hb := hC.2.1
  have hl : lv_has ls 3 [(0, .ref a), (1, .int p0)] := hl
  have L22 : ∀ (n : Nat) (x2 : Int32) (M : Mm) (H : Heap) (locs : List Loc) (ls : Array Slot), f_X5_begin_L22 a n x2 M = some MR → wP g M N H → va_S (wA g) s.heap H locs → lv_has ls 3 [(0, .ref a), (2, .int x2)] → W p l e (rmD 1) s m ([.ref a, .int p0] : List Value).toArray below meth c H locs 0 0 (MQ below (QV g MR N) ([.ref a, .int p0] : List Value).toArray s 0 0 (wA g)) (F0 m 22 ls []) := by
    intro n
    induction n with
    | zero =>
      intro x2 M H locs ls hf
      exact absurd hf (by simp [f_X5_begin_L22])
    | succ n ih =>
      intro x2 M H locs ls hf hP hS hl
      unfold f_X5_begin_L22 at hf
      refine lv_iload_n hx hb dX5_begin_22 rfl (lv_at hl 1 rfl) ?_
      refine lv_iconst (v := (5 : Int32)) hx hb dX5_begin_23 (by decide) ?_
      refine lv_icmp_ge (tgt := 42) hx hb dX5_begin_24 (by decide) (fun c5 => ?_) (fun c5 => ?_)
      · have hf := if_t c5 hf
        refine lv_aload_n hx hb dX5_begin_42 rfl (lv_at hl 0 rfl) ?_
        refine r_getR hC hP hO.1 fl_X5_19 rfl dX5_begin_43 ?_
        refine lv_iconst (v := (0 : Int32)) hx hb dX5_begin_46 (by decide) ?_
        obtain ⟨M8, hu7, hf⟩ := bd_s hf
        refine r_goV (r_runS (As := [.ref (a + 2), .int (0 : Int32)]) (rest := []) hC hP hS (k_J7_fill_53178 hg hO.2.2.1 hu7) cw_X5_57 q_105 q_106 (Rm.D 0 1 rfl) rfl hl.1 rfl (Nat.le_of_ble_eq_true rfl) dX5_begin_47) hS (fun H locs hP hS => ?_)
        refine lv_aload_n hx hb dX5_begin_50 rfl (lv_at hl 0 rfl) ?_
        refine r_getR hC hP hO.1 fl_X5_22 rfl dX5_begin_51 ?_
        refine lv_iconst (v := (0 : Int32)) hx hb dX5_begin_54 (by decide) ?_
        obtain ⟨M11, hu10, hf⟩ := bd_s hf
        refine r_goV (r_runS (As := [.ref (a + 3), .int (0 : Int32)]) (rest := []) hC hP hS (k_J7_fill_53178 hg hO.2.2.2.1 hu10) cw_X5_57 q_105 q_106 (Rm.D 0 1 rfl) rfl hl.1 rfl (Nat.le_of_ble_eq_true rfl) dX5_begin_55) hS (fun H locs hP hS => ?_)
        refine lv_aload_n hx hb dX5_begin_58 rfl (lv_at hl 0 rfl) ?_
        refine r_getR hC hP hO.1 fl_X5_25 rfl dX5_begin_59 ?_
        refine lv_iconst (v := (0 : Int32)) hx hb dX5_begin_62 (by decide) ?_
        obtain ⟨M14, hu13, hf⟩ := bd_s hf
        refine r_goV (r_runS (As := [.ref (a + 4), .int (0 : Int32)]) (rest := []) hC hP hS (k_J7_fill_53178 hg hO.2.2.2.2.1 hu13) cw_X5_57 q_105 q_106 (Rm.D 0 1 rfl) rfl hl.1 rfl (Nat.le_of_ble_eq_true rfl) dX5_begin_63) hS (fun H locs hP hS => ?_)
        exact e_VM hC hr hlk hP hS dX5_begin_66 hf
      · have hf := if_f c5 hf
        refine lv_aload_n hx hb dX5_begin_27 rfl (lv_at hl 0 rfl) ?_
        refine r_getR hC hP hO.1 fl_X5_15 rfl dX5_begin_28 ?_
        refine lv_iload_n hx hb dX5_begin_31 rfl (lv_at hl 1 rfl) ?_
        refine lv_iconst (v := (5 : Int32)) hx hb dX5_begin_32 (by decide) ?_
        refine lv_iload_n hx hb dX5_begin_33 rfl (lv_at hl 1 rfl) ?_
        refine lv_isub hx hb dX5_begin_34 ?_
        obtain ⟨hb15, hf⟩ := ck_s hf
        refine r_iast hC hP hS hO.2.1 hb15 dX5_begin_35 (fun H locs hP hS => ?_)
        obtain ⟨M16, eM16, hf, hP⟩ := bsM hf hP
        obtain ⟨z17, ez17, hf⟩ := bsJ hf
        refine lv_iinc (v := z17) (lv' := [(2, .int z17), (0, .ref a)]) hx hb dX5_begin_36 hl (k := 1) rfl (by rw [ez17]; rfl) (by decide) rfl (fun ls hl => ?_)
        refine lv_goto (tgt := 22) hx hb dX5_begin_39 (by decide) ?_
        exact ih z17 M16 _ _ _ hf hP hS (lv_sub hl [1, 0] rfl)
  unfold f_X5_begin at hf
  refine lv_aload_n hx hb dX5_begin_0 rfl (lv_at hl 0 rfl) ?_
  refine lv_iload_n hx hb dX5_begin_1 rfl (lv_at hl 1 rfl) ?_
  refine r_putI hC hP hS hO.1 fl_X5_44 tyX5 tyX5_ok nmX5 rfl rfl rfl dX5_begin_2 (fun H locs hP hS => ?_)
  obtain ⟨M1, eM1, hf, hP⟩ := bsM hf hP
  refine lv_aload_n hx hb dX5_begin_5 rfl (lv_at hl 0 rfl) ?_
  refine lv_iconst (v := (0 : Int32)) hx hb dX5_begin_6 (by decide) ?_
  refine r_putI hC hP hS hO.1 fl_X5_48 tyX5 tyX5_ok nmX5 rfl rfl rfl dX5_begin_7 (fun H locs hP hS => ?_)
  obtain ⟨M2, eM2, hf, hP⟩ := bsM hf hP
  refine lv_aload_n hx hb dX5_begin_10 rfl (lv_at hl 0 rfl) ?_
  refine lv_iconst (v := (0 : Int32)) hx hb dX5_begin_11 (by decide) ?_
  refine r_putI hC hP hS hO.1 fl_X5_51 tyX5 tyX5_ok nmX5 rfl rfl rfl dX5_begin_12 (fun H locs hP hS => ?_)
  obtain ⟨M3, eM3, hf, hP⟩ := bsM hf hP
  refine lv_aload_n hx hb dX5_begin_15 rfl (lv_at hl 0 rfl) ?_
  refine lv_iconst (v := (0 : Int32)) hx hb dX5_begin_16 (by decide) ?_
  refine r_putI hC hP hS hO.1 fl_X5_54 tyX5 tyX5_ok nmX5 rfl rfl rfl dX5_begin_17 (fun H locs hP hS => ?_)
  obtain ⟨M4, eM4, hf, hP⟩ := bsM hf hP
  refine lv_iconst (v := (0 : Int32)) hx hb dX5_begin_20 (by decide) ?_
  refine lv_istore_n (lv' := [(2, .int (0 : Int32)), (0, .ref a), (1, .int p0)]) hx hb dX5_begin_21 rfl hl (by decide) rfl (fun ls hl => ?_)
  exact L22 _ (0 : Int32) M4 _ _ _ hf hP hS (lv_sub hl [1, 0] rfl)
set_option maxRecDepth 100000 in
set_option maxHeartbeats 4000000 in
theorem k_X4_readRing {g : Ev} {l : Launch} (hg : g.2.1.Nodup) {kd : Nat} {rd : Nat} {t : Nat} (hO : oReader g kd t rd) {M : Mm} {N : Ml}  {v : Int32} {MR : Mm} (hf : f_X4_readRing rd t M = some (v, MR)) : KM g l yX4_readRing cX4_readRing 1 (some .boolean) 5 [.ref rd] M N (QI g v MR N) := by
  refine KM.mk hg (by decide) (Nat.le_of_ble_eq_true rfl) ?_
  intro p e s m below meth c ls hC hr hlk hl hP hS
  have hx := hC.1
  have hb := hC.2.1
  have hl : lv_has ls 1 [(0, .ref rd)] := hl
  unfold f_X4_readRing at hf
  refine lv_aload_n hx hb dX4_readRing_0 rfl (lv_at hl 0 rfl) ?_
  refine r_getR hC hP hO.1 fl_X4_9 rfl dX4_readRing_1 ?_
  refine va_ldcS hx hb hC.2.2.2.1 hC.2.2.2.2.2.1.2.2.2.2.2.2.1 dX4_readRing_4 ?_
  obtain ⟨r1, hu2, hf⟩ := bd_s hf
  refine r_goI (r_runV (As := [.ref (eK g 0)]) (rest := []) hC hP hS (k_X9_isWord hg hO.2.1 (by decide) hu2) cw_X4_47 q_322 q_323 q_324 (Rm.D 4 5 rfl) hO.2.1.1 rfl rfl hl.1 rfl (Nat.le_of_ble_eq_true rfl) dX4_readRing_6) hS (fun H locs hP hS => ?_)
  refine lv_if_eq (tgt := 30) hx hb dX4_readRing_9 (by decide) (fun c4 => ?_) (fun c4 => ?_)
  · have hf := if_t c4 hf
    refine lv_iconst (v := (0 : Int32)) hx hb dX4_readRing_30 (by decide) ?_
    exact e_ZM hC hr hlk (Or.inl rfl) hP hS dX4_readRing_31 hf
  · have hf := if_f c4 hf
    refine lv_aload_n hx hb dX4_readRing_12 rfl (lv_at hl 0 rfl) ?_
    refine lv_iconst (v := (0 : Int32)) hx hb dX4_readRing_13 (by decide) ?_
    refine lv_iconst (v := (4 : Int32)) hx hb dX4_readRing_14 (by decide) ?_
    refine lv_bipush (v := (24 : Int32)) hx hb dX4_readRing_15 (by decide) ?_
    obtain ⟨r5, M7, hu6, hf⟩ := bd2_s hf
    refine r_goI (r_runV (As := [.int (0 : Int32), .int (4 : Int32), .int (24 : Int32)]) (rest := []) hC hP hS (k_X4_takeNumber hg hO hu6) cw_X4_51 q_375 q_376 q_377 (Rm.D 2 5 rfl) hO.1 rfl rfl hl.1 rfl (Nat.le_of_ble_eq_true rfl) dX4_readRing_17) hS (fun H locs hP hS => ?_)
    refine lv_if_eq (tgt := 30) hx hb dX4_readRing_20 (by decide) (fun c8 => ?_) (fun c8 => ?_)
    · have hf := if_t c8 hf
      refine lv_iconst (v := (0 : Int32)) hx hb dX4_readRing_30 (by decide) ?_
      exact e_ZM hC hr hlk (Or.inl rfl) hP hS dX4_readRing_31 hf
    · have hf := if_f c8 hf
      refine lv_aload_n hx hb dX4_readRing_23 rfl (lv_at hl 0 rfl) ?_
      obtain ⟨r9, M11, hu10, hf⟩ := bd2_s hf
      refine r_goI (r_runV (As := []) (rest := []) hC hP hS (k_X4_takeSemicolon hg hO hu10) cw_X4_55 q_383 q_384 q_385 (Rm.D 2 5 rfl) hO.1 rfl rfl hl.1 rfl (Nat.le_of_ble_eq_true rfl) dX4_readRing_24) hS (fun H locs hP hS => ?_)
      refine lv_if_ne (tgt := 32) hx hb dX4_readRing_27 (by decide) (fun c12 => ?_) (fun c12 => ?_)
      · have hf := if_f c12 hf
        refine lv_aload_n hx hb dX4_readRing_32 rfl (lv_at hl 0 rfl) ?_
        refine r_getR hC hP hO.1 fl_X4_15 rfl dX4_readRing_33 ?_
        refine lv_aload_n hx hb dX4_readRing_36 rfl (lv_at hl 0 rfl) ?_
        refine r_getR hC hP hO.1 fl_X4_19 rfl dX4_readRing_37 ?_
        refine lv_iconst (v := (0 : Int32)) hx hb dX4_readRing_40 (by decide) ?_
        obtain ⟨hb13, hf⟩ := ck_s hf
        refine r_iald hC hP hO.2.2.2 hb13 dX4_readRing_41 ?_
        obtain ⟨M16, hu15, hf⟩ := bd_s hf
        refine r_goV (r_runV (As := [.int (M11 (rd + 10) (0 : Int32).toNatClampNeg)]) (rest := []) hC hP hS (k_X5_begin hg hO.2.2.1 hu15) cw_X4_58 q_387 q_98 q_99 (Rm.D 1 5 rfl) hO.2.2.1.1 rfl rfl hl.1 rfl (Nat.le_of_ble_eq_true rfl) dX4_readRing_42) hS (fun H locs hP hS => ?_)
        refine lv_iconst (v := (1 : Int32)) hx hb dX4_readRing_45 (by decide) ?_
        exact e_ZM hC hr hlk (Or.inr rfl) hP hS dX4_readRing_46 hf
      · have hf := if_t c12 hf
        refine lv_iconst (v := (0 : Int32)) hx hb dX4_readRing_30 (by decide) ?_
        exact e_ZM hC hr hlk (Or.inl rfl) hP hS dX4_readRing_31 hf
set_option maxRecDepth 100000 in
set_option maxHeartbeats 4000000 in
theorem k_X4_readStep {g : Ev} {l : Launch} (hg : g.2.1.Nodup) {kd : Nat} {rd : Nat} {t : Nat} (hO : oReader g kd t rd) {M : Mm} {N : Ml}  {v : Int32} {MR : Mm} (hf : f_X4_readStep rd t M = some (v, MR)) : KM g l yX4_readStep cX4_readStep 1 (some .boolean) 3 [.ref rd] M N (QI g v MR N) := by
  refine KM.mk hg (by decide) (Nat.le_of_ble_eq_true rfl) ?_
  intro p e s m below meth c ls hC hr hlk hl hP hS
  have hx := hC.1
  have hb := hC.2.1
  have hl : lv_has ls 1 [(0, .ref rd)] := hl
  unfold f_X4_readStep at hf
  refine lv_aload_n hx hb dX4_readStep_0 rfl (lv_at hl 0 rfl) ?_
  refine lv_iconst (v := (0 : Int32)) hx hb dX4_readStep_1 (by decide) ?_
  refine lv_iconst (v := (0 : Int32)) hx hb dX4_readStep_2 (by decide) ?_
  refine lv_iconst (v := (4 : Int32)) hx hb dX4_readStep_3 (by decide) ?_
  obtain ⟨r1, M3, hu2, hf⟩ := bd2_s hf
  refine r_goI (r_runV (As := [.int (0 : Int32), .int (0 : Int32), .int (4 : Int32)]) (rest := []) hC hP hS (k_X4_takeNumber hg hO hu2) cw_X4_51 q_375 q_376 q_377 (Rm.D 2 3 rfl) hO.1 rfl rfl hl.1 rfl (Nat.le_of_ble_eq_true rfl) dX4_readStep_4) hS (fun H locs hP hS => ?_)
  refine lv_if_eq (tgt := 28) hx hb dX4_readStep_7 (by decide) (fun c4 => ?_) (fun c4 => ?_)
  · have hf := if_t c4 hf
    refine lv_iconst (v := (0 : Int32)) hx hb dX4_readStep_28 (by decide) ?_
    exact e_ZM hC hr hlk (Or.inl rfl) hP hS dX4_readStep_29 hf
  · have hf := if_f c4 hf
    refine lv_aload_n hx hb dX4_readStep_10 rfl (lv_at hl 0 rfl) ?_
    refine lv_iconst (v := (1 : Int32)) hx hb dX4_readStep_11 (by decide) ?_
    refine lv_iconst (v := (0 : Int32)) hx hb dX4_readStep_12 (by decide) ?_
    refine lv_bipush (v := (9 : Int32)) hx hb dX4_readStep_13 (by decide) ?_
    obtain ⟨r5, M7, hu6, hf⟩ := bd2_s hf
    refine r_goI (r_runV (As := [.int (1 : Int32), .int (0 : Int32), .int (9 : Int32)]) (rest := []) hC hP hS (k_X4_takeNumber hg hO hu6) cw_X4_51 q_375 q_376 q_377 (Rm.D 2 3 rfl) hO.1 rfl rfl hl.1 rfl (Nat.le_of_ble_eq_true rfl) dX4_readStep_15) hS (fun H locs hP hS => ?_)
    refine lv_if_eq (tgt := 28) hx hb dX4_readStep_18 (by decide) (fun c8 => ?_) (fun c8 => ?_)
    · have hf := if_t c8 hf
      refine lv_iconst (v := (0 : Int32)) hx hb dX4_readStep_28 (by decide) ?_
      exact e_ZM hC hr hlk (Or.inl rfl) hP hS dX4_readStep_29 hf
    · have hf := if_f c8 hf
      refine lv_aload_n hx hb dX4_readStep_21 rfl (lv_at hl 0 rfl) ?_
      obtain ⟨r9, M11, hu10, hf⟩ := bd2_s hf
      refine r_goI (r_runV (As := []) (rest := []) hC hP hS (k_X4_takeSemicolon hg hO hu10) cw_X4_55 q_383 q_384 q_385 (Rm.D 2 3 rfl) hO.1 rfl rfl hl.1 rfl (Nat.le_of_ble_eq_true rfl) dX4_readStep_22) hS (fun H locs hP hS => ?_)
      refine lv_if_ne (tgt := 30) hx hb dX4_readStep_25 (by decide) (fun c12 => ?_) (fun c12 => ?_)
      · have hf := if_f c12 hf
        refine lv_aload_n hx hb dX4_readStep_30 rfl (lv_at hl 0 rfl) ?_
        refine r_getR hC hP hO.1 fl_X4_15 rfl dX4_readStep_31 ?_
        refine r_getR hC hP hO.2.2.1.1 fl_X4_82 rfl dX4_readStep_34 ?_
        refine lv_aload_n hx hb dX4_readStep_37 rfl (lv_at hl 0 rfl) ?_
        refine r_getR hC hP hO.1 fl_X4_19 rfl dX4_readStep_38 ?_
        refine lv_iconst (v := (0 : Int32)) hx hb dX4_readStep_41 (by decide) ?_
        obtain ⟨hb13, hf⟩ := ck_s hf
        refine r_iald hC hP hO.2.2.2 hb13 dX4_readStep_42 ?_
        refine lv_aload_n hx hb dX4_readStep_43 rfl (lv_at hl 0 rfl) ?_
        refine r_getR hC hP hO.1 fl_X4_19 rfl dX4_readStep_44 ?_
        refine lv_iconst (v := (1 : Int32)) hx hb dX4_readStep_47 (by decide) ?_
        obtain ⟨hb14, hf⟩ := ck_s hf
        refine r_iald hC hP hO.2.2.2 hb14 dX4_readStep_48 ?_
        obtain ⟨hb15, hf⟩ := ck_s hf
        refine r_iast hC hP hS hO.2.2.1.2.1 hb15 dX4_readStep_49 (fun H locs hP hS => ?_)
        obtain ⟨M16, eM16, hf, hP⟩ := bsM hf hP
        refine lv_iconst (v := (1 : Int32)) hx hb dX4_readStep_50 (by decide) ?_
        exact e_ZM hC hr hlk (Or.inr rfl) hP hS dX4_readStep_51 hf
      · have hf := if_t c12 hf
        refine lv_iconst (v := (0 : Int32)) hx hb dX4_readStep_28 (by decide) ?_
        exact e_ZM hC hr hlk (Or.inl rfl) hP hS dX4_readStep_29 hf
set_option maxRecDepth 100000 in
set_option maxHeartbeats 4000000 in
theorem k_X4_readLumps {g : Ev} {l : Launch} (hg : g.2.1.Nodup) {kd : Nat} {rd : Nat} {t : Nat} (hO : oReader g kd t rd) {M : Mm} {N : Ml}  {v : Int32} {MR : Mm} (hf : f_X4_readLumps rd t M = some (v, MR)) : KM g l yX4_readLumps cX4_readLumps 1 (some .boolean) 3 [.ref rd] M N (QI g v MR N) := by
  refine KM.mk hg (by decide) (Nat.le_of_ble_eq_true rfl) ?_
  intro p e s m below meth c ls hC hr hlk hl hP hS
  have hx := hC.1
  have hb := hC.2.1
  have hl : lv_has ls 1 [(0, .ref rd)] := hl
  unfold f_X4_readLumps at hf
  refine lv_aload_n hx hb dX4_readLumps_0 rfl (lv_at hl 0 rfl) ?_
  refine lv_iconst (v := (0 : Int32)) hx hb dX4_readLumps_1 (by decide) ?_
  refine lv_iconst (v := (0 : Int32)) hx hb dX4_readLumps_2 (by decide) ?_
  refine lv_iconst (v := (4 : Int32)) hx hb dX4_readLumps_3 (by decide) ?_
  obtain ⟨r1, M3, hu2, hf⟩ := bd2_s hf
  refine r_goI (r_runV (As := [.int (0 : Int32), .int (0 : Int32), .int (4 : Int32)]) (rest := []) hC hP hS (k_X4_takeNumber hg hO hu2) cw_X4_51 q_375 q_376 q_377 (Rm.D 2 3 rfl) hO.1 rfl rfl hl.1 rfl (Nat.le_of_ble_eq_true rfl) dX4_readLumps_4) hS (fun H locs hP hS => ?_)
  refine lv_if_eq (tgt := 47) hx hb dX4_readLumps_7 (by decide) (fun c4 => ?_) (fun c4 => ?_)
  · have hf := if_t c4 hf
    refine lv_iconst (v := (0 : Int32)) hx hb dX4_readLumps_47 (by decide) ?_
    exact e_ZM hC hr hlk (Or.inl rfl) hP hS dX4_readLumps_48 hf
  · have hf := if_f c4 hf
    refine lv_aload_n hx hb dX4_readLumps_10 rfl (lv_at hl 0 rfl) ?_
    refine lv_iconst (v := (1 : Int32)) hx hb dX4_readLumps_11 (by decide) ?_
    refine lv_iconst (v := (0 : Int32)) hx hb dX4_readLumps_12 (by decide) ?_
    refine lv_aload_n hx hb dX4_readLumps_13 rfl (lv_at hl 0 rfl) ?_
    refine r_getR hC hP hO.1 fl_X4_15 rfl dX4_readLumps_14 ?_
    refine r_getI hC hP hO.2.2.1.1 fl_X4_85 rfl dX4_readLumps_17 ?_
    refine lv_iconst (v := (1 : Int32)) hx hb dX4_readLumps_20 (by decide) ?_
    refine lv_isub hx hb dX4_readLumps_21 ?_
    obtain ⟨r5, M7, hu6, hf⟩ := bd2_s hf
    refine r_goI (r_runV (As := [.int (1 : Int32), .int (0 : Int32), .int ((M3 (rd + 1) 9) - (1 : Int32))]) (rest := []) hC hP hS (k_X4_takeNumber hg hO hu6) cw_X4_51 q_375 q_376 q_377 (Rm.D 2 3 rfl) hO.1 rfl rfl hl.1 rfl (Nat.le_of_ble_eq_true rfl) dX4_readLumps_22) hS (fun H locs hP hS => ?_)
    refine lv_if_eq (tgt := 47) hx hb dX4_readLumps_25 (by decide) (fun c8 => ?_) (fun c8 => ?_)
    · have hf := if_t c8 hf
      refine lv_iconst (v := (0 : Int32)) hx hb dX4_readLumps_47 (by decide) ?_
      exact e_ZM hC hr hlk (Or.inl rfl) hP hS dX4_readLumps_48 hf
    · have hf := if_f c8 hf
      refine lv_aload_n hx hb dX4_readLumps_28 rfl (lv_at hl 0 rfl) ?_
      refine lv_iconst (v := (2 : Int32)) hx hb dX4_readLumps_29 (by decide) ?_
      refine lv_iconst (v := (0 : Int32)) hx hb dX4_readLumps_30 (by decide) ?_
      refine lv_sipush (v := (999 : Int32)) hx hb dX4_readLumps_31 (by decide) ?_
      obtain ⟨r9, M11, hu10, hf⟩ := bd2_s hf
      refine r_goI (r_runV (As := [.int (2 : Int32), .int (0 : Int32), .int (999 : Int32)]) (rest := []) hC hP hS (k_X4_takeNumber hg hO hu10) cw_X4_51 q_375 q_376 q_377 (Rm.D 2 3 rfl) hO.1 rfl rfl hl.1 rfl (Nat.le_of_ble_eq_true rfl) dX4_readLumps_34) hS (fun H locs hP hS => ?_)
      refine lv_if_eq (tgt := 47) hx hb dX4_readLumps_37 (by decide) (fun c12 => ?_) (fun c12 => ?_)
      · have hf := if_t c12 hf
        refine lv_iconst (v := (0 : Int32)) hx hb dX4_readLumps_47 (by decide) ?_
        exact e_ZM hC hr hlk (Or.inl rfl) hP hS dX4_readLumps_48 hf
      · have hf := if_f c12 hf
        refine lv_aload_n hx hb dX4_readLumps_40 rfl (lv_at hl 0 rfl) ?_
        obtain ⟨r13, M15, hu14, hf⟩ := bd2_s hf
        refine r_goI (r_runV (As := []) (rest := []) hC hP hS (k_X4_takeSemicolon hg hO hu14) cw_X4_55 q_383 q_384 q_385 (Rm.D 2 3 rfl) hO.1 rfl rfl hl.1 rfl (Nat.le_of_ble_eq_true rfl) dX4_readLumps_41) hS (fun H locs hP hS => ?_)
        refine lv_if_ne (tgt := 49) hx hb dX4_readLumps_44 (by decide) (fun c16 => ?_) (fun c16 => ?_)
        · have hf := if_f c16 hf
          refine lv_aload_n hx hb dX4_readLumps_49 rfl (lv_at hl 0 rfl) ?_
          refine r_getR hC hP hO.1 fl_X4_15 rfl dX4_readLumps_50 ?_
          refine lv_aload_n hx hb dX4_readLumps_53 rfl (lv_at hl 0 rfl) ?_
          refine r_getR hC hP hO.1 fl_X4_19 rfl dX4_readLumps_54 ?_
          refine lv_iconst (v := (0 : Int32)) hx hb dX4_readLumps_57 (by decide) ?_
          obtain ⟨hb17, hf⟩ := ck_s hf
          refine r_iald hC hP hO.2.2.2 hb17 dX4_readLumps_58 ?_
          refine lv_aload_n hx hb dX4_readLumps_59 rfl (lv_at hl 0 rfl) ?_
          refine r_getR hC hP hO.1 fl_X4_19 rfl dX4_readLumps_60 ?_
          refine lv_iconst (v := (1 : Int32)) hx hb dX4_readLumps_63 (by decide) ?_
          obtain ⟨hb18, hf⟩ := ck_s hf
          refine r_iald hC hP hO.2.2.2 hb18 dX4_readLumps_64 ?_
          refine lv_aload_n hx hb dX4_readLumps_65 rfl (lv_at hl 0 rfl) ?_
          refine r_getR hC hP hO.1 fl_X4_19 rfl dX4_readLumps_66 ?_
          refine lv_iconst (v := (2 : Int32)) hx hb dX4_readLumps_69 (by decide) ?_
          obtain ⟨hb19, hf⟩ := ck_s hf
          refine r_iald hC hP hO.2.2.2 hb19 dX4_readLumps_70 ?_
          obtain ⟨M22, hu21, hf⟩ := bd_s hf
          refine r_goV (r_runV (As := [.int (M15 (rd + 10) (0 : Int32).toNatClampNeg), .int (M15 (rd + 10) (1 : Int32).toNatClampNeg), .int (M15 (rd + 10) (2 : Int32).toNatClampNeg)]) (rest := []) hC hP hS (k_X5_setLumps hg hO.2.2.1 hu21) cw_X4_88 q_403 q_237 q_238 (Rm.D 1 3 rfl) hO.2.2.1.1 rfl rfl hl.1 rfl (Nat.le_of_ble_eq_true rfl) dX4_readLumps_71) hS (fun H locs hP hS => ?_)
          refine lv_iconst (v := (1 : Int32)) hx hb dX4_readLumps_74 (by decide) ?_
          exact e_ZM hC hr hlk (Or.inr rfl) hP hS dX4_readLumps_75 hf
        · have hf := if_t c16 hf
          refine lv_iconst (v := (0 : Int32)) hx hb dX4_readLumps_47 (by decide) ?_
          exact e_ZM hC hr hlk (Or.inl rfl) hP hS dX4_readLumps_48 hf
set_option maxRecDepth 100000 in
set_option maxHeartbeats 4000000 in
theorem k_X4_readMoon {g : Ev} {l : Launch} (hg : g.2.1.Nodup) {kd : Nat} {rd : Nat} {t : Nat} (hO : oReader g kd t rd) {M : Mm} {N : Ml}  {v : Int32} {MR : Mm} (hf : f_X4_readMoon rd t M = some (v, MR)) : KM g l yX4_readMoon cX4_readMoon 1 (some .boolean) 3 [.ref rd] M N (QI g v MR N) := by
  refine KM.mk hg (by decide) (Nat.le_of_ble_eq_true rfl) ?_
  intro p e s m below meth c ls hC hr hlk hl hP hS
  have hx := hC.1
  have hb := hC.2.1
  have hl : lv_has ls 1 [(0, .ref rd)] := hl
  unfold f_X4_readMoon at hf
  refine lv_aload_n hx hb dX4_readMoon_0 rfl (lv_at hl 0 rfl) ?_
  refine lv_iconst (v := (0 : Int32)) hx hb dX4_readMoon_1 (by decide) ?_
  refine lv_iconst (v := (0 : Int32)) hx hb dX4_readMoon_2 (by decide) ?_
  refine lv_iconst (v := (4 : Int32)) hx hb dX4_readMoon_3 (by decide) ?_
  obtain ⟨r1, M3, hu2, hf⟩ := bd2_s hf
  refine r_goI (r_runV (As := [.int (0 : Int32), .int (0 : Int32), .int (4 : Int32)]) (rest := []) hC hP hS (k_X4_takeNumber hg hO hu2) cw_X4_51 q_375 q_376 q_377 (Rm.D 2 3 rfl) hO.1 rfl rfl hl.1 rfl (Nat.le_of_ble_eq_true rfl) dX4_readMoon_4) hS (fun H locs hP hS => ?_)
  refine lv_if_eq (tgt := 56) hx hb dX4_readMoon_7 (by decide) (fun c4 => ?_) (fun c4 => ?_)
  · have hf := if_t c4 hf
    refine lv_iconst (v := (0 : Int32)) hx hb dX4_readMoon_56 (by decide) ?_
    exact e_ZM hC hr hlk (Or.inl rfl) hP hS dX4_readMoon_57 hf
  · have hf := if_f c4 hf
    refine lv_aload_n hx hb dX4_readMoon_10 rfl (lv_at hl 0 rfl) ?_
    refine lv_iconst (v := (1 : Int32)) hx hb dX4_readMoon_11 (by decide) ?_
    refine lv_iconst (v := (0 : Int32)) hx hb dX4_readMoon_12 (by decide) ?_
    refine lv_iconst (v := (5 : Int32)) hx hb dX4_readMoon_13 (by decide) ?_
    obtain ⟨r5, M7, hu6, hf⟩ := bd2_s hf
    refine r_goI (r_runV (As := [.int (1 : Int32), .int (0 : Int32), .int (5 : Int32)]) (rest := []) hC hP hS (k_X4_takeNumber hg hO hu6) cw_X4_51 q_375 q_376 q_377 (Rm.D 2 3 rfl) hO.1 rfl rfl hl.1 rfl (Nat.le_of_ble_eq_true rfl) dX4_readMoon_14) hS (fun H locs hP hS => ?_)
    refine lv_if_eq (tgt := 56) hx hb dX4_readMoon_17 (by decide) (fun c8 => ?_) (fun c8 => ?_)
    · have hf := if_t c8 hf
      refine lv_iconst (v := (0 : Int32)) hx hb dX4_readMoon_56 (by decide) ?_
      exact e_ZM hC hr hlk (Or.inl rfl) hP hS dX4_readMoon_57 hf
    · have hf := if_f c8 hf
      refine lv_aload_n hx hb dX4_readMoon_20 rfl (lv_at hl 0 rfl) ?_
      refine lv_iconst (v := (2 : Int32)) hx hb dX4_readMoon_21 (by decide) ?_
      refine lv_iconst (v := (0 : Int32)) hx hb dX4_readMoon_22 (by decide) ?_
      refine lv_aload_n hx hb dX4_readMoon_23 rfl (lv_at hl 0 rfl) ?_
      refine r_getR hC hP hO.1 fl_X4_15 rfl dX4_readMoon_24 ?_
      refine r_getI hC hP hO.2.2.1.1 fl_X4_85 rfl dX4_readMoon_27 ?_
      refine lv_iconst (v := (1 : Int32)) hx hb dX4_readMoon_30 (by decide) ?_
      refine lv_isub hx hb dX4_readMoon_31 ?_
      obtain ⟨r9, M11, hu10, hf⟩ := bd2_s hf
      refine r_goI (r_runV (As := [.int (2 : Int32), .int (0 : Int32), .int ((M7 (rd + 1) 9) - (1 : Int32))]) (rest := []) hC hP hS (k_X4_takeNumber hg hO hu10) cw_X4_51 q_375 q_376 q_377 (Rm.D 2 3 rfl) hO.1 rfl rfl hl.1 rfl (Nat.le_of_ble_eq_true rfl) dX4_readMoon_32) hS (fun H locs hP hS => ?_)
      refine lv_if_eq (tgt := 56) hx hb dX4_readMoon_35 (by decide) (fun c12 => ?_) (fun c12 => ?_)
      · have hf := if_t c12 hf
        refine lv_iconst (v := (0 : Int32)) hx hb dX4_readMoon_56 (by decide) ?_
        exact e_ZM hC hr hlk (Or.inl rfl) hP hS dX4_readMoon_57 hf
      · have hf := if_f c12 hf
        refine lv_aload_n hx hb dX4_readMoon_38 rfl (lv_at hl 0 rfl) ?_
        refine lv_iconst (v := (3 : Int32)) hx hb dX4_readMoon_39 (by decide) ?_
        refine lv_iconst (v := (0 : Int32)) hx hb dX4_readMoon_40 (by decide) ?_
        refine lv_bipush (v := (9 : Int32)) hx hb dX4_readMoon_41 (by decide) ?_
        obtain ⟨r13, M15, hu14, hf⟩ := bd2_s hf
        refine r_goI (r_runV (As := [.int (3 : Int32), .int (0 : Int32), .int (9 : Int32)]) (rest := []) hC hP hS (k_X4_takeNumber hg hO hu14) cw_X4_51 q_375 q_376 q_377 (Rm.D 2 3 rfl) hO.1 rfl rfl hl.1 rfl (Nat.le_of_ble_eq_true rfl) dX4_readMoon_43) hS (fun H locs hP hS => ?_)
        refine lv_if_eq (tgt := 56) hx hb dX4_readMoon_46 (by decide) (fun c16 => ?_) (fun c16 => ?_)
        · have hf := if_t c16 hf
          refine lv_iconst (v := (0 : Int32)) hx hb dX4_readMoon_56 (by decide) ?_
          exact e_ZM hC hr hlk (Or.inl rfl) hP hS dX4_readMoon_57 hf
        · have hf := if_f c16 hf
          refine lv_aload_n hx hb dX4_readMoon_49 rfl (lv_at hl 0 rfl) ?_
          obtain ⟨r17, M19, hu18, hf⟩ := bd2_s hf
          refine r_goI (r_runV (As := []) (rest := []) hC hP hS (k_X4_takeSemicolon hg hO hu18) cw_X4_55 q_383 q_384 q_385 (Rm.D 2 3 rfl) hO.1 rfl rfl hl.1 rfl (Nat.le_of_ble_eq_true rfl) dX4_readMoon_50) hS (fun H locs hP hS => ?_)
          refine lv_if_ne (tgt := 58) hx hb dX4_readMoon_53 (by decide) (fun c20 => ?_) (fun c20 => ?_)
          · have hf := if_f c20 hf
            refine lv_aload_n hx hb dX4_readMoon_58 rfl (lv_at hl 0 rfl) ?_
            refine r_getR hC hP hO.1 fl_X4_15 rfl dX4_readMoon_59 ?_
            refine lv_aload_n hx hb dX4_readMoon_62 rfl (lv_at hl 0 rfl) ?_
            refine r_getR hC hP hO.1 fl_X4_19 rfl dX4_readMoon_63 ?_
            refine lv_iconst (v := (0 : Int32)) hx hb dX4_readMoon_66 (by decide) ?_
            obtain ⟨hb21, hf⟩ := ck_s hf
            refine r_iald hC hP hO.2.2.2 hb21 dX4_readMoon_67 ?_
            refine lv_aload_n hx hb dX4_readMoon_68 rfl (lv_at hl 0 rfl) ?_
            refine r_getR hC hP hO.1 fl_X4_19 rfl dX4_readMoon_69 ?_
            refine lv_iconst (v := (1 : Int32)) hx hb dX4_readMoon_72 (by decide) ?_
            obtain ⟨hb22, hf⟩ := ck_s hf
            refine r_iald hC hP hO.2.2.2 hb22 dX4_readMoon_73 ?_
            refine lv_aload_n hx hb dX4_readMoon_74 rfl (lv_at hl 0 rfl) ?_
            refine r_getR hC hP hO.1 fl_X4_19 rfl dX4_readMoon_75 ?_
            refine lv_iconst (v := (2 : Int32)) hx hb dX4_readMoon_78 (by decide) ?_
            obtain ⟨hb23, hf⟩ := ck_s hf
            refine r_iald hC hP hO.2.2.2 hb23 dX4_readMoon_79 ?_
            refine lv_aload_n hx hb dX4_readMoon_80 rfl (lv_at hl 0 rfl) ?_
            refine r_getR hC hP hO.1 fl_X4_19 rfl dX4_readMoon_81 ?_
            refine lv_iconst (v := (3 : Int32)) hx hb dX4_readMoon_84 (by decide) ?_
            obtain ⟨hb24, hf⟩ := ck_s hf
            refine r_iald hC hP hO.2.2.2 hb24 dX4_readMoon_85 ?_
            obtain ⟨r25, M27, hu26, hf⟩ := bd2_s hf
            refine r_goI (r_runV (As := [.int (M19 (rd + 10) (0 : Int32).toNatClampNeg), .int (M19 (rd + 10) (1 : Int32).toNatClampNeg), .int (M19 (rd + 10) (2 : Int32).toNatClampNeg), .int (M19 (rd + 10) (3 : Int32).toNatClampNeg)]) (rest := []) hC hP hS (k_X5_addMoon hg hO.2.2.1 hu26) cw_X4_92 q_408 q_255 q_256 (Rm.D 0 3 rfl) hO.2.2.1.1 rfl rfl hl.1 rfl (Nat.le_of_ble_eq_true rfl) dX4_readMoon_86) hS (fun H locs hP hS => ?_)
            refine lv_pop hx hb dX4_readMoon_89 rfl ?_
            refine lv_iconst (v := (1 : Int32)) hx hb dX4_readMoon_90 (by decide) ?_
            exact e_ZM hC hr hlk (Or.inr rfl) hP hS dX4_readMoon_91 hf
          · have hf := if_t c20 hf
            refine lv_iconst (v := (0 : Int32)) hx hb dX4_readMoon_56 (by decide) ?_
            exact e_ZM hC hr hlk (Or.inl rfl) hP hS dX4_readMoon_57 hf
set_option maxRecDepth 100000 in
set_option maxHeartbeats 4000000 in
theorem k_X4_readItem {g : Ev} {l : Launch} (hg : g.2.1.Nodup) {kd : Nat} {rd : Nat} {t : Nat} (hO : oReader g kd t rd) {M : Mm} {N : Ml}  {v : Int32} {MR : Mm} (hf : f_X4_readItem rd t M = some (v, MR)) : KM g l yX4_readItem cX4_readItem 1 (some .boolean) 5 [.ref rd] M N (QI g v MR N) := by
  refine KM.mk hg (by decide) (Nat.le_of_ble_eq_true rfl) ?_
  intro p e s m below meth c ls hC hr hlk hl hP hS
  have hx := hC.1
  have hb := hC.2.1
  have hl : lv_has ls 1 [(0, .ref rd)] := hl
  unfold f_X4_readItem at hf
  refine lv_aload_n hx hb dX4_readItem_0 rfl (lv_at hl 0 rfl) ?_
  refine r_getR hC hP hO.1 fl_X4_9 rfl dX4_readItem_1 ?_
  refine va_ldcS hx hb hC.2.2.2.1 hC.2.2.2.2.2.1.2.2.2.2.2.2.2.1 dX4_readItem_4 ?_
  obtain ⟨r1, hu2, hf⟩ := bd_s hf
  refine r_goI (r_runV (As := [.ref (eK g 1)]) (rest := []) hC hP hS (k_X9_isWord hg hO.2.1 (by decide) hu2) cw_X4_47 q_322 q_323 q_324 (Rm.D 4 5 rfl) hO.2.1.1 rfl rfl hl.1 rfl (Nat.le_of_ble_eq_true rfl) dX4_readItem_6) hS (fun H locs hP hS => ?_)
  refine lv_if_eq (tgt := 17) hx hb dX4_readItem_9 (by decide) (fun c4 => ?_) (fun c4 => ?_)
  · have hf := if_t c4 hf
    refine lv_aload_n hx hb dX4_readItem_17 rfl (lv_at hl 0 rfl) ?_
    refine r_getR hC hP hO.1 fl_X4_9 rfl dX4_readItem_18 ?_
    refine va_ldcS hx hb hC.2.2.2.1 hC.2.2.2.2.2.1.2.2.2.2.2.2.2.2.1 dX4_readItem_21 ?_
    obtain ⟨r5, hu6, hf⟩ := bd_s hf
    refine r_goI (r_runV (As := [.ref (eK g 2)]) (rest := []) hC hP hS (k_X9_isWord hg hO.2.1 (by decide) hu6) cw_X4_47 q_322 q_323 q_324 (Rm.D 4 5 rfl) hO.2.1.1 rfl rfl hl.1 rfl (Nat.le_of_ble_eq_true rfl) dX4_readItem_23) hS (fun H locs hP hS => ?_)
    refine lv_if_eq (tgt := 34) hx hb dX4_readItem_26 (by decide) (fun c8 => ?_) (fun c8 => ?_)
    · have hf := if_t c8 hf
      refine lv_aload_n hx hb dX4_readItem_34 rfl (lv_at hl 0 rfl) ?_
      refine r_getR hC hP hO.1 fl_X4_9 rfl dX4_readItem_35 ?_
      refine va_ldcS hx hb hC.2.2.2.1 hC.2.2.2.2.2.1.2.2.2.2.2.2.2.2.2 dX4_readItem_38 ?_
      obtain ⟨r9, hu10, hf⟩ := bd_s hf
      refine r_goI (r_runV (As := [.ref (eK g 3)]) (rest := []) hC hP hS (k_X9_isWord hg hO.2.1 (by decide) hu10) cw_X4_47 q_322 q_323 q_324 (Rm.D 4 5 rfl) hO.2.1.1 rfl rfl hl.1 rfl (Nat.le_of_ble_eq_true rfl) dX4_readItem_40) hS (fun H locs hP hS => ?_)
      refine lv_if_eq (tgt := 68) hx hb dX4_readItem_43 (by decide) (fun c12 => ?_) (fun c12 => ?_)
      · have hf := if_t c12 hf
        refine lv_iconst (v := (0 : Int32)) hx hb dX4_readItem_68 (by decide) ?_
        exact e_ZM hC hr hlk (Or.inl rfl) hP hS dX4_readItem_69 hf
      · have hf := if_f c12 hf
        refine lv_aload_n hx hb dX4_readItem_46 rfl (lv_at hl 0 rfl) ?_
        refine r_getR hC hP hO.1 fl_X4_15 rfl dX4_readItem_47 ?_
        refine r_getI hC hP hO.2.2.1.1 fl_X4_76 rfl dX4_readItem_50 ?_
        refine lv_iconst (v := (4 : Int32)) hx hb dX4_readItem_53 (by decide) ?_
        refine lv_icmp_ge (tgt := 68) hx hb dX4_readItem_54 (by decide) (fun c13 => ?_) (fun c13 => ?_)
        · have hf := if_t c13 hf
          refine lv_iconst (v := (0 : Int32)) hx hb dX4_readItem_68 (by decide) ?_
          exact e_ZM hC hr hlk (Or.inl rfl) hP hS dX4_readItem_69 hf
        · have hf := if_f c13 hf
          refine lv_aload_n hx hb dX4_readItem_57 rfl (lv_at hl 0 rfl) ?_
          obtain ⟨r14, M16, hu15, hf⟩ := bd2_s hf
          refine r_goI (r_runV (As := []) (rest := []) hC hP hS (k_X4_readMoon hg hO hu15) cw_X4_79 q_404 q_405 q_406 (Rm.D 3 5 rfl) hO.1 rfl rfl hl.1 rfl (Nat.le_of_ble_eq_true rfl) dX4_readItem_58) hS (fun H locs hP hS => ?_)
          refine lv_if_eq (tgt := 68) hx hb dX4_readItem_61 (by decide) (fun c17 => ?_) (fun c17 => ?_)
          · have hf := if_t c17 hf
            refine lv_iconst (v := (0 : Int32)) hx hb dX4_readItem_68 (by decide) ?_
            exact e_ZM hC hr hlk (Or.inl rfl) hP hS dX4_readItem_69 hf
          · have hf := if_f c17 hf
            refine lv_iconst (v := (1 : Int32)) hx hb dX4_readItem_64 (by decide) ?_
            refine lv_goto (tgt := 69) hx hb dX4_readItem_65 (by decide) ?_
            exact e_ZM hC hr hlk (Or.inr rfl) hP hS dX4_readItem_69 hf
    · have hf := if_f c8 hf
      refine lv_aload_n hx hb dX4_readItem_29 rfl (lv_at hl 0 rfl) ?_
      obtain ⟨r18, M20, hu19, hf⟩ := bd2_s hf
      refine r_goI (r_runV (As := []) (rest := []) hC hP hS (k_X4_readLumps hg hO hu19) cw_X4_71 q_398 q_399 q_400 (Rm.D 3 5 rfl) hO.1 rfl rfl hl.1 rfl (Nat.le_of_ble_eq_true rfl) dX4_readItem_30) hS (fun H locs hP hS => ?_)
      obtain ⟨hn21, hf⟩ := cb_s hf
      exact e_ZM hC hr hlk hn21 hP hS dX4_readItem_33 hf
  · have hf := if_f c4 hf
    refine lv_aload_n hx hb dX4_readItem_12 rfl (lv_at hl 0 rfl) ?_
    obtain ⟨r22, M24, hu23, hf⟩ := bd2_s hf
    refine r_goI (r_runV (As := []) (rest := []) hC hP hS (k_X4_readStep hg hO hu23) cw_X4_66 q_393 q_394 q_395 (Rm.D 3 5 rfl) hO.1 rfl rfl hl.1 rfl (Nat.le_of_ble_eq_true rfl) dX4_readItem_13) hS (fun H locs hP hS => ?_)
    obtain ⟨hn25, hf⟩ := cb_s hf
    exact e_ZM hC hr hlk hn25 hP hS dX4_readItem_16 hf
set_option maxRecDepth 100000 in
set_option maxHeartbeats 4000000 in
theorem k_X4_readAll {g : Ev} {l : Launch} (hg : g.2.1.Nodup) {kd : Nat} {rd : Nat} {t : Nat} (hO : oReader g kd t rd) {M : Mm} {N : Ml}  {v : Int32} {MR : Mm} (hf : f_X4_readAll rd t M = some (v, MR)) : KM g l yX4_readAll cX4_readAll 2 (some .int) 6 [.ref rd] M N (QI g v MR N) := by
  refine KM.mk hg (by decide) (Nat.le_of_ble_eq_true rfl) ?_
  intro p e s m below meth c ls hC hr hlk hl hP hS
  have hx := hC.1
  have hb := hC.2.1
  have hl : lv_has ls 2 [(0, .ref rd)] := hl
  have L41 : ∀ (n : Nat) (x1 : Int32) (M : Mm) (H : Heap) (locs : List Loc) (ls : Array Slot), f_X4_readAll_L41 rd t n x1 M = some (v, MR) → wP g M N H → va_S (wA g) s.heap H locs → lv_has ls 2 [(0, .ref rd), (1, .int x1)] → W p l e (rmD 6) s m ([.ref rd] : List Value).toArray below meth c H locs 0 0 (MQ below (QI g v MR N) ([.ref rd] : List Value).toArray s 0 0 (wA g)) (F0 m 41 ls []) := by
    intro n
    induction n with
    | zero =>
      intro x1 M H locs ls hf
      exact absurd hf (by simp [f_X4_readAll_L41])
    | succ n ih =>
      intro x1 M H locs ls hf hP hS hl
      unfold f_X4_readAll_L41 at hf
      refine lv_iload_n hx hb dX4_readAll_41 rfl (lv_at hl 1 rfl) ?_
      refine lv_sipush (v := (250 : Int32)) hx hb dX4_readAll_42 (by decide) ?_
      refine lv_icmp_ge (tgt := 89) hx hb dX4_readAll_45 (by decide) (fun c14 => ?_) (fun c14 => ?_)
      · have hf := if_t c14 hf
        refine lv_iload_n hx hb dX4_readAll_89 rfl (lv_at hl 1 rfl) ?_
        exact e_IM hC hr hlk hP hS dX4_readAll_90 hf
      · have hf := if_f c14 hf
        refine lv_aload_n hx hb dX4_readAll_48 rfl (lv_at hl 0 rfl) ?_
        refine r_getR hC hP hO.1 fl_X4_9 rfl dX4_readAll_49 ?_
        refine r_getI hC hP hO.2.1.1 fl_X4_39 rfl dX4_readAll_52 ?_
        refine lv_if_eq (tgt := 89) hx hb dX4_readAll_55 (by decide) (fun c15 => ?_) (fun c15 => ?_)
        · have hf := if_t c15 hf
          refine lv_iload_n hx hb dX4_readAll_89 rfl (lv_at hl 1 rfl) ?_
          exact e_IM hC hr hlk hP hS dX4_readAll_90 hf
        · have hf := if_f c15 hf
          refine lv_aload_n hx hb dX4_readAll_58 rfl (lv_at hl 0 rfl) ?_
          obtain ⟨r16, M18, hu17, hf⟩ := bd2_s hf
          refine r_goI (r_runV (As := []) (rest := []) hC hP hS (k_X4_readItem hg hO hu17) cw_X4_42 q_388 q_389 q_390 (Rm.D 5 6 rfl) hO.1 rfl rfl hl.1 rfl (Nat.le_of_ble_eq_true rfl) dX4_readAll_59) hS (fun H locs hP hS => ?_)
          refine lv_if_ne (tgt := 76) hx hb dX4_readAll_62 (by decide) (fun c19 => ?_) (fun c19 => ?_)
          · have hf := if_f c19 hf
            obtain ⟨z20, ez20, hf⟩ := bsJ hf
            refine lv_iinc (v := z20) (lv' := [(1, .int z20), (0, .ref rd)]) hx hb dX4_readAll_76 hl (k := 1) rfl (by rw [ez20]; rfl) (by decide) rfl (fun ls hl => ?_)
            refine lv_aload_n hx hb dX4_readAll_79 rfl (lv_at hl 1 rfl) ?_
            refine r_getR hC hP hO.1 fl_X4_9 rfl dX4_readAll_80 ?_
            obtain ⟨M23, hu22, hf⟩ := bd_s hf
            refine r_goV (r_runV (As := []) (rest := []) hC hP hS (k_X9_nextToken hg hO.2.1 hu22) cw_X4_28 q_311 q_312 q_313 (Rm.D 1 6 rfl) hO.2.1.1 rfl rfl hl.1 rfl (Nat.le_of_ble_eq_true rfl) dX4_readAll_83) hS (fun H locs hP hS => ?_)
            refine lv_goto (tgt := 41) hx hb dX4_readAll_86 (by decide) ?_
            exact ih z20 M23 _ _ _ hf hP hS (lv_sub hl [1, 0] rfl)
          · have hf := if_t c19 hf
            refine lv_bipush (v := (-10 : Int32)) hx hb dX4_readAll_65 (by decide) ?_
            refine lv_aload_n hx hb dX4_readAll_67 rfl (lv_at hl 0 rfl) ?_
            refine r_getR hC hP hO.1 fl_X4_9 rfl dX4_readAll_68 ?_
            refine r_getI hC hP hO.2.1.1 fl_X4_35 rfl dX4_readAll_71 ?_
            refine lv_isub hx hb dX4_readAll_74 ?_
            exact e_IM hC hr hlk hP hS dX4_readAll_75 hf
  unfold f_X4_readAll at hf
  refine lv_aload_n hx hb dX4_readAll_0 rfl (lv_at hl 0 rfl) ?_
  refine r_getR hC hP hO.1 fl_X4_9 rfl dX4_readAll_1 ?_
  obtain ⟨M3, hu2, hf⟩ := bd_s hf
  refine r_goV (r_runV (As := []) (rest := []) hC hP hS (k_X9_rewind hg hO.2.1 hu2) cw_X4_23 q_310 q_136 q_137 (Rm.D 0 6 rfl) hO.2.1.1 rfl rfl hl.1 rfl (Nat.le_of_ble_eq_true rfl) dX4_readAll_4) hS (fun H locs hP hS => ?_)
  refine lv_aload_n hx hb dX4_readAll_7 rfl (lv_at hl 0 rfl) ?_
  refine r_getR hC hP hO.1 fl_X4_9 rfl dX4_readAll_8 ?_
  obtain ⟨M6, hu5, hf⟩ := bd_s hf
  refine r_goV (r_runV (As := []) (rest := []) hC hP hS (k_X9_nextToken hg hO.2.1 hu5) cw_X4_28 q_311 q_312 q_313 (Rm.D 1 6 rfl) hO.2.1.1 rfl rfl hl.1 rfl (Nat.le_of_ble_eq_true rfl) dX4_readAll_11) hS (fun H locs hP hS => ?_)
  refine lv_aload_n hx hb dX4_readAll_14 rfl (lv_at hl 0 rfl) ?_
  obtain ⟨r7, M9, hu8, hf⟩ := bd2_s hf
  refine r_goI (r_runV (As := []) (rest := []) hC hP hS (k_X4_readRing hg hO hu8) cw_X4_31 q_318 q_319 q_320 (Rm.D 5 6 rfl) hO.1 rfl rfl hl.1 rfl (Nat.le_of_ble_eq_true rfl) dX4_readAll_15) hS (fun H locs hP hS => ?_)
  refine lv_if_ne (tgt := 32) hx hb dX4_readAll_18 (by decide) (fun c10 => ?_) (fun c10 => ?_)
  · have hf := if_f c10 hf
    refine lv_iconst (v := (1 : Int32)) hx hb dX4_readAll_32 (by decide) ?_
    refine lv_istore_n (lv' := [(1, .int (1 : Int32)), (0, .ref rd)]) hx hb dX4_readAll_33 rfl hl (by decide) rfl (fun ls hl => ?_)
    refine lv_aload_n hx hb dX4_readAll_34 rfl (lv_at hl 1 rfl) ?_
    refine r_getR hC hP hO.1 fl_X4_9 rfl dX4_readAll_35 ?_
    obtain ⟨M13, hu12, hf⟩ := bd_s hf
    refine r_goV (r_runV (As := []) (rest := []) hC hP hS (k_X9_nextToken hg hO.2.1 hu12) cw_X4_28 q_311 q_312 q_313 (Rm.D 1 6 rfl) hO.2.1.1 rfl rfl hl.1 rfl (Nat.le_of_ble_eq_true rfl) dX4_readAll_38) hS (fun H locs hP hS => ?_)
    exact L41 _ (1 : Int32) M13 _ _ _ hf hP hS (lv_sub hl [1, 0] rfl)
  · have hf := if_t c10 hf
    refine lv_bipush (v := (-10 : Int32)) hx hb dX4_readAll_21 (by decide) ?_
    refine lv_aload_n hx hb dX4_readAll_23 rfl (lv_at hl 0 rfl) ?_
    refine r_getR hC hP hO.1 fl_X4_9 rfl dX4_readAll_24 ?_
    refine r_getI hC hP hO.2.1.1 fl_X4_35 rfl dX4_readAll_27 ?_
    refine lv_isub hx hb dX4_readAll_30 ?_
    exact e_IM hC hr hlk hP hS dX4_readAll_31 hf
