set_option maxRecDepth 100000 in
set_option maxHeartbeats 4000000 in
theorem k_X0_lossIn {g : Ev} {l : Launch} (hg : g.2.1.Nodup) {kd : Nat} {cs : Nat} {r : Nat} (hO : oCourse g kd r cs) {M : Mm} {N : Ml} {p0 : Int32} {v : Int32} {MR : Mm} (hf : f_X0_lossIn cs r p0 M = some (v, MR)) : KM g l yX0_lossIn cX0_lossIn 2 (some .int) 5 [.ref cs, .int p0] M N (QI g v MR N) := by
  refine KM.mk hg (by decide) (Nat.le_of_ble_eq_true rfl) ?_
  intro p e s m below meth c ls hC hr hlk hl hP hS
  have hx := hC.1
  have hb := hC.2.1
  have hl : lv_has ls 2 [(0, .ref cs), (1, .int p0)] := hl
  unfold f_X0_lossIn at hf
  refine lv_aload_n hx hb dX0_lossIn_0 rfl (lv_at hl 0 rfl) ?_
  refine r_getR hC hP hO.1 fl_X0_15 rfl dX0_lossIn_1 ?_
  refine lv_aload_n hx hb dX0_lossIn_4 rfl (lv_at hl 0 rfl) ?_
  refine r_getR hC hP hO.1 fl_X0_9 rfl dX0_lossIn_5 ?_
  obtain ⟨M3, hu2, hf⟩ := bd_s hf
  refine r_goV (r_runV (As := [.ref r]) (rest := []) hC hP hS (k_X5_copy hg hO.2.2.1 hO.2.1 hu2) cw_X0_53 q_706 q_410 q_411 (Rm.D 2 5 rfl) hO.2.2.1.1 rfl rfl hl.1 rfl (Nat.le_of_ble_eq_true rfl) dX0_lossIn_8) hS (fun H locs hP hS => ?_)
  refine lv_aload_n hx hb dX0_lossIn_11 rfl (lv_at hl 0 rfl) ?_
  refine r_getR hC hP hO.1 fl_X0_15 rfl dX0_lossIn_12 ?_
  refine lv_iload_n hx hb dX0_lossIn_15 rfl (lv_at hl 1 rfl) ?_
  obtain ⟨r4, M6, hu5, hf⟩ := bd2_s hf
  refine r_goI (r_runV (As := [.int p0]) (rest := []) hC hP hS (k_X5_goOnBy hg hO.2.2.1 hu5) cw_X0_59 q_707 q_708 q_709 (Rm.D 4 5 rfl) hO.2.2.1.1 rfl rfl hl.1 rfl (Nat.le_of_ble_eq_true rfl) dX0_lossIn_16) hS (fun H locs hP hS => ?_)
  exact e_IM hC hr hlk hP hS dX0_lossIn_19 hf
set_option maxRecDepth 100000 in
set_option maxHeartbeats 4000000 in
theorem k_X5_isClear {g : Ev} {l : Launch} (hg : g.2.1.Nodup) {kd : Nat} {a : Nat} (hO : oRing g kd a) {M : Mm} {N : Ml} {p0 : Int32} {v : Int32} (hf : f_X5_isClear a p0 M = some v) : KM g l yX5_isClear cX5_isClear 3 (some .boolean) 2 [.ref a, .int p0] M N (QI g v M N) := by
  refine KM.mk hg (by decide) (Nat.le_of_ble_eq_true rfl) ?_
  intro p e s m below meth c ls hC hr hlk hl hP hS
  have hx := hC.1
  have hb := hC.2.1
  have hl : lv_has ls 3 [(0, .ref a), (1, .int p0)] := hl
  have L2 : ∀ (n : Nat) (x1 : Int32) (x2 : Int32) (H : Heap) (locs : List Loc) (ls : Array Slot), f_X5_isClear_L2 a M n x1 x2 = some v → wP g M N H → va_S (wA g) s.heap H locs → lv_has ls 3 [(0, .ref a), (1, .int x1), (2, .int x2)] → W p l e (rmD 2) s m ([.ref a, .int p0] : List Value).toArray below meth c H locs 0 0 (MQ below (QI g v M N) ([.ref a, .int p0] : List Value).toArray s 0 0 (wA g)) (F0 m 2 ls []) := by
    intro n
    induction n with
    | zero =>
      intro x1 x2 H locs ls hf
      exact absurd hf (by simp [f_X5_isClear_L2])
    | succ n ih =>
      intro x1 x2 H locs ls hf hP hS hl
      unfold f_X5_isClear_L2 at hf
      refine lv_iload_n hx hb dX5_isClear_2 rfl (lv_at hl 2 rfl) ?_
      refine lv_iconst (v := (5 : Int32)) hx hb dX5_isClear_3 (by decide) ?_
      refine lv_icmp_ge (tgt := 24) hx hb dX5_isClear_4 (by decide) (fun c1 => ?_) (fun c1 => ?_)
      · have hf := if_t c1 hf
        refine lv_iconst (v := (1 : Int32)) hx hb dX5_isClear_24 (by decide) ?_
        exact e_Z hC hr hlk (Or.inr rfl) hP hS dX5_isClear_25 hf
      · have hf := if_f c1 hf
        refine lv_aload_n hx hb dX5_isClear_7 rfl (lv_at hl 0 rfl) ?_
        refine lv_iload_n hx hb dX5_isClear_8 rfl (lv_at hl 2 rfl) ?_
        refine lv_iload_n hx hb dX5_isClear_9 rfl (lv_at hl 1 rfl) ?_
        obtain ⟨r2, hu3, hf⟩ := bd_s hf
        refine r_goI (r_runV (As := [.int x2, .int x1]) (rest := []) hC hP hS (k_X5_lumpsAt hg hO hu3) cw_X5_81 q_784 q_229 q_230 (Rm.D 1 2 rfl) hO.1 rfl rfl hl.1 rfl (Nat.le_of_ble_eq_true rfl) dX5_isClear_10) hS (fun H locs hP hS => ?_)
        refine lv_if_le (tgt := 18) hx hb dX5_isClear_13 (by decide) (fun c5 => ?_) (fun c5 => ?_)
        · have hf := if_t c5 hf
          obtain ⟨z6, ez6, hf⟩ := bsJ hf
          refine lv_iinc (v := z6) (lv' := [(2, .int z6), (0, .ref a), (1, .int x1)]) hx hb dX5_isClear_18 hl (k := 2) rfl (by rw [ez6]; rfl) (by decide) rfl (fun ls hl => ?_)
          refine lv_goto (tgt := 2) hx hb dX5_isClear_21 (by decide) ?_
          exact ih x1 z6 _ _ _ hf hP hS (lv_sub hl [1, 2, 0] rfl)
        · have hf := if_f c5 hf
          refine lv_iconst (v := (0 : Int32)) hx hb dX5_isClear_16 (by decide) ?_
          exact e_Z hC hr hlk (Or.inl rfl) hP hS dX5_isClear_17 hf
  unfold f_X5_isClear at hf
  refine lv_iconst (v := (0 : Int32)) hx hb dX5_isClear_0 (by decide) ?_
  refine lv_istore_n (lv' := [(2, .int (0 : Int32)), (0, .ref a), (1, .int p0)]) hx hb dX5_isClear_1 rfl hl (by decide) rfl (fun ls hl => ?_)
  exact L2 _ p0 (0 : Int32) _ _ _ hf hP hS (lv_sub hl [1, 2, 0] rfl)
set_option maxRecDepth 100000 in
set_option maxHeartbeats 4000000 in
theorem k_X0_roadLasts {g : Ev} {l : Launch} (hg : g.2.1.Nodup) {kd : Nat} {cs : Nat} {r : Nat} (hO : oCourse g kd r cs) {M : Mm} {N : Ml} {p0 : Int32} {p1 : Int32} {p2 : Int32} {v : Int32} {MR : Mm} (hf : f_X0_roadLasts cs r p0 p1 p2 M = some (v, MR)) : KM g l yX0_roadLasts cX0_roadLasts 5 (some .int) 4 [.ref cs, .int p0, .int p1, .int p2] M N (QI g v MR N) := by
  refine KM.mk hg (by decide) (Nat.le_of_ble_eq_true rfl) ?_
  intro p e s m below meth c ls hC hr hlk hl hP hS
  have hx := hC.1
  have hb := hC.2.1
  have hl : lv_has ls 5 [(0, .ref cs), (1, .int p0), (2, .int p1), (3, .int p2)] := hl
  have L3 : ∀ (n : Nat) (x1 : Int32) (x2 : Int32) (x3 : Int32) (x4 : Int32) (M : Mm) (H : Heap) (locs : List Loc) (ls : Array Slot), f_X0_roadLasts_L3 cs r n x1 x2 x3 x4 M = some (v, MR) → wP g M N H → va_S (wA g) s.heap H locs → lv_has ls 5 [(0, .ref cs), (1, .int x1), (2, .int x2), (3, .int x3), (4, .int x4)] → W p l e (rmD 4) s m ([.ref cs, .int p0, .int p1, .int p2] : List Value).toArray below meth c H locs 0 0 (MQ below (QI g v MR N) ([.ref cs, .int p0, .int p1, .int p2] : List Value).toArray s 0 0 (wA g)) (F0 m 3 ls []) := by
    intro n
    induction n with
    | zero =>
      intro x1 x2 x3 x4 M H locs ls hf
      exact absurd hf (by simp [f_X0_roadLasts_L3])
    | succ n ih =>
      intro x1 x2 x3 x4 M H locs ls hf hP hS hl
      unfold f_X0_roadLasts_L3 at hf
      refine lv_iload hx hb dX0_roadLasts_3 (lv_at hl 4 rfl) ?_
      refine lv_iload_n hx hb dX0_roadLasts_5 rfl (lv_at hl 2 rfl) ?_
      refine lv_icmp_gt (tgt := 34) hx hb dX0_roadLasts_6 (by decide) (fun c1 => ?_) (fun c1 => ?_)
      · have hf := if_t c1 hf
        refine lv_iload hx hb dX0_roadLasts_34 (lv_at hl 4 rfl) ?_
        refine lv_iload_n hx hb dX0_roadLasts_36 rfl (lv_at hl 3 rfl) ?_
        refine lv_isub hx hb dX0_roadLasts_37 ?_
        exact e_IM hC hr hlk hP hS dX0_roadLasts_38 hf
      · have hf := if_f c1 hf
        refine lv_aload_n hx hb dX0_roadLasts_9 rfl (lv_at hl 0 rfl) ?_
        refine r_getR hC hP hO.1 fl_X0_15 rfl dX0_roadLasts_10 ?_
        refine lv_iload_n hx hb dX0_roadLasts_13 rfl (lv_at hl 1 rfl) ?_
        obtain ⟨r2, hu3, hf⟩ := bd_s hf
        refine r_goI (r_runV (As := [.int x1]) (rest := []) hC hP hS (k_X5_isClear hg hO.2.2.1 hu3) cw_X0_108 q_780 q_781 q_782 (Rm.D 2 4 rfl) hO.2.2.1.1 rfl rfl hl.1 rfl (Nat.le_of_ble_eq_true rfl) dX0_roadLasts_14) hS (fun H locs hP hS => ?_)
        refine lv_if_eq (tgt := 34) hx hb dX0_roadLasts_17 (by decide) (fun c5 => ?_) (fun c5 => ?_)
        · have hf := if_t c5 hf
          refine lv_iload hx hb dX0_roadLasts_34 (lv_at hl 4 rfl) ?_
          refine lv_iload_n hx hb dX0_roadLasts_36 rfl (lv_at hl 3 rfl) ?_
          refine lv_isub hx hb dX0_roadLasts_37 ?_
          exact e_IM hC hr hlk hP hS dX0_roadLasts_38 hf
        · have hf := if_f c5 hf
          refine lv_aload_n hx hb dX0_roadLasts_20 rfl (lv_at hl 0 rfl) ?_
          refine r_getR hC hP hO.1 fl_X0_15 rfl dX0_roadLasts_21 ?_
          obtain ⟨r6, M8, hu7, hf⟩ := bd2_s hf
          refine r_goI (r_runV (As := []) (rest := []) hC hP hS (k_X5_goOn hg hO.2.2.1 hu7) cw_X0_111 q_785 q_481 q_482 (Rm.D 3 4 rfl) hO.2.2.1.1 rfl rfl hl.1 rfl (Nat.le_of_ble_eq_true rfl) dX0_roadLasts_24) hS (fun H locs hP hS => ?_)
          refine lv_pop hx hb dX0_roadLasts_27 rfl ?_
          obtain ⟨z9, ez9, hf⟩ := bsJ hf
          refine lv_iinc (v := z9) (lv' := [(4, .int z9), (0, .ref cs), (1, .int x1), (2, .int x2), (3, .int x3)]) hx hb dX0_roadLasts_28 hl (k := 4) rfl (by rw [ez9]; rfl) (by decide) rfl (fun ls hl => ?_)
          refine lv_goto (tgt := 3) hx hb dX0_roadLasts_31 (by decide) ?_
          exact ih x1 x2 x3 z9 M8 _ _ _ hf hP hS (lv_sub hl [1, 2, 3, 4, 0] rfl)
  unfold f_X0_roadLasts at hf
  refine lv_iload_n hx hb dX0_roadLasts_0 rfl (lv_at hl 3 rfl) ?_
  refine lv_istore (lv' := [(4, .int p2), (0, .ref cs), (1, .int p0), (2, .int p1), (3, .int p2)]) hx hb dX0_roadLasts_1 hl (by decide) rfl (fun ls hl => ?_)
  exact L3 _ p0 p1 p2 p2 M _ _ _ hf hP hS (lv_sub hl [1, 2, 3, 4, 0] rfl)
set_option maxRecDepth 100000 in
set_option maxHeartbeats 4000000 in
theorem k_X0_roadOpens {g : Ev} {l : Launch} (hg : g.2.1.Nodup) {kd : Nat} {cs : Nat} {r : Nat} (hO : oCourse g kd r cs) {M : Mm} {N : Ml} {p0 : Int32} {p1 : Int32} {v : Int32} {MR : Mm} (hf : f_X0_roadOpens cs r p0 p1 M = some (v, MR)) : KM g l yX0_roadOpens cX0_roadOpens 4 (some .int) 4 [.ref cs, .int p0, .int p1] M N (QI g v MR N) := by
  refine KM.mk hg (by decide) (Nat.le_of_ble_eq_true rfl) ?_
  intro p e s m below meth c ls hC hr hlk hl hP hS
  have hx := hC.1
  have hb := hC.2.1
  have hl : lv_has ls 4 [(0, .ref cs), (1, .int p0), (2, .int p1)] := hl
  have L13 : ∀ (n : Nat) (x1 : Int32) (x2 : Int32) (x3 : Int32) (M : Mm) (H : Heap) (locs : List Loc) (ls : Array Slot), f_X0_roadOpens_L13 cs r n x1 x2 x3 M = some (v, MR) → wP g M N H → va_S (wA g) s.heap H locs → lv_has ls 4 [(0, .ref cs), (1, .int x1), (2, .int x2), (3, .int x3)] → W p l e (rmD 4) s m ([.ref cs, .int p0, .int p1] : List Value).toArray below meth c H locs 0 0 (MQ below (QI g v MR N) ([.ref cs, .int p0, .int p1] : List Value).toArray s 0 0 (wA g)) (F0 m 13 ls []) := by
    intro n
    induction n with
    | zero =>
      intro x1 x2 x3 M H locs ls hf
      exact absurd hf (by simp [f_X0_roadOpens_L13])
    | succ n ih =>
      intro x1 x2 x3 M H locs ls hf hP hS hl
      unfold f_X0_roadOpens_L13 at hf
      refine lv_iload_n hx hb dX0_roadOpens_13 rfl (lv_at hl 3 rfl) ?_
      refine lv_iload_n hx hb dX0_roadOpens_14 rfl (lv_at hl 2 rfl) ?_
      refine lv_icmp_gt (tgt := 45) hx hb dX0_roadOpens_15 (by decide) (fun c4 => ?_) (fun c4 => ?_)
      · have hf := if_t c4 hf
        refine lv_iconst (v := (-1 : Int32)) hx hb dX0_roadOpens_45 (by decide) ?_
        exact e_IM hC hr hlk hP hS dX0_roadOpens_46 hf
      · have hf := if_f c4 hf
        refine lv_aload_n hx hb dX0_roadOpens_18 rfl (lv_at hl 0 rfl) ?_
        refine r_getR hC hP hO.1 fl_X0_15 rfl dX0_roadOpens_19 ?_
        refine lv_iload_n hx hb dX0_roadOpens_22 rfl (lv_at hl 1 rfl) ?_
        obtain ⟨r5, hu6, hf⟩ := bd_s hf
        refine r_goI (r_runV (As := [.int x1]) (rest := []) hC hP hS (k_X5_isClear hg hO.2.2.1 hu6) cw_X0_108 q_780 q_781 q_782 (Rm.D 2 4 rfl) hO.2.2.1.1 rfl rfl hl.1 rfl (Nat.le_of_ble_eq_true rfl) dX0_roadOpens_23) hS (fun H locs hP hS => ?_)
        refine lv_if_eq (tgt := 31) hx hb dX0_roadOpens_26 (by decide) (fun c8 => ?_) (fun c8 => ?_)
        · have hf := if_t c8 hf
          refine lv_aload_n hx hb dX0_roadOpens_31 rfl (lv_at hl 0 rfl) ?_
          refine r_getR hC hP hO.1 fl_X0_15 rfl dX0_roadOpens_32 ?_
          obtain ⟨r9, M11, hu10, hf⟩ := bd2_s hf
          refine r_goI (r_runV (As := []) (rest := []) hC hP hS (k_X5_goOn hg hO.2.2.1 hu10) cw_X0_111 q_785 q_481 q_482 (Rm.D 3 4 rfl) hO.2.2.1.1 rfl rfl hl.1 rfl (Nat.le_of_ble_eq_true rfl) dX0_roadOpens_35) hS (fun H locs hP hS => ?_)
          refine lv_pop hx hb dX0_roadOpens_38 rfl ?_
          obtain ⟨z12, ez12, hf⟩ := bsJ hf
          refine lv_iinc (v := z12) (lv' := [(3, .int z12), (0, .ref cs), (1, .int x1), (2, .int x2)]) hx hb dX0_roadOpens_39 hl (k := 3) rfl (by rw [ez12]; rfl) (by decide) rfl (fun ls hl => ?_)
          refine lv_goto (tgt := 13) hx hb dX0_roadOpens_42 (by decide) ?_
          exact ih x1 x2 z12 M11 _ _ _ hf hP hS (lv_sub hl [1, 2, 3, 0] rfl)
        · have hf := if_f c8 hf
          refine lv_iload_n hx hb dX0_roadOpens_29 rfl (lv_at hl 3 rfl) ?_
          exact e_IM hC hr hlk hP hS dX0_roadOpens_30 hf
  unfold f_X0_roadOpens at hf
  refine lv_aload_n hx hb dX0_roadOpens_0 rfl (lv_at hl 0 rfl) ?_
  refine r_getR hC hP hO.1 fl_X0_15 rfl dX0_roadOpens_1 ?_
  refine lv_aload_n hx hb dX0_roadOpens_4 rfl (lv_at hl 0 rfl) ?_
  refine r_getR hC hP hO.1 fl_X0_9 rfl dX0_roadOpens_5 ?_
  obtain ⟨M3, hu2, hf⟩ := bd_s hf
  refine r_goV (r_runV (As := [.ref r]) (rest := []) hC hP hS (k_X5_copy hg hO.2.2.1 hO.2.1 hu2) cw_X0_53 q_706 q_410 q_411 (Rm.D 2 4 rfl) hO.2.2.1.1 rfl rfl hl.1 rfl (Nat.le_of_ble_eq_true rfl) dX0_roadOpens_8) hS (fun H locs hP hS => ?_)
  refine lv_iconst (v := (0 : Int32)) hx hb dX0_roadOpens_11 (by decide) ?_
  refine lv_istore_n (lv' := [(3, .int (0 : Int32)), (0, .ref cs), (1, .int p0), (2, .int p1)]) hx hb dX0_roadOpens_12 rfl hl (by decide) rfl (fun ls hl => ?_)
  exact L13 _ p0 p1 (0 : Int32) M3 _ _ _ hf hP hS (lv_sub hl [1, 2, 3, 0] rfl)
set_option maxRecDepth 100000 in
set_option maxHeartbeats 4000000 in
theorem k_X0_takenAt {g : Ev} {l : Launch} (hg : g.2.1.Nodup) {kd : Nat} {cs : Nat} {r : Nat} (hO : oCourse g kd r cs) {M : Mm} {N : Ml} {p0 : Int32} {v : Int32} (hf : f_X0_takenAt cs r p0 M = some v) : KM g l yX0_takenAt cX0_takenAt 2 (some .int) 0 [.ref cs, .int p0] M N (QI g v M N) := by
  refine KM.mk hg (by decide) (Nat.le_of_ble_eq_true rfl) ?_
  intro p e s m below meth c ls hC hr hlk hl hP hS
  have hx := hC.1
  have hb := hC.2.1
  have hl : lv_has ls 2 [(0, .ref cs), (1, .int p0)] := hl
  unfold f_X0_takenAt at hf
  refine lv_aload_n hx hb dX0_takenAt_0 rfl (lv_at hl 0 rfl) ?_
  refine r_getR hC hP hO.1 fl_X0_35 rfl dX0_takenAt_1 ?_
  refine lv_iload_n hx hb dX0_takenAt_4 rfl (lv_at hl 1 rfl) ?_
  obtain ⟨hb1, hf⟩ := ck_s hf
  refine r_iald hC hP hO.2.2.2.2.2.2.2.1 hb1 dX0_takenAt_5 ?_
  exact e_I hC hr hlk hP hS dX0_takenAt_6 hf
set_option maxRecDepth 100000 in
set_option maxHeartbeats 4000000 in
theorem k_X11_isWithin {g : Ev} {l : Launch} (hg : g.2.1.Nodup)   {M : Mm} {N : Ml} {p0 : Int32} {p1 : Int32} {p2 : Int32} {v : Int32} (hf : f_X11_isWithin p0 p1 p2 M = some v) : KM g l yX11_isWithin cX11_isWithin 3 (some .boolean) 0 [.int p0, .int p1, .int p2] M N (QI g v M N) := by
  refine KM.mk hg (by decide) (Nat.le_of_ble_eq_true rfl) ?_
  intro p e s m below meth c ls hC hr hlk hl hP hS
  have hx := hC.1
  have hb := hC.2.1
  have hl : lv_has ls 3 [(0, .int p0), (1, .int p1), (2, .int p2)] := hl
  unfold f_X11_isWithin at hf
  refine lv_iload_n hx hb dX11_isWithin_0 rfl (lv_at hl 0 rfl) ?_
  refine lv_iload_n hx hb dX11_isWithin_1 rfl (lv_at hl 1 rfl) ?_
  refine lv_icmp_lt (tgt := 14) hx hb dX11_isWithin_2 (by decide) (fun c1 => ?_) (fun c1 => ?_)
  · have hf := if_t c1 hf
    refine lv_iconst (v := (0 : Int32)) hx hb dX11_isWithin_14 (by decide) ?_
    exact e_Z hC hr hlk (Or.inl rfl) hP hS dX11_isWithin_15 hf
  · have hf := if_f c1 hf
    refine lv_iload_n hx hb dX11_isWithin_5 rfl (lv_at hl 0 rfl) ?_
    refine lv_iload_n hx hb dX11_isWithin_6 rfl (lv_at hl 2 rfl) ?_
    refine lv_icmp_gt (tgt := 14) hx hb dX11_isWithin_7 (by decide) (fun c2 => ?_) (fun c2 => ?_)
    · have hf := if_t c2 hf
      refine lv_iconst (v := (0 : Int32)) hx hb dX11_isWithin_14 (by decide) ?_
      exact e_Z hC hr hlk (Or.inl rfl) hP hS dX11_isWithin_15 hf
    · have hf := if_f c2 hf
      refine lv_iconst (v := (1 : Int32)) hx hb dX11_isWithin_10 (by decide) ?_
      refine lv_goto (tgt := 15) hx hb dX11_isWithin_11 (by decide) ?_
      exact e_Z hC hr hlk (Or.inr rfl) hP hS dX11_isWithin_15 hf
set_option maxRecDepth 100000 in
set_option maxHeartbeats 4000000 in
theorem k_X11_isMoon {g : Ev} {l : Launch} (hg : g.2.1.Nodup) {x : Nat} (hO : oTop g x) {M : Mm} {N : Ml} {p0 : Int32} {v : Int32} (hf : f_X11_isMoon x p0 M = some v) : KM g l yX11_isMoon cX11_isMoon 2 (some .boolean) 1 [.ref x, .int p0] M N (QI g v M N) := by
  refine KM.mk hg (by decide) (Nat.le_of_ble_eq_true rfl) ?_
  intro p e s m below meth c ls hC hr hlk hl hP hS
  have hx := hC.1
  have hb := hC.2.1
  have hl : lv_has ls 2 [(0, .ref x), (1, .int p0)] := hl
  unfold f_X11_isMoon at hf
  refine lv_iload_n hx hb dX11_isMoon_0 rfl (lv_at hl 1 rfl) ?_
  refine lv_iconst (v := (0 : Int32)) hx hb dX11_isMoon_1 (by decide) ?_
  refine lv_aload_n hx hb dX11_isMoon_2 rfl (lv_at hl 0 rfl) ?_
  refine r_getR hC hP hO.1 fl_X11_27 rfl dX11_isMoon_3 ?_
  refine r_getR hC hP hO.2.1.1 fl_X11_43 rfl dX11_isMoon_6 ?_
  refine r_getI hC hP hO.2.1.2.1.1 fl_X11_120 rfl dX11_isMoon_9 ?_
  refine lv_iconst (v := (1 : Int32)) hx hb dX11_isMoon_12 (by decide) ?_
  refine lv_isub hx hb dX11_isMoon_13 ?_
  obtain ⟨r1, hu2, hf⟩ := bd_s hf
  refine r_goI (r_runS (As := [.int p0, .int (0 : Int32), .int ((M (x + 7 + 1) 10) - (1 : Int32))]) (rest := []) hC hP hS (k_X11_isWithin hg hu2) cw_X11_84 q_175 q_176 (Rm.D 0 1 rfl) rfl hl.1 rfl (Nat.le_of_ble_eq_true rfl) dX11_isMoon_14) hS (fun H locs hP hS => ?_)
  obtain ⟨hn4, hf⟩ := cb_s hf
  exact e_Z hC hr hlk hn4 hP hS dX11_isMoon_17 hf
set_option maxRecDepth 100000 in
set_option maxHeartbeats 4000000 in
theorem k_X11_refuse {g : Ev} {l : Launch} (hg : g.2.1.Nodup) {x : Nat} (hO : oTop g x) {M : Mm} {N : Ml} {p0 : Int32} {p1 : Int32} {v : Int32} {MR : Mm} (hf : f_X11_refuse x p0 p1 M = some (v, MR)) : KM g l yX11_refuse cX11_refuse 3 (some .int) 0 [.ref x, .int p0, .int p1] M N (QI g v MR N) := by
  refine KM.mk hg (by decide) (Nat.le_of_ble_eq_true rfl) ?_
  intro p e s m below meth c ls hC hr hlk hl hP hS
  have hx := hC.1
  have hb := hC.2.1
  have hl : lv_has ls 3 [(0, .ref x), (1, .int p0), (2, .int p1)] := hl
  unfold f_X11_refuse at hf
  refine lv_aload_n hx hb dX11_refuse_0 rfl (lv_at hl 0 rfl) ?_
  refine r_getR hC hP hO.1 fl_X11_73 rfl dX11_refuse_1 ?_
  refine lv_iload_n hx hb dX11_refuse_4 rfl (lv_at hl 1 rfl) ?_
  refine lv_dup2_11 hx hb dX11_refuse_5 rfl rfl ?_
  obtain ⟨hb1, hf⟩ := ck_s hf
  refine r_iald hC hP hO.2.2.2.2.2.2.2.2 hb1 dX11_refuse_6 ?_
  refine lv_iconst (v := (1 : Int32)) hx hb dX11_refuse_7 (by decide) ?_
  refine lv_iadd hx hb dX11_refuse_8 ?_
  obtain ⟨hb2, hf⟩ := ck_s hf
  refine r_iast hC hP hS hO.2.2.2.2.2.2.2.2 hb2 dX11_refuse_9 (fun H locs hP hS => ?_)
  obtain ⟨M3, eM3, hf, hP⟩ := bsM hf hP
  refine lv_iload_n hx hb dX11_refuse_10 rfl (lv_at hl 2 rfl) ?_
  exact e_IM hC hr hlk hP hS dX11_refuse_11 hf
set_option maxRecDepth 100000 in
set_option maxHeartbeats 4000000 in
theorem k_X5_aboutMoon {g : Ev} {l : Launch} (hg : g.2.1.Nodup) {kd : Nat} {a : Nat} (hO : oRing g kd a) {M : Mm} {N : Ml} {p0 : Int32} {p1 : Int32} {v : Int32} (hf : f_X5_aboutMoon a p0 p1 M = some v) : KM g l yX5_aboutMoon cX5_aboutMoon 3 (some .int) 0 [.ref a, .int p0, .int p1] M N (QI g v M N) := by
  refine KM.mk hg (by decide) (Nat.le_of_ble_eq_true rfl) ?_
  intro p e s m below meth c ls hC hr hlk hl hP hS
  have hx := hC.1
  have hb := hC.2.1
  have hl : lv_has ls 3 [(0, .ref a), (1, .int p0), (2, .int p1)] := hl
  unfold f_X5_aboutMoon at hf
  refine lv_iload_n hx hb dX5_aboutMoon_0 rfl (lv_at hl 2 rfl) ?_
  by_cases t1 : p1 = (0 : Int32)
  · have hf := if_t t1 hf
    refine lv_tableIn (tgt := 28) (off := 27) hx hb dX5_aboutMoon_1 (by rw [t1]; decide) (by rw [t1]; decide) (by rw [t1]; rfl) (by decide) ?_
    refine lv_aload_n hx hb dX5_aboutMoon_28 rfl (lv_at hl 0 rfl) ?_
    refine r_getR hC hP hO.1 fl_X5_28 rfl dX5_aboutMoon_29 ?_
    refine lv_iload_n hx hb dX5_aboutMoon_32 rfl (lv_at hl 1 rfl) ?_
    obtain ⟨hb2, hf⟩ := ck_s hf
    refine r_iald hC hP hO.2.2.2.2.2.1 hb2 dX5_aboutMoon_33 ?_
    exact e_I hC hr hlk hP hS dX5_aboutMoon_34 hf
  · have hf := if_f t1 hf
    by_cases t3 : p1 = (1 : Int32)
    · have hf := if_t t3 hf
      refine lv_tableIn (tgt := 35) (off := 34) hx hb dX5_aboutMoon_1 (by rw [t3]; decide) (by rw [t3]; decide) (by rw [t3]; rfl) (by decide) ?_
      refine lv_aload_n hx hb dX5_aboutMoon_35 rfl (lv_at hl 0 rfl) ?_
      refine r_getR hC hP hO.1 fl_X5_31 rfl dX5_aboutMoon_36 ?_
      refine lv_iload_n hx hb dX5_aboutMoon_39 rfl (lv_at hl 1 rfl) ?_
      obtain ⟨hb4, hf⟩ := ck_s hf
      refine r_iald hC hP hO.2.2.2.2.2.2.1 hb4 dX5_aboutMoon_40 ?_
      exact e_I hC hr hlk hP hS dX5_aboutMoon_41 hf
    · have hf := if_f t3 hf
      by_cases t5 : p1 = (2 : Int32)
      · have hf := if_t t5 hf
        refine lv_tableIn (tgt := 42) (off := 41) hx hb dX5_aboutMoon_1 (by rw [t5]; decide) (by rw [t5]; decide) (by rw [t5]; rfl) (by decide) ?_
        refine lv_aload_n hx hb dX5_aboutMoon_42 rfl (lv_at hl 0 rfl) ?_
        refine r_getR hC hP hO.1 fl_X5_34 rfl dX5_aboutMoon_43 ?_
        refine lv_iload_n hx hb dX5_aboutMoon_46 rfl (lv_at hl 1 rfl) ?_
        obtain ⟨hb6, hf⟩ := ck_s hf
        refine r_iald hC hP hO.2.2.2.2.2.2.2.1 hb6 dX5_aboutMoon_47 ?_
        exact e_I hC hr hlk hP hS dX5_aboutMoon_48 hf
      · have hf := if_f t5 hf
        refine lv_tableOut (tgt := 49) hx hb dX5_aboutMoon_1 (tsout2 t1 t3 t5) (by decide) ?_
        refine lv_aload_n hx hb dX5_aboutMoon_49 rfl (lv_at hl 0 rfl) ?_
        refine r_getR hC hP hO.1 fl_X5_37 rfl dX5_aboutMoon_50 ?_
        refine lv_iload_n hx hb dX5_aboutMoon_53 rfl (lv_at hl 1 rfl) ?_
        obtain ⟨hb7, hf⟩ := ck_s hf
        refine r_iald hC hP hO.2.2.2.2.2.2.2.2.1 hb7 dX5_aboutMoon_54 ?_
        exact e_I hC hr hlk hP hS dX5_aboutMoon_55 hf
set_option maxRecDepth 100000 in
set_option maxHeartbeats 4000000 in
theorem k_X11_about {g : Ev} {l : Launch} (hg : g.2.1.Nodup) {x : Nat} (hO : oTop g x) {M : Mm} {N : Ml} {p0 : Int32} {p1 : Int32} {v : Int32} {MR : Mm} (hf : f_X11_about x p0 p1 M = some (v, MR)) : KM g l yX11_about cX11_about 3 (some .int) 2 [.ref x, .int p0, .int p1] M N (QI g v MR N) := by
  refine KM.mk hg (by decide) (Nat.le_of_ble_eq_true rfl) ?_
  intro p e s m below meth c ls hC hr hlk hl hP hS
  have hx := hC.1
  have hb := hC.2.1
  have hl : lv_has ls 3 [(0, .ref x), (1, .int p0), (2, .int p1)] := hl
  have J17 : ∀ (M : Mm) (H : Heap) (locs : List Loc) (ls : Array Slot), f_X11_about_J17 x M = some (v, MR) → wP g M N H → va_S (wA g) s.heap H locs → lv_has ls 3 [(0, .ref x)] → W p l e (rmD 2) s m ([.ref x, .int p0, .int p1] : List Value).toArray below meth c H locs 0 0 (MQ below (QI g v MR N) ([.ref x, .int p0, .int p1] : List Value).toArray s 0 0 (wA g)) (F0 m 17 ls []) := by
    intro M H locs ls hf hP hS hl
    unfold f_X11_about_J17 at hf
    refine lv_aload_n hx hb dX11_about_17 rfl (lv_at hl 0 rfl) ?_
    refine lv_iconst (v := (0 : Int32)) hx hb dX11_about_18 (by decide) ?_
    refine lv_bipush (v := (-2 : Int32)) hx hb dX11_about_19 (by decide) ?_
    obtain ⟨r5, M7, hu6, hf⟩ := bd2_s hf
    refine r_goI (r_runV (As := [.int (0 : Int32), .int (-2 : Int32)]) (rest := []) hC hP hS (k_X11_refuse hg hO hu6) cw_X11_88 q_178 q_179 q_180 (Rm.D 0 2 rfl) hO.1 rfl rfl hl.1 rfl (Nat.le_of_ble_eq_true rfl) dX11_about_21) hS (fun H locs hP hS => ?_)
    exact e_IM hC hr hlk hP hS dX11_about_24 hf
  unfold f_X11_about at hf
  refine lv_aload_n hx hb dX11_about_0 rfl (lv_at hl 0 rfl) ?_
  refine lv_iload_n hx hb dX11_about_1 rfl (lv_at hl 1 rfl) ?_
  obtain ⟨r1, hu2, hf⟩ := bd_s hf
  refine r_goI (r_runV (As := [.int p0]) (rest := []) hC hP hS (k_X11_isMoon hg hO hu2) cw_X11_158 q_622 q_623 q_624 (Rm.D 1 2 rfl) hO.1 rfl rfl hl.1 rfl (Nat.le_of_ble_eq_true rfl) dX11_about_2) hS (fun H locs hP hS => ?_)
  refine lv_if_eq (tgt := 17) hx hb dX11_about_5 (by decide) (fun c4 => ?_) (fun c4 => ?_)
  · have hf := if_t c4 hf
    exact J17 M _ _ _ hf hP hS (lv_sub hl [0] rfl)
  · have hf := if_f c4 hf
    refine lv_iload_n hx hb dX11_about_8 rfl (lv_at hl 2 rfl) ?_
    refine lv_iconst (v := (0 : Int32)) hx hb dX11_about_9 (by decide) ?_
    refine lv_iconst (v := (3 : Int32)) hx hb dX11_about_10 (by decide) ?_
    obtain ⟨r8, hu9, hf⟩ := bd_s hf
    refine r_goI (r_runS (As := [.int p1, .int (0 : Int32), .int (3 : Int32)]) (rest := []) hC hP hS (k_X11_isWithin hg hu9) cw_X11_84 q_175 q_176 (Rm.D 0 2 rfl) rfl hl.1 rfl (Nat.le_of_ble_eq_true rfl) dX11_about_11) hS (fun H locs hP hS => ?_)
    refine lv_if_ne (tgt := 25) hx hb dX11_about_14 (by decide) (fun c11 => ?_) (fun c11 => ?_)
    · have hf := if_f c11 hf
      refine lv_aload_n hx hb dX11_about_25 rfl (lv_at hl 0 rfl) ?_
      refine r_getR hC hP hO.1 fl_X11_27 rfl dX11_about_26 ?_
      refine r_getR hC hP hO.2.1.1 fl_X11_43 rfl dX11_about_29 ?_
      refine lv_iload_n hx hb dX11_about_32 rfl (lv_at hl 1 rfl) ?_
      refine lv_iload_n hx hb dX11_about_33 rfl (lv_at hl 2 rfl) ?_
      obtain ⟨r12, hu13, hf⟩ := bd_s hf
      refine r_goI (r_runV (As := [.int p0, .int p1]) (rest := []) hC hP hS (k_X5_aboutMoon hg hO.2.1.2.1 hu13) cw_X11_161 q_626 q_627 q_628 (Rm.D 0 2 rfl) hO.2.1.2.1.1 rfl rfl hl.1 rfl (Nat.le_of_ble_eq_true rfl) dX11_about_34) hS (fun H locs hP hS => ?_)
      exact e_IM hC hr hlk hP hS dX11_about_37 hf
    · have hf := if_t c11 hf
      exact J17 M _ _ _ hf hP hS (lv_sub hl [0] rfl)
set_option maxRecDepth 100000 in
set_option maxHeartbeats 4000000 in
theorem k_X5_isRoundBehind {g : Ev} {l : Launch} (hg : g.2.1.Nodup) {kd : Nat} {a : Nat} (hO : oRing g kd a) {M : Mm} {N : Ml} {p0 : Int32} {v : Int32} (hf : f_X5_isRoundBehind a p0 M = some v) : KM g l yX5_isRoundBehind cX5_isRoundBehind 3 (some .boolean) 1 [.ref a, .int p0] M N (QI g v M N) := by
  refine KM.mk hg (by decide) (Nat.le_of_ble_eq_true rfl) ?_
  intro p e s m below meth c ls hC hr hlk hl hP hS
  have hx := hC.1
  have hb := hC.2.1
  have hl : lv_has ls 3 [(0, .ref a), (1, .int p0)] := hl
  have L32 : ∀ (n : Nat) (x1 : Int32) (x2 : Int32) (H : Heap) (locs : List Loc) (ls : Array Slot), f_X5_isRoundBehind_L32 a M n x1 x2 = some v → wP g M N H → va_S (wA g) s.heap H locs → lv_has ls 3 [(0, .ref a), (1, .int x1), (2, .int x2)] → W p l e (rmD 1) s m ([.ref a, .int p0] : List Value).toArray below meth c H locs 0 0 (MQ below (QI g v M N) ([.ref a, .int p0] : List Value).toArray s 0 0 (wA g)) (F0 m 32 ls []) := by
    intro n
    induction n with
    | zero =>
      intro x1 x2 H locs ls hf
      exact absurd hf (by simp [f_X5_isRoundBehind_L32])
    | succ n ih =>
      intro x1 x2 H locs ls hf hP hS hl
      unfold f_X5_isRoundBehind_L32 at hf
      refine lv_iload_n hx hb dX5_isRoundBehind_32 rfl (lv_at hl 2 rfl) ?_
      refine lv_aload_n hx hb dX5_isRoundBehind_33 rfl (lv_at hl 0 rfl) ?_
      refine r_getI hC hP hO.1 fl_X5_48 rfl dX5_isRoundBehind_34 ?_
      refine lv_icmp_ge (tgt := 63) hx hb dX5_isRoundBehind_37 (by decide) (fun c2 => ?_) (fun c2 => ?_)
      · have hf := if_t c2 hf
        refine lv_iconst (v := (1 : Int32)) hx hb dX5_isRoundBehind_63 (by decide) ?_
        exact e_Z hC hr hlk (Or.inr rfl) hP hS dX5_isRoundBehind_64 hf
      · have hf := if_f c2 hf
        refine lv_aload_n hx hb dX5_isRoundBehind_40 rfl (lv_at hl 0 rfl) ?_
        refine lv_iload_n hx hb dX5_isRoundBehind_41 rfl (lv_at hl 1 rfl) ?_
        refine lv_aload_n hx hb dX5_isRoundBehind_42 rfl (lv_at hl 0 rfl) ?_
        refine r_getR hC hP hO.1 fl_X5_37 rfl dX5_isRoundBehind_43 ?_
        refine lv_iload_n hx hb dX5_isRoundBehind_46 rfl (lv_at hl 2 rfl) ?_
        obtain ⟨hb3, hf⟩ := ck_s hf
        refine r_iald hC hP hO.2.2.2.2.2.2.2.2.1 hb3 dX5_isRoundBehind_47 ?_
        refine lv_imul hx hb dX5_isRoundBehind_48 ?_
        obtain ⟨r4, hu5, hf⟩ := bd_s hf
        refine r_goI (r_runV (As := [.int (x1 * (M (a + 8) x2.toNatClampNeg))]) (rest := []) hC hP hS (k_X5_around hg hO hu5) cw_X5_84 q_484 q_485 q_486 (Rm.D 0 1 rfl) hO.1 rfl rfl hl.1 rfl (Nat.le_of_ble_eq_true rfl) dX5_isRoundBehind_49) hS (fun H locs hP hS => ?_)
        refine lv_if_eq (tgt := 57) hx hb dX5_isRoundBehind_52 (by decide) (fun c7 => ?_) (fun c7 => ?_)
        · have hf := if_t c7 hf
          obtain ⟨z8, ez8, hf⟩ := bsJ hf
          refine lv_iinc (v := z8) (lv' := [(2, .int z8), (0, .ref a), (1, .int x1)]) hx hb dX5_isRoundBehind_57 hl (k := 2) rfl (by rw [ez8]; rfl) (by decide) rfl (fun ls hl => ?_)
          refine lv_goto (tgt := 32) hx hb dX5_isRoundBehind_60 (by decide) ?_
          exact ih x1 z8 _ _ _ hf hP hS (lv_sub hl [1, 2, 0] rfl)
        · have hf := if_f c7 hf
          refine lv_iconst (v := (0 : Int32)) hx hb dX5_isRoundBehind_55 (by decide) ?_
          exact e_Z hC hr hlk (Or.inl rfl) hP hS dX5_isRoundBehind_56 hf
  have L2 : ∀ (n : Nat) (x1 : Int32) (x2 : Int32) (H : Heap) (locs : List Loc) (ls : Array Slot), f_X5_isRoundBehind_L2 a M n x1 x2 = some v → wP g M N H → va_S (wA g) s.heap H locs → lv_has ls 3 [(0, .ref a), (1, .int x1), (2, .int x2)] → W p l e (rmD 1) s m ([.ref a, .int p0] : List Value).toArray below meth c H locs 0 0 (MQ below (QI g v M N) ([.ref a, .int p0] : List Value).toArray s 0 0 (wA g)) (F0 m 2 ls []) := by
    intro n
    induction n with
    | zero =>
      intro x1 x2 H locs ls hf
      exact absurd hf (by simp [f_X5_isRoundBehind_L2])
    | succ n ih =>
      intro x1 x2 H locs ls hf hP hS hl
      unfold f_X5_isRoundBehind_L2 at hf
      refine lv_iload_n hx hb dX5_isRoundBehind_2 rfl (lv_at hl 2 rfl) ?_
      refine lv_iconst (v := (5 : Int32)) hx hb dX5_isRoundBehind_3 (by decide) ?_
      refine lv_icmp_ge (tgt := 30) hx hb dX5_isRoundBehind_4 (by decide) (fun c1 => ?_) (fun c1 => ?_)
      · have hf := if_t c1 hf
        refine lv_iconst (v := (0 : Int32)) hx hb dX5_isRoundBehind_30 (by decide) ?_
        refine lv_istore_n (lv' := [(2, .int (0 : Int32)), (0, .ref a), (1, .int x1)]) hx hb dX5_isRoundBehind_31 rfl hl (by decide) rfl (fun ls hl => ?_)
        exact L32 _ x1 (0 : Int32) _ _ _ hf hP hS (lv_sub hl [1, 2, 0] rfl)
      · have hf := if_f c1 hf
        refine lv_aload_n hx hb dX5_isRoundBehind_7 rfl (lv_at hl 0 rfl) ?_
        refine lv_iload_n hx hb dX5_isRoundBehind_8 rfl (lv_at hl 1 rfl) ?_
        refine lv_aload_n hx hb dX5_isRoundBehind_9 rfl (lv_at hl 0 rfl) ?_
        refine r_getR hC hP hO.1 fl_X5_15 rfl dX5_isRoundBehind_10 ?_
        refine lv_iload_n hx hb dX5_isRoundBehind_13 rfl (lv_at hl 2 rfl) ?_
        obtain ⟨hb9, hf⟩ := ck_s hf
        refine r_iald hC hP hO.2.1 hb9 dX5_isRoundBehind_14 ?_
        refine lv_imul hx hb dX5_isRoundBehind_15 ?_
        obtain ⟨r10, hu11, hf⟩ := bd_s hf
        refine r_goI (r_runV (As := [.int (x1 * (M (a + 1) x2.toNatClampNeg))]) (rest := []) hC hP hS (k_X5_around hg hO hu11) cw_X5_84 q_484 q_485 q_486 (Rm.D 0 1 rfl) hO.1 rfl rfl hl.1 rfl (Nat.le_of_ble_eq_true rfl) dX5_isRoundBehind_16) hS (fun H locs hP hS => ?_)
        refine lv_if_eq (tgt := 24) hx hb dX5_isRoundBehind_19 (by decide) (fun c13 => ?_) (fun c13 => ?_)
        · have hf := if_t c13 hf
          obtain ⟨z14, ez14, hf⟩ := bsJ hf
          refine lv_iinc (v := z14) (lv' := [(2, .int z14), (0, .ref a), (1, .int x1)]) hx hb dX5_isRoundBehind_24 hl (k := 2) rfl (by rw [ez14]; rfl) (by decide) rfl (fun ls hl => ?_)
          refine lv_goto (tgt := 2) hx hb dX5_isRoundBehind_27 (by decide) ?_
          exact ih x1 z14 _ _ _ hf hP hS (lv_sub hl [1, 2, 0] rfl)
        · have hf := if_f c13 hf
          refine lv_iconst (v := (0 : Int32)) hx hb dX5_isRoundBehind_22 (by decide) ?_
          exact e_Z hC hr hlk (Or.inl rfl) hP hS dX5_isRoundBehind_23 hf
  unfold f_X5_isRoundBehind at hf
  refine lv_iconst (v := (0 : Int32)) hx hb dX5_isRoundBehind_0 (by decide) ?_
  refine lv_istore_n (lv' := [(2, .int (0 : Int32)), (0, .ref a), (1, .int p0)]) hx hb dX5_isRoundBehind_1 rfl hl (by decide) rfl (fun ls hl => ?_)
  exact L2 _ p0 (0 : Int32) _ _ _ hf hP hS (lv_sub hl [1, 2, 0] rfl)
set_option maxRecDepth 100000 in
set_option maxHeartbeats 4000000 in
theorem k_X5_comesRound {g : Ev} {l : Launch} (hg : g.2.1.Nodup) {kd : Nat} {a : Nat} (hO : oRing g kd a) {M : Mm} {N : Ml}  {v : Int32} (hf : f_X5_comesRound a M = some v) : KM g l yX5_comesRound cX5_comesRound 2 (some .int) 2 [.ref a] M N (QI g v M N) := by
  refine KM.mk hg (by decide) (Nat.le_of_ble_eq_true rfl) ?_
  intro p e s m below meth c ls hC hr hlk hl hP hS
  have hx := hC.1
  have hb := hC.2.1
  have hl : lv_has ls 2 [(0, .ref a)] := hl
  have L2 : ∀ (n : Nat) (x1 : Int32) (H : Heap) (locs : List Loc) (ls : Array Slot), f_X5_comesRound_L2 a M n x1 = some v → wP g M N H → va_S (wA g) s.heap H locs → lv_has ls 2 [(0, .ref a), (1, .int x1)] → W p l e (rmD 2) s m ([.ref a] : List Value).toArray below meth c H locs 0 0 (MQ below (QI g v M N) ([.ref a] : List Value).toArray s 0 0 (wA g)) (F0 m 2 ls []) := by
    intro n
    induction n with
    | zero =>
      intro x1 H locs ls hf
      exact absurd hf (by simp [f_X5_comesRound_L2])
    | succ n ih =>
      intro x1 H locs ls hf hP hS hl
      unfold f_X5_comesRound_L2 at hf
      refine lv_iload_n hx hb dX5_comesRound_2 rfl (lv_at hl 1 rfl) ?_
      refine lv_aload_n hx hb dX5_comesRound_3 rfl (lv_at hl 0 rfl) ?_
      refine r_getI hC hP hO.1 fl_X5_44 rfl dX5_comesRound_4 ?_
      refine lv_icmp_ge (tgt := 24) hx hb dX5_comesRound_7 (by decide) (fun c1 => ?_) (fun c1 => ?_)
      · have hf := if_t c1 hf
        refine lv_iload_n hx hb dX5_comesRound_24 rfl (lv_at hl 1 rfl) ?_
        exact e_I hC hr hlk hP hS dX5_comesRound_25 hf
      · have hf := if_f c1 hf
        refine lv_aload_n hx hb dX5_comesRound_10 rfl (lv_at hl 0 rfl) ?_
        refine lv_iload_n hx hb dX5_comesRound_11 rfl (lv_at hl 1 rfl) ?_
        obtain ⟨r2, hu3, hf⟩ := bd_s hf
        refine r_goI (r_runV (As := [.int x1]) (rest := []) hC hP hS (k_X5_isRoundBehind hg hO hu3) cw_X5_129 q_806 q_807 q_808 (Rm.D 1 2 rfl) hO.1 rfl rfl hl.1 rfl (Nat.le_of_ble_eq_true rfl) dX5_comesRound_12) hS (fun H locs hP hS => ?_)
        refine lv_if_ne (tgt := 24) hx hb dX5_comesRound_15 (by decide) (fun c5 => ?_) (fun c5 => ?_)
        · have hf := if_f c5 hf
          refine lv_iload_n hx hb dX5_comesRound_24 rfl (lv_at hl 1 rfl) ?_
          exact e_I hC hr hlk hP hS dX5_comesRound_25 hf
        · have hf := if_t c5 hf
          obtain ⟨z6, ez6, hf⟩ := bsJ hf
          refine lv_iinc (v := z6) (lv' := [(1, .int z6), (0, .ref a)]) hx hb dX5_comesRound_18 hl (k := 1) rfl (by rw [ez6]; rfl) (by decide) rfl (fun ls hl => ?_)
          refine lv_goto (tgt := 2) hx hb dX5_comesRound_21 (by decide) ?_
          exact ih z6 _ _ _ hf hP hS (lv_sub hl [1, 0] rfl)
  unfold f_X5_comesRound at hf
  refine lv_iconst (v := (1 : Int32)) hx hb dX5_comesRound_0 (by decide) ?_
  refine lv_istore_n (lv' := [(1, .int (1 : Int32)), (0, .ref a)]) hx hb dX5_comesRound_1 rfl hl (by decide) rfl (fun ls hl => ?_)
  exact L2 _ (1 : Int32) _ _ _ hf hP hS (lv_sub hl [1, 0] rfl)
set_option maxRecDepth 100000 in
set_option maxHeartbeats 4000000 in
theorem k_X11_back {g : Ev} {l : Launch} (hg : g.2.1.Nodup) {x : Nat} (hO : oTop g x) {M : Mm} {N : Ml}  {v : Int32} (hf : f_X11_back x M = some v) : KM g l yX11_back cX11_back 1 (some .int) 3 [.ref x] M N (QI g v M N) := by
  refine KM.mk hg (by decide) (Nat.le_of_ble_eq_true rfl) ?_
  intro p e s m below meth c ls hC hr hlk hl hP hS
  have hx := hC.1
  have hb := hC.2.1
  have hl : lv_has ls 1 [(0, .ref x)] := hl
  unfold f_X11_back at hf
  refine lv_aload_n hx hb dX11_back_0 rfl (lv_at hl 0 rfl) ?_
  refine r_getR hC hP hO.1 fl_X11_27 rfl dX11_back_1 ?_
  refine r_getR hC hP hO.2.1.1 fl_X11_43 rfl dX11_back_4 ?_
  obtain ⟨r1, hu2, hf⟩ := bd_s hf
  refine r_goI (r_runV (As := []) (rest := []) hC hP hS (k_X5_comesRound hg hO.2.1.2.1 hu2) cw_X11_202 q_802 q_803 q_804 (Rm.D 2 3 rfl) hO.2.1.2.1.1 rfl rfl hl.1 rfl (Nat.le_of_ble_eq_true rfl) dX11_back_7) hS (fun H locs hP hS => ?_)
  exact e_I hC hr hlk hP hS dX11_back_10 hf
set_option maxRecDepth 100000 in
set_option maxHeartbeats 4000000 in
theorem k_X11_clear {g : Ev} {l : Launch} (hg : g.2.1.Nodup) {x : Nat} (hO : oTop g x) {M : Mm} {N : Ml}  {v : Int32} {MR : Mm} (hf : f_X11_clear x M = some (v, MR)) : KM g l yX11_clear cX11_clear 2 (some .int) 0 [.ref x] M N (QI g v MR N) := by
  refine KM.mk hg (by decide) (Nat.le_of_ble_eq_true rfl) ?_
  intro p e s m below meth c ls hC hr hlk hl hP hS
  have hx := hC.1
  have hb := hC.2.1
  have hl : lv_has ls 2 [(0, .ref x)] := hl
  unfold f_X11_clear at hf
  refine lv_aload_n hx hb dX11_clear_0 rfl (lv_at hl 0 rfl) ?_
  refine r_getR hC hP hO.1 fl_X11_60 rfl dX11_clear_1 ?_
  refine r_getI hC hP hO.2.2.2.2.2.2.1.1 fl_X11_127 rfl dX11_clear_4 ?_
  refine lv_topi (fun z1 ez1 => ?_)
  have hf := bs ez1 hf
  refine lv_istore_n (lv' := [(1, .int z1), (0, .ref x)]) hx hb dX11_clear_7 rfl hl (by decide) rfl (fun ls hl => ?_)
  refine lv_aload_n hx hb dX11_clear_8 rfl (lv_at hl 1 rfl) ?_
  refine r_getR hC hP hO.1 fl_X11_60 rfl dX11_clear_9 ?_
  refine lv_iconst (v := (0 : Int32)) hx hb dX11_clear_12 (by decide) ?_
  refine r_putI hC hP hS hO.2.2.2.2.2.2.1.1 fl_X11_127 tyX9 tyX9_ok nmX9 rfl rfl rfl dX11_clear_13 (fun H locs hP hS => ?_)
  obtain ⟨M2, eM2, hf, hP⟩ := bsM hf hP
  refine lv_iload_n hx hb dX11_clear_16 rfl (lv_at hl 0 rfl) ?_
  exact e_IM hC hr hlk hP hS dX11_clear_17 hf
set_option maxRecDepth 100000 in
set_option maxHeartbeats 4000000 in
theorem k_X5_lumpsInAll {g : Ev} {l : Launch} (hg : g.2.1.Nodup) {kd : Nat} {a : Nat} (hO : oRing g kd a) {M : Mm} {N : Ml}  {v : Int32} (hf : f_X5_lumpsInAll a M = some v) : KM g l yX5_lumpsInAll cX5_lumpsInAll 3 (some .int) 1 [.ref a] M N (QI g v M N) := by
  refine KM.mk hg (by decide) (Nat.le_of_ble_eq_true rfl) ?_
  intro p e s m below meth c ls hC hr hlk hl hP hS
  have hx := hC.1
  have hb := hC.2.1
  have hl : lv_has ls 3 [(0, .ref a)] := hl
  have L4 : ∀ (n : Nat) (x1 : Int32) (x2 : Int32) (H : Heap) (locs : List Loc) (ls : Array Slot), f_X5_lumpsInAll_L4 a M n x1 x2 = some v → wP g M N H → va_S (wA g) s.heap H locs → lv_has ls 3 [(0, .ref a), (1, .int x1), (2, .int x2)] → W p l e (rmD 1) s m ([.ref a] : List Value).toArray below meth c H locs 0 0 (MQ below (QI g v M N) ([.ref a] : List Value).toArray s 0 0 (wA g)) (F0 m 4 ls []) := by
    intro n
    induction n with
    | zero =>
      intro x1 x2 H locs ls hf
      exact absurd hf (by simp [f_X5_lumpsInAll_L4])
    | succ n ih =>
      intro x1 x2 H locs ls hf hP hS hl
      unfold f_X5_lumpsInAll_L4 at hf
      refine lv_iload_n hx hb dX5_lumpsInAll_4 rfl (lv_at hl 2 rfl) ?_
      refine lv_iconst (v := (5 : Int32)) hx hb dX5_lumpsInAll_5 (by decide) ?_
      refine lv_icmp_ge (tgt := 23) hx hb dX5_lumpsInAll_6 (by decide) (fun c1 => ?_) (fun c1 => ?_)
      · have hf := if_t c1 hf
        refine lv_iload_n hx hb dX5_lumpsInAll_23 rfl (lv_at hl 1 rfl) ?_
        exact e_I hC hr hlk hP hS dX5_lumpsInAll_24 hf
      · have hf := if_f c1 hf
        refine lv_iload_n hx hb dX5_lumpsInAll_9 rfl (lv_at hl 1 rfl) ?_
        refine lv_aload_n hx hb dX5_lumpsInAll_10 rfl (lv_at hl 0 rfl) ?_
        refine lv_iload_n hx hb dX5_lumpsInAll_11 rfl (lv_at hl 2 rfl) ?_
        obtain ⟨r2, hu3, hf⟩ := bd_s hf
        refine r_goI (r_runV (As := [.int x2]) (rest := [.int x1]) hC hP hS (k_X5_lumpsIn hg hO hu3) cw_X5_77 q_983 q_608 q_609 (Rm.D 0 1 rfl) hO.1 rfl rfl hl.1 rfl (Nat.le_of_ble_eq_true rfl) dX5_lumpsInAll_12) hS (fun H locs hP hS => ?_)
        refine lv_iadd hx hb dX5_lumpsInAll_15 ?_
        refine lv_topi (fun z5 ez5 => ?_)
        have hf := bs ez5 hf
        refine lv_istore_n (lv' := [(1, .int z5), (0, .ref a), (2, .int x2)]) hx hb dX5_lumpsInAll_16 rfl hl (by decide) rfl (fun ls hl => ?_)
        obtain ⟨z6, ez6, hf⟩ := bsJ hf
        refine lv_iinc (v := z6) (lv' := [(2, .int z6), (1, .int z5), (0, .ref a)]) hx hb dX5_lumpsInAll_17 hl (k := 2) rfl (by rw [ez6]; rfl) (by decide) rfl (fun ls hl => ?_)
        refine lv_goto (tgt := 4) hx hb dX5_lumpsInAll_20 (by decide) ?_
        exact ih z5 z6 _ _ _ hf hP hS (lv_sub hl [2, 1, 0] rfl)
  unfold f_X5_lumpsInAll at hf
  refine lv_iconst (v := (0 : Int32)) hx hb dX5_lumpsInAll_0 (by decide) ?_
  refine lv_istore_n (lv' := [(1, .int (0 : Int32)), (0, .ref a)]) hx hb dX5_lumpsInAll_1 rfl hl (by decide) rfl (fun ls hl => ?_)
  refine lv_iconst (v := (0 : Int32)) hx hb dX5_lumpsInAll_2 (by decide) ?_
  refine lv_istore_n (lv' := [(2, .int (0 : Int32)), (1, .int (0 : Int32)), (0, .ref a)]) hx hb dX5_lumpsInAll_3 rfl hl (by decide) rfl (fun ls hl => ?_)
  exact L4 _ (0 : Int32) (0 : Int32) _ _ _ hf hP hS (lv_sub hl [2, 1, 0] rfl)
set_option maxRecDepth 100000 in
set_option maxHeartbeats 4000000 in
theorem k_X11_counted {g : Ev} {l : Launch} (hg : g.2.1.Nodup) {x : Nat} (hO : oTop g x) {M : Mm} {N : Ml} {p0 : Int32} {v : Int32} (hf : f_X11_counted x p0 M = some v) : KM g l yX11_counted cX11_counted 2 (some .int) 2 [.ref x, .int p0] M N (QI g v M N) := by
  refine KM.mk hg (by decide) (Nat.le_of_ble_eq_true rfl) ?_
  intro p e s m below meth c ls hC hr hlk hl hP hS
  have hx := hC.1
  have hb := hC.2.1
  have hl : lv_has ls 2 [(0, .ref x), (1, .int p0)] := hl
  unfold f_X11_counted at hf
  refine lv_iload_n hx hb dX11_counted_0 rfl (lv_at hl 1 rfl) ?_
  by_cases t1 : p0 = (0 : Int32)
  · have hf := if_t t1 hf
    refine lv_tableIn (tgt := 40) (off := 39) hx hb dX11_counted_1 (by rw [t1]; decide) (by rw [t1]; decide) (by rw [t1]; rfl) (by decide) ?_
    refine lv_aload_n hx hb dX11_counted_40 rfl (lv_at hl 0 rfl) ?_
    refine r_getR hC hP hO.1 fl_X11_27 rfl dX11_counted_41 ?_
    refine r_getR hC hP hO.2.1.1 fl_X11_43 rfl dX11_counted_44 ?_
    refine r_getI hC hP hO.2.1.2.1.1 fl_X11_92 rfl dX11_counted_47 ?_
    exact e_I hC hr hlk hP hS dX11_counted_50 hf
  · have hf := if_f t1 hf
    by_cases t2 : p0 = (1 : Int32)
    · have hf := if_t t2 hf
      refine lv_tableIn (tgt := 51) (off := 50) hx hb dX11_counted_1 (by rw [t2]; decide) (by rw [t2]; decide) (by rw [t2]; rfl) (by decide) ?_
      refine lv_aload_n hx hb dX11_counted_51 rfl (lv_at hl 0 rfl) ?_
      refine r_getR hC hP hO.1 fl_X11_27 rfl dX11_counted_52 ?_
      refine r_getR hC hP hO.2.1.1 fl_X11_43 rfl dX11_counted_55 ?_
      obtain ⟨r3, hu4, hf⟩ := bd_s hf
      refine r_goI (r_runV (As := []) (rest := []) hC hP hS (k_X5_lumpsInAll hg hO.2.1.2.1 hu4) cw_X11_251 q_979 q_980 q_981 (Rm.D 1 2 rfl) hO.2.1.2.1.1 rfl rfl hl.1 rfl (Nat.le_of_ble_eq_true rfl) dX11_counted_58) hS (fun H locs hP hS => ?_)
      exact e_I hC hr hlk hP hS dX11_counted_61 hf
    · have hf := if_f t2 hf
      by_cases t6 : p0 = (2 : Int32)
      · have hf := if_t t6 hf
        refine lv_tableIn (tgt := 62) (off := 61) hx hb dX11_counted_1 (by rw [t6]; decide) (by rw [t6]; decide) (by rw [t6]; rfl) (by decide) ?_
        refine lv_aload_n hx hb dX11_counted_62 rfl (lv_at hl 0 rfl) ?_
        refine r_getR hC hP hO.1 fl_X11_27 rfl dX11_counted_63 ?_
        refine r_getR hC hP hO.2.1.1 fl_X11_43 rfl dX11_counted_66 ?_
        refine r_getI hC hP hO.2.1.2.1.1 fl_X11_120 rfl dX11_counted_69 ?_
        exact e_I hC hr hlk hP hS dX11_counted_72 hf
      · have hf := if_f t6 hf
        by_cases t7 : p0 = (3 : Int32)
        · have hf := if_t t7 hf
          refine lv_tableIn (tgt := 73) (off := 72) hx hb dX11_counted_1 (by rw [t7]; decide) (by rw [t7]; decide) (by rw [t7]; rfl) (by decide) ?_
          refine lv_aload_n hx hb dX11_counted_73 rfl (lv_at hl 0 rfl) ?_
          refine r_getR hC hP hO.1 fl_X11_27 rfl dX11_counted_74 ?_
          refine r_getR hC hP hO.2.1.1 fl_X11_43 rfl dX11_counted_77 ?_
          refine r_getI hC hP hO.2.1.2.1.1 fl_X11_254 rfl dX11_counted_80 ?_
          exact e_I hC hr hlk hP hS dX11_counted_83 hf
        · have hf := if_f t7 hf
          by_cases t8 : p0 = (4 : Int32)
          · have hf := if_t t8 hf
            refine lv_tableIn (tgt := 84) (off := 83) hx hb dX11_counted_1 (by rw [t8]; decide) (by rw [t8]; decide) (by rw [t8]; rfl) (by decide) ?_
            refine lv_aload_n hx hb dX11_counted_84 rfl (lv_at hl 0 rfl) ?_
            refine r_getR hC hP hO.1 fl_X11_27 rfl dX11_counted_85 ?_
            refine r_getR hC hP hO.2.1.1 fl_X11_43 rfl dX11_counted_88 ?_
            refine r_getI hC hP hO.2.1.2.1.1 fl_X11_257 rfl dX11_counted_91 ?_
            exact e_I hC hr hlk hP hS dX11_counted_94 hf
          · have hf := if_f t8 hf
            by_cases t9 : p0 = (5 : Int32)
            · have hf := if_t t9 hf
              refine lv_tableIn (tgt := 95) (off := 94) hx hb dX11_counted_1 (by rw [t9]; decide) (by rw [t9]; decide) (by rw [t9]; rfl) (by decide) ?_
              refine lv_aload_n hx hb dX11_counted_95 rfl (lv_at hl 0 rfl) ?_
              refine r_getR hC hP hO.1 fl_X11_27 rfl dX11_counted_96 ?_
              refine r_getI hC hP hO.2.1.1 fl_X11_148 rfl dX11_counted_99 ?_
              exact e_I hC hr hlk hP hS dX11_counted_102 hf
            · have hf := if_f t9 hf
              refine lv_tableOut (tgt := 103) hx hb dX11_counted_1 (tsout5 t1 t2 t6 t7 t8 t9) (by decide) ?_
              refine lv_aload_n hx hb dX11_counted_103 rfl (lv_at hl 0 rfl) ?_
              refine r_getR hC hP hO.1 fl_X11_60 rfl dX11_counted_104 ?_
              refine r_getI hC hP hO.2.2.2.2.2.2.1.1 fl_X11_127 rfl dX11_counted_107 ?_
              exact e_I hC hr hlk hP hS dX11_counted_110 hf
set_option maxRecDepth 100000 in
set_option maxHeartbeats 4000000 in
theorem k_X11_count {g : Ev} {l : Launch} (hg : g.2.1.Nodup) {x : Nat} (hO : oTop g x) {M : Mm} {N : Ml} {p0 : Int32} {v : Int32} {MR : Mm} (hf : f_X11_count x p0 M = some (v, MR)) : KM g l yX11_count cX11_count 2 (some .int) 3 [.ref x, .int p0] M N (QI g v MR N) := by
  refine KM.mk hg (by decide) (Nat.le_of_ble_eq_true rfl) ?_
  intro p e s m below meth c ls hC hr hlk hl hP hS
  have hx := hC.1
  have hb := hC.2.1
  have hl : lv_has ls 2 [(0, .ref x), (1, .int p0)] := hl
  unfold f_X11_count at hf
  refine lv_iload_n hx hb dX11_count_0 rfl (lv_at hl 1 rfl) ?_
  refine lv_iconst (v := (0 : Int32)) hx hb dX11_count_1 (by decide) ?_
  refine lv_bipush (v := (6 : Int32)) hx hb dX11_count_2 (by decide) ?_
  obtain ⟨r1, hu2, hf⟩ := bd_s hf
  refine r_goI (r_runS (As := [.int p0, .int (0 : Int32), .int (6 : Int32)]) (rest := []) hC hP hS (k_X11_isWithin hg hu2) cw_X11_84 q_175 q_176 (Rm.D 0 3 rfl) rfl hl.1 rfl (Nat.le_of_ble_eq_true rfl) dX11_count_4) hS (fun H locs hP hS => ?_)
  refine lv_if_ne (tgt := 18) hx hb dX11_count_7 (by decide) (fun c4 => ?_) (fun c4 => ?_)
  · have hf := if_f c4 hf
    refine lv_aload_n hx hb dX11_count_18 rfl (lv_at hl 0 rfl) ?_
    refine lv_iload_n hx hb dX11_count_19 rfl (lv_at hl 1 rfl) ?_
    obtain ⟨r5, hu6, hf⟩ := bd_s hf
    refine r_goI (r_runV (As := [.int p0]) (rest := []) hC hP hS (k_X11_counted hg hO hu6) cw_X11_241 q_973 q_974 q_975 (Rm.D 2 3 rfl) hO.1 rfl rfl hl.1 rfl (Nat.le_of_ble_eq_true rfl) dX11_count_20) hS (fun H locs hP hS => ?_)
    exact e_IM hC hr hlk hP hS dX11_count_23 hf
  · have hf := if_t c4 hf
    refine lv_aload_n hx hb dX11_count_10 rfl (lv_at hl 0 rfl) ?_
    refine lv_iconst (v := (0 : Int32)) hx hb dX11_count_11 (by decide) ?_
    refine lv_bipush (v := (-2 : Int32)) hx hb dX11_count_12 (by decide) ?_
    obtain ⟨r8, M10, hu9, hf⟩ := bd2_s hf
    refine r_goI (r_runV (As := [.int (0 : Int32), .int (-2 : Int32)]) (rest := []) hC hP hS (k_X11_refuse hg hO hu9) cw_X11_88 q_178 q_179 q_180 (Rm.D 0 3 rfl) hO.1 rfl rfl hl.1 rfl (Nat.le_of_ble_eq_true rfl) dX11_count_14) hS (fun H locs hP hS => ?_)
    exact e_IM hC hr hlk hP hS dX11_count_17 hf
set_option maxRecDepth 100000 in
set_option maxHeartbeats 4000000 in
theorem k_X5_addTo {g : Ev} {l : Launch} (hg : g.2.1.Nodup) {kd : Nat} {a : Nat} (hO : oRing g kd a) {M : Mm} {N : Ml} {p0 : Int64} {v : Int64} (hf : f_X5_addTo a p0 M = some v) : KM g l yX5_addTo cX5_addTo 7 (some .long) 2 [.ref a, .long p0] M N (QL g v M N) := by
  refine KM.mk hg (by decide) (Nat.le_of_ble_eq_true rfl) ?_
  intro p e s m below meth c ls hC hr hlk hl hP hS
  have hx := hC.1
  have hb := hC.2.1
  have hl : lv_has ls 7 [(0, .ref a), (1, .long p0)] := hl
  have L96 : ∀ (kb84 : Int64 → Int32 → Option (Int64)) (hkb84 : ∀ (x3 : Int64) (x5 : Int32) (H : Heap) (locs : List Loc) (ls : Array Slot), kb84 x3 x5 = some v → wP g M N H → va_S (wA g) s.heap H locs → lv_has ls 7 [(0, .ref a), (3, .long x3), (5, .int x5)] → W p l e (rmD 2) s m ([.ref a, .long p0] : List Value).toArray below meth c H locs 0 0 (MQ below (QL g v M N) ([.ref a, .long p0] : List Value).toArray s 0 0 (wA g)) (F0 m 84 ls [])) (n : Nat) (x3 : Int64) (x5 : Int32) (x6 : Int32) (H : Heap) (locs : List Loc) (ls : Array Slot), f_X5_addTo_L96 a M kb84 n x3 x5 x6 = some v → wP g M N H → va_S (wA g) s.heap H locs → lv_has ls 7 [(0, .ref a), (3, .long x3), (5, .int x5), (6, .int x6)] → W p l e (rmD 2) s m ([.ref a, .long p0] : List Value).toArray below meth c H locs 0 0 (MQ below (QL g v M N) ([.ref a, .long p0] : List Value).toArray s 0 0 (wA g)) (F0 m 96 ls []) := by
    intro kb84 hkb84
    intro n
    induction n with
    | zero =>
      intro x3 x5 x6 H locs ls hf
      exact absurd hf (by simp [f_X5_addTo_L96])
    | succ n ih =>
      intro x3 x5 x6 H locs ls hf hP hS hl
      unfold f_X5_addTo_L96 at hf
      refine lv_iload hx hb dX5_addTo_96 (lv_at hl 3 rfl) ?_
      refine lv_iconst (v := (4 : Int32)) hx hb dX5_addTo_98 (by decide) ?_
      refine lv_icmp_ge (tgt := 124) hx hb dX5_addTo_99 (by decide) (fun c3 => ?_) (fun c3 => ?_)
      · have hf := if_t c3 hf
        obtain ⟨z4, ez4, hf⟩ := bsJ hf
        refine lv_iinc (v := z4) (lv' := [(5, .int z4), (0, .ref a), (3, .long x3), (6, .int x6)]) hx hb dX5_addTo_124 hl (k := 2) rfl (by rw [ez4]; rfl) (by decide) rfl (fun ls hl => ?_)
        refine lv_goto (tgt := 84) hx hb dX5_addTo_127 (by decide) ?_
        exact hkb84 x3 z4 _ _ _ hf hP hS (lv_sub hl [1, 2, 0] rfl)
      · have hf := if_f c3 hf
        refine lv_ldc2 (v := (31 : Int64)) hx hb hC.2.2.2.1 (hC.2.2.2.2.1 _ q_1002) dX5_addTo_102 ?_
        refine lv_lload_n hx hb dX5_addTo_105 rfl (lv_at hl 1 rfl) ?_
        refine lv_lmul hx hb dX5_addTo_106 ?_
        refine lv_aload_n hx hb dX5_addTo_107 rfl (lv_at hl 0 rfl) ?_
        refine lv_iload hx hb dX5_addTo_108 (lv_at hl 2 rfl) ?_
        refine lv_iload hx hb dX5_addTo_110 (lv_at hl 3 rfl) ?_
        obtain ⟨r5, hu6, hf⟩ := bd_s hf
        refine r_goI (r_runV (As := [.int x5, .int x6]) (rest := [.long ((31 : Int64) * x3)]) hC hP hS (k_X5_aboutMoon hg hO hu6) cw_X5_134 q_1003 q_627 q_628 (Rm.D 0 2 rfl) hO.1 rfl rfl hl.1 rfl (Nat.le_of_ble_eq_true rfl) dX5_addTo_112) hS (fun H locs hP hS => ?_)
        refine lv_i2l hx hb dX5_addTo_115 rfl ?_
        refine lv_ladd hx hb dX5_addTo_116 ?_
        refine lv_topl (fun z8 ez8 => ?_)
        have hf := bs ez8 hf
        refine lv_lstore_n (lv' := [(3, .long z8), (0, .ref a), (5, .int x5), (6, .int x6)]) hx hb dX5_addTo_117 rfl hl (by decide) rfl (fun ls hl => ?_)
        obtain ⟨z9, ez9, hf⟩ := bsJ hf
        refine lv_iinc (v := z9) (lv' := [(6, .int z9), (3, .long z8), (0, .ref a), (5, .int x5)]) hx hb dX5_addTo_118 hl (k := 3) rfl (by rw [ez9]; rfl) (by decide) rfl (fun ls hl => ?_)
        refine lv_goto (tgt := 96) hx hb dX5_addTo_121 (by decide) ?_
        exact ih z8 x5 z9 _ _ _ hf hP hS (lv_sub hl [2, 1, 3, 0] rfl)
  have L84 : ∀ (n : Nat) (x3 : Int64) (x5 : Int32) (H : Heap) (locs : List Loc) (ls : Array Slot), f_X5_addTo_L84 a M n x3 x5 = some v → wP g M N H → va_S (wA g) s.heap H locs → lv_has ls 7 [(0, .ref a), (3, .long x3), (5, .int x5)] → W p l e (rmD 2) s m ([.ref a, .long p0] : List Value).toArray below meth c H locs 0 0 (MQ below (QL g v M N) ([.ref a, .long p0] : List Value).toArray s 0 0 (wA g)) (F0 m 84 ls []) := by
    intro n
    induction n with
    | zero =>
      intro x3 x5 H locs ls hf
      exact absurd hf (by simp [f_X5_addTo_L84])
    | succ n ih =>
      intro x3 x5 H locs ls hf hP hS hl
      unfold f_X5_addTo_L84 at hf
      refine lv_iload hx hb dX5_addTo_84 (lv_at hl 2 rfl) ?_
      refine lv_aload_n hx hb dX5_addTo_86 rfl (lv_at hl 0 rfl) ?_
      refine r_getI hC hP hO.1 fl_X5_48 rfl dX5_addTo_87 ?_
      refine lv_icmp_ge (tgt := 130) hx hb dX5_addTo_90 (by decide) (fun c2 => ?_) (fun c2 => ?_)
      · have hf := if_t c2 hf
        refine lv_lload_n hx hb dX5_addTo_130 rfl (lv_at hl 1 rfl) ?_
        exact e_L hC hr hlk hP hS dX5_addTo_131 hf
      · have hf := if_f c2 hf
        refine lv_iconst (v := (0 : Int32)) hx hb dX5_addTo_93 (by decide) ?_
        refine lv_istore (lv' := [(6, .int (0 : Int32)), (0, .ref a), (3, .long x3), (5, .int x5)]) hx hb dX5_addTo_94 hl (by decide) rfl (fun ls hl => ?_)
        exact L96 _ ih _ x3 x5 (0 : Int32) _ _ _ hf hP hS (lv_sub hl [1, 2, 3, 0] rfl)
  have L44 : ∀ (kb5 : Int64 → Int32 → Option (Int64)) (hkb5 : ∀ (x3 : Int64) (x5 : Int32) (H : Heap) (locs : List Loc) (ls : Array Slot), kb5 x3 x5 = some v → wP g M N H → va_S (wA g) s.heap H locs → lv_has ls 7 [(0, .ref a), (3, .long x3), (5, .int x5)] → W p l e (rmD 2) s m ([.ref a, .long p0] : List Value).toArray below meth c H locs 0 0 (MQ below (QL g v M N) ([.ref a, .long p0] : List Value).toArray s 0 0 (wA g)) (F0 m 5 ls [])) (n : Nat) (x3 : Int64) (x5 : Int32) (x6 : Int32) (H : Heap) (locs : List Loc) (ls : Array Slot), f_X5_addTo_L44 a M kb5 n x3 x5 x6 = some v → wP g M N H → va_S (wA g) s.heap H locs → lv_has ls 7 [(0, .ref a), (3, .long x3), (5, .int x5), (6, .int x6)] → W p l e (rmD 2) s m ([.ref a, .long p0] : List Value).toArray below meth c H locs 0 0 (MQ below (QL g v M N) ([.ref a, .long p0] : List Value).toArray s 0 0 (wA g)) (F0 m 44 ls []) := by
    intro kb5 hkb5
    intro n
    induction n with
    | zero =>
      intro x3 x5 x6 H locs ls hf
      exact absurd hf (by simp [f_X5_addTo_L44])
    | succ n ih =>
      intro x3 x5 x6 H locs ls hf hP hS hl
      unfold f_X5_addTo_L44 at hf
      refine lv_iload hx hb dX5_addTo_44 (lv_at hl 3 rfl) ?_
      refine lv_aload_n hx hb dX5_addTo_46 rfl (lv_at hl 0 rfl) ?_
      refine r_getI hC hP hO.1 fl_X5_44 rfl dX5_addTo_47 ?_
      refine lv_icmp_ge (tgt := 75) hx hb dX5_addTo_50 (by decide) (fun c14 => ?_) (fun c14 => ?_)
      · have hf := if_t c14 hf
        obtain ⟨z15, ez15, hf⟩ := bsJ hf
        refine lv_iinc (v := z15) (lv' := [(5, .int z15), (0, .ref a), (3, .long x3), (6, .int x6)]) hx hb dX5_addTo_75 hl (k := 2) rfl (by rw [ez15]; rfl) (by decide) rfl (fun ls hl => ?_)
        refine lv_goto (tgt := 5) hx hb dX5_addTo_78 (by decide) ?_
        exact hkb5 x3 z15 _ _ _ hf hP hS (lv_sub hl [1, 2, 0] rfl)
      · have hf := if_f c14 hf
        refine lv_ldc2 (v := (31 : Int64)) hx hb hC.2.2.2.1 (hC.2.2.2.2.1 _ q_1002) dX5_addTo_53 ?_
        refine lv_lload_n hx hb dX5_addTo_56 rfl (lv_at hl 1 rfl) ?_
        refine lv_lmul hx hb dX5_addTo_57 ?_
        refine lv_aload_n hx hb dX5_addTo_58 rfl (lv_at hl 0 rfl) ?_
        refine lv_iload hx hb dX5_addTo_59 (lv_at hl 2 rfl) ?_
        refine lv_iload hx hb dX5_addTo_61 (lv_at hl 3 rfl) ?_
        obtain ⟨r16, hu17, hf⟩ := bd_s hf
        refine r_goI (r_runV (As := [.int x5, .int x6]) (rest := [.long ((31 : Int64) * x3)]) hC hP hS (k_X5_lumpsAt hg hO hu17) cw_X5_81 q_784 q_229 q_230 (Rm.D 1 2 rfl) hO.1 rfl rfl hl.1 rfl (Nat.le_of_ble_eq_true rfl) dX5_addTo_63) hS (fun H locs hP hS => ?_)
        refine lv_i2l hx hb dX5_addTo_66 rfl ?_
        refine lv_ladd hx hb dX5_addTo_67 ?_
        refine lv_topl (fun z19 ez19 => ?_)
        have hf := bs ez19 hf
        refine lv_lstore_n (lv' := [(3, .long z19), (0, .ref a), (5, .int x5), (6, .int x6)]) hx hb dX5_addTo_68 rfl hl (by decide) rfl (fun ls hl => ?_)
        obtain ⟨z20, ez20, hf⟩ := bsJ hf
        refine lv_iinc (v := z20) (lv' := [(6, .int z20), (3, .long z19), (0, .ref a), (5, .int x5)]) hx hb dX5_addTo_69 hl (k := 3) rfl (by rw [ez20]; rfl) (by decide) rfl (fun ls hl => ?_)
        refine lv_goto (tgt := 44) hx hb dX5_addTo_72 (by decide) ?_
        exact ih z19 x5 z20 _ _ _ hf hP hS (lv_sub hl [2, 1, 3, 0] rfl)
  have L5 : ∀ (n : Nat) (x3 : Int64) (x5 : Int32) (H : Heap) (locs : List Loc) (ls : Array Slot), f_X5_addTo_L5 a M n x3 x5 = some v → wP g M N H → va_S (wA g) s.heap H locs → lv_has ls 7 [(0, .ref a), (3, .long x3), (5, .int x5)] → W p l e (rmD 2) s m ([.ref a, .long p0] : List Value).toArray below meth c H locs 0 0 (MQ below (QL g v M N) ([.ref a, .long p0] : List Value).toArray s 0 0 (wA g)) (F0 m 5 ls []) := by
    intro n
    induction n with
    | zero =>
      intro x3 x5 H locs ls hf
      exact absurd hf (by simp [f_X5_addTo_L5])
    | succ n ih =>
      intro x3 x5 H locs ls hf hP hS hl
      unfold f_X5_addTo_L5 at hf
      refine lv_iload hx hb dX5_addTo_5 (lv_at hl 2 rfl) ?_
      refine lv_iconst (v := (5 : Int32)) hx hb dX5_addTo_7 (by decide) ?_
      refine lv_icmp_ge (tgt := 81) hx hb dX5_addTo_8 (by decide) (fun c1 => ?_) (fun c1 => ?_)
      · have hf := if_t c1 hf
        refine lv_iconst (v := (0 : Int32)) hx hb dX5_addTo_81 (by decide) ?_
        refine lv_istore (lv' := [(5, .int (0 : Int32)), (0, .ref a), (3, .long x3)]) hx hb dX5_addTo_82 hl (by decide) rfl (fun ls hl => ?_)
        exact L84 _ x3 (0 : Int32) _ _ _ hf hP hS (lv_sub hl [1, 2, 0] rfl)
      · have hf := if_f c1 hf
        refine lv_ldc2 (v := (31 : Int64)) hx hb hC.2.2.2.1 (hC.2.2.2.2.1 _ q_1002) dX5_addTo_11 ?_
        refine lv_lload_n hx hb dX5_addTo_14 rfl (lv_at hl 1 rfl) ?_
        refine lv_lmul hx hb dX5_addTo_15 ?_
        refine lv_aload_n hx hb dX5_addTo_16 rfl (lv_at hl 0 rfl) ?_
        refine r_getR hC hP hO.1 fl_X5_15 rfl dX5_addTo_17 ?_
        refine lv_iload hx hb dX5_addTo_20 (lv_at hl 2 rfl) ?_
        obtain ⟨hb10, hf⟩ := ck_s hf
        refine r_iald hC hP hO.2.1 hb10 dX5_addTo_22 ?_
        refine lv_i2l hx hb dX5_addTo_23 rfl ?_
        refine lv_ladd hx hb dX5_addTo_24 ?_
        refine lv_topl (fun z11 ez11 => ?_)
        have hf := bs ez11 hf
        refine lv_lstore_n (lv' := [(3, .long z11), (0, .ref a), (5, .int x5)]) hx hb dX5_addTo_25 rfl hl (by decide) rfl (fun ls hl => ?_)
        refine lv_ldc2 (v := (31 : Int64)) hx hb hC.2.2.2.1 (hC.2.2.2.2.1 _ q_1002) dX5_addTo_26 ?_
        refine lv_lload_n hx hb dX5_addTo_29 rfl (lv_at hl 0 rfl) ?_
        refine lv_lmul hx hb dX5_addTo_30 ?_
        refine lv_aload_n hx hb dX5_addTo_31 rfl (lv_at hl 1 rfl) ?_
        refine r_getR hC hP hO.1 fl_X5_19 rfl dX5_addTo_32 ?_
        refine lv_iload hx hb dX5_addTo_35 (lv_at hl 2 rfl) ?_
        obtain ⟨hb12, hf⟩ := ck_s hf
        refine r_iald hC hP hO.2.2.1 hb12 dX5_addTo_37 ?_
        refine lv_i2l hx hb dX5_addTo_38 rfl ?_
        refine lv_ladd hx hb dX5_addTo_39 ?_
        refine lv_topl (fun z13 ez13 => ?_)
        have hf := bs ez13 hf
        refine lv_lstore_n (lv' := [(3, .long z13), (0, .ref a), (5, .int x5)]) hx hb dX5_addTo_40 rfl hl (by decide) rfl (fun ls hl => ?_)
        refine lv_iconst (v := (0 : Int32)) hx hb dX5_addTo_41 (by decide) ?_
        refine lv_istore (lv' := [(6, .int (0 : Int32)), (3, .long z13), (0, .ref a), (5, .int x5)]) hx hb dX5_addTo_42 hl (by decide) rfl (fun ls hl => ?_)
        exact L44 _ ih _ z13 x5 (0 : Int32) _ _ _ hf hP hS (lv_sub hl [2, 1, 3, 0] rfl)
  unfold f_X5_addTo at hf
  refine lv_lload_n hx hb dX5_addTo_0 rfl (lv_at hl 1 rfl) ?_
  refine lv_lstore_n (lv' := [(3, .long p0), (0, .ref a), (1, .long p0)]) hx hb dX5_addTo_1 rfl hl (by decide) rfl (fun ls hl => ?_)
  refine lv_iconst (v := (0 : Int32)) hx hb dX5_addTo_2 (by decide) ?_
  refine lv_istore (lv' := [(5, .int (0 : Int32)), (3, .long p0), (0, .ref a), (1, .long p0)]) hx hb dX5_addTo_3 hl (by decide) rfl (fun ls hl => ?_)
  exact L5 _ p0 (0 : Int32) _ _ _ hf hP hS (lv_sub hl [2, 1, 0] rfl)
set_option maxRecDepth 100000 in
set_option maxHeartbeats 4000000 in
theorem k_X11_digest {g : Ev} {l : Launch} (hg : g.2.1.Nodup) {x : Nat} (hO : oTop g x) {M : Mm} {N : Ml}  {v : Int64} (hf : f_X11_digest x M N = some v) : KM g l yX11_digest cX11_digest 4 (some .long) 3 [.ref x] M N (QL g v M N) := by
  refine KM.mk hg (by decide) (Nat.le_of_ble_eq_true rfl) ?_
  intro p e s m below meth c ls hC hr hlk hl hP hS
  have hx := hC.1
  have hb := hC.2.1
  have hl : lv_has ls 4 [(0, .ref x)] := hl
  have L6 : ∀ (n : Nat) (x1 : Int64) (x3 : Int32) (H : Heap) (locs : List Loc) (ls : Array Slot), f_X11_digest_L6 x M N n x1 x3 = some v → wP g M N H → va_S (wA g) s.heap H locs → lv_has ls 4 [(0, .ref x), (1, .long x1), (3, .int x3)] → W p l e (rmD 3) s m ([.ref x] : List Value).toArray below meth c H locs 0 0 (MQ below (QL g v M N) ([.ref x] : List Value).toArray s 0 0 (wA g)) (F0 m 6 ls []) := by
    intro n
    induction n with
    | zero =>
      intro x1 x3 H locs ls hf
      exact absurd hf (by simp [f_X11_digest_L6])
    | succ n ih =>
      intro x1 x3 H locs ls hf hP hS hl
      unfold f_X11_digest_L6 at hf
      refine lv_iload_n hx hb dX11_digest_6 rfl (lv_at hl 2 rfl) ?_
      refine lv_bipush (v := (7 : Int32)) hx hb dX11_digest_7 (by decide) ?_
      refine lv_icmp_ge (tgt := 31) hx hb dX11_digest_9 (by decide) (fun c1 => ?_) (fun c1 => ?_)
      · have hf := if_t c1 hf
        refine lv_aload_n hx hb dX11_digest_31 rfl (lv_at hl 0 rfl) ?_
        refine r_getR hC hP hO.1 fl_X11_27 rfl dX11_digest_32 ?_
        refine r_getR hC hP hO.2.1.1 fl_X11_43 rfl dX11_digest_35 ?_
        refine lv_lload_n hx hb dX11_digest_38 rfl (lv_at hl 1 rfl) ?_
        obtain ⟨r2, hu3, hf⟩ := bd_s hf
        refine r_goL (r_runV (As := [.long x1]) (rest := []) hC hP hS (k_X5_addTo hg hO.2.1.2.1 hu3) cw_X11_248 q_998 q_999 q_1000 (Rm.D 2 3 rfl) hO.2.1.2.1.1 rfl rfl hl.1 rfl (Nat.le_of_ble_eq_true rfl) dX11_digest_39) hS (fun H locs hP hS => ?_)
        refine lv_lstore_n (lv' := [(1, .long r2), (0, .ref x), (3, .int x3)]) hx hb dX11_digest_42 rfl hl (by decide) rfl (fun ls hl => ?_)
        refine lv_ldc2 (v := (31 : Int64)) hx hb hC.2.2.2.1 (hC.2.2.2.2.1 _ q_997) dX11_digest_43 ?_
        refine lv_lload_n hx hb dX11_digest_46 rfl (lv_at hl 0 rfl) ?_
        refine lv_lmul hx hb dX11_digest_47 ?_
        refine lv_aload_n hx hb dX11_digest_48 rfl (lv_at hl 1 rfl) ?_
        refine r_getL hC hP hO.1 fl_X11_77 rfl dX11_digest_49 ?_
        refine lv_ladd hx hb dX11_digest_52 ?_
        refine lv_topl (fun z5 ez5 => ?_)
        have hf := bs ez5 hf
        refine lv_lstore_n (lv' := [(1, .long z5), (0, .ref x), (3, .int x3)]) hx hb dX11_digest_53 rfl hl (by decide) rfl (fun ls hl => ?_)
        refine lv_ldc2 (v := (31 : Int64)) hx hb hC.2.2.2.1 (hC.2.2.2.2.1 _ q_997) dX11_digest_54 ?_
        refine lv_lload_n hx hb dX11_digest_57 rfl (lv_at hl 0 rfl) ?_
        refine lv_lmul hx hb dX11_digest_58 ?_
        refine lv_aload_n hx hb dX11_digest_59 rfl (lv_at hl 1 rfl) ?_
        refine r_getL hC hP hO.1 fl_X11_81 rfl dX11_digest_60 ?_
        refine lv_ladd hx hb dX11_digest_63 ?_
        exact e_L hC hr hlk hP hS dX11_digest_64 hf
      · have hf := if_f c1 hf
        refine lv_ldc2 (v := (31 : Int64)) hx hb hC.2.2.2.1 (hC.2.2.2.2.1 _ q_997) dX11_digest_12 ?_
        refine lv_lload_n hx hb dX11_digest_15 rfl (lv_at hl 1 rfl) ?_
        refine lv_lmul hx hb dX11_digest_16 ?_
        refine lv_aload_n hx hb dX11_digest_17 rfl (lv_at hl 0 rfl) ?_
        refine lv_iload_n hx hb dX11_digest_18 rfl (lv_at hl 2 rfl) ?_
        obtain ⟨r6, hu7, hf⟩ := bd_s hf
        refine r_goI (r_runV (As := [.int x3]) (rest := [.long ((31 : Int64) * x1)]) hC hP hS (k_X11_counted hg hO hu7) cw_X11_241 q_973 q_974 q_975 (Rm.D 2 3 rfl) hO.1 rfl rfl hl.1 rfl (Nat.le_of_ble_eq_true rfl) dX11_digest_19) hS (fun H locs hP hS => ?_)
        refine lv_i2l hx hb dX11_digest_22 rfl ?_
        refine lv_ladd hx hb dX11_digest_23 ?_
        refine lv_topl (fun z9 ez9 => ?_)
        have hf := bs ez9 hf
        refine lv_lstore_n (lv' := [(1, .long z9), (0, .ref x), (3, .int x3)]) hx hb dX11_digest_24 rfl hl (by decide) rfl (fun ls hl => ?_)
        obtain ⟨z10, ez10, hf⟩ := bsJ hf
        refine lv_iinc (v := z10) (lv' := [(3, .int z10), (1, .long z9), (0, .ref x)]) hx hb dX11_digest_25 hl (k := 2) rfl (by rw [ez10]; rfl) (by decide) rfl (fun ls hl => ?_)
        refine lv_goto (tgt := 6) hx hb dX11_digest_28 (by decide) ?_
        exact ih z9 z10 _ _ _ hf hP hS (lv_sub hl [2, 1, 0] rfl)
  unfold f_X11_digest at hf
  refine lv_ldc2 (v := (821 : Int64)) hx hb hC.2.2.2.1 (hC.2.2.2.2.1 _ q_996) dX11_digest_0 ?_
  refine lv_lstore_n (lv' := [(1, .long (821 : Int64)), (0, .ref x)]) hx hb dX11_digest_3 rfl hl (by decide) rfl (fun ls hl => ?_)
  refine lv_iconst (v := (0 : Int32)) hx hb dX11_digest_4 (by decide) ?_
  refine lv_istore_n (lv' := [(3, .int (0 : Int32)), (1, .long (821 : Int64)), (0, .ref x)]) hx hb dX11_digest_5 rfl hl (by decide) rfl (fun ls hl => ?_)
  exact L6 _ (821 : Int64) (0 : Int32) _ _ _ hf hP hS (lv_sub hl [2, 1, 0] rfl)
set_option maxRecDepth 100000 in
set_option maxHeartbeats 4000000 in
theorem k_X11_isRounds {g : Ev} {l : Launch} (hg : g.2.1.Nodup)   {M : Mm} {N : Ml} {p0 : Int32} {v : Int32} (hf : f_X11_isRounds p0 M = some v) : KM g l yX11_isRounds cX11_isRounds 1 (some .boolean) 1 [.int p0] M N (QI g v M N) := by
  refine KM.mk hg (by decide) (Nat.le_of_ble_eq_true rfl) ?_
  intro p e s m below meth c ls hC hr hlk hl hP hS
  have hx := hC.1
  have hb := hC.2.1
  have hl : lv_has ls 1 [(0, .int p0)] := hl
  unfold f_X11_isRounds at hf
  refine lv_iload_n hx hb dX11_isRounds_0 rfl (lv_at hl 0 rfl) ?_
  refine lv_iconst (v := (0 : Int32)) hx hb dX11_isRounds_1 (by decide) ?_
  refine lv_bipush (v := (60 : Int32)) hx hb dX11_isRounds_2 (by decide) ?_
  obtain ⟨r1, hu2, hf⟩ := bd_s hf
  refine r_goI (r_runS (As := [.int p0, .int (0 : Int32), .int (60 : Int32)]) (rest := []) hC hP hS (k_X11_isWithin hg hu2) cw_X11_84 q_175 q_176 (Rm.D 0 1 rfl) rfl hl.1 rfl (Nat.le_of_ble_eq_true rfl) dX11_isRounds_4) hS (fun H locs hP hS => ?_)
  obtain ⟨hn4, hf⟩ := cb_s hf
  exact e_Z hC hr hlk hn4 hP hS dX11_isRounds_7 hf
set_option maxRecDepth 100000 in
set_option maxHeartbeats 4000000 in
theorem k_X11_greatestDivisor {g : Ev} {l : Launch} (hg : g.2.1.Nodup)   {M : Mm} {N : Ml} {p0 : Int64} {p1 : Int64} {v : Int64} (hf : f_X11_greatestDivisor p0 p1 M = some v) : KM g l yX11_greatestDivisor cX11_greatestDivisor 11 (some .long) 0 [.long p0, .long p1] M N (QL g v M N) := by
  refine KM.mk hg (by decide) (Nat.le_of_ble_eq_true rfl) ?_
  intro p e s m below meth c ls hC hr hlk hl hP hS
  have hx := hC.1
  have hb := hC.2.1
  have hl : lv_has ls 11 [(0, .long p0), (2, .long p1)] := hl
  have L9 : ∀ (n : Nat) (x4 : Int64) (x6 : Int64) (x8 : Int32) (H : Heap) (locs : List Loc) (ls : Array Slot), f_X11_greatestDivisor_L9 M n x4 x6 x8 = some v → wP g M N H → va_S (wA g) s.heap H locs → lv_has ls 11 [(4, .long x4), (6, .long x6), (8, .int x8)] → W p l e (rmD 0) s m ([.long p0, .long p1] : List Value).toArray below meth c H locs 0 0 (MQ below (QL g v M N) ([.long p0, .long p1] : List Value).toArray s 0 0 (wA g)) (F0 m 9 ls []) := by
    intro n
    induction n with
    | zero =>
      intro x4 x6 x8 H locs ls hf
      exact absurd hf (by simp [f_X11_greatestDivisor_L9])
    | succ n ih =>
      intro x4 x6 x8 H locs ls hf hP hS hl
      unfold f_X11_greatestDivisor_L9 at hf
      refine lv_iload hx hb dX11_greatestDivisor_9 (lv_at hl 2 rfl) ?_
      refine lv_sipush (v := (200 : Int32)) hx hb dX11_greatestDivisor_11 (by decide) ?_
      refine lv_icmp_ge (tgt := 45) hx hb dX11_greatestDivisor_14 (by decide) (fun c1 => ?_) (fun c1 => ?_)
      · have hf := if_t c1 hf
        refine lv_lload hx hb dX11_greatestDivisor_45 (lv_at hl 0 rfl) ?_
        exact e_L hC hr hlk hP hS dX11_greatestDivisor_47 hf
      · have hf := if_f c1 hf
        refine lv_lload hx hb dX11_greatestDivisor_17 (lv_at hl 1 rfl) ?_
        refine lv_lconst (v := (0 : Int64)) hx hb dX11_greatestDivisor_19 (by decide) ?_
        refine W.lcmp hx hb dX11_greatestDivisor_20 ?_
        refine lv_if_eq (tgt := 45) hx hb dX11_greatestDivisor_21 (by decide) (fun c2 => ?_) (fun c2 => ?_)
        · have hf := if_t c2 hf
          refine lv_lload hx hb dX11_greatestDivisor_45 (lv_at hl 0 rfl) ?_
          exact e_L hC hr hlk hP hS dX11_greatestDivisor_47 hf
        · have hf := if_f c2 hf
          refine lv_lload hx hb dX11_greatestDivisor_24 (lv_at hl 0 rfl) ?_
          refine lv_lload hx hb dX11_greatestDivisor_26 (lv_at hl 1 rfl) ?_
          obtain ⟨hz3, hf⟩ := czL_s hf
          refine lv_lrem hx hb dX11_greatestDivisor_28 hz3 ?_
          refine lv_topl (fun z4 ez4 => ?_)
          have hf := bs ez4 hf
          refine lv_lstore (lv' := [(9, .long z4), (4, .long x4), (6, .long x6), (8, .int x8)]) hx hb dX11_greatestDivisor_29 hl (by decide) rfl (fun ls hl => ?_)
          refine lv_lload hx hb dX11_greatestDivisor_31 (lv_at hl 2 rfl) ?_
          refine lv_lstore (lv' := [(4, .long x6), (9, .long z4), (6, .long x6), (8, .int x8)]) hx hb dX11_greatestDivisor_33 hl (by decide) rfl (fun ls hl => ?_)
          refine lv_lload hx hb dX11_greatestDivisor_35 (lv_at hl 1 rfl) ?_
          refine lv_lstore (lv' := [(6, .long z4), (4, .long x6), (9, .long z4), (8, .int x8)]) hx hb dX11_greatestDivisor_37 hl (by decide) rfl (fun ls hl => ?_)
          obtain ⟨z5, ez5, hf⟩ := bsJ hf
          refine lv_iinc (v := z5) (lv' := [(8, .int z5), (6, .long z4), (4, .long x6), (9, .long z4)]) hx hb dX11_greatestDivisor_39 hl (k := 3) rfl (by rw [ez5]; rfl) (by decide) rfl (fun ls hl => ?_)
          refine lv_goto (tgt := 9) hx hb dX11_greatestDivisor_42 (by decide) ?_
          exact ih x6 z4 z5 _ _ _ hf hP hS (lv_sub hl [2, 1, 0] rfl)
  unfold f_X11_greatestDivisor at hf
  refine lv_lload_n hx hb dX11_greatestDivisor_0 rfl (lv_at hl 0 rfl) ?_
  refine lv_lstore (lv' := [(4, .long p0), (0, .long p0), (2, .long p1)]) hx hb dX11_greatestDivisor_1 hl (by decide) rfl (fun ls hl => ?_)
  refine lv_lload_n hx hb dX11_greatestDivisor_3 rfl (lv_at hl 2 rfl) ?_
  refine lv_lstore (lv' := [(6, .long p1), (4, .long p0), (0, .long p0), (2, .long p1)]) hx hb dX11_greatestDivisor_4 hl (by decide) rfl (fun ls hl => ?_)
  refine lv_iconst (v := (0 : Int32)) hx hb dX11_greatestDivisor_6 (by decide) ?_
  refine lv_istore (lv' := [(8, .int (0 : Int32)), (6, .long p1), (4, .long p0), (0, .long p0), (2, .long p1)]) hx hb dX11_greatestDivisor_7 hl (by decide) rfl (fun ls hl => ?_)
  exact L9 _ p0 p1 (0 : Int32) _ _ _ hf hP hS (lv_sub hl [2, 1, 0] rfl)
set_option maxRecDepth 100000 in
set_option maxHeartbeats 4000000 in
theorem k_X11_fee {g : Ev} {l : Launch} (hg : g.2.1.Nodup) {x : Nat} (hO : oTop g x) {M : Mm} {N : Ml} {p0 : Int32} {p1 : Int32} {v : Int32} {MR : Mm} {NR : Ml} (hf : f_X11_fee x p0 p1 M N = some (v, MR, NR)) : KM g l yX11_fee cX11_fee 9 (some .int) 6 [.ref x, .int p0, .int p1] M N (QI g v MR NR) := by
  refine KM.mk hg (by decide) (Nat.le_of_ble_eq_true rfl) ?_
  intro p e s m below meth c ls hC hr hlk hl hP hS
  have hx := hC.1
  have hb := hC.2.1
  have hl : lv_has ls 9 [(0, .ref x), (1, .int p0), (2, .int p1)] := hl
  have J15 : ∀ (M : Mm) (N : Ml) (H : Heap) (locs : List Loc) (ls : Array Slot), f_X11_fee_J15 x M N = some (v, MR, NR) → wP g M N H → va_S (wA g) s.heap H locs → lv_has ls 9 [(0, .ref x)] → W p l e (rmD 6) s m ([.ref x, .int p0, .int p1] : List Value).toArray below meth c H locs 0 0 (MQ below (QI g v MR NR) ([.ref x, .int p0, .int p1] : List Value).toArray s 0 0 (wA g)) (F0 m 15 ls []) := by
    intro M N H locs ls hf hP hS hl
    unfold f_X11_fee_J15 at hf
    refine lv_aload_n hx hb dX11_fee_15 rfl (lv_at hl 0 rfl) ?_
    refine lv_iconst (v := (0 : Int32)) hx hb dX11_fee_16 (by decide) ?_
    refine lv_bipush (v := (-2 : Int32)) hx hb dX11_fee_17 (by decide) ?_
    obtain ⟨r5, M7, hu6, hf⟩ := bd2_s hf
    refine r_goI (r_runV (As := [.int (0 : Int32), .int (-2 : Int32)]) (rest := []) hC hP hS (k_X11_refuse hg hO hu6) cw_X11_88 q_178 q_179 q_180 (Rm.D 0 6 rfl) hO.1 rfl rfl hl.1 rfl (Nat.le_of_ble_eq_true rfl) dX11_fee_19) hS (fun H locs hP hS => ?_)
    exact e_IN hC hr hlk hP hS dX11_fee_22 hf
  unfold f_X11_fee at hf
  refine lv_aload_n hx hb dX11_fee_0 rfl (lv_at hl 0 rfl) ?_
  refine lv_iload_n hx hb dX11_fee_1 rfl (lv_at hl 1 rfl) ?_
  obtain ⟨r1, hu2, hf⟩ := bd_s hf
  refine r_goI (r_runV (As := [.int p0]) (rest := []) hC hP hS (k_X11_isMoon hg hO hu2) cw_X11_158 q_622 q_623 q_624 (Rm.D 1 6 rfl) hO.1 rfl rfl hl.1 rfl (Nat.le_of_ble_eq_true rfl) dX11_fee_2) hS (fun H locs hP hS => ?_)
  refine lv_if_eq (tgt := 15) hx hb dX11_fee_5 (by decide) (fun c4 => ?_) (fun c4 => ?_)
  · have hf := if_t c4 hf
    exact J15 M N _ _ _ hf hP hS (lv_sub hl [0] rfl)
  · have hf := if_f c4 hf
    refine lv_iload_n hx hb dX11_fee_8 rfl (lv_at hl 2 rfl) ?_
    obtain ⟨r8, hu9, hf⟩ := bd_s hf
    refine r_goI (r_runS (As := [.int p1]) (rest := []) hC hP hS (k_X11_isRounds hg hu9) cw_X11_164 q_646 q_647 (Rm.D 1 6 rfl) rfl hl.1 rfl (Nat.le_of_ble_eq_true rfl) dX11_fee_9) hS (fun H locs hP hS => ?_)
    refine lv_if_ne (tgt := 23) hx hb dX11_fee_12 (by decide) (fun c11 => ?_) (fun c11 => ?_)
    · have hf := if_f c11 hf
      refine lv_aload_n hx hb dX11_fee_23 rfl (lv_at hl 0 rfl) ?_
      refine r_getR hC hP hO.1 fl_X11_53 rfl dX11_fee_24 ?_
      refine lv_iload_n hx hb dX11_fee_27 rfl (lv_at hl 1 rfl) ?_
      refine lv_iload_n hx hb dX11_fee_28 rfl (lv_at hl 2 rfl) ?_
      obtain ⟨r12, M14, hu13, hf⟩ := bd2_s hf
      refine r_goL (r_runV (As := [.int p0, .int p1]) (rest := []) hC hP hS (k_X0_addedInAllOrders hg hO.2.2.2.2.2.1 hu13) cw_X11_221 q_898 q_899 q_900 (Rm.D 5 6 rfl) hO.2.2.2.2.2.1.1 rfl rfl hl.1 rfl (Nat.le_of_ble_eq_true rfl) dX11_fee_29) hS (fun H locs hP hS => ?_)
      refine lv_lstore_n (lv' := [(3, .long r12), (0, .ref x), (1, .int p0), (2, .int p1)]) hx hb dX11_fee_32 rfl hl (by decide) rfl (fun ls hl => ?_)
      refine r_fact hC hS q_894 dX11_fee_33 ?_
      refine lv_aload_n hx hb dX11_fee_36 rfl (lv_at hl 1 rfl) ?_
      refine r_getR hC hP hO.1 fl_X11_27 rfl dX11_fee_37 ?_
      refine r_getR hC hP hO.2.1.1 fl_X11_43 rfl dX11_fee_40 ?_
      refine r_getI hC hP hO.2.1.2.1.1 fl_X11_120 rfl dX11_fee_43 ?_
      obtain ⟨hb15, hf⟩ := ck_s hf
      refine r_fald hC hS hb15 dX11_fee_46 ?_
      refine lv_i2l hx hb dX11_fee_47 rfl ?_
      refine lv_topl (fun z16 ez16 => ?_)
      have hf := bs ez16 hf
      refine lv_lstore (lv' := [(5, .long z16), (3, .long r12), (0, .ref x), (1, .int p0), (2, .int p1)]) hx hb dX11_fee_48 hl (by decide) rfl (fun ls hl => ?_)
      refine lv_lload_n hx hb dX11_fee_50 rfl (lv_at hl 1 rfl) ?_
      refine r_abs hC hl.1 (Rm.D 0 6 rfl) (Nat.le_of_ble_eq_true rfl) dX11_fee_51 ?_
      refine lv_lload hx hb dX11_fee_54 (lv_at hl 0 rfl) ?_
      obtain ⟨r17, hu18, hf⟩ := bd_s hf
      refine r_goL (r_runS (As := [.long (jabs r12), .long z16]) (rest := []) hC hP hS (k_X11_greatestDivisor hg hu18) cw_X11_234 q_919 q_920 (Rm.D 0 6 rfl) rfl hl.1 rfl (Nat.le_of_ble_eq_true rfl) dX11_fee_56) hS (fun H locs hP hS => ?_)
      refine lv_lstore (lv' := [(7, .long r17), (5, .long z16), (3, .long r12), (0, .ref x), (1, .int p0), (2, .int p1)]) hx hb dX11_fee_59 hl (by decide) rfl (fun ls hl => ?_)
      refine lv_lload hx hb dX11_fee_61 (lv_at hl 0 rfl) ?_
      refine lv_lconst (v := (0 : Int64)) hx hb dX11_fee_63 (by decide) ?_
      refine W.lcmp hx hb dX11_fee_64 ?_
      refine lv_if_le (tgt := 85) hx hb dX11_fee_65 (by decide) (fun c20 => ?_) (fun c20 => ?_)
      · have hf := if_t c20 hf
        refine lv_iconst (v := (1 : Int32)) hx hb dX11_fee_85 (by decide) ?_
        exact e_IN hC hr hlk hP hS dX11_fee_86 hf
      · have hf := if_f c20 hf
        refine lv_aload_n hx hb dX11_fee_68 rfl (lv_at hl 3 rfl) ?_
        refine lv_lload_n hx hb dX11_fee_69 rfl (lv_at hl 2 rfl) ?_
        refine lv_lload hx hb dX11_fee_70 (lv_at hl 0 rfl) ?_
        obtain ⟨hz21, hf⟩ := czL_s hf
        refine lv_ldiv hx hb dX11_fee_72 hz21 ?_
        refine r_putL hC hP hS hO.1 fl_X11_77 tyX11 tyX11_ok nmX11 rfl rfl rfl dX11_fee_73 (fun H locs hP hS => ?_)
        obtain ⟨N22, eN22, hf, hP⟩ := bsN hf hP
        refine lv_aload_n hx hb dX11_fee_76 rfl (lv_at hl 3 rfl) ?_
        refine lv_lload hx hb dX11_fee_77 (lv_at hl 1 rfl) ?_
        refine lv_lload hx hb dX11_fee_79 (lv_at hl 0 rfl) ?_
        obtain ⟨hz23, hf⟩ := czL_s hf
        refine lv_ldiv hx hb dX11_fee_81 hz23 ?_
        refine r_putL hC hP hS hO.1 fl_X11_81 tyX11 tyX11_ok nmX11 rfl rfl rfl dX11_fee_82 (fun H locs hP hS => ?_)
        obtain ⟨N24, eN24, hf, hP⟩ := bsN hf hP
        refine lv_iconst (v := (1 : Int32)) hx hb dX11_fee_85 (by decide) ?_
        exact e_IN hC hr hlk hP hS dX11_fee_86 hf
    · have hf := if_t c11 hf
      exact J15 M N _ _ _ hf hP hS (lv_sub hl [0] rfl)
set_option maxRecDepth 100000 in
set_option maxHeartbeats 4000000 in
theorem k_X7_copy {g : Ev} {l : Launch} (hg : g.2.1.Nodup) {kd : Nat} {b : Nat} {p0 : Nat} {kdp0 : Nat} (hO : oStory g kd b) (hp0 : oStory g kdp0 p0) {M : Mm} {N : Ml}  {MR : Mm} (hf : f_X7_copy b p0 M = some MR) : KM g l yX7_copy cX7_copy 3 none 3 [.ref b, .ref p0] M N (QV g MR N) := by
  refine KM.mk hg (by decide) (Nat.le_of_ble_eq_true rfl) ?_
  intro p e s m below meth c ls hC hr hlk hl hP hS
  have hx := hC.1
  have hb := hC.2.1
  have hl : lv_has ls 3 [(0, .ref b), (1, .ref p0)] := hl
  have L13 : ∀ (n : Nat) (x2 : Int32) (M : Mm) (H : Heap) (locs : List Loc) (ls : Array Slot), f_X7_copy_L13 b p0 n x2 M = some MR → wP g M N H → va_S (wA g) s.heap H locs → lv_has ls 3 [(0, .ref b), (1, .ref p0), (2, .int x2)] → W p l e (rmD 3) s m ([.ref b, .ref p0] : List Value).toArray below meth c H locs 0 0 (MQ below (QV g MR N) ([.ref b, .ref p0] : List Value).toArray s 0 0 (wA g)) (F0 m 13 ls []) := by
    intro n
    induction n with
    | zero =>
      intro x2 M H locs ls hf
      exact absurd hf (by simp [f_X7_copy_L13])
    | succ n ih =>
      intro x2 M H locs ls hf hP hS hl
      unfold f_X7_copy_L13 at hf
      refine lv_iload_n hx hb dX7_copy_13 rfl (lv_at hl 2 rfl) ?_
      refine lv_bipush (v := (6 : Int32)) hx hb dX7_copy_14 (by decide) ?_
      refine lv_icmp_ge (tgt := 40) hx hb dX7_copy_16 (by decide) (fun c4 => ?_) (fun c4 => ?_)
      · have hf := if_t c4 hf
        refine lv_aload_n hx hb dX7_copy_40 rfl (lv_at hl 0 rfl) ?_
        refine lv_aload_n hx hb dX7_copy_41 rfl (lv_at hl 1 rfl) ?_
        refine r_getI hC hP hp0.1 fl_X7_24 rfl dX7_copy_42 ?_
        refine r_putI hC hP hS hO.1 fl_X7_24 tyX7 tyX7_ok nmX7 rfl rfl rfl dX7_copy_45 (fun H locs hP hS => ?_)
        obtain ⟨M5, eM5, hf, hP⟩ := bsM hf hP
        refine lv_aload_n hx hb dX7_copy_48 rfl (lv_at hl 0 rfl) ?_
        refine lv_aload_n hx hb dX7_copy_49 rfl (lv_at hl 1 rfl) ?_
        refine r_getI hC hP hp0.1 fl_X7_28 rfl dX7_copy_50 ?_
        refine r_putI hC hP hS hO.1 fl_X7_28 tyX7 tyX7_ok nmX7 rfl rfl rfl dX7_copy_53 (fun H locs hP hS => ?_)
        obtain ⟨M6, eM6, hf, hP⟩ := bsM hf hP
        exact e_VM hC hr hlk hP hS dX7_copy_56 hf
      · have hf := if_f c4 hf
        refine lv_aload_n hx hb dX7_copy_19 rfl (lv_at hl 0 rfl) ?_
        refine r_getR hC hP hO.1 fl_X7_20 rfl dX7_copy_20 ?_
        refine lv_iload_n hx hb dX7_copy_23 rfl (lv_at hl 2 rfl) ?_
        obtain ⟨hb7, hf⟩ := ck_s hf
        obtain ⟨j8, ej8, hf⟩ := bsJ hf
        have hj8 : j8 < 6 := by rw [ej8]; exact vin_lt hb7
        refine r_aalR (t0 := 3) (v := b + 11 + 9 * j8) hC hP hO.2.2.1 rfl hb7 (by rw [ej8]) dX7_copy_24 ?_
        refine lv_aload_n hx hb dX7_copy_25 rfl (lv_at hl 1 rfl) ?_
        refine r_getR hC hP hp0.1 fl_X7_20 rfl dX7_copy_26 ?_
        refine lv_iload_n hx hb dX7_copy_29 rfl (lv_at hl 2 rfl) ?_
        obtain ⟨hb9, hf⟩ := ck_s hf
        obtain ⟨j10, ej10, hf⟩ := bsJ hf
        have hj10 : j10 < 6 := by rw [ej10]; exact vin_lt hb9
        refine r_aalR (t0 := 3) (v := p0 + 11 + 9 * j10) hC hP hp0.2.2.1 rfl hb9 (by rw [ej10]) dX7_copy_30 ?_
        obtain ⟨M13, hu12, hf⟩ := bd_s hf
        refine r_goV (r_runV (As := [.ref (p0 + 11 + 9 * j10)]) (rest := []) hC hP hS (k_X5_copy hg (hO.2.2.2 j8 hj8) (hp0.2.2.2 j10 hj10) hu12) cw_X7_31 q_479 q_410 q_411 (Rm.D 2 3 rfl) ((hO.2.2.2 j8 hj8).1) rfl rfl hl.1 rfl (Nat.le_of_ble_eq_true rfl) dX7_copy_31) hS (fun H locs hP hS => ?_)
        obtain ⟨z14, ez14, hf⟩ := bsJ hf
        refine lv_iinc (v := z14) (lv' := [(2, .int z14), (0, .ref b), (1, .ref p0)]) hx hb dX7_copy_34 hl (k := 2) rfl (by rw [ez14]; rfl) (by decide) rfl (fun ls hl => ?_)
        refine lv_goto (tgt := 13) hx hb dX7_copy_37 (by decide) ?_
        exact ih z14 M13 _ _ _ hf hP hS (lv_sub hl [1, 2, 0] rfl)
  unfold f_X7_copy at hf
  refine lv_aload_n hx hb dX7_copy_0 rfl (lv_at hl 0 rfl) ?_
  refine r_getR hC hP hO.1 fl_X7_14 rfl dX7_copy_1 ?_
  refine lv_aload_n hx hb dX7_copy_4 rfl (lv_at hl 1 rfl) ?_
  refine r_getR hC hP hp0.1 fl_X7_14 rfl dX7_copy_5 ?_
  obtain ⟨M3, hu2, hf⟩ := bd_s hf
  refine r_goV (r_runV (As := [.ref (p0 + 1)]) (rest := []) hC hP hS (k_X5_copy hg hO.2.1 hp0.2.1 hu2) cw_X7_31 q_479 q_410 q_411 (Rm.D 2 3 rfl) hO.2.1.1 rfl rfl hl.1 rfl (Nat.le_of_ble_eq_true rfl) dX7_copy_8) hS (fun H locs hP hS => ?_)
  refine lv_iconst (v := (0 : Int32)) hx hb dX7_copy_11 (by decide) ?_
  refine lv_istore_n (lv' := [(2, .int (0 : Int32)), (0, .ref b), (1, .ref p0)]) hx hb dX7_copy_12 rfl hl (by decide) rfl (fun ls hl => ?_)
  exact L13 _ (0 : Int32) M3 _ _ _ hf hP hS (lv_sub hl [1, 2, 0] rfl)
set_option maxRecDepth 100000 in
set_option maxHeartbeats 4000000 in
theorem k_X11_from {g : Ev} {l : Launch} (hg : g.2.1.Nodup) {x : Nat} (hO : oTop g x) {M : Mm} {N : Ml} {p0 : Int32} {v : Int32} {MR : Mm} (hf : f_X11_from x p0 M = some (v, MR)) : KM g l yX11_from cX11_from 2 (some .int) 4 [.ref x, .int p0] M N (QI g v MR N) := by
  refine KM.mk hg (by decide) (Nat.le_of_ble_eq_true rfl) ?_
  intro p e s m below meth c ls hC hr hlk hl hP hS
  have hx := hC.1
  have hb := hC.2.1
  have hl : lv_has ls 2 [(0, .ref x), (1, .int p0)] := hl
  unfold f_X11_from at hf
  refine lv_iload_n hx hb dX11_from_0 rfl (lv_at hl 1 rfl) ?_
  refine lv_iconst (v := (0 : Int32)) hx hb dX11_from_1 (by decide) ?_
  refine lv_iconst (v := (1 : Int32)) hx hb dX11_from_2 (by decide) ?_
  obtain ⟨r1, hu2, hf⟩ := bd_s hf
  refine r_goI (r_runS (As := [.int p0, .int (0 : Int32), .int (1 : Int32)]) (rest := []) hC hP hS (k_X11_isWithin hg hu2) cw_X11_84 q_175 q_176 (Rm.D 0 4 rfl) rfl hl.1 rfl (Nat.le_of_ble_eq_true rfl) dX11_from_3) hS (fun H locs hP hS => ?_)
  refine lv_if_ne (tgt := 17) hx hb dX11_from_6 (by decide) (fun c4 => ?_) (fun c4 => ?_)
  · have hf := if_f c4 hf
    refine lv_aload_n hx hb dX11_from_17 rfl (lv_at hl 0 rfl) ?_
    refine r_getR hC hP hO.1 fl_X11_37 rfl dX11_from_18 ?_
    refine lv_iload_n hx hb dX11_from_21 rfl (lv_at hl 1 rfl) ?_
    obtain ⟨hb5, hf⟩ := ck_s hf
    refine r_zald hC hP hO.2.2.2.2.1 hb5 dX11_from_22 ?_
    refine lv_if_ne (tgt := 34) hx hb dX11_from_23 (by decide) (fun c6 => ?_) (fun c6 => ?_)
    · have hf := if_f c6 hf
      refine lv_aload_n hx hb dX11_from_34 rfl (lv_at hl 0 rfl) ?_
      refine r_getR hC hP hO.1 fl_X11_27 rfl dX11_from_35 ?_
      refine lv_aload_n hx hb dX11_from_38 rfl (lv_at hl 0 rfl) ?_
      refine r_getR hC hP hO.1 fl_X11_33 rfl dX11_from_39 ?_
      refine lv_iload_n hx hb dX11_from_42 rfl (lv_at hl 1 rfl) ?_
      obtain ⟨hb7, hf⟩ := ck_s hf
      obtain ⟨j8, ej8, hf⟩ := bsJ hf
      have hj8 : j8 < 2 := by rw [ej8]; exact vin_lt hb7
      refine r_aalR (t0 := 4) (v := x + 73 + 65 * j8) hC hP hO.2.2.1 rfl hb7 (by rw [ej8]) dX11_from_43 ?_
      obtain ⟨M11, hu10, hf⟩ := bd_s hf
      refine r_goV (r_runV (As := [.ref (x + 73 + 65 * j8)]) (rest := []) hC hP hS (k_X7_copy hg hO.2.1 (hO.2.2.2.1 j8 hj8) hu10) cw_X11_238 q_945 q_946 q_947 (Rm.D 3 4 rfl) hO.2.1.1 rfl rfl hl.1 rfl (Nat.le_of_ble_eq_true rfl) dX11_from_44) hS (fun H locs hP hS => ?_)
      refine lv_iconst (v := (1 : Int32)) hx hb dX11_from_47 (by decide) ?_
      exact e_IM hC hr hlk hP hS dX11_from_48 hf
    · have hf := if_t c6 hf
      refine lv_aload_n hx hb dX11_from_26 rfl (lv_at hl 0 rfl) ?_
      refine lv_iconst (v := (1 : Int32)) hx hb dX11_from_27 (by decide) ?_
      refine lv_bipush (v := (-3 : Int32)) hx hb dX11_from_28 (by decide) ?_
      obtain ⟨r12, M14, hu13, hf⟩ := bd2_s hf
      refine r_goI (r_runV (As := [.int (1 : Int32), .int (-3 : Int32)]) (rest := []) hC hP hS (k_X11_refuse hg hO hu13) cw_X11_88 q_178 q_179 q_180 (Rm.D 0 4 rfl) hO.1 rfl rfl hl.1 rfl (Nat.le_of_ble_eq_true rfl) dX11_from_30) hS (fun H locs hP hS => ?_)
      exact e_IM hC hr hlk hP hS dX11_from_33 hf
  · have hf := if_t c4 hf
    refine lv_aload_n hx hb dX11_from_9 rfl (lv_at hl 0 rfl) ?_
    refine lv_iconst (v := (0 : Int32)) hx hb dX11_from_10 (by decide) ?_
    refine lv_bipush (v := (-2 : Int32)) hx hb dX11_from_11 (by decide) ?_
    obtain ⟨r15, M17, hu16, hf⟩ := bd2_s hf
    refine r_goI (r_runV (As := [.int (0 : Int32), .int (-2 : Int32)]) (rest := []) hC hP hS (k_X11_refuse hg hO hu16) cw_X11_88 q_178 q_179 q_180 (Rm.D 0 4 rfl) hO.1 rfl rfl hl.1 rfl (Nat.le_of_ble_eq_true rfl) dX11_from_13) hS (fun H locs hP hS => ?_)
    exact e_IM hC hr hlk hP hS dX11_from_16 hf
set_option maxRecDepth 100000 in
set_option maxHeartbeats 4000000 in
theorem k_X11_game {g : Ev} {l : Launch} (hg : g.2.1.Nodup) {x : Nat} (hO : oTop g x) {M : Mm} {N : Ml} {p0 : Int32} {p1 : Int32} {v : Int32} {MR : Mm} (hf : f_X11_game x p0 p1 M = some (v, MR)) : KM g l yX11_game cX11_game 3 (some .int) 11 [.ref x, .int p0, .int p1] M N (QI g v MR N) := by
  refine KM.mk hg (by decide) (Nat.le_of_ble_eq_true rfl) ?_
  intro p e s m below meth c ls hC hr hlk hl hP hS
  have hx := hC.1
  have hb := hC.2.1
  have hl : lv_has ls 3 [(0, .ref x), (1, .int p0), (2, .int p1)] := hl
  have J19 : ∀ (M : Mm) (H : Heap) (locs : List Loc) (ls : Array Slot), f_X11_game_J19 x M = some (v, MR) → wP g M N H → va_S (wA g) s.heap H locs → lv_has ls 3 [(0, .ref x)] → W p l e (rmD 11) s m ([.ref x, .int p0, .int p1] : List Value).toArray below meth c H locs 0 0 (MQ below (QI g v MR N) ([.ref x, .int p0, .int p1] : List Value).toArray s 0 0 (wA g)) (F0 m 19 ls []) := by
    intro M H locs ls hf hP hS hl
    unfold f_X11_game_J19 at hf
    refine lv_aload_n hx hb dX11_game_19 rfl (lv_at hl 0 rfl) ?_
    refine lv_iconst (v := (0 : Int32)) hx hb dX11_game_20 (by decide) ?_
    refine lv_ldc (v := (-100000 : Int32)) hx hb hC.2.2.2.1 (hC.2.2.2.2.1 _ q_862) dX11_game_21 ?_
    obtain ⟨r5, M7, hu6, hf⟩ := bd2_s hf
    refine r_goI (r_runV (As := [.int (0 : Int32), .int (-100000 : Int32)]) (rest := []) hC hP hS (k_X11_refuse hg hO hu6) cw_X11_88 q_178 q_179 q_180 (Rm.D 0 11 rfl) hO.1 rfl rfl hl.1 rfl (Nat.le_of_ble_eq_true rfl) dX11_game_23) hS (fun H locs hP hS => ?_)
    exact e_IM hC hr hlk hP hS dX11_game_26 hf
  unfold f_X11_game at hf
  refine lv_iload_n hx hb dX11_game_0 rfl (lv_at hl 1 rfl) ?_
  refine lv_iconst (v := (1 : Int32)) hx hb dX11_game_1 (by decide) ?_
  refine lv_bipush (v := (6 : Int32)) hx hb dX11_game_2 (by decide) ?_
  obtain ⟨r1, hu2, hf⟩ := bd_s hf
  refine r_goI (r_runS (As := [.int p0, .int (1 : Int32), .int (6 : Int32)]) (rest := []) hC hP hS (k_X11_isWithin hg hu2) cw_X11_84 q_175 q_176 (Rm.D 0 11 rfl) rfl hl.1 rfl (Nat.le_of_ble_eq_true rfl) dX11_game_4) hS (fun H locs hP hS => ?_)
  refine lv_if_eq (tgt := 19) hx hb dX11_game_7 (by decide) (fun c4 => ?_) (fun c4 => ?_)
  · have hf := if_t c4 hf
    exact J19 M _ _ _ hf hP hS (lv_sub hl [0] rfl)
  · have hf := if_f c4 hf
    refine lv_iload_n hx hb dX11_game_10 rfl (lv_at hl 2 rfl) ?_
    refine lv_iconst (v := (0 : Int32)) hx hb dX11_game_11 (by decide) ?_
    refine lv_iconst (v := (1 : Int32)) hx hb dX11_game_12 (by decide) ?_
    obtain ⟨r8, hu9, hf⟩ := bd_s hf
    refine r_goI (r_runS (As := [.int p1, .int (0 : Int32), .int (1 : Int32)]) (rest := []) hC hP hS (k_X11_isWithin hg hu9) cw_X11_84 q_175 q_176 (Rm.D 0 11 rfl) rfl hl.1 rfl (Nat.le_of_ble_eq_true rfl) dX11_game_13) hS (fun H locs hP hS => ?_)
    refine lv_if_ne (tgt := 27) hx hb dX11_game_16 (by decide) (fun c11 => ?_) (fun c11 => ?_)
    · have hf := if_f c11 hf
      refine lv_iload_n hx hb dX11_game_27 rfl (lv_at hl 2 rfl) ?_
      refine lv_if_ne (tgt := 42) hx hb dX11_game_28 (by decide) (fun c12 => ?_) (fun c12 => ?_)
      · have hf := if_f c12 hf
        refine lv_aload_n hx hb dX11_game_42 rfl (lv_at hl 0 rfl) ?_
        refine r_getR hC hP hO.1 fl_X11_53 rfl dX11_game_43 ?_
        refine lv_iload_n hx hb dX11_game_46 rfl (lv_at hl 1 rfl) ?_
        obtain ⟨r13, M15, hu14, hf⟩ := bd2_s hf
        refine r_goI (r_runV (As := [.int p0]) (rest := []) hC hP hS (k_X0_firstTaken hg hO.2.2.2.2.2.1 hu14) cw_X11_218 q_874 q_875 q_876 (Rm.D 10 11 rfl) hO.2.2.2.2.2.1.1 rfl rfl hl.1 rfl (Nat.le_of_ble_eq_true rfl) dX11_game_47) hS (fun H locs hP hS => ?_)
        exact e_IM hC hr hlk hP hS dX11_game_50 hf
      · have hf := if_t c12 hf
        refine lv_aload_n hx hb dX11_game_31 rfl (lv_at hl 0 rfl) ?_
        refine r_getR hC hP hO.1 fl_X11_53 rfl dX11_game_32 ?_
        refine lv_iload_n hx hb dX11_game_35 rfl (lv_at hl 1 rfl) ?_
        obtain ⟨r16, M18, hu17, hf⟩ := bd2_s hf
        refine r_goI (r_runV (As := [.int p0]) (rest := []) hC hP hS (k_X0_farmerAhead hg hO.2.2.2.2.2.1 hu17) cw_X11_215 q_863 q_864 q_865 (Rm.D 9 11 rfl) hO.2.2.2.2.2.1.1 rfl rfl hl.1 rfl (Nat.le_of_ble_eq_true rfl) dX11_game_36) hS (fun H locs hP hS => ?_)
        refine lv_goto (tgt := 50) hx hb dX11_game_39 (by decide) ?_
        exact e_IM hC hr hlk hP hS dX11_game_50 hf
    · have hf := if_t c11 hf
      exact J19 M _ _ _ hf hP hS (lv_sub hl [0] rfl)
set_option maxRecDepth 100000 in
set_option maxHeartbeats 4000000 in
theorem k_X11_image {g : Ev} {l : Launch} (hg : g.2.1.Nodup) {x : Nat} (hO : oTop g x) {M : Mm} {N : Ml} {p0 : Int32} {v : Int32} {MR : Mm} (hf : f_X11_image x p0 M = some (v, MR)) : KM g l yX11_image cX11_image 2 (some .int) 4 [.ref x, .int p0] M N (QI g v MR N) := by
  refine KM.mk hg (by decide) (Nat.le_of_ble_eq_true rfl) ?_
  intro p e s m below meth c ls hC hr hlk hl hP hS
  have hx := hC.1
  have hb := hC.2.1
  have hl : lv_has ls 2 [(0, .ref x), (1, .int p0)] := hl
  unfold f_X11_image at hf
  refine lv_iload_n hx hb dX11_image_0 rfl (lv_at hl 1 rfl) ?_
  refine lv_iconst (v := (0 : Int32)) hx hb dX11_image_1 (by decide) ?_
  refine lv_iconst (v := (1 : Int32)) hx hb dX11_image_2 (by decide) ?_
  obtain ⟨r1, hu2, hf⟩ := bd_s hf
  refine r_goI (r_runS (As := [.int p0, .int (0 : Int32), .int (1 : Int32)]) (rest := []) hC hP hS (k_X11_isWithin hg hu2) cw_X11_84 q_175 q_176 (Rm.D 0 4 rfl) rfl hl.1 rfl (Nat.le_of_ble_eq_true rfl) dX11_image_3) hS (fun H locs hP hS => ?_)
  refine lv_if_ne (tgt := 17) hx hb dX11_image_6 (by decide) (fun c4 => ?_) (fun c4 => ?_)
  · have hf := if_f c4 hf
    refine lv_aload_n hx hb dX11_image_17 rfl (lv_at hl 0 rfl) ?_
    refine r_getR hC hP hO.1 fl_X11_33 rfl dX11_image_18 ?_
    refine lv_iload_n hx hb dX11_image_21 rfl (lv_at hl 1 rfl) ?_
    obtain ⟨hb5, hf⟩ := ck_s hf
    obtain ⟨j6, ej6, hf⟩ := bsJ hf
    have hj6 : j6 < 2 := by rw [ej6]; exact vin_lt hb5
    refine r_aalR (t0 := 4) (v := x + 73 + 65 * j6) hC hP hO.2.2.1 rfl hb5 (by rw [ej6]) dX11_image_22 ?_
    refine lv_aload_n hx hb dX11_image_23 rfl (lv_at hl 0 rfl) ?_
    refine r_getR hC hP hO.1 fl_X11_27 rfl dX11_image_24 ?_
    obtain ⟨M9, hu8, hf⟩ := bd_s hf
    refine r_goV (r_runV (As := [.ref (x + 7)]) (rest := []) hC hP hS (k_X7_copy hg (hO.2.2.2.1 j6 hj6) hO.2.1 hu8) cw_X11_238 q_945 q_946 q_947 (Rm.D 3 4 rfl) ((hO.2.2.2.1 j6 hj6).1) rfl rfl hl.1 rfl (Nat.le_of_ble_eq_true rfl) dX11_image_27) hS (fun H locs hP hS => ?_)
    refine lv_aload_n hx hb dX11_image_30 rfl (lv_at hl 0 rfl) ?_
    refine r_getR hC hP hO.1 fl_X11_37 rfl dX11_image_31 ?_
    refine lv_iload_n hx hb dX11_image_34 rfl (lv_at hl 1 rfl) ?_
    refine lv_iconst (v := (1 : Int32)) hx hb dX11_image_35 (by decide) ?_
    obtain ⟨hb10, hf⟩ := ck_s hf
    refine r_zast hC hP hS hO.2.2.2.2.1 rfl hb10 dX11_image_36 (fun H locs hP hS => ?_)
    obtain ⟨M11, eM11, hf, hP⟩ := bsM hf hP
    refine lv_iconst (v := (1 : Int32)) hx hb dX11_image_37 (by decide) ?_
    exact e_IM hC hr hlk hP hS dX11_image_38 hf
  · have hf := if_t c4 hf
    refine lv_aload_n hx hb dX11_image_9 rfl (lv_at hl 0 rfl) ?_
    refine lv_iconst (v := (0 : Int32)) hx hb dX11_image_10 (by decide) ?_
    refine lv_bipush (v := (-2 : Int32)) hx hb dX11_image_11 (by decide) ?_
    obtain ⟨r12, M14, hu13, hf⟩ := bd2_s hf
    refine r_goI (r_runV (As := [.int (0 : Int32), .int (-2 : Int32)]) (rest := []) hC hP hS (k_X11_refuse hg hO hu13) cw_X11_88 q_178 q_179 q_180 (Rm.D 0 4 rfl) hO.1 rfl rfl hl.1 rfl (Nat.le_of_ble_eq_true rfl) dX11_image_13) hS (fun H locs hP hS => ?_)
    exact e_IM hC hr hlk hP hS dX11_image_16 hf
