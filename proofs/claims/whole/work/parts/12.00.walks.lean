set_option maxRecDepth 100000 in
set_option maxHeartbeats 4000000 in
theorem k_X5_goBackTo {g : Ev} {l : Launch} (hg : g.2.1.Nodup) {kd : Nat} {a : Nat} {p0 : Nat} {kdp0 : Nat} (hO : oRing g kd a) (hp0 : oRing g kdp0 p0) {M : Mm} {N : Ml}  {MR : Mm} (hf : f_X5_goBackTo a p0 M = some MR) : KM g l yX5_goBackTo cX5_goBackTo 2 none 1 [.ref a, .ref p0] M N (QV g MR N) := by
  refine KM.mk hg (by decide) (Nat.le_of_ble_eq_true rfl) ?_
  intro p e s m below meth c ls hC hr hlk hl hP hS
  have hx := hC.1
  have hb := hC.2.1
  have hl : lv_has ls 2 [(0, .ref a), (1, .ref p0)] := hl
  unfold f_X5_goBackTo at hf
  refine lv_aload_n hx hb dX5_goBackTo_0 rfl (lv_at hl 0 rfl) ?_
  refine lv_aload_n hx hb dX5_goBackTo_1 rfl (lv_at hl 1 rfl) ?_
  refine r_getI hC hP hp0.1 fl_X5_51 rfl dX5_goBackTo_2 ?_
  refine r_putI hC hP hS hO.1 fl_X5_51 tyX5 tyX5_ok nmX5 rfl rfl rfl dX5_goBackTo_5 (fun H locs hP hS => ?_)
  obtain ⟨M1, eM1, hf, hP⟩ := bsM hf hP
  refine lv_aload_n hx hb dX5_goBackTo_8 rfl (lv_at hl 0 rfl) ?_
  refine lv_aload_n hx hb dX5_goBackTo_9 rfl (lv_at hl 1 rfl) ?_
  refine r_getI hC hP hp0.1 fl_X5_54 rfl dX5_goBackTo_10 ?_
  refine r_putI hC hP hS hO.1 fl_X5_54 tyX5 tyX5_ok nmX5 rfl rfl rfl dX5_goBackTo_13 (fun H locs hP hS => ?_)
  obtain ⟨M2, eM2, hf, hP⟩ := bsM hf hP
  refine lv_aload_n hx hb dX5_goBackTo_16 rfl (lv_at hl 1 rfl) ?_
  refine r_getR hC hP hp0.1 fl_X5_22 rfl dX5_goBackTo_17 ?_
  refine lv_iconst (v := (0 : Int32)) hx hb dX5_goBackTo_20 (by decide) ?_
  refine lv_aload_n hx hb dX5_goBackTo_21 rfl (lv_at hl 0 rfl) ?_
  refine r_getR hC hP hO.1 fl_X5_22 rfl dX5_goBackTo_22 ?_
  refine lv_iconst (v := (0 : Int32)) hx hb dX5_goBackTo_25 (by decide) ?_
  refine lv_bipush (v := (120 : Int32)) hx hb dX5_goBackTo_26 (by decide) ?_
  obtain ⟨hc3, hf⟩ := ccp_s hf
  refine r_copy hC hl.1 hP hS q_413 q_414 q_415 q_416 hp0.2.2.2.1 hO.2.2.2.1 hc3.1 hc3.2.1 hc3.2.2.1 hc3.2.2.2.1 hc3.2.2.2.2 (Rm.D 0 1 rfl) (Nat.le_of_ble_eq_true rfl) dX5_goBackTo_28 (fun H locs hP hS => ?_)
  obtain ⟨M4, eM4, hf, hP⟩ := bsM hf hP
  refine lv_aload_n hx hb dX5_goBackTo_31 rfl (lv_at hl 1 rfl) ?_
  refine r_getR hC hP hp0.1 fl_X5_25 rfl dX5_goBackTo_32 ?_
  refine lv_iconst (v := (0 : Int32)) hx hb dX5_goBackTo_35 (by decide) ?_
  refine lv_aload_n hx hb dX5_goBackTo_36 rfl (lv_at hl 0 rfl) ?_
  refine r_getR hC hP hO.1 fl_X5_25 rfl dX5_goBackTo_37 ?_
  refine lv_iconst (v := (0 : Int32)) hx hb dX5_goBackTo_40 (by decide) ?_
  refine lv_iconst (v := (5 : Int32)) hx hb dX5_goBackTo_41 (by decide) ?_
  obtain ⟨hc5, hf⟩ := ccp_s hf
  refine r_copy hC hl.1 hP hS q_413 q_414 q_415 q_416 hp0.2.2.2.2.1 hO.2.2.2.2.1 hc5.1 hc5.2.1 hc5.2.2.1 hc5.2.2.2.1 hc5.2.2.2.2 (Rm.D 0 1 rfl) (Nat.le_of_ble_eq_true rfl) dX5_goBackTo_42 (fun H locs hP hS => ?_)
  obtain ⟨M6, eM6, hf, hP⟩ := bsM hf hP
  refine lv_aload_n hx hb dX5_goBackTo_45 rfl (lv_at hl 1 rfl) ?_
  refine r_getR hC hP hp0.1 fl_X5_34 rfl dX5_goBackTo_46 ?_
  refine lv_iconst (v := (0 : Int32)) hx hb dX5_goBackTo_49 (by decide) ?_
  refine lv_aload_n hx hb dX5_goBackTo_50 rfl (lv_at hl 0 rfl) ?_
  refine r_getR hC hP hO.1 fl_X5_34 rfl dX5_goBackTo_51 ?_
  refine lv_iconst (v := (0 : Int32)) hx hb dX5_goBackTo_54 (by decide) ?_
  refine lv_aload_n hx hb dX5_goBackTo_55 rfl (lv_at hl 1 rfl) ?_
  refine r_getI hC hP hp0.1 fl_X5_48 rfl dX5_goBackTo_56 ?_
  obtain ⟨hc7, hf⟩ := ccp_s hf
  refine r_copy hC hl.1 hP hS q_413 q_414 q_415 q_416 hp0.2.2.2.2.2.2.2.1 hO.2.2.2.2.2.2.2.1 hc7.1 hc7.2.1 hc7.2.2.1 hc7.2.2.2.1 hc7.2.2.2.2 (Rm.D 0 1 rfl) (Nat.le_of_ble_eq_true rfl) dX5_goBackTo_59 (fun H locs hP hS => ?_)
  obtain ⟨M8, eM8, hf, hP⟩ := bsM hf hP
  exact e_VM hC hr hlk hP hS dX5_goBackTo_62 hf
set_option maxRecDepth 100000 in
set_option maxHeartbeats 4000000 in
theorem k_X5_copy {g : Ev} {l : Launch} (hg : g.2.1.Nodup) {kd : Nat} {a : Nat} {p0 : Nat} {kdp0 : Nat} (hO : oRing g kd a) (hp0 : oRing g kdp0 p0) {M : Mm} {N : Ml}  {MR : Mm} (hf : f_X5_copy a p0 M = some MR) : KM g l yX5_copy cX5_copy 2 none 2 [.ref a, .ref p0] M N (QV g MR N) := by
  refine KM.mk hg (by decide) (Nat.le_of_ble_eq_true rfl) ?_
  intro p e s m below meth c ls hC hr hlk hl hP hS
  have hx := hC.1
  have hb := hC.2.1
  have hl : lv_has ls 2 [(0, .ref a), (1, .ref p0)] := hl
  unfold f_X5_copy at hf
  refine lv_aload_n hx hb dX5_copy_0 rfl (lv_at hl 0 rfl) ?_
  refine lv_aload_n hx hb dX5_copy_1 rfl (lv_at hl 1 rfl) ?_
  refine r_getI hC hP hp0.1 fl_X5_44 rfl dX5_copy_2 ?_
  refine r_putI hC hP hS hO.1 fl_X5_44 tyX5 tyX5_ok nmX5 rfl rfl rfl dX5_copy_5 (fun H locs hP hS => ?_)
  obtain ⟨M1, eM1, hf, hP⟩ := bsM hf hP
  refine lv_aload_n hx hb dX5_copy_8 rfl (lv_at hl 0 rfl) ?_
  refine lv_aload_n hx hb dX5_copy_9 rfl (lv_at hl 1 rfl) ?_
  refine r_getI hC hP hp0.1 fl_X5_48 rfl dX5_copy_10 ?_
  refine r_putI hC hP hS hO.1 fl_X5_48 tyX5 tyX5_ok nmX5 rfl rfl rfl dX5_copy_13 (fun H locs hP hS => ?_)
  obtain ⟨M2, eM2, hf, hP⟩ := bsM hf hP
  refine lv_aload_n hx hb dX5_copy_16 rfl (lv_at hl 1 rfl) ?_
  refine r_getR hC hP hp0.1 fl_X5_15 rfl dX5_copy_17 ?_
  refine lv_iconst (v := (0 : Int32)) hx hb dX5_copy_20 (by decide) ?_
  refine lv_aload_n hx hb dX5_copy_21 rfl (lv_at hl 0 rfl) ?_
  refine r_getR hC hP hO.1 fl_X5_15 rfl dX5_copy_22 ?_
  refine lv_iconst (v := (0 : Int32)) hx hb dX5_copy_25 (by decide) ?_
  refine lv_iconst (v := (5 : Int32)) hx hb dX5_copy_26 (by decide) ?_
  obtain ⟨hc3, hf⟩ := ccp_s hf
  refine r_copy hC hl.1 hP hS q_413 q_414 q_415 q_416 hp0.2.1 hO.2.1 hc3.1 hc3.2.1 hc3.2.2.1 hc3.2.2.2.1 hc3.2.2.2.2 (Rm.D 0 2 rfl) (Nat.le_of_ble_eq_true rfl) dX5_copy_27 (fun H locs hP hS => ?_)
  obtain ⟨M4, eM4, hf, hP⟩ := bsM hf hP
  refine lv_aload_n hx hb dX5_copy_30 rfl (lv_at hl 1 rfl) ?_
  refine r_getR hC hP hp0.1 fl_X5_19 rfl dX5_copy_31 ?_
  refine lv_iconst (v := (0 : Int32)) hx hb dX5_copy_34 (by decide) ?_
  refine lv_aload_n hx hb dX5_copy_35 rfl (lv_at hl 0 rfl) ?_
  refine r_getR hC hP hO.1 fl_X5_19 rfl dX5_copy_36 ?_
  refine lv_iconst (v := (0 : Int32)) hx hb dX5_copy_39 (by decide) ?_
  refine lv_iconst (v := (5 : Int32)) hx hb dX5_copy_40 (by decide) ?_
  obtain ⟨hc5, hf⟩ := ccp_s hf
  refine r_copy hC hl.1 hP hS q_413 q_414 q_415 q_416 hp0.2.2.1 hO.2.2.1 hc5.1 hc5.2.1 hc5.2.2.1 hc5.2.2.2.1 hc5.2.2.2.2 (Rm.D 0 2 rfl) (Nat.le_of_ble_eq_true rfl) dX5_copy_41 (fun H locs hP hS => ?_)
  obtain ⟨M6, eM6, hf, hP⟩ := bsM hf hP
  refine lv_aload_n hx hb dX5_copy_44 rfl (lv_at hl 1 rfl) ?_
  refine r_getR hC hP hp0.1 fl_X5_28 rfl dX5_copy_45 ?_
  refine lv_iconst (v := (0 : Int32)) hx hb dX5_copy_48 (by decide) ?_
  refine lv_aload_n hx hb dX5_copy_49 rfl (lv_at hl 0 rfl) ?_
  refine r_getR hC hP hO.1 fl_X5_28 rfl dX5_copy_50 ?_
  refine lv_iconst (v := (0 : Int32)) hx hb dX5_copy_53 (by decide) ?_
  refine lv_iconst (v := (4 : Int32)) hx hb dX5_copy_54 (by decide) ?_
  obtain ⟨hc7, hf⟩ := ccp_s hf
  refine r_copy hC hl.1 hP hS q_413 q_414 q_415 q_416 hp0.2.2.2.2.2.1 hO.2.2.2.2.2.1 hc7.1 hc7.2.1 hc7.2.2.1 hc7.2.2.2.1 hc7.2.2.2.2 (Rm.D 0 2 rfl) (Nat.le_of_ble_eq_true rfl) dX5_copy_55 (fun H locs hP hS => ?_)
  obtain ⟨M8, eM8, hf, hP⟩ := bsM hf hP
  refine lv_aload_n hx hb dX5_copy_58 rfl (lv_at hl 1 rfl) ?_
  refine r_getR hC hP hp0.1 fl_X5_31 rfl dX5_copy_59 ?_
  refine lv_iconst (v := (0 : Int32)) hx hb dX5_copy_62 (by decide) ?_
  refine lv_aload_n hx hb dX5_copy_63 rfl (lv_at hl 0 rfl) ?_
  refine r_getR hC hP hO.1 fl_X5_31 rfl dX5_copy_64 ?_
  refine lv_iconst (v := (0 : Int32)) hx hb dX5_copy_67 (by decide) ?_
  refine lv_iconst (v := (4 : Int32)) hx hb dX5_copy_68 (by decide) ?_
  obtain ⟨hc9, hf⟩ := ccp_s hf
  refine r_copy hC hl.1 hP hS q_413 q_414 q_415 q_416 hp0.2.2.2.2.2.2.1 hO.2.2.2.2.2.2.1 hc9.1 hc9.2.1 hc9.2.2.1 hc9.2.2.2.1 hc9.2.2.2.2 (Rm.D 0 2 rfl) (Nat.le_of_ble_eq_true rfl) dX5_copy_69 (fun H locs hP hS => ?_)
  obtain ⟨M10, eM10, hf, hP⟩ := bsM hf hP
  refine lv_aload_n hx hb dX5_copy_72 rfl (lv_at hl 1 rfl) ?_
  refine r_getR hC hP hp0.1 fl_X5_37 rfl dX5_copy_73 ?_
  refine lv_iconst (v := (0 : Int32)) hx hb dX5_copy_76 (by decide) ?_
  refine lv_aload_n hx hb dX5_copy_77 rfl (lv_at hl 0 rfl) ?_
  refine r_getR hC hP hO.1 fl_X5_37 rfl dX5_copy_78 ?_
  refine lv_iconst (v := (0 : Int32)) hx hb dX5_copy_81 (by decide) ?_
  refine lv_iconst (v := (4 : Int32)) hx hb dX5_copy_82 (by decide) ?_
  obtain ⟨hc11, hf⟩ := ccp_s hf
  refine r_copy hC hl.1 hP hS q_413 q_414 q_415 q_416 hp0.2.2.2.2.2.2.2.2.1 hO.2.2.2.2.2.2.2.2.1 hc11.1 hc11.2.1 hc11.2.2.1 hc11.2.2.2.1 hc11.2.2.2.2 (Rm.D 0 2 rfl) (Nat.le_of_ble_eq_true rfl) dX5_copy_83 (fun H locs hP hS => ?_)
  obtain ⟨M12, eM12, hf, hP⟩ := bsM hf hP
  refine lv_aload_n hx hb dX5_copy_86 rfl (lv_at hl 0 rfl) ?_
  refine lv_aload_n hx hb dX5_copy_87 rfl (lv_at hl 1 rfl) ?_
  obtain ⟨M15, hu14, hf⟩ := bd_s hf
  refine r_goV (r_runV (As := [.ref p0]) (rest := []) hC hP hS (k_X5_goBackTo hg hO hp0 hu14) cw_X5_69 q_417 q_418 q_419 (Rm.D 1 2 rfl) hO.1 rfl rfl hl.1 rfl (Nat.le_of_ble_eq_true rfl) dX5_copy_88) hS (fun H locs hP hS => ?_)
  exact e_VM hC hr hlk hP hS dX5_copy_91 hf
set_option maxRecDepth 100000 in
set_option maxHeartbeats 4000000 in
theorem k_X5_addMoon {g : Ev} {l : Launch} (hg : g.2.1.Nodup) {kd : Nat} {a : Nat} (hO : oRing g kd a) {M : Mm} {N : Ml} {p0 : Int32} {p1 : Int32} {p2 : Int32} {p3 : Int32} {v : Int32} {MR : Mm} (hf : f_X5_addMoon a p0 p1 p2 p3 M = some (v, MR)) : KM g l yX5_addMoon cX5_addMoon 5 (some .int) 0 [.ref a, .int p0, .int p1, .int p2, .int p3] M N (QI g v MR N) := by
  refine KM.mk hg (by decide) (Nat.le_of_ble_eq_true rfl) ?_
  intro p e s m below meth c ls hC hr hlk hl hP hS
  have hx := hC.1
  have hb := hC.2.1
  have hl : lv_has ls 5 [(0, .ref a), (1, .int p0), (2, .int p1), (3, .int p2), (4, .int p3)] := hl
  unfold f_X5_addMoon at hf
  refine lv_aload_n hx hb dX5_addMoon_0 rfl (lv_at hl 0 rfl) ?_
  refine r_getR hC hP hO.1 fl_X5_28 rfl dX5_addMoon_1 ?_
  refine lv_aload_n hx hb dX5_addMoon_4 rfl (lv_at hl 0 rfl) ?_
  refine r_getI hC hP hO.1 fl_X5_48 rfl dX5_addMoon_5 ?_
  refine lv_iload_n hx hb dX5_addMoon_8 rfl (lv_at hl 1 rfl) ?_
  obtain ⟨hb1, hf⟩ := ck_s hf
  refine r_iast hC hP hS hO.2.2.2.2.2.1 hb1 dX5_addMoon_9 (fun H locs hP hS => ?_)
  obtain ⟨M2, eM2, hf, hP⟩ := bsM hf hP
  refine lv_aload_n hx hb dX5_addMoon_10 rfl (lv_at hl 0 rfl) ?_
  refine r_getR hC hP hO.1 fl_X5_31 rfl dX5_addMoon_11 ?_
  refine lv_aload_n hx hb dX5_addMoon_14 rfl (lv_at hl 0 rfl) ?_
  refine r_getI hC hP hO.1 fl_X5_48 rfl dX5_addMoon_15 ?_
  refine lv_iload_n hx hb dX5_addMoon_18 rfl (lv_at hl 2 rfl) ?_
  obtain ⟨hb3, hf⟩ := ck_s hf
  refine r_iast hC hP hS hO.2.2.2.2.2.2.1 hb3 dX5_addMoon_19 (fun H locs hP hS => ?_)
  obtain ⟨M4, eM4, hf, hP⟩ := bsM hf hP
  refine lv_aload_n hx hb dX5_addMoon_20 rfl (lv_at hl 0 rfl) ?_
  refine r_getR hC hP hO.1 fl_X5_34 rfl dX5_addMoon_21 ?_
  refine lv_aload_n hx hb dX5_addMoon_24 rfl (lv_at hl 0 rfl) ?_
  refine r_getI hC hP hO.1 fl_X5_48 rfl dX5_addMoon_25 ?_
  refine lv_iload_n hx hb dX5_addMoon_28 rfl (lv_at hl 3 rfl) ?_
  obtain ⟨hb5, hf⟩ := ck_s hf
  refine r_iast hC hP hS hO.2.2.2.2.2.2.2.1 hb5 dX5_addMoon_29 (fun H locs hP hS => ?_)
  obtain ⟨M6, eM6, hf, hP⟩ := bsM hf hP
  refine lv_aload_n hx hb dX5_addMoon_30 rfl (lv_at hl 0 rfl) ?_
  refine r_getR hC hP hO.1 fl_X5_37 rfl dX5_addMoon_31 ?_
  refine lv_aload_n hx hb dX5_addMoon_34 rfl (lv_at hl 0 rfl) ?_
  refine r_getI hC hP hO.1 fl_X5_48 rfl dX5_addMoon_35 ?_
  refine lv_iload hx hb dX5_addMoon_38 (lv_at hl 4 rfl) ?_
  obtain ⟨hb7, hf⟩ := ck_s hf
  refine r_iast hC hP hS hO.2.2.2.2.2.2.2.2.1 hb7 dX5_addMoon_40 (fun H locs hP hS => ?_)
  obtain ⟨M8, eM8, hf, hP⟩ := bsM hf hP
  refine lv_aload_n hx hb dX5_addMoon_41 rfl (lv_at hl 0 rfl) ?_
  refine lv_dup hx hb dX5_addMoon_42 rfl ?_
  refine r_getI hC hP hO.1 fl_X5_48 rfl dX5_addMoon_43 ?_
  refine lv_iconst (v := (1 : Int32)) hx hb dX5_addMoon_46 (by decide) ?_
  refine lv_iadd hx hb dX5_addMoon_47 ?_
  refine r_putI hC hP hS hO.1 fl_X5_48 tyX5 tyX5_ok nmX5 rfl rfl rfl dX5_addMoon_48 (fun H locs hP hS => ?_)
  obtain ⟨M9, eM9, hf, hP⟩ := bsM hf hP
  refine lv_aload_n hx hb dX5_addMoon_51 rfl (lv_at hl 0 rfl) ?_
  refine r_getI hC hP hO.1 fl_X5_48 rfl dX5_addMoon_52 ?_
  refine lv_iconst (v := (1 : Int32)) hx hb dX5_addMoon_55 (by decide) ?_
  refine lv_isub hx hb dX5_addMoon_56 ?_
  exact e_IM hC hr hlk hP hS dX5_addMoon_57 hf
set_option maxRecDepth 100000 in
set_option maxHeartbeats 4000000 in
theorem k_X5_keepMoons {g : Ev} {l : Launch} (hg : g.2.1.Nodup) {kd : Nat} {a : Nat} (hO : oRing g kd a) {M : Mm} {N : Ml} {p0 : Int32} {MR : Mm} (hf : f_X5_keepMoons a p0 M = some MR) : KM g l yX5_keepMoons cX5_keepMoons 4 none 1 [.ref a, .int p0] M N (QV g MR N) := by
  refine KM.mk hg (by decide) (Nat.le_of_ble_eq_true rfl) ?_
  intro p e s m below meth c ls hC hr hlk hl hP hS
  have hx := hC.1
  have hb := hC.2.1
  have hl : lv_has ls 4 [(0, .ref a), (1, .int p0)] := hl
  have J55 : ∀ (kb12 : Int32 → Int32 → Int32 → Mm → Option (Mm)) (hkb12 : ∀ (x1 : Int32) (x2 : Int32) (x3 : Int32) (M : Mm) (H : Heap) (locs : List Loc) (ls : Array Slot), kb12 x1 x2 x3 M = some MR → wP g M N H → va_S (wA g) s.heap H locs → lv_has ls 4 [(0, .ref a), (1, .int x1), (2, .int x2), (3, .int x3)] → W p l e (rmD 1) s m ([.ref a, .int p0] : List Value).toArray below meth c H locs 0 0 (MQ below (QV g MR N) ([.ref a, .int p0] : List Value).toArray s 0 0 (wA g)) (F0 m 12 ls [])) (x1 : Int32) (x2 : Int32) (x3 : Int32) (M : Mm) (H : Heap) (locs : List Loc) (ls : Array Slot), f_X5_keepMoons_J55 a x1 x2 x3 M kb12 = some MR → wP g M N H → va_S (wA g) s.heap H locs → lv_has ls 4 [(0, .ref a), (1, .int x1), (2, .int x2), (3, .int x3)] → W p l e (rmD 1) s m ([.ref a, .int p0] : List Value).toArray below meth c H locs 0 0 (MQ below (QV g MR N) ([.ref a, .int p0] : List Value).toArray s 0 0 (wA g)) (F0 m 55 ls []) := by
    intro kb12 hkb12 x1 x2 x3 M H locs ls hf hP hS hl
    unfold f_X5_keepMoons_J55 at hf
    obtain ⟨z5, ez5, hf⟩ := bsJ hf
    refine lv_iinc (v := z5) (lv' := [(3, .int z5), (0, .ref a), (1, .int x1), (2, .int x2)]) hx hb dX5_keepMoons_55 hl (k := 3) rfl (by rw [ez5]; rfl) (by decide) rfl (fun ls hl => ?_)
    refine lv_goto (tgt := 12) hx hb dX5_keepMoons_58 (by decide) ?_
    exact hkb12 x1 x2 z5 M _ _ _ hf hP hS (lv_sub hl [1, 2, 3, 0] rfl)
  have L12 : ∀ (n : Nat) (x1 : Int32) (x2 : Int32) (x3 : Int32) (M : Mm) (H : Heap) (locs : List Loc) (ls : Array Slot), f_X5_keepMoons_L12 a n x1 x2 x3 M = some MR → wP g M N H → va_S (wA g) s.heap H locs → lv_has ls 4 [(0, .ref a), (1, .int x1), (2, .int x2), (3, .int x3)] → W p l e (rmD 1) s m ([.ref a, .int p0] : List Value).toArray below meth c H locs 0 0 (MQ below (QV g MR N) ([.ref a, .int p0] : List Value).toArray s 0 0 (wA g)) (F0 m 12 ls []) := by
    intro n
    induction n with
    | zero =>
      intro x1 x2 x3 M H locs ls hf
      exact absurd hf (by simp [f_X5_keepMoons_L12])
    | succ n ih =>
      intro x1 x2 x3 M H locs ls hf hP hS hl
      unfold f_X5_keepMoons_L12 at hf
      refine lv_iload_n hx hb dX5_keepMoons_12 rfl (lv_at hl 3 rfl) ?_
      refine lv_iload_n hx hb dX5_keepMoons_13 rfl (lv_at hl 2 rfl) ?_
      refine lv_icmp_ge (tgt := 61) hx hb dX5_keepMoons_14 (by decide) (fun c3 => ?_) (fun c3 => ?_)
      · have hf := if_t c3 hf
        exact e_VM hC hr hlk hP hS dX5_keepMoons_61 hf
      · have hf := if_f c3 hf
        refine lv_iload_n hx hb dX5_keepMoons_17 rfl (lv_at hl 1 rfl) ?_
        refine lv_iload_n hx hb dX5_keepMoons_18 rfl (lv_at hl 3 rfl) ?_
        refine lv_ishr hx hb dX5_keepMoons_19 ?_
        refine lv_iconst (v := (1 : Int32)) hx hb dX5_keepMoons_20 (by decide) ?_
        refine lv_iand hx hb dX5_keepMoons_21 ?_
        refine lv_iconst (v := (1 : Int32)) hx hb dX5_keepMoons_22 (by decide) ?_
        refine lv_icmp_ne (tgt := 55) hx hb dX5_keepMoons_23 (by decide) (fun c4 => ?_) (fun c4 => ?_)
        · have hf := if_f c4 hf
          exact J55 _ ih x1 x2 x3 M _ _ _ hf hP hS (lv_sub hl [0, 1, 2, 3] rfl)
        · have hf := if_t c4 hf
          refine lv_aload_n hx hb dX5_keepMoons_26 rfl (lv_at hl 0 rfl) ?_
          refine lv_aload_n hx hb dX5_keepMoons_27 rfl (lv_at hl 0 rfl) ?_
          refine r_getR hC hP hO.1 fl_X5_28 rfl dX5_keepMoons_28 ?_
          refine lv_iload_n hx hb dX5_keepMoons_31 rfl (lv_at hl 3 rfl) ?_
          obtain ⟨hb6, hf⟩ := ck_s hf
          refine r_iald hC hP hO.2.2.2.2.2.1 hb6 dX5_keepMoons_32 ?_
          refine lv_aload_n hx hb dX5_keepMoons_33 rfl (lv_at hl 0 rfl) ?_
          refine r_getR hC hP hO.1 fl_X5_31 rfl dX5_keepMoons_34 ?_
          refine lv_iload_n hx hb dX5_keepMoons_37 rfl (lv_at hl 3 rfl) ?_
          obtain ⟨hb7, hf⟩ := ck_s hf
          refine r_iald hC hP hO.2.2.2.2.2.2.1 hb7 dX5_keepMoons_38 ?_
          refine lv_aload_n hx hb dX5_keepMoons_39 rfl (lv_at hl 0 rfl) ?_
          refine r_getR hC hP hO.1 fl_X5_34 rfl dX5_keepMoons_40 ?_
          refine lv_iload_n hx hb dX5_keepMoons_43 rfl (lv_at hl 3 rfl) ?_
          obtain ⟨hb8, hf⟩ := ck_s hf
          refine r_iald hC hP hO.2.2.2.2.2.2.2.1 hb8 dX5_keepMoons_44 ?_
          refine lv_aload_n hx hb dX5_keepMoons_45 rfl (lv_at hl 0 rfl) ?_
          refine r_getR hC hP hO.1 fl_X5_37 rfl dX5_keepMoons_46 ?_
          refine lv_iload_n hx hb dX5_keepMoons_49 rfl (lv_at hl 3 rfl) ?_
          obtain ⟨hb9, hf⟩ := ck_s hf
          refine r_iald hC hP hO.2.2.2.2.2.2.2.2.1 hb9 dX5_keepMoons_50 ?_
          obtain ⟨r10, M12, hu11, hf⟩ := bd2_s hf
          refine r_goI (r_runV (As := [.int (M (a + 5) x3.toNatClampNeg), .int (M (a + 6) x3.toNatClampNeg), .int (M (a + 7) x3.toNatClampNeg), .int (M (a + 8) x3.toNatClampNeg)]) (rest := []) hC hP hS (k_X5_addMoon hg hO hu11) cw_X5_87 q_907 q_255 q_256 (Rm.D 0 1 rfl) hO.1 rfl rfl hl.1 rfl (Nat.le_of_ble_eq_true rfl) dX5_keepMoons_51) hS (fun H locs hP hS => ?_)
          refine lv_pop hx hb dX5_keepMoons_54 rfl ?_
          exact J55 _ ih x1 x2 x3 M12 _ _ _ hf hP hS (lv_sub hl [0, 1, 2, 3] rfl)
  unfold f_X5_keepMoons at hf
  refine lv_aload_n hx hb dX5_keepMoons_0 rfl (lv_at hl 0 rfl) ?_
  refine r_getI hC hP hO.1 fl_X5_48 rfl dX5_keepMoons_1 ?_
  refine lv_topi (fun z1 ez1 => ?_)
  have hf := bs ez1 hf
  refine lv_istore_n (lv' := [(2, .int z1), (0, .ref a), (1, .int p0)]) hx hb dX5_keepMoons_4 rfl hl (by decide) rfl (fun ls hl => ?_)
  refine lv_aload_n hx hb dX5_keepMoons_5 rfl (lv_at hl 1 rfl) ?_
  refine lv_iconst (v := (0 : Int32)) hx hb dX5_keepMoons_6 (by decide) ?_
  refine r_putI hC hP hS hO.1 fl_X5_48 tyX5 tyX5_ok nmX5 rfl rfl rfl dX5_keepMoons_7 (fun H locs hP hS => ?_)
  obtain ⟨M2, eM2, hf, hP⟩ := bsM hf hP
  refine lv_iconst (v := (0 : Int32)) hx hb dX5_keepMoons_10 (by decide) ?_
  refine lv_istore_n (lv' := [(3, .int (0 : Int32)), (2, .int z1), (0, .ref a), (1, .int p0)]) hx hb dX5_keepMoons_11 rfl hl (by decide) rfl (fun ls hl => ?_)
  exact L12 _ p0 z1 (0 : Int32) M2 _ _ _ hf hP hS (lv_sub hl [2, 3, 1, 0] rfl)
set_option maxRecDepth 100000 in
set_option maxHeartbeats 4000000 in
theorem k_X5_around {g : Ev} {l : Launch} (hg : g.2.1.Nodup) {kd : Nat} {a : Nat} (hO : oRing g kd a) {M : Mm} {N : Ml} {p0 : Int32} {v : Int32} (hf : f_X5_around a p0 M = some v) : KM g l yX5_around cX5_around 2 (some .int) 0 [.ref a, .int p0] M N (QI g v M N) := by
  refine KM.mk hg (by decide) (Nat.le_of_ble_eq_true rfl) ?_
  intro p e s m below meth c ls hC hr hlk hl hP hS
  have hx := hC.1
  have hb := hC.2.1
  have hl : lv_has ls 2 [(0, .ref a), (1, .int p0)] := hl
  unfold f_X5_around at hf
  refine lv_aload_n hx hb dX5_around_0 rfl (lv_at hl 0 rfl) ?_
  refine r_getI hC hP hO.1 fl_X5_44 rfl dX5_around_1 ?_
  refine lv_iconst (v := (1 : Int32)) hx hb dX5_around_4 (by decide) ?_
  refine lv_icmp_ge (tgt := 12) hx hb dX5_around_5 (by decide) (fun c1 => ?_) (fun c1 => ?_)
  · have hf := if_t c1 hf
    refine lv_iload_n hx hb dX5_around_12 rfl (lv_at hl 1 rfl) ?_
    refine lv_aload_n hx hb dX5_around_13 rfl (lv_at hl 0 rfl) ?_
    refine r_getI hC hP hO.1 fl_X5_44 rfl dX5_around_14 ?_
    obtain ⟨hz2, hf⟩ := cz_s hf
    refine lv_irem hx hb dX5_around_17 hz2 ?_
    exact e_I hC hr hlk hP hS dX5_around_18 hf
  · have hf := if_f c1 hf
    refine lv_iconst (v := (0 : Int32)) hx hb dX5_around_8 (by decide) ?_
    refine lv_goto (tgt := 18) hx hb dX5_around_9 (by decide) ?_
    exact e_I hC hr hlk hP hS dX5_around_18 hf
set_option maxRecDepth 100000 in
set_option maxHeartbeats 4000000 in
theorem k_X5_moveMoon {g : Ev} {l : Launch} (hg : g.2.1.Nodup) {kd : Nat} {a : Nat} (hO : oRing g kd a) {M : Mm} {N : Ml} {p0 : Int32} {p1 : Int32} {MR : Mm} (hf : f_X5_moveMoon a p0 p1 M = some MR) : KM g l yX5_moveMoon cX5_moveMoon 3 none 1 [.ref a, .int p0, .int p1] M N (QV g MR N) := by
  refine KM.mk hg (by decide) (Nat.le_of_ble_eq_true rfl) ?_
  intro p e s m below meth c ls hC hr hlk hl hP hS
  have hx := hC.1
  have hb := hC.2.1
  have hl : lv_has ls 3 [(0, .ref a), (1, .int p0), (2, .int p1)] := hl
  unfold f_X5_moveMoon at hf
  refine lv_aload_n hx hb dX5_moveMoon_0 rfl (lv_at hl 0 rfl) ?_
  refine r_getR hC hP hO.1 fl_X5_34 rfl dX5_moveMoon_1 ?_
  refine lv_iload_n hx hb dX5_moveMoon_4 rfl (lv_at hl 1 rfl) ?_
  refine lv_aload_n hx hb dX5_moveMoon_5 rfl (lv_at hl 0 rfl) ?_
  refine lv_aload_n hx hb dX5_moveMoon_6 rfl (lv_at hl 0 rfl) ?_
  refine r_getR hC hP hO.1 fl_X5_34 rfl dX5_moveMoon_7 ?_
  refine lv_iload_n hx hb dX5_moveMoon_10 rfl (lv_at hl 1 rfl) ?_
  obtain ⟨hb1, hf⟩ := ck_s hf
  refine r_iald hC hP hO.2.2.2.2.2.2.2.1 hb1 dX5_moveMoon_11 ?_
  refine lv_iload_n hx hb dX5_moveMoon_12 rfl (lv_at hl 2 rfl) ?_
  refine lv_iadd hx hb dX5_moveMoon_13 ?_
  obtain ⟨r2, hu3, hf⟩ := bd_s hf
  refine r_goI (r_runV (As := [.int ((M (a + 7) p0.toNatClampNeg) + p1)]) (rest := [.int p0, .ref (a + 7)]) hC hP hS (k_X5_around hg hO hu3) cw_X5_84 q_484 q_485 q_486 (Rm.D 0 1 rfl) hO.1 rfl rfl hl.1 rfl (Nat.le_of_ble_eq_true rfl) dX5_moveMoon_14) hS (fun H locs hP hS => ?_)
  obtain ⟨hb5, hf⟩ := ck_s hf
  refine r_iast hC hP hS hO.2.2.2.2.2.2.2.1 hb5 dX5_moveMoon_17 (fun H locs hP hS => ?_)
  obtain ⟨M6, eM6, hf, hP⟩ := bsM hf hP
  exact e_VM hC hr hlk hP hS dX5_moveMoon_18 hf
set_option maxRecDepth 100000 in
set_option maxHeartbeats 4000000 in
theorem k_X11_isLane {g : Ev} {l : Launch} (hg : g.2.1.Nodup)   {M : Mm} {N : Ml} {p0 : Int32} {v : Int32} (hf : f_X11_isLane p0 M = some v) : KM g l yX11_isLane cX11_isLane 1 (some .boolean) 0 [.int p0] M N (QI g v M N) := by
  refine KM.mk hg (by decide) (Nat.le_of_ble_eq_true rfl) ?_
  intro p e s m below meth c ls hC hr hlk hl hP hS
  have hx := hC.1
  have hb := hC.2.1
  have hl : lv_has ls 1 [(0, .int p0)] := hl
  unfold f_X11_isLane at hf
  refine lv_iload_n hx hb dX11_isLane_0 rfl (lv_at hl 0 rfl) ?_
  refine lv_if_lt (tgt := 13) hx hb dX11_isLane_1 (by decide) (fun c1 => ?_) (fun c1 => ?_)
  · have hf := if_t c1 hf
    refine lv_iconst (v := (0 : Int32)) hx hb dX11_isLane_13 (by decide) ?_
    exact e_Z hC hr hlk (Or.inl rfl) hP hS dX11_isLane_14 hf
  · have hf := if_f c1 hf
    refine lv_iload_n hx hb dX11_isLane_4 rfl (lv_at hl 0 rfl) ?_
    refine lv_iconst (v := (5 : Int32)) hx hb dX11_isLane_5 (by decide) ?_
    refine lv_icmp_ge (tgt := 13) hx hb dX11_isLane_6 (by decide) (fun c2 => ?_) (fun c2 => ?_)
    · have hf := if_t c2 hf
      refine lv_iconst (v := (0 : Int32)) hx hb dX11_isLane_13 (by decide) ?_
      exact e_Z hC hr hlk (Or.inl rfl) hP hS dX11_isLane_14 hf
    · have hf := if_f c2 hf
      refine lv_iconst (v := (1 : Int32)) hx hb dX11_isLane_9 (by decide) ?_
      refine lv_goto (tgt := 14) hx hb dX11_isLane_10 (by decide) ?_
      exact e_Z hC hr hlk (Or.inr rfl) hP hS dX11_isLane_14 hf
set_option maxRecDepth 100000 in
set_option maxHeartbeats 4000000 in
theorem k_X5_seat {g : Ev} {l : Launch} (hg : g.2.1.Nodup) {kd : Nat} {a : Nat} (hO : oRing g kd a) {M : Mm} {N : Ml} {p0 : Int32} {p1 : Int32} {v : Int32} (hf : f_X5_seat a p0 p1 M = some v) : KM g l yX5_seat cX5_seat 4 (some .int) 0 [.ref a, .int p0, .int p1] M N (QI g v M N) := by
  refine KM.mk hg (by decide) (Nat.le_of_ble_eq_true rfl) ?_
  intro p e s m below meth c ls hC hr hlk hl hP hS
  have hx := hC.1
  have hb := hC.2.1
  have hl : lv_has ls 4 [(0, .ref a), (1, .int p0), (2, .int p1)] := hl
  unfold f_X5_seat at hf
  refine lv_iload_n hx hb dX5_seat_0 rfl (lv_at hl 2 rfl) ?_
  refine lv_aload_n hx hb dX5_seat_1 rfl (lv_at hl 0 rfl) ?_
  refine r_getR hC hP hO.1 fl_X5_25 rfl dX5_seat_2 ?_
  refine lv_iload_n hx hb dX5_seat_5 rfl (lv_at hl 1 rfl) ?_
  obtain ⟨hb1, hf⟩ := ck_s hf
  refine r_iald hC hP hO.2.2.2.2.1 hb1 dX5_seat_6 ?_
  refine lv_isub hx hb dX5_seat_7 ?_
  refine lv_topi (fun z2 ez2 => ?_)
  have hf := bs ez2 hf
  refine lv_istore_n (lv' := [(3, .int z2), (0, .ref a), (1, .int p0), (2, .int p1)]) hx hb dX5_seat_8 rfl hl (by decide) rfl (fun ls hl => ?_)
  refine lv_iload_n hx hb dX5_seat_9 rfl (lv_at hl 2 rfl) ?_
  refine lv_bipush (v := (24 : Int32)) hx hb dX5_seat_10 (by decide) ?_
  refine lv_imul hx hb dX5_seat_12 ?_
  refine lv_iload_n hx hb dX5_seat_13 rfl (lv_at hl 0 rfl) ?_
  refine lv_if_ge (tgt := 26) hx hb dX5_seat_14 (by decide) (fun c3 => ?_) (fun c3 => ?_)
  · have hf := if_t c3 hf
    refine lv_iload_n hx hb dX5_seat_26 rfl (lv_at hl 0 rfl) ?_
    refine lv_iadd hx hb dX5_seat_27 ?_
    exact e_I hC hr hlk hP hS dX5_seat_28 hf
  · have hf := if_f c3 hf
    refine lv_iload_n hx hb dX5_seat_17 rfl (lv_at hl 0 rfl) ?_
    refine lv_aload_n hx hb dX5_seat_18 rfl (lv_at hl 1 rfl) ?_
    refine r_getI hC hP hO.1 fl_X5_44 rfl dX5_seat_19 ?_
    refine lv_iadd hx hb dX5_seat_22 ?_
    refine lv_goto (tgt := 27) hx hb dX5_seat_23 (by decide) ?_
    refine lv_iadd hx hb dX5_seat_27 ?_
    exact e_I hC hr hlk hP hS dX5_seat_28 hf
set_option maxRecDepth 100000 in
set_option maxHeartbeats 4000000 in
theorem k_X5_takeAll {g : Ev} {l : Launch} (hg : g.2.1.Nodup) {kd : Nat} {a : Nat} (hO : oRing g kd a) {M : Mm} {N : Ml} {p0 : Int32} {p1 : Int32} {v : Int32} {MR : Mm} (hf : f_X5_takeAll a p0 p1 M = some (v, MR)) : KM g l yX5_takeAll cX5_takeAll 5 (some .int) 1 [.ref a, .int p0, .int p1] M N (QI g v MR N) := by
  refine KM.mk hg (by decide) (Nat.le_of_ble_eq_true rfl) ?_
  intro p e s m below meth c ls hC hr hlk hl hP hS
  have hx := hC.1
  have hb := hC.2.1
  have hl : lv_has ls 5 [(0, .ref a), (1, .int p0), (2, .int p1)] := hl
  unfold f_X5_takeAll at hf
  refine lv_iload_n hx hb dX5_takeAll_0 rfl (lv_at hl 1 rfl) ?_
  obtain ⟨r1, hu2, hf⟩ := bd_s hf
  refine r_goI (r_runSN (As := [.int p0]) (rest := []) hC hP hS (k_X11_isLane hg hu2) cw_X5_121 hC.2.2.2.2.2.1.2.1.2.2.2.1 q_210 (Rm.D 0 1 rfl) rfl hl.1 rfl (Nat.le_of_ble_eq_true rfl) dX5_takeAll_1) hS (fun H locs hP hS => ?_)
  refine lv_if_ne (tgt := 9) hx hb dX5_takeAll_4 (by decide) (fun c4 => ?_) (fun c4 => ?_)
  · have hf := if_f c4 hf
    refine lv_aload_n hx hb dX5_takeAll_9 rfl (lv_at hl 0 rfl) ?_
    refine lv_iload_n hx hb dX5_takeAll_10 rfl (lv_at hl 1 rfl) ?_
    refine lv_iload_n hx hb dX5_takeAll_11 rfl (lv_at hl 2 rfl) ?_
    obtain ⟨r5, hu6, hf⟩ := bd_s hf
    refine r_goI (r_runV (As := [.int p0, .int p1]) (rest := []) hC hP hS (k_X5_seat hg hO hu6) cw_X5_73 q_232 q_233 q_234 (Rm.D 0 1 rfl) hO.1 rfl rfl hl.1 rfl (Nat.le_of_ble_eq_true rfl) dX5_takeAll_12) hS (fun H locs hP hS => ?_)
    refine lv_istore_n (lv' := [(3, .int r5), (0, .ref a), (1, .int p0), (2, .int p1)]) hx hb dX5_takeAll_15 rfl hl (by decide) rfl (fun ls hl => ?_)
    refine lv_aload_n hx hb dX5_takeAll_16 rfl (lv_at hl 1 rfl) ?_
    refine r_getR hC hP hO.1 fl_X5_22 rfl dX5_takeAll_17 ?_
    refine lv_iload_n hx hb dX5_takeAll_20 rfl (lv_at hl 0 rfl) ?_
    obtain ⟨hb8, hf⟩ := ck_s hf
    refine r_iald hC hP hO.2.2.2.1 hb8 dX5_takeAll_21 ?_
    refine lv_topi (fun z9 ez9 => ?_)
    have hf := bs ez9 hf
    refine lv_istore (lv' := [(4, .int z9), (3, .int r5), (0, .ref a), (1, .int p0), (2, .int p1)]) hx hb dX5_takeAll_22 hl (by decide) rfl (fun ls hl => ?_)
    refine lv_aload_n hx hb dX5_takeAll_24 rfl (lv_at hl 2 rfl) ?_
    refine r_getR hC hP hO.1 fl_X5_22 rfl dX5_takeAll_25 ?_
    refine lv_iload_n hx hb dX5_takeAll_28 rfl (lv_at hl 1 rfl) ?_
    refine lv_iconst (v := (0 : Int32)) hx hb dX5_takeAll_29 (by decide) ?_
    obtain ⟨hb10, hf⟩ := ck_s hf
    refine r_iast hC hP hS hO.2.2.2.1 hb10 dX5_takeAll_30 (fun H locs hP hS => ?_)
    obtain ⟨M11, eM11, hf, hP⟩ := bsM hf hP
    refine lv_iload hx hb dX5_takeAll_31 (lv_at hl 0 rfl) ?_
    exact e_IM hC hr hlk hP hS dX5_takeAll_33 hf
  · have hf := if_t c4 hf
    refine lv_iconst (v := (0 : Int32)) hx hb dX5_takeAll_7 (by decide) ?_
    exact e_IM hC hr hlk hP hS dX5_takeAll_8 hf
set_option maxRecDepth 100000 in
set_option maxHeartbeats 4000000 in
theorem k_X5_put {g : Ev} {l : Launch} (hg : g.2.1.Nodup) {kd : Nat} {a : Nat} (hO : oRing g kd a) {M : Mm} {N : Ml} {p0 : Int32} {p1 : Int32} {p2 : Int32} {v : Int32} {MR : Mm} (hf : f_X5_put a p0 p1 p2 M = some (v, MR)) : KM g l yX5_put cX5_put 4 (some .int) 1 [.ref a, .int p0, .int p1, .int p2] M N (QI g v MR N) := by
  refine KM.mk hg (by decide) (Nat.le_of_ble_eq_true rfl) ?_
  intro p e s m below meth c ls hC hr hlk hl hP hS
  have hx := hC.1
  have hb := hC.2.1
  have hl : lv_has ls 4 [(0, .ref a), (1, .int p0), (2, .int p1), (3, .int p2)] := hl
  unfold f_X5_put at hf
  refine lv_iload_n hx hb dX5_put_0 rfl (lv_at hl 1 rfl) ?_
  obtain ⟨r1, hu2, hf⟩ := bd_s hf
  refine r_goI (r_runSN (As := [.int p0]) (rest := []) hC hP hS (k_X11_isLane hg hu2) cw_X5_121 hC.2.2.2.2.2.1.2.1.2.2.2.1 q_210 (Rm.D 0 1 rfl) rfl hl.1 rfl (Nat.le_of_ble_eq_true rfl) dX5_put_1) hS (fun H locs hP hS => ?_)
  refine lv_if_ne (tgt := 9) hx hb dX5_put_4 (by decide) (fun c4 => ?_) (fun c4 => ?_)
  · have hf := if_f c4 hf
    refine lv_aload_n hx hb dX5_put_9 rfl (lv_at hl 0 rfl) ?_
    refine r_getR hC hP hO.1 fl_X5_22 rfl dX5_put_10 ?_
    refine lv_aload_n hx hb dX5_put_13 rfl (lv_at hl 0 rfl) ?_
    refine lv_iload_n hx hb dX5_put_14 rfl (lv_at hl 1 rfl) ?_
    refine lv_iload_n hx hb dX5_put_15 rfl (lv_at hl 2 rfl) ?_
    obtain ⟨r5, hu6, hf⟩ := bd_s hf
    refine r_goI (r_runV (As := [.int p0, .int p1]) (rest := [.ref (a + 3)]) hC hP hS (k_X5_seat hg hO hu6) cw_X5_73 q_232 q_233 q_234 (Rm.D 0 1 rfl) hO.1 rfl rfl hl.1 rfl (Nat.le_of_ble_eq_true rfl) dX5_put_16) hS (fun H locs hP hS => ?_)
    refine lv_dup2_11 hx hb dX5_put_19 rfl rfl ?_
    obtain ⟨hb8, hf⟩ := ck_s hf
    refine r_iald hC hP hO.2.2.2.1 hb8 dX5_put_20 ?_
    refine lv_iload_n hx hb dX5_put_21 rfl (lv_at hl 3 rfl) ?_
    refine lv_iadd hx hb dX5_put_22 ?_
    obtain ⟨hb9, hf⟩ := ck_s hf
    refine r_iast hC hP hS hO.2.2.2.1 hb9 dX5_put_23 (fun H locs hP hS => ?_)
    obtain ⟨M10, eM10, hf, hP⟩ := bsM hf hP
    refine lv_iconst (v := (0 : Int32)) hx hb dX5_put_24 (by decide) ?_
    exact e_IM hC hr hlk hP hS dX5_put_25 hf
  · have hf := if_t c4 hf
    refine lv_iload_n hx hb dX5_put_7 rfl (lv_at hl 3 rfl) ?_
    exact e_IM hC hr hlk hP hS dX5_put_8 hf
set_option maxRecDepth 100000 in
set_option maxHeartbeats 4000000 in
theorem k_X5_passBy {g : Ev} {l : Launch} (hg : g.2.1.Nodup) {kd : Nat} {a : Nat} (hO : oRing g kd a) {M : Mm} {N : Ml} {p0 : Int32} {v : Int32} {MR : Mm} (hf : f_X5_passBy a p0 M = some (v, MR)) : KM g l yX5_passBy cX5_passBy 11 (some .int) 2 [.ref a, .int p0] M N (QI g v MR N) := by
  refine KM.mk hg (by decide) (Nat.le_of_ble_eq_true rfl) ?_
  intro p e s m below meth c ls hC hr hlk hl hP hS
  have hx := hC.1
  have hb := hC.2.1
  have hl : lv_has ls 11 [(0, .ref a), (1, .int p0)] := hl
  have L52 : ∀ (n : Nat) (x1 : Int32) (x3 : Int32) (x4 : Int32) (x5 : Int32) (x6 : Int32) (x7 : Int32) (M : Mm) (H : Heap) (locs : List Loc) (ls : Array Slot), f_X5_passBy_L52 a n x1 x3 x4 x5 x6 x7 M = some (v, MR) → wP g M N H → va_S (wA g) s.heap H locs → lv_has ls 11 [(0, .ref a), (1, .int x1), (3, .int x3), (4, .int x4), (5, .int x5), (6, .int x6), (7, .int x7)] → W p l e (rmD 2) s m ([.ref a, .int p0] : List Value).toArray below meth c H locs 0 0 (MQ below (QI g v MR N) ([.ref a, .int p0] : List Value).toArray s 0 0 (wA g)) (F0 m 52 ls []) := by
    intro n
    induction n with
    | zero =>
      intro x1 x3 x4 x5 x6 x7 M H locs ls hf
      exact absurd hf (by simp [f_X5_passBy_L52])
    | succ n ih =>
      intro x1 x3 x4 x5 x6 x7 M H locs ls hf hP hS hl
      unfold f_X5_passBy_L52 at hf
      refine lv_iload hx hb dX5_passBy_52 (lv_at hl 6 rfl) ?_
      refine lv_iload hx hb dX5_passBy_54 (lv_at hl 4 rfl) ?_
      refine lv_icmp_gt (tgt := 137) hx hb dX5_passBy_56 (by decide) (fun c14 => ?_) (fun c14 => ?_)
      · have hf := if_t c14 hf
        refine lv_iload hx hb dX5_passBy_137 (lv_at hl 5 rfl) ?_
        exact e_IM hC hr hlk hP hS dX5_passBy_139 hf
      · have hf := if_f c14 hf
        refine lv_aload_n hx hb dX5_passBy_59 rfl (lv_at hl 0 rfl) ?_
        refine lv_aload_n hx hb dX5_passBy_60 rfl (lv_at hl 0 rfl) ?_
        refine r_getR hC hP hO.1 fl_X5_34 rfl dX5_passBy_61 ?_
        refine lv_iload_n hx hb dX5_passBy_64 rfl (lv_at hl 1 rfl) ?_
        obtain ⟨hb15, hf⟩ := ck_s hf
        refine r_iald hC hP hO.2.2.2.2.2.2.2.1 hb15 dX5_passBy_65 ?_
        refine lv_iload hx hb dX5_passBy_66 (lv_at hl 6 rfl) ?_
        refine lv_iadd hx hb dX5_passBy_68 ?_
        refine lv_aload_n hx hb dX5_passBy_69 rfl (lv_at hl 0 rfl) ?_
        refine r_getI hC hP hO.1 fl_X5_44 rfl dX5_passBy_70 ?_
        refine lv_iadd hx hb dX5_passBy_73 ?_
        obtain ⟨r16, hu17, hf⟩ := bd_s hf
        refine r_goI (r_runV (As := [.int (((M (a + 7) x1.toNatClampNeg) + x7) + (M a 9))]) (rest := []) hC hP hS (k_X5_around hg hO hu17) cw_X5_84 q_484 q_485 q_486 (Rm.D 0 2 rfl) hO.1 rfl rfl hl.1 rfl (Nat.le_of_ble_eq_true rfl) dX5_passBy_74) hS (fun H locs hP hS => ?_)
        refine lv_istore (lv' := [(8, .int r16), (0, .ref a), (1, .int x1), (3, .int x3), (4, .int x4), (5, .int x5), (6, .int x6), (7, .int x7)]) hx hb dX5_passBy_77 hl (by decide) rfl (fun ls hl => ?_)
        refine lv_aload_n hx hb dX5_passBy_79 rfl (lv_at hl 1 rfl) ?_
        refine lv_iload_n hx hb dX5_passBy_80 rfl (lv_at hl 3 rfl) ?_
        refine lv_iload hx hb dX5_passBy_81 (lv_at hl 0 rfl) ?_
        obtain ⟨r19, M21, hu20, hf⟩ := bd2_s hf
        refine r_goI (r_runV (As := [.int x3, .int r16]) (rest := []) hC hP hS (k_X5_takeAll hg hO hu20) cw_X5_114 q_531 q_532 q_533 (Rm.D 1 2 rfl) hO.1 rfl rfl hl.1 rfl (Nat.le_of_ble_eq_true rfl) dX5_passBy_83) hS (fun H locs hP hS => ?_)
        refine lv_istore (lv' := [(9, .int r19), (8, .int r16), (0, .ref a), (1, .int x1), (3, .int x3), (4, .int x4), (5, .int x5), (6, .int x6), (7, .int x7)]) hx hb dX5_passBy_86 hl (by decide) rfl (fun ls hl => ?_)
        refine lv_aload_n hx hb dX5_passBy_88 rfl (lv_at hl 2 rfl) ?_
        refine lv_iload_n hx hb dX5_passBy_89 rfl (lv_at hl 4 rfl) ?_
        refine lv_iconst (v := (1 : Int32)) hx hb dX5_passBy_90 (by decide) ?_
        refine lv_isub hx hb dX5_passBy_91 ?_
        refine lv_iload hx hb dX5_passBy_92 (lv_at hl 1 rfl) ?_
        obtain ⟨r22, M24, hu23, hf⟩ := bd2_s hf
        refine r_goI (r_runV (As := [.int (x3 - (1 : Int32)), .int r16]) (rest := []) hC hP hS (k_X5_takeAll hg hO hu23) cw_X5_114 q_531 q_532 q_533 (Rm.D 1 2 rfl) hO.1 rfl rfl hl.1 rfl (Nat.le_of_ble_eq_true rfl) dX5_passBy_94) hS (fun H locs hP hS => ?_)
        refine lv_istore (lv' := [(10, .int r22), (9, .int r19), (8, .int r16), (0, .ref a), (1, .int x1), (3, .int x3), (4, .int x4), (5, .int x5), (6, .int x6), (7, .int x7)]) hx hb dX5_passBy_97 hl (by decide) rfl (fun ls hl => ?_)
        refine lv_iload hx hb dX5_passBy_99 (lv_at hl 8 rfl) ?_
        refine lv_aload_n hx hb dX5_passBy_101 rfl (lv_at hl 3 rfl) ?_
        refine lv_iload_n hx hb dX5_passBy_102 rfl (lv_at hl 5 rfl) ?_
        refine lv_iload hx hb dX5_passBy_103 (lv_at hl 6 rfl) ?_
        refine lv_iadd hx hb dX5_passBy_105 ?_
        refine lv_iload hx hb dX5_passBy_106 (lv_at hl 2 rfl) ?_
        refine lv_iload hx hb dX5_passBy_108 (lv_at hl 1 rfl) ?_
        obtain ⟨r25, M27, hu26, hf⟩ := bd2_s hf
        refine r_goI (r_runV (As := [.int (x3 + x4), .int r16, .int r19]) (rest := [.int x6]) hC hP hS (k_X5_put hg hO hu26) cw_X5_117 q_535 q_536 q_537 (Rm.D 1 2 rfl) hO.1 rfl rfl hl.1 rfl (Nat.le_of_ble_eq_true rfl) dX5_passBy_110) hS (fun H locs hP hS => ?_)
        refine lv_aload_n hx hb dX5_passBy_113 rfl (lv_at hl 3 rfl) ?_
        refine lv_iload_n hx hb dX5_passBy_114 rfl (lv_at hl 5 rfl) ?_
        refine lv_iconst (v := (1 : Int32)) hx hb dX5_passBy_115 (by decide) ?_
        refine lv_isub hx hb dX5_passBy_116 ?_
        refine lv_iload hx hb dX5_passBy_117 (lv_at hl 6 rfl) ?_
        refine lv_isub hx hb dX5_passBy_119 ?_
        refine lv_iload hx hb dX5_passBy_120 (lv_at hl 2 rfl) ?_
        refine lv_iload hx hb dX5_passBy_122 (lv_at hl 0 rfl) ?_
        obtain ⟨r28, M30, hu29, hf⟩ := bd2_s hf
        refine r_goI (r_runV (As := [.int ((x3 - (1 : Int32)) - x4), .int r16, .int r22]) (rest := [.int r25, .int x6]) hC hP hS (k_X5_put hg hO hu29) cw_X5_117 q_535 q_536 q_537 (Rm.D 1 2 rfl) hO.1 rfl rfl hl.1 rfl (Nat.le_of_ble_eq_true rfl) dX5_passBy_124) hS (fun H locs hP hS => ?_)
        refine lv_iadd hx hb dX5_passBy_127 ?_
        refine lv_iadd hx hb dX5_passBy_128 ?_
        refine lv_topi (fun z31 ez31 => ?_)
        have hf := bs ez31 hf
        refine lv_istore (lv' := [(6, .int z31), (10, .int r22), (9, .int r19), (8, .int r16), (0, .ref a), (1, .int x1), (3, .int x3), (4, .int x4), (5, .int x5), (7, .int x7)]) hx hb dX5_passBy_129 hl (by decide) rfl (fun ls hl => ?_)
        obtain ⟨z32, ez32, hf⟩ := bsJ hf
        refine lv_iinc (v := z32) (lv' := [(7, .int z32), (6, .int z31), (10, .int r22), (9, .int r19), (8, .int r16), (0, .ref a), (1, .int x1), (3, .int x3), (4, .int x4), (5, .int x5)]) hx hb dX5_passBy_131 hl (k := 9) rfl (by rw [ez32]; rfl) (by decide) rfl (fun ls hl => ?_)
        refine lv_goto (tgt := 52) hx hb dX5_passBy_134 (by decide) ?_
        exact ih x1 x3 x4 x5 z31 z32 M30 _ _ _ hf hP hS (lv_sub hl [5, 6, 7, 8, 9, 1, 0] rfl)
  unfold f_X5_passBy at hf
  refine lv_aload_n hx hb dX5_passBy_0 rfl (lv_at hl 0 rfl) ?_
  refine r_getR hC hP hO.1 fl_X5_9 rfl dX5_passBy_1 ?_
  refine lv_aload_n hx hb dX5_passBy_4 rfl (lv_at hl 0 rfl) ?_
  refine r_getR hC hP hO.1 fl_X5_28 rfl dX5_passBy_5 ?_
  refine lv_iload_n hx hb dX5_passBy_8 rfl (lv_at hl 1 rfl) ?_
  obtain ⟨hb1, hf⟩ := ck_s hf
  refine r_iald hC hP hO.2.2.2.2.2.1 hb1 dX5_passBy_9 ?_
  obtain ⟨hb2, hf⟩ := ck_s hf
  obtain ⟨j3, ej3, hf⟩ := bsJ hf
  have hj3 : j3 < 5 := by rw [ej3]; exact vin_lt hb2
  refine r_aalR (t0 := 2) (v := kd + 1 + j3) hC hP hO.2.2.2.2.2.2.2.2.2.1 rfl hb2 (by rw [ej3]) dX5_passBy_10 ?_
  refine lv_astore_n (lv' := [(2, .ref (kd + 1 + j3)), (0, .ref a), (1, .int p0)]) hx hb dX5_passBy_11 rfl hl (by decide) rfl (fun ls hl => ?_)
  refine lv_aload_n hx hb dX5_passBy_12 rfl (lv_at hl 0 rfl) ?_
  refine lv_aload_n hx hb dX5_passBy_13 rfl (lv_at hl 1 rfl) ?_
  refine r_getI hC hP hO.1 fl_X5_51 rfl dX5_passBy_14 ?_
  obtain ⟨r4, hu5, hf⟩ := bd_s hf
  refine r_visAwake (rest := []) hC hl.1 hP hS hO.2.2.2.2.2.2.2.2.2 hu5 (Rm.D 1 2 rfl) (Nat.le_of_ble_eq_true rfl) dX5_passBy_17 (fun H locs hP hS => ?_)
  refine lv_if_ne (tgt := 25) hx hb dX5_passBy_20 (by decide) (fun c6 => ?_) (fun c6 => ?_)
  · have hf := if_f c6 hf
    refine lv_aload_n hx hb dX5_passBy_25 rfl (lv_at hl 1 rfl) ?_
    refine r_getR hC hP hO.1 fl_X5_31 rfl dX5_passBy_26 ?_
    refine lv_iload_n hx hb dX5_passBy_29 rfl (lv_at hl 2 rfl) ?_
    obtain ⟨hb7, hf⟩ := ck_s hf
    refine r_iald hC hP hO.2.2.2.2.2.2.1 hb7 dX5_passBy_30 ?_
    refine lv_topi (fun z8 ez8 => ?_)
    have hf := bs ez8 hf
    refine lv_istore_n (lv' := [(3, .int z8), (2, .ref (kd + 1 + j3)), (0, .ref a), (1, .int p0)]) hx hb dX5_passBy_31 rfl hl (by decide) rfl (fun ls hl => ?_)
    refine lv_aload_n hx hb dX5_passBy_32 rfl (lv_at hl 1 rfl) ?_
    obtain ⟨r9, hu10, hf⟩ := bd_s hf
    refine r_vforce (rest := []) hC hl.1 hP hS hO.2.2.2.2.2.2.2.2.2 hu10 (Rm.D 1 2 rfl) (Nat.le_of_ble_eq_true rfl) dX5_passBy_33 (fun H locs hP hS => ?_)
    refine lv_istore (lv' := [(4, .int r9), (3, .int z8), (2, .ref (kd + 1 + j3)), (0, .ref a), (1, .int p0)]) hx hb dX5_passBy_36 hl (by decide) rfl (fun ls hl => ?_)
    refine lv_aload_n hx hb dX5_passBy_38 rfl (lv_at hl 2 rfl) ?_
    obtain ⟨r11, hu12, hf⟩ := bd_s hf
    refine r_vreach (rest := []) hC hl.1 hP hS hO.2.2.2.2.2.2.2.2.2 hu12 (Rm.D 1 2 rfl) (Nat.le_of_ble_eq_true rfl) dX5_passBy_39 (fun H locs hP hS => ?_)
    refine lv_istore (lv' := [(5, .int r11), (4, .int r9), (3, .int z8), (2, .ref (kd + 1 + j3)), (0, .ref a), (1, .int p0)]) hx hb dX5_passBy_42 hl (by decide) rfl (fun ls hl => ?_)
    refine lv_iconst (v := (0 : Int32)) hx hb dX5_passBy_44 (by decide) ?_
    refine lv_istore (lv' := [(6, .int (0 : Int32)), (5, .int r11), (4, .int r9), (3, .int z8), (2, .ref (kd + 1 + j3)), (0, .ref a), (1, .int p0)]) hx hb dX5_passBy_45 hl (by decide) rfl (fun ls hl => ?_)
    refine lv_iload hx hb dX5_passBy_47 (lv_at hl 1 rfl) ?_
    refine lv_ineg hx hb dX5_passBy_49 ?_
    refine lv_topi (fun z13 ez13 => ?_)
    have hf := bs ez13 hf
    refine lv_istore (lv' := [(7, .int z13), (6, .int (0 : Int32)), (5, .int r11), (4, .int r9), (3, .int z8), (2, .ref (kd + 1 + j3)), (0, .ref a), (1, .int p0)]) hx hb dX5_passBy_50 hl (by decide) rfl (fun ls hl => ?_)
    exact L52 _ p0 z8 r9 r11 (0 : Int32) z13 M _ _ _ hf hP hS (lv_sub hl [6, 7, 4, 3, 2, 1, 0] rfl)
  · have hf := if_t c6 hf
    refine lv_iconst (v := (0 : Int32)) hx hb dX5_passBy_23 (by decide) ?_
    exact e_IM hC hr hlk hP hS dX5_passBy_24 hf
set_option maxRecDepth 100000 in
set_option maxHeartbeats 4000000 in
theorem k_X5_goOn {g : Ev} {l : Launch} (hg : g.2.1.Nodup) {kd : Nat} {a : Nat} (hO : oRing g kd a) {M : Mm} {N : Ml}  {v : Int32} {MR : Mm} (hf : f_X5_goOn a M = some (v, MR)) : KM g l yX5_goOn cX5_goOn 3 (some .int) 3 [.ref a] M N (QI g v MR N) := by
  refine KM.mk hg (by decide) (Nat.le_of_ble_eq_true rfl) ?_
  intro p e s m below meth c ls hC hr hlk hl hP hS
  have hx := hC.1
  have hb := hC.2.1
  have hl : lv_has ls 3 [(0, .ref a)] := hl
  have L77 : ∀ (n : Nat) (x1 : Int32) (x2 : Int32) (M : Mm) (H : Heap) (locs : List Loc) (ls : Array Slot), f_X5_goOn_L77 a n x1 x2 M = some (v, MR) → wP g M N H → va_S (wA g) s.heap H locs → lv_has ls 3 [(0, .ref a), (1, .int x1), (2, .int x2)] → W p l e (rmD 3) s m ([.ref a] : List Value).toArray below meth c H locs 0 0 (MQ below (QI g v MR N) ([.ref a] : List Value).toArray s 0 0 (wA g)) (F0 m 77 ls []) := by
    intro n
    induction n with
    | zero =>
      intro x1 x2 M H locs ls hf
      exact absurd hf (by simp [f_X5_goOn_L77])
    | succ n ih =>
      intro x1 x2 M H locs ls hf hP hS hl
      unfold f_X5_goOn_L77 at hf
      refine lv_iload_n hx hb dX5_goOn_77 rfl (lv_at hl 2 rfl) ?_
      refine lv_aload_n hx hb dX5_goOn_78 rfl (lv_at hl 0 rfl) ?_
      refine r_getI hC hP hO.1 fl_X5_48 rfl dX5_goOn_79 ?_
      refine lv_icmp_ge (tgt := 99) hx hb dX5_goOn_82 (by decide) (fun c4 => ?_) (fun c4 => ?_)
      · have hf := if_t c4 hf
        refine lv_aload_n hx hb dX5_goOn_99 rfl (lv_at hl 0 rfl) ?_
        refine lv_dup hx hb dX5_goOn_100 rfl ?_
        refine r_getI hC hP hO.1 fl_X5_54 rfl dX5_goOn_101 ?_
        refine lv_iload_n hx hb dX5_goOn_104 rfl (lv_at hl 1 rfl) ?_
        refine lv_iadd hx hb dX5_goOn_105 ?_
        refine r_putI hC hP hS hO.1 fl_X5_54 tyX5 tyX5_ok nmX5 rfl rfl rfl dX5_goOn_106 (fun H locs hP hS => ?_)
        obtain ⟨M5, eM5, hf, hP⟩ := bsM hf hP
        refine lv_iload_n hx hb dX5_goOn_109 rfl (lv_at hl 1 rfl) ?_
        exact e_IM hC hr hlk hP hS dX5_goOn_110 hf
      · have hf := if_f c4 hf
        refine lv_iload_n hx hb dX5_goOn_85 rfl (lv_at hl 1 rfl) ?_
        refine lv_aload_n hx hb dX5_goOn_86 rfl (lv_at hl 0 rfl) ?_
        refine lv_iload_n hx hb dX5_goOn_87 rfl (lv_at hl 2 rfl) ?_
        obtain ⟨r6, M8, hu7, hf⟩ := bd2_s hf
        refine r_goI (r_runV (As := [.int x2]) (rest := [.int x1]) hC hP hS (k_X5_passBy hg hO hu7) cw_X5_95 q_492 q_493 q_494 (Rm.D 2 3 rfl) hO.1 rfl rfl hl.1 rfl (Nat.le_of_ble_eq_true rfl) dX5_goOn_88) hS (fun H locs hP hS => ?_)
        refine lv_iadd hx hb dX5_goOn_91 ?_
        refine lv_topi (fun z9 ez9 => ?_)
        have hf := bs ez9 hf
        refine lv_istore_n (lv' := [(1, .int z9), (0, .ref a), (2, .int x2)]) hx hb dX5_goOn_92 rfl hl (by decide) rfl (fun ls hl => ?_)
        obtain ⟨z10, ez10, hf⟩ := bsJ hf
        refine lv_iinc (v := z10) (lv' := [(2, .int z10), (1, .int z9), (0, .ref a)]) hx hb dX5_goOn_93 hl (k := 2) rfl (by rw [ez10]; rfl) (by decide) rfl (fun ls hl => ?_)
        refine lv_goto (tgt := 77) hx hb dX5_goOn_96 (by decide) ?_
        exact ih z9 z10 M8 _ _ _ hf hP hS (lv_sub hl [2, 1, 0] rfl)
  have L48 : ∀ (n : Nat) (x1 : Int32) (M : Mm) (H : Heap) (locs : List Loc) (ls : Array Slot), f_X5_goOn_L48 a n x1 M = some (v, MR) → wP g M N H → va_S (wA g) s.heap H locs → lv_has ls 3 [(0, .ref a), (1, .int x1)] → W p l e (rmD 3) s m ([.ref a] : List Value).toArray below meth c H locs 0 0 (MQ below (QI g v MR N) ([.ref a] : List Value).toArray s 0 0 (wA g)) (F0 m 48 ls []) := by
    intro n
    induction n with
    | zero =>
      intro x1 M H locs ls hf
      exact absurd hf (by simp [f_X5_goOn_L48])
    | succ n ih =>
      intro x1 M H locs ls hf hP hS hl
      unfold f_X5_goOn_L48 at hf
      refine lv_iload_n hx hb dX5_goOn_48 rfl (lv_at hl 1 rfl) ?_
      refine lv_aload_n hx hb dX5_goOn_49 rfl (lv_at hl 0 rfl) ?_
      refine r_getI hC hP hO.1 fl_X5_48 rfl dX5_goOn_50 ?_
      refine lv_icmp_ge (tgt := 73) hx hb dX5_goOn_53 (by decide) (fun c3 => ?_) (fun c3 => ?_)
      · have hf := if_t c3 hf
        refine lv_iconst (v := (0 : Int32)) hx hb dX5_goOn_73 (by decide) ?_
        refine lv_istore_n (lv' := [(1, .int (0 : Int32)), (0, .ref a)]) hx hb dX5_goOn_74 rfl hl (by decide) rfl (fun ls hl => ?_)
        refine lv_iconst (v := (0 : Int32)) hx hb dX5_goOn_75 (by decide) ?_
        refine lv_istore_n (lv' := [(2, .int (0 : Int32)), (1, .int (0 : Int32)), (0, .ref a)]) hx hb dX5_goOn_76 rfl hl (by decide) rfl (fun ls hl => ?_)
        exact L77 _ (0 : Int32) (0 : Int32) M _ _ _ hf hP hS (lv_sub hl [2, 1, 0] rfl)
      · have hf := if_f c3 hf
        refine lv_aload_n hx hb dX5_goOn_56 rfl (lv_at hl 0 rfl) ?_
        refine lv_iload_n hx hb dX5_goOn_57 rfl (lv_at hl 1 rfl) ?_
        refine lv_aload_n hx hb dX5_goOn_58 rfl (lv_at hl 0 rfl) ?_
        refine r_getR hC hP hO.1 fl_X5_37 rfl dX5_goOn_59 ?_
        refine lv_iload_n hx hb dX5_goOn_62 rfl (lv_at hl 1 rfl) ?_
        obtain ⟨hb11, hf⟩ := ck_s hf
        refine r_iald hC hP hO.2.2.2.2.2.2.2.2.1 hb11 dX5_goOn_63 ?_
        obtain ⟨M14, hu13, hf⟩ := bd_s hf
        refine r_goV (r_runV (As := [.int x1, .int (M (a + 8) x1.toNatClampNeg)]) (rest := []) hC hP hS (k_X5_moveMoon hg hO hu13) cw_X5_91 q_488 q_489 q_490 (Rm.D 1 3 rfl) hO.1 rfl rfl hl.1 rfl (Nat.le_of_ble_eq_true rfl) dX5_goOn_64) hS (fun H locs hP hS => ?_)
        obtain ⟨z15, ez15, hf⟩ := bsJ hf
        refine lv_iinc (v := z15) (lv' := [(1, .int z15), (0, .ref a)]) hx hb dX5_goOn_67 hl (k := 1) rfl (by rw [ez15]; rfl) (by decide) rfl (fun ls hl => ?_)
        refine lv_goto (tgt := 48) hx hb dX5_goOn_70 (by decide) ?_
        exact ih z15 M14 _ _ _ hf hP hS (lv_sub hl [1, 0] rfl)
  have L12 : ∀ (n : Nat) (x1 : Int32) (M : Mm) (H : Heap) (locs : List Loc) (ls : Array Slot), f_X5_goOn_L12 a n x1 M = some (v, MR) → wP g M N H → va_S (wA g) s.heap H locs → lv_has ls 3 [(0, .ref a), (1, .int x1)] → W p l e (rmD 3) s m ([.ref a] : List Value).toArray below meth c H locs 0 0 (MQ below (QI g v MR N) ([.ref a] : List Value).toArray s 0 0 (wA g)) (F0 m 12 ls []) := by
    intro n
    induction n with
    | zero =>
      intro x1 M H locs ls hf
      exact absurd hf (by simp [f_X5_goOn_L12])
    | succ n ih =>
      intro x1 M H locs ls hf hP hS hl
      unfold f_X5_goOn_L12 at hf
      refine lv_iload_n hx hb dX5_goOn_12 rfl (lv_at hl 1 rfl) ?_
      refine lv_iconst (v := (5 : Int32)) hx hb dX5_goOn_13 (by decide) ?_
      refine lv_icmp_ge (tgt := 46) hx hb dX5_goOn_14 (by decide) (fun c2 => ?_) (fun c2 => ?_)
      · have hf := if_t c2 hf
        refine lv_iconst (v := (0 : Int32)) hx hb dX5_goOn_46 (by decide) ?_
        refine lv_istore_n (lv' := [(1, .int (0 : Int32)), (0, .ref a)]) hx hb dX5_goOn_47 rfl hl (by decide) rfl (fun ls hl => ?_)
        exact L48 _ (0 : Int32) M _ _ _ hf hP hS (lv_sub hl [1, 0] rfl)
      · have hf := if_f c2 hf
        refine lv_aload_n hx hb dX5_goOn_17 rfl (lv_at hl 0 rfl) ?_
        refine r_getR hC hP hO.1 fl_X5_25 rfl dX5_goOn_18 ?_
        refine lv_iload_n hx hb dX5_goOn_21 rfl (lv_at hl 1 rfl) ?_
        refine lv_aload_n hx hb dX5_goOn_22 rfl (lv_at hl 0 rfl) ?_
        refine lv_aload_n hx hb dX5_goOn_23 rfl (lv_at hl 0 rfl) ?_
        refine r_getR hC hP hO.1 fl_X5_25 rfl dX5_goOn_24 ?_
        refine lv_iload_n hx hb dX5_goOn_27 rfl (lv_at hl 1 rfl) ?_
        obtain ⟨hb16, hf⟩ := ck_s hf
        refine r_iald hC hP hO.2.2.2.2.1 hb16 dX5_goOn_28 ?_
        refine lv_aload_n hx hb dX5_goOn_29 rfl (lv_at hl 0 rfl) ?_
        refine r_getR hC hP hO.1 fl_X5_15 rfl dX5_goOn_30 ?_
        refine lv_iload_n hx hb dX5_goOn_33 rfl (lv_at hl 1 rfl) ?_
        obtain ⟨hb17, hf⟩ := ck_s hf
        refine r_iald hC hP hO.2.1 hb17 dX5_goOn_34 ?_
        refine lv_iadd hx hb dX5_goOn_35 ?_
        obtain ⟨r18, hu19, hf⟩ := bd_s hf
        refine r_goI (r_runV (As := [.int ((M (a + 4) x1.toNatClampNeg) + (M (a + 1) x1.toNatClampNeg))]) (rest := [.int x1, .ref (a + 4)]) hC hP hS (k_X5_around hg hO hu19) cw_X5_84 q_484 q_485 q_486 (Rm.D 0 3 rfl) hO.1 rfl rfl hl.1 rfl (Nat.le_of_ble_eq_true rfl) dX5_goOn_36) hS (fun H locs hP hS => ?_)
        obtain ⟨hb21, hf⟩ := ck_s hf
        refine r_iast hC hP hS hO.2.2.2.2.1 hb21 dX5_goOn_39 (fun H locs hP hS => ?_)
        obtain ⟨M22, eM22, hf, hP⟩ := bsM hf hP
        obtain ⟨z23, ez23, hf⟩ := bsJ hf
        refine lv_iinc (v := z23) (lv' := [(1, .int z23), (0, .ref a)]) hx hb dX5_goOn_40 hl (k := 1) rfl (by rw [ez23]; rfl) (by decide) rfl (fun ls hl => ?_)
        refine lv_goto (tgt := 12) hx hb dX5_goOn_43 (by decide) ?_
        exact ih z23 M22 _ _ _ hf hP hS (lv_sub hl [1, 0] rfl)
  unfold f_X5_goOn at hf
  refine lv_aload_n hx hb dX5_goOn_0 rfl (lv_at hl 0 rfl) ?_
  refine lv_dup hx hb dX5_goOn_1 rfl ?_
  refine r_getI hC hP hO.1 fl_X5_51 rfl dX5_goOn_2 ?_
  refine lv_iconst (v := (1 : Int32)) hx hb dX5_goOn_5 (by decide) ?_
  refine lv_iadd hx hb dX5_goOn_6 ?_
  refine r_putI hC hP hS hO.1 fl_X5_51 tyX5 tyX5_ok nmX5 rfl rfl rfl dX5_goOn_7 (fun H locs hP hS => ?_)
  obtain ⟨M1, eM1, hf, hP⟩ := bsM hf hP
  refine lv_iconst (v := (0 : Int32)) hx hb dX5_goOn_10 (by decide) ?_
  refine lv_istore_n (lv' := [(1, .int (0 : Int32)), (0, .ref a)]) hx hb dX5_goOn_11 rfl hl (by decide) rfl (fun ls hl => ?_)
  exact L12 _ (0 : Int32) M1 _ _ _ hf hP hS (lv_sub hl [1, 0] rfl)
set_option maxRecDepth 100000 in
set_option maxHeartbeats 4000000 in
theorem k_X5_goOnBy {g : Ev} {l : Launch} (hg : g.2.1.Nodup) {kd : Nat} {a : Nat} (hO : oRing g kd a) {M : Mm} {N : Ml} {p0 : Int32} {v : Int32} {MR : Mm} (hf : f_X5_goOnBy a p0 M = some (v, MR)) : KM g l yX5_goOnBy cX5_goOnBy 4 (some .int) 4 [.ref a, .int p0] M N (QI g v MR N) := by
  refine KM.mk hg (by decide) (Nat.le_of_ble_eq_true rfl) ?_
  intro p e s m below meth c ls hC hr hlk hl hP hS
  have hx := hC.1
  have hb := hC.2.1
  have hl : lv_has ls 4 [(0, .ref a), (1, .int p0)] := hl
  have L4 : ∀ (n : Nat) (x1 : Int32) (x2 : Int32) (x3 : Int32) (M : Mm) (H : Heap) (locs : List Loc) (ls : Array Slot), f_X5_goOnBy_L4 a n x1 x2 x3 M = some (v, MR) → wP g M N H → va_S (wA g) s.heap H locs → lv_has ls 4 [(0, .ref a), (1, .int x1), (2, .int x2), (3, .int x3)] → W p l e (rmD 4) s m ([.ref a, .int p0] : List Value).toArray below meth c H locs 0 0 (MQ below (QI g v MR N) ([.ref a, .int p0] : List Value).toArray s 0 0 (wA g)) (F0 m 4 ls []) := by
    intro n
    induction n with
    | zero =>
      intro x1 x2 x3 M H locs ls hf
      exact absurd hf (by simp [f_X5_goOnBy_L4])
    | succ n ih =>
      intro x1 x2 x3 M H locs ls hf hP hS hl
      unfold f_X5_goOnBy_L4 at hf
      refine lv_iload_n hx hb dX5_goOnBy_4 rfl (lv_at hl 3 rfl) ?_
      refine lv_iload_n hx hb dX5_goOnBy_5 rfl (lv_at hl 1 rfl) ?_
      refine lv_icmp_ge (tgt := 22) hx hb dX5_goOnBy_6 (by decide) (fun c1 => ?_) (fun c1 => ?_)
      · have hf := if_t c1 hf
        refine lv_iload_n hx hb dX5_goOnBy_22 rfl (lv_at hl 2 rfl) ?_
        exact e_IM hC hr hlk hP hS dX5_goOnBy_23 hf
      · have hf := if_f c1 hf
        refine lv_iload_n hx hb dX5_goOnBy_9 rfl (lv_at hl 2 rfl) ?_
        refine lv_aload_n hx hb dX5_goOnBy_10 rfl (lv_at hl 0 rfl) ?_
        obtain ⟨r2, M4, hu3, hf⟩ := bd2_s hf
        refine r_goI (r_runV (As := []) (rest := [.int x2]) hC hP hS (k_X5_goOn hg hO hu3) cw_X5_98 q_711 q_481 q_482 (Rm.D 3 4 rfl) hO.1 rfl rfl hl.1 rfl (Nat.le_of_ble_eq_true rfl) dX5_goOnBy_11) hS (fun H locs hP hS => ?_)
        refine lv_iadd hx hb dX5_goOnBy_14 ?_
        refine lv_topi (fun z5 ez5 => ?_)
        have hf := bs ez5 hf
        refine lv_istore_n (lv' := [(2, .int z5), (0, .ref a), (1, .int x1), (3, .int x3)]) hx hb dX5_goOnBy_15 rfl hl (by decide) rfl (fun ls hl => ?_)
        obtain ⟨z6, ez6, hf⟩ := bsJ hf
        refine lv_iinc (v := z6) (lv' := [(3, .int z6), (2, .int z5), (0, .ref a), (1, .int x1)]) hx hb dX5_goOnBy_16 hl (k := 3) rfl (by rw [ez6]; rfl) (by decide) rfl (fun ls hl => ?_)
        refine lv_goto (tgt := 4) hx hb dX5_goOnBy_19 (by decide) ?_
        exact ih x1 z5 z6 M4 _ _ _ hf hP hS (lv_sub hl [2, 3, 1, 0] rfl)
  unfold f_X5_goOnBy at hf
  refine lv_iconst (v := (0 : Int32)) hx hb dX5_goOnBy_0 (by decide) ?_
  refine lv_istore_n (lv' := [(2, .int (0 : Int32)), (0, .ref a), (1, .int p0)]) hx hb dX5_goOnBy_1 rfl hl (by decide) rfl (fun ls hl => ?_)
  refine lv_iconst (v := (0 : Int32)) hx hb dX5_goOnBy_2 (by decide) ?_
  refine lv_istore_n (lv' := [(3, .int (0 : Int32)), (2, .int (0 : Int32)), (0, .ref a), (1, .int p0)]) hx hb dX5_goOnBy_3 rfl hl (by decide) rfl (fun ls hl => ?_)
  exact L4 _ p0 (0 : Int32) (0 : Int32) M _ _ _ hf hP hS (lv_sub hl [2, 3, 1, 0] rfl)
set_option maxRecDepth 100000 in
set_option maxHeartbeats 4000000 in
theorem k_J6_bitCount_0f7a4 {g : Ev} {l : Launch} (hg : g.2.1.Nodup)   {M : Mm} {N : Ml} {p0 : Int32} {v : Int32} (hf : f_J6_bitCount_0f7a4 p0 M = some v) : KM g l yJ6_bitCount_0f7a4 cJ6_bitCount_0f7a4 1 (some .int) 0 [.int p0] M N (QI g v M N) := by
  refine KM.mk hg (by decide) (Nat.le_of_ble_eq_true rfl) ?_
  intro p e s m below meth c ls hC hr hlk hl hP hS
  have hx := hC.1
  have hb := hC.2.1
  have hl : lv_has ls 1 [(0, .int p0)] := hl
  unfold f_J6_bitCount_0f7a4 at hf
  refine lv_iload_n hx hb dJ6_bitCount_0f7a4_0 rfl (lv_at hl 0 rfl) ?_
  refine lv_iload_n hx hb dJ6_bitCount_0f7a4_1 rfl (lv_at hl 0 rfl) ?_
  refine lv_iconst (v := (1 : Int32)) hx hb dJ6_bitCount_0f7a4_2 (by decide) ?_
  refine lv_iushr hx hb dJ6_bitCount_0f7a4_3 rfl ?_
  refine lv_ldcw (v := (1431655765 : Int32)) hx hb hC.2.2.2.1 (hC.2.2.2.2.1 _ q_916) dJ6_bitCount_0f7a4_4 ?_
  refine lv_iand hx hb dJ6_bitCount_0f7a4_7 ?_
  refine lv_isub hx hb dJ6_bitCount_0f7a4_8 ?_
  refine lv_topi (fun z1 ez1 => ?_)
  have hf := bs ez1 hf
  refine lv_istore_n (lv' := [(0, .int z1)]) hx hb dJ6_bitCount_0f7a4_9 rfl hl (by decide) rfl (fun ls hl => ?_)
  refine lv_iload_n hx hb dJ6_bitCount_0f7a4_10 rfl (lv_at hl 0 rfl) ?_
  refine lv_ldcw (v := (858993459 : Int32)) hx hb hC.2.2.2.1 (hC.2.2.2.2.1 _ q_917) dJ6_bitCount_0f7a4_11 ?_
  refine lv_iand hx hb dJ6_bitCount_0f7a4_14 ?_
  refine lv_iload_n hx hb dJ6_bitCount_0f7a4_15 rfl (lv_at hl 0 rfl) ?_
  refine lv_iconst (v := (2 : Int32)) hx hb dJ6_bitCount_0f7a4_16 (by decide) ?_
  refine lv_iushr hx hb dJ6_bitCount_0f7a4_17 rfl ?_
  refine lv_ldcw (v := (858993459 : Int32)) hx hb hC.2.2.2.1 (hC.2.2.2.2.1 _ q_917) dJ6_bitCount_0f7a4_18 ?_
  refine lv_iand hx hb dJ6_bitCount_0f7a4_21 ?_
  refine lv_iadd hx hb dJ6_bitCount_0f7a4_22 ?_
  refine lv_topi (fun z2 ez2 => ?_)
  have hf := bs ez2 hf
  refine lv_istore_n (lv' := [(0, .int z2)]) hx hb dJ6_bitCount_0f7a4_23 rfl hl (by decide) rfl (fun ls hl => ?_)
  refine lv_iload_n hx hb dJ6_bitCount_0f7a4_24 rfl (lv_at hl 0 rfl) ?_
  refine lv_iload_n hx hb dJ6_bitCount_0f7a4_25 rfl (lv_at hl 0 rfl) ?_
  refine lv_iconst (v := (4 : Int32)) hx hb dJ6_bitCount_0f7a4_26 (by decide) ?_
  refine lv_iushr hx hb dJ6_bitCount_0f7a4_27 rfl ?_
  refine lv_iadd hx hb dJ6_bitCount_0f7a4_28 ?_
  refine lv_ldcw (v := (252645135 : Int32)) hx hb hC.2.2.2.1 (hC.2.2.2.2.1 _ q_918) dJ6_bitCount_0f7a4_29 ?_
  refine lv_iand hx hb dJ6_bitCount_0f7a4_32 ?_
  refine lv_topi (fun z3 ez3 => ?_)
  have hf := bs ez3 hf
  refine lv_istore_n (lv' := [(0, .int z3)]) hx hb dJ6_bitCount_0f7a4_33 rfl hl (by decide) rfl (fun ls hl => ?_)
  refine lv_iload_n hx hb dJ6_bitCount_0f7a4_34 rfl (lv_at hl 0 rfl) ?_
  refine lv_iload_n hx hb dJ6_bitCount_0f7a4_35 rfl (lv_at hl 0 rfl) ?_
  refine lv_bipush (v := (8 : Int32)) hx hb dJ6_bitCount_0f7a4_36 (by decide) ?_
  refine lv_iushr hx hb dJ6_bitCount_0f7a4_38 rfl ?_
  refine lv_iadd hx hb dJ6_bitCount_0f7a4_39 ?_
  refine lv_topi (fun z4 ez4 => ?_)
  have hf := bs ez4 hf
  refine lv_istore_n (lv' := [(0, .int z4)]) hx hb dJ6_bitCount_0f7a4_40 rfl hl (by decide) rfl (fun ls hl => ?_)
  refine lv_iload_n hx hb dJ6_bitCount_0f7a4_41 rfl (lv_at hl 0 rfl) ?_
  refine lv_iload_n hx hb dJ6_bitCount_0f7a4_42 rfl (lv_at hl 0 rfl) ?_
  refine lv_bipush (v := (16 : Int32)) hx hb dJ6_bitCount_0f7a4_43 (by decide) ?_
  refine lv_iushr hx hb dJ6_bitCount_0f7a4_45 rfl ?_
  refine lv_iadd hx hb dJ6_bitCount_0f7a4_46 ?_
  refine lv_topi (fun z5 ez5 => ?_)
  have hf := bs ez5 hf
  refine lv_istore_n (lv' := [(0, .int z5)]) hx hb dJ6_bitCount_0f7a4_47 rfl hl (by decide) rfl (fun ls hl => ?_)
  refine lv_iload_n hx hb dJ6_bitCount_0f7a4_48 rfl (lv_at hl 0 rfl) ?_
  refine lv_bipush (v := (63 : Int32)) hx hb dJ6_bitCount_0f7a4_49 (by decide) ?_
  refine lv_iand hx hb dJ6_bitCount_0f7a4_51 ?_
  exact e_I hC hr hlk hP hS dJ6_bitCount_0f7a4_52 hf
set_option maxRecDepth 100000 in
set_option maxHeartbeats 4000000 in
theorem k_X0_ordersBehind {g : Ev} {l : Launch} (hg : g.2.1.Nodup) {kd : Nat} {cs : Nat} {r : Nat} (hO : oCourse g kd r cs) {M : Mm} {N : Ml} {p0 : Int32} {v : Int64} (hf : f_X0_ordersBehind cs r p0 M = some v) : KM g l yX0_ordersBehind cX0_ordersBehind 4 (some .long) 1 [.ref cs, .int p0] M N (QL g v M N) := by
  refine KM.mk hg (by decide) (Nat.le_of_ble_eq_true rfl) ?_
  intro p e s m below meth c ls hC hr hlk hl hP hS
  have hx := hC.1
  have hb := hC.2.1
  have hl : lv_has ls 4 [(0, .ref cs), (1, .int p0)] := hl
  unfold f_X0_ordersBehind at hf
  refine lv_iload_n hx hb dX0_ordersBehind_0 rfl (lv_at hl 1 rfl) ?_
  obtain ⟨r1, hu2, hf⟩ := bd_s hf
  refine r_goI (r_runS (As := [.int p0]) (rest := []) hC hP hS (k_J6_bitCount_0f7a4 hg hu2) cw_X0_148 q_912 q_913 (Rm.D 0 1 rfl) rfl hl.1 rfl (Nat.le_of_ble_eq_true rfl) dX0_ordersBehind_1) hS (fun H locs hP hS => ?_)
  refine lv_istore_n (lv' := [(2, .int r1), (0, .ref cs), (1, .int p0)]) hx hb dX0_ordersBehind_4 rfl hl (by decide) rfl (fun ls hl => ?_)
  refine lv_aload_n hx hb dX0_ordersBehind_5 rfl (lv_at hl 1 rfl) ?_
  refine r_getR hC hP hO.1 fl_X0_9 rfl dX0_ordersBehind_6 ?_
  refine r_getI hC hP hO.2.1.1 fl_X0_138 rfl dX0_ordersBehind_9 ?_
  refine lv_iconst (v := (1 : Int32)) hx hb dX0_ordersBehind_12 (by decide) ?_
  refine lv_isub hx hb dX0_ordersBehind_13 ?_
  refine lv_iload_n hx hb dX0_ordersBehind_14 rfl (lv_at hl 0 rfl) ?_
  refine lv_isub hx hb dX0_ordersBehind_15 ?_
  refine lv_topi (fun z4 ez4 => ?_)
  have hf := bs ez4 hf
  refine lv_istore_n (lv' := [(3, .int z4), (2, .int r1), (0, .ref cs), (1, .int p0)]) hx hb dX0_ordersBehind_16 rfl hl (by decide) rfl (fun ls hl => ?_)
  refine lv_iload_n hx hb dX0_ordersBehind_17 rfl (lv_at hl 0 rfl) ?_
  refine lv_if_ge (tgt := 25) hx hb dX0_ordersBehind_18 (by decide) (fun c5 => ?_) (fun c5 => ?_)
  · have hf := if_t c5 hf
    refine r_factN hC hS dX0_ordersBehind_25 ?_
    refine lv_iload_n hx hb dX0_ordersBehind_28 rfl (lv_at hl 1 rfl) ?_
    obtain ⟨hb6, hf⟩ := ck_s hf
    refine r_fald hC hS hb6 dX0_ordersBehind_29 ?_
    refine r_factN hC hS dX0_ordersBehind_30 ?_
    refine lv_iload_n hx hb dX0_ordersBehind_33 rfl (lv_at hl 0 rfl) ?_
    obtain ⟨hb7, hf⟩ := ck_s hf
    refine r_fald hC hS hb7 dX0_ordersBehind_34 ?_
    refine lv_imul hx hb dX0_ordersBehind_35 ?_
    refine lv_i2l hx hb dX0_ordersBehind_36 rfl ?_
    exact e_L hC hr hlk hP hS dX0_ordersBehind_37 hf
  · have hf := if_f c5 hf
    refine lv_lconst (v := (0 : Int64)) hx hb dX0_ordersBehind_21 (by decide) ?_
    refine lv_goto (tgt := 37) hx hb dX0_ordersBehind_22 (by decide) ?_
    exact e_L hC hr hlk hP hS dX0_ordersBehind_37 hf
set_option maxRecDepth 100000 in
set_option maxHeartbeats 4000000 in
theorem k_X0_addedInAllOrders {g : Ev} {l : Launch} (hg : g.2.1.Nodup) {kd : Nat} {cs : Nat} {r : Nat} (hO : oCourse g kd r cs) {M : Mm} {N : Ml} {p0 : Int32} {p1 : Int32} {v : Int64} {MR : Mm} (hf : f_X0_addedInAllOrders cs r p0 p1 M = some (v, MR)) : KM g l yX0_addedInAllOrders cX0_addedInAllOrders 8 (some .long) 5 [.ref cs, .int p0, .int p1] M N (QL g v MR N) := by
  refine KM.mk hg (by decide) (Nat.le_of_ble_eq_true rfl) ?_
  intro p e s m below meth c ls hC hr hlk hl hP hS
  have hx := hC.1
  have hb := hC.2.1
  have hl : lv_has ls 8 [(0, .ref cs), (1, .int p0), (2, .int p1)] := hl
  have J116 : ∀ (kb71 : Int32 → Int32 → Int64 → Int32 → Mm → Option (Int64 × Mm)) (hkb71 : ∀ (x3 : Int32) (x4 : Int32) (x5 : Int64) (x7 : Int32) (M : Mm) (H : Heap) (locs : List Loc) (ls : Array Slot), kb71 x3 x4 x5 x7 M = some (v, MR) → wP g M N H → va_S (wA g) s.heap H locs → lv_has ls 8 [(0, .ref cs), (3, .int x3), (4, .int x4), (5, .long x5), (7, .int x7)] → W p l e (rmD 5) s m ([.ref cs, .int p0, .int p1] : List Value).toArray below meth c H locs 0 0 (MQ below (QL g v MR N) ([.ref cs, .int p0, .int p1] : List Value).toArray s 0 0 (wA g)) (F0 m 71 ls [])) (x3 : Int32) (x4 : Int32) (x5 : Int64) (x7 : Int32) (M : Mm) (H : Heap) (locs : List Loc) (ls : Array Slot), f_X0_addedInAllOrders_J116 cs r x3 x4 x5 x7 M kb71 = some (v, MR) → wP g M N H → va_S (wA g) s.heap H locs → lv_has ls 8 [(0, .ref cs), (3, .int x3), (4, .int x4), (5, .long x5), (7, .int x7)] → W p l e (rmD 5) s m ([.ref cs, .int p0, .int p1] : List Value).toArray below meth c H locs 0 0 (MQ below (QL g v MR N) ([.ref cs, .int p0, .int p1] : List Value).toArray s 0 0 (wA g)) (F0 m 116 ls []) := by
    intro kb71 hkb71 x3 x4 x5 x7 M H locs ls hf hP hS hl
    unfold f_X0_addedInAllOrders_J116 at hf
    obtain ⟨z6, ez6, hf⟩ := bsJ hf
    refine lv_iinc (v := z6) (lv' := [(7, .int z6), (0, .ref cs), (3, .int x3), (4, .int x4), (5, .long x5)]) hx hb dX0_addedInAllOrders_116 hl (k := 4) rfl (by rw [ez6]; rfl) (by decide) rfl (fun ls hl => ?_)
    refine lv_goto (tgt := 71) hx hb dX0_addedInAllOrders_119 (by decide) ?_
    exact hkb71 x3 x4 x5 z6 M _ _ _ hf hP hS (lv_sub hl [1, 2, 3, 4, 0] rfl)
  have L71 : ∀ (n : Nat) (x3 : Int32) (x4 : Int32) (x5 : Int64) (x7 : Int32) (M : Mm) (H : Heap) (locs : List Loc) (ls : Array Slot), f_X0_addedInAllOrders_L71 cs r n x3 x4 x5 x7 M = some (v, MR) → wP g M N H → va_S (wA g) s.heap H locs → lv_has ls 8 [(0, .ref cs), (3, .int x3), (4, .int x4), (5, .long x5), (7, .int x7)] → W p l e (rmD 5) s m ([.ref cs, .int p0, .int p1] : List Value).toArray below meth c H locs 0 0 (MQ below (QL g v MR N) ([.ref cs, .int p0, .int p1] : List Value).toArray s 0 0 (wA g)) (F0 m 71 ls []) := by
    intro n
    induction n with
    | zero =>
      intro x3 x4 x5 x7 M H locs ls hf
      exact absurd hf (by simp [f_X0_addedInAllOrders_L71])
    | succ n ih =>
      intro x3 x4 x5 x7 M H locs ls hf hP hS hl
      unfold f_X0_addedInAllOrders_L71 at hf
      refine lv_iload hx hb dX0_addedInAllOrders_71 (lv_at hl 4 rfl) ?_
      refine lv_iload_n hx hb dX0_addedInAllOrders_73 rfl (lv_at hl 1 rfl) ?_
      refine lv_icmp_ge (tgt := 122) hx hb dX0_addedInAllOrders_74 (by decide) (fun c4 => ?_) (fun c4 => ?_)
      · have hf := if_t c4 hf
        refine lv_lload hx hb dX0_addedInAllOrders_122 (lv_at hl 3 rfl) ?_
        exact e_LM hC hr hlk hP hS dX0_addedInAllOrders_124 hf
      · have hf := if_f c4 hf
        refine lv_iload hx hb dX0_addedInAllOrders_77 (lv_at hl 4 rfl) ?_
        refine lv_iload hx hb dX0_addedInAllOrders_79 (lv_at hl 2 rfl) ?_
        refine lv_iand hx hb dX0_addedInAllOrders_81 ?_
        refine lv_if_ne (tgt := 116) hx hb dX0_addedInAllOrders_82 (by decide) (fun c5 => ?_) (fun c5 => ?_)
        · have hf := if_f c5 hf
          exact J116 _ ih x3 x4 x5 x7 M _ _ _ hf hP hS (lv_sub hl [0, 1, 2, 3, 4] rfl)
        · have hf := if_t c5 hf
          refine lv_lload hx hb dX0_addedInAllOrders_85 (lv_at hl 3 rfl) ?_
          refine lv_aload_n hx hb dX0_addedInAllOrders_87 rfl (lv_at hl 0 rfl) ?_
          refine lv_iload hx hb dX0_addedInAllOrders_88 (lv_at hl 4 rfl) ?_
          obtain ⟨r7, hu8, hf⟩ := bd_s hf
          refine r_goL (r_runV (As := [.int x7]) (rest := [.long x5]) hC hP hS (k_X0_ordersBehind hg hO hu8) cw_X0_144 q_908 q_909 q_910 (Rm.D 1 5 rfl) hO.1 rfl rfl hl.1 rfl (Nat.le_of_ble_eq_true rfl) dX0_addedInAllOrders_90) hS (fun H locs hP hS => ?_)
          refine lv_aload_n hx hb dX0_addedInAllOrders_93 rfl (lv_at hl 0 rfl) ?_
          refine r_getR hC hP hO.1 fl_X0_38 rfl dX0_addedInAllOrders_94 ?_
          refine lv_iload hx hb dX0_addedInAllOrders_97 (lv_at hl 4 rfl) ?_
          refine lv_iload hx hb dX0_addedInAllOrders_99 (lv_at hl 2 rfl) ?_
          refine lv_ior hx hb dX0_addedInAllOrders_101 ?_
          obtain ⟨hb10, hf⟩ := ck_s hf
          refine r_iald hC hP hO.2.2.2.2.2.2.2.2 hb10 dX0_addedInAllOrders_102 ?_
          refine lv_aload_n hx hb dX0_addedInAllOrders_103 rfl (lv_at hl 0 rfl) ?_
          refine r_getR hC hP hO.1 fl_X0_38 rfl dX0_addedInAllOrders_104 ?_
          refine lv_iload hx hb dX0_addedInAllOrders_107 (lv_at hl 4 rfl) ?_
          obtain ⟨hb11, hf⟩ := ck_s hf
          refine r_iald hC hP hO.2.2.2.2.2.2.2.2 hb11 dX0_addedInAllOrders_109 ?_
          refine lv_isub hx hb dX0_addedInAllOrders_110 ?_
          refine lv_i2l hx hb dX0_addedInAllOrders_111 rfl ?_
          refine lv_lmul hx hb dX0_addedInAllOrders_112 ?_
          refine lv_ladd hx hb dX0_addedInAllOrders_113 ?_
          refine lv_topl (fun z12 ez12 => ?_)
          have hf := bs ez12 hf
          refine lv_lstore (lv' := [(5, .long z12), (0, .ref cs), (3, .int x3), (4, .int x4), (7, .int x7)]) hx hb dX0_addedInAllOrders_114 hl (by decide) rfl (fun ls hl => ?_)
          exact J116 _ ih x3 x4 z12 x7 M _ _ _ hf hP hS (lv_sub hl [1, 2, 3, 0, 4] rfl)
  have L13 : ∀ (n : Nat) (x1 : Int32) (x2 : Int32) (x3 : Int32) (x4 : Int32) (M : Mm) (H : Heap) (locs : List Loc) (ls : Array Slot), f_X0_addedInAllOrders_L13 cs r n x1 x2 x3 x4 M = some (v, MR) → wP g M N H → va_S (wA g) s.heap H locs → lv_has ls 8 [(0, .ref cs), (1, .int x1), (2, .int x2), (3, .int x3), (4, .int x4)] → W p l e (rmD 5) s m ([.ref cs, .int p0, .int p1] : List Value).toArray below meth c H locs 0 0 (MQ below (QL g v MR N) ([.ref cs, .int p0, .int p1] : List Value).toArray s 0 0 (wA g)) (F0 m 13 ls []) := by
    intro n
    induction n with
    | zero =>
      intro x1 x2 x3 x4 M H locs ls hf
      exact absurd hf (by simp [f_X0_addedInAllOrders_L13])
    | succ n ih =>
      intro x1 x2 x3 x4 M H locs ls hf hP hS hl
      unfold f_X0_addedInAllOrders_L13 at hf
      refine lv_iload hx hb dX0_addedInAllOrders_13 (lv_at hl 4 rfl) ?_
      refine lv_iload_n hx hb dX0_addedInAllOrders_15 rfl (lv_at hl 3 rfl) ?_
      refine lv_icmp_ge (tgt := 60) hx hb dX0_addedInAllOrders_16 (by decide) (fun c2 => ?_) (fun c2 => ?_)
      · have hf := if_t c2 hf
        refine lv_iconst (v := (1 : Int32)) hx hb dX0_addedInAllOrders_60 (by decide) ?_
        refine lv_iload_n hx hb dX0_addedInAllOrders_61 rfl (lv_at hl 1 rfl) ?_
        refine lv_ishl hx hb dX0_addedInAllOrders_62 ?_
        refine lv_topi (fun z3 ez3 => ?_)
        have hf := bs ez3 hf
        refine lv_istore (lv' := [(4, .int z3), (0, .ref cs), (1, .int x1), (2, .int x2), (3, .int x3)]) hx hb dX0_addedInAllOrders_63 hl (by decide) rfl (fun ls hl => ?_)
        refine lv_lconst (v := (0 : Int64)) hx hb dX0_addedInAllOrders_65 (by decide) ?_
        refine lv_lstore (lv' := [(5, .long (0 : Int64)), (4, .int z3), (0, .ref cs), (1, .int x1), (2, .int x2), (3, .int x3)]) hx hb dX0_addedInAllOrders_66 hl (by decide) rfl (fun ls hl => ?_)
        refine lv_iconst (v := (0 : Int32)) hx hb dX0_addedInAllOrders_68 (by decide) ?_
        refine lv_istore (lv' := [(7, .int (0 : Int32)), (5, .long (0 : Int64)), (4, .int z3), (0, .ref cs), (1, .int x1), (2, .int x2), (3, .int x3)]) hx hb dX0_addedInAllOrders_69 hl (by decide) rfl (fun ls hl => ?_)
        exact L71 _ x3 z3 (0 : Int64) (0 : Int32) M _ _ _ hf hP hS (lv_sub hl [3, 6, 2, 1, 0] rfl)
      · have hf := if_f c2 hf
        refine lv_aload_n hx hb dX0_addedInAllOrders_19 rfl (lv_at hl 0 rfl) ?_
        refine r_getR hC hP hO.1 fl_X0_15 rfl dX0_addedInAllOrders_20 ?_
        refine lv_aload_n hx hb dX0_addedInAllOrders_23 rfl (lv_at hl 0 rfl) ?_
        refine r_getR hC hP hO.1 fl_X0_9 rfl dX0_addedInAllOrders_24 ?_
        obtain ⟨M15, hu14, hf⟩ := bd_s hf
        refine r_goV (r_runV (As := [.ref r]) (rest := []) hC hP hS (k_X5_copy hg hO.2.2.1 hO.2.1 hu14) cw_X0_53 q_706 q_410 q_411 (Rm.D 2 5 rfl) hO.2.2.1.1 rfl rfl hl.1 rfl (Nat.le_of_ble_eq_true rfl) dX0_addedInAllOrders_27) hS (fun H locs hP hS => ?_)
        refine lv_aload_n hx hb dX0_addedInAllOrders_30 rfl (lv_at hl 0 rfl) ?_
        refine r_getR hC hP hO.1 fl_X0_15 rfl dX0_addedInAllOrders_31 ?_
        refine lv_iload hx hb dX0_addedInAllOrders_34 (lv_at hl 4 rfl) ?_
        obtain ⟨M18, hu17, hf⟩ := bd_s hf
        refine r_goV (r_runV (As := [.int x4]) (rest := []) hC hP hS (k_X5_keepMoons hg hO.2.2.1 hu17) cw_X0_141 q_903 q_904 q_905 (Rm.D 1 5 rfl) hO.2.2.1.1 rfl rfl hl.1 rfl (Nat.le_of_ble_eq_true rfl) dX0_addedInAllOrders_36) hS (fun H locs hP hS => ?_)
        refine lv_aload_n hx hb dX0_addedInAllOrders_39 rfl (lv_at hl 0 rfl) ?_
        refine r_getR hC hP hO.1 fl_X0_38 rfl dX0_addedInAllOrders_40 ?_
        refine lv_iload hx hb dX0_addedInAllOrders_43 (lv_at hl 4 rfl) ?_
        refine lv_aload_n hx hb dX0_addedInAllOrders_45 rfl (lv_at hl 0 rfl) ?_
        refine r_getR hC hP hO.1 fl_X0_15 rfl dX0_addedInAllOrders_46 ?_
        refine lv_iload_n hx hb dX0_addedInAllOrders_49 rfl (lv_at hl 2 rfl) ?_
        obtain ⟨r19, M21, hu20, hf⟩ := bd2_s hf
        refine r_goI (r_runV (As := [.int x2]) (rest := [.int x4, .ref (cs + 15)]) hC hP hS (k_X5_goOnBy hg hO.2.2.1 hu20) cw_X0_59 q_707 q_708 q_709 (Rm.D 4 5 rfl) hO.2.2.1.1 rfl rfl hl.1 rfl (Nat.le_of_ble_eq_true rfl) dX0_addedInAllOrders_50) hS (fun H locs hP hS => ?_)
        obtain ⟨hb22, hf⟩ := ck_s hf
        refine r_iast hC hP hS hO.2.2.2.2.2.2.2.2 hb22 dX0_addedInAllOrders_53 (fun H locs hP hS => ?_)
        obtain ⟨M23, eM23, hf, hP⟩ := bsM hf hP
        obtain ⟨z24, ez24, hf⟩ := bsJ hf
        refine lv_iinc (v := z24) (lv' := [(4, .int z24), (0, .ref cs), (1, .int x1), (2, .int x2), (3, .int x3)]) hx hb dX0_addedInAllOrders_54 hl (k := 4) rfl (by rw [ez24]; rfl) (by decide) rfl (fun ls hl => ?_)
        refine lv_goto (tgt := 13) hx hb dX0_addedInAllOrders_57 (by decide) ?_
        exact ih x1 x2 x3 z24 M23 _ _ _ hf hP hS (lv_sub hl [1, 2, 3, 4, 0] rfl)
  unfold f_X0_addedInAllOrders at hf
  refine lv_iconst (v := (1 : Int32)) hx hb dX0_addedInAllOrders_0 (by decide) ?_
  refine lv_aload_n hx hb dX0_addedInAllOrders_1 rfl (lv_at hl 0 rfl) ?_
  refine r_getR hC hP hO.1 fl_X0_9 rfl dX0_addedInAllOrders_2 ?_
  refine r_getI hC hP hO.2.1.1 fl_X0_138 rfl dX0_addedInAllOrders_5 ?_
  refine lv_ishl hx hb dX0_addedInAllOrders_8 ?_
  refine lv_topi (fun z1 ez1 => ?_)
  have hf := bs ez1 hf
  refine lv_istore_n (lv' := [(3, .int z1), (0, .ref cs), (1, .int p0), (2, .int p1)]) hx hb dX0_addedInAllOrders_9 rfl hl (by decide) rfl (fun ls hl => ?_)
  refine lv_iconst (v := (0 : Int32)) hx hb dX0_addedInAllOrders_10 (by decide) ?_
  refine lv_istore (lv' := [(4, .int (0 : Int32)), (3, .int z1), (0, .ref cs), (1, .int p0), (2, .int p1)]) hx hb dX0_addedInAllOrders_11 hl (by decide) rfl (fun ls hl => ?_)
  exact L13 _ p0 p1 z1 (0 : Int32) M _ _ _ hf hP hS (lv_sub hl [2, 3, 4, 1, 0] rfl)
set_option maxRecDepth 100000 in
set_option maxHeartbeats 4000000 in
theorem k_X0_aheadBy_b {g : Ev} {l : Launch} (hg : g.2.1.Nodup) {p0 : Nat} {p0n : Nat} (hp0 : iAt g p0 p0n) {M : Mm} {N : Ml} {p1 : Int32} {p2 : Int32} {v : Int32} {rcf : Int32 → Int32 → Option Int32} (dd : Nat) (hrec : ∀ {q1 q2 v : Int32}, rcf q1 q2 = some v → KM g l yX0_aheadBy cX0_aheadBy 7 (some .int) dd [.ref p0, .int q1, .int q2] M N (QI g v M N)) (hf : f_X0_aheadBy_b rcf p0 p0n p1 p2 M = some v) : KM g l yX0_aheadBy cX0_aheadBy 7 (some .int) (dd + 1) [.ref p0, .int p1, .int p2] M N (QI g v M N) := by
  refine KM.mk hg (by decide) (Nat.le_of_ble_eq_true rfl) ?_
  intro p e s m below meth c ls hC hr hlk hl hP hS
  have hx := hC.1
  have hb := hC.2.1
  have hl : lv_has ls 7 [(0, .ref p0), (1, .int p1), (2, .int p2)] := hl
  have J73 : ∀ (kb14 : Int32 → Int32 → Int32 → Int32 → Int32 → Option (Int32)) (hkb14 : ∀ (x1 : Int32) (x2 : Int32) (x3 : Int32) (x4 : Int32) (x5 : Int32) (H : Heap) (locs : List Loc) (ls : Array Slot), kb14 x1 x2 x3 x4 x5 = some v → wP g M N H → va_S (wA g) s.heap H locs → lv_has ls 7 [(0, .ref p0), (1, .int x1), (2, .int x2), (3, .int x3), (4, .int x4), (5, .int x5)] → W p l e (rmD (dd + 1)) s m ([.ref p0, .int p1, .int p2] : List Value).toArray below meth c H locs 0 0 (MQ below (QI g v M N) ([.ref p0, .int p1, .int p2] : List Value).toArray s 0 0 (wA g)) (F0 m 14 ls [])) (x1 : Int32) (x2 : Int32) (x3 : Int32) (x4 : Int32) (x5 : Int32) (H : Heap) (locs : List Loc) (ls : Array Slot), f_X0_aheadBy_J73 rcf p0 p0n M x1 x2 x3 x4 x5 kb14 = some v → wP g M N H → va_S (wA g) s.heap H locs → lv_has ls 7 [(0, .ref p0), (1, .int x1), (2, .int x2), (3, .int x3), (4, .int x4), (5, .int x5)] → W p l e (rmD (dd + 1)) s m ([.ref p0, .int p1, .int p2] : List Value).toArray below meth c H locs 0 0 (MQ below (QI g v M N) ([.ref p0, .int p1, .int p2] : List Value).toArray s 0 0 (wA g)) (F0 m 73 ls []) := by
    intro kb14 hkb14 x1 x2 x3 x4 x5 H locs ls hf hP hS hl
    unfold f_X0_aheadBy_J73 at hf
    obtain ⟨z5, ez5, hf⟩ := bsJ hf
    refine lv_iinc (v := z5) (lv' := [(5, .int z5), (0, .ref p0), (1, .int x1), (2, .int x2), (3, .int x3), (4, .int x4)]) hx hb dX0_aheadBy_73 hl (k := 5) rfl (by rw [ez5]; rfl) (by decide) rfl (fun ls hl => ?_)
    refine lv_goto (tgt := 14) hx hb dX0_aheadBy_76 (by decide) ?_
    exact hkb14 x1 x2 x3 x4 z5 _ _ _ hf hP hS (lv_sub hl [1, 2, 3, 4, 5, 0] rfl)
  have J67 : ∀ (kb14 : Int32 → Int32 → Int32 → Int32 → Int32 → Option (Int32)) (hkb14 : ∀ (x1 : Int32) (x2 : Int32) (x3 : Int32) (x4 : Int32) (x5 : Int32) (H : Heap) (locs : List Loc) (ls : Array Slot), kb14 x1 x2 x3 x4 x5 = some v → wP g M N H → va_S (wA g) s.heap H locs → lv_has ls 7 [(0, .ref p0), (1, .int x1), (2, .int x2), (3, .int x3), (4, .int x4), (5, .int x5)] → W p l e (rmD (dd + 1)) s m ([.ref p0, .int p1, .int p2] : List Value).toArray below meth c H locs 0 0 (MQ below (QI g v M N) ([.ref p0, .int p1, .int p2] : List Value).toArray s 0 0 (wA g)) (F0 m 14 ls [])) (x1 : Int32) (x2 : Int32) (x5 : Int32) (x6 : Int32) (H : Heap) (locs : List Loc) (ls : Array Slot), f_X0_aheadBy_J67 rcf p0 p0n M x1 x2 x5 x6 kb14 = some v → wP g M N H → va_S (wA g) s.heap H locs → lv_has ls 7 [(0, .ref p0), (1, .int x1), (2, .int x2), (5, .int x5), (6, .int x6)] → W p l e (rmD (dd + 1)) s m ([.ref p0, .int p1, .int p2] : List Value).toArray below meth c H locs 0 0 (MQ below (QI g v M N) ([.ref p0, .int p1, .int p2] : List Value).toArray s 0 0 (wA g)) (F0 m 67 ls []) := by
    intro kb14 hkb14 x1 x2 x5 x6 H locs ls hf hP hS hl
    unfold f_X0_aheadBy_J67 at hf
    refine lv_iload hx hb dX0_aheadBy_67 (lv_at hl 4 rfl) ?_
    refine lv_istore (lv' := [(4, .int x6), (0, .ref p0), (1, .int x1), (2, .int x2), (5, .int x5), (6, .int x6)]) hx hb dX0_aheadBy_69 hl (by decide) rfl (fun ls hl => ?_)
    refine lv_iconst (v := (1 : Int32)) hx hb dX0_aheadBy_71 (by decide) ?_
    refine lv_istore_n (lv' := [(3, .int (1 : Int32)), (4, .int x6), (0, .ref p0), (1, .int x1), (2, .int x2), (5, .int x5), (6, .int x6)]) hx hb dX0_aheadBy_72 rfl hl (by decide) rfl (fun ls hl => ?_)
    exact J73 _ hkb14 x1 x2 (1 : Int32) x6 x5 _ _ _ hf hP hS (lv_sub hl [2, 3, 4, 0, 1, 5] rfl)
  have L14 : ∀ (n : Nat) (x1 : Int32) (x2 : Int32) (x3 : Int32) (x4 : Int32) (x5 : Int32) (H : Heap) (locs : List Loc) (ls : Array Slot), f_X0_aheadBy_L14 rcf p0 p0n M n x1 x2 x3 x4 x5 = some v → wP g M N H → va_S (wA g) s.heap H locs → lv_has ls 7 [(0, .ref p0), (1, .int x1), (2, .int x2), (3, .int x3), (4, .int x4), (5, .int x5)] → W p l e (rmD (dd + 1)) s m ([.ref p0, .int p1, .int p2] : List Value).toArray below meth c H locs 0 0 (MQ below (QI g v M N) ([.ref p0, .int p1, .int p2] : List Value).toArray s 0 0 (wA g)) (F0 m 14 ls []) := by
    intro n
    induction n with
    | zero =>
      intro x1 x2 x3 x4 x5 H locs ls hf
      exact absurd hf (by simp [f_X0_aheadBy_L14])
    | succ n ih =>
      intro x1 x2 x3 x4 x5 H locs ls hf hP hS hl
      unfold f_X0_aheadBy_L14 at hf
      refine lv_iload hx hb dX0_aheadBy_14 (lv_at hl 5 rfl) ?_
      refine lv_iconst (v := (5 : Int32)) hx hb dX0_aheadBy_16 (by decide) ?_
      refine lv_icmp_ge (tgt := 79) hx hb dX0_aheadBy_17 (by decide) (fun c2 => ?_) (fun c2 => ?_)
      · have hf := if_t c2 hf
        refine lv_iload hx hb dX0_aheadBy_79 (lv_at hl 4 rfl) ?_
        exact e_I hC hr hlk hP hS dX0_aheadBy_81 hf
      · have hf := if_f c2 hf
        refine lv_aload_n hx hb dX0_aheadBy_20 rfl (lv_at hl 0 rfl) ?_
        refine lv_iload hx hb dX0_aheadBy_21 (lv_at hl 5 rfl) ?_
        obtain ⟨hb3, hf⟩ := ck_s hf
        refine r_iald hC hP hp0 hb3 dX0_aheadBy_23 ?_
        refine lv_if_le (tgt := 73) hx hb dX0_aheadBy_24 (by decide) (fun c4 => ?_) (fun c4 => ?_)
        · have hf := if_t c4 hf
          exact J73 _ ih x1 x2 x3 x4 x5 _ _ _ hf hP hS (lv_sub hl [0, 1, 2, 3, 4, 5] rfl)
        · have hf := if_f c4 hf
          refine lv_iload_n hx hb dX0_aheadBy_27 rfl (lv_at hl 1 rfl) ?_
          refine lv_iload hx hb dX0_aheadBy_28 (lv_at hl 5 rfl) ?_
          refine lv_ishr hx hb dX0_aheadBy_30 ?_
          refine lv_iconst (v := (1 : Int32)) hx hb dX0_aheadBy_31 (by decide) ?_
          refine lv_iand hx hb dX0_aheadBy_32 ?_
          refine lv_if_ne (tgt := 73) hx hb dX0_aheadBy_33 (by decide) (fun c6 => ?_) (fun c6 => ?_)
          · have hf := if_f c6 hf
            exact J73 _ ih x1 x2 x3 x4 x5 _ _ _ hf hP hS (lv_sub hl [0, 1, 2, 3, 4, 5] rfl)
          · have hf := if_t c6 hf
            refine lv_aload_n hx hb dX0_aheadBy_36 rfl (lv_at hl 0 rfl) ?_
            refine lv_iload hx hb dX0_aheadBy_37 (lv_at hl 5 rfl) ?_
            obtain ⟨hb7, hf⟩ := ck_s hf
            refine r_iald hC hP hp0 hb7 dX0_aheadBy_39 ?_
            refine lv_aload_n hx hb dX0_aheadBy_40 rfl (lv_at hl 0 rfl) ?_
            refine lv_iload_n hx hb dX0_aheadBy_41 rfl (lv_at hl 1 rfl) ?_
            refine lv_iconst (v := (1 : Int32)) hx hb dX0_aheadBy_42 (by decide) ?_
            refine lv_iload hx hb dX0_aheadBy_43 (lv_at hl 5 rfl) ?_
            refine lv_ishl hx hb dX0_aheadBy_45 ?_
            refine lv_ior hx hb dX0_aheadBy_46 ?_
            refine lv_iload_n hx hb dX0_aheadBy_47 rfl (lv_at hl 2 rfl) ?_
            refine lv_iconst (v := (1 : Int32)) hx hb dX0_aheadBy_48 (by decide) ?_
            refine lv_isub hx hb dX0_aheadBy_49 ?_
            obtain ⟨r8, hu9, hf⟩ := bd_s hf
            refine r_goI (r_runS (As := [.ref p0, .int (x1 ||| (jsl (1 : Int32) x5)), .int (x2 - (1 : Int32))]) (rest := [.int (M p0 x5.toNatClampNeg)]) hC hP hS (hrec hu9) cw_X0_131 q_871 q_872 (Rm.E dd) rfl hl.1 rfl (Nat.le_of_ble_eq_true rfl) dX0_aheadBy_50) hS (fun H locs hP hS => ?_)
            refine lv_isub hx hb dX0_aheadBy_53 ?_
            refine lv_topi (fun z11 ez11 => ?_)
            have hf := bs ez11 hf
            refine lv_istore (lv' := [(6, .int z11), (0, .ref p0), (1, .int x1), (2, .int x2), (3, .int x3), (4, .int x4), (5, .int x5)]) hx hb dX0_aheadBy_54 hl (by decide) rfl (fun ls hl => ?_)
            refine lv_iload_n hx hb dX0_aheadBy_56 rfl (lv_at hl 4 rfl) ?_
            refine lv_if_eq (tgt := 67) hx hb dX0_aheadBy_57 (by decide) (fun c12 => ?_) (fun c12 => ?_)
            · have hf := if_t c12 hf
              exact J67 _ ih x1 x2 x5 z11 _ _ _ hf hP hS (lv_sub hl [1, 2, 3, 6, 0] rfl)
            · have hf := if_f c12 hf
              refine lv_iload hx hb dX0_aheadBy_60 (lv_at hl 0 rfl) ?_
              refine lv_iload hx hb dX0_aheadBy_62 (lv_at hl 5 rfl) ?_
              refine lv_icmp_le (tgt := 73) hx hb dX0_aheadBy_64 (by decide) (fun c13 => ?_) (fun c13 => ?_)
              · have hf := if_t c13 hf
                exact J73 _ ih x1 x2 x3 x4 x5 _ _ _ hf hP hS (lv_sub hl [1, 2, 3, 4, 5, 6] rfl)
              · have hf := if_f c13 hf
                exact J67 _ ih x1 x2 x5 z11 _ _ _ hf hP hS (lv_sub hl [1, 2, 3, 6, 0] rfl)
  unfold f_X0_aheadBy_b at hf
  refine lv_iload_n hx hb dX0_aheadBy_0 rfl (lv_at hl 2 rfl) ?_
  refine lv_if_gt (tgt := 6) hx hb dX0_aheadBy_1 (by decide) (fun c1 => ?_) (fun c1 => ?_)
  · have hf := if_t c1 hf
    refine lv_iconst (v := (0 : Int32)) hx hb dX0_aheadBy_6 (by decide) ?_
    refine lv_istore_n (lv' := [(3, .int (0 : Int32)), (0, .ref p0), (1, .int p1), (2, .int p2)]) hx hb dX0_aheadBy_7 rfl hl (by decide) rfl (fun ls hl => ?_)
    refine lv_iconst (v := (0 : Int32)) hx hb dX0_aheadBy_8 (by decide) ?_
    refine lv_istore (lv' := [(4, .int (0 : Int32)), (3, .int (0 : Int32)), (0, .ref p0), (1, .int p1), (2, .int p2)]) hx hb dX0_aheadBy_9 hl (by decide) rfl (fun ls hl => ?_)
    refine lv_iconst (v := (0 : Int32)) hx hb dX0_aheadBy_11 (by decide) ?_
    refine lv_istore (lv' := [(5, .int (0 : Int32)), (4, .int (0 : Int32)), (3, .int (0 : Int32)), (0, .ref p0), (1, .int p1), (2, .int p2)]) hx hb dX0_aheadBy_12 hl (by decide) rfl (fun ls hl => ?_)
    exact L14 _ p1 p2 (0 : Int32) (0 : Int32) (0 : Int32) _ _ _ hf hP hS (lv_sub hl [3, 4, 5, 2, 1, 0] rfl)
  · have hf := if_f c1 hf
    refine lv_iconst (v := (0 : Int32)) hx hb dX0_aheadBy_4 (by decide) ?_
    exact e_I hC hr hlk hP hS dX0_aheadBy_5 hf
theorem k_X0_aheadBy {g : Ev} {l : Launch} (hg : g.2.1.Nodup) {p0 p0n : Nat} (d : Nat) (hp0 : iAt g p0 p0n) {M : Mm} {N : Ml} {p1 p2 v : Int32} (hf : f_X0_aheadBy p0 p0n d p1 p2 M = some v) : KM g l yX0_aheadBy cX0_aheadBy 7 (some .int) d [.ref p0, .int p1, .int p2] M N (QI g v M N) := by
  induction d generalizing p1 p2 v with
  | zero => exact absurd hf (by simp [f_X0_aheadBy])
  | succ d ih =>
    unfold f_X0_aheadBy at hf
    exact k_X0_aheadBy_b hg hp0 d (fun h => ih h) hf
set_option maxRecDepth 100000 in
set_option maxHeartbeats 4000000 in
theorem k_X0_bestMove {g : Ev} {l : Launch} (hg : g.2.1.Nodup) {kd : Nat} {cs : Nat} {r : Nat} (hO : oCourse g kd r cs) {M : Mm} {N : Ml} {p0 : Int32} {p1 : Int32} {v : Int32} {MR : Mm} (hf : f_X0_bestMove cs r p0 p1 M = some (v, MR)) : KM g l yX0_bestMove cX0_bestMove 7 (some .int) 5 [.ref cs, .int p0, .int p1] M N (QI g v MR N) := by
  refine KM.mk hg (by decide) (Nat.le_of_ble_eq_true rfl) ?_
  intro p e s m below meth c ls hC hr hlk hl hP hS
  have hx := hC.1
  have hb := hC.2.1
  have hl : lv_has ls 7 [(0, .ref cs), (1, .int p0), (2, .int p1)] := hl
  have J70 : ∀ (kb8 : Int32 → Int32 → Int32 → Int32 → Int32 → Mm → Option (Int32 × Mm)) (hkb8 : ∀ (x1 : Int32) (x2 : Int32) (x3 : Int32) (x4 : Int32) (x5 : Int32) (M : Mm) (H : Heap) (locs : List Loc) (ls : Array Slot), kb8 x1 x2 x3 x4 x5 M = some (v, MR) → wP g M N H → va_S (wA g) s.heap H locs → lv_has ls 7 [(0, .ref cs), (1, .int x1), (2, .int x2), (3, .int x3), (4, .int x4), (5, .int x5)] → W p l e (rmD 5) s m ([.ref cs, .int p0, .int p1] : List Value).toArray below meth c H locs 0 0 (MQ below (QI g v MR N) ([.ref cs, .int p0, .int p1] : List Value).toArray s 0 0 (wA g)) (F0 m 8 ls [])) (x1 : Int32) (x2 : Int32) (x3 : Int32) (x4 : Int32) (x5 : Int32) (M : Mm) (H : Heap) (locs : List Loc) (ls : Array Slot), f_X0_bestMove_J70 cs r x1 x2 x3 x4 x5 M kb8 = some (v, MR) → wP g M N H → va_S (wA g) s.heap H locs → lv_has ls 7 [(0, .ref cs), (1, .int x1), (2, .int x2), (3, .int x3), (4, .int x4), (5, .int x5)] → W p l e (rmD 5) s m ([.ref cs, .int p0, .int p1] : List Value).toArray below meth c H locs 0 0 (MQ below (QI g v MR N) ([.ref cs, .int p0, .int p1] : List Value).toArray s 0 0 (wA g)) (F0 m 70 ls []) := by
    intro kb8 hkb8 x1 x2 x3 x4 x5 M H locs ls hf hP hS hl
    unfold f_X0_bestMove_J70 at hf
    obtain ⟨z12, ez12, hf⟩ := bsJ hf
    refine lv_iinc (v := z12) (lv' := [(5, .int z12), (0, .ref cs), (1, .int x1), (2, .int x2), (3, .int x3), (4, .int x4)]) hx hb dX0_bestMove_70 hl (k := 5) rfl (by rw [ez12]; rfl) (by decide) rfl (fun ls hl => ?_)
    refine lv_goto (tgt := 8) hx hb dX0_bestMove_73 (by decide) ?_
    exact hkb8 x1 x2 x3 x4 z12 M _ _ _ hf hP hS (lv_sub hl [1, 2, 3, 4, 5, 0] rfl)
  have J63 : ∀ (kb8 : Int32 → Int32 → Int32 → Int32 → Int32 → Mm → Option (Int32 × Mm)) (hkb8 : ∀ (x1 : Int32) (x2 : Int32) (x3 : Int32) (x4 : Int32) (x5 : Int32) (M : Mm) (H : Heap) (locs : List Loc) (ls : Array Slot), kb8 x1 x2 x3 x4 x5 M = some (v, MR) → wP g M N H → va_S (wA g) s.heap H locs → lv_has ls 7 [(0, .ref cs), (1, .int x1), (2, .int x2), (3, .int x3), (4, .int x4), (5, .int x5)] → W p l e (rmD 5) s m ([.ref cs, .int p0, .int p1] : List Value).toArray below meth c H locs 0 0 (MQ below (QI g v MR N) ([.ref cs, .int p0, .int p1] : List Value).toArray s 0 0 (wA g)) (F0 m 8 ls [])) (x1 : Int32) (x2 : Int32) (x5 : Int32) (x6 : Int32) (M : Mm) (H : Heap) (locs : List Loc) (ls : Array Slot), f_X0_bestMove_J63 cs r x1 x2 x5 x6 M kb8 = some (v, MR) → wP g M N H → va_S (wA g) s.heap H locs → lv_has ls 7 [(0, .ref cs), (1, .int x1), (2, .int x2), (5, .int x5), (6, .int x6)] → W p l e (rmD 5) s m ([.ref cs, .int p0, .int p1] : List Value).toArray below meth c H locs 0 0 (MQ below (QI g v MR N) ([.ref cs, .int p0, .int p1] : List Value).toArray s 0 0 (wA g)) (F0 m 63 ls []) := by
    intro kb8 hkb8 x1 x2 x5 x6 M H locs ls hf hP hS hl
    unfold f_X0_bestMove_J63 at hf
    refine lv_iload hx hb dX0_bestMove_63 (lv_at hl 4 rfl) ?_
    refine lv_istore (lv' := [(4, .int x6), (0, .ref cs), (1, .int x1), (2, .int x2), (5, .int x5), (6, .int x6)]) hx hb dX0_bestMove_65 hl (by decide) rfl (fun ls hl => ?_)
    refine lv_iload hx hb dX0_bestMove_67 (lv_at hl 4 rfl) ?_
    refine lv_istore_n (lv' := [(3, .int x5), (4, .int x6), (0, .ref cs), (1, .int x1), (2, .int x2), (5, .int x5), (6, .int x6)]) hx hb dX0_bestMove_69 rfl hl (by decide) rfl (fun ls hl => ?_)
    exact J70 _ hkb8 x1 x2 x5 x6 x5 M _ _ _ hf hP hS (lv_sub hl [2, 3, 4, 0, 1, 5] rfl)
  have L8 : ∀ (n : Nat) (x1 : Int32) (x2 : Int32) (x3 : Int32) (x4 : Int32) (x5 : Int32) (M : Mm) (H : Heap) (locs : List Loc) (ls : Array Slot), f_X0_bestMove_L8 cs r n x1 x2 x3 x4 x5 M = some (v, MR) → wP g M N H → va_S (wA g) s.heap H locs → lv_has ls 7 [(0, .ref cs), (1, .int x1), (2, .int x2), (3, .int x3), (4, .int x4), (5, .int x5)] → W p l e (rmD 5) s m ([.ref cs, .int p0, .int p1] : List Value).toArray below meth c H locs 0 0 (MQ below (QI g v MR N) ([.ref cs, .int p0, .int p1] : List Value).toArray s 0 0 (wA g)) (F0 m 8 ls []) := by
    intro n
    induction n with
    | zero =>
      intro x1 x2 x3 x4 x5 M H locs ls hf
      exact absurd hf (by simp [f_X0_bestMove_L8])
    | succ n ih =>
      intro x1 x2 x3 x4 x5 M H locs ls hf hP hS hl
      unfold f_X0_bestMove_L8 at hf
      refine lv_iload hx hb dX0_bestMove_8 (lv_at hl 5 rfl) ?_
      refine lv_aload_n hx hb dX0_bestMove_10 rfl (lv_at hl 0 rfl) ?_
      refine r_getR hC hP hO.1 fl_X0_9 rfl dX0_bestMove_11 ?_
      refine r_getI hC hP hO.2.1.1 fl_X0_63 rfl dX0_bestMove_14 ?_
      refine lv_icmp_ge (tgt := 76) hx hb dX0_bestMove_17 (by decide) (fun c1 => ?_) (fun c1 => ?_)
      · have hf := if_t c1 hf
        refine lv_iload_n hx hb dX0_bestMove_76 rfl (lv_at hl 3 rfl) ?_
        exact e_IM hC hr hlk hP hS dX0_bestMove_77 hf
      · have hf := if_f c1 hf
        refine lv_aload_n hx hb dX0_bestMove_20 rfl (lv_at hl 0 rfl) ?_
        refine r_getR hC hP hO.1 fl_X0_15 rfl dX0_bestMove_21 ?_
        refine lv_aload_n hx hb dX0_bestMove_24 rfl (lv_at hl 0 rfl) ?_
        refine r_getR hC hP hO.1 fl_X0_9 rfl dX0_bestMove_25 ?_
        obtain ⟨M4, hu3, hf⟩ := bd_s hf
        refine r_goV (r_runV (As := [.ref r]) (rest := []) hC hP hS (k_X5_copy hg hO.2.2.1 hO.2.1 hu3) cw_X0_53 q_706 q_410 q_411 (Rm.D 2 5 rfl) hO.2.2.1.1 rfl rfl hl.1 rfl (Nat.le_of_ble_eq_true rfl) dX0_bestMove_28) hS (fun H locs hP hS => ?_)
        refine lv_aload_n hx hb dX0_bestMove_31 rfl (lv_at hl 0 rfl) ?_
        refine r_getR hC hP hO.1 fl_X0_15 rfl dX0_bestMove_32 ?_
        refine lv_iload_n hx hb dX0_bestMove_35 rfl (lv_at hl 1 rfl) ?_
        refine lv_iload hx hb dX0_bestMove_36 (lv_at hl 5 rfl) ?_
        obtain ⟨M7, hu6, hf⟩ := bd_s hf
        refine r_goV (r_runV (As := [.int x1, .int x5]) (rest := []) hC hP hS (k_X5_moveMoon hg hO.2.2.1 hu6) cw_X0_67 q_767 q_489 q_490 (Rm.D 1 5 rfl) hO.2.2.1.1 rfl rfl hl.1 rfl (Nat.le_of_ble_eq_true rfl) dX0_bestMove_38) hS (fun H locs hP hS => ?_)
        refine lv_aload_n hx hb dX0_bestMove_41 rfl (lv_at hl 0 rfl) ?_
        refine r_getR hC hP hO.1 fl_X0_15 rfl dX0_bestMove_42 ?_
        refine lv_iload_n hx hb dX0_bestMove_45 rfl (lv_at hl 2 rfl) ?_
        obtain ⟨r8, M10, hu9, hf⟩ := bd2_s hf
        refine r_goI (r_runV (As := [.int x2]) (rest := []) hC hP hS (k_X5_goOnBy hg hO.2.2.1 hu9) cw_X0_59 q_707 q_708 q_709 (Rm.D 4 5 rfl) hO.2.2.1.1 rfl rfl hl.1 rfl (Nat.le_of_ble_eq_true rfl) dX0_bestMove_46) hS (fun H locs hP hS => ?_)
        refine lv_istore (lv' := [(6, .int r8), (0, .ref cs), (1, .int x1), (2, .int x2), (3, .int x3), (4, .int x4), (5, .int x5)]) hx hb dX0_bestMove_49 hl (by decide) rfl (fun ls hl => ?_)
        refine lv_iload hx hb dX0_bestMove_51 (lv_at hl 6 rfl) ?_
        refine lv_if_eq (tgt := 63) hx hb dX0_bestMove_53 (by decide) (fun c11 => ?_) (fun c11 => ?_)
        · have hf := if_t c11 hf
          exact J63 _ ih x1 x2 x5 r8 M10 _ _ _ hf hP hS (lv_sub hl [1, 2, 3, 6, 0] rfl)
        · have hf := if_f c11 hf
          refine lv_iload hx hb dX0_bestMove_56 (lv_at hl 0 rfl) ?_
          refine lv_iload hx hb dX0_bestMove_58 (lv_at hl 5 rfl) ?_
          refine lv_icmp_ge (tgt := 70) hx hb dX0_bestMove_60 (by decide) (fun c13 => ?_) (fun c13 => ?_)
          · have hf := if_t c13 hf
            exact J70 _ ih x1 x2 x3 x4 x5 M10 _ _ _ hf hP hS (lv_sub hl [1, 2, 3, 4, 5, 6] rfl)
          · have hf := if_f c13 hf
            exact J63 _ ih x1 x2 x5 r8 M10 _ _ _ hf hP hS (lv_sub hl [1, 2, 3, 6, 0] rfl)
  unfold f_X0_bestMove at hf
  refine lv_iconst (v := (0 : Int32)) hx hb dX0_bestMove_0 (by decide) ?_
  refine lv_istore_n (lv' := [(3, .int (0 : Int32)), (0, .ref cs), (1, .int p0), (2, .int p1)]) hx hb dX0_bestMove_1 rfl hl (by decide) rfl (fun ls hl => ?_)
  refine lv_iconst (v := (0 : Int32)) hx hb dX0_bestMove_2 (by decide) ?_
  refine lv_istore (lv' := [(4, .int (0 : Int32)), (3, .int (0 : Int32)), (0, .ref cs), (1, .int p0), (2, .int p1)]) hx hb dX0_bestMove_3 hl (by decide) rfl (fun ls hl => ?_)
  refine lv_iconst (v := (0 : Int32)) hx hb dX0_bestMove_5 (by decide) ?_
  refine lv_istore (lv' := [(5, .int (0 : Int32)), (4, .int (0 : Int32)), (3, .int (0 : Int32)), (0, .ref cs), (1, .int p0), (2, .int p1)]) hx hb dX0_bestMove_6 hl (by decide) rfl (fun ls hl => ?_)
  exact L8 _ p0 p1 (0 : Int32) (0 : Int32) (0 : Int32) M _ _ _ hf hP hS (lv_sub hl [3, 4, 5, 2, 1, 0] rfl)
