set_option maxRecDepth 100000 in
set_option maxHeartbeats 4000000 in
theorem k_X12_part {g : Ev} {l : Launch} (hg : g.2.1.Nodup) {y : Nat} (hO : oModel g y) {M : Mm} {N : Ml} {p0 : Int32} {v : Int64} {MR : Mm} (hf : f_X12_part y p0 M N = some (v, MR)) : KM g l yX12_part cX12_part 2 (some .long) 1 [.ref y, .int p0] M N (QL g v MR N) := by
  refine KM.mk hg (by decide) (Nat.le_of_ble_eq_true rfl) ?_
  intro p e s m below meth c ls hC hr hlk hl hP hS
  have hx := hC.1
  have hb := hC.2.1
  have hl : lv_has ls 2 [(0, .ref y), (1, .int p0)] := hl
  unfold f_X12_part at hf
  refine lv_iload_n hx hb dX12_part_0 rfl (lv_at hl 1 rfl) ?_
  refine lv_if_ne (tgt := 11) hx hb dX12_part_1 (by decide) (fun c1 => ?_) (fun c1 => ?_)
  · have hf := if_f c1 hf
    refine lv_iload_n hx hb dX12_part_11 rfl (lv_at hl 1 rfl) ?_
    refine lv_iconst (v := (1 : Int32)) hx hb dX12_part_12 (by decide) ?_
    refine lv_icmp_ne (tgt := 23) hx hb dX12_part_13 (by decide) (fun c2 => ?_) (fun c2 => ?_)
    · have hf := if_f c2 hf
      refine lv_aload_n hx hb dX12_part_23 rfl (lv_at hl 0 rfl) ?_
      refine lv_ldc (v := (-100000 : Int32)) hx hb hC.2.2.2.1 (hC.2.2.2.2.1 _ q_884) dX12_part_24 ?_
      obtain ⟨r3, M5, hu4, hf⟩ := bd2_s hf
      refine r_goI (r_runV (As := [.int (-100000 : Int32)]) (rest := []) hC hP hS (k_X12_bad hg hO hu4) cw_X12_73 q_196 q_197 q_198 (Rm.D 0 1 rfl) hO.1 rfl rfl hl.1 rfl (Nat.le_of_ble_eq_true rfl) dX12_part_26) hS (fun H locs hP hS => ?_)
      refine lv_i2l hx hb dX12_part_29 rfl ?_
      exact e_LM hC hr hlk hP hS dX12_part_30 hf
    · have hf := if_t c2 hf
      refine lv_aload_n hx hb dX12_part_16 rfl (lv_at hl 0 rfl) ?_
      refine r_getL hC hP hO.1 fl_X12_23 rfl dX12_part_17 ?_
      refine lv_goto (tgt := 30) hx hb dX12_part_20 (by decide) ?_
      exact e_LM hC hr hlk hP hS dX12_part_30 hf
  · have hf := if_t c1 hf
    refine lv_aload_n hx hb dX12_part_4 rfl (lv_at hl 0 rfl) ?_
    refine r_getL hC hP hO.1 fl_X12_209 rfl dX12_part_5 ?_
    refine lv_goto (tgt := 30) hx hb dX12_part_8 (by decide) ?_
    exact e_LM hC hr hlk hP hS dX12_part_30 hf
set_option maxRecDepth 100000 in
set_option maxHeartbeats 4000000 in
theorem k_X12_pushes {g : Ev} {l : Launch} (hg : g.2.1.Nodup) {y : Nat} (hO : oModel g y) {M : Mm} {N : Ml} {p0 : Int32} {v : Int32} {MR : Mm} (hf : f_X12_pushes y p0 M = some (v, MR)) : KM g l yX12_pushes cX12_pushes 9 (some .int) 4 [.ref y, .int p0] M N (QI g v MR N) := by
  refine KM.mk hg (by decide) (Nat.le_of_ble_eq_true rfl) ?_
  intro p e s m below meth c ls hC hr hlk hl hP hS
  have hx := hC.1
  have hb := hC.2.1
  have hl : lv_has ls 9 [(0, .ref y), (1, .int p0)] := hl
  have J270 : ∀ (kb216 : Int32 → Int32 → Mm → Option (Int32 × Mm)) (hkb216 : ∀ (x2 : Int32) (x3 : Int32) (M : Mm) (H : Heap) (locs : List Loc) (ls : Array Slot), kb216 x2 x3 M = some (v, MR) → wP g M N H → va_S (wA g) s.heap H locs → lv_has ls 9 [(0, .ref y), (2, .int x2), (3, .int x3)] → W p l e (rmD 4) s m ([.ref y, .int p0] : List Value).toArray below meth c H locs 0 0 (MQ below (QI g v MR N) ([.ref y, .int p0] : List Value).toArray s 0 0 (wA g)) (F0 m 216 ls [])) (x3 : Int32) (s0 : Int32) (s1 : Int32) (M : Mm) (H : Heap) (locs : List Loc) (ls : Array Slot), f_X12_pushes_J270 y x3 s0 s1 M kb216 = some (v, MR) → wP g M N H → va_S (wA g) s.heap H locs → lv_has ls 9 [(0, .ref y), (3, .int x3)] → W p l e (rmD 4) s m ([.ref y, .int p0] : List Value).toArray below meth c H locs 0 0 (MQ below (QI g v MR N) ([.ref y, .int p0] : List Value).toArray s 0 0 (wA g)) (F0 m 270 ls [.int s1, .int s0]) := by
    intro kb216 hkb216 x3 s0 s1 M H locs ls hf hP hS hl
    unfold f_X12_pushes_J270 at hf
    refine lv_iadd hx hb dX12_pushes_270 ?_
    refine lv_topi (fun z17 ez17 => ?_)
    have hf := bs ez17 hf
    refine lv_istore_n (lv' := [(2, .int z17), (0, .ref y), (3, .int x3)]) hx hb dX12_pushes_271 rfl hl (by decide) rfl (fun ls hl => ?_)
    obtain ⟨z18, ez18, hf⟩ := bsJ hf
    refine lv_iinc (v := z18) (lv' := [(3, .int z18), (2, .int z17), (0, .ref y)]) hx hb dX12_pushes_272 hl (k := 2) rfl (by rw [ez18]; rfl) (by decide) rfl (fun ls hl => ?_)
    refine lv_goto (tgt := 216) hx hb dX12_pushes_275 (by decide) ?_
    exact hkb216 z17 z18 M _ _ _ hf hP hS (lv_sub hl [2, 1, 0] rfl)
  have J251 : ∀ (kb216 : Int32 → Int32 → Mm → Option (Int32 × Mm)) (hkb216 : ∀ (x2 : Int32) (x3 : Int32) (M : Mm) (H : Heap) (locs : List Loc) (ls : Array Slot), kb216 x2 x3 M = some (v, MR) → wP g M N H → va_S (wA g) s.heap H locs → lv_has ls 9 [(0, .ref y), (2, .int x2), (3, .int x3)] → W p l e (rmD 4) s m ([.ref y, .int p0] : List Value).toArray below meth c H locs 0 0 (MQ below (QI g v MR N) ([.ref y, .int p0] : List Value).toArray s 0 0 (wA g)) (F0 m 216 ls [])) (x2 : Int32) (x3 : Int32) (x4 : Int32) (M : Mm) (H : Heap) (locs : List Loc) (ls : Array Slot), f_X12_pushes_J251 y x2 x3 x4 M kb216 = some (v, MR) → wP g M N H → va_S (wA g) s.heap H locs → lv_has ls 9 [(0, .ref y), (2, .int x2), (3, .int x3), (4, .int x4)] → W p l e (rmD 4) s m ([.ref y, .int p0] : List Value).toArray below meth c H locs 0 0 (MQ below (QI g v MR N) ([.ref y, .int p0] : List Value).toArray s 0 0 (wA g)) (F0 m 251 ls []) := by
    intro kb216 hkb216 x2 x3 x4 M H locs ls hf hP hS hl
    unfold f_X12_pushes_J251 at hf
    refine lv_iload_n hx hb dX12_pushes_251 rfl (lv_at hl 1 rfl) ?_
    refine lv_iload hx hb dX12_pushes_252 (lv_at hl 3 rfl) ?_
    refine lv_if_le (tgt := 269) hx hb dX12_pushes_254 (by decide) (fun c16 => ?_) (fun c16 => ?_)
    · have hf := if_t c16 hf
      refine lv_iconst (v := (0 : Int32)) hx hb dX12_pushes_269 (by decide) ?_
      exact J270 _ hkb216 x3 x2 (0 : Int32) M _ _ _ hf hP hS (lv_sub hl [0, 2] rfl)
    · have hf := if_f c16 hf
      refine lv_iload hx hb dX12_pushes_257 (lv_at hl 3 rfl) ?_
      refine lv_aload_n hx hb dX12_pushes_259 rfl (lv_at hl 0 rfl) ?_
      refine r_getR hC hP hO.1 fl_X12_36 rfl dX12_pushes_260 ?_
      refine lv_iload_n hx hb dX12_pushes_263 rfl (lv_at hl 2 rfl) ?_
      obtain ⟨hb19, hf⟩ := ck_s hf
      refine r_iald hC hP hO.2.2.2.2.2.2.2.2.1 hb19 dX12_pushes_264 ?_
      refine lv_imul hx hb dX12_pushes_265 ?_
      refine lv_goto (tgt := 270) hx hb dX12_pushes_266 (by decide) ?_
      exact J270 _ hkb216 x3 x2 (x4 * (M (y + 8) x3.toNatClampNeg)) M _ _ _ hf hP hS (lv_sub hl [0, 2] rfl)
  have L216 : ∀ (n : Nat) (x2 : Int32) (x3 : Int32) (M : Mm) (H : Heap) (locs : List Loc) (ls : Array Slot), f_X12_pushes_L216 y n x2 x3 M = some (v, MR) → wP g M N H → va_S (wA g) s.heap H locs → lv_has ls 9 [(0, .ref y), (2, .int x2), (3, .int x3)] → W p l e (rmD 4) s m ([.ref y, .int p0] : List Value).toArray below meth c H locs 0 0 (MQ below (QI g v MR N) ([.ref y, .int p0] : List Value).toArray s 0 0 (wA g)) (F0 m 216 ls []) := by
    intro n
    induction n with
    | zero =>
      intro x2 x3 M H locs ls hf
      exact absurd hf (by simp [f_X12_pushes_L216])
    | succ n ih =>
      intro x2 x3 M H locs ls hf hP hS hl
      unfold f_X12_pushes_L216 at hf
      refine lv_iload_n hx hb dX12_pushes_216 rfl (lv_at hl 2 rfl) ?_
      refine lv_bipush (v := (120 : Int32)) hx hb dX12_pushes_217 (by decide) ?_
      refine lv_icmp_ge (tgt := 278) hx hb dX12_pushes_219 (by decide) (fun c12 => ?_) (fun c12 => ?_)
      · have hf := if_t c12 hf
        refine lv_iload_n hx hb dX12_pushes_278 rfl (lv_at hl 1 rfl) ?_
        exact e_IM hC hr hlk hP hS dX12_pushes_279 hf
      · have hf := if_f c12 hf
        refine lv_aload_n hx hb dX12_pushes_222 rfl (lv_at hl 0 rfl) ?_
        refine r_getR hC hP hO.1 fl_X12_7 rfl dX12_pushes_223 ?_
        refine lv_bipush (v := (6 : Int32)) hx hb dX12_pushes_226 (by decide) ?_
        refine lv_iload_n hx hb dX12_pushes_228 rfl (lv_at hl 2 rfl) ?_
        refine lv_iadd hx hb dX12_pushes_229 ?_
        obtain ⟨hb13, hf⟩ := ck_s hf
        refine r_iald hC hP hO.2.1 hb13 dX12_pushes_230 ?_
        refine lv_topi (fun z14 ez14 => ?_)
        have hf := bs ez14 hf
        refine lv_istore (lv' := [(4, .int z14), (0, .ref y), (2, .int x2), (3, .int x3)]) hx hb dX12_pushes_231 hl (by decide) rfl (fun ls hl => ?_)
        refine lv_iload hx hb dX12_pushes_233 (lv_at hl 0 rfl) ?_
        refine lv_if_le (tgt := 251) hx hb dX12_pushes_235 (by decide) (fun c15 => ?_) (fun c15 => ?_)
        · have hf := if_t c15 hf
          exact J251 _ ih x2 x3 z14 M _ _ _ hf hP hS (lv_sub hl [1, 2, 3, 0] rfl)
        · have hf := if_f c15 hf
          refine lv_aload_n hx hb dX12_pushes_238 rfl (lv_at hl 1 rfl) ?_
          refine r_getR hC hP hO.1 fl_X12_36 rfl dX12_pushes_239 ?_
          refine lv_iload_n hx hb dX12_pushes_242 rfl (lv_at hl 3 rfl) ?_
          obtain ⟨hb20, hf⟩ := ck_s hf
          refine r_iald hC hP hO.2.2.2.2.2.2.2.2.1 hb20 dX12_pushes_243 ?_
          refine lv_ldc (v := (100000000 : Int32)) hx hb hC.2.2.2.1 (hC.2.2.2.2.1 _ q_754) dX12_pushes_244 ?_
          refine lv_icmp_lt (tgt := 251) hx hb dX12_pushes_246 (by decide) (fun c21 => ?_) (fun c21 => ?_)
          · have hf := if_t c21 hf
            exact J251 _ ih x2 x3 z14 M _ _ _ hf hP hS (lv_sub hl [1, 2, 3, 0] rfl)
          · have hf := if_f c21 hf
            refine lv_iconst (v := (-1 : Int32)) hx hb dX12_pushes_249 (by decide) ?_
            exact e_IM hC hr hlk hP hS dX12_pushes_250 hf
  have J187 : ∀ (kb57 : Int32 → Mm → Option (Int32 × Mm)) (hkb57 : ∀ (x2 : Int32) (M : Mm) (H : Heap) (locs : List Loc) (ls : Array Slot), kb57 x2 M = some (v, MR) → wP g M N H → va_S (wA g) s.heap H locs → lv_has ls 9 [(0, .ref y), (2, .int x2)] → W p l e (rmD 4) s m ([.ref y, .int p0] : List Value).toArray below meth c H locs 0 0 (MQ below (QI g v MR N) ([.ref y, .int p0] : List Value).toArray s 0 0 (wA g)) (F0 m 57 ls [])) (kb63 : Int32 → Int32 → Mm → Option (Int32 × Mm)) (hkb63 : ∀ (x2 : Int32) (x3 : Int32) (M : Mm) (H : Heap) (locs : List Loc) (ls : Array Slot), kb63 x2 x3 M = some (v, MR) → wP g M N H → va_S (wA g) s.heap H locs → lv_has ls 9 [(0, .ref y), (2, .int x2), (3, .int x3)] → W p l e (rmD 4) s m ([.ref y, .int p0] : List Value).toArray below meth c H locs 0 0 (MQ below (QI g v MR N) ([.ref y, .int p0] : List Value).toArray s 0 0 (wA g)) (F0 m 63 ls [])) (x2 : Int32) (x3 : Int32) (x4 : Int32) (M : Mm) (H : Heap) (locs : List Loc) (ls : Array Slot), f_X12_pushes_J187 y x2 x3 x4 M kb57 kb63 = some (v, MR) → wP g M N H → va_S (wA g) s.heap H locs → lv_has ls 9 [(0, .ref y), (2, .int x2), (3, .int x3), (4, .int x4)] → W p l e (rmD 4) s m ([.ref y, .int p0] : List Value).toArray below meth c H locs 0 0 (MQ below (QI g v MR N) ([.ref y, .int p0] : List Value).toArray s 0 0 (wA g)) (F0 m 187 ls []) := by
    intro kb57 hkb57 kb63 hkb63 x2 x3 x4 M H locs ls hf hP hS hl
    unfold f_X12_pushes_J187 at hf
    refine lv_aload_n hx hb dX12_pushes_187 rfl (lv_at hl 0 rfl) ?_
    refine r_getR hC hP hO.1 fl_X12_36 rfl dX12_pushes_188 ?_
    refine lv_bipush (v := (120 : Int32)) hx hb dX12_pushes_191 (by decide) ?_
    refine lv_iload_n hx hb dX12_pushes_193 rfl (lv_at hl 1 rfl) ?_
    refine lv_imul hx hb dX12_pushes_194 ?_
    refine lv_iload_n hx hb dX12_pushes_195 rfl (lv_at hl 2 rfl) ?_
    refine lv_iadd hx hb dX12_pushes_196 ?_
    refine lv_iload hx hb dX12_pushes_197 (lv_at hl 3 rfl) ?_
    obtain ⟨hb25, hf⟩ := ck_s hf
    refine r_iast hC hP hS hO.2.2.2.2.2.2.2.2.1 hb25 dX12_pushes_199 (fun H locs hP hS => ?_)
    obtain ⟨M26, eM26, hf, hP⟩ := bsM hf hP
    obtain ⟨z27, ez27, hf⟩ := bsJ hf
    refine lv_iinc (v := z27) (lv' := [(3, .int z27), (0, .ref y), (2, .int x2), (4, .int x4)]) hx hb dX12_pushes_200 hl (k := 2) rfl (by rw [ez27]; rfl) (by decide) rfl (fun ls hl => ?_)
    refine lv_goto (tgt := 63) hx hb dX12_pushes_203 (by decide) ?_
    exact hkb63 x2 z27 M26 _ _ _ hf hP hS (lv_sub hl [1, 2, 0] rfl)
  have J179 : ∀ (kb57 : Int32 → Mm → Option (Int32 × Mm)) (hkb57 : ∀ (x2 : Int32) (M : Mm) (H : Heap) (locs : List Loc) (ls : Array Slot), kb57 x2 M = some (v, MR) → wP g M N H → va_S (wA g) s.heap H locs → lv_has ls 9 [(0, .ref y), (2, .int x2)] → W p l e (rmD 4) s m ([.ref y, .int p0] : List Value).toArray below meth c H locs 0 0 (MQ below (QI g v MR N) ([.ref y, .int p0] : List Value).toArray s 0 0 (wA g)) (F0 m 57 ls [])) (kb63 : Int32 → Int32 → Mm → Option (Int32 × Mm)) (hkb63 : ∀ (x2 : Int32) (x3 : Int32) (M : Mm) (H : Heap) (locs : List Loc) (ls : Array Slot), kb63 x2 x3 M = some (v, MR) → wP g M N H → va_S (wA g) s.heap H locs → lv_has ls 9 [(0, .ref y), (2, .int x2), (3, .int x3)] → W p l e (rmD 4) s m ([.ref y, .int p0] : List Value).toArray below meth c H locs 0 0 (MQ below (QI g v MR N) ([.ref y, .int p0] : List Value).toArray s 0 0 (wA g)) (F0 m 63 ls [])) (kb76 : Int32 → Int32 → Int32 → Int32 → Mm → Option (Int32 × Mm)) (hkb76 : ∀ (x2 : Int32) (x3 : Int32) (x4 : Int32) (x5 : Int32) (M : Mm) (H : Heap) (locs : List Loc) (ls : Array Slot), kb76 x2 x3 x4 x5 M = some (v, MR) → wP g M N H → va_S (wA g) s.heap H locs → lv_has ls 9 [(0, .ref y), (2, .int x2), (3, .int x3), (4, .int x4), (5, .int x5)] → W p l e (rmD 4) s m ([.ref y, .int p0] : List Value).toArray below meth c H locs 0 0 (MQ below (QI g v MR N) ([.ref y, .int p0] : List Value).toArray s 0 0 (wA g)) (F0 m 76 ls [])) (x2 : Int32) (x3 : Int32) (x5 : Int32) (s0 : Int32) (M : Mm) (H : Heap) (locs : List Loc) (ls : Array Slot), f_X12_pushes_J179 y x2 x3 x5 s0 M kb57 kb63 kb76 = some (v, MR) → wP g M N H → va_S (wA g) s.heap H locs → lv_has ls 9 [(0, .ref y), (2, .int x2), (3, .int x3), (5, .int x5)] → W p l e (rmD 4) s m ([.ref y, .int p0] : List Value).toArray below meth c H locs 0 0 (MQ below (QI g v MR N) ([.ref y, .int p0] : List Value).toArray s 0 0 (wA g)) (F0 m 179 ls [.int s0]) := by
    intro kb57 hkb57 kb63 hkb63 kb76 hkb76 x2 x3 x5 s0 M H locs ls hf hP hS hl
    unfold f_X12_pushes_J179 at hf
    refine lv_istore (lv' := [(4, .int s0), (0, .ref y), (2, .int x2), (3, .int x3), (5, .int x5)]) hx hb dX12_pushes_179 hl (by decide) rfl (fun ls hl => ?_)
    obtain ⟨z43, ez43, hf⟩ := bsJ hf
    refine lv_iinc (v := z43) (lv' := [(5, .int z43), (4, .int s0), (0, .ref y), (2, .int x2), (3, .int x3)]) hx hb dX12_pushes_181 hl (k := 4) rfl (by rw [ez43]; rfl) (by decide) rfl (fun ls hl => ?_)
    refine lv_goto (tgt := 76) hx hb dX12_pushes_184 (by decide) ?_
    exact hkb76 x2 x3 s0 z43 M _ _ _ hf hP hS (lv_sub hl [2, 3, 4, 1, 0] rfl)
  have J163 : ∀ (kb57 : Int32 → Mm → Option (Int32 × Mm)) (hkb57 : ∀ (x2 : Int32) (M : Mm) (H : Heap) (locs : List Loc) (ls : Array Slot), kb57 x2 M = some (v, MR) → wP g M N H → va_S (wA g) s.heap H locs → lv_has ls 9 [(0, .ref y), (2, .int x2)] → W p l e (rmD 4) s m ([.ref y, .int p0] : List Value).toArray below meth c H locs 0 0 (MQ below (QI g v MR N) ([.ref y, .int p0] : List Value).toArray s 0 0 (wA g)) (F0 m 57 ls [])) (kb63 : Int32 → Int32 → Mm → Option (Int32 × Mm)) (hkb63 : ∀ (x2 : Int32) (x3 : Int32) (M : Mm) (H : Heap) (locs : List Loc) (ls : Array Slot), kb63 x2 x3 M = some (v, MR) → wP g M N H → va_S (wA g) s.heap H locs → lv_has ls 9 [(0, .ref y), (2, .int x2), (3, .int x3)] → W p l e (rmD 4) s m ([.ref y, .int p0] : List Value).toArray below meth c H locs 0 0 (MQ below (QI g v MR N) ([.ref y, .int p0] : List Value).toArray s 0 0 (wA g)) (F0 m 63 ls [])) (kb76 : Int32 → Int32 → Int32 → Int32 → Mm → Option (Int32 × Mm)) (hkb76 : ∀ (x2 : Int32) (x3 : Int32) (x4 : Int32) (x5 : Int32) (M : Mm) (H : Heap) (locs : List Loc) (ls : Array Slot), kb76 x2 x3 x4 x5 M = some (v, MR) → wP g M N H → va_S (wA g) s.heap H locs → lv_has ls 9 [(0, .ref y), (2, .int x2), (3, .int x3), (4, .int x4), (5, .int x5)] → W p l e (rmD 4) s m ([.ref y, .int p0] : List Value).toArray below meth c H locs 0 0 (MQ below (QI g v MR N) ([.ref y, .int p0] : List Value).toArray s 0 0 (wA g)) (F0 m 76 ls [])) (x2 : Int32) (x3 : Int32) (x4 : Int32) (x5 : Int32) (s0 : Int32) (M : Mm) (H : Heap) (locs : List Loc) (ls : Array Slot), f_X12_pushes_J163 y x2 x3 x4 x5 s0 M kb57 kb63 kb76 = some (v, MR) → wP g M N H → va_S (wA g) s.heap H locs → lv_has ls 9 [(0, .ref y), (2, .int x2), (3, .int x3), (4, .int x4), (5, .int x5)] → W p l e (rmD 4) s m ([.ref y, .int p0] : List Value).toArray below meth c H locs 0 0 (MQ below (QI g v MR N) ([.ref y, .int p0] : List Value).toArray s 0 0 (wA g)) (F0 m 163 ls [.int s0]) := by
    intro kb57 hkb57 kb63 hkb63 kb76 hkb76 x2 x3 x4 x5 s0 M H locs ls hf hP hS hl
    unfold f_X12_pushes_J163 at hf
    refine lv_istore (lv' := [(8, .int s0), (0, .ref y), (2, .int x2), (3, .int x3), (4, .int x4), (5, .int x5)]) hx hb dX12_pushes_163 hl (by decide) rfl (fun ls hl => ?_)
    refine lv_iload hx hb dX12_pushes_165 (lv_at hl 0 rfl) ?_
    refine lv_iload hx hb dX12_pushes_167 (lv_at hl 4 rfl) ?_
    refine lv_icmp_ge (tgt := 177) hx hb dX12_pushes_169 (by decide) (fun c42 => ?_) (fun c42 => ?_)
    · have hf := if_t c42 hf
      refine lv_iload hx hb dX12_pushes_177 (lv_at hl 4 rfl) ?_
      exact J179 _ hkb57 _ hkb63 _ hkb76 x2 x3 x5 x4 M _ _ _ hf hP hS (lv_sub hl [1, 2, 3, 5] rfl)
    · have hf := if_f c42 hf
      refine lv_iload hx hb dX12_pushes_172 (lv_at hl 0 rfl) ?_
      refine lv_goto (tgt := 179) hx hb dX12_pushes_174 (by decide) ?_
      exact J179 _ hkb57 _ hkb63 _ hkb76 x2 x3 x5 s0 M _ _ _ hf hP hS (lv_sub hl [1, 2, 3, 5] rfl)
  have J162 : ∀ (kb57 : Int32 → Mm → Option (Int32 × Mm)) (hkb57 : ∀ (x2 : Int32) (M : Mm) (H : Heap) (locs : List Loc) (ls : Array Slot), kb57 x2 M = some (v, MR) → wP g M N H → va_S (wA g) s.heap H locs → lv_has ls 9 [(0, .ref y), (2, .int x2)] → W p l e (rmD 4) s m ([.ref y, .int p0] : List Value).toArray below meth c H locs 0 0 (MQ below (QI g v MR N) ([.ref y, .int p0] : List Value).toArray s 0 0 (wA g)) (F0 m 57 ls [])) (kb63 : Int32 → Int32 → Mm → Option (Int32 × Mm)) (hkb63 : ∀ (x2 : Int32) (x3 : Int32) (M : Mm) (H : Heap) (locs : List Loc) (ls : Array Slot), kb63 x2 x3 M = some (v, MR) → wP g M N H → va_S (wA g) s.heap H locs → lv_has ls 9 [(0, .ref y), (2, .int x2), (3, .int x3)] → W p l e (rmD 4) s m ([.ref y, .int p0] : List Value).toArray below meth c H locs 0 0 (MQ below (QI g v MR N) ([.ref y, .int p0] : List Value).toArray s 0 0 (wA g)) (F0 m 63 ls [])) (kb76 : Int32 → Int32 → Int32 → Int32 → Mm → Option (Int32 × Mm)) (hkb76 : ∀ (x2 : Int32) (x3 : Int32) (x4 : Int32) (x5 : Int32) (M : Mm) (H : Heap) (locs : List Loc) (ls : Array Slot), kb76 x2 x3 x4 x5 M = some (v, MR) → wP g M N H → va_S (wA g) s.heap H locs → lv_has ls 9 [(0, .ref y), (2, .int x2), (3, .int x3), (4, .int x4), (5, .int x5)] → W p l e (rmD 4) s m ([.ref y, .int p0] : List Value).toArray below meth c H locs 0 0 (MQ below (QI g v MR N) ([.ref y, .int p0] : List Value).toArray s 0 0 (wA g)) (F0 m 76 ls [])) (x2 : Int32) (x3 : Int32) (x4 : Int32) (x5 : Int32) (s0 : Int32) (s1 : Int32) (M : Mm) (H : Heap) (locs : List Loc) (ls : Array Slot), f_X12_pushes_J162 y x2 x3 x4 x5 s0 s1 M kb57 kb63 kb76 = some (v, MR) → wP g M N H → va_S (wA g) s.heap H locs → lv_has ls 9 [(0, .ref y), (2, .int x2), (3, .int x3), (4, .int x4), (5, .int x5)] → W p l e (rmD 4) s m ([.ref y, .int p0] : List Value).toArray below meth c H locs 0 0 (MQ below (QI g v MR N) ([.ref y, .int p0] : List Value).toArray s 0 0 (wA g)) (F0 m 162 ls [.int s1, .int s0]) := by
    intro kb57 hkb57 kb63 hkb63 kb76 hkb76 x2 x3 x4 x5 s0 s1 M H locs ls hf hP hS hl
    unfold f_X12_pushes_J162 at hf
    refine lv_iadd hx hb dX12_pushes_162 ?_
    exact J163 _ hkb57 _ hkb63 _ hkb76 x2 x3 x4 x5 (s0 + s1) M _ _ _ hf hP hS (lv_sub hl [0, 1, 2, 3, 4] rfl)
  have J125 : ∀ (kb57 : Int32 → Mm → Option (Int32 × Mm)) (hkb57 : ∀ (x2 : Int32) (M : Mm) (H : Heap) (locs : List Loc) (ls : Array Slot), kb57 x2 M = some (v, MR) → wP g M N H → va_S (wA g) s.heap H locs → lv_has ls 9 [(0, .ref y), (2, .int x2)] → W p l e (rmD 4) s m ([.ref y, .int p0] : List Value).toArray below meth c H locs 0 0 (MQ below (QI g v MR N) ([.ref y, .int p0] : List Value).toArray s 0 0 (wA g)) (F0 m 57 ls [])) (kb63 : Int32 → Int32 → Mm → Option (Int32 × Mm)) (hkb63 : ∀ (x2 : Int32) (x3 : Int32) (M : Mm) (H : Heap) (locs : List Loc) (ls : Array Slot), kb63 x2 x3 M = some (v, MR) → wP g M N H → va_S (wA g) s.heap H locs → lv_has ls 9 [(0, .ref y), (2, .int x2), (3, .int x3)] → W p l e (rmD 4) s m ([.ref y, .int p0] : List Value).toArray below meth c H locs 0 0 (MQ below (QI g v MR N) ([.ref y, .int p0] : List Value).toArray s 0 0 (wA g)) (F0 m 63 ls [])) (kb76 : Int32 → Int32 → Int32 → Int32 → Mm → Option (Int32 × Mm)) (hkb76 : ∀ (x2 : Int32) (x3 : Int32) (x4 : Int32) (x5 : Int32) (M : Mm) (H : Heap) (locs : List Loc) (ls : Array Slot), kb76 x2 x3 x4 x5 M = some (v, MR) → wP g M N H → va_S (wA g) s.heap H locs → lv_has ls 9 [(0, .ref y), (2, .int x2), (3, .int x3), (4, .int x4), (5, .int x5)] → W p l e (rmD 4) s m ([.ref y, .int p0] : List Value).toArray below meth c H locs 0 0 (MQ below (QI g v MR N) ([.ref y, .int p0] : List Value).toArray s 0 0 (wA g)) (F0 m 76 ls [])) (x2 : Int32) (x3 : Int32) (x4 : Int32) (x5 : Int32) (s0 : Int32) (M : Mm) (H : Heap) (locs : List Loc) (ls : Array Slot), f_X12_pushes_J125 y x2 x3 x4 x5 s0 M kb57 kb63 kb76 = some (v, MR) → wP g M N H → va_S (wA g) s.heap H locs → lv_has ls 9 [(0, .ref y), (2, .int x2), (3, .int x3), (4, .int x4), (5, .int x5)] → W p l e (rmD 4) s m ([.ref y, .int p0] : List Value).toArray below meth c H locs 0 0 (MQ below (QI g v MR N) ([.ref y, .int p0] : List Value).toArray s 0 0 (wA g)) (F0 m 125 ls [.int s0]) := by
    intro kb57 hkb57 kb63 hkb63 kb76 hkb76 x2 x3 x4 x5 s0 M H locs ls hf hP hS hl
    unfold f_X12_pushes_J125 at hf
    refine lv_istore (lv' := [(7, .int s0), (0, .ref y), (2, .int x2), (3, .int x3), (4, .int x4), (5, .int x5)]) hx hb dX12_pushes_125 hl (by decide) rfl (fun ls hl => ?_)
    refine lv_iload hx hb dX12_pushes_127 (lv_at hl 0 rfl) ?_
    refine lv_iconst (v := (-1 : Int32)) hx hb dX12_pushes_129 (by decide) ?_
    refine lv_icmp_ne (tgt := 138) hx hb dX12_pushes_130 (by decide) (fun c39 => ?_) (fun c39 => ?_)
    · have hf := if_f c39 hf
      refine lv_aload_n hx hb dX12_pushes_138 rfl (lv_at hl 1 rfl) ?_
      refine r_getR hC hP hO.1 fl_X12_36 rfl dX12_pushes_139 ?_
      refine lv_bipush (v := (120 : Int32)) hx hb dX12_pushes_142 (by decide) ?_
      refine lv_iload_n hx hb dX12_pushes_144 rfl (lv_at hl 2 rfl) ?_
      refine lv_iconst (v := (1 : Int32)) hx hb dX12_pushes_145 (by decide) ?_
      refine lv_iadd hx hb dX12_pushes_146 ?_
      refine lv_imul hx hb dX12_pushes_147 ?_
      refine lv_iload hx hb dX12_pushes_148 (lv_at hl 0 rfl) ?_
      refine lv_iadd hx hb dX12_pushes_150 ?_
      obtain ⟨hb40, hf⟩ := ck_s hf
      refine r_iald hC hP hO.2.2.2.2.2.2.2.2.1 hb40 dX12_pushes_151 ?_
      refine lv_iload hx hb dX12_pushes_152 (lv_at hl 5 rfl) ?_
      refine lv_if_ne (tgt := 161) hx hb dX12_pushes_154 (by decide) (fun c41 => ?_) (fun c41 => ?_)
      · have hf := if_f c41 hf
        refine lv_iconst (v := (1 : Int32)) hx hb dX12_pushes_161 (by decide) ?_
        exact J162 _ hkb57 _ hkb63 _ hkb76 x2 x3 x4 x5 (M (y + 8) (((120 : Int32) * (x2 + (1 : Int32))) + s0).toNatClampNeg) (1 : Int32) M _ _ _ hf hP hS (lv_sub hl [1, 2, 3, 4, 5] rfl)
      · have hf := if_t c41 hf
        refine lv_iconst (v := (0 : Int32)) hx hb dX12_pushes_157 (by decide) ?_
        refine lv_goto (tgt := 162) hx hb dX12_pushes_158 (by decide) ?_
        exact J162 _ hkb57 _ hkb63 _ hkb76 x2 x3 x4 x5 (M (y + 8) (((120 : Int32) * (x2 + (1 : Int32))) + s0).toNatClampNeg) (0 : Int32) M _ _ _ hf hP hS (lv_sub hl [1, 2, 3, 4, 5] rfl)
    · have hf := if_t c39 hf
      refine lv_ldc (v := (100000000 : Int32)) hx hb hC.2.2.2.1 (hC.2.2.2.2.1 _ q_754) dX12_pushes_133 ?_
      refine lv_goto (tgt := 163) hx hb dX12_pushes_135 (by decide) ?_
      exact J163 _ hkb57 _ hkb63 _ hkb76 x2 x3 x4 x5 (100000000 : Int32) M _ _ _ hf hP hS (lv_sub hl [1, 2, 3, 4, 5] rfl)
  have L76 : ∀ (kb57 : Int32 → Mm → Option (Int32 × Mm)) (hkb57 : ∀ (x2 : Int32) (M : Mm) (H : Heap) (locs : List Loc) (ls : Array Slot), kb57 x2 M = some (v, MR) → wP g M N H → va_S (wA g) s.heap H locs → lv_has ls 9 [(0, .ref y), (2, .int x2)] → W p l e (rmD 4) s m ([.ref y, .int p0] : List Value).toArray below meth c H locs 0 0 (MQ below (QI g v MR N) ([.ref y, .int p0] : List Value).toArray s 0 0 (wA g)) (F0 m 57 ls [])) (kb63 : Int32 → Int32 → Mm → Option (Int32 × Mm)) (hkb63 : ∀ (x2 : Int32) (x3 : Int32) (M : Mm) (H : Heap) (locs : List Loc) (ls : Array Slot), kb63 x2 x3 M = some (v, MR) → wP g M N H → va_S (wA g) s.heap H locs → lv_has ls 9 [(0, .ref y), (2, .int x2), (3, .int x3)] → W p l e (rmD 4) s m ([.ref y, .int p0] : List Value).toArray below meth c H locs 0 0 (MQ below (QI g v MR N) ([.ref y, .int p0] : List Value).toArray s 0 0 (wA g)) (F0 m 63 ls [])) (n : Nat) (x2 : Int32) (x3 : Int32) (x4 : Int32) (x5 : Int32) (M : Mm) (H : Heap) (locs : List Loc) (ls : Array Slot), f_X12_pushes_L76 y kb57 kb63 n x2 x3 x4 x5 M = some (v, MR) → wP g M N H → va_S (wA g) s.heap H locs → lv_has ls 9 [(0, .ref y), (2, .int x2), (3, .int x3), (4, .int x4), (5, .int x5)] → W p l e (rmD 4) s m ([.ref y, .int p0] : List Value).toArray below meth c H locs 0 0 (MQ below (QI g v MR N) ([.ref y, .int p0] : List Value).toArray s 0 0 (wA g)) (F0 m 76 ls []) := by
    intro kb57 hkb57 kb63 hkb63
    intro n
    induction n with
    | zero =>
      intro x2 x3 x4 x5 M H locs ls hf
      exact absurd hf (by simp [f_X12_pushes_L76])
    | succ n ih =>
      intro x2 x3 x4 x5 M H locs ls hf hP hS hl
      unfold f_X12_pushes_L76 at hf
      refine lv_iload hx hb dX12_pushes_76 (lv_at hl 4 rfl) ?_
      refine lv_iconst (v := (2 : Int32)) hx hb dX12_pushes_78 (by decide) ?_
      refine lv_icmp_ge (tgt := 187) hx hb dX12_pushes_79 (by decide) (fun c24 => ?_) (fun c24 => ?_)
      · have hf := if_t c24 hf
        exact J187 _ hkb57 _ hkb63 x2 x3 x4 M _ _ _ hf hP hS (lv_sub hl [0, 1, 2, 3] rfl)
      · have hf := if_f c24 hf
        refine lv_iload_n hx hb dX12_pushes_82 rfl (lv_at hl 2 rfl) ?_
        refine lv_bipush (v := (24 : Int32)) hx hb dX12_pushes_83 (by decide) ?_
        obtain ⟨hz28, hf⟩ := cz_s hf
        refine lv_irem hx hb dX12_pushes_85 hz28 ?_
        refine lv_aload_n hx hb dX12_pushes_86 rfl (lv_at hl 0 rfl) ?_
        obtain ⟨r29, hu30, hf⟩ := bd_s hf
        refine r_goI (r_runV (As := []) (rest := [.int (jr x3 (24 : Int32))]) hC hP hS (k_X12_places hg hO hu30) cw_X12_64 q_200 q_201 q_202 (Rm.D 0 4 rfl) hO.1 rfl rfl hl.1 rfl (Nat.le_of_ble_eq_true rfl) dX12_pushes_87) hS (fun H locs hP hS => ?_)
        refine lv_icmp_ge (tgt := 187) hx hb dX12_pushes_90 (by decide) (fun c32 => ?_) (fun c32 => ?_)
        · have hf := if_t c32 hf
          exact J187 _ hkb57 _ hkb63 x2 x3 x4 M _ _ _ hf hP hS (lv_sub hl [0, 1, 2, 3] rfl)
        · have hf := if_f c32 hf
          refine lv_iload_n hx hb dX12_pushes_93 rfl (lv_at hl 2 rfl) ?_
          refine lv_bipush (v := (24 : Int32)) hx hb dX12_pushes_94 (by decide) ?_
          obtain ⟨hz33, hf⟩ := cz_s hf
          refine lv_idiv hx hb dX12_pushes_96 hz33 ?_
          refine lv_iload hx hb dX12_pushes_97 (lv_at hl 4 rfl) ?_
          refine lv_iadd hx hb dX12_pushes_99 ?_
          refine lv_topi (fun z34 ez34 => ?_)
          have hf := bs ez34 hf
          refine lv_istore (lv' := [(6, .int z34), (0, .ref y), (2, .int x2), (3, .int x3), (4, .int x4), (5, .int x5)]) hx hb dX12_pushes_100 hl (by decide) rfl (fun ls hl => ?_)
          refine lv_iload hx hb dX12_pushes_102 (lv_at hl 0 rfl) ?_
          obtain ⟨r35, hu36, hf⟩ := bd_s hf
          refine r_goI (r_runS (As := [.int z34]) (rest := []) hC hP hS (k_X12_isLane hg hu36) cw_X12_77 q_217 q_218 (Rm.D 1 4 rfl) rfl hl.1 rfl (Nat.le_of_ble_eq_true rfl) dX12_pushes_104) hS (fun H locs hP hS => ?_)
          refine lv_if_eq (tgt := 124) hx hb dX12_pushes_107 (by decide) (fun c38 => ?_) (fun c38 => ?_)
          · have hf := if_t c38 hf
            refine lv_iconst (v := (-1 : Int32)) hx hb dX12_pushes_124 (by decide) ?_
            exact J125 _ hkb57 _ hkb63 _ ih x2 x3 x4 x5 (-1 : Int32) M _ _ _ hf hP hS (lv_sub hl [1, 2, 3, 4, 5] rfl)
          · have hf := if_f c38 hf
            refine lv_aload_n hx hb dX12_pushes_110 rfl (lv_at hl 1 rfl) ?_
            refine lv_iload_n hx hb dX12_pushes_111 rfl (lv_at hl 2 rfl) ?_
            refine lv_iload hx hb dX12_pushes_112 (lv_at hl 0 rfl) ?_
            refine lv_iload_n hx hb dX12_pushes_114 rfl (lv_at hl 3 rfl) ?_
            refine lv_bipush (v := (24 : Int32)) hx hb dX12_pushes_115 (by decide) ?_
            obtain ⟨hz44, hf⟩ := cz_s hf
            refine lv_irem hx hb dX12_pushes_117 hz44 ?_
            obtain ⟨r45, M47, hu46, hf⟩ := bd2_s hf
            refine r_goI (r_runV (As := [.int x2, .int z34, .int (jr x3 (24 : Int32))]) (rest := []) hC hP hS (k_X12_behind hg hO hu46) cw_X12_178 q_755 q_756 q_757 (Rm.D 3 4 rfl) hO.1 rfl rfl hl.1 rfl (Nat.le_of_ble_eq_true rfl) dX12_pushes_118) hS (fun H locs hP hS => ?_)
            refine lv_goto (tgt := 125) hx hb dX12_pushes_121 (by decide) ?_
            exact J125 _ hkb57 _ hkb63 _ ih x2 x3 x4 x5 r45 M47 _ _ _ hf hP hS (lv_sub hl [1, 2, 3, 4, 5] rfl)
  have L63 : ∀ (kb57 : Int32 → Mm → Option (Int32 × Mm)) (hkb57 : ∀ (x2 : Int32) (M : Mm) (H : Heap) (locs : List Loc) (ls : Array Slot), kb57 x2 M = some (v, MR) → wP g M N H → va_S (wA g) s.heap H locs → lv_has ls 9 [(0, .ref y), (2, .int x2)] → W p l e (rmD 4) s m ([.ref y, .int p0] : List Value).toArray below meth c H locs 0 0 (MQ below (QI g v MR N) ([.ref y, .int p0] : List Value).toArray s 0 0 (wA g)) (F0 m 57 ls [])) (n : Nat) (x2 : Int32) (x3 : Int32) (M : Mm) (H : Heap) (locs : List Loc) (ls : Array Slot), f_X12_pushes_L63 y kb57 n x2 x3 M = some (v, MR) → wP g M N H → va_S (wA g) s.heap H locs → lv_has ls 9 [(0, .ref y), (2, .int x2), (3, .int x3)] → W p l e (rmD 4) s m ([.ref y, .int p0] : List Value).toArray below meth c H locs 0 0 (MQ below (QI g v MR N) ([.ref y, .int p0] : List Value).toArray s 0 0 (wA g)) (F0 m 63 ls []) := by
    intro kb57 hkb57
    intro n
    induction n with
    | zero =>
      intro x2 x3 M H locs ls hf
      exact absurd hf (by simp [f_X12_pushes_L63])
    | succ n ih =>
      intro x2 x3 M H locs ls hf hP hS hl
      unfold f_X12_pushes_L63 at hf
      refine lv_iload_n hx hb dX12_pushes_63 rfl (lv_at hl 2 rfl) ?_
      refine lv_bipush (v := (120 : Int32)) hx hb dX12_pushes_64 (by decide) ?_
      refine lv_icmp_ge (tgt := 206) hx hb dX12_pushes_66 (by decide) (fun c22 => ?_) (fun c22 => ?_)
      · have hf := if_t c22 hf
        obtain ⟨z23, ez23, hf⟩ := bsJ hf
        refine lv_iinc (v := z23) (lv' := [(2, .int z23), (0, .ref y), (3, .int x3)]) hx hb dX12_pushes_206 hl (k := 1) rfl (by rw [ez23]; rfl) (by decide) rfl (fun ls hl => ?_)
        refine lv_goto (tgt := 57) hx hb dX12_pushes_209 (by decide) ?_
        exact hkb57 z23 M _ _ _ hf hP hS (lv_sub hl [1, 0] rfl)
      · have hf := if_f c22 hf
        refine lv_ldc (v := (100000000 : Int32)) hx hb hC.2.2.2.1 (hC.2.2.2.2.1 _ q_754) dX12_pushes_69 ?_
        refine lv_istore (lv' := [(4, .int (100000000 : Int32)), (0, .ref y), (2, .int x2), (3, .int x3)]) hx hb dX12_pushes_71 hl (by decide) rfl (fun ls hl => ?_)
        refine lv_iconst (v := (-1 : Int32)) hx hb dX12_pushes_73 (by decide) ?_
        refine lv_istore (lv' := [(5, .int (-1 : Int32)), (4, .int (100000000 : Int32)), (0, .ref y), (2, .int x2), (3, .int x3)]) hx hb dX12_pushes_74 hl (by decide) rfl (fun ls hl => ?_)
        exact L76 _ hkb57 _ ih _ x2 x3 (100000000 : Int32) (-1 : Int32) M _ _ _ hf hP hS (lv_sub hl [2, 3, 4, 1, 0] rfl)
  have L57 : ∀ (n : Nat) (x2 : Int32) (M : Mm) (H : Heap) (locs : List Loc) (ls : Array Slot), f_X12_pushes_L57 y n x2 M = some (v, MR) → wP g M N H → va_S (wA g) s.heap H locs → lv_has ls 9 [(0, .ref y), (2, .int x2)] → W p l e (rmD 4) s m ([.ref y, .int p0] : List Value).toArray below meth c H locs 0 0 (MQ below (QI g v MR N) ([.ref y, .int p0] : List Value).toArray s 0 0 (wA g)) (F0 m 57 ls []) := by
    intro n
    induction n with
    | zero =>
      intro x2 M H locs ls hf
      exact absurd hf (by simp [f_X12_pushes_L57])
    | succ n ih =>
      intro x2 M H locs ls hf hP hS hl
      unfold f_X12_pushes_L57 at hf
      refine lv_iload_n hx hb dX12_pushes_57 rfl (lv_at hl 1 rfl) ?_
      refine lv_if_lt (tgt := 212) hx hb dX12_pushes_58 (by decide) (fun c11 => ?_) (fun c11 => ?_)
      · have hf := if_t c11 hf
        refine lv_iconst (v := (0 : Int32)) hx hb dX12_pushes_212 (by decide) ?_
        refine lv_istore_n (lv' := [(2, .int (0 : Int32)), (0, .ref y)]) hx hb dX12_pushes_213 rfl hl (by decide) rfl (fun ls hl => ?_)
        refine lv_iconst (v := (0 : Int32)) hx hb dX12_pushes_214 (by decide) ?_
        refine lv_istore_n (lv' := [(3, .int (0 : Int32)), (2, .int (0 : Int32)), (0, .ref y)]) hx hb dX12_pushes_215 rfl hl (by decide) rfl (fun ls hl => ?_)
        exact L216 _ (0 : Int32) (0 : Int32) M _ _ _ hf hP hS (lv_sub hl [2, 1, 0] rfl)
      · have hf := if_f c11 hf
        refine lv_iconst (v := (0 : Int32)) hx hb dX12_pushes_61 (by decide) ?_
        refine lv_istore_n (lv' := [(3, .int (0 : Int32)), (0, .ref y), (2, .int x2)]) hx hb dX12_pushes_62 rfl hl (by decide) rfl (fun ls hl => ?_)
        exact L63 _ ih _ x2 (0 : Int32) M _ _ _ hf hP hS (lv_sub hl [1, 2, 0] rfl)
  have L29 : ∀ (n : Nat) (x1 : Int32) (x2 : Int32) (M : Mm) (H : Heap) (locs : List Loc) (ls : Array Slot), f_X12_pushes_L29 y n x1 x2 M = some (v, MR) → wP g M N H → va_S (wA g) s.heap H locs → lv_has ls 9 [(0, .ref y), (1, .int x1), (2, .int x2)] → W p l e (rmD 4) s m ([.ref y, .int p0] : List Value).toArray below meth c H locs 0 0 (MQ below (QI g v MR N) ([.ref y, .int p0] : List Value).toArray s 0 0 (wA g)) (F0 m 29 ls []) := by
    intro n
    induction n with
    | zero =>
      intro x1 x2 M H locs ls hf
      exact absurd hf (by simp [f_X12_pushes_L29])
    | succ n ih =>
      intro x1 x2 M H locs ls hf hP hS hl
      unfold f_X12_pushes_L29 at hf
      refine lv_iload_n hx hb dX12_pushes_29 rfl (lv_at hl 2 rfl) ?_
      refine lv_bipush (v := (120 : Int32)) hx hb dX12_pushes_30 (by decide) ?_
      refine lv_icmp_ge (tgt := 53) hx hb dX12_pushes_32 (by decide) (fun c9 => ?_) (fun c9 => ?_)
      · have hf := if_t c9 hf
        refine lv_iload_n hx hb dX12_pushes_53 rfl (lv_at hl 1 rfl) ?_
        refine lv_iconst (v := (1 : Int32)) hx hb dX12_pushes_54 (by decide) ?_
        refine lv_isub hx hb dX12_pushes_55 ?_
        refine lv_topi (fun z10 ez10 => ?_)
        have hf := bs ez10 hf
        refine lv_istore_n (lv' := [(2, .int z10), (0, .ref y), (1, .int x1)]) hx hb dX12_pushes_56 rfl hl (by decide) rfl (fun ls hl => ?_)
        exact L57 _ z10 M _ _ _ hf hP hS (lv_sub hl [1, 0] rfl)
      · have hf := if_f c9 hf
        refine lv_aload_n hx hb dX12_pushes_35 rfl (lv_at hl 0 rfl) ?_
        refine r_getR hC hP hO.1 fl_X12_36 rfl dX12_pushes_36 ?_
        refine lv_bipush (v := (120 : Int32)) hx hb dX12_pushes_39 (by decide) ?_
        refine lv_iload_n hx hb dX12_pushes_41 rfl (lv_at hl 1 rfl) ?_
        refine lv_imul hx hb dX12_pushes_42 ?_
        refine lv_iload_n hx hb dX12_pushes_43 rfl (lv_at hl 2 rfl) ?_
        refine lv_iadd hx hb dX12_pushes_44 ?_
        refine lv_iconst (v := (0 : Int32)) hx hb dX12_pushes_45 (by decide) ?_
        obtain ⟨hb48, hf⟩ := ck_s hf
        refine r_iast hC hP hS hO.2.2.2.2.2.2.2.2.1 hb48 dX12_pushes_46 (fun H locs hP hS => ?_)
        obtain ⟨M49, eM49, hf, hP⟩ := bsM hf hP
        obtain ⟨z50, ez50, hf⟩ := bsJ hf
        refine lv_iinc (v := z50) (lv' := [(2, .int z50), (0, .ref y), (1, .int x1)]) hx hb dX12_pushes_47 hl (k := 2) rfl (by rw [ez50]; rfl) (by decide) rfl (fun ls hl => ?_)
        refine lv_goto (tgt := 29) hx hb dX12_pushes_50 (by decide) ?_
        exact ih x1 z50 M49 _ _ _ hf hP hS (lv_sub hl [1, 2, 0] rfl)
  unfold f_X12_pushes at hf
  refine lv_iload_n hx hb dX12_pushes_0 rfl (lv_at hl 1 rfl) ?_
  refine lv_i2l hx hb dX12_pushes_1 rfl ?_
  refine lv_lconst (v := (0 : Int64)) hx hb dX12_pushes_2 (by decide) ?_
  refine lv_ldc2 (v := (12 : Int64)) hx hb hC.2.2.2.1 (hC.2.2.2.2.1 _ q_753) dX12_pushes_3 ?_
  obtain ⟨r1, hu2, hf⟩ := bd_s hf
  refine r_goI (r_runS (As := [.long p0.toInt64, .long (0 : Int64), .long (12 : Int64)]) (rest := []) hC hP hS (k_X12_in hg hu2) cw_X12_60 q_193 q_194 (Rm.D 0 4 rfl) rfl hl.1 rfl (Nat.le_of_ble_eq_true rfl) dX12_pushes_6) hS (fun H locs hP hS => ?_)
  refine lv_if_ne (tgt := 19) hx hb dX12_pushes_9 (by decide) (fun c4 => ?_) (fun c4 => ?_)
  · have hf := if_f c4 hf
    refine lv_aload_n hx hb dX12_pushes_19 rfl (lv_at hl 0 rfl) ?_
    refine lv_aload_n hx hb dX12_pushes_20 rfl (lv_at hl 0 rfl) ?_
    obtain ⟨r5, hu6, hf⟩ := bd_s hf
    refine r_goI (r_runV (As := []) (rest := [.ref y]) hC hP hS (k_X12_all hg hO hu6) cw_X12_127 q_543 q_544 q_545 (Rm.D 1 4 rfl) hO.1 rfl rfl hl.1 rfl (Nat.le_of_ble_eq_true rfl) dX12_pushes_21) hS (fun H locs hP hS => ?_)
    refine r_putI hC hP hS hO.1 fl_X12_105 tyX12 tyX12_ok nmX12 rfl rfl rfl dX12_pushes_24 (fun H locs hP hS => ?_)
    obtain ⟨M8, eM8, hf, hP⟩ := bsM hf hP
    refine lv_iconst (v := (0 : Int32)) hx hb dX12_pushes_27 (by decide) ?_
    refine lv_istore_n (lv' := [(2, .int (0 : Int32)), (0, .ref y), (1, .int p0)]) hx hb dX12_pushes_28 rfl hl (by decide) rfl (fun ls hl => ?_)
    exact L29 _ p0 (0 : Int32) M8 _ _ _ hf hP hS (lv_sub hl [1, 2, 0] rfl)
  · have hf := if_t c4 hf
    refine lv_aload_n hx hb dX12_pushes_12 rfl (lv_at hl 0 rfl) ?_
    refine lv_bipush (v := (-2 : Int32)) hx hb dX12_pushes_13 (by decide) ?_
    obtain ⟨r51, M53, hu52, hf⟩ := bd2_s hf
    refine r_goI (r_runV (As := [.int (-2 : Int32)]) (rest := []) hC hP hS (k_X12_bad hg hO hu52) cw_X12_73 q_196 q_197 q_198 (Rm.D 0 4 rfl) hO.1 rfl rfl hl.1 rfl (Nat.le_of_ble_eq_true rfl) dX12_pushes_15) hS (fun H locs hP hS => ?_)
    exact e_IM hC hr hlk hP hS dX12_pushes_18 hf
set_option maxRecDepth 100000 in
set_option maxHeartbeats 4000000 in
theorem k_X12_takes {g : Ev} {l : Launch} (hg : g.2.1.Nodup) {y : Nat} (hO : oModel g y) {M : Mm} {N : Ml} {p0 : Int32} {p1 : Int32} {p2 : Int32} {v : Int32} {MR : Mm} (hf : f_X12_takes y p0 p1 p2 M = some (v, MR)) : KM g l yX12_takes cX12_takes 4 (some .boolean) 4 [.ref y, .int p0, .int p1, .int p2] M N (QI g v MR N) := by
  refine KM.mk hg (by decide) (Nat.le_of_ble_eq_true rfl) ?_
  intro p e s m below meth c ls hC hr hlk hl hP hS
  have hx := hC.1
  have hb := hC.2.1
  have hl : lv_has ls 4 [(0, .ref y), (1, .int p0), (2, .int p1), (3, .int p2)] := hl
  unfold f_X12_takes at hf
  refine lv_aload_n hx hb dX12_takes_0 rfl (lv_at hl 0 rfl) ?_
  refine r_getI hC hP hO.1 fl_X12_233 rfl dX12_takes_1 ?_
  refine lv_iconst (v := (2 : Int32)) hx hb dX12_takes_4 (by decide) ?_
  refine lv_icmp_ne (tgt := 23) hx hb dX12_takes_5 (by decide) (fun c1 => ?_) (fun c1 => ?_)
  · have hf := if_f c1 hf
    refine lv_iconst (v := (0 : Int32)) hx hb dX12_takes_23 (by decide) ?_
    exact e_ZM hC hr hlk (Or.inl rfl) hP hS dX12_takes_24 hf
  · have hf := if_t c1 hf
    refine lv_aload_n hx hb dX12_takes_8 rfl (lv_at hl 0 rfl) ?_
    refine r_getI hC hP hO.1 fl_X12_236 rfl dX12_takes_9 ?_
    refine lv_i2l hx hb dX12_takes_12 rfl ?_
    refine lv_iload_n hx hb dX12_takes_13 rfl (lv_at hl 2 rfl) ?_
    refine lv_i2l hx hb dX12_takes_14 rfl ?_
    refine lv_iload_n hx hb dX12_takes_15 rfl (lv_at hl 3 rfl) ?_
    refine lv_i2l hx hb dX12_takes_16 rfl ?_
    obtain ⟨r2, hu3, hf⟩ := bd_s hf
    refine r_goI (r_runS (As := [.long ((M y 22).toInt64), .long p1.toInt64, .long p2.toInt64]) (rest := []) hC hP hS (k_X12_in hg hu3) cw_X12_60 q_193 q_194 (Rm.D 0 4 rfl) rfl hl.1 rfl (Nat.le_of_ble_eq_true rfl) dX12_takes_17) hS (fun H locs hP hS => ?_)
    refine lv_if_ne (tgt := 25) hx hb dX12_takes_20 (by decide) (fun c5 => ?_) (fun c5 => ?_)
    · have hf := if_f c5 hf
      refine lv_aload_n hx hb dX12_takes_25 rfl (lv_at hl 0 rfl) ?_
      refine r_getR hC hP hO.1 fl_X12_51 rfl dX12_takes_26 ?_
      refine lv_iload_n hx hb dX12_takes_29 rfl (lv_at hl 1 rfl) ?_
      refine lv_aload_n hx hb dX12_takes_30 rfl (lv_at hl 0 rfl) ?_
      refine r_getI hC hP hO.1 fl_X12_236 rfl dX12_takes_31 ?_
      obtain ⟨hb6, hf⟩ := ck_s hf
      refine r_iast hC hP hS hO.2.2.2.2.2.2.2.2.2.2.2.2.2 hb6 dX12_takes_34 (fun H locs hP hS => ?_)
      obtain ⟨M7, eM7, hf, hP⟩ := bsM hf hP
      refine lv_aload_n hx hb dX12_takes_35 rfl (lv_at hl 0 rfl) ?_
      obtain ⟨M10, hu9, hf⟩ := bd_s hf
      refine r_goV (r_runV (As := []) (rest := []) hC hP hS (k_X12_goOn hg hO hu9) cw_X12_248 q_451 q_452 q_453 (Rm.D 3 4 rfl) hO.1 rfl rfl hl.1 rfl (Nat.le_of_ble_eq_true rfl) dX12_takes_36) hS (fun H locs hP hS => ?_)
      refine lv_iconst (v := (1 : Int32)) hx hb dX12_takes_39 (by decide) ?_
      exact e_ZM hC hr hlk (Or.inr rfl) hP hS dX12_takes_40 hf
    · have hf := if_t c5 hf
      refine lv_iconst (v := (0 : Int32)) hx hb dX12_takes_23 (by decide) ?_
      exact e_ZM hC hr hlk (Or.inl rfl) hP hS dX12_takes_24 hf
set_option maxRecDepth 100000 in
set_option maxHeartbeats 4000000 in
theorem k_X12_readsFirst {g : Ev} {l : Launch} (hg : g.2.1.Nodup) {y : Nat} (hO : oModel g y) {M : Mm} {N : Ml}  {v : Int32} {MR : Mm} (hf : f_X12_readsFirst y M = some (v, MR)) : KM g l yX12_readsFirst cX12_readsFirst 2 (some .boolean) 5 [.ref y] M N (QI g v MR N) := by
  refine KM.mk hg (by decide) (Nat.le_of_ble_eq_true rfl) ?_
  intro p e s m below meth c ls hC hr hlk hl hP hS
  have hx := hC.1
  have hb := hC.2.1
  have hl : lv_has ls 2 [(0, .ref y)] := hl
  unfold f_X12_readsFirst at hf
  refine lv_aload_n hx hb dX12_readsFirst_0 rfl (lv_at hl 0 rfl) ?_
  refine lv_bipush (v := (114 : Int32)) hx hb dX12_readsFirst_1 (by decide) ?_
  refine lv_bipush (v := (105 : Int32)) hx hb dX12_readsFirst_3 (by decide) ?_
  refine lv_bipush (v := (110 : Int32)) hx hb dX12_readsFirst_5 (by decide) ?_
  refine lv_bipush (v := (103 : Int32)) hx hb dX12_readsFirst_7 (by decide) ?_
  refine lv_iconst (v := (0 : Int32)) hx hb dX12_readsFirst_9 (by decide) ?_
  obtain ⟨r1, hu2, hf⟩ := bd_s hf
  refine r_goI (r_runV (As := [.int (114 : Int32), .int (105 : Int32), .int (110 : Int32), .int (103 : Int32), .int (0 : Int32)]) (rest := []) hC hP hS (k_X12_isWord hg hO hu2) cw_X12_251 q_447 q_448 q_449 (Rm.D 0 5 rfl) hO.1 rfl rfl hl.1 rfl (Nat.le_of_ble_eq_true rfl) dX12_readsFirst_10) hS (fun H locs hP hS => ?_)
  refine lv_if_ne (tgt := 18) hx hb dX12_readsFirst_13 (by decide) (fun c4 => ?_) (fun c4 => ?_)
  · have hf := if_f c4 hf
    refine lv_aload_n hx hb dX12_readsFirst_18 rfl (lv_at hl 0 rfl) ?_
    obtain ⟨M7, hu6, hf⟩ := bd_s hf
    refine r_goV (r_runV (As := []) (rest := []) hC hP hS (k_X12_goOn hg hO hu6) cw_X12_248 q_451 q_452 q_453 (Rm.D 3 5 rfl) hO.1 rfl rfl hl.1 rfl (Nat.le_of_ble_eq_true rfl) dX12_readsFirst_19) hS (fun H locs hP hS => ?_)
    refine lv_aload_n hx hb dX12_readsFirst_22 rfl (lv_at hl 0 rfl) ?_
    refine lv_iconst (v := (0 : Int32)) hx hb dX12_readsFirst_23 (by decide) ?_
    refine lv_iconst (v := (4 : Int32)) hx hb dX12_readsFirst_24 (by decide) ?_
    refine lv_bipush (v := (24 : Int32)) hx hb dX12_readsFirst_25 (by decide) ?_
    obtain ⟨r8, M10, hu9, hf⟩ := bd2_s hf
    refine r_goI (r_runV (As := [.int (0 : Int32), .int (4 : Int32), .int (24 : Int32)]) (rest := []) hC hP hS (k_X12_takes hg hO hu9) cw_X12_255 q_455 q_456 q_457 (Rm.D 4 5 rfl) hO.1 rfl rfl hl.1 rfl (Nat.le_of_ble_eq_true rfl) dX12_readsFirst_27) hS (fun H locs hP hS => ?_)
    refine lv_istore_n (lv' := [(1, .int r8), (0, .ref y)]) hx hb dX12_readsFirst_30 rfl hl (by decide) rfl (fun ls hl => ?_)
    refine lv_aload_n hx hb dX12_readsFirst_31 rfl (lv_at hl 1 rfl) ?_
    refine r_getR hC hP hO.1 fl_X12_48 rfl dX12_readsFirst_32 ?_
    refine lv_aload_n hx hb dX12_readsFirst_35 rfl (lv_at hl 1 rfl) ?_
    refine r_getR hC hP hO.1 fl_X12_51 rfl dX12_readsFirst_36 ?_
    refine lv_iconst (v := (0 : Int32)) hx hb dX12_readsFirst_39 (by decide) ?_
    obtain ⟨hb11, hf⟩ := ck_s hf
    refine r_iald hC hP hO.2.2.2.2.2.2.2.2.2.2.2.2.2 hb11 dX12_readsFirst_40 ?_
    obtain ⟨M14, hu13, hf⟩ := bd_s hf
    refine r_goV (r_runS (As := [.ref (y + 12), .int (M10 (y + 13) (0 : Int32).toNatClampNeg)]) (rest := []) hC hP hS (k_X12_begin hg hO.2.2.2.2.2.2.2.2.2.2.2.2.1 hu13) cw_X12_54 q_167 q_168 (Rm.D 0 5 rfl) rfl hl.1 rfl (Nat.le_of_ble_eq_true rfl) dX12_readsFirst_41) hS (fun H locs hP hS => ?_)
    refine lv_iload_n hx hb dX12_readsFirst_44 rfl (lv_at hl 0 rfl) ?_
    refine lv_if_eq (tgt := 60) hx hb dX12_readsFirst_45 (by decide) (fun c15 => ?_) (fun c15 => ?_)
    · have hf := if_t c15 hf
      refine lv_iconst (v := (0 : Int32)) hx hb dX12_readsFirst_60 (by decide) ?_
      exact e_ZM hC hr hlk (Or.inl rfl) hP hS dX12_readsFirst_61 hf
    · have hf := if_f c15 hf
      refine lv_aload_n hx hb dX12_readsFirst_48 rfl (lv_at hl 1 rfl) ?_
      refine r_getI hC hP hO.1 fl_X12_233 rfl dX12_readsFirst_49 ?_
      refine lv_iconst (v := (3 : Int32)) hx hb dX12_readsFirst_52 (by decide) ?_
      refine lv_icmp_ne (tgt := 60) hx hb dX12_readsFirst_53 (by decide) (fun c16 => ?_) (fun c16 => ?_)
      · have hf := if_f c16 hf
        refine lv_iconst (v := (0 : Int32)) hx hb dX12_readsFirst_60 (by decide) ?_
        exact e_ZM hC hr hlk (Or.inl rfl) hP hS dX12_readsFirst_61 hf
      · have hf := if_t c16 hf
        refine lv_iconst (v := (1 : Int32)) hx hb dX12_readsFirst_56 (by decide) ?_
        refine lv_goto (tgt := 61) hx hb dX12_readsFirst_57 (by decide) ?_
        exact e_ZM hC hr hlk (Or.inr rfl) hP hS dX12_readsFirst_61 hf
  · have hf := if_t c4 hf
    refine lv_iconst (v := (0 : Int32)) hx hb dX12_readsFirst_16 (by decide) ?_
    exact e_ZM hC hr hlk (Or.inl rfl) hP hS dX12_readsFirst_17 hf
set_option maxRecDepth 100000 in
set_option maxHeartbeats 4000000 in
theorem k_X12_readsItem {g : Ev} {l : Launch} (hg : g.2.1.Nodup) {y : Nat} (hO : oModel g y) {M : Mm} {N : Ml}  {v : Int32} {MR : Mm} (hf : f_X12_readsItem y M = some (v, MR)) : KM g l yX12_readsItem cX12_readsItem 2 (some .boolean) 5 [.ref y] M N (QI g v MR N) := by
  refine KM.mk hg (by decide) (Nat.le_of_ble_eq_true rfl) ?_
  intro p e s m below meth c ls hC hr hlk hl hP hS
  have hx := hC.1
  have hb := hC.2.1
  have hl : lv_has ls 2 [(0, .ref y)] := hl
  have J137 : ∀ (s0 : Int32) (M : Mm) (H : Heap) (locs : List Loc) (ls : Array Slot), f_X12_readsItem_J137 y s0 M = some (v, MR) → wP g M N H → va_S (wA g) s.heap H locs → lv_has ls 2 [(0, .ref y)] → W p l e (rmD 5) s m ([.ref y] : List Value).toArray below meth c H locs 0 0 (MQ below (QI g v MR N) ([.ref y] : List Value).toArray s 0 0 (wA g)) (F0 m 137 ls [.int s0]) := by
    intro s0 M H locs ls hf hP hS hl
    unfold f_X12_readsItem_J137 at hf
    refine lv_istore_n (lv' := [(1, .int s0), (0, .ref y)]) hx hb dX12_readsItem_137 rfl hl (by decide) rfl (fun ls hl => ?_)
    refine lv_iload_n hx hb dX12_readsItem_138 rfl (lv_at hl 0 rfl) ?_
    refine lv_if_eq (tgt := 172) hx hb dX12_readsItem_139 (by decide) (fun c51 => ?_) (fun c51 => ?_)
    · have hf := if_t c51 hf
      refine lv_iload_n hx hb dX12_readsItem_172 rfl (lv_at hl 0 rfl) ?_
      obtain ⟨hn52, hf⟩ := cb_s hf
      exact e_ZM hC hr hlk hn52 hP hS dX12_readsItem_173 hf
    · have hf := if_f c51 hf
      refine lv_aload_n hx hb dX12_readsItem_142 rfl (lv_at hl 1 rfl) ?_
      refine r_getR hC hP hO.1 fl_X12_48 rfl dX12_readsItem_143 ?_
      refine lv_bipush (v := (6 : Int32)) hx hb dX12_readsItem_146 (by decide) ?_
      refine lv_bipush (v := (24 : Int32)) hx hb dX12_readsItem_148 (by decide) ?_
      refine lv_aload_n hx hb dX12_readsItem_150 rfl (lv_at hl 1 rfl) ?_
      refine r_getR hC hP hO.1 fl_X12_51 rfl dX12_readsItem_151 ?_
      refine lv_iconst (v := (0 : Int32)) hx hb dX12_readsItem_154 (by decide) ?_
      obtain ⟨hb53, hf⟩ := ck_s hf
      refine r_iald hC hP hO.2.2.2.2.2.2.2.2.2.2.2.2.2 hb53 dX12_readsItem_155 ?_
      refine lv_imul hx hb dX12_readsItem_156 ?_
      refine lv_iadd hx hb dX12_readsItem_157 ?_
      refine lv_aload_n hx hb dX12_readsItem_158 rfl (lv_at hl 1 rfl) ?_
      refine r_getR hC hP hO.1 fl_X12_51 rfl dX12_readsItem_159 ?_
      refine lv_iconst (v := (1 : Int32)) hx hb dX12_readsItem_162 (by decide) ?_
      obtain ⟨hb54, hf⟩ := ck_s hf
      refine r_iald hC hP hO.2.2.2.2.2.2.2.2.2.2.2.2.2 hb54 dX12_readsItem_163 ?_
      refine lv_iadd hx hb dX12_readsItem_164 ?_
      refine lv_aload_n hx hb dX12_readsItem_165 rfl (lv_at hl 1 rfl) ?_
      refine r_getR hC hP hO.1 fl_X12_51 rfl dX12_readsItem_166 ?_
      refine lv_iconst (v := (2 : Int32)) hx hb dX12_readsItem_169 (by decide) ?_
      obtain ⟨hb55, hf⟩ := ck_s hf
      refine r_iald hC hP hO.2.2.2.2.2.2.2.2.2.2.2.2.2 hb55 dX12_readsItem_170 ?_
      obtain ⟨hb56, hf⟩ := ck_s hf
      refine r_iast hC hP hS hO.2.2.2.2.2.2.2.2.2.2.2.2.1 hb56 dX12_readsItem_171 (fun H locs hP hS => ?_)
      obtain ⟨M57, eM57, hf, hP⟩ := bsM hf hP
      refine lv_iload_n hx hb dX12_readsItem_172 rfl (lv_at hl 0 rfl) ?_
      obtain ⟨hn58, hf⟩ := cb_s hf
      exact e_ZM hC hr hlk hn58 hP hS dX12_readsItem_173 hf
  have J136 : ∀ (M : Mm) (H : Heap) (locs : List Loc) (ls : Array Slot), f_X12_readsItem_J136 y M = some (v, MR) → wP g M N H → va_S (wA g) s.heap H locs → lv_has ls 2 [(0, .ref y)] → W p l e (rmD 5) s m ([.ref y] : List Value).toArray below meth c H locs 0 0 (MQ below (QI g v MR N) ([.ref y] : List Value).toArray s 0 0 (wA g)) (F0 m 136 ls []) := by
    intro M H locs ls hf hP hS hl
    unfold f_X12_readsItem_J136 at hf
    refine lv_iconst (v := (0 : Int32)) hx hb dX12_readsItem_136 (by decide) ?_
    exact J137 (0 : Int32) M _ _ _ hf hP hS (lv_sub hl [0] rfl)
  have J73 : ∀ (x1 : Int32) (s1 : Int32) (s2 : Int32) (M : Mm) (H : Heap) (locs : List Loc) (ls : Array Slot), f_X12_readsItem_J73 y x1 s1 s2 M = some (v, MR) → wP g M N H → va_S (wA g) s.heap H locs → lv_has ls 2 [(1, .int x1)] → W p l e (rmD 5) s m ([.ref y] : List Value).toArray below meth c H locs 0 0 (MQ below (QI g v MR N) ([.ref y] : List Value).toArray s 0 0 (wA g)) (F0 m 73 ls [.int s2, .int s1, .ref (y + 12)]) := by
    intro x1 s1 s2 M H locs ls hf hP hS hl
    unfold f_X12_readsItem_J73 at hf
    obtain ⟨hb79, hf⟩ := ck_s hf
    refine r_iast hC hP hS hO.2.2.2.2.2.2.2.2.2.2.2.2.1 hb79 dX12_readsItem_73 (fun H locs hP hS => ?_)
    obtain ⟨M80, eM80, hf, hP⟩ := bsM hf hP
    refine lv_iload_n hx hb dX12_readsItem_74 rfl (lv_at hl 0 rfl) ?_
    obtain ⟨hn81, hf⟩ := cb_s hf
    exact e_ZM hC hr hlk hn81 hP hS dX12_readsItem_75 hf
  have J46 : ∀ (s0 : Int32) (M : Mm) (H : Heap) (locs : List Loc) (ls : Array Slot), f_X12_readsItem_J46 y s0 M = some (v, MR) → wP g M N H → va_S (wA g) s.heap H locs → lv_has ls 2 [(0, .ref y)] → W p l e (rmD 5) s m ([.ref y] : List Value).toArray below meth c H locs 0 0 (MQ below (QI g v MR N) ([.ref y] : List Value).toArray s 0 0 (wA g)) (F0 m 46 ls [.int s0]) := by
    intro s0 M H locs ls hf hP hS hl
    unfold f_X12_readsItem_J46 at hf
    refine lv_istore_n (lv' := [(1, .int s0), (0, .ref y)]) hx hb dX12_readsItem_46 rfl hl (by decide) rfl (fun ls hl => ?_)
    refine lv_aload_n hx hb dX12_readsItem_47 rfl (lv_at hl 1 rfl) ?_
    refine r_getR hC hP hO.1 fl_X12_48 rfl dX12_readsItem_48 ?_
    refine lv_iconst (v := (1 : Int32)) hx hb dX12_readsItem_51 (by decide) ?_
    refine lv_aload_n hx hb dX12_readsItem_52 rfl (lv_at hl 1 rfl) ?_
    refine r_getR hC hP hO.1 fl_X12_51 rfl dX12_readsItem_53 ?_
    refine lv_iconst (v := (0 : Int32)) hx hb dX12_readsItem_56 (by decide) ?_
    obtain ⟨hb77, hf⟩ := ck_s hf
    refine r_iald hC hP hO.2.2.2.2.2.2.2.2.2.2.2.2.2 hb77 dX12_readsItem_57 ?_
    refine lv_iadd hx hb dX12_readsItem_58 ?_
    refine lv_iload_n hx hb dX12_readsItem_59 rfl (lv_at hl 0 rfl) ?_
    refine lv_if_eq (tgt := 72) hx hb dX12_readsItem_60 (by decide) (fun c78 => ?_) (fun c78 => ?_)
    · have hf := if_t c78 hf
      refine lv_iconst (v := (0 : Int32)) hx hb dX12_readsItem_72 (by decide) ?_
      exact J73 s0 ((1 : Int32) + (M (y + 13) (0 : Int32).toNatClampNeg)) (0 : Int32) M _ _ _ hf hP hS (lv_sub hl [0] rfl)
    · have hf := if_f c78 hf
      refine lv_aload_n hx hb dX12_readsItem_63 rfl (lv_at hl 1 rfl) ?_
      refine r_getR hC hP hO.1 fl_X12_51 rfl dX12_readsItem_64 ?_
      refine lv_iconst (v := (1 : Int32)) hx hb dX12_readsItem_67 (by decide) ?_
      obtain ⟨hb82, hf⟩ := ck_s hf
      refine r_iald hC hP hO.2.2.2.2.2.2.2.2.2.2.2.2.2 hb82 dX12_readsItem_68 ?_
      refine lv_goto (tgt := 73) hx hb dX12_readsItem_69 (by decide) ?_
      exact J73 s0 ((1 : Int32) + (M (y + 13) (0 : Int32).toNatClampNeg)) (M (y + 13) (1 : Int32).toNatClampNeg) M _ _ _ hf hP hS (lv_sub hl [0] rfl)
  have J45 : ∀ (M : Mm) (H : Heap) (locs : List Loc) (ls : Array Slot), f_X12_readsItem_J45 y M = some (v, MR) → wP g M N H → va_S (wA g) s.heap H locs → lv_has ls 2 [(0, .ref y)] → W p l e (rmD 5) s m ([.ref y] : List Value).toArray below meth c H locs 0 0 (MQ below (QI g v MR N) ([.ref y] : List Value).toArray s 0 0 (wA g)) (F0 m 45 ls []) := by
    intro M H locs ls hf hP hS hl
    unfold f_X12_readsItem_J45 at hf
    refine lv_iconst (v := (0 : Int32)) hx hb dX12_readsItem_45 (by decide) ?_
    exact J46 (0 : Int32) M _ _ _ hf hP hS (lv_sub hl [0] rfl)
  unfold f_X12_readsItem at hf
  refine lv_aload_n hx hb dX12_readsItem_0 rfl (lv_at hl 0 rfl) ?_
  refine lv_bipush (v := (115 : Int32)) hx hb dX12_readsItem_1 (by decide) ?_
  refine lv_bipush (v := (116 : Int32)) hx hb dX12_readsItem_3 (by decide) ?_
  refine lv_bipush (v := (101 : Int32)) hx hb dX12_readsItem_5 (by decide) ?_
  refine lv_bipush (v := (112 : Int32)) hx hb dX12_readsItem_7 (by decide) ?_
  refine lv_iconst (v := (0 : Int32)) hx hb dX12_readsItem_9 (by decide) ?_
  obtain ⟨r1, hu2, hf⟩ := bd_s hf
  refine r_goI (r_runV (As := [.int (115 : Int32), .int (116 : Int32), .int (101 : Int32), .int (112 : Int32), .int (0 : Int32)]) (rest := []) hC hP hS (k_X12_isWord hg hO hu2) cw_X12_251 q_447 q_448 q_449 (Rm.D 0 5 rfl) hO.1 rfl rfl hl.1 rfl (Nat.le_of_ble_eq_true rfl) dX12_readsItem_10) hS (fun H locs hP hS => ?_)
  refine lv_if_eq (tgt := 76) hx hb dX12_readsItem_13 (by decide) (fun c4 => ?_) (fun c4 => ?_)
  · have hf := if_t c4 hf
    refine lv_aload_n hx hb dX12_readsItem_76 rfl (lv_at hl 0 rfl) ?_
    refine lv_bipush (v := (108 : Int32)) hx hb dX12_readsItem_77 (by decide) ?_
    refine lv_bipush (v := (117 : Int32)) hx hb dX12_readsItem_79 (by decide) ?_
    refine lv_bipush (v := (109 : Int32)) hx hb dX12_readsItem_81 (by decide) ?_
    refine lv_bipush (v := (112 : Int32)) hx hb dX12_readsItem_83 (by decide) ?_
    refine lv_bipush (v := (115 : Int32)) hx hb dX12_readsItem_85 (by decide) ?_
    obtain ⟨r5, hu6, hf⟩ := bd_s hf
    refine r_goI (r_runV (As := [.int (108 : Int32), .int (117 : Int32), .int (109 : Int32), .int (112 : Int32), .int (115 : Int32)]) (rest := []) hC hP hS (k_X12_isWord hg hO hu6) cw_X12_251 q_447 q_448 q_449 (Rm.D 0 5 rfl) hO.1 rfl rfl hl.1 rfl (Nat.le_of_ble_eq_true rfl) dX12_readsItem_87) hS (fun H locs hP hS => ?_)
    refine lv_if_eq (tgt := 174) hx hb dX12_readsItem_90 (by decide) (fun c8 => ?_) (fun c8 => ?_)
    · have hf := if_t c8 hf
      refine lv_aload_n hx hb dX12_readsItem_174 rfl (lv_at hl 0 rfl) ?_
      refine lv_bipush (v := (109 : Int32)) hx hb dX12_readsItem_175 (by decide) ?_
      refine lv_bipush (v := (111 : Int32)) hx hb dX12_readsItem_177 (by decide) ?_
      refine lv_bipush (v := (111 : Int32)) hx hb dX12_readsItem_179 (by decide) ?_
      refine lv_bipush (v := (110 : Int32)) hx hb dX12_readsItem_181 (by decide) ?_
      refine lv_iconst (v := (0 : Int32)) hx hb dX12_readsItem_183 (by decide) ?_
      obtain ⟨r9, hu10, hf⟩ := bd_s hf
      refine r_goI (r_runV (As := [.int (109 : Int32), .int (111 : Int32), .int (111 : Int32), .int (110 : Int32), .int (0 : Int32)]) (rest := []) hC hP hS (k_X12_isWord hg hO hu10) cw_X12_251 q_447 q_448 q_449 (Rm.D 0 5 rfl) hO.1 rfl rfl hl.1 rfl (Nat.le_of_ble_eq_true rfl) dX12_readsItem_184) hS (fun H locs hP hS => ?_)
      refine lv_if_eq (tgt := 201) hx hb dX12_readsItem_187 (by decide) (fun c12 => ?_) (fun c12 => ?_)
      · have hf := if_t c12 hf
        refine lv_iconst (v := (0 : Int32)) hx hb dX12_readsItem_201 (by decide) ?_
        exact e_ZM hC hr hlk (Or.inl rfl) hP hS dX12_readsItem_202 hf
      · have hf := if_f c12 hf
        refine lv_aload_n hx hb dX12_readsItem_190 rfl (lv_at hl 0 rfl) ?_
        refine r_getR hC hP hO.1 fl_X12_48 rfl dX12_readsItem_191 ?_
        refine lv_bipush (v := (126 : Int32)) hx hb dX12_readsItem_194 (by decide) ?_
        obtain ⟨hb13, hf⟩ := ck_s hf
        refine r_iald hC hP hO.2.2.2.2.2.2.2.2.2.2.2.2.1 hb13 dX12_readsItem_196 ?_
        refine lv_iconst (v := (4 : Int32)) hx hb dX12_readsItem_197 (by decide) ?_
        refine lv_icmp_ne (tgt := 203) hx hb dX12_readsItem_198 (by decide) (fun c14 => ?_) (fun c14 => ?_)
        · have hf := if_f c14 hf
          refine lv_aload_n hx hb dX12_readsItem_203 rfl (lv_at hl 0 rfl) ?_
          obtain ⟨M17, hu16, hf⟩ := bd_s hf
          refine r_goV (r_runV (As := []) (rest := []) hC hP hS (k_X12_goOn hg hO hu16) cw_X12_248 q_451 q_452 q_453 (Rm.D 3 5 rfl) hO.1 rfl rfl hl.1 rfl (Nat.le_of_ble_eq_true rfl) dX12_readsItem_204) hS (fun H locs hP hS => ?_)
          refine lv_aload_n hx hb dX12_readsItem_207 rfl (lv_at hl 0 rfl) ?_
          refine lv_iconst (v := (0 : Int32)) hx hb dX12_readsItem_208 (by decide) ?_
          refine lv_iconst (v := (0 : Int32)) hx hb dX12_readsItem_209 (by decide) ?_
          refine lv_iconst (v := (4 : Int32)) hx hb dX12_readsItem_210 (by decide) ?_
          obtain ⟨r18, M20, hu19, hf⟩ := bd2_s hf
          refine r_goI (r_runV (As := [.int (0 : Int32), .int (0 : Int32), .int (4 : Int32)]) (rest := []) hC hP hS (k_X12_takes hg hO hu19) cw_X12_255 q_455 q_456 q_457 (Rm.D 4 5 rfl) hO.1 rfl rfl hl.1 rfl (Nat.le_of_ble_eq_true rfl) dX12_readsItem_211) hS (fun H locs hP hS => ?_)
          refine lv_if_eq (tgt := 251) hx hb dX12_readsItem_214 (by decide) (fun c21 => ?_) (fun c21 => ?_)
          · have hf := if_t c21 hf
            refine lv_iconst (v := (0 : Int32)) hx hb dX12_readsItem_251 (by decide) ?_
            exact e_ZM hC hr hlk (Or.inl rfl) hP hS dX12_readsItem_252 hf
          · have hf := if_f c21 hf
            refine lv_aload_n hx hb dX12_readsItem_217 rfl (lv_at hl 0 rfl) ?_
            refine lv_iconst (v := (1 : Int32)) hx hb dX12_readsItem_218 (by decide) ?_
            refine lv_iconst (v := (0 : Int32)) hx hb dX12_readsItem_219 (by decide) ?_
            refine lv_iconst (v := (5 : Int32)) hx hb dX12_readsItem_220 (by decide) ?_
            obtain ⟨r22, M24, hu23, hf⟩ := bd2_s hf
            refine r_goI (r_runV (As := [.int (1 : Int32), .int (0 : Int32), .int (5 : Int32)]) (rest := []) hC hP hS (k_X12_takes hg hO hu23) cw_X12_255 q_455 q_456 q_457 (Rm.D 4 5 rfl) hO.1 rfl rfl hl.1 rfl (Nat.le_of_ble_eq_true rfl) dX12_readsItem_221) hS (fun H locs hP hS => ?_)
            refine lv_if_eq (tgt := 251) hx hb dX12_readsItem_224 (by decide) (fun c25 => ?_) (fun c25 => ?_)
            · have hf := if_t c25 hf
              refine lv_iconst (v := (0 : Int32)) hx hb dX12_readsItem_251 (by decide) ?_
              exact e_ZM hC hr hlk (Or.inl rfl) hP hS dX12_readsItem_252 hf
            · have hf := if_f c25 hf
              refine lv_aload_n hx hb dX12_readsItem_227 rfl (lv_at hl 0 rfl) ?_
              refine lv_iconst (v := (2 : Int32)) hx hb dX12_readsItem_228 (by decide) ?_
              refine lv_iconst (v := (0 : Int32)) hx hb dX12_readsItem_229 (by decide) ?_
              refine lv_aload_n hx hb dX12_readsItem_230 rfl (lv_at hl 0 rfl) ?_
              obtain ⟨r26, hu27, hf⟩ := bd_s hf
              refine r_goI (r_runV (As := []) (rest := [.int (0 : Int32), .int (2 : Int32), .ref y]) hC hP hS (k_X12_lastPlace hg hO hu27) cw_X12_259 q_463 q_464 q_465 (Rm.D 0 5 rfl) hO.1 rfl rfl hl.1 rfl (Nat.le_of_ble_eq_true rfl) dX12_readsItem_231) hS (fun H locs hP hS => ?_)
              obtain ⟨r29, M31, hu30, hf⟩ := bd2_s hf
              refine r_goI (r_runV (As := [.int (2 : Int32), .int (0 : Int32), .int r26]) (rest := []) hC hP hS (k_X12_takes hg hO hu30) cw_X12_255 q_455 q_456 q_457 (Rm.D 4 5 rfl) hO.1 rfl rfl hl.1 rfl (Nat.le_of_ble_eq_true rfl) dX12_readsItem_234) hS (fun H locs hP hS => ?_)
              refine lv_if_eq (tgt := 251) hx hb dX12_readsItem_237 (by decide) (fun c32 => ?_) (fun c32 => ?_)
              · have hf := if_t c32 hf
                refine lv_iconst (v := (0 : Int32)) hx hb dX12_readsItem_251 (by decide) ?_
                exact e_ZM hC hr hlk (Or.inl rfl) hP hS dX12_readsItem_252 hf
              · have hf := if_f c32 hf
                refine lv_aload_n hx hb dX12_readsItem_240 rfl (lv_at hl 0 rfl) ?_
                refine lv_iconst (v := (3 : Int32)) hx hb dX12_readsItem_241 (by decide) ?_
                refine lv_iconst (v := (0 : Int32)) hx hb dX12_readsItem_242 (by decide) ?_
                refine lv_bipush (v := (9 : Int32)) hx hb dX12_readsItem_243 (by decide) ?_
                obtain ⟨r33, M35, hu34, hf⟩ := bd2_s hf
                refine r_goI (r_runV (As := [.int (3 : Int32), .int (0 : Int32), .int (9 : Int32)]) (rest := []) hC hP hS (k_X12_takes hg hO hu34) cw_X12_255 q_455 q_456 q_457 (Rm.D 4 5 rfl) hO.1 rfl rfl hl.1 rfl (Nat.le_of_ble_eq_true rfl) dX12_readsItem_245) hS (fun H locs hP hS => ?_)
                refine lv_if_ne (tgt := 253) hx hb dX12_readsItem_248 (by decide) (fun c36 => ?_) (fun c36 => ?_)
                · have hf := if_f c36 hf
                  refine lv_aload_n hx hb dX12_readsItem_253 rfl (lv_at hl 0 rfl) ?_
                  refine r_getR hC hP hO.1 fl_X12_48 rfl dX12_readsItem_254 ?_
                  refine lv_aload_n hx hb dX12_readsItem_257 rfl (lv_at hl 0 rfl) ?_
                  refine r_getR hC hP hO.1 fl_X12_51 rfl dX12_readsItem_258 ?_
                  refine lv_iconst (v := (0 : Int32)) hx hb dX12_readsItem_261 (by decide) ?_
                  obtain ⟨hb37, hf⟩ := ck_s hf
                  refine r_iald hC hP hO.2.2.2.2.2.2.2.2.2.2.2.2.2 hb37 dX12_readsItem_262 ?_
                  refine lv_aload_n hx hb dX12_readsItem_263 rfl (lv_at hl 0 rfl) ?_
                  refine r_getR hC hP hO.1 fl_X12_51 rfl dX12_readsItem_264 ?_
                  refine lv_iconst (v := (1 : Int32)) hx hb dX12_readsItem_267 (by decide) ?_
                  obtain ⟨hb38, hf⟩ := ck_s hf
                  refine r_iald hC hP hO.2.2.2.2.2.2.2.2.2.2.2.2.2 hb38 dX12_readsItem_268 ?_
                  refine lv_aload_n hx hb dX12_readsItem_269 rfl (lv_at hl 0 rfl) ?_
                  refine r_getR hC hP hO.1 fl_X12_51 rfl dX12_readsItem_270 ?_
                  refine lv_iconst (v := (2 : Int32)) hx hb dX12_readsItem_273 (by decide) ?_
                  obtain ⟨hb39, hf⟩ := ck_s hf
                  refine r_iald hC hP hO.2.2.2.2.2.2.2.2.2.2.2.2.2 hb39 dX12_readsItem_274 ?_
                  refine lv_aload_n hx hb dX12_readsItem_275 rfl (lv_at hl 0 rfl) ?_
                  refine r_getR hC hP hO.1 fl_X12_51 rfl dX12_readsItem_276 ?_
                  refine lv_iconst (v := (3 : Int32)) hx hb dX12_readsItem_279 (by decide) ?_
                  obtain ⟨hb40, hf⟩ := ck_s hf
                  refine r_iald hC hP hO.2.2.2.2.2.2.2.2.2.2.2.2.2 hb40 dX12_readsItem_280 ?_
                  obtain ⟨M43, hu42, hf⟩ := bd_s hf
                  refine r_goV (r_runS (As := [.ref (y + 12), .int (M35 (y + 13) (0 : Int32).toNatClampNeg), .int (M35 (y + 13) (1 : Int32).toNatClampNeg), .int (M35 (y + 13) (2 : Int32).toNatClampNeg), .int (M35 (y + 13) (3 : Int32).toNatClampNeg)]) (rest := []) hC hP hS (k_X12_layMoon hg hO.2.2.2.2.2.2.2.2.2.2.2.2.1 hu42) cw_X12_93 q_271 q_272 (Rm.D 0 5 rfl) rfl hl.1 rfl (Nat.le_of_ble_eq_true rfl) dX12_readsItem_281) hS (fun H locs hP hS => ?_)
                  refine lv_iconst (v := (1 : Int32)) hx hb dX12_readsItem_284 (by decide) ?_
                  exact e_ZM hC hr hlk (Or.inr rfl) hP hS dX12_readsItem_285 hf
                · have hf := if_t c36 hf
                  refine lv_iconst (v := (0 : Int32)) hx hb dX12_readsItem_251 (by decide) ?_
                  exact e_ZM hC hr hlk (Or.inl rfl) hP hS dX12_readsItem_252 hf
        · have hf := if_t c14 hf
          refine lv_iconst (v := (0 : Int32)) hx hb dX12_readsItem_201 (by decide) ?_
          exact e_ZM hC hr hlk (Or.inl rfl) hP hS dX12_readsItem_202 hf
    · have hf := if_f c8 hf
      refine lv_aload_n hx hb dX12_readsItem_93 rfl (lv_at hl 0 rfl) ?_
      obtain ⟨M46, hu45, hf⟩ := bd_s hf
      refine r_goV (r_runV (As := []) (rest := []) hC hP hS (k_X12_goOn hg hO hu45) cw_X12_248 q_451 q_452 q_453 (Rm.D 3 5 rfl) hO.1 rfl rfl hl.1 rfl (Nat.le_of_ble_eq_true rfl) dX12_readsItem_94) hS (fun H locs hP hS => ?_)
      refine lv_aload_n hx hb dX12_readsItem_97 rfl (lv_at hl 0 rfl) ?_
      refine lv_iconst (v := (0 : Int32)) hx hb dX12_readsItem_98 (by decide) ?_
      refine lv_iconst (v := (0 : Int32)) hx hb dX12_readsItem_99 (by decide) ?_
      refine lv_iconst (v := (4 : Int32)) hx hb dX12_readsItem_100 (by decide) ?_
      obtain ⟨r47, M49, hu48, hf⟩ := bd2_s hf
      refine r_goI (r_runV (As := [.int (0 : Int32), .int (0 : Int32), .int (4 : Int32)]) (rest := []) hC hP hS (k_X12_takes hg hO hu48) cw_X12_255 q_455 q_456 q_457 (Rm.D 4 5 rfl) hO.1 rfl rfl hl.1 rfl (Nat.le_of_ble_eq_true rfl) dX12_readsItem_101) hS (fun H locs hP hS => ?_)
      refine lv_if_eq (tgt := 136) hx hb dX12_readsItem_104 (by decide) (fun c50 => ?_) (fun c50 => ?_)
      · have hf := if_t c50 hf
        exact J136 M49 _ _ _ hf hP hS (lv_sub hl [0] rfl)
      · have hf := if_f c50 hf
        refine lv_aload_n hx hb dX12_readsItem_107 rfl (lv_at hl 0 rfl) ?_
        refine lv_iconst (v := (1 : Int32)) hx hb dX12_readsItem_108 (by decide) ?_
        refine lv_iconst (v := (0 : Int32)) hx hb dX12_readsItem_109 (by decide) ?_
        refine lv_aload_n hx hb dX12_readsItem_110 rfl (lv_at hl 0 rfl) ?_
        obtain ⟨r59, hu60, hf⟩ := bd_s hf
        refine r_goI (r_runV (As := []) (rest := [.int (0 : Int32), .int (1 : Int32), .ref y]) hC hP hS (k_X12_lastPlace hg hO hu60) cw_X12_259 q_463 q_464 q_465 (Rm.D 0 5 rfl) hO.1 rfl rfl hl.1 rfl (Nat.le_of_ble_eq_true rfl) dX12_readsItem_111) hS (fun H locs hP hS => ?_)
        obtain ⟨r62, M64, hu63, hf⟩ := bd2_s hf
        refine r_goI (r_runV (As := [.int (1 : Int32), .int (0 : Int32), .int r59]) (rest := []) hC hP hS (k_X12_takes hg hO hu63) cw_X12_255 q_455 q_456 q_457 (Rm.D 4 5 rfl) hO.1 rfl rfl hl.1 rfl (Nat.le_of_ble_eq_true rfl) dX12_readsItem_114) hS (fun H locs hP hS => ?_)
        refine lv_if_eq (tgt := 136) hx hb dX12_readsItem_117 (by decide) (fun c65 => ?_) (fun c65 => ?_)
        · have hf := if_t c65 hf
          exact J136 M64 _ _ _ hf hP hS (lv_sub hl [0] rfl)
        · have hf := if_f c65 hf
          refine lv_aload_n hx hb dX12_readsItem_120 rfl (lv_at hl 0 rfl) ?_
          refine lv_iconst (v := (2 : Int32)) hx hb dX12_readsItem_121 (by decide) ?_
          refine lv_iconst (v := (0 : Int32)) hx hb dX12_readsItem_122 (by decide) ?_
          refine lv_sipush (v := (999 : Int32)) hx hb dX12_readsItem_123 (by decide) ?_
          obtain ⟨r66, M68, hu67, hf⟩ := bd2_s hf
          refine r_goI (r_runV (As := [.int (2 : Int32), .int (0 : Int32), .int (999 : Int32)]) (rest := []) hC hP hS (k_X12_takes hg hO hu67) cw_X12_255 q_455 q_456 q_457 (Rm.D 4 5 rfl) hO.1 rfl rfl hl.1 rfl (Nat.le_of_ble_eq_true rfl) dX12_readsItem_126) hS (fun H locs hP hS => ?_)
          refine lv_if_eq (tgt := 136) hx hb dX12_readsItem_129 (by decide) (fun c69 => ?_) (fun c69 => ?_)
          · have hf := if_t c69 hf
            exact J136 M68 _ _ _ hf hP hS (lv_sub hl [0] rfl)
          · have hf := if_f c69 hf
            refine lv_iconst (v := (1 : Int32)) hx hb dX12_readsItem_132 (by decide) ?_
            refine lv_goto (tgt := 137) hx hb dX12_readsItem_133 (by decide) ?_
            exact J137 (1 : Int32) M68 _ _ _ hf hP hS (lv_sub hl [0] rfl)
  · have hf := if_f c4 hf
    refine lv_aload_n hx hb dX12_readsItem_16 rfl (lv_at hl 0 rfl) ?_
    obtain ⟨M72, hu71, hf⟩ := bd_s hf
    refine r_goV (r_runV (As := []) (rest := []) hC hP hS (k_X12_goOn hg hO hu71) cw_X12_248 q_451 q_452 q_453 (Rm.D 3 5 rfl) hO.1 rfl rfl hl.1 rfl (Nat.le_of_ble_eq_true rfl) dX12_readsItem_17) hS (fun H locs hP hS => ?_)
    refine lv_aload_n hx hb dX12_readsItem_20 rfl (lv_at hl 0 rfl) ?_
    refine lv_iconst (v := (0 : Int32)) hx hb dX12_readsItem_21 (by decide) ?_
    refine lv_iconst (v := (0 : Int32)) hx hb dX12_readsItem_22 (by decide) ?_
    refine lv_iconst (v := (4 : Int32)) hx hb dX12_readsItem_23 (by decide) ?_
    obtain ⟨r73, M75, hu74, hf⟩ := bd2_s hf
    refine r_goI (r_runV (As := [.int (0 : Int32), .int (0 : Int32), .int (4 : Int32)]) (rest := []) hC hP hS (k_X12_takes hg hO hu74) cw_X12_255 q_455 q_456 q_457 (Rm.D 4 5 rfl) hO.1 rfl rfl hl.1 rfl (Nat.le_of_ble_eq_true rfl) dX12_readsItem_24) hS (fun H locs hP hS => ?_)
    refine lv_if_eq (tgt := 45) hx hb dX12_readsItem_27 (by decide) (fun c76 => ?_) (fun c76 => ?_)
    · have hf := if_t c76 hf
      exact J45 M75 _ _ _ hf hP hS (lv_sub hl [0] rfl)
    · have hf := if_f c76 hf
      refine lv_aload_n hx hb dX12_readsItem_30 rfl (lv_at hl 0 rfl) ?_
      refine lv_iconst (v := (1 : Int32)) hx hb dX12_readsItem_31 (by decide) ?_
      refine lv_iconst (v := (0 : Int32)) hx hb dX12_readsItem_32 (by decide) ?_
      refine lv_bipush (v := (9 : Int32)) hx hb dX12_readsItem_33 (by decide) ?_
      obtain ⟨r83, M85, hu84, hf⟩ := bd2_s hf
      refine r_goI (r_runV (As := [.int (1 : Int32), .int (0 : Int32), .int (9 : Int32)]) (rest := []) hC hP hS (k_X12_takes hg hO hu84) cw_X12_255 q_455 q_456 q_457 (Rm.D 4 5 rfl) hO.1 rfl rfl hl.1 rfl (Nat.le_of_ble_eq_true rfl) dX12_readsItem_35) hS (fun H locs hP hS => ?_)
      refine lv_if_eq (tgt := 45) hx hb dX12_readsItem_38 (by decide) (fun c86 => ?_) (fun c86 => ?_)
      · have hf := if_t c86 hf
        exact J45 M85 _ _ _ hf hP hS (lv_sub hl [0] rfl)
      · have hf := if_f c86 hf
        refine lv_iconst (v := (1 : Int32)) hx hb dX12_readsItem_41 (by decide) ?_
        refine lv_goto (tgt := 46) hx hb dX12_readsItem_42 (by decide) ?_
        exact J46 (1 : Int32) M85 _ _ _ hf hP hS (lv_sub hl [0] rfl)
set_option maxRecDepth 100000 in
set_option maxHeartbeats 4000000 in
theorem k_X12_read {g : Ev} {l : Launch} (hg : g.2.1.Nodup) {y : Nat} (hO : oModel g y) {M : Mm} {N : Ml}  {v : Int32} {MR : Mm} (hf : f_X12_read y M = some (v, MR)) : KM g l yX12_read cX12_read 3 (some .int) 6 [.ref y] M N (QI g v MR N) := by
  refine KM.mk hg (by decide) (Nat.le_of_ble_eq_true rfl) ?_
  intro p e s m below meth c ls hC hr hlk hl hP hS
  have hx := hC.1
  have hb := hC.2.1
  have hl : lv_has ls 3 [(0, .ref y)] := hl
  have L75 : ∀ (n : Nat) (x1 : Int32) (x2 : Int32) (M : Mm) (H : Heap) (locs : List Loc) (ls : Array Slot), f_X12_read_L75 y n x1 x2 M = some (v, MR) → wP g M N H → va_S (wA g) s.heap H locs → lv_has ls 3 [(0, .ref y), (1, .int x1), (2, .int x2)] → W p l e (rmD 6) s m ([.ref y] : List Value).toArray below meth c H locs 0 0 (MQ below (QI g v MR N) ([.ref y] : List Value).toArray s 0 0 (wA g)) (F0 m 75 ls []) := by
    intro n
    induction n with
    | zero =>
      intro x1 x2 M H locs ls hf
      exact absurd hf (by simp [f_X12_read_L75])
    | succ n ih =>
      intro x1 x2 M H locs ls hf hP hS hl
      unfold f_X12_read_L75 at hf
      refine lv_iload_n hx hb dX12_read_75 rfl (lv_at hl 2 rfl) ?_
      refine lv_sipush (v := (151 : Int32)) hx hb dX12_read_76 (by decide) ?_
      refine lv_icmp_ge (tgt := 100) hx hb dX12_read_79 (by decide) (fun c14 => ?_) (fun c14 => ?_)
      · have hf := if_t c14 hf
        refine lv_iload_n hx hb dX12_read_100 rfl (lv_at hl 1 rfl) ?_
        exact e_IM hC hr hlk hP hS dX12_read_101 hf
      · have hf := if_f c14 hf
        refine lv_aload_n hx hb dX12_read_82 rfl (lv_at hl 0 rfl) ?_
        refine r_getR hC hP hO.1 fl_X12_7 rfl dX12_read_83 ?_
        refine lv_iload_n hx hb dX12_read_86 rfl (lv_at hl 2 rfl) ?_
        refine lv_aload_n hx hb dX12_read_87 rfl (lv_at hl 0 rfl) ?_
        refine r_getR hC hP hO.1 fl_X12_48 rfl dX12_read_88 ?_
        refine lv_iload_n hx hb dX12_read_91 rfl (lv_at hl 2 rfl) ?_
        obtain ⟨hb15, hf⟩ := ck_s hf
        refine r_iald hC hP hO.2.2.2.2.2.2.2.2.2.2.2.2.1 hb15 dX12_read_92 ?_
        obtain ⟨hb16, hf⟩ := ck_s hf
        refine r_iast hC hP hS hO.2.1 hb16 dX12_read_93 (fun H locs hP hS => ?_)
        obtain ⟨M17, eM17, hf, hP⟩ := bsM hf hP
        obtain ⟨z18, ez18, hf⟩ := bsJ hf
        refine lv_iinc (v := z18) (lv' := [(2, .int z18), (0, .ref y), (1, .int x1)]) hx hb dX12_read_94 hl (k := 2) rfl (by rw [ez18]; rfl) (by decide) rfl (fun ls hl => ?_)
        refine lv_goto (tgt := 75) hx hb dX12_read_97 (by decide) ?_
        exact ih x1 z18 M17 _ _ _ hf hP hS (lv_sub hl [1, 2, 0] rfl)
  have L33 : ∀ (n : Nat) (x1 : Int32) (M : Mm) (H : Heap) (locs : List Loc) (ls : Array Slot), f_X12_read_L33 y n x1 M = some (v, MR) → wP g M N H → va_S (wA g) s.heap H locs → lv_has ls 3 [(0, .ref y), (1, .int x1)] → W p l e (rmD 6) s m ([.ref y] : List Value).toArray below meth c H locs 0 0 (MQ below (QI g v MR N) ([.ref y] : List Value).toArray s 0 0 (wA g)) (F0 m 33 ls []) := by
    intro n
    induction n with
    | zero =>
      intro x1 M H locs ls hf
      exact absurd hf (by simp [f_X12_read_L33])
    | succ n ih =>
      intro x1 M H locs ls hf hP hS hl
      unfold f_X12_read_L33 at hf
      refine lv_aload_n hx hb dX12_read_33 rfl (lv_at hl 0 rfl) ?_
      refine r_getI hC hP hO.1 fl_X12_233 rfl dX12_read_34 ?_
      refine lv_if_eq (tgt := 73) hx hb dX12_read_37 (by decide) (fun c13 => ?_) (fun c13 => ?_)
      · have hf := if_t c13 hf
        refine lv_iconst (v := (0 : Int32)) hx hb dX12_read_73 (by decide) ?_
        refine lv_istore_n (lv' := [(2, .int (0 : Int32)), (0, .ref y), (1, .int x1)]) hx hb dX12_read_74 rfl hl (by decide) rfl (fun ls hl => ?_)
        exact L75 _ x1 (0 : Int32) M _ _ _ hf hP hS (lv_sub hl [1, 2, 0] rfl)
      · have hf := if_f c13 hf
        refine lv_aload_n hx hb dX12_read_40 rfl (lv_at hl 0 rfl) ?_
        obtain ⟨r19, M21, hu20, hf⟩ := bd2_s hf
        refine r_goI (r_runV (As := []) (rest := []) hC hP hS (k_X12_readsItem hg hO hu20) cw_X12_266 q_459 q_460 q_461 (Rm.D 5 6 rfl) hO.1 rfl rfl hl.1 rfl (Nat.le_of_ble_eq_true rfl) dX12_read_41) hS (fun H locs hP hS => ?_)
        refine lv_if_eq (tgt := 55) hx hb dX12_read_44 (by decide) (fun c22 => ?_) (fun c22 => ?_)
        · have hf := if_t c22 hf
          refine lv_bipush (v := (-10 : Int32)) hx hb dX12_read_55 (by decide) ?_
          refine lv_aload_n hx hb dX12_read_57 rfl (lv_at hl 0 rfl) ?_
          refine r_getI hC hP hO.1 fl_X12_227 rfl dX12_read_58 ?_
          refine lv_isub hx hb dX12_read_61 ?_
          exact e_IM hC hr hlk hP hS dX12_read_62 hf
        · have hf := if_f c22 hf
          refine lv_aload_n hx hb dX12_read_47 rfl (lv_at hl 0 rfl) ?_
          refine r_getI hC hP hO.1 fl_X12_233 rfl dX12_read_48 ?_
          refine lv_iconst (v := (3 : Int32)) hx hb dX12_read_51 (by decide) ?_
          refine lv_icmp_eq (tgt := 63) hx hb dX12_read_52 (by decide) (fun c23 => ?_) (fun c23 => ?_)
          · have hf := if_t c23 hf
            refine lv_aload_n hx hb dX12_read_63 rfl (lv_at hl 0 rfl) ?_
            obtain ⟨M26, hu25, hf⟩ := bd_s hf
            refine r_goV (r_runV (As := []) (rest := []) hC hP hS (k_X12_goOn hg hO hu25) cw_X12_248 q_451 q_452 q_453 (Rm.D 3 6 rfl) hO.1 rfl rfl hl.1 rfl (Nat.le_of_ble_eq_true rfl) dX12_read_64) hS (fun H locs hP hS => ?_)
            obtain ⟨z27, ez27, hf⟩ := bsJ hf
            refine lv_iinc (v := z27) (lv' := [(1, .int z27), (0, .ref y)]) hx hb dX12_read_67 hl (k := 1) rfl (by rw [ez27]; rfl) (by decide) rfl (fun ls hl => ?_)
            refine lv_goto (tgt := 33) hx hb dX12_read_70 (by decide) ?_
            exact ih z27 M26 _ _ _ hf hP hS (lv_sub hl [1, 0] rfl)
          · have hf := if_f c23 hf
            refine lv_bipush (v := (-10 : Int32)) hx hb dX12_read_55 (by decide) ?_
            refine lv_aload_n hx hb dX12_read_57 rfl (lv_at hl 0 rfl) ?_
            refine r_getI hC hP hO.1 fl_X12_227 rfl dX12_read_58 ?_
            refine lv_isub hx hb dX12_read_61 ?_
            exact e_IM hC hr hlk hP hS dX12_read_62 hf
  unfold f_X12_read at hf
  refine lv_aload_n hx hb dX12_read_0 rfl (lv_at hl 0 rfl) ?_
  refine r_getR hC hP hO.1 fl_X12_51 rfl dX12_read_1 ?_
  refine lv_iconst (v := (0 : Int32)) hx hb dX12_read_4 (by decide) ?_
  refine lv_iconst (v := (4 : Int32)) hx hb dX12_read_5 (by decide) ?_
  obtain ⟨hb1, hf⟩ := ck_s hf
  refine r_iast hC hP hS hO.2.2.2.2.2.2.2.2.2.2.2.2.2 hb1 dX12_read_6 (fun H locs hP hS => ?_)
  obtain ⟨M2, eM2, hf, hP⟩ := bsM hf hP
  refine lv_aload_n hx hb dX12_read_7 rfl (lv_at hl 0 rfl) ?_
  refine lv_iconst (v := (0 : Int32)) hx hb dX12_read_8 (by decide) ?_
  obtain ⟨M5, hu4, hf⟩ := bd_s hf
  refine r_goV (r_runV (As := [.int (0 : Int32)]) (rest := []) hC hP hS (k_X12_look hg hO hu4) cw_X12_245 q_427 q_428 q_429 (Rm.D 2 6 rfl) hO.1 rfl rfl hl.1 rfl (Nat.le_of_ble_eq_true rfl) dX12_read_9) hS (fun H locs hP hS => ?_)
  refine lv_aload_n hx hb dX12_read_12 rfl (lv_at hl 0 rfl) ?_
  obtain ⟨r6, M8, hu7, hf⟩ := bd2_s hf
  refine r_goI (r_runV (As := []) (rest := []) hC hP hS (k_X12_readsFirst hg hO hu7) cw_X12_262 q_443 q_444 q_445 (Rm.D 5 6 rfl) hO.1 rfl rfl hl.1 rfl (Nat.le_of_ble_eq_true rfl) dX12_read_13) hS (fun H locs hP hS => ?_)
  refine lv_if_ne (tgt := 27) hx hb dX12_read_16 (by decide) (fun c9 => ?_) (fun c9 => ?_)
  · have hf := if_f c9 hf
    refine lv_aload_n hx hb dX12_read_27 rfl (lv_at hl 0 rfl) ?_
    obtain ⟨M12, hu11, hf⟩ := bd_s hf
    refine r_goV (r_runV (As := []) (rest := []) hC hP hS (k_X12_goOn hg hO hu11) cw_X12_248 q_451 q_452 q_453 (Rm.D 3 6 rfl) hO.1 rfl rfl hl.1 rfl (Nat.le_of_ble_eq_true rfl) dX12_read_28) hS (fun H locs hP hS => ?_)
    refine lv_iconst (v := (1 : Int32)) hx hb dX12_read_31 (by decide) ?_
    refine lv_istore_n (lv' := [(1, .int (1 : Int32)), (0, .ref y)]) hx hb dX12_read_32 rfl hl (by decide) rfl (fun ls hl => ?_)
    exact L33 _ (1 : Int32) M12 _ _ _ hf hP hS (lv_sub hl [1, 0] rfl)
  · have hf := if_t c9 hf
    refine lv_bipush (v := (-10 : Int32)) hx hb dX12_read_19 (by decide) ?_
    refine lv_aload_n hx hb dX12_read_21 rfl (lv_at hl 0 rfl) ?_
    refine r_getI hC hP hO.1 fl_X12_227 rfl dX12_read_22 ?_
    refine lv_isub hx hb dX12_read_25 ?_
    exact e_IM hC hr hlk hP hS dX12_read_26 hf
set_option maxRecDepth 100000 in
set_option maxHeartbeats 4000000 in
theorem k_X12_ring {g : Ev} {l : Launch} (hg : g.2.1.Nodup) {y : Nat} (hO : oModel g y) {M : Mm} {N : Ml} {p0 : Int32} {v : Int32} {MR : Mm} (hf : f_X12_ring y p0 M = some (v, MR)) : KM g l yX12_ring cX12_ring 3 (some .int) 1 [.ref y, .int p0] M N (QI g v MR N) := by
  refine KM.mk hg (by decide) (Nat.le_of_ble_eq_true rfl) ?_
  intro p e s m below meth c ls hC hr hlk hl hP hS
  have hx := hC.1
  have hb := hC.2.1
  have hl : lv_has ls 3 [(0, .ref y), (1, .int p0)] := hl
  unfold f_X12_ring at hf
  refine lv_iload_n hx hb dX12_ring_0 rfl (lv_at hl 1 rfl) ?_
  refine lv_i2l hx hb dX12_ring_1 rfl ?_
  refine lv_ldc2 (v := (4 : Int64)) hx hb hC.2.2.2.1 (hC.2.2.2.2.1 _ q_191) dX12_ring_2 ?_
  refine lv_ldc2 (v := (24 : Int64)) hx hb hC.2.2.2.1 (hC.2.2.2.2.1 _ q_192) dX12_ring_5 ?_
  obtain ⟨r1, hu2, hf⟩ := bd_s hf
  refine r_goI (r_runS (As := [.long p0.toInt64, .long (4 : Int64), .long (24 : Int64)]) (rest := []) hC hP hS (k_X12_in hg hu2) cw_X12_60 q_193 q_194 (Rm.D 0 1 rfl) rfl hl.1 rfl (Nat.le_of_ble_eq_true rfl) dX12_ring_8) hS (fun H locs hP hS => ?_)
  refine lv_if_ne (tgt := 21) hx hb dX12_ring_11 (by decide) (fun c4 => ?_) (fun c4 => ?_)
  · have hf := if_f c4 hf
    refine lv_aload_n hx hb dX12_ring_21 rfl (lv_at hl 0 rfl) ?_
    obtain ⟨r5, hu6, hf⟩ := bd_s hf
    refine r_goI (r_runV (As := []) (rest := []) hC hP hS (k_X12_places hg hO hu6) cw_X12_64 q_200 q_201 q_202 (Rm.D 0 1 rfl) hO.1 rfl rfl hl.1 rfl (Nat.le_of_ble_eq_true rfl) dX12_ring_22) hS (fun H locs hP hS => ?_)
    refine lv_istore_n (lv' := [(2, .int r5), (0, .ref y), (1, .int p0)]) hx hb dX12_ring_25 rfl hl (by decide) rfl (fun ls hl => ?_)
    refine lv_aload_n hx hb dX12_ring_26 rfl (lv_at hl 1 rfl) ?_
    refine r_getR hC hP hO.1 fl_X12_7 rfl dX12_ring_27 ?_
    refine lv_iload_n hx hb dX12_ring_30 rfl (lv_at hl 2 rfl) ?_
    obtain ⟨M10, hu9, hf⟩ := bd_s hf
    refine r_goV (r_runS (As := [.ref (y + 1), .int p0]) (rest := []) hC hP hS (k_X12_begin hg hO.2.1 hu9) cw_X12_54 q_167 q_168 (Rm.D 0 1 rfl) rfl hl.1 rfl (Nat.le_of_ble_eq_true rfl) dX12_ring_31) hS (fun H locs hP hS => ?_)
    refine lv_iload_n hx hb dX12_ring_34 rfl (lv_at hl 0 rfl) ?_
    exact e_IM hC hr hlk hP hS dX12_ring_35 hf
  · have hf := if_t c4 hf
    refine lv_aload_n hx hb dX12_ring_14 rfl (lv_at hl 0 rfl) ?_
    refine lv_bipush (v := (-2 : Int32)) hx hb dX12_ring_15 (by decide) ?_
    obtain ⟨r11, M13, hu12, hf⟩ := bd2_s hf
    refine r_goI (r_runV (As := [.int (-2 : Int32)]) (rest := []) hC hP hS (k_X12_bad hg hO hu12) cw_X12_73 q_196 q_197 q_198 (Rm.D 0 1 rfl) hO.1 rfl rfl hl.1 rfl (Nat.le_of_ble_eq_true rfl) dX12_ring_17) hS (fun H locs hP hS => ?_)
    exact e_IM hC hr hlk hP hS dX12_ring_20 hf
set_option maxRecDepth 100000 in
set_option maxHeartbeats 4000000 in
theorem k_X12_road {g : Ev} {l : Launch} (hg : g.2.1.Nodup) {y : Nat} (hO : oModel g y) {M : Mm} {N : Ml} {p0 : Int32} {p1 : Int32} {p2 : Int32} {v : Int32} {MR : Mm} (hf : f_X12_road y p0 p1 p2 M = some (v, MR)) : KM g l yX12_road cX12_road 10 (some .int) 4 [.ref y, .int p0, .int p1, .int p2] M N (QI g v MR N) := by
  refine KM.mk hg (by decide) (Nat.le_of_ble_eq_true rfl) ?_
  intro p e s m below meth c ls hC hr hlk hl hP hS
  have hx := hC.1
  have hb := hC.2.1
  have hl : lv_has ls 10 [(0, .ref y), (1, .int p0), (2, .int p1), (3, .int p2)] := hl
  have J25 : ∀ (M : Mm) (H : Heap) (locs : List Loc) (ls : Array Slot), f_X12_road_J25 y M = some (v, MR) → wP g M N H → va_S (wA g) s.heap H locs → lv_has ls 10 [(0, .ref y)] → W p l e (rmD 4) s m ([.ref y, .int p0, .int p1, .int p2] : List Value).toArray below meth c H locs 0 0 (MQ below (QI g v MR N) ([.ref y, .int p0, .int p1, .int p2] : List Value).toArray s 0 0 (wA g)) (F0 m 25 ls []) := by
    intro M H locs ls hf hP hS hl
    unfold f_X12_road_J25 at hf
    refine lv_aload_n hx hb dX12_road_25 rfl (lv_at hl 0 rfl) ?_
    refine lv_bipush (v := (-10 : Int32)) hx hb dX12_road_26 (by decide) ?_
    obtain ⟨r5, M7, hu6, hf⟩ := bd2_s hf
    refine r_goI (r_runV (As := [.int (-10 : Int32)]) (rest := []) hC hP hS (k_X12_bad hg hO hu6) cw_X12_73 q_196 q_197 q_198 (Rm.D 0 4 rfl) hO.1 rfl rfl hl.1 rfl (Nat.le_of_ble_eq_true rfl) dX12_road_28) hS (fun H locs hP hS => ?_)
    exact e_IM hC hr hlk hP hS dX12_road_31 hf
  have J154 : ∀ (x4 : Int32) (M : Mm) (H : Heap) (locs : List Loc) (ls : Array Slot), f_X12_road_J154 y x4 M = some (v, MR) → wP g M N H → va_S (wA g) s.heap H locs → lv_has ls 10 [(4, .int x4)] → W p l e (rmD 4) s m ([.ref y, .int p0, .int p1, .int p2] : List Value).toArray below meth c H locs 0 0 (MQ below (QI g v MR N) ([.ref y, .int p0, .int p1, .int p2] : List Value).toArray s 0 0 (wA g)) (F0 m 154 ls []) := by
    intro x4 M H locs ls hf hP hS hl
    unfold f_X12_road_J154 at hf
    refine lv_iload hx hb dX12_road_154 (lv_at hl 0 rfl) ?_
    refine lv_goto (tgt := 161) hx hb dX12_road_156 (by decide) ?_
    exact e_IM hC hr hlk hP hS dX12_road_161 hf
  have J144 : ∀ (x3 : Int32) (x4 : Int32) (x5 : Int32) (M : Mm) (H : Heap) (locs : List Loc) (ls : Array Slot), f_X12_road_J144 y x3 x4 x5 M = some (v, MR) → wP g M N H → va_S (wA g) s.heap H locs → lv_has ls 10 [(3, .int x3), (4, .int x4), (5, .int x5)] → W p l e (rmD 4) s m ([.ref y, .int p0, .int p1, .int p2] : List Value).toArray below meth c H locs 0 0 (MQ below (QI g v MR N) ([.ref y, .int p0, .int p1, .int p2] : List Value).toArray s 0 0 (wA g)) (F0 m 144 ls []) := by
    intro x3 x4 x5 M H locs ls hf hP hS hl
    unfold f_X12_road_J144 at hf
    refine lv_iload_n hx hb dX12_road_144 rfl (lv_at hl 0 rfl) ?_
    refine lv_if_eq (tgt := 154) hx hb dX12_road_145 (by decide) (fun c23 => ?_) (fun c23 => ?_)
    · have hf := if_t c23 hf
      exact J154 x4 M _ _ _ hf hP hS (lv_sub hl [1] rfl)
    · have hf := if_f c23 hf
      refine lv_iload hx hb dX12_road_148 (lv_at hl 1 rfl) ?_
      refine lv_iconst (v := (-1 : Int32)) hx hb dX12_road_150 (by decide) ?_
      refine lv_icmp_ne (tgt := 159) hx hb dX12_road_151 (by decide) (fun c24 => ?_) (fun c24 => ?_)
      · have hf := if_f c24 hf
        refine lv_iload hx hb dX12_road_159 (lv_at hl 2 rfl) ?_
        exact e_IM hC hr hlk hP hS dX12_road_161 hf
      · have hf := if_t c24 hf
        exact J154 x4 M _ _ _ hf hP hS (lv_sub hl [1] rfl)
  have J136 : ∀ (kb52 : Int32 → Int32 → Int32 → Int32 → Int32 → Int32 → Int32 → Mm → Option (Int32 × Mm)) (hkb52 : ∀ (x1 : Int32) (x2 : Int32) (x3 : Int32) (x4 : Int32) (x5 : Int32) (x6 : Int32) (x7 : Int32) (M : Mm) (H : Heap) (locs : List Loc) (ls : Array Slot), kb52 x1 x2 x3 x4 x5 x6 x7 M = some (v, MR) → wP g M N H → va_S (wA g) s.heap H locs → lv_has ls 10 [(0, .ref y), (1, .int x1), (2, .int x2), (3, .int x3), (4, .int x4), (5, .int x5), (6, .int x6), (7, .int x7)] → W p l e (rmD 4) s m ([.ref y, .int p0, .int p1, .int p2] : List Value).toArray below meth c H locs 0 0 (MQ below (QI g v MR N) ([.ref y, .int p0, .int p1, .int p2] : List Value).toArray s 0 0 (wA g)) (F0 m 52 ls [])) (x1 : Int32) (x2 : Int32) (x3 : Int32) (x4 : Int32) (x5 : Int32) (x7 : Int32) (s0 : Int32) (M : Mm) (H : Heap) (locs : List Loc) (ls : Array Slot), f_X12_road_J136 y x1 x2 x3 x4 x5 x7 s0 M kb52 = some (v, MR) → wP g M N H → va_S (wA g) s.heap H locs → lv_has ls 10 [(0, .ref y), (1, .int x1), (2, .int x2), (3, .int x3), (4, .int x4), (5, .int x5), (7, .int x7)] → W p l e (rmD 4) s m ([.ref y, .int p0, .int p1, .int p2] : List Value).toArray below meth c H locs 0 0 (MQ below (QI g v MR N) ([.ref y, .int p0, .int p1, .int p2] : List Value).toArray s 0 0 (wA g)) (F0 m 136 ls [.int s0]) := by
    intro kb52 hkb52 x1 x2 x3 x4 x5 x7 s0 M H locs ls hf hP hS hl
    unfold f_X12_road_J136 at hf
    refine lv_istore (lv' := [(6, .int s0), (0, .ref y), (1, .int x1), (2, .int x2), (3, .int x3), (4, .int x4), (5, .int x5), (7, .int x7)]) hx hb dX12_road_136 hl (by decide) rfl (fun ls hl => ?_)
    obtain ⟨z37, ez37, hf⟩ := bsJ hf
    refine lv_iinc (v := z37) (lv' := [(7, .int z37), (6, .int s0), (0, .ref y), (1, .int x1), (2, .int x2), (3, .int x3), (4, .int x4), (5, .int x5)]) hx hb dX12_road_138 hl (k := 7) rfl (by rw [ez37]; rfl) (by decide) rfl (fun ls hl => ?_)
    refine lv_goto (tgt := 52) hx hb dX12_road_141 (by decide) ?_
    exact hkb52 x1 x2 x3 x4 x5 s0 z37 M _ _ _ hf hP hS (lv_sub hl [2, 3, 4, 5, 6, 7, 1, 0] rfl)
  have J135 : ∀ (kb52 : Int32 → Int32 → Int32 → Int32 → Int32 → Int32 → Int32 → Mm → Option (Int32 × Mm)) (hkb52 : ∀ (x1 : Int32) (x2 : Int32) (x3 : Int32) (x4 : Int32) (x5 : Int32) (x6 : Int32) (x7 : Int32) (M : Mm) (H : Heap) (locs : List Loc) (ls : Array Slot), kb52 x1 x2 x3 x4 x5 x6 x7 M = some (v, MR) → wP g M N H → va_S (wA g) s.heap H locs → lv_has ls 10 [(0, .ref y), (1, .int x1), (2, .int x2), (3, .int x3), (4, .int x4), (5, .int x5), (6, .int x6), (7, .int x7)] → W p l e (rmD 4) s m ([.ref y, .int p0, .int p1, .int p2] : List Value).toArray below meth c H locs 0 0 (MQ below (QI g v MR N) ([.ref y, .int p0, .int p1, .int p2] : List Value).toArray s 0 0 (wA g)) (F0 m 52 ls [])) (x1 : Int32) (x2 : Int32) (x3 : Int32) (x4 : Int32) (x5 : Int32) (x7 : Int32) (M : Mm) (H : Heap) (locs : List Loc) (ls : Array Slot), f_X12_road_J135 y x1 x2 x3 x4 x5 x7 M kb52 = some (v, MR) → wP g M N H → va_S (wA g) s.heap H locs → lv_has ls 10 [(0, .ref y), (1, .int x1), (2, .int x2), (3, .int x3), (4, .int x4), (5, .int x5), (7, .int x7)] → W p l e (rmD 4) s m ([.ref y, .int p0, .int p1, .int p2] : List Value).toArray below meth c H locs 0 0 (MQ below (QI g v MR N) ([.ref y, .int p0, .int p1, .int p2] : List Value).toArray s 0 0 (wA g)) (F0 m 135 ls []) := by
    intro kb52 hkb52 x1 x2 x3 x4 x5 x7 M H locs ls hf hP hS hl
    unfold f_X12_road_J135 at hf
    refine lv_iconst (v := (0 : Int32)) hx hb dX12_road_135 (by decide) ?_
    exact J136 _ hkb52 x1 x2 x3 x4 x5 x7 (0 : Int32) M _ _ _ hf hP hS (lv_sub hl [0, 1, 2, 3, 4, 5, 6] rfl)
  have J117 : ∀ (kb52 : Int32 → Int32 → Int32 → Int32 → Int32 → Int32 → Int32 → Mm → Option (Int32 × Mm)) (hkb52 : ∀ (x1 : Int32) (x2 : Int32) (x3 : Int32) (x4 : Int32) (x5 : Int32) (x6 : Int32) (x7 : Int32) (M : Mm) (H : Heap) (locs : List Loc) (ls : Array Slot), kb52 x1 x2 x3 x4 x5 x6 x7 M = some (v, MR) → wP g M N H → va_S (wA g) s.heap H locs → lv_has ls 10 [(0, .ref y), (1, .int x1), (2, .int x2), (3, .int x3), (4, .int x4), (5, .int x5), (6, .int x6), (7, .int x7)] → W p l e (rmD 4) s m ([.ref y, .int p0, .int p1, .int p2] : List Value).toArray below meth c H locs 0 0 (MQ below (QI g v MR N) ([.ref y, .int p0, .int p1, .int p2] : List Value).toArray s 0 0 (wA g)) (F0 m 52 ls [])) (x1 : Int32) (x2 : Int32) (x3 : Int32) (x4 : Int32) (x7 : Int32) (x9 : Int32) (s0 : Int32) (s1 : Int32) (M : Mm) (H : Heap) (locs : List Loc) (ls : Array Slot), f_X12_road_J117 y x1 x2 x3 x4 x7 x9 s0 s1 M kb52 = some (v, MR) → wP g M N H → va_S (wA g) s.heap H locs → lv_has ls 10 [(0, .ref y), (1, .int x1), (2, .int x2), (3, .int x3), (4, .int x4), (7, .int x7), (9, .int x9)] → W p l e (rmD 4) s m ([.ref y, .int p0, .int p1, .int p2] : List Value).toArray below meth c H locs 0 0 (MQ below (QI g v MR N) ([.ref y, .int p0, .int p1, .int p2] : List Value).toArray s 0 0 (wA g)) (F0 m 117 ls [.int s1, .int s0]) := by
    intro kb52 hkb52 x1 x2 x3 x4 x7 x9 s0 s1 M H locs ls hf hP hS hl
    unfold f_X12_road_J117 at hf
    refine lv_iadd hx hb dX12_road_117 ?_
    refine lv_topi (fun z35 ez35 => ?_)
    have hf := bs ez35 hf
    refine lv_istore (lv' := [(5, .int z35), (0, .ref y), (1, .int x1), (2, .int x2), (3, .int x3), (4, .int x4), (7, .int x7), (9, .int x9)]) hx hb dX12_road_118 hl (by decide) rfl (fun ls hl => ?_)
    refine lv_iload hx hb dX12_road_120 (lv_at hl 5 rfl) ?_
    refine lv_iconst (v := (-1 : Int32)) hx hb dX12_road_122 (by decide) ?_
    refine lv_icmp_eq (tgt := 135) hx hb dX12_road_123 (by decide) (fun c36 => ?_) (fun c36 => ?_)
    · have hf := if_t c36 hf
      exact J135 _ hkb52 x1 x2 x3 x4 z35 x7 M _ _ _ hf hP hS (lv_sub hl [1, 2, 3, 4, 5, 0, 6] rfl)
    · have hf := if_f c36 hf
      refine lv_iload hx hb dX12_road_126 (lv_at hl 7 rfl) ?_
      refine lv_if_ne (tgt := 135) hx hb dX12_road_128 (by decide) (fun c38 => ?_) (fun c38 => ?_)
      · have hf := if_f c38 hf
        exact J135 _ hkb52 x1 x2 x3 x4 z35 x7 M _ _ _ hf hP hS (lv_sub hl [1, 2, 3, 4, 5, 0, 6] rfl)
      · have hf := if_t c38 hf
        refine lv_iconst (v := (1 : Int32)) hx hb dX12_road_131 (by decide) ?_
        refine lv_goto (tgt := 136) hx hb dX12_road_132 (by decide) ?_
        exact J136 _ hkb52 x1 x2 x3 x4 z35 x7 (1 : Int32) M _ _ _ hf hP hS (lv_sub hl [1, 2, 3, 4, 5, 0, 6] rfl)
  have J103 : ∀ (kb52 : Int32 → Int32 → Int32 → Int32 → Int32 → Int32 → Int32 → Mm → Option (Int32 × Mm)) (hkb52 : ∀ (x1 : Int32) (x2 : Int32) (x3 : Int32) (x4 : Int32) (x5 : Int32) (x6 : Int32) (x7 : Int32) (M : Mm) (H : Heap) (locs : List Loc) (ls : Array Slot), kb52 x1 x2 x3 x4 x5 x6 x7 M = some (v, MR) → wP g M N H → va_S (wA g) s.heap H locs → lv_has ls 10 [(0, .ref y), (1, .int x1), (2, .int x2), (3, .int x3), (4, .int x4), (5, .int x5), (6, .int x6), (7, .int x7)] → W p l e (rmD 4) s m ([.ref y, .int p0, .int p1, .int p2] : List Value).toArray below meth c H locs 0 0 (MQ below (QI g v MR N) ([.ref y, .int p0, .int p1, .int p2] : List Value).toArray s 0 0 (wA g)) (F0 m 52 ls [])) (x1 : Int32) (x2 : Int32) (x3 : Int32) (x5 : Int32) (x7 : Int32) (x9 : Int32) (s0 : Int32) (M : Mm) (H : Heap) (locs : List Loc) (ls : Array Slot), f_X12_road_J103 y x1 x2 x3 x5 x7 x9 s0 M kb52 = some (v, MR) → wP g M N H → va_S (wA g) s.heap H locs → lv_has ls 10 [(0, .ref y), (1, .int x1), (2, .int x2), (3, .int x3), (5, .int x5), (7, .int x7), (9, .int x9)] → W p l e (rmD 4) s m ([.ref y, .int p0, .int p1, .int p2] : List Value).toArray below meth c H locs 0 0 (MQ below (QI g v MR N) ([.ref y, .int p0, .int p1, .int p2] : List Value).toArray s 0 0 (wA g)) (F0 m 103 ls [.int s0]) := by
    intro kb52 hkb52 x1 x2 x3 x5 x7 x9 s0 M H locs ls hf hP hS hl
    unfold f_X12_road_J103 at hf
    refine lv_istore (lv' := [(4, .int s0), (0, .ref y), (1, .int x1), (2, .int x2), (3, .int x3), (5, .int x5), (7, .int x7), (9, .int x9)]) hx hb dX12_road_103 hl (by decide) rfl (fun ls hl => ?_)
    refine lv_iload hx hb dX12_road_105 (lv_at hl 5 rfl) ?_
    refine lv_iload hx hb dX12_road_107 (lv_at hl 7 rfl) ?_
    refine lv_if_eq (tgt := 116) hx hb dX12_road_109 (by decide) (fun c34 => ?_) (fun c34 => ?_)
    · have hf := if_t c34 hf
      refine lv_iconst (v := (0 : Int32)) hx hb dX12_road_116 (by decide) ?_
      exact J117 _ hkb52 x1 x2 x3 s0 x7 x9 x5 (0 : Int32) M _ _ _ hf hP hS (lv_sub hl [1, 2, 3, 4, 0, 6, 7] rfl)
    · have hf := if_f c34 hf
      refine lv_iconst (v := (1 : Int32)) hx hb dX12_road_112 (by decide) ?_
      refine lv_goto (tgt := 117) hx hb dX12_road_113 (by decide) ?_
      exact J117 _ hkb52 x1 x2 x3 s0 x7 x9 x5 (1 : Int32) M _ _ _ hf hP hS (lv_sub hl [1, 2, 3, 4, 0, 6, 7] rfl)
  have J101 : ∀ (kb52 : Int32 → Int32 → Int32 → Int32 → Int32 → Int32 → Int32 → Mm → Option (Int32 × Mm)) (hkb52 : ∀ (x1 : Int32) (x2 : Int32) (x3 : Int32) (x4 : Int32) (x5 : Int32) (x6 : Int32) (x7 : Int32) (M : Mm) (H : Heap) (locs : List Loc) (ls : Array Slot), kb52 x1 x2 x3 x4 x5 x6 x7 M = some (v, MR) → wP g M N H → va_S (wA g) s.heap H locs → lv_has ls 10 [(0, .ref y), (1, .int x1), (2, .int x2), (3, .int x3), (4, .int x4), (5, .int x5), (6, .int x6), (7, .int x7)] → W p l e (rmD 4) s m ([.ref y, .int p0, .int p1, .int p2] : List Value).toArray below meth c H locs 0 0 (MQ below (QI g v MR N) ([.ref y, .int p0, .int p1, .int p2] : List Value).toArray s 0 0 (wA g)) (F0 m 52 ls [])) (x1 : Int32) (x2 : Int32) (x3 : Int32) (x4 : Int32) (x5 : Int32) (x7 : Int32) (x9 : Int32) (M : Mm) (H : Heap) (locs : List Loc) (ls : Array Slot), f_X12_road_J101 y x1 x2 x3 x4 x5 x7 x9 M kb52 = some (v, MR) → wP g M N H → va_S (wA g) s.heap H locs → lv_has ls 10 [(0, .ref y), (1, .int x1), (2, .int x2), (3, .int x3), (4, .int x4), (5, .int x5), (7, .int x7), (9, .int x9)] → W p l e (rmD 4) s m ([.ref y, .int p0, .int p1, .int p2] : List Value).toArray below meth c H locs 0 0 (MQ below (QI g v MR N) ([.ref y, .int p0, .int p1, .int p2] : List Value).toArray s 0 0 (wA g)) (F0 m 101 ls []) := by
    intro kb52 hkb52 x1 x2 x3 x4 x5 x7 x9 M H locs ls hf hP hS hl
    unfold f_X12_road_J101 at hf
    refine lv_iload hx hb dX12_road_101 (lv_at hl 4 rfl) ?_
    exact J103 _ hkb52 x1 x2 x3 x5 x7 x9 x4 M _ _ _ hf hP hS (lv_sub hl [0, 1, 2, 3, 5, 6, 7] rfl)
  have J76 : ∀ (kb52 : Int32 → Int32 → Int32 → Int32 → Int32 → Int32 → Int32 → Mm → Option (Int32 × Mm)) (hkb52 : ∀ (x1 : Int32) (x2 : Int32) (x3 : Int32) (x4 : Int32) (x5 : Int32) (x6 : Int32) (x7 : Int32) (M : Mm) (H : Heap) (locs : List Loc) (ls : Array Slot), kb52 x1 x2 x3 x4 x5 x6 x7 M = some (v, MR) → wP g M N H → va_S (wA g) s.heap H locs → lv_has ls 10 [(0, .ref y), (1, .int x1), (2, .int x2), (3, .int x3), (4, .int x4), (5, .int x5), (6, .int x6), (7, .int x7)] → W p l e (rmD 4) s m ([.ref y, .int p0, .int p1, .int p2] : List Value).toArray below meth c H locs 0 0 (MQ below (QI g v MR N) ([.ref y, .int p0, .int p1, .int p2] : List Value).toArray s 0 0 (wA g)) (F0 m 52 ls [])) (x1 : Int32) (x2 : Int32) (x3 : Int32) (x4 : Int32) (x5 : Int32) (x7 : Int32) (s0 : Int32) (M : Mm) (H : Heap) (locs : List Loc) (ls : Array Slot), f_X12_road_J76 y x1 x2 x3 x4 x5 x7 s0 M kb52 = some (v, MR) → wP g M N H → va_S (wA g) s.heap H locs → lv_has ls 10 [(0, .ref y), (1, .int x1), (2, .int x2), (3, .int x3), (4, .int x4), (5, .int x5), (7, .int x7)] → W p l e (rmD 4) s m ([.ref y, .int p0, .int p1, .int p2] : List Value).toArray below meth c H locs 0 0 (MQ below (QI g v MR N) ([.ref y, .int p0, .int p1, .int p2] : List Value).toArray s 0 0 (wA g)) (F0 m 76 ls [.int s0]) := by
    intro kb52 hkb52 x1 x2 x3 x4 x5 x7 s0 M H locs ls hf hP hS hl
    unfold f_X12_road_J76 at hf
    refine lv_istore (lv' := [(8, .int s0), (0, .ref y), (1, .int x1), (2, .int x2), (3, .int x3), (4, .int x4), (5, .int x5), (7, .int x7)]) hx hb dX12_road_76 hl (by decide) rfl (fun ls hl => ?_)
    refine lv_aload_n hx hb dX12_road_78 rfl (lv_at hl 1 rfl) ?_
    refine lv_iload_n hx hb dX12_road_79 rfl (lv_at hl 2 rfl) ?_
    obtain ⟨r30, hu31, hf⟩ := bd_s hf
    refine r_goI (r_runV (As := [.int x1]) (rest := []) hC hP hS (k_X12_isRoad hg hO hu31) cw_X12_182 q_794 q_795 q_796 (Rm.D 0 4 rfl) hO.1 rfl rfl hl.1 rfl (Nat.le_of_ble_eq_true rfl) dX12_road_80) hS (fun H locs hP hS => ?_)
    refine lv_istore (lv' := [(9, .int r30), (8, .int s0), (0, .ref y), (1, .int x1), (2, .int x2), (3, .int x3), (4, .int x4), (5, .int x5), (7, .int x7)]) hx hb dX12_road_83 hl (by decide) rfl (fun ls hl => ?_)
    refine lv_iload hx hb dX12_road_85 (lv_at hl 0 rfl) ?_
    refine lv_if_eq (tgt := 101) hx hb dX12_road_87 (by decide) (fun c33 => ?_) (fun c33 => ?_)
    · have hf := if_t c33 hf
      exact J101 _ hkb52 x1 x2 x3 x4 x5 x7 r30 M _ _ _ hf hP hS (lv_sub hl [2, 3, 4, 5, 6, 7, 8, 0] rfl)
    · have hf := if_f c33 hf
      refine lv_iload hx hb dX12_road_90 (lv_at hl 6 rfl) ?_
      refine lv_iconst (v := (-1 : Int32)) hx hb dX12_road_92 (by decide) ?_
      refine lv_icmp_ne (tgt := 101) hx hb dX12_road_93 (by decide) (fun c39 => ?_) (fun c39 => ?_)
      · have hf := if_f c39 hf
        exact J101 _ hkb52 x1 x2 x3 x4 x5 x7 r30 M _ _ _ hf hP hS (lv_sub hl [2, 3, 4, 5, 6, 7, 8, 0] rfl)
      · have hf := if_t c39 hf
        refine lv_iload hx hb dX12_road_96 (lv_at hl 8 rfl) ?_
        refine lv_goto (tgt := 103) hx hb dX12_road_98 (by decide) ?_
        exact J103 _ hkb52 x1 x2 x3 x5 x7 r30 x7 M _ _ _ hf hP hS (lv_sub hl [2, 3, 4, 5, 7, 8, 0] rfl)
  have L52 : ∀ (n : Nat) (x1 : Int32) (x2 : Int32) (x3 : Int32) (x4 : Int32) (x5 : Int32) (x6 : Int32) (x7 : Int32) (M : Mm) (H : Heap) (locs : List Loc) (ls : Array Slot), f_X12_road_L52 y n x1 x2 x3 x4 x5 x6 x7 M = some (v, MR) → wP g M N H → va_S (wA g) s.heap H locs → lv_has ls 10 [(0, .ref y), (1, .int x1), (2, .int x2), (3, .int x3), (4, .int x4), (5, .int x5), (6, .int x6), (7, .int x7)] → W p l e (rmD 4) s m ([.ref y, .int p0, .int p1, .int p2] : List Value).toArray below meth c H locs 0 0 (MQ below (QI g v MR N) ([.ref y, .int p0, .int p1, .int p2] : List Value).toArray s 0 0 (wA g)) (F0 m 52 ls []) := by
    intro n
    induction n with
    | zero =>
      intro x1 x2 x3 x4 x5 x6 x7 M H locs ls hf
      exact absurd hf (by simp [f_X12_road_L52])
    | succ n ih =>
      intro x1 x2 x3 x4 x5 x6 x7 M H locs ls hf hP hS hl
      unfold f_X12_road_L52 at hf
      refine lv_iload hx hb dX12_road_52 (lv_at hl 7 rfl) ?_
      refine lv_iload_n hx hb dX12_road_54 rfl (lv_at hl 2 rfl) ?_
      refine lv_icmp_gt (tgt := 144) hx hb dX12_road_55 (by decide) (fun c22 => ?_) (fun c22 => ?_)
      · have hf := if_t c22 hf
        exact J144 x3 x4 x5 M _ _ _ hf hP hS (lv_sub hl [3, 4, 5] rfl)
      · have hf := if_f c22 hf
        refine lv_iload hx hb dX12_road_58 (lv_at hl 6 rfl) ?_
        refine lv_if_ne (tgt := 144) hx hb dX12_road_60 (by decide) (fun c25 => ?_) (fun c25 => ?_)
        · have hf := if_f c25 hf
          exact J144 x3 x4 x5 M _ _ _ hf hP hS (lv_sub hl [3, 4, 5] rfl)
        · have hf := if_t c25 hf
          refine lv_iload hx hb dX12_road_63 (lv_at hl 7 rfl) ?_
          refine lv_if_ne (tgt := 72) hx hb dX12_road_65 (by decide) (fun c26 => ?_) (fun c26 => ?_)
          · have hf := if_f c26 hf
            refine lv_aload_n hx hb dX12_road_72 rfl (lv_at hl 0 rfl) ?_
            obtain ⟨r27, M29, hu28, hf⟩ := bd2_s hf
            refine r_goI (r_runV (As := []) (rest := []) hC hP hS (k_X12_goRound hg hO hu28) cw_X12_134 q_557 q_558 q_559 (Rm.D 3 4 rfl) hO.1 rfl rfl hl.1 rfl (Nat.le_of_ble_eq_true rfl) dX12_road_73) hS (fun H locs hP hS => ?_)
            exact J76 _ ih x1 x2 x3 x4 x5 x7 r27 M29 _ _ _ hf hP hS (lv_sub hl [0, 1, 2, 3, 4, 5, 7] rfl)
          · have hf := if_t c26 hf
            refine lv_iconst (v := (0 : Int32)) hx hb dX12_road_68 (by decide) ?_
            refine lv_goto (tgt := 76) hx hb dX12_road_69 (by decide) ?_
            exact J76 _ ih x1 x2 x3 x4 x5 x7 (0 : Int32) M _ _ _ hf hP hS (lv_sub hl [0, 1, 2, 3, 4, 5, 7] rfl)
  unfold f_X12_road at hf
  refine lv_aload_n hx hb dX12_road_0 rfl (lv_at hl 0 rfl) ?_
  refine lv_iload_n hx hb dX12_road_1 rfl (lv_at hl 1 rfl) ?_
  obtain ⟨r1, hu2, hf⟩ := bd_s hf
  refine r_goI (r_runV (As := [.int p0]) (rest := []) hC hP hS (k_X12_isPlace hg hO hu2) cw_X12_83 q_245 q_246 q_247 (Rm.D 1 4 rfl) hO.1 rfl rfl hl.1 rfl (Nat.le_of_ble_eq_true rfl) dX12_road_2) hS (fun H locs hP hS => ?_)
  refine lv_if_eq (tgt := 25) hx hb dX12_road_5 (by decide) (fun c4 => ?_) (fun c4 => ?_)
  · have hf := if_t c4 hf
    exact J25 M _ _ _ hf hP hS (lv_sub hl [0] rfl)
  · have hf := if_f c4 hf
    refine lv_iload_n hx hb dX12_road_8 rfl (lv_at hl 2 rfl) ?_
    obtain ⟨r8, hu9, hf⟩ := bd_s hf
    refine r_goI (r_runS (As := [.int p1]) (rest := []) hC hP hS (k_X12_isLong hg hu9) cw_X12_163 q_686 q_687 (Rm.D 1 4 rfl) rfl hl.1 rfl (Nat.le_of_ble_eq_true rfl) dX12_road_9) hS (fun H locs hP hS => ?_)
    refine lv_if_eq (tgt := 25) hx hb dX12_road_12 (by decide) (fun c11 => ?_) (fun c11 => ?_)
    · have hf := if_t c11 hf
      exact J25 M _ _ _ hf hP hS (lv_sub hl [0] rfl)
    · have hf := if_f c11 hf
      refine lv_iload_n hx hb dX12_road_15 rfl (lv_at hl 3 rfl) ?_
      refine lv_i2l hx hb dX12_road_16 rfl ?_
      refine lv_lconst (v := (0 : Int64)) hx hb dX12_road_17 (by decide) ?_
      refine lv_lconst (v := (1 : Int64)) hx hb dX12_road_18 (by decide) ?_
      obtain ⟨r12, hu13, hf⟩ := bd_s hf
      refine r_goI (r_runS (As := [.long p2.toInt64, .long (0 : Int64), .long (1 : Int64)]) (rest := []) hC hP hS (k_X12_in hg hu13) cw_X12_60 q_193 q_194 (Rm.D 0 4 rfl) rfl hl.1 rfl (Nat.le_of_ble_eq_true rfl) dX12_road_19) hS (fun H locs hP hS => ?_)
      refine lv_if_ne (tgt := 32) hx hb dX12_road_22 (by decide) (fun c15 => ?_) (fun c15 => ?_)
      · have hf := if_f c15 hf
        refine lv_aload_n hx hb dX12_road_32 rfl (lv_at hl 0 rfl) ?_
        refine lv_aload_n hx hb dX12_road_33 rfl (lv_at hl 0 rfl) ?_
        obtain ⟨r16, hu17, hf⟩ := bd_s hf
        refine r_goI (r_runV (As := []) (rest := [.ref y]) hC hP hS (k_X12_all hg hO hu17) cw_X12_127 q_543 q_544 q_545 (Rm.D 1 4 rfl) hO.1 rfl rfl hl.1 rfl (Nat.le_of_ble_eq_true rfl) dX12_road_34) hS (fun H locs hP hS => ?_)
        obtain ⟨M21, hu20, hf⟩ := bd_s hf
        refine r_goV (r_runV (As := [.int r16]) (rest := []) hC hP hS (k_X12_takeNow hg hO hu20) cw_X12_130 q_547 q_548 q_549 (Rm.D 1 4 rfl) hO.1 rfl rfl hl.1 rfl (Nat.le_of_ble_eq_true rfl) dX12_road_37) hS (fun H locs hP hS => ?_)
        refine lv_iconst (v := (-1 : Int32)) hx hb dX12_road_40 (by decide) ?_
        refine lv_istore (lv' := [(4, .int (-1 : Int32)), (0, .ref y), (1, .int p0), (2, .int p1), (3, .int p2)]) hx hb dX12_road_41 hl (by decide) rfl (fun ls hl => ?_)
        refine lv_iconst (v := (0 : Int32)) hx hb dX12_road_43 (by decide) ?_
        refine lv_istore (lv' := [(5, .int (0 : Int32)), (4, .int (-1 : Int32)), (0, .ref y), (1, .int p0), (2, .int p1), (3, .int p2)]) hx hb dX12_road_44 hl (by decide) rfl (fun ls hl => ?_)
        refine lv_iconst (v := (0 : Int32)) hx hb dX12_road_46 (by decide) ?_
        refine lv_istore (lv' := [(6, .int (0 : Int32)), (5, .int (0 : Int32)), (4, .int (-1 : Int32)), (0, .ref y), (1, .int p0), (2, .int p1), (3, .int p2)]) hx hb dX12_road_47 hl (by decide) rfl (fun ls hl => ?_)
        refine lv_iconst (v := (0 : Int32)) hx hb dX12_road_49 (by decide) ?_
        refine lv_istore (lv' := [(7, .int (0 : Int32)), (6, .int (0 : Int32)), (5, .int (0 : Int32)), (4, .int (-1 : Int32)), (0, .ref y), (1, .int p0), (2, .int p1), (3, .int p2)]) hx hb dX12_road_50 hl (by decide) rfl (fun ls hl => ?_)
        exact L52 _ p0 p1 p2 (-1 : Int32) (0 : Int32) (0 : Int32) (0 : Int32) M21 _ _ _ hf hP hS (lv_sub hl [4, 5, 6, 7, 3, 2, 1, 0] rfl)
      · have hf := if_t c15 hf
        exact J25 M _ _ _ hf hP hS (lv_sub hl [0] rfl)
