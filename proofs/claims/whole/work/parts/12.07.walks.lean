set_option maxRecDepth 100000 in
set_option maxHeartbeats 4000000 in
theorem k_X12_isSmall {g : Ev} {l : Launch} (hg : g.2.1.Nodup)   {M : Mm} {N : Ml} {p0 : Int32} {v : Int32} (hf : f_X12_isSmall p0 M = some v) : KM g l yX12_isSmall cX12_isSmall 1 (some .boolean) 1 [.int p0] M N (QI g v M N) := by
  refine KM.mk hg (by decide) (Nat.le_of_ble_eq_true rfl) ?_
  intro p e s m below meth c ls hC hr hlk hl hP hS
  have hx := hC.1
  have hb := hC.2.1
  have hl : lv_has ls 1 [(0, .int p0)] := hl
  unfold f_X12_isSmall at hf
  refine lv_iload_n hx hb dX12_isSmall_0 rfl (lv_at hl 0 rfl) ?_
  refine lv_i2l hx hb dX12_isSmall_1 rfl ?_
  refine lv_ldc2 (v := (97 : Int64)) hx hb hC.2.2.2.1 (hC.2.2.2.2.1 _ q_436) dX12_isSmall_2 ?_
  refine lv_ldc2 (v := (122 : Int64)) hx hb hC.2.2.2.1 (hC.2.2.2.2.1 _ q_437) dX12_isSmall_5 ?_
  obtain ⟨r1, hu2, hf⟩ := bd_s hf
  refine r_goI (r_runS (As := [.long p0.toInt64, .long (97 : Int64), .long (122 : Int64)]) (rest := []) hC hP hS (k_X12_in hg hu2) cw_X12_60 q_193 q_194 (Rm.D 0 1 rfl) rfl hl.1 rfl (Nat.le_of_ble_eq_true rfl) dX12_isSmall_8) hS (fun H locs hP hS => ?_)
  obtain ⟨hn4, hf⟩ := cb_s hf
  exact e_Z hC hr hlk hn4 hP hS dX12_isSmall_11 hf
set_option maxRecDepth 100000 in
set_option maxHeartbeats 4000000 in
theorem k_X12_isFigure {g : Ev} {l : Launch} (hg : g.2.1.Nodup)   {M : Mm} {N : Ml} {p0 : Int32} {v : Int32} (hf : f_X12_isFigure p0 M = some v) : KM g l yX12_isFigure cX12_isFigure 1 (some .boolean) 1 [.int p0] M N (QI g v M N) := by
  refine KM.mk hg (by decide) (Nat.le_of_ble_eq_true rfl) ?_
  intro p e s m below meth c ls hC hr hlk hl hP hS
  have hx := hC.1
  have hb := hC.2.1
  have hl : lv_has ls 1 [(0, .int p0)] := hl
  unfold f_X12_isFigure at hf
  refine lv_iload_n hx hb dX12_isFigure_0 rfl (lv_at hl 0 rfl) ?_
  refine lv_i2l hx hb dX12_isFigure_1 rfl ?_
  refine lv_ldc2 (v := (48 : Int64)) hx hb hC.2.2.2.1 (hC.2.2.2.2.1 _ q_441) dX12_isFigure_2 ?_
  refine lv_ldc2 (v := (57 : Int64)) hx hb hC.2.2.2.1 (hC.2.2.2.2.1 _ q_442) dX12_isFigure_5 ?_
  obtain ⟨r1, hu2, hf⟩ := bd_s hf
  refine r_goI (r_runS (As := [.long p0.toInt64, .long (48 : Int64), .long (57 : Int64)]) (rest := []) hC hP hS (k_X12_in hg hu2) cw_X12_60 q_193 q_194 (Rm.D 0 1 rfl) rfl hl.1 rfl (Nat.le_of_ble_eq_true rfl) dX12_isFigure_8) hS (fun H locs hP hS => ?_)
  obtain ⟨hn4, hf⟩ := cb_s hf
  exact e_Z hC hr hlk hn4 hP hS dX12_isFigure_11 hf
set_option maxRecDepth 100000 in
set_option maxHeartbeats 4000000 in
theorem k_X12_look {g : Ev} {l : Launch} (hg : g.2.1.Nodup) {y : Nat} (hO : oModel g y) {M : Mm} {N : Ml} {p0 : Int32} {MR : Mm} (hf : f_X12_look y p0 M = some MR) : KM g l yX12_look cX12_look 5 none 2 [.ref y, .int p0] M N (QV g MR N) := by
  refine KM.mk hg (by decide) (Nat.le_of_ble_eq_true rfl) ?_
  intro p e s m below meth c ls hC hr hlk hl hP hS
  have hx := hC.1
  have hb := hC.2.1
  have hl : lv_has ls 5 [(0, .ref y), (1, .int p0)] := hl
  have J299 : ∀ (s1 : Int32) (M : Mm) (H : Heap) (locs : List Loc) (ls : Array Slot), f_X12_look_J299 y s1 M = some MR → wP g M N H → va_S (wA g) s.heap H locs → lv_has ls 5 [] → W p l e (rmD 2) s m ([.ref y, .int p0] : List Value).toArray below meth c H locs 0 0 (MQ below (QV g MR N) ([.ref y, .int p0] : List Value).toArray s 0 0 (wA g)) (F0 m 299 ls [.int s1, .ref y]) := by
    intro s1 M H locs ls hf hP hS hl
    unfold f_X12_look_J299 at hf
    refine r_putI hC hP hS hO.1 fl_X12_233 tyX12 tyX12_ok nmX12 rfl rfl rfl dX12_look_299 (fun H locs hP hS => ?_)
    obtain ⟨M24, eM24, hf, hP⟩ := bsM hf hP
    exact e_VM hC hr hlk hP hS dX12_look_302 hf
  have J295 : ∀ (M : Mm) (H : Heap) (locs : List Loc) (ls : Array Slot), f_X12_look_J295 y M = some MR → wP g M N H → va_S (wA g) s.heap H locs → lv_has ls 5 [(0, .ref y)] → W p l e (rmD 2) s m ([.ref y, .int p0] : List Value).toArray below meth c H locs 0 0 (MQ below (QV g MR N) ([.ref y, .int p0] : List Value).toArray s 0 0 (wA g)) (F0 m 295 ls [.ref y]) := by
    intro M H locs ls hf hP hS hl
    unfold f_X12_look_J295 at hf
    refine lv_aload_n hx hb dX12_look_295 rfl (lv_at hl 0 rfl) ?_
    refine r_getI hC hP hO.1 fl_X12_233 rfl dX12_look_296 ?_
    exact J299 (M y 21) M _ _ _ hf hP hS (lv_sub hl [] rfl)
  have J274 : ∀ (M : Mm) (H : Heap) (locs : List Loc) (ls : Array Slot), f_X12_look_J274 y M = some MR → wP g M N H → va_S (wA g) s.heap H locs → lv_has ls 5 [(0, .ref y)] → W p l e (rmD 2) s m ([.ref y, .int p0] : List Value).toArray below meth c H locs 0 0 (MQ below (QV g MR N) ([.ref y, .int p0] : List Value).toArray s 0 0 (wA g)) (F0 m 274 ls []) := by
    intro M H locs ls hf hP hS hl
    unfold f_X12_look_J274 at hf
    refine lv_aload_n hx hb dX12_look_274 rfl (lv_at hl 0 rfl) ?_
    refine lv_aload_n hx hb dX12_look_275 rfl (lv_at hl 0 rfl) ?_
    refine r_getI hC hP hO.1 fl_X12_233 rfl dX12_look_276 ?_
    refine lv_iconst (v := (2 : Int32)) hx hb dX12_look_279 (by decide) ?_
    refine lv_icmp_ne (tgt := 295) hx hb dX12_look_280 (by decide) (fun c23 => ?_) (fun c23 => ?_)
    · have hf := if_f c23 hf
      exact J295 M _ _ _ hf hP hS (lv_sub hl [0] rfl)
    · have hf := if_t c23 hf
      refine lv_aload_n hx hb dX12_look_283 rfl (lv_at hl 0 rfl) ?_
      refine r_getI hC hP hO.1 fl_X12_230 rfl dX12_look_284 ?_
      refine lv_iconst (v := (3 : Int32)) hx hb dX12_look_287 (by decide) ?_
      refine lv_icmp_le (tgt := 295) hx hb dX12_look_288 (by decide) (fun c25 => ?_) (fun c25 => ?_)
      · have hf := if_t c25 hf
        exact J295 M _ _ _ hf hP hS (lv_sub hl [0] rfl)
      · have hf := if_f c25 hf
        refine lv_iconst (v := (4 : Int32)) hx hb dX12_look_291 (by decide) ?_
        refine lv_goto (tgt := 299) hx hb dX12_look_292 (by decide) ?_
        exact J299 (4 : Int32) M _ _ _ hf hP hS (lv_sub hl [] rfl)
  have L218 : ∀ (n : Nat) (x4 : Int32) (M : Mm) (H : Heap) (locs : List Loc) (ls : Array Slot), f_X12_look_L218 y n x4 M = some MR → wP g M N H → va_S (wA g) s.heap H locs → lv_has ls 5 [(0, .ref y), (4, .int x4)] → W p l e (rmD 2) s m ([.ref y, .int p0] : List Value).toArray below meth c H locs 0 0 (MQ below (QV g MR N) ([.ref y, .int p0] : List Value).toArray s 0 0 (wA g)) (F0 m 218 ls []) := by
    intro n
    induction n with
    | zero =>
      intro x4 M H locs ls hf
      exact absurd hf (by simp [f_X12_look_L218])
    | succ n ih =>
      intro x4 M H locs ls hf hP hS hl
      unfold f_X12_look_L218 at hf
      refine lv_iload hx hb dX12_look_218 (lv_at hl 1 rfl) ?_
      refine lv_aload_n hx hb dX12_look_220 rfl (lv_at hl 0 rfl) ?_
      refine r_getI hC hP hO.1 fl_X12_230 rfl dX12_look_221 ?_
      refine lv_icmp_ge (tgt := 274) hx hb dX12_look_224 (by decide) (fun c22 => ?_) (fun c22 => ?_)
      · have hf := if_t c22 hf
        exact J274 M _ _ _ hf hP hS (lv_sub hl [0] rfl)
      · have hf := if_f c22 hf
        refine lv_iload hx hb dX12_look_227 (lv_at hl 1 rfl) ?_
        refine lv_iconst (v := (3 : Int32)) hx hb dX12_look_229 (by decide) ?_
        refine lv_icmp_ge (tgt := 274) hx hb dX12_look_230 (by decide) (fun c26 => ?_) (fun c26 => ?_)
        · have hf := if_t c26 hf
          exact J274 M _ _ _ hf hP hS (lv_sub hl [0] rfl)
        · have hf := if_f c26 hf
          refine lv_aload_n hx hb dX12_look_233 rfl (lv_at hl 0 rfl) ?_
          refine r_getI hC hP hO.1 fl_X12_233 rfl dX12_look_234 ?_
          refine lv_iconst (v := (2 : Int32)) hx hb dX12_look_237 (by decide) ?_
          refine lv_icmp_ne (tgt := 274) hx hb dX12_look_238 (by decide) (fun c27 => ?_) (fun c27 => ?_)
          · have hf := if_f c27 hf
            exact J274 M _ _ _ hf hP hS (lv_sub hl [0] rfl)
          · have hf := if_t c27 hf
            refine lv_aload_n hx hb dX12_look_241 rfl (lv_at hl 0 rfl) ?_
            refine lv_bipush (v := (10 : Int32)) hx hb dX12_look_242 (by decide) ?_
            refine lv_aload_n hx hb dX12_look_244 rfl (lv_at hl 0 rfl) ?_
            refine r_getI hC hP hO.1 fl_X12_236 rfl dX12_look_245 ?_
            refine lv_imul hx hb dX12_look_248 ?_
            refine lv_aload_n hx hb dX12_look_249 rfl (lv_at hl 0 rfl) ?_
            refine r_getR hC hP hO.1 fl_X12_45 rfl dX12_look_250 ?_
            refine lv_aload_n hx hb dX12_look_253 rfl (lv_at hl 0 rfl) ?_
            refine r_getI hC hP hO.1 fl_X12_227 rfl dX12_look_254 ?_
            refine lv_iload hx hb dX12_look_257 (lv_at hl 1 rfl) ?_
            refine lv_iadd hx hb dX12_look_259 ?_
            obtain ⟨hb28, hf⟩ := ck_s hf
            refine r_iald hC hP hO.2.2.2.2.2.2.2.2.2.2.2.1 hb28 dX12_look_260 ?_
            refine lv_iadd hx hb dX12_look_261 ?_
            refine lv_bipush (v := (48 : Int32)) hx hb dX12_look_262 (by decide) ?_
            refine lv_isub hx hb dX12_look_264 ?_
            refine r_putI hC hP hS hO.1 fl_X12_236 tyX12 tyX12_ok nmX12 rfl rfl rfl dX12_look_265 (fun H locs hP hS => ?_)
            obtain ⟨M29, eM29, hf, hP⟩ := bsM hf hP
            obtain ⟨z30, ez30, hf⟩ := bsJ hf
            refine lv_iinc (v := z30) (lv' := [(4, .int z30), (0, .ref y)]) hx hb dX12_look_268 hl (k := 1) rfl (by rw [ez30]; rfl) (by decide) rfl (fun ls hl => ?_)
            refine lv_goto (tgt := 218) hx hb dX12_look_271 (by decide) ?_
            exact ih z30 M29 _ _ _ hf hP hS (lv_sub hl [1, 0] rfl)
  have J215 : ∀ (M : Mm) (H : Heap) (locs : List Loc) (ls : Array Slot), f_X12_look_J215 y M = some MR → wP g M N H → va_S (wA g) s.heap H locs → lv_has ls 5 [(0, .ref y)] → W p l e (rmD 2) s m ([.ref y, .int p0] : List Value).toArray below meth c H locs 0 0 (MQ below (QV g MR N) ([.ref y, .int p0] : List Value).toArray s 0 0 (wA g)) (F0 m 215 ls []) := by
    intro M H locs ls hf hP hS hl
    unfold f_X12_look_J215 at hf
    refine lv_iconst (v := (0 : Int32)) hx hb dX12_look_215 (by decide) ?_
    refine lv_istore (lv' := [(4, .int (0 : Int32)), (0, .ref y)]) hx hb dX12_look_216 hl (by decide) rfl (fun ls hl => ?_)
    exact L218 _ (0 : Int32) M _ _ _ hf hP hS (lv_sub hl [1, 0] rfl)
  have J208 : ∀ (kb136 : Int32 → Mm → Option (Mm)) (hkb136 : ∀ (x3 : Int32) (M : Mm) (H : Heap) (locs : List Loc) (ls : Array Slot), kb136 x3 M = some MR → wP g M N H → va_S (wA g) s.heap H locs → lv_has ls 5 [(0, .ref y), (3, .int x3)] → W p l e (rmD 2) s m ([.ref y, .int p0] : List Value).toArray below meth c H locs 0 0 (MQ below (QV g MR N) ([.ref y, .int p0] : List Value).toArray s 0 0 (wA g)) (F0 m 136 ls [])) (x3 : Int32) (s1 : Int32) (s2 : Int32) (M : Mm) (H : Heap) (locs : List Loc) (ls : Array Slot), f_X12_look_J208 y x3 s1 s2 M kb136 = some MR → wP g M N H → va_S (wA g) s.heap H locs → lv_has ls 5 [(0, .ref y), (3, .int x3)] → W p l e (rmD 2) s m ([.ref y, .int p0] : List Value).toArray below meth c H locs 0 0 (MQ below (QV g MR N) ([.ref y, .int p0] : List Value).toArray s 0 0 (wA g)) (F0 m 208 ls [.int s2, .int s1, .ref y]) := by
    intro kb136 hkb136 x3 s1 s2 M H locs ls hf hP hS hl
    unfold f_X12_look_J208 at hf
    refine lv_iadd hx hb dX12_look_208 ?_
    refine r_putI hC hP hS hO.1 fl_X12_230 tyX12 tyX12_ok nmX12 rfl rfl rfl dX12_look_209 (fun H locs hP hS => ?_)
    obtain ⟨M39, eM39, hf, hP⟩ := bsM hf hP
    refine lv_goto (tgt := 136) hx hb dX12_look_212 (by decide) ?_
    exact hkb136 x3 M39 _ _ _ hf hP hS (lv_sub hl [0, 1] rfl)
  have J193 : ∀ (kb136 : Int32 → Mm → Option (Mm)) (hkb136 : ∀ (x3 : Int32) (M : Mm) (H : Heap) (locs : List Loc) (ls : Array Slot), kb136 x3 M = some MR → wP g M N H → va_S (wA g) s.heap H locs → lv_has ls 5 [(0, .ref y), (3, .int x3)] → W p l e (rmD 2) s m ([.ref y, .int p0] : List Value).toArray below meth c H locs 0 0 (MQ below (QV g MR N) ([.ref y, .int p0] : List Value).toArray s 0 0 (wA g)) (F0 m 136 ls [])) (s0 : Int32) (M : Mm) (H : Heap) (locs : List Loc) (ls : Array Slot), f_X12_look_J193 y s0 M kb136 = some MR → wP g M N H → va_S (wA g) s.heap H locs → lv_has ls 5 [(0, .ref y)] → W p l e (rmD 2) s m ([.ref y, .int p0] : List Value).toArray below meth c H locs 0 0 (MQ below (QV g MR N) ([.ref y, .int p0] : List Value).toArray s 0 0 (wA g)) (F0 m 193 ls [.int s0]) := by
    intro kb136 hkb136 s0 M H locs ls hf hP hS hl
    unfold f_X12_look_J193 at hf
    refine lv_istore_n (lv' := [(3, .int s0), (0, .ref y)]) hx hb dX12_look_193 rfl hl (by decide) rfl (fun ls hl => ?_)
    refine lv_aload_n hx hb dX12_look_194 rfl (lv_at hl 1 rfl) ?_
    refine lv_dup hx hb dX12_look_195 rfl ?_
    refine r_getI hC hP hO.1 fl_X12_230 rfl dX12_look_196 ?_
    refine lv_iload_n hx hb dX12_look_199 rfl (lv_at hl 0 rfl) ?_
    refine lv_if_eq (tgt := 207) hx hb dX12_look_200 (by decide) (fun c38 => ?_) (fun c38 => ?_)
    · have hf := if_t c38 hf
      refine lv_iconst (v := (0 : Int32)) hx hb dX12_look_207 (by decide) ?_
      exact J208 _ hkb136 s0 (M y 20) (0 : Int32) M _ _ _ hf hP hS (lv_sub hl [1, 0] rfl)
    · have hf := if_f c38 hf
      refine lv_iconst (v := (1 : Int32)) hx hb dX12_look_203 (by decide) ?_
      refine lv_goto (tgt := 208) hx hb dX12_look_204 (by decide) ?_
      exact J208 _ hkb136 s0 (M y 20) (1 : Int32) M _ _ _ hf hP hS (lv_sub hl [1, 0] rfl)
  have L136 : ∀ (n : Nat) (x3 : Int32) (M : Mm) (H : Heap) (locs : List Loc) (ls : Array Slot), f_X12_look_L136 y n x3 M = some MR → wP g M N H → va_S (wA g) s.heap H locs → lv_has ls 5 [(0, .ref y), (3, .int x3)] → W p l e (rmD 2) s m ([.ref y, .int p0] : List Value).toArray below meth c H locs 0 0 (MQ below (QV g MR N) ([.ref y, .int p0] : List Value).toArray s 0 0 (wA g)) (F0 m 136 ls []) := by
    intro n
    induction n with
    | zero =>
      intro x3 M H locs ls hf
      exact absurd hf (by simp [f_X12_look_L136])
    | succ n ih =>
      intro x3 M H locs ls hf hP hS hl
      unfold f_X12_look_L136 at hf
      refine lv_iload_n hx hb dX12_look_136 rfl (lv_at hl 1 rfl) ?_
      refine lv_if_eq (tgt := 215) hx hb dX12_look_137 (by decide) (fun c21 => ?_) (fun c21 => ?_)
      · have hf := if_t c21 hf
        exact J215 M _ _ _ hf hP hS (lv_sub hl [0] rfl)
      · have hf := if_f c21 hf
        refine lv_aload_n hx hb dX12_look_140 rfl (lv_at hl 0 rfl) ?_
        refine r_getI hC hP hO.1 fl_X12_227 rfl dX12_look_141 ?_
        refine lv_aload_n hx hb dX12_look_144 rfl (lv_at hl 0 rfl) ?_
        refine r_getI hC hP hO.1 fl_X12_230 rfl dX12_look_145 ?_
        refine lv_iadd hx hb dX12_look_148 ?_
        refine lv_aload_n hx hb dX12_look_149 rfl (lv_at hl 0 rfl) ?_
        refine r_getI hC hP hO.1 fl_X12_214 rfl dX12_look_150 ?_
        refine lv_icmp_ge (tgt := 215) hx hb dX12_look_153 (by decide) (fun c31 => ?_) (fun c31 => ?_)
        · have hf := if_t c31 hf
          exact J215 M _ _ _ hf hP hS (lv_sub hl [0] rfl)
        · have hf := if_f c31 hf
          refine lv_aload_n hx hb dX12_look_156 rfl (lv_at hl 0 rfl) ?_
          refine r_getR hC hP hO.1 fl_X12_45 rfl dX12_look_157 ?_
          refine lv_aload_n hx hb dX12_look_160 rfl (lv_at hl 0 rfl) ?_
          refine r_getI hC hP hO.1 fl_X12_227 rfl dX12_look_161 ?_
          refine lv_aload_n hx hb dX12_look_164 rfl (lv_at hl 0 rfl) ?_
          refine r_getI hC hP hO.1 fl_X12_230 rfl dX12_look_165 ?_
          refine lv_iadd hx hb dX12_look_168 ?_
          obtain ⟨hb32, hf⟩ := ck_s hf
          refine r_iald hC hP hO.2.2.2.2.2.2.2.2.2.2.2.1 hb32 dX12_look_169 ?_
          refine lv_topi (fun z33 ez33 => ?_)
          have hf := bs ez33 hf
          refine lv_istore (lv' := [(4, .int z33), (0, .ref y), (3, .int x3)]) hx hb dX12_look_170 hl (by decide) rfl (fun ls hl => ?_)
          refine lv_aload_n hx hb dX12_look_172 rfl (lv_at hl 1 rfl) ?_
          refine r_getI hC hP hO.1 fl_X12_233 rfl dX12_look_173 ?_
          refine lv_iconst (v := (1 : Int32)) hx hb dX12_look_176 (by decide) ?_
          refine lv_icmp_ne (tgt := 188) hx hb dX12_look_177 (by decide) (fun c34 => ?_) (fun c34 => ?_)
          · have hf := if_f c34 hf
            refine lv_iload hx hb dX12_look_188 (lv_at hl 0 rfl) ?_
            obtain ⟨r35, hu36, hf⟩ := bd_s hf
            refine r_goI (r_runS (As := [.int z33]) (rest := []) hC hP hS (k_X12_isFigure hg hu36) cw_X12_242 q_438 q_439 (Rm.D 1 2 rfl) rfl hl.1 rfl (Nat.le_of_ble_eq_true rfl) dX12_look_190) hS (fun H locs hP hS => ?_)
            exact J193 _ ih r35 M _ _ _ hf hP hS (lv_sub hl [1] rfl)
          · have hf := if_t c34 hf
            refine lv_iload hx hb dX12_look_180 (lv_at hl 0 rfl) ?_
            obtain ⟨r40, hu41, hf⟩ := bd_s hf
            refine r_goI (r_runS (As := [.int z33]) (rest := []) hC hP hS (k_X12_isSmall hg hu41) cw_X12_239 q_433 q_434 (Rm.D 1 2 rfl) rfl hl.1 rfl (Nat.le_of_ble_eq_true rfl) dX12_look_182) hS (fun H locs hP hS => ?_)
            refine lv_goto (tgt := 193) hx hb dX12_look_185 (by decide) ?_
            exact J193 _ ih r40 M _ _ _ hf hP hS (lv_sub hl [1] rfl)
  have J135 : ∀ (s0 : Int32) (M : Mm) (H : Heap) (locs : List Loc) (ls : Array Slot), f_X12_look_J135 y s0 M = some MR → wP g M N H → va_S (wA g) s.heap H locs → lv_has ls 5 [(0, .ref y)] → W p l e (rmD 2) s m ([.ref y, .int p0] : List Value).toArray below meth c H locs 0 0 (MQ below (QV g MR N) ([.ref y, .int p0] : List Value).toArray s 0 0 (wA g)) (F0 m 135 ls [.int s0]) := by
    intro s0 M H locs ls hf hP hS hl
    unfold f_X12_look_J135 at hf
    refine lv_istore_n (lv' := [(3, .int s0), (0, .ref y)]) hx hb dX12_look_135 rfl hl (by decide) rfl (fun ls hl => ?_)
    exact L136 _ s0 M _ _ _ hf hP hS (lv_sub hl [1, 0] rfl)
  have J114 : ∀ (s1 : Int32) (M : Mm) (H : Heap) (locs : List Loc) (ls : Array Slot), f_X12_look_J114 y s1 M = some MR → wP g M N H → va_S (wA g) s.heap H locs → lv_has ls 5 [(0, .ref y)] → W p l e (rmD 2) s m ([.ref y, .int p0] : List Value).toArray below meth c H locs 0 0 (MQ below (QV g MR N) ([.ref y, .int p0] : List Value).toArray s 0 0 (wA g)) (F0 m 114 ls [.int s1, .ref y]) := by
    intro s1 M H locs ls hf hP hS hl
    unfold f_X12_look_J114 at hf
    refine r_putI hC hP hS hO.1 fl_X12_233 tyX12 tyX12_ok nmX12 rfl rfl rfl dX12_look_114 (fun H locs hP hS => ?_)
    obtain ⟨M18, eM18, hf, hP⟩ := bsM hf hP
    refine lv_aload_n hx hb dX12_look_117 rfl (lv_at hl 0 rfl) ?_
    refine lv_iconst (v := (1 : Int32)) hx hb dX12_look_118 (by decide) ?_
    refine r_putI hC hP hS hO.1 fl_X12_230 tyX12 tyX12_ok nmX12 rfl rfl rfl dX12_look_119 (fun H locs hP hS => ?_)
    obtain ⟨M19, eM19, hf, hP⟩ := bsM hf hP
    refine lv_aload_n hx hb dX12_look_122 rfl (lv_at hl 0 rfl) ?_
    refine r_getI hC hP hO.1 fl_X12_233 rfl dX12_look_123 ?_
    refine lv_iconst (v := (3 : Int32)) hx hb dX12_look_126 (by decide) ?_
    refine lv_icmp_ge (tgt := 134) hx hb dX12_look_127 (by decide) (fun c20 => ?_) (fun c20 => ?_)
    · have hf := if_t c20 hf
      refine lv_iconst (v := (0 : Int32)) hx hb dX12_look_134 (by decide) ?_
      exact J135 (0 : Int32) M19 _ _ _ hf hP hS (lv_sub hl [0] rfl)
    · have hf := if_f c20 hf
      refine lv_iconst (v := (1 : Int32)) hx hb dX12_look_130 (by decide) ?_
      refine lv_goto (tgt := 135) hx hb dX12_look_131 (by decide) ?_
      exact J135 (1 : Int32) M19 _ _ _ hf hP hS (lv_sub hl [0] rfl)
  have J43 : ∀ (M : Mm) (H : Heap) (locs : List Loc) (ls : Array Slot), f_X12_look_J43 y M = some MR → wP g M N H → va_S (wA g) s.heap H locs → lv_has ls 5 [(0, .ref y)] → W p l e (rmD 2) s m ([.ref y, .int p0] : List Value).toArray below meth c H locs 0 0 (MQ below (QV g MR N) ([.ref y, .int p0] : List Value).toArray s 0 0 (wA g)) (F0 m 43 ls []) := by
    intro M H locs ls hf hP hS hl
    unfold f_X12_look_J43 at hf
    refine lv_aload_n hx hb dX12_look_43 rfl (lv_at hl 0 rfl) ?_
    refine lv_iconst (v := (0 : Int32)) hx hb dX12_look_44 (by decide) ?_
    refine r_putI hC hP hS hO.1 fl_X12_230 tyX12 tyX12_ok nmX12 rfl rfl rfl dX12_look_45 (fun H locs hP hS => ?_)
    obtain ⟨M3, eM3, hf, hP⟩ := bsM hf hP
    refine lv_aload_n hx hb dX12_look_48 rfl (lv_at hl 0 rfl) ?_
    refine lv_iconst (v := (0 : Int32)) hx hb dX12_look_49 (by decide) ?_
    refine r_putI hC hP hS hO.1 fl_X12_233 tyX12 tyX12_ok nmX12 rfl rfl rfl dX12_look_50 (fun H locs hP hS => ?_)
    obtain ⟨M4, eM4, hf, hP⟩ := bsM hf hP
    refine lv_aload_n hx hb dX12_look_53 rfl (lv_at hl 0 rfl) ?_
    refine lv_iconst (v := (0 : Int32)) hx hb dX12_look_54 (by decide) ?_
    refine r_putI hC hP hS hO.1 fl_X12_236 tyX12 tyX12_ok nmX12 rfl rfl rfl dX12_look_55 (fun H locs hP hS => ?_)
    obtain ⟨M5, eM5, hf, hP⟩ := bsM hf hP
    refine lv_aload_n hx hb dX12_look_58 rfl (lv_at hl 0 rfl) ?_
    refine r_getI hC hP hO.1 fl_X12_227 rfl dX12_look_59 ?_
    refine lv_aload_n hx hb dX12_look_62 rfl (lv_at hl 0 rfl) ?_
    refine r_getI hC hP hO.1 fl_X12_214 rfl dX12_look_63 ?_
    refine lv_icmp_ne (tgt := 70) hx hb dX12_look_66 (by decide) (fun c6 => ?_) (fun c6 => ?_)
    · have hf := if_f c6 hf
      refine lv_aload_n hx hb dX12_look_70 rfl (lv_at hl 0 rfl) ?_
      refine r_getR hC hP hO.1 fl_X12_45 rfl dX12_look_71 ?_
      refine lv_aload_n hx hb dX12_look_74 rfl (lv_at hl 0 rfl) ?_
      refine r_getI hC hP hO.1 fl_X12_227 rfl dX12_look_75 ?_
      obtain ⟨hb7, hf⟩ := ck_s hf
      refine r_iald hC hP hO.2.2.2.2.2.2.2.2.2.2.2.1 hb7 dX12_look_78 ?_
      refine lv_topi (fun z8 ez8 => ?_)
      have hf := bs ez8 hf
      refine lv_istore_n (lv' := [(2, .int z8), (0, .ref y)]) hx hb dX12_look_79 rfl hl (by decide) rfl (fun ls hl => ?_)
      refine lv_aload_n hx hb dX12_look_80 rfl (lv_at hl 1 rfl) ?_
      refine lv_iload_n hx hb dX12_look_81 rfl (lv_at hl 0 rfl) ?_
      obtain ⟨r9, hu10, hf⟩ := bd_s hf
      refine r_goI (r_runS (As := [.int z8]) (rest := [.ref y]) hC hP hS (k_X12_isSmall hg hu10) cw_X12_239 q_433 q_434 (Rm.D 1 2 rfl) rfl hl.1 rfl (Nat.le_of_ble_eq_true rfl) dX12_look_82) hS (fun H locs hP hS => ?_)
      refine lv_if_eq (tgt := 92) hx hb dX12_look_85 (by decide) (fun c12 => ?_) (fun c12 => ?_)
      · have hf := if_t c12 hf
        refine lv_iload_n hx hb dX12_look_92 rfl (lv_at hl 0 rfl) ?_
        obtain ⟨r13, hu14, hf⟩ := bd_s hf
        refine r_goI (r_runS (As := [.int z8]) (rest := [.ref y]) hC hP hS (k_X12_isFigure hg hu14) cw_X12_242 q_438 q_439 (Rm.D 1 2 rfl) rfl hl.1 rfl (Nat.le_of_ble_eq_true rfl) dX12_look_93) hS (fun H locs hP hS => ?_)
        refine lv_if_eq (tgt := 103) hx hb dX12_look_96 (by decide) (fun c16 => ?_) (fun c16 => ?_)
        · have hf := if_t c16 hf
          refine lv_iload_n hx hb dX12_look_103 rfl (lv_at hl 0 rfl) ?_
          refine lv_bipush (v := (59 : Int32)) hx hb dX12_look_104 (by decide) ?_
          refine lv_icmp_ne (tgt := 113) hx hb dX12_look_106 (by decide) (fun c17 => ?_) (fun c17 => ?_)
          · have hf := if_f c17 hf
            refine lv_iconst (v := (4 : Int32)) hx hb dX12_look_113 (by decide) ?_
            exact J114 (4 : Int32) M5 _ _ _ hf hP hS (lv_sub hl [1] rfl)
          · have hf := if_t c17 hf
            refine lv_iconst (v := (3 : Int32)) hx hb dX12_look_109 (by decide) ?_
            refine lv_goto (tgt := 114) hx hb dX12_look_110 (by decide) ?_
            exact J114 (3 : Int32) M5 _ _ _ hf hP hS (lv_sub hl [1] rfl)
        · have hf := if_f c16 hf
          refine lv_iconst (v := (2 : Int32)) hx hb dX12_look_99 (by decide) ?_
          refine lv_goto (tgt := 114) hx hb dX12_look_100 (by decide) ?_
          exact J114 (2 : Int32) M5 _ _ _ hf hP hS (lv_sub hl [1] rfl)
      · have hf := if_f c12 hf
        refine lv_iconst (v := (1 : Int32)) hx hb dX12_look_88 (by decide) ?_
        refine lv_goto (tgt := 114) hx hb dX12_look_89 (by decide) ?_
        exact J114 (1 : Int32) M5 _ _ _ hf hP hS (lv_sub hl [1] rfl)
    · have hf := if_t c6 hf
      exact e_VM hC hr hlk hP hS dX12_look_69 hf
  have L5 : ∀ (n : Nat) (M : Mm) (H : Heap) (locs : List Loc) (ls : Array Slot), f_X12_look_L5 y n M = some MR → wP g M N H → va_S (wA g) s.heap H locs → lv_has ls 5 [(0, .ref y)] → W p l e (rmD 2) s m ([.ref y, .int p0] : List Value).toArray below meth c H locs 0 0 (MQ below (QV g MR N) ([.ref y, .int p0] : List Value).toArray s 0 0 (wA g)) (F0 m 5 ls []) := by
    intro n
    induction n with
    | zero =>
      intro M H locs ls hf
      exact absurd hf (by simp [f_X12_look_L5])
    | succ n ih =>
      intro M H locs ls hf hP hS hl
      unfold f_X12_look_L5 at hf
      refine lv_aload_n hx hb dX12_look_5 rfl (lv_at hl 0 rfl) ?_
      refine r_getI hC hP hO.1 fl_X12_227 rfl dX12_look_6 ?_
      refine lv_aload_n hx hb dX12_look_9 rfl (lv_at hl 0 rfl) ?_
      refine r_getI hC hP hO.1 fl_X12_214 rfl dX12_look_10 ?_
      refine lv_icmp_ge (tgt := 43) hx hb dX12_look_13 (by decide) (fun c2 => ?_) (fun c2 => ?_)
      · have hf := if_t c2 hf
        exact J43 M _ _ _ hf hP hS (lv_sub hl [0] rfl)
      · have hf := if_f c2 hf
        refine lv_aload_n hx hb dX12_look_16 rfl (lv_at hl 0 rfl) ?_
        refine r_getR hC hP hO.1 fl_X12_45 rfl dX12_look_17 ?_
        refine lv_aload_n hx hb dX12_look_20 rfl (lv_at hl 0 rfl) ?_
        refine r_getI hC hP hO.1 fl_X12_227 rfl dX12_look_21 ?_
        obtain ⟨hb43, hf⟩ := ck_s hf
        refine r_iald hC hP hO.2.2.2.2.2.2.2.2.2.2.2.1 hb43 dX12_look_24 ?_
        refine lv_bipush (v := (32 : Int32)) hx hb dX12_look_25 (by decide) ?_
        refine lv_icmp_ne (tgt := 43) hx hb dX12_look_27 (by decide) (fun c44 => ?_) (fun c44 => ?_)
        · have hf := if_f c44 hf
          exact J43 M _ _ _ hf hP hS (lv_sub hl [0] rfl)
        · have hf := if_t c44 hf
          refine lv_aload_n hx hb dX12_look_30 rfl (lv_at hl 0 rfl) ?_
          refine lv_dup hx hb dX12_look_31 rfl ?_
          refine r_getI hC hP hO.1 fl_X12_227 rfl dX12_look_32 ?_
          refine lv_iconst (v := (1 : Int32)) hx hb dX12_look_35 (by decide) ?_
          refine lv_iadd hx hb dX12_look_36 ?_
          refine r_putI hC hP hS hO.1 fl_X12_227 tyX12 tyX12_ok nmX12 rfl rfl rfl dX12_look_37 (fun H locs hP hS => ?_)
          obtain ⟨M45, eM45, hf, hP⟩ := bsM hf hP
          refine lv_goto (tgt := 5) hx hb dX12_look_40 (by decide) ?_
          exact ih M45 _ _ _ hf hP hS (lv_sub hl [0] rfl)
  unfold f_X12_look at hf
  refine lv_aload_n hx hb dX12_look_0 rfl (lv_at hl 0 rfl) ?_
  refine lv_iload_n hx hb dX12_look_1 rfl (lv_at hl 1 rfl) ?_
  refine r_putI hC hP hS hO.1 fl_X12_227 tyX12 tyX12_ok nmX12 rfl rfl rfl dX12_look_2 (fun H locs hP hS => ?_)
  obtain ⟨M1, eM1, hf, hP⟩ := bsM hf hP
  exact L5 _ M1 _ _ _ hf hP hS (lv_sub hl [0] rfl)
set_option maxRecDepth 100000 in
set_option maxHeartbeats 4000000 in
theorem k_X12_goOn {g : Ev} {l : Launch} (hg : g.2.1.Nodup) {y : Nat} (hO : oModel g y) {M : Mm} {N : Ml}  {MR : Mm} (hf : f_X12_goOn y M = some MR) : KM g l yX12_goOn cX12_goOn 1 none 3 [.ref y] M N (QV g MR N) := by
  refine KM.mk hg (by decide) (Nat.le_of_ble_eq_true rfl) ?_
  intro p e s m below meth c ls hC hr hlk hl hP hS
  have hx := hC.1
  have hb := hC.2.1
  have hl : lv_has ls 1 [(0, .ref y)] := hl
  unfold f_X12_goOn at hf
  refine lv_aload_n hx hb dX12_goOn_0 rfl (lv_at hl 0 rfl) ?_
  refine lv_aload_n hx hb dX12_goOn_1 rfl (lv_at hl 0 rfl) ?_
  refine r_getI hC hP hO.1 fl_X12_227 rfl dX12_goOn_2 ?_
  refine lv_aload_n hx hb dX12_goOn_5 rfl (lv_at hl 0 rfl) ?_
  refine r_getI hC hP hO.1 fl_X12_230 rfl dX12_goOn_6 ?_
  refine lv_iadd hx hb dX12_goOn_9 ?_
  obtain ⟨M3, hu2, hf⟩ := bd_s hf
  refine r_goV (r_runV (As := [.int ((M y 19) + (M y 20))]) (rest := []) hC hP hS (k_X12_look hg hO hu2) cw_X12_245 q_427 q_428 q_429 (Rm.D 2 3 rfl) hO.1 rfl rfl hl.1 rfl (Nat.le_of_ble_eq_true rfl) dX12_goOn_10) hS (fun H locs hP hS => ?_)
  exact e_VM hC hr hlk hP hS dX12_goOn_13 hf
set_option maxRecDepth 100000 in
set_option maxHeartbeats 4000000 in
theorem k_X12_goOneOn {g : Ev} {l : Launch} (hg : g.2.1.Nodup) {y : Nat} (hO : oModel g y) {M : Mm} {N : Ml} {p0 : Int32} {p1 : Int32} {p2 : Int32} {MR : Mm} (hf : f_X12_goOneOn y p0 p1 p2 M = some MR) : KM g l yX12_goOneOn cX12_goOneOn 5 none 3 [.ref y, .int p0, .int p1, .int p2] M N (QV g MR N) := by
  refine KM.mk hg (by decide) (Nat.le_of_ble_eq_true rfl) ?_
  intro p e s m below meth c ls hC hr hlk hl hP hS
  have hx := hC.1
  have hb := hC.2.1
  have hl : lv_has ls 5 [(0, .ref y), (1, .int p0), (2, .int p1), (3, .int p2)] := hl
  have L26 : ∀ (n : Nat) (x3 : Int32) (x4 : Int32) (M : Mm) (H : Heap) (locs : List Loc) (ls : Array Slot), f_X12_goOneOn_L26 y n x3 x4 M = some MR → wP g M N H → va_S (wA g) s.heap H locs → lv_has ls 5 [(0, .ref y), (3, .int x3), (4, .int x4)] → W p l e (rmD 3) s m ([.ref y, .int p0, .int p1, .int p2] : List Value).toArray below meth c H locs 0 0 (MQ below (QV g MR N) ([.ref y, .int p0, .int p1, .int p2] : List Value).toArray s 0 0 (wA g)) (F0 m 26 ls []) := by
    intro n
    induction n with
    | zero =>
      intro x3 x4 M H locs ls hf
      exact absurd hf (by simp [f_X12_goOneOn_L26])
    | succ n ih =>
      intro x3 x4 M H locs ls hf hP hS hl
      unfold f_X12_goOneOn_L26 at hf
      refine lv_iload hx hb dX12_goOneOn_26 (lv_at hl 2 rfl) ?_
      refine lv_iload_n hx hb dX12_goOneOn_28 rfl (lv_at hl 1 rfl) ?_
      refine lv_icmp_ge (tgt := 52) hx hb dX12_goOneOn_29 (by decide) (fun c10 => ?_) (fun c10 => ?_)
      · have hf := if_t c10 hf
        exact e_VM hC hr hlk hP hS dX12_goOneOn_52 hf
      · have hf := if_f c10 hf
        refine lv_aload_n hx hb dX12_goOneOn_32 rfl (lv_at hl 0 rfl) ?_
        refine r_getI hC hP hO.1 fl_X12_152 rfl dX12_goOneOn_33 ?_
        obtain ⟨r11, hu12, hf⟩ := bd_s hf
        refine r_goI (r_runS (As := [.int (M y 11)]) (rest := []) hC hP hS (k_X12_isLane hg hu12) cw_X12_77 q_217 q_218 (Rm.D 1 3 rfl) rfl hl.1 rfl (Nat.le_of_ble_eq_true rfl) dX12_goOneOn_36) hS (fun H locs hP hS => ?_)
        refine lv_if_eq (tgt := 52) hx hb dX12_goOneOn_39 (by decide) (fun c14 => ?_) (fun c14 => ?_)
        · have hf := if_t c14 hf
          exact e_VM hC hr hlk hP hS dX12_goOneOn_52 hf
        · have hf := if_f c14 hf
          refine lv_aload_n hx hb dX12_goOneOn_42 rfl (lv_at hl 0 rfl) ?_
          obtain ⟨M17, hu16, hf⟩ := bd_s hf
          refine r_goV (r_runV (As := []) (rest := []) hC hP hS (k_X12_goOne hg hO hu16) cw_X12_158 q_694 q_695 q_696 (Rm.D 2 3 rfl) hO.1 rfl rfl hl.1 rfl (Nat.le_of_ble_eq_true rfl) dX12_goOneOn_43) hS (fun H locs hP hS => ?_)
          obtain ⟨z18, ez18, hf⟩ := bsJ hf
          refine lv_iinc (v := z18) (lv' := [(4, .int z18), (0, .ref y), (3, .int x3)]) hx hb dX12_goOneOn_46 hl (k := 2) rfl (by rw [ez18]; rfl) (by decide) rfl (fun ls hl => ?_)
          refine lv_goto (tgt := 26) hx hb dX12_goOneOn_49 (by decide) ?_
          exact ih x3 z18 M17 _ _ _ hf hP hS (lv_sub hl [1, 2, 0] rfl)
  unfold f_X12_goOneOn at hf
  refine lv_aload_n hx hb dX12_goOneOn_0 rfl (lv_at hl 0 rfl) ?_
  refine lv_iload_n hx hb dX12_goOneOn_1 rfl (lv_at hl 1 rfl) ?_
  refine r_putI hC hP hS hO.1 fl_X12_152 tyX12 tyX12_ok nmX12 rfl rfl rfl dX12_goOneOn_2 (fun H locs hP hS => ?_)
  obtain ⟨M1, eM1, hf, hP⟩ := bsM hf hP
  refine lv_aload_n hx hb dX12_goOneOn_5 rfl (lv_at hl 0 rfl) ?_
  refine lv_iload_n hx hb dX12_goOneOn_6 rfl (lv_at hl 2 rfl) ?_
  refine r_putI hC hP hS hO.1 fl_X12_149 tyX12 tyX12_ok nmX12 rfl rfl rfl dX12_goOneOn_7 (fun H locs hP hS => ?_)
  obtain ⟨M2, eM2, hf, hP⟩ := bsM hf hP
  refine lv_aload_n hx hb dX12_goOneOn_10 rfl (lv_at hl 0 rfl) ?_
  refine lv_iconst (v := (0 : Int32)) hx hb dX12_goOneOn_11 (by decide) ?_
  refine r_putI hC hP hS hO.1 fl_X12_155 tyX12 tyX12_ok nmX12 rfl rfl rfl dX12_goOneOn_12 (fun H locs hP hS => ?_)
  obtain ⟨M3, eM3, hf, hP⟩ := bsM hf hP
  refine lv_aload_n hx hb dX12_goOneOn_15 rfl (lv_at hl 0 rfl) ?_
  refine lv_aload_n hx hb dX12_goOneOn_16 rfl (lv_at hl 0 rfl) ?_
  obtain ⟨r4, hu5, hf⟩ := bd_s hf
  refine r_goI (r_runV (As := []) (rest := [.ref y]) hC hP hS (k_X12_all hg hO hu5) cw_X12_127 q_543 q_544 q_545 (Rm.D 1 3 rfl) hO.1 rfl rfl hl.1 rfl (Nat.le_of_ble_eq_true rfl) dX12_goOneOn_17) hS (fun H locs hP hS => ?_)
  obtain ⟨M9, hu8, hf⟩ := bd_s hf
  refine r_goV (r_runV (As := [.int r4]) (rest := []) hC hP hS (k_X12_takeNow hg hO hu8) cw_X12_130 q_547 q_548 q_549 (Rm.D 1 3 rfl) hO.1 rfl rfl hl.1 rfl (Nat.le_of_ble_eq_true rfl) dX12_goOneOn_20) hS (fun H locs hP hS => ?_)
  refine lv_iconst (v := (0 : Int32)) hx hb dX12_goOneOn_23 (by decide) ?_
  refine lv_istore (lv' := [(4, .int (0 : Int32)), (0, .ref y), (1, .int p0), (2, .int p1), (3, .int p2)]) hx hb dX12_goOneOn_24 hl (by decide) rfl (fun ls hl => ?_)
  exact L26 _ p2 (0 : Int32) M9 _ _ _ hf hP hS (lv_sub hl [1, 4, 0] rfl)
set_option maxRecDepth 100000 in
set_option maxHeartbeats 4000000 in
theorem k_X12_image {g : Ev} {l : Launch} (hg : g.2.1.Nodup) {y : Nat} (hO : oModel g y) {M : Mm} {N : Ml} {p0 : Int32} {v : Int32} {MR : Mm} (hf : f_X12_image y p0 M = some (v, MR)) : KM g l yX12_image cX12_image 3 (some .int) 1 [.ref y, .int p0] M N (QI g v MR N) := by
  refine KM.mk hg (by decide) (Nat.le_of_ble_eq_true rfl) ?_
  intro p e s m below meth c ls hC hr hlk hl hP hS
  have hx := hC.1
  have hb := hC.2.1
  have hl : lv_has ls 3 [(0, .ref y), (1, .int p0)] := hl
  have L19 : ∀ (n : Nat) (x1 : Int32) (x2 : Int32) (M : Mm) (H : Heap) (locs : List Loc) (ls : Array Slot), f_X12_image_L19 y n x1 x2 M = some (v, MR) → wP g M N H → va_S (wA g) s.heap H locs → lv_has ls 3 [(0, .ref y), (1, .int x1), (2, .int x2)] → W p l e (rmD 1) s m ([.ref y, .int p0] : List Value).toArray below meth c H locs 0 0 (MQ below (QI g v MR N) ([.ref y, .int p0] : List Value).toArray s 0 0 (wA g)) (F0 m 19 ls []) := by
    intro n
    induction n with
    | zero =>
      intro x1 x2 M H locs ls hf
      exact absurd hf (by simp [f_X12_image_L19])
    | succ n ih =>
      intro x1 x2 M H locs ls hf hP hS hl
      unfold f_X12_image_L19 at hf
      refine lv_iload_n hx hb dX12_image_19 rfl (lv_at hl 2 rfl) ?_
      refine lv_sipush (v := (913 : Int32)) hx hb dX12_image_20 (by decide) ?_
      refine lv_icmp_ge (tgt := 50) hx hb dX12_image_23 (by decide) (fun c5 => ?_) (fun c5 => ?_)
      · have hf := if_t c5 hf
        refine lv_aload_n hx hb dX12_image_50 rfl (lv_at hl 0 rfl) ?_
        refine r_getR hC hP hO.1 fl_X12_16 rfl dX12_image_51 ?_
        refine lv_iload_n hx hb dX12_image_54 rfl (lv_at hl 1 rfl) ?_
        refine lv_iconst (v := (1 : Int32)) hx hb dX12_image_55 (by decide) ?_
        obtain ⟨hb6, hf⟩ := ck_s hf
        refine r_zast hC hP hS hO.2.2.2.1 rfl hb6 dX12_image_56 (fun H locs hP hS => ?_)
        obtain ⟨M7, eM7, hf, hP⟩ := bsM hf hP
        refine lv_iconst (v := (1 : Int32)) hx hb dX12_image_57 (by decide) ?_
        exact e_IM hC hr hlk hP hS dX12_image_58 hf
      · have hf := if_f c5 hf
        refine lv_aload_n hx hb dX12_image_26 rfl (lv_at hl 0 rfl) ?_
        refine r_getR hC hP hO.1 fl_X12_13 rfl dX12_image_27 ?_
        refine lv_sipush (v := (913 : Int32)) hx hb dX12_image_30 (by decide) ?_
        refine lv_iload_n hx hb dX12_image_33 rfl (lv_at hl 1 rfl) ?_
        refine lv_imul hx hb dX12_image_34 ?_
        refine lv_iload_n hx hb dX12_image_35 rfl (lv_at hl 2 rfl) ?_
        refine lv_iadd hx hb dX12_image_36 ?_
        refine lv_aload_n hx hb dX12_image_37 rfl (lv_at hl 0 rfl) ?_
        refine r_getR hC hP hO.1 fl_X12_7 rfl dX12_image_38 ?_
        refine lv_iload_n hx hb dX12_image_41 rfl (lv_at hl 2 rfl) ?_
        obtain ⟨hb8, hf⟩ := ck_s hf
        refine r_iald hC hP hO.2.1 hb8 dX12_image_42 ?_
        obtain ⟨hb9, hf⟩ := ck_s hf
        refine r_iast hC hP hS hO.2.2.1 hb9 dX12_image_43 (fun H locs hP hS => ?_)
        obtain ⟨M10, eM10, hf, hP⟩ := bsM hf hP
        obtain ⟨z11, ez11, hf⟩ := bsJ hf
        refine lv_iinc (v := z11) (lv' := [(2, .int z11), (0, .ref y), (1, .int x1)]) hx hb dX12_image_44 hl (k := 2) rfl (by rw [ez11]; rfl) (by decide) rfl (fun ls hl => ?_)
        refine lv_goto (tgt := 19) hx hb dX12_image_47 (by decide) ?_
        exact ih x1 z11 M10 _ _ _ hf hP hS (lv_sub hl [1, 2, 0] rfl)
  unfold f_X12_image at hf
  refine lv_iload_n hx hb dX12_image_0 rfl (lv_at hl 1 rfl) ?_
  refine lv_i2l hx hb dX12_image_1 rfl ?_
  refine lv_lconst (v := (0 : Int64)) hx hb dX12_image_2 (by decide) ?_
  refine lv_lconst (v := (1 : Int64)) hx hb dX12_image_3 (by decide) ?_
  obtain ⟨r1, hu2, hf⟩ := bd_s hf
  refine r_goI (r_runS (As := [.long p0.toInt64, .long (0 : Int64), .long (1 : Int64)]) (rest := []) hC hP hS (k_X12_in hg hu2) cw_X12_60 q_193 q_194 (Rm.D 0 1 rfl) rfl hl.1 rfl (Nat.le_of_ble_eq_true rfl) dX12_image_4) hS (fun H locs hP hS => ?_)
  refine lv_if_ne (tgt := 17) hx hb dX12_image_7 (by decide) (fun c4 => ?_) (fun c4 => ?_)
  · have hf := if_f c4 hf
    refine lv_iconst (v := (0 : Int32)) hx hb dX12_image_17 (by decide) ?_
    refine lv_istore_n (lv' := [(2, .int (0 : Int32)), (0, .ref y), (1, .int p0)]) hx hb dX12_image_18 rfl hl (by decide) rfl (fun ls hl => ?_)
    exact L19 _ p0 (0 : Int32) M _ _ _ hf hP hS (lv_sub hl [1, 2, 0] rfl)
  · have hf := if_t c4 hf
    refine lv_aload_n hx hb dX12_image_10 rfl (lv_at hl 0 rfl) ?_
    refine lv_bipush (v := (-2 : Int32)) hx hb dX12_image_11 (by decide) ?_
    obtain ⟨r12, M14, hu13, hf⟩ := bd2_s hf
    refine r_goI (r_runV (As := [.int (-2 : Int32)]) (rest := []) hC hP hS (k_X12_bad hg hO hu13) cw_X12_73 q_196 q_197 q_198 (Rm.D 0 1 rfl) hO.1 rfl rfl hl.1 rfl (Nat.le_of_ble_eq_true rfl) dX12_image_13) hS (fun H locs hP hS => ?_)
    exact e_IM hC hr hlk hP hS dX12_image_16 hf
set_option maxRecDepth 100000 in
set_option maxHeartbeats 4000000 in
theorem k_X12_isPlace {g : Ev} {l : Launch} (hg : g.2.1.Nodup) {y : Nat} (hO : oModel g y) {M : Mm} {N : Ml} {p0 : Int32} {v : Int32} (hf : f_X12_isPlace y p0 M = some v) : KM g l yX12_isPlace cX12_isPlace 2 (some .boolean) 1 [.ref y, .int p0] M N (QI g v M N) := by
  refine KM.mk hg (by decide) (Nat.le_of_ble_eq_true rfl) ?_
  intro p e s m below meth c ls hC hr hlk hl hP hS
  have hx := hC.1
  have hb := hC.2.1
  have hl : lv_has ls 2 [(0, .ref y), (1, .int p0)] := hl
  unfold f_X12_isPlace at hf
  refine lv_iload_n hx hb dX12_isPlace_0 rfl (lv_at hl 1 rfl) ?_
  refine lv_i2l hx hb dX12_isPlace_1 rfl ?_
  refine lv_lconst (v := (0 : Int64)) hx hb dX12_isPlace_2 (by decide) ?_
  refine lv_aload_n hx hb dX12_isPlace_3 rfl (lv_at hl 0 rfl) ?_
  obtain ⟨r1, hu2, hf⟩ := bd_s hf
  refine r_goI (r_runV (As := []) (rest := [.long (0 : Int64), .long p0.toInt64]) hC hP hS (k_X12_places hg hO hu2) cw_X12_64 q_200 q_201 q_202 (Rm.D 0 1 rfl) hO.1 rfl rfl hl.1 rfl (Nat.le_of_ble_eq_true rfl) dX12_isPlace_4) hS (fun H locs hP hS => ?_)
  refine lv_iconst (v := (1 : Int32)) hx hb dX12_isPlace_7 (by decide) ?_
  refine lv_isub hx hb dX12_isPlace_8 ?_
  refine lv_i2l hx hb dX12_isPlace_9 rfl ?_
  obtain ⟨r4, hu5, hf⟩ := bd_s hf
  refine r_goI (r_runS (As := [.long p0.toInt64, .long (0 : Int64), .long ((r1 - (1 : Int32)).toInt64)]) (rest := []) hC hP hS (k_X12_in hg hu5) cw_X12_60 q_193 q_194 (Rm.D 0 1 rfl) rfl hl.1 rfl (Nat.le_of_ble_eq_true rfl) dX12_isPlace_10) hS (fun H locs hP hS => ?_)
  obtain ⟨hn7, hf⟩ := cb_s hf
  exact e_Z hC hr hlk hn7 hP hS dX12_isPlace_13 hf
set_option maxRecDepth 100000 in
set_option maxHeartbeats 4000000 in
theorem k_X12_isRoad {g : Ev} {l : Launch} (hg : g.2.1.Nodup) {y : Nat} (hO : oModel g y) {M : Mm} {N : Ml} {p0 : Int32} {v : Int32} (hf : f_X12_isRoad y p0 M = some v) : KM g l yX12_isRoad cX12_isRoad 4 (some .boolean) 0 [.ref y, .int p0] M N (QI g v M N) := by
  refine KM.mk hg (by decide) (Nat.le_of_ble_eq_true rfl) ?_
  intro p e s m below meth c ls hC hr hlk hl hP hS
  have hx := hC.1
  have hb := hC.2.1
  have hl : lv_has ls 4 [(0, .ref y), (1, .int p0)] := hl
  have J32 : ∀ (kb4 : Int32 → Int32 → Int32 → Option (Int32)) (hkb4 : ∀ (x1 : Int32) (x2 : Int32) (x3 : Int32) (H : Heap) (locs : List Loc) (ls : Array Slot), kb4 x1 x2 x3 = some v → wP g M N H → va_S (wA g) s.heap H locs → lv_has ls 4 [(0, .ref y), (1, .int x1), (2, .int x2), (3, .int x3)] → W p l e (rmD 0) s m ([.ref y, .int p0] : List Value).toArray below meth c H locs 0 0 (MQ below (QI g v M N) ([.ref y, .int p0] : List Value).toArray s 0 0 (wA g)) (F0 m 4 ls [])) (x1 : Int32) (x3 : Int32) (s0 : Int32) (H : Heap) (locs : List Loc) (ls : Array Slot), f_X12_isRoad_J32 y M x1 x3 s0 kb4 = some v → wP g M N H → va_S (wA g) s.heap H locs → lv_has ls 4 [(0, .ref y), (1, .int x1), (3, .int x3)] → W p l e (rmD 0) s m ([.ref y, .int p0] : List Value).toArray below meth c H locs 0 0 (MQ below (QI g v M N) ([.ref y, .int p0] : List Value).toArray s 0 0 (wA g)) (F0 m 32 ls [.int s0]) := by
    intro kb4 hkb4 x1 x3 s0 H locs ls hf hP hS hl
    unfold f_X12_isRoad_J32 at hf
    refine lv_istore_n (lv' := [(2, .int s0), (0, .ref y), (1, .int x1), (3, .int x3)]) hx hb dX12_isRoad_32 rfl hl (by decide) rfl (fun ls hl => ?_)
    obtain ⟨z4, ez4, hf⟩ := bsJ hf
    refine lv_iinc (v := z4) (lv' := [(3, .int z4), (2, .int s0), (0, .ref y), (1, .int x1)]) hx hb dX12_isRoad_33 hl (k := 3) rfl (by rw [ez4]; rfl) (by decide) rfl (fun ls hl => ?_)
    refine lv_goto (tgt := 4) hx hb dX12_isRoad_36 (by decide) ?_
    exact hkb4 x1 s0 z4 _ _ _ hf hP hS (lv_sub hl [2, 3, 1, 0] rfl)
  have J31 : ∀ (kb4 : Int32 → Int32 → Int32 → Option (Int32)) (hkb4 : ∀ (x1 : Int32) (x2 : Int32) (x3 : Int32) (H : Heap) (locs : List Loc) (ls : Array Slot), kb4 x1 x2 x3 = some v → wP g M N H → va_S (wA g) s.heap H locs → lv_has ls 4 [(0, .ref y), (1, .int x1), (2, .int x2), (3, .int x3)] → W p l e (rmD 0) s m ([.ref y, .int p0] : List Value).toArray below meth c H locs 0 0 (MQ below (QI g v M N) ([.ref y, .int p0] : List Value).toArray s 0 0 (wA g)) (F0 m 4 ls [])) (x1 : Int32) (x3 : Int32) (H : Heap) (locs : List Loc) (ls : Array Slot), f_X12_isRoad_J31 y M x1 x3 kb4 = some v → wP g M N H → va_S (wA g) s.heap H locs → lv_has ls 4 [(0, .ref y), (1, .int x1), (3, .int x3)] → W p l e (rmD 0) s m ([.ref y, .int p0] : List Value).toArray below meth c H locs 0 0 (MQ below (QI g v M N) ([.ref y, .int p0] : List Value).toArray s 0 0 (wA g)) (F0 m 31 ls []) := by
    intro kb4 hkb4 x1 x3 H locs ls hf hP hS hl
    unfold f_X12_isRoad_J31 at hf
    refine lv_iconst (v := (0 : Int32)) hx hb dX12_isRoad_31 (by decide) ?_
    exact J32 _ hkb4 x1 x3 (0 : Int32) _ _ _ hf hP hS (lv_sub hl [0, 1, 2] rfl)
  have L4 : ∀ (n : Nat) (x1 : Int32) (x2 : Int32) (x3 : Int32) (H : Heap) (locs : List Loc) (ls : Array Slot), f_X12_isRoad_L4 y M n x1 x2 x3 = some v → wP g M N H → va_S (wA g) s.heap H locs → lv_has ls 4 [(0, .ref y), (1, .int x1), (2, .int x2), (3, .int x3)] → W p l e (rmD 0) s m ([.ref y, .int p0] : List Value).toArray below meth c H locs 0 0 (MQ below (QI g v M N) ([.ref y, .int p0] : List Value).toArray s 0 0 (wA g)) (F0 m 4 ls []) := by
    intro n
    induction n with
    | zero =>
      intro x1 x2 x3 H locs ls hf
      exact absurd hf (by simp [f_X12_isRoad_L4])
    | succ n ih =>
      intro x1 x2 x3 H locs ls hf hP hS hl
      unfold f_X12_isRoad_L4 at hf
      refine lv_iload_n hx hb dX12_isRoad_4 rfl (lv_at hl 3 rfl) ?_
      refine lv_iconst (v := (5 : Int32)) hx hb dX12_isRoad_5 (by decide) ?_
      refine lv_icmp_ge (tgt := 39) hx hb dX12_isRoad_6 (by decide) (fun c1 => ?_) (fun c1 => ?_)
      · have hf := if_t c1 hf
        refine lv_iload_n hx hb dX12_isRoad_39 rfl (lv_at hl 2 rfl) ?_
        obtain ⟨hn2, hf⟩ := cb_s hf
        exact e_Z hC hr hlk hn2 hP hS dX12_isRoad_40 hf
      · have hf := if_f c1 hf
        refine lv_iload_n hx hb dX12_isRoad_9 rfl (lv_at hl 2 rfl) ?_
        refine lv_if_eq (tgt := 31) hx hb dX12_isRoad_10 (by decide) (fun c3 => ?_) (fun c3 => ?_)
        · have hf := if_t c3 hf
          exact J31 _ ih x1 x3 _ _ _ hf hP hS (lv_sub hl [0, 1, 3] rfl)
        · have hf := if_f c3 hf
          refine lv_aload_n hx hb dX12_isRoad_13 rfl (lv_at hl 0 rfl) ?_
          refine r_getR hC hP hO.1 fl_X12_27 rfl dX12_isRoad_14 ?_
          refine lv_bipush (v := (24 : Int32)) hx hb dX12_isRoad_17 (by decide) ?_
          refine lv_iload_n hx hb dX12_isRoad_19 rfl (lv_at hl 3 rfl) ?_
          refine lv_imul hx hb dX12_isRoad_20 ?_
          refine lv_iload_n hx hb dX12_isRoad_21 rfl (lv_at hl 1 rfl) ?_
          refine lv_iadd hx hb dX12_isRoad_22 ?_
          obtain ⟨hb5, hf⟩ := ck_s hf
          refine r_iald hC hP hO.2.2.2.2.2.1 hb5 dX12_isRoad_23 ?_
          refine lv_if_ne (tgt := 31) hx hb dX12_isRoad_24 (by decide) (fun c6 => ?_) (fun c6 => ?_)
          · have hf := if_f c6 hf
            exact J31 _ ih x1 x3 _ _ _ hf hP hS (lv_sub hl [0, 1, 3] rfl)
          · have hf := if_t c6 hf
            refine lv_iconst (v := (1 : Int32)) hx hb dX12_isRoad_27 (by decide) ?_
            refine lv_goto (tgt := 32) hx hb dX12_isRoad_28 (by decide) ?_
            exact J32 _ ih x1 x3 (1 : Int32) _ _ _ hf hP hS (lv_sub hl [0, 1, 3] rfl)
  unfold f_X12_isRoad at hf
  refine lv_iconst (v := (1 : Int32)) hx hb dX12_isRoad_0 (by decide) ?_
  refine lv_istore_n (lv' := [(2, .int (1 : Int32)), (0, .ref y), (1, .int p0)]) hx hb dX12_isRoad_1 rfl hl (by decide) rfl (fun ls hl => ?_)
  refine lv_iconst (v := (0 : Int32)) hx hb dX12_isRoad_2 (by decide) ?_
  refine lv_istore_n (lv' := [(3, .int (0 : Int32)), (2, .int (1 : Int32)), (0, .ref y), (1, .int p0)]) hx hb dX12_isRoad_3 rfl hl (by decide) rfl (fun ls hl => ?_)
  exact L4 _ p0 (1 : Int32) (0 : Int32) _ _ _ hf hP hS (lv_sub hl [2, 3, 1, 0] rfl)
set_option maxRecDepth 100000 in
set_option maxHeartbeats 4000000 in
theorem k_X12_isTold {g : Ev} {l : Launch} (hg : g.2.1.Nodup) {y : Nat} (hO : oModel g y) {M : Mm} {N : Ml} {p0 : Int32} {p1 : Int32} {v : Int32} (hf : f_X12_isTold y p0 p1 M = some v) : KM g l yX12_isTold cX12_isTold 5 (some .boolean) 0 [.ref y, .int p0, .int p1] M N (QI g v M N) := by
  refine KM.mk hg (by decide) (Nat.le_of_ble_eq_true rfl) ?_
  intro p e s m below meth c ls hC hr hlk hl hP hS
  have hx := hC.1
  have hb := hC.2.1
  have hl : lv_has ls 5 [(0, .ref y), (1, .int p0), (2, .int p1)] := hl
  have J53 : ∀ (kb5 : Int32 → Int32 → Int32 → Int32 → Option (Int32)) (hkb5 : ∀ (x1 : Int32) (x2 : Int32) (x3 : Int32) (x4 : Int32) (H : Heap) (locs : List Loc) (ls : Array Slot), kb5 x1 x2 x3 x4 = some v → wP g M N H → va_S (wA g) s.heap H locs → lv_has ls 5 [(0, .ref y), (1, .int x1), (2, .int x2), (3, .int x3), (4, .int x4)] → W p l e (rmD 0) s m ([.ref y, .int p0, .int p1] : List Value).toArray below meth c H locs 0 0 (MQ below (QI g v M N) ([.ref y, .int p0, .int p1] : List Value).toArray s 0 0 (wA g)) (F0 m 5 ls [])) (x1 : Int32) (x2 : Int32) (x4 : Int32) (s0 : Int32) (H : Heap) (locs : List Loc) (ls : Array Slot), f_X12_isTold_J53 y M x1 x2 x4 s0 kb5 = some v → wP g M N H → va_S (wA g) s.heap H locs → lv_has ls 5 [(0, .ref y), (1, .int x1), (2, .int x2), (4, .int x4)] → W p l e (rmD 0) s m ([.ref y, .int p0, .int p1] : List Value).toArray below meth c H locs 0 0 (MQ below (QI g v M N) ([.ref y, .int p0, .int p1] : List Value).toArray s 0 0 (wA g)) (F0 m 53 ls [.int s0]) := by
    intro kb5 hkb5 x1 x2 x4 s0 H locs ls hf hP hS hl
    unfold f_X12_isTold_J53 at hf
    refine lv_istore_n (lv' := [(3, .int s0), (0, .ref y), (1, .int x1), (2, .int x2), (4, .int x4)]) hx hb dX12_isTold_53 rfl hl (by decide) rfl (fun ls hl => ?_)
    obtain ⟨z4, ez4, hf⟩ := bsJ hf
    refine lv_iinc (v := z4) (lv' := [(4, .int z4), (3, .int s0), (0, .ref y), (1, .int x1), (2, .int x2)]) hx hb dX12_isTold_54 hl (k := 4) rfl (by rw [ez4]; rfl) (by decide) rfl (fun ls hl => ?_)
    refine lv_goto (tgt := 5) hx hb dX12_isTold_57 (by decide) ?_
    exact hkb5 x1 x2 s0 z4 _ _ _ hf hP hS (lv_sub hl [2, 3, 4, 1, 0] rfl)
  have J52 : ∀ (kb5 : Int32 → Int32 → Int32 → Int32 → Option (Int32)) (hkb5 : ∀ (x1 : Int32) (x2 : Int32) (x3 : Int32) (x4 : Int32) (H : Heap) (locs : List Loc) (ls : Array Slot), kb5 x1 x2 x3 x4 = some v → wP g M N H → va_S (wA g) s.heap H locs → lv_has ls 5 [(0, .ref y), (1, .int x1), (2, .int x2), (3, .int x3), (4, .int x4)] → W p l e (rmD 0) s m ([.ref y, .int p0, .int p1] : List Value).toArray below meth c H locs 0 0 (MQ below (QI g v M N) ([.ref y, .int p0, .int p1] : List Value).toArray s 0 0 (wA g)) (F0 m 5 ls [])) (x1 : Int32) (x2 : Int32) (x4 : Int32) (H : Heap) (locs : List Loc) (ls : Array Slot), f_X12_isTold_J52 y M x1 x2 x4 kb5 = some v → wP g M N H → va_S (wA g) s.heap H locs → lv_has ls 5 [(0, .ref y), (1, .int x1), (2, .int x2), (4, .int x4)] → W p l e (rmD 0) s m ([.ref y, .int p0, .int p1] : List Value).toArray below meth c H locs 0 0 (MQ below (QI g v M N) ([.ref y, .int p0, .int p1] : List Value).toArray s 0 0 (wA g)) (F0 m 52 ls []) := by
    intro kb5 hkb5 x1 x2 x4 H locs ls hf hP hS hl
    unfold f_X12_isTold_J52 at hf
    refine lv_iconst (v := (0 : Int32)) hx hb dX12_isTold_52 (by decide) ?_
    exact J53 _ hkb5 x1 x2 x4 (0 : Int32) _ _ _ hf hP hS (lv_sub hl [0, 1, 2, 3] rfl)
  have J33 : ∀ (kb5 : Int32 → Int32 → Int32 → Int32 → Option (Int32)) (hkb5 : ∀ (x1 : Int32) (x2 : Int32) (x3 : Int32) (x4 : Int32) (H : Heap) (locs : List Loc) (ls : Array Slot), kb5 x1 x2 x3 x4 = some v → wP g M N H → va_S (wA g) s.heap H locs → lv_has ls 5 [(0, .ref y), (1, .int x1), (2, .int x2), (3, .int x3), (4, .int x4)] → W p l e (rmD 0) s m ([.ref y, .int p0, .int p1] : List Value).toArray below meth c H locs 0 0 (MQ below (QI g v M N) ([.ref y, .int p0, .int p1] : List Value).toArray s 0 0 (wA g)) (F0 m 5 ls [])) (x1 : Int32) (x2 : Int32) (x4 : Int32) (s0 : Int32) (s1 : Int32) (H : Heap) (locs : List Loc) (ls : Array Slot), f_X12_isTold_J33 y M x1 x2 x4 s0 s1 kb5 = some v → wP g M N H → va_S (wA g) s.heap H locs → lv_has ls 5 [(0, .ref y), (1, .int x1), (2, .int x2), (4, .int x4)] → W p l e (rmD 0) s m ([.ref y, .int p0, .int p1] : List Value).toArray below meth c H locs 0 0 (MQ below (QI g v M N) ([.ref y, .int p0, .int p1] : List Value).toArray s 0 0 (wA g)) (F0 m 33 ls [.int s1, .int s0]) := by
    intro kb5 hkb5 x1 x2 x4 s0 s1 H locs ls hf hP hS hl
    unfold f_X12_isTold_J33 at hf
    refine lv_isub hx hb dX12_isTold_33 ?_
    refine lv_aload_n hx hb dX12_isTold_34 rfl (lv_at hl 0 rfl) ?_
    refine r_getR hC hP hO.1 fl_X12_7 rfl dX12_isTold_35 ?_
    refine lv_sipush (v := (143 : Int32)) hx hb dX12_isTold_38 (by decide) ?_
    refine lv_iload hx hb dX12_isTold_41 (lv_at hl 3 rfl) ?_
    refine lv_iadd hx hb dX12_isTold_43 ?_
    obtain ⟨hb7, hf⟩ := ck_s hf
    refine r_iald hC hP hO.2.1 hb7 dX12_isTold_44 ?_
    refine lv_icmp_ne (tgt := 52) hx hb dX12_isTold_45 (by decide) (fun c8 => ?_) (fun c8 => ?_)
    · have hf := if_f c8 hf
      exact J52 _ hkb5 x1 x2 x4 _ _ _ hf hP hS (lv_sub hl [0, 1, 2, 3] rfl)
    · have hf := if_t c8 hf
      refine lv_iconst (v := (1 : Int32)) hx hb dX12_isTold_48 (by decide) ?_
      refine lv_goto (tgt := 53) hx hb dX12_isTold_49 (by decide) ?_
      exact J53 _ hkb5 x1 x2 x4 (1 : Int32) _ _ _ hf hP hS (lv_sub hl [0, 1, 2, 3] rfl)
  have L5 : ∀ (n : Nat) (x1 : Int32) (x2 : Int32) (x3 : Int32) (x4 : Int32) (H : Heap) (locs : List Loc) (ls : Array Slot), f_X12_isTold_L5 y M n x1 x2 x3 x4 = some v → wP g M N H → va_S (wA g) s.heap H locs → lv_has ls 5 [(0, .ref y), (1, .int x1), (2, .int x2), (3, .int x3), (4, .int x4)] → W p l e (rmD 0) s m ([.ref y, .int p0, .int p1] : List Value).toArray below meth c H locs 0 0 (MQ below (QI g v M N) ([.ref y, .int p0, .int p1] : List Value).toArray s 0 0 (wA g)) (F0 m 5 ls []) := by
    intro n
    induction n with
    | zero =>
      intro x1 x2 x3 x4 H locs ls hf
      exact absurd hf (by simp [f_X12_isTold_L5])
    | succ n ih =>
      intro x1 x2 x3 x4 H locs ls hf hP hS hl
      unfold f_X12_isTold_L5 at hf
      refine lv_iload hx hb dX12_isTold_5 (lv_at hl 4 rfl) ?_
      refine lv_iconst (v := (5 : Int32)) hx hb dX12_isTold_7 (by decide) ?_
      refine lv_icmp_ge (tgt := 60) hx hb dX12_isTold_8 (by decide) (fun c1 => ?_) (fun c1 => ?_)
      · have hf := if_t c1 hf
        refine lv_iload_n hx hb dX12_isTold_60 rfl (lv_at hl 3 rfl) ?_
        obtain ⟨hn2, hf⟩ := cb_s hf
        exact e_Z hC hr hlk hn2 hP hS dX12_isTold_61 hf
      · have hf := if_f c1 hf
        refine lv_iload_n hx hb dX12_isTold_11 rfl (lv_at hl 3 rfl) ?_
        refine lv_if_eq (tgt := 52) hx hb dX12_isTold_12 (by decide) (fun c3 => ?_) (fun c3 => ?_)
        · have hf := if_t c3 hf
          exact J52 _ ih x1 x2 x4 _ _ _ hf hP hS (lv_sub hl [0, 1, 2, 4] rfl)
        · have hf := if_f c3 hf
          refine lv_aload_n hx hb dX12_isTold_15 rfl (lv_at hl 0 rfl) ?_
          refine r_getR hC hP hO.1 fl_X12_39 rfl dX12_isTold_16 ?_
          refine lv_iload hx hb dX12_isTold_19 (lv_at hl 4 rfl) ?_
          obtain ⟨hb5, hf⟩ := ck_s hf
          refine r_iald hC hP hO.2.2.2.2.2.2.2.2.2.1 hb5 dX12_isTold_21 ?_
          refine lv_iload hx hb dX12_isTold_22 (lv_at hl 4 rfl) ?_
          refine lv_iload_n hx hb dX12_isTold_24 rfl (lv_at hl 1 rfl) ?_
          refine lv_icmp_ne (tgt := 32) hx hb dX12_isTold_25 (by decide) (fun c6 => ?_) (fun c6 => ?_)
          · have hf := if_f c6 hf
            refine lv_iconst (v := (0 : Int32)) hx hb dX12_isTold_32 (by decide) ?_
            exact J33 _ ih x1 x2 x4 (M (y + 9) x4.toNatClampNeg) (0 : Int32) _ _ _ hf hP hS (lv_sub hl [0, 1, 2, 4] rfl)
          · have hf := if_t c6 hf
            refine lv_iload_n hx hb dX12_isTold_28 rfl (lv_at hl 2 rfl) ?_
            refine lv_goto (tgt := 33) hx hb dX12_isTold_29 (by decide) ?_
            exact J33 _ ih x1 x2 x4 (M (y + 9) x4.toNatClampNeg) x2 _ _ _ hf hP hS (lv_sub hl [0, 1, 2, 4] rfl)
  unfold f_X12_isTold at hf
  refine lv_iconst (v := (1 : Int32)) hx hb dX12_isTold_0 (by decide) ?_
  refine lv_istore_n (lv' := [(3, .int (1 : Int32)), (0, .ref y), (1, .int p0), (2, .int p1)]) hx hb dX12_isTold_1 rfl hl (by decide) rfl (fun ls hl => ?_)
  refine lv_iconst (v := (0 : Int32)) hx hb dX12_isTold_2 (by decide) ?_
  refine lv_istore (lv' := [(4, .int (0 : Int32)), (3, .int (1 : Int32)), (0, .ref y), (1, .int p0), (2, .int p1)]) hx hb dX12_isTold_3 hl (by decide) rfl (fun ls hl => ?_)
  exact L5 _ p0 p1 (1 : Int32) (0 : Int32) _ _ _ hf hP hS (lv_sub hl [2, 3, 4, 1, 0] rfl)
set_option maxRecDepth 100000 in
set_option maxHeartbeats 4000000 in
theorem k_X12_isWord {g : Ev} {l : Launch} (hg : g.2.1.Nodup) {y : Nat} (hO : oModel g y) {M : Mm} {N : Ml} {p0 : Int32} {p1 : Int32} {p2 : Int32} {p3 : Int32} {p4 : Int32} {v : Int32} (hf : f_X12_isWord y p0 p1 p2 p3 p4 M = some v) : KM g l yX12_isWord cX12_isWord 9 (some .boolean) 0 [.ref y, .int p0, .int p1, .int p2, .int p3, .int p4] M N (QI g v M N) := by
  refine KM.mk hg (by decide) (Nat.le_of_ble_eq_true rfl) ?_
  intro p e s m below meth c ls hC hr hlk hl hP hS
  have hx := hC.1
  have hb := hC.2.1
  have hl : lv_has ls 9 [(0, .ref y), (1, .int p0), (2, .int p1), (3, .int p2), (4, .int p3), (5, .int p4)] := hl
  have J113 : ∀ (kb39 : Int32 → Int32 → Int32 → Int32 → Int32 → Int32 → Int32 → Int32 → Option (Int32)) (hkb39 : ∀ (x1 : Int32) (x2 : Int32) (x3 : Int32) (x4 : Int32) (x5 : Int32) (x6 : Int32) (x7 : Int32) (x8 : Int32) (H : Heap) (locs : List Loc) (ls : Array Slot), kb39 x1 x2 x3 x4 x5 x6 x7 x8 = some v → wP g M N H → va_S (wA g) s.heap H locs → lv_has ls 9 [(0, .ref y), (1, .int x1), (2, .int x2), (3, .int x3), (4, .int x4), (5, .int x5), (6, .int x6), (7, .int x7), (8, .int x8)] → W p l e (rmD 0) s m ([.ref y, .int p0, .int p1, .int p2, .int p3, .int p4] : List Value).toArray below meth c H locs 0 0 (MQ below (QI g v M N) ([.ref y, .int p0, .int p1, .int p2, .int p3, .int p4] : List Value).toArray s 0 0 (wA g)) (F0 m 39 ls [])) (x1 : Int32) (x2 : Int32) (x3 : Int32) (x4 : Int32) (x5 : Int32) (x6 : Int32) (x8 : Int32) (s0 : Int32) (H : Heap) (locs : List Loc) (ls : Array Slot), f_X12_isWord_J113 y M x1 x2 x3 x4 x5 x6 x8 s0 kb39 = some v → wP g M N H → va_S (wA g) s.heap H locs → lv_has ls 9 [(0, .ref y), (1, .int x1), (2, .int x2), (3, .int x3), (4, .int x4), (5, .int x5), (6, .int x6), (8, .int x8)] → W p l e (rmD 0) s m ([.ref y, .int p0, .int p1, .int p2, .int p3, .int p4] : List Value).toArray below meth c H locs 0 0 (MQ below (QI g v M N) ([.ref y, .int p0, .int p1, .int p2, .int p3, .int p4] : List Value).toArray s 0 0 (wA g)) (F0 m 113 ls [.int s0]) := by
    intro kb39 hkb39 x1 x2 x3 x4 x5 x6 x8 s0 H locs ls hf hP hS hl
    unfold f_X12_isWord_J113 at hf
    refine lv_istore (lv' := [(7, .int s0), (0, .ref y), (1, .int x1), (2, .int x2), (3, .int x3), (4, .int x4), (5, .int x5), (6, .int x6), (8, .int x8)]) hx hb dX12_isWord_113 hl (by decide) rfl (fun ls hl => ?_)
    obtain ⟨z13, ez13, hf⟩ := bsJ hf
    refine lv_iinc (v := z13) (lv' := [(8, .int z13), (7, .int s0), (0, .ref y), (1, .int x1), (2, .int x2), (3, .int x3), (4, .int x4), (5, .int x5), (6, .int x6)]) hx hb dX12_isWord_115 hl (k := 8) rfl (by rw [ez13]; rfl) (by decide) rfl (fun ls hl => ?_)
    refine lv_goto (tgt := 39) hx hb dX12_isWord_118 (by decide) ?_
    exact hkb39 x1 x2 x3 x4 x5 x6 s0 z13 _ _ _ hf hP hS (lv_sub hl [2, 3, 4, 5, 6, 7, 8, 1, 0] rfl)
  have J105 : ∀ (kb39 : Int32 → Int32 → Int32 → Int32 → Int32 → Int32 → Int32 → Int32 → Option (Int32)) (hkb39 : ∀ (x1 : Int32) (x2 : Int32) (x3 : Int32) (x4 : Int32) (x5 : Int32) (x6 : Int32) (x7 : Int32) (x8 : Int32) (H : Heap) (locs : List Loc) (ls : Array Slot), kb39 x1 x2 x3 x4 x5 x6 x7 x8 = some v → wP g M N H → va_S (wA g) s.heap H locs → lv_has ls 9 [(0, .ref y), (1, .int x1), (2, .int x2), (3, .int x3), (4, .int x4), (5, .int x5), (6, .int x6), (7, .int x7), (8, .int x8)] → W p l e (rmD 0) s m ([.ref y, .int p0, .int p1, .int p2, .int p3, .int p4] : List Value).toArray below meth c H locs 0 0 (MQ below (QI g v M N) ([.ref y, .int p0, .int p1, .int p2, .int p3, .int p4] : List Value).toArray s 0 0 (wA g)) (F0 m 39 ls [])) (x1 : Int32) (x2 : Int32) (x3 : Int32) (x4 : Int32) (x5 : Int32) (x6 : Int32) (x8 : Int32) (s0 : Int32) (s1 : Int32) (H : Heap) (locs : List Loc) (ls : Array Slot), f_X12_isWord_J105 y M x1 x2 x3 x4 x5 x6 x8 s0 s1 kb39 = some v → wP g M N H → va_S (wA g) s.heap H locs → lv_has ls 9 [(0, .ref y), (1, .int x1), (2, .int x2), (3, .int x3), (4, .int x4), (5, .int x5), (6, .int x6), (8, .int x8)] → W p l e (rmD 0) s m ([.ref y, .int p0, .int p1, .int p2, .int p3, .int p4] : List Value).toArray below meth c H locs 0 0 (MQ below (QI g v M N) ([.ref y, .int p0, .int p1, .int p2, .int p3, .int p4] : List Value).toArray s 0 0 (wA g)) (F0 m 105 ls [.int s1, .int s0]) := by
    intro kb39 hkb39 x1 x2 x3 x4 x5 x6 x8 s0 s1 H locs ls hf hP hS hl
    unfold f_X12_isWord_J105 at hf
    refine lv_icmp_ne (tgt := 112) hx hb dX12_isWord_105 (by decide) (fun c12 => ?_) (fun c12 => ?_)
    · have hf := if_f c12 hf
      refine lv_iconst (v := (0 : Int32)) hx hb dX12_isWord_112 (by decide) ?_
      exact J113 _ hkb39 x1 x2 x3 x4 x5 x6 x8 (0 : Int32) _ _ _ hf hP hS (lv_sub hl [0, 1, 2, 3, 4, 5, 6, 7] rfl)
    · have hf := if_t c12 hf
      refine lv_iconst (v := (1 : Int32)) hx hb dX12_isWord_108 (by decide) ?_
      refine lv_goto (tgt := 113) hx hb dX12_isWord_109 (by decide) ?_
      exact J113 _ hkb39 x1 x2 x3 x4 x5 x6 x8 (1 : Int32) _ _ _ hf hP hS (lv_sub hl [0, 1, 2, 3, 4, 5, 6, 7] rfl)
  have L39 : ∀ (n : Nat) (x1 : Int32) (x2 : Int32) (x3 : Int32) (x4 : Int32) (x5 : Int32) (x6 : Int32) (x7 : Int32) (x8 : Int32) (H : Heap) (locs : List Loc) (ls : Array Slot), f_X12_isWord_L39 y M n x1 x2 x3 x4 x5 x6 x7 x8 = some v → wP g M N H → va_S (wA g) s.heap H locs → lv_has ls 9 [(0, .ref y), (1, .int x1), (2, .int x2), (3, .int x3), (4, .int x4), (5, .int x5), (6, .int x6), (7, .int x7), (8, .int x8)] → W p l e (rmD 0) s m ([.ref y, .int p0, .int p1, .int p2, .int p3, .int p4] : List Value).toArray below meth c H locs 0 0 (MQ below (QI g v M N) ([.ref y, .int p0, .int p1, .int p2, .int p3, .int p4] : List Value).toArray s 0 0 (wA g)) (F0 m 39 ls []) := by
    intro n
    induction n with
    | zero =>
      intro x1 x2 x3 x4 x5 x6 x7 x8 H locs ls hf
      exact absurd hf (by simp [f_X12_isWord_L39])
    | succ n ih =>
      intro x1 x2 x3 x4 x5 x6 x7 x8 H locs ls hf hP hS hl
      unfold f_X12_isWord_L39 at hf
      refine lv_iload hx hb dX12_isWord_39 (lv_at hl 8 rfl) ?_
      refine lv_iload hx hb dX12_isWord_41 (lv_at hl 6 rfl) ?_
      refine lv_icmp_ge (tgt := 121) hx hb dX12_isWord_43 (by decide) (fun c3 => ?_) (fun c3 => ?_)
      · have hf := if_t c3 hf
        refine lv_iload hx hb dX12_isWord_121 (lv_at hl 7 rfl) ?_
        obtain ⟨hn4, hf⟩ := cb_s hf
        exact e_Z hC hr hlk hn4 hP hS dX12_isWord_123 hf
      · have hf := if_f c3 hf
        refine lv_iload hx hb dX12_isWord_46 (lv_at hl 7 rfl) ?_
        refine lv_if_eq (tgt := 121) hx hb dX12_isWord_48 (by decide) (fun c5 => ?_) (fun c5 => ?_)
        · have hf := if_t c5 hf
          refine lv_iload hx hb dX12_isWord_121 (lv_at hl 7 rfl) ?_
          obtain ⟨hn6, hf⟩ := cb_s hf
          exact e_Z hC hr hlk hn6 hP hS dX12_isWord_123 hf
        · have hf := if_f c5 hf
          refine lv_aload_n hx hb dX12_isWord_51 rfl (lv_at hl 0 rfl) ?_
          refine r_getR hC hP hO.1 fl_X12_45 rfl dX12_isWord_52 ?_
          refine lv_aload_n hx hb dX12_isWord_55 rfl (lv_at hl 0 rfl) ?_
          refine r_getI hC hP hO.1 fl_X12_227 rfl dX12_isWord_56 ?_
          refine lv_iload hx hb dX12_isWord_59 (lv_at hl 8 rfl) ?_
          refine lv_iadd hx hb dX12_isWord_61 ?_
          obtain ⟨hb7, hf⟩ := ck_s hf
          refine r_iald hC hP hO.2.2.2.2.2.2.2.2.2.2.2.1 hb7 dX12_isWord_62 ?_
          refine lv_iload hx hb dX12_isWord_63 (lv_at hl 8 rfl) ?_
          refine lv_if_ne (tgt := 72) hx hb dX12_isWord_65 (by decide) (fun c8 => ?_) (fun c8 => ?_)
          · have hf := if_f c8 hf
            refine lv_iload hx hb dX12_isWord_72 (lv_at hl 8 rfl) ?_
            refine lv_iconst (v := (1 : Int32)) hx hb dX12_isWord_74 (by decide) ?_
            refine lv_icmp_ne (tgt := 82) hx hb dX12_isWord_75 (by decide) (fun c9 => ?_) (fun c9 => ?_)
            · have hf := if_f c9 hf
              refine lv_iload hx hb dX12_isWord_82 (lv_at hl 8 rfl) ?_
              refine lv_iconst (v := (2 : Int32)) hx hb dX12_isWord_84 (by decide) ?_
              refine lv_icmp_ne (tgt := 92) hx hb dX12_isWord_85 (by decide) (fun c10 => ?_) (fun c10 => ?_)
              · have hf := if_f c10 hf
                refine lv_iload hx hb dX12_isWord_92 (lv_at hl 8 rfl) ?_
                refine lv_iconst (v := (3 : Int32)) hx hb dX12_isWord_94 (by decide) ?_
                refine lv_icmp_ne (tgt := 103) hx hb dX12_isWord_95 (by decide) (fun c11 => ?_) (fun c11 => ?_)
                · have hf := if_f c11 hf
                  refine lv_iload hx hb dX12_isWord_103 (lv_at hl 5 rfl) ?_
                  exact J105 _ ih x1 x2 x3 x4 x5 x6 x8 (M (y + 11) ((M y 19) + x8).toNatClampNeg) x5 _ _ _ hf hP hS (lv_sub hl [0, 1, 2, 3, 4, 5, 6, 8] rfl)
                · have hf := if_t c11 hf
                  refine lv_iload hx hb dX12_isWord_98 (lv_at hl 4 rfl) ?_
                  refine lv_goto (tgt := 105) hx hb dX12_isWord_100 (by decide) ?_
                  exact J105 _ ih x1 x2 x3 x4 x5 x6 x8 (M (y + 11) ((M y 19) + x8).toNatClampNeg) x4 _ _ _ hf hP hS (lv_sub hl [0, 1, 2, 3, 4, 5, 6, 8] rfl)
              · have hf := if_t c10 hf
                refine lv_iload_n hx hb dX12_isWord_88 rfl (lv_at hl 3 rfl) ?_
                refine lv_goto (tgt := 105) hx hb dX12_isWord_89 (by decide) ?_
                exact J105 _ ih x1 x2 x3 x4 x5 x6 x8 (M (y + 11) ((M y 19) + x8).toNatClampNeg) x3 _ _ _ hf hP hS (lv_sub hl [0, 1, 2, 3, 4, 5, 6, 8] rfl)
            · have hf := if_t c9 hf
              refine lv_iload_n hx hb dX12_isWord_78 rfl (lv_at hl 2 rfl) ?_
              refine lv_goto (tgt := 105) hx hb dX12_isWord_79 (by decide) ?_
              exact J105 _ ih x1 x2 x3 x4 x5 x6 x8 (M (y + 11) ((M y 19) + x8).toNatClampNeg) x2 _ _ _ hf hP hS (lv_sub hl [0, 1, 2, 3, 4, 5, 6, 8] rfl)
          · have hf := if_t c8 hf
            refine lv_iload_n hx hb dX12_isWord_68 rfl (lv_at hl 1 rfl) ?_
            refine lv_goto (tgt := 105) hx hb dX12_isWord_69 (by decide) ?_
            exact J105 _ ih x1 x2 x3 x4 x5 x6 x8 (M (y + 11) ((M y 19) + x8).toNatClampNeg) x1 _ _ _ hf hP hS (lv_sub hl [0, 1, 2, 3, 4, 5, 6, 8] rfl)
  have J34 : ∀ (x1 : Int32) (x2 : Int32) (x3 : Int32) (x4 : Int32) (x5 : Int32) (x6 : Int32) (s0 : Int32) (H : Heap) (locs : List Loc) (ls : Array Slot), f_X12_isWord_J34 y M x1 x2 x3 x4 x5 x6 s0 = some v → wP g M N H → va_S (wA g) s.heap H locs → lv_has ls 9 [(0, .ref y), (1, .int x1), (2, .int x2), (3, .int x3), (4, .int x4), (5, .int x5), (6, .int x6)] → W p l e (rmD 0) s m ([.ref y, .int p0, .int p1, .int p2, .int p3, .int p4] : List Value).toArray below meth c H locs 0 0 (MQ below (QI g v M N) ([.ref y, .int p0, .int p1, .int p2, .int p3, .int p4] : List Value).toArray s 0 0 (wA g)) (F0 m 34 ls [.int s0]) := by
    intro x1 x2 x3 x4 x5 x6 s0 H locs ls hf hP hS hl
    unfold f_X12_isWord_J34 at hf
    refine lv_istore (lv' := [(7, .int s0), (0, .ref y), (1, .int x1), (2, .int x2), (3, .int x3), (4, .int x4), (5, .int x5), (6, .int x6)]) hx hb dX12_isWord_34 hl (by decide) rfl (fun ls hl => ?_)
    refine lv_iconst (v := (0 : Int32)) hx hb dX12_isWord_36 (by decide) ?_
    refine lv_istore (lv' := [(8, .int (0 : Int32)), (7, .int s0), (0, .ref y), (1, .int x1), (2, .int x2), (3, .int x3), (4, .int x4), (5, .int x5), (6, .int x6)]) hx hb dX12_isWord_37 hl (by decide) rfl (fun ls hl => ?_)
    exact L39 _ x1 x2 x3 x4 x5 x6 s0 (0 : Int32) _ _ _ hf hP hS (lv_sub hl [2, 3, 4, 5, 6, 7, 8, 1, 0] rfl)
  have J33 : ∀ (x1 : Int32) (x2 : Int32) (x3 : Int32) (x4 : Int32) (x5 : Int32) (x6 : Int32) (H : Heap) (locs : List Loc) (ls : Array Slot), f_X12_isWord_J33 y M x1 x2 x3 x4 x5 x6 = some v → wP g M N H → va_S (wA g) s.heap H locs → lv_has ls 9 [(0, .ref y), (1, .int x1), (2, .int x2), (3, .int x3), (4, .int x4), (5, .int x5), (6, .int x6)] → W p l e (rmD 0) s m ([.ref y, .int p0, .int p1, .int p2, .int p3, .int p4] : List Value).toArray below meth c H locs 0 0 (MQ below (QI g v M N) ([.ref y, .int p0, .int p1, .int p2, .int p3, .int p4] : List Value).toArray s 0 0 (wA g)) (F0 m 33 ls []) := by
    intro x1 x2 x3 x4 x5 x6 H locs ls hf hP hS hl
    unfold f_X12_isWord_J33 at hf
    refine lv_iconst (v := (0 : Int32)) hx hb dX12_isWord_33 (by decide) ?_
    exact J34 x1 x2 x3 x4 x5 x6 (0 : Int32) _ _ _ hf hP hS (lv_sub hl [0, 1, 2, 3, 4, 5, 6] rfl)
  have J10 : ∀ (x1 : Int32) (x2 : Int32) (x3 : Int32) (x4 : Int32) (x5 : Int32) (s0 : Int32) (H : Heap) (locs : List Loc) (ls : Array Slot), f_X12_isWord_J10 y M x1 x2 x3 x4 x5 s0 = some v → wP g M N H → va_S (wA g) s.heap H locs → lv_has ls 9 [(0, .ref y), (1, .int x1), (2, .int x2), (3, .int x3), (4, .int x4), (5, .int x5)] → W p l e (rmD 0) s m ([.ref y, .int p0, .int p1, .int p2, .int p3, .int p4] : List Value).toArray below meth c H locs 0 0 (MQ below (QI g v M N) ([.ref y, .int p0, .int p1, .int p2, .int p3, .int p4] : List Value).toArray s 0 0 (wA g)) (F0 m 10 ls [.int s0]) := by
    intro x1 x2 x3 x4 x5 s0 H locs ls hf hP hS hl
    unfold f_X12_isWord_J10 at hf
    refine lv_istore (lv' := [(6, .int s0), (0, .ref y), (1, .int x1), (2, .int x2), (3, .int x3), (4, .int x4), (5, .int x5)]) hx hb dX12_isWord_10 hl (by decide) rfl (fun ls hl => ?_)
    refine lv_aload_n hx hb dX12_isWord_12 rfl (lv_at hl 1 rfl) ?_
    refine r_getI hC hP hO.1 fl_X12_233 rfl dX12_isWord_13 ?_
    refine lv_iconst (v := (1 : Int32)) hx hb dX12_isWord_16 (by decide) ?_
    refine lv_icmp_ne (tgt := 33) hx hb dX12_isWord_17 (by decide) (fun c2 => ?_) (fun c2 => ?_)
    · have hf := if_f c2 hf
      exact J33 x1 x2 x3 x4 x5 s0 _ _ _ hf hP hS (lv_sub hl [1, 2, 3, 4, 5, 6, 0] rfl)
    · have hf := if_t c2 hf
      refine lv_aload_n hx hb dX12_isWord_20 rfl (lv_at hl 1 rfl) ?_
      refine r_getI hC hP hO.1 fl_X12_230 rfl dX12_isWord_21 ?_
      refine lv_iload hx hb dX12_isWord_24 (lv_at hl 0 rfl) ?_
      refine lv_icmp_ne (tgt := 33) hx hb dX12_isWord_26 (by decide) (fun c14 => ?_) (fun c14 => ?_)
      · have hf := if_f c14 hf
        exact J33 x1 x2 x3 x4 x5 s0 _ _ _ hf hP hS (lv_sub hl [1, 2, 3, 4, 5, 6, 0] rfl)
      · have hf := if_t c14 hf
        refine lv_iconst (v := (1 : Int32)) hx hb dX12_isWord_29 (by decide) ?_
        refine lv_goto (tgt := 34) hx hb dX12_isWord_30 (by decide) ?_
        exact J34 x1 x2 x3 x4 x5 s0 (1 : Int32) _ _ _ hf hP hS (lv_sub hl [1, 2, 3, 4, 5, 6, 0] rfl)
  unfold f_X12_isWord at hf
  refine lv_iload hx hb dX12_isWord_0 (lv_at hl 5 rfl) ?_
  refine lv_if_ne (tgt := 9) hx hb dX12_isWord_2 (by decide) (fun c1 => ?_) (fun c1 => ?_)
  · have hf := if_f c1 hf
    refine lv_iconst (v := (5 : Int32)) hx hb dX12_isWord_9 (by decide) ?_
    exact J10 p0 p1 p2 p3 p4 (5 : Int32) _ _ _ hf hP hS (lv_sub hl [0, 1, 2, 3, 4, 5] rfl)
  · have hf := if_t c1 hf
    refine lv_iconst (v := (4 : Int32)) hx hb dX12_isWord_5 (by decide) ?_
    refine lv_goto (tgt := 10) hx hb dX12_isWord_6 (by decide) ?_
    exact J10 p0 p1 p2 p3 p4 (4 : Int32) _ _ _ hf hP hS (lv_sub hl [0, 1, 2, 3, 4, 5] rfl)
set_option maxRecDepth 100000 in
set_option maxHeartbeats 4000000 in
theorem k_X12_lastPlace {g : Ev} {l : Launch} (hg : g.2.1.Nodup) {y : Nat} (hO : oModel g y) {M : Mm} {N : Ml}  {v : Int32} (hf : f_X12_lastPlace y M = some v) : KM g l yX12_lastPlace cX12_lastPlace 1 (some .int) 0 [.ref y] M N (QI g v M N) := by
  refine KM.mk hg (by decide) (Nat.le_of_ble_eq_true rfl) ?_
  intro p e s m below meth c ls hC hr hlk hl hP hS
  have hx := hC.1
  have hb := hC.2.1
  have hl : lv_has ls 1 [(0, .ref y)] := hl
  unfold f_X12_lastPlace at hf
  refine lv_aload_n hx hb dX12_lastPlace_0 rfl (lv_at hl 0 rfl) ?_
  refine r_getR hC hP hO.1 fl_X12_48 rfl dX12_lastPlace_1 ?_
  refine lv_iconst (v := (0 : Int32)) hx hb dX12_lastPlace_4 (by decide) ?_
  obtain ⟨hb1, hf⟩ := ck_s hf
  refine r_iald hC hP hO.2.2.2.2.2.2.2.2.2.2.2.2.1 hb1 dX12_lastPlace_5 ?_
  refine lv_iconst (v := (1 : Int32)) hx hb dX12_lastPlace_6 (by decide) ?_
  refine lv_isub hx hb dX12_lastPlace_7 ?_
  exact e_I hC hr hlk hP hS dX12_lastPlace_8 hf
set_option maxRecDepth 100000 in
set_option maxHeartbeats 4000000 in
theorem k_X12_layMoon {g : Ev} {l : Launch} (hg : g.2.1.Nodup) {p0 : Nat} {p0n : Nat} (hp0 : iAt g p0 p0n) {M : Mm} {N : Ml} {p1 : Int32} {p2 : Int32} {p3 : Int32} {p4 : Int32} {MR : Mm} (hf : f_X12_layMoon p0 p0n p1 p2 p3 p4 M = some MR) : KM g l yX12_layMoon cX12_layMoon 6 none 0 [.ref p0, .int p1, .int p2, .int p3, .int p4] M N (QV g MR N) := by
  refine KM.mk hg (by decide) (Nat.le_of_ble_eq_true rfl) ?_
  intro p e s m below meth c ls hC hr hlk hl hP hS
  have hx := hC.1
  have hb := hC.2.1
  have hl : lv_has ls 6 [(0, .ref p0), (1, .int p1), (2, .int p2), (3, .int p3), (4, .int p4)] := hl
  unfold f_X12_layMoon at hf
  refine lv_bipush (v := (127 : Int32)) hx hb dX12_layMoon_0 (by decide) ?_
  refine lv_iconst (v := (4 : Int32)) hx hb dX12_layMoon_2 (by decide) ?_
  refine lv_aload_n hx hb dX12_layMoon_3 rfl (lv_at hl 0 rfl) ?_
  refine lv_bipush (v := (126 : Int32)) hx hb dX12_layMoon_4 (by decide) ?_
  obtain ⟨hb1, hf⟩ := ck_s hf
  refine r_iald hC hP hp0 hb1 dX12_layMoon_6 ?_
  refine lv_imul hx hb dX12_layMoon_7 ?_
  refine lv_iadd hx hb dX12_layMoon_8 ?_
  refine lv_topi (fun z2 ez2 => ?_)
  have hf := bs ez2 hf
  refine lv_istore (lv' := [(5, .int z2), (0, .ref p0), (1, .int p1), (2, .int p2), (3, .int p3), (4, .int p4)]) hx hb dX12_layMoon_9 hl (by decide) rfl (fun ls hl => ?_)
  refine lv_aload_n hx hb dX12_layMoon_11 rfl (lv_at hl 1 rfl) ?_
  refine lv_iload hx hb dX12_layMoon_12 (lv_at hl 0 rfl) ?_
  refine lv_iconst (v := (0 : Int32)) hx hb dX12_layMoon_14 (by decide) ?_
  refine lv_iadd hx hb dX12_layMoon_15 ?_
  refine lv_iload_n hx hb dX12_layMoon_16 rfl (lv_at hl 2 rfl) ?_
  obtain ⟨hb3, hf⟩ := ck_s hf
  refine r_iast hC hP hS hp0 hb3 dX12_layMoon_17 (fun H locs hP hS => ?_)
  obtain ⟨M4, eM4, hf, hP⟩ := bsM hf hP
  refine lv_aload_n hx hb dX12_layMoon_18 rfl (lv_at hl 1 rfl) ?_
  refine lv_iload hx hb dX12_layMoon_19 (lv_at hl 0 rfl) ?_
  refine lv_iconst (v := (1 : Int32)) hx hb dX12_layMoon_21 (by decide) ?_
  refine lv_iadd hx hb dX12_layMoon_22 ?_
  refine lv_iload_n hx hb dX12_layMoon_23 rfl (lv_at hl 3 rfl) ?_
  obtain ⟨hb5, hf⟩ := ck_s hf
  refine r_iast hC hP hS hp0 hb5 dX12_layMoon_24 (fun H locs hP hS => ?_)
  obtain ⟨M6, eM6, hf, hP⟩ := bsM hf hP
  refine lv_aload_n hx hb dX12_layMoon_25 rfl (lv_at hl 1 rfl) ?_
  refine lv_iload hx hb dX12_layMoon_26 (lv_at hl 0 rfl) ?_
  refine lv_iconst (v := (2 : Int32)) hx hb dX12_layMoon_28 (by decide) ?_
  refine lv_iadd hx hb dX12_layMoon_29 ?_
  refine lv_iload_n hx hb dX12_layMoon_30 rfl (lv_at hl 4 rfl) ?_
  obtain ⟨hb7, hf⟩ := ck_s hf
  refine r_iast hC hP hS hp0 hb7 dX12_layMoon_31 (fun H locs hP hS => ?_)
  obtain ⟨M8, eM8, hf, hP⟩ := bsM hf hP
  refine lv_aload_n hx hb dX12_layMoon_32 rfl (lv_at hl 1 rfl) ?_
  refine lv_iload hx hb dX12_layMoon_33 (lv_at hl 0 rfl) ?_
  refine lv_iconst (v := (3 : Int32)) hx hb dX12_layMoon_35 (by decide) ?_
  refine lv_iadd hx hb dX12_layMoon_36 ?_
  refine lv_iload hx hb dX12_layMoon_37 (lv_at hl 5 rfl) ?_
  obtain ⟨hb9, hf⟩ := ck_s hf
  refine r_iast hC hP hS hp0 hb9 dX12_layMoon_39 (fun H locs hP hS => ?_)
  obtain ⟨M10, eM10, hf, hP⟩ := bsM hf hP
  refine lv_aload_n hx hb dX12_layMoon_40 rfl (lv_at hl 1 rfl) ?_
  refine lv_bipush (v := (126 : Int32)) hx hb dX12_layMoon_41 (by decide) ?_
  refine lv_dup2_11 hx hb dX12_layMoon_43 rfl rfl ?_
  obtain ⟨hb11, hf⟩ := ck_s hf
  refine r_iald hC hP hp0 hb11 dX12_layMoon_44 ?_
  refine lv_iconst (v := (1 : Int32)) hx hb dX12_layMoon_45 (by decide) ?_
  refine lv_iadd hx hb dX12_layMoon_46 ?_
  obtain ⟨hb12, hf⟩ := ck_s hf
  refine r_iast hC hP hS hp0 hb12 dX12_layMoon_47 (fun H locs hP hS => ?_)
  obtain ⟨M13, eM13, hf, hP⟩ := bsM hf hP
  exact e_VM hC hr hlk hP hS dX12_layMoon_48 hf
set_option maxRecDepth 100000 in
set_option maxHeartbeats 4000000 in
theorem k_X12_loss {g : Ev} {l : Launch} (hg : g.2.1.Nodup) {y : Nat} (hO : oModel g y) {M : Mm} {N : Ml} {p0 : Int32} {v : Int32} {MR : Mm} (hf : f_X12_loss y p0 M = some (v, MR)) : KM g l yX12_loss cX12_loss 2 (some .int) 5 [.ref y, .int p0] M N (QI g v MR N) := by
  refine KM.mk hg (by decide) (Nat.le_of_ble_eq_true rfl) ?_
  intro p e s m below meth c ls hC hr hlk hl hP hS
  have hx := hC.1
  have hb := hC.2.1
  have hl : lv_has ls 2 [(0, .ref y), (1, .int p0)] := hl
  unfold f_X12_loss at hf
  refine lv_iload_n hx hb dX12_loss_0 rfl (lv_at hl 1 rfl) ?_
  obtain ⟨r1, hu2, hf⟩ := bd_s hf
  refine r_goI (r_runS (As := [.int p0]) (rest := []) hC hP hS (k_X12_isLong hg hu2) cw_X12_163 q_686 q_687 (Rm.D 1 5 rfl) rfl hl.1 rfl (Nat.le_of_ble_eq_true rfl) dX12_loss_1) hS (fun H locs hP hS => ?_)
  refine lv_if_eq (tgt := 19) hx hb dX12_loss_4 (by decide) (fun c4 => ?_) (fun c4 => ?_)
  · have hf := if_t c4 hf
    refine lv_aload_n hx hb dX12_loss_19 rfl (lv_at hl 0 rfl) ?_
    refine lv_bipush (v := (-2 : Int32)) hx hb dX12_loss_20 (by decide) ?_
    obtain ⟨r5, M7, hu6, hf⟩ := bd2_s hf
    refine r_goI (r_runV (As := [.int (-2 : Int32)]) (rest := []) hC hP hS (k_X12_bad hg hO hu6) cw_X12_73 q_196 q_197 q_198 (Rm.D 0 5 rfl) hO.1 rfl rfl hl.1 rfl (Nat.le_of_ble_eq_true rfl) dX12_loss_22) hS (fun H locs hP hS => ?_)
    exact e_IM hC hr hlk hP hS dX12_loss_25 hf
  · have hf := if_f c4 hf
    refine lv_aload_n hx hb dX12_loss_7 rfl (lv_at hl 0 rfl) ?_
    refine lv_iload_n hx hb dX12_loss_8 rfl (lv_at hl 1 rfl) ?_
    refine lv_aload_n hx hb dX12_loss_9 rfl (lv_at hl 0 rfl) ?_
    obtain ⟨r8, hu9, hf⟩ := bd_s hf
    refine r_goI (r_runV (As := []) (rest := [.int p0, .ref y]) hC hP hS (k_X12_all hg hO hu9) cw_X12_127 q_543 q_544 q_545 (Rm.D 1 5 rfl) hO.1 rfl rfl hl.1 rfl (Nat.le_of_ble_eq_true rfl) dX12_loss_10) hS (fun H locs hP hS => ?_)
    obtain ⟨r11, M13, hu12, hf⟩ := bd2_s hf
    refine r_goI (r_runV (As := [.int p0, .int r8]) (rest := []) hC hP hS (k_X12_lossOf hg hO hu12) cw_X12_172 q_716 q_717 q_718 (Rm.D 4 5 rfl) hO.1 rfl rfl hl.1 rfl (Nat.le_of_ble_eq_true rfl) dX12_loss_13) hS (fun H locs hP hS => ?_)
    refine lv_goto (tgt := 25) hx hb dX12_loss_16 (by decide) ?_
    exact e_IM hC hr hlk hP hS dX12_loss_25 hf
set_option maxRecDepth 100000 in
set_option maxHeartbeats 4000000 in
theorem k_X12_lumps {g : Ev} {l : Launch} (hg : g.2.1.Nodup) {y : Nat} (hO : oModel g y) {M : Mm} {N : Ml} {p0 : Int32} {p1 : Int32} {p2 : Int32} {v : Int32} {MR : Mm} (hf : f_X12_lumps y p0 p1 p2 M = some (v, MR)) : KM g l yX12_lumps cX12_lumps 5 (some .int) 2 [.ref y, .int p0, .int p1, .int p2] M N (QI g v MR N) := by
  refine KM.mk hg (by decide) (Nat.le_of_ble_eq_true rfl) ?_
  intro p e s m below meth c ls hC hr hlk hl hP hS
  have hx := hC.1
  have hb := hC.2.1
  have hl : lv_has ls 5 [(0, .ref y), (1, .int p0), (2, .int p1), (3, .int p2)] := hl
  have J27 : ∀ (M : Mm) (H : Heap) (locs : List Loc) (ls : Array Slot), f_X12_lumps_J27 y M = some (v, MR) → wP g M N H → va_S (wA g) s.heap H locs → lv_has ls 5 [(0, .ref y)] → W p l e (rmD 2) s m ([.ref y, .int p0, .int p1, .int p2] : List Value).toArray below meth c H locs 0 0 (MQ below (QI g v MR N) ([.ref y, .int p0, .int p1, .int p2] : List Value).toArray s 0 0 (wA g)) (F0 m 27 ls []) := by
    intro M H locs ls hf hP hS hl
    unfold f_X12_lumps_J27 at hf
    refine lv_aload_n hx hb dX12_lumps_27 rfl (lv_at hl 0 rfl) ?_
    refine lv_bipush (v := (-2 : Int32)) hx hb dX12_lumps_28 (by decide) ?_
    obtain ⟨r5, M7, hu6, hf⟩ := bd2_s hf
    refine r_goI (r_runV (As := [.int (-2 : Int32)]) (rest := []) hC hP hS (k_X12_bad hg hO hu6) cw_X12_73 q_196 q_197 q_198 (Rm.D 0 2 rfl) hO.1 rfl rfl hl.1 rfl (Nat.le_of_ble_eq_true rfl) dX12_lumps_30) hS (fun H locs hP hS => ?_)
    exact e_IM hC hr hlk hP hS dX12_lumps_33 hf
  unfold f_X12_lumps at hf
  refine lv_iload_n hx hb dX12_lumps_0 rfl (lv_at hl 1 rfl) ?_
  obtain ⟨r1, hu2, hf⟩ := bd_s hf
  refine r_goI (r_runS (As := [.int p0]) (rest := []) hC hP hS (k_X12_isLane hg hu2) cw_X12_77 q_217 q_218 (Rm.D 1 2 rfl) rfl hl.1 rfl (Nat.le_of_ble_eq_true rfl) dX12_lumps_1) hS (fun H locs hP hS => ?_)
  refine lv_if_eq (tgt := 27) hx hb dX12_lumps_4 (by decide) (fun c4 => ?_) (fun c4 => ?_)
  · have hf := if_t c4 hf
    exact J27 M _ _ _ hf hP hS (lv_sub hl [0] rfl)
  · have hf := if_f c4 hf
    refine lv_aload_n hx hb dX12_lumps_7 rfl (lv_at hl 0 rfl) ?_
    refine lv_iload_n hx hb dX12_lumps_8 rfl (lv_at hl 2 rfl) ?_
    obtain ⟨r8, hu9, hf⟩ := bd_s hf
    refine r_goI (r_runV (As := [.int p1]) (rest := []) hC hP hS (k_X12_isPlace hg hO hu9) cw_X12_83 q_245 q_246 q_247 (Rm.D 1 2 rfl) hO.1 rfl rfl hl.1 rfl (Nat.le_of_ble_eq_true rfl) dX12_lumps_9) hS (fun H locs hP hS => ?_)
    refine lv_if_eq (tgt := 27) hx hb dX12_lumps_12 (by decide) (fun c11 => ?_) (fun c11 => ?_)
    · have hf := if_t c11 hf
      exact J27 M _ _ _ hf hP hS (lv_sub hl [0] rfl)
    · have hf := if_f c11 hf
      refine lv_iload_n hx hb dX12_lumps_15 rfl (lv_at hl 3 rfl) ?_
      refine lv_i2l hx hb dX12_lumps_16 rfl ?_
      refine lv_lconst (v := (0 : Int64)) hx hb dX12_lumps_17 (by decide) ?_
      refine lv_ldc2 (v := (999 : Int64)) hx hb hC.2.2.2.1 (hC.2.2.2.2.1 _ q_244) dX12_lumps_18 ?_
      obtain ⟨r12, hu13, hf⟩ := bd_s hf
      refine r_goI (r_runS (As := [.long p2.toInt64, .long (0 : Int64), .long (999 : Int64)]) (rest := []) hC hP hS (k_X12_in hg hu13) cw_X12_60 q_193 q_194 (Rm.D 0 2 rfl) rfl hl.1 rfl (Nat.le_of_ble_eq_true rfl) dX12_lumps_21) hS (fun H locs hP hS => ?_)
      refine lv_if_ne (tgt := 34) hx hb dX12_lumps_24 (by decide) (fun c15 => ?_) (fun c15 => ?_)
      · have hf := if_f c15 hf
        refine lv_aload_n hx hb dX12_lumps_34 rfl (lv_at hl 0 rfl) ?_
        refine r_getR hC hP hO.1 fl_X12_7 rfl dX12_lumps_35 ?_
        refine lv_bipush (v := (6 : Int32)) hx hb dX12_lumps_38 (by decide) ?_
        refine lv_bipush (v := (24 : Int32)) hx hb dX12_lumps_40 (by decide) ?_
        refine lv_iload_n hx hb dX12_lumps_42 rfl (lv_at hl 1 rfl) ?_
        refine lv_imul hx hb dX12_lumps_43 ?_
        refine lv_iadd hx hb dX12_lumps_44 ?_
        refine lv_iload_n hx hb dX12_lumps_45 rfl (lv_at hl 2 rfl) ?_
        refine lv_iadd hx hb dX12_lumps_46 ?_
        obtain ⟨hb16, hf⟩ := ck_s hf
        refine r_iald hC hP hO.2.1 hb16 dX12_lumps_47 ?_
        refine lv_topi (fun z17 ez17 => ?_)
        have hf := bs ez17 hf
        refine lv_istore (lv' := [(4, .int z17), (0, .ref y), (1, .int p0), (2, .int p1), (3, .int p2)]) hx hb dX12_lumps_48 hl (by decide) rfl (fun ls hl => ?_)
        refine lv_aload_n hx hb dX12_lumps_50 rfl (lv_at hl 1 rfl) ?_
        refine r_getR hC hP hO.1 fl_X12_7 rfl dX12_lumps_51 ?_
        refine lv_bipush (v := (6 : Int32)) hx hb dX12_lumps_54 (by decide) ?_
        refine lv_bipush (v := (24 : Int32)) hx hb dX12_lumps_56 (by decide) ?_
        refine lv_iload_n hx hb dX12_lumps_58 rfl (lv_at hl 2 rfl) ?_
        refine lv_imul hx hb dX12_lumps_59 ?_
        refine lv_iadd hx hb dX12_lumps_60 ?_
        refine lv_iload_n hx hb dX12_lumps_61 rfl (lv_at hl 3 rfl) ?_
        refine lv_iadd hx hb dX12_lumps_62 ?_
        refine lv_iload_n hx hb dX12_lumps_63 rfl (lv_at hl 4 rfl) ?_
        obtain ⟨hb18, hf⟩ := ck_s hf
        refine r_iast hC hP hS hO.2.1 hb18 dX12_lumps_64 (fun H locs hP hS => ?_)
        obtain ⟨M19, eM19, hf, hP⟩ := bsM hf hP
        refine lv_iload hx hb dX12_lumps_65 (lv_at hl 0 rfl) ?_
        exact e_IM hC hr hlk hP hS dX12_lumps_67 hf
      · have hf := if_t c15 hf
        exact J27 M _ _ _ hf hP hS (lv_sub hl [0] rfl)
set_option maxRecDepth 100000 in
set_option maxHeartbeats 4000000 in
theorem k_X12_moon {g : Ev} {l : Launch} (hg : g.2.1.Nodup) {y : Nat} (hO : oModel g y) {M : Mm} {N : Ml} {p0 : Int32} {p1 : Int32} {p2 : Int32} {p3 : Int32} {v : Int32} {MR : Mm} (hf : f_X12_moon y p0 p1 p2 p3 M = some (v, MR)) : KM g l yX12_moon cX12_moon 5 (some .int) 2 [.ref y, .int p0, .int p1, .int p2, .int p3] M N (QI g v MR N) := by
  refine KM.mk hg (by decide) (Nat.le_of_ble_eq_true rfl) ?_
  intro p e s m below meth c ls hC hr hlk hl hP hS
  have hx := hC.1
  have hb := hC.2.1
  have hl : lv_has ls 5 [(0, .ref y), (1, .int p0), (2, .int p1), (3, .int p2), (4, .int p3)] := hl
  have J45 : ∀ (M : Mm) (H : Heap) (locs : List Loc) (ls : Array Slot), f_X12_moon_J45 y M = some (v, MR) → wP g M N H → va_S (wA g) s.heap H locs → lv_has ls 5 [(0, .ref y)] → W p l e (rmD 2) s m ([.ref y, .int p0, .int p1, .int p2, .int p3] : List Value).toArray below meth c H locs 0 0 (MQ below (QI g v MR N) ([.ref y, .int p0, .int p1, .int p2, .int p3] : List Value).toArray s 0 0 (wA g)) (F0 m 45 ls []) := by
    intro M H locs ls hf hP hS hl
    unfold f_X12_moon_J45 at hf
    refine lv_aload_n hx hb dX12_moon_45 rfl (lv_at hl 0 rfl) ?_
    refine lv_bipush (v := (-2 : Int32)) hx hb dX12_moon_46 (by decide) ?_
    obtain ⟨r5, M7, hu6, hf⟩ := bd2_s hf
    refine r_goI (r_runV (As := [.int (-2 : Int32)]) (rest := []) hC hP hS (k_X12_bad hg hO hu6) cw_X12_73 q_196 q_197 q_198 (Rm.D 0 2 rfl) hO.1 rfl rfl hl.1 rfl (Nat.le_of_ble_eq_true rfl) dX12_moon_48) hS (fun H locs hP hS => ?_)
    exact e_IM hC hr hlk hP hS dX12_moon_51 hf
  unfold f_X12_moon at hf
  refine lv_iload_n hx hb dX12_moon_0 rfl (lv_at hl 1 rfl) ?_
  refine lv_i2l hx hb dX12_moon_1 rfl ?_
  refine lv_lconst (v := (0 : Int64)) hx hb dX12_moon_2 (by decide) ?_
  refine lv_ldc2 (v := (4 : Int64)) hx hb hC.2.2.2.1 (hC.2.2.2.2.1 _ q_191) dX12_moon_3 ?_
  obtain ⟨r1, hu2, hf⟩ := bd_s hf
  refine r_goI (r_runS (As := [.long p0.toInt64, .long (0 : Int64), .long (4 : Int64)]) (rest := []) hC hP hS (k_X12_in hg hu2) cw_X12_60 q_193 q_194 (Rm.D 0 2 rfl) rfl hl.1 rfl (Nat.le_of_ble_eq_true rfl) dX12_moon_6) hS (fun H locs hP hS => ?_)
  refine lv_if_eq (tgt := 45) hx hb dX12_moon_9 (by decide) (fun c4 => ?_) (fun c4 => ?_)
  · have hf := if_t c4 hf
    exact J45 M _ _ _ hf hP hS (lv_sub hl [0] rfl)
  · have hf := if_f c4 hf
    refine lv_iload_n hx hb dX12_moon_12 rfl (lv_at hl 2 rfl) ?_
    refine lv_i2l hx hb dX12_moon_13 rfl ?_
    refine lv_lconst (v := (0 : Int64)) hx hb dX12_moon_14 (by decide) ?_
    refine lv_ldc2 (v := (5 : Int64)) hx hb hC.2.2.2.1 (hC.2.2.2.2.1 _ q_262) dX12_moon_15 ?_
    obtain ⟨r8, hu9, hf⟩ := bd_s hf
    refine r_goI (r_runS (As := [.long p1.toInt64, .long (0 : Int64), .long (5 : Int64)]) (rest := []) hC hP hS (k_X12_in hg hu9) cw_X12_60 q_193 q_194 (Rm.D 0 2 rfl) rfl hl.1 rfl (Nat.le_of_ble_eq_true rfl) dX12_moon_18) hS (fun H locs hP hS => ?_)
    refine lv_if_eq (tgt := 45) hx hb dX12_moon_21 (by decide) (fun c11 => ?_) (fun c11 => ?_)
    · have hf := if_t c11 hf
      exact J45 M _ _ _ hf hP hS (lv_sub hl [0] rfl)
    · have hf := if_f c11 hf
      refine lv_aload_n hx hb dX12_moon_24 rfl (lv_at hl 0 rfl) ?_
      refine lv_iload_n hx hb dX12_moon_25 rfl (lv_at hl 3 rfl) ?_
      obtain ⟨r12, hu13, hf⟩ := bd_s hf
      refine r_goI (r_runV (As := [.int p2]) (rest := []) hC hP hS (k_X12_isPlace hg hO hu13) cw_X12_83 q_245 q_246 q_247 (Rm.D 1 2 rfl) hO.1 rfl rfl hl.1 rfl (Nat.le_of_ble_eq_true rfl) dX12_moon_26) hS (fun H locs hP hS => ?_)
      refine lv_if_eq (tgt := 45) hx hb dX12_moon_29 (by decide) (fun c15 => ?_) (fun c15 => ?_)
      · have hf := if_t c15 hf
        exact J45 M _ _ _ hf hP hS (lv_sub hl [0] rfl)
      · have hf := if_f c15 hf
        refine lv_iload hx hb dX12_moon_32 (lv_at hl 4 rfl) ?_
        refine lv_i2l hx hb dX12_moon_34 rfl ?_
        refine lv_lconst (v := (0 : Int64)) hx hb dX12_moon_35 (by decide) ?_
        refine lv_ldc2 (v := (9 : Int64)) hx hb hC.2.2.2.1 (hC.2.2.2.2.1 _ q_216) dX12_moon_36 ?_
        obtain ⟨r16, hu17, hf⟩ := bd_s hf
        refine r_goI (r_runS (As := [.long p3.toInt64, .long (0 : Int64), .long (9 : Int64)]) (rest := []) hC hP hS (k_X12_in hg hu17) cw_X12_60 q_193 q_194 (Rm.D 0 2 rfl) rfl hl.1 rfl (Nat.le_of_ble_eq_true rfl) dX12_moon_39) hS (fun H locs hP hS => ?_)
        refine lv_if_ne (tgt := 52) hx hb dX12_moon_42 (by decide) (fun c19 => ?_) (fun c19 => ?_)
        · have hf := if_f c19 hf
          refine lv_aload_n hx hb dX12_moon_52 rfl (lv_at hl 0 rfl) ?_
          obtain ⟨r20, hu21, hf⟩ := bd_s hf
          refine r_goI (r_runV (As := []) (rest := []) hC hP hS (k_X12_moons hg hO hu21) cw_X12_68 q_263 q_264 q_265 (Rm.D 0 2 rfl) hO.1 rfl rfl hl.1 rfl (Nat.le_of_ble_eq_true rfl) dX12_moon_53) hS (fun H locs hP hS => ?_)
          refine lv_iconst (v := (4 : Int32)) hx hb dX12_moon_56 (by decide) ?_
          refine lv_icmp_ne (tgt := 65) hx hb dX12_moon_57 (by decide) (fun c23 => ?_) (fun c23 => ?_)
          · have hf := if_f c23 hf
            refine lv_aload_n hx hb dX12_moon_65 rfl (lv_at hl 0 rfl) ?_
            refine r_getR hC hP hO.1 fl_X12_7 rfl dX12_moon_66 ?_
            refine lv_iload_n hx hb dX12_moon_69 rfl (lv_at hl 1 rfl) ?_
            refine lv_iload_n hx hb dX12_moon_70 rfl (lv_at hl 2 rfl) ?_
            refine lv_iload_n hx hb dX12_moon_71 rfl (lv_at hl 3 rfl) ?_
            refine lv_iload hx hb dX12_moon_72 (lv_at hl 4 rfl) ?_
            obtain ⟨M26, hu25, hf⟩ := bd_s hf
            refine r_goV (r_runS (As := [.ref (y + 1), .int p0, .int p1, .int p2, .int p3]) (rest := []) hC hP hS (k_X12_layMoon hg hO.2.1 hu25) cw_X12_93 q_271 q_272 (Rm.D 0 2 rfl) rfl hl.1 rfl (Nat.le_of_ble_eq_true rfl) dX12_moon_74) hS (fun H locs hP hS => ?_)
            refine lv_aload_n hx hb dX12_moon_77 rfl (lv_at hl 0 rfl) ?_
            obtain ⟨r27, hu28, hf⟩ := bd_s hf
            refine r_goI (r_runV (As := []) (rest := []) hC hP hS (k_X12_moons hg hO hu28) cw_X12_68 q_263 q_264 q_265 (Rm.D 0 2 rfl) hO.1 rfl rfl hl.1 rfl (Nat.le_of_ble_eq_true rfl) dX12_moon_78) hS (fun H locs hP hS => ?_)
            refine lv_iconst (v := (1 : Int32)) hx hb dX12_moon_81 (by decide) ?_
            refine lv_isub hx hb dX12_moon_82 ?_
            exact e_IM hC hr hlk hP hS dX12_moon_83 hf
          · have hf := if_t c23 hf
            refine lv_aload_n hx hb dX12_moon_60 rfl (lv_at hl 0 rfl) ?_
            obtain ⟨r30, M32, hu31, hf⟩ := bd2_s hf
            refine r_goI (r_runV (As := []) (rest := []) hC hP hS (k_X12_full hg hO hu31) cw_X12_90 q_267 q_268 q_269 (Rm.D 0 2 rfl) hO.1 rfl rfl hl.1 rfl (Nat.le_of_ble_eq_true rfl) dX12_moon_61) hS (fun H locs hP hS => ?_)
            exact e_IM hC hr hlk hP hS dX12_moon_64 hf
        · have hf := if_t c19 hf
          exact J45 M _ _ _ hf hP hS (lv_sub hl [0] rfl)
set_option maxRecDepth 100000 in
set_option maxHeartbeats 4000000 in
theorem k_X12_moved {g : Ev} {l : Launch} (hg : g.2.1.Nodup) {y : Nat} (hO : oModel g y) {M : Mm} {N : Ml} {p0 : Int32} {p1 : Int32} {v : Int32} {MR : Mm} (hf : f_X12_moved y p0 p1 M = some (v, MR)) : KM g l yX12_moved cX12_moved 9 (some .int) 5 [.ref y, .int p0, .int p1] M N (QI g v MR N) := by
  refine KM.mk hg (by decide) (Nat.le_of_ble_eq_true rfl) ?_
  intro p e s m below meth c ls hC hr hlk hl hP hS
  have hx := hC.1
  have hb := hC.2.1
  have hl : lv_has ls 9 [(0, .ref y), (1, .int p0), (2, .int p1)] := hl
  have J15 : ∀ (M : Mm) (H : Heap) (locs : List Loc) (ls : Array Slot), f_X12_moved_J15 y M = some (v, MR) → wP g M N H → va_S (wA g) s.heap H locs → lv_has ls 9 [(0, .ref y)] → W p l e (rmD 5) s m ([.ref y, .int p0, .int p1] : List Value).toArray below meth c H locs 0 0 (MQ below (QI g v MR N) ([.ref y, .int p0, .int p1] : List Value).toArray s 0 0 (wA g)) (F0 m 15 ls []) := by
    intro M H locs ls hf hP hS hl
    unfold f_X12_moved_J15 at hf
    refine lv_aload_n hx hb dX12_moved_15 rfl (lv_at hl 0 rfl) ?_
    refine lv_bipush (v := (-2 : Int32)) hx hb dX12_moved_16 (by decide) ?_
    obtain ⟨r5, M7, hu6, hf⟩ := bd2_s hf
    refine r_goI (r_runV (As := [.int (-2 : Int32)]) (rest := []) hC hP hS (k_X12_bad hg hO hu6) cw_X12_73 q_196 q_197 q_198 (Rm.D 0 5 rfl) hO.1 rfl rfl hl.1 rfl (Nat.le_of_ble_eq_true rfl) dX12_moved_18) hS (fun H locs hP hS => ?_)
    exact e_IM hC hr hlk hP hS dX12_moved_21 hf
  have J115 : ∀ (kb49 : Int32 → Int32 → Int32 → Int32 → Int32 → Int32 → Mm → Option (Int32 × Mm)) (hkb49 : ∀ (x2 : Int32) (x3 : Int32) (x4 : Int32) (x5 : Int32) (x6 : Int32) (x7 : Int32) (M : Mm) (H : Heap) (locs : List Loc) (ls : Array Slot), kb49 x2 x3 x4 x5 x6 x7 M = some (v, MR) → wP g M N H → va_S (wA g) s.heap H locs → lv_has ls 9 [(0, .ref y), (2, .int x2), (3, .int x3), (4, .int x4), (5, .int x5), (6, .int x6), (7, .int x7)] → W p l e (rmD 5) s m ([.ref y, .int p0, .int p1] : List Value).toArray below meth c H locs 0 0 (MQ below (QI g v MR N) ([.ref y, .int p0, .int p1] : List Value).toArray s 0 0 (wA g)) (F0 m 49 ls [])) (x2 : Int32) (x3 : Int32) (x4 : Int32) (x5 : Int32) (x7 : Int32) (s0 : Int32) (M : Mm) (H : Heap) (locs : List Loc) (ls : Array Slot), f_X12_moved_J115 y x2 x3 x4 x5 x7 s0 M kb49 = some (v, MR) → wP g M N H → va_S (wA g) s.heap H locs → lv_has ls 9 [(0, .ref y), (2, .int x2), (3, .int x3), (4, .int x4), (5, .int x5), (7, .int x7)] → W p l e (rmD 5) s m ([.ref y, .int p0, .int p1] : List Value).toArray below meth c H locs 0 0 (MQ below (QI g v MR N) ([.ref y, .int p0, .int p1] : List Value).toArray s 0 0 (wA g)) (F0 m 115 ls [.int s0]) := by
    intro kb49 hkb49 x2 x3 x4 x5 x7 s0 M H locs ls hf hP hS hl
    unfold f_X12_moved_J115 at hf
    refine lv_istore (lv' := [(6, .int s0), (0, .ref y), (2, .int x2), (3, .int x3), (4, .int x4), (5, .int x5), (7, .int x7)]) hx hb dX12_moved_115 hl (by decide) rfl (fun ls hl => ?_)
    obtain ⟨z35, ez35, hf⟩ := bsJ hf
    refine lv_iinc (v := z35) (lv' := [(7, .int z35), (6, .int s0), (0, .ref y), (2, .int x2), (3, .int x3), (4, .int x4), (5, .int x5)]) hx hb dX12_moved_117 hl (k := 6) rfl (by rw [ez35]; rfl) (by decide) rfl (fun ls hl => ?_)
    refine lv_goto (tgt := 49) hx hb dX12_moved_120 (by decide) ?_
    exact hkb49 x2 x3 x4 x5 s0 z35 M _ _ _ hf hP hS (lv_sub hl [2, 3, 4, 5, 6, 1, 0] rfl)
  have J99 : ∀ (kb49 : Int32 → Int32 → Int32 → Int32 → Int32 → Int32 → Mm → Option (Int32 × Mm)) (hkb49 : ∀ (x2 : Int32) (x3 : Int32) (x4 : Int32) (x5 : Int32) (x6 : Int32) (x7 : Int32) (M : Mm) (H : Heap) (locs : List Loc) (ls : Array Slot), kb49 x2 x3 x4 x5 x6 x7 M = some (v, MR) → wP g M N H → va_S (wA g) s.heap H locs → lv_has ls 9 [(0, .ref y), (2, .int x2), (3, .int x3), (4, .int x4), (5, .int x5), (6, .int x6), (7, .int x7)] → W p l e (rmD 5) s m ([.ref y, .int p0, .int p1] : List Value).toArray below meth c H locs 0 0 (MQ below (QI g v MR N) ([.ref y, .int p0, .int p1] : List Value).toArray s 0 0 (wA g)) (F0 m 49 ls [])) (x2 : Int32) (x3 : Int32) (x4 : Int32) (x6 : Int32) (x7 : Int32) (x8 : Int32) (s0 : Int32) (M : Mm) (H : Heap) (locs : List Loc) (ls : Array Slot), f_X12_moved_J99 y x2 x3 x4 x6 x7 x8 s0 M kb49 = some (v, MR) → wP g M N H → va_S (wA g) s.heap H locs → lv_has ls 9 [(0, .ref y), (2, .int x2), (3, .int x3), (4, .int x4), (6, .int x6), (7, .int x7), (8, .int x8)] → W p l e (rmD 5) s m ([.ref y, .int p0, .int p1] : List Value).toArray below meth c H locs 0 0 (MQ below (QI g v MR N) ([.ref y, .int p0, .int p1] : List Value).toArray s 0 0 (wA g)) (F0 m 99 ls [.int s0]) := by
    intro kb49 hkb49 x2 x3 x4 x6 x7 x8 s0 M H locs ls hf hP hS hl
    unfold f_X12_moved_J99 at hf
    refine lv_istore (lv' := [(5, .int s0), (0, .ref y), (2, .int x2), (3, .int x3), (4, .int x4), (6, .int x6), (7, .int x7), (8, .int x8)]) hx hb dX12_moved_99 hl (by decide) rfl (fun ls hl => ?_)
    refine lv_iload hx hb dX12_moved_101 (lv_at hl 7 rfl) ?_
    refine lv_iload hx hb dX12_moved_103 (lv_at hl 5 rfl) ?_
    refine lv_icmp_ge (tgt := 113) hx hb dX12_moved_105 (by decide) (fun c34 => ?_) (fun c34 => ?_)
    · have hf := if_t c34 hf
      refine lv_iload hx hb dX12_moved_113 (lv_at hl 5 rfl) ?_
      exact J115 _ hkb49 x2 x3 x4 s0 x7 x6 M _ _ _ hf hP hS (lv_sub hl [1, 2, 3, 4, 0, 6] rfl)
    · have hf := if_f c34 hf
      refine lv_iload hx hb dX12_moved_108 (lv_at hl 7 rfl) ?_
      refine lv_goto (tgt := 115) hx hb dX12_moved_110 (by decide) ?_
      exact J115 _ hkb49 x2 x3 x4 s0 x7 x8 M _ _ _ hf hP hS (lv_sub hl [1, 2, 3, 4, 0, 6] rfl)
  have L49 : ∀ (n : Nat) (x2 : Int32) (x3 : Int32) (x4 : Int32) (x5 : Int32) (x6 : Int32) (x7 : Int32) (M : Mm) (H : Heap) (locs : List Loc) (ls : Array Slot), f_X12_moved_L49 y n x2 x3 x4 x5 x6 x7 M = some (v, MR) → wP g M N H → va_S (wA g) s.heap H locs → lv_has ls 9 [(0, .ref y), (2, .int x2), (3, .int x3), (4, .int x4), (5, .int x5), (6, .int x6), (7, .int x7)] → W p l e (rmD 5) s m ([.ref y, .int p0, .int p1] : List Value).toArray below meth c H locs 0 0 (MQ below (QI g v MR N) ([.ref y, .int p0, .int p1] : List Value).toArray s 0 0 (wA g)) (F0 m 49 ls []) := by
    intro n
    induction n with
    | zero =>
      intro x2 x3 x4 x5 x6 x7 M H locs ls hf
      exact absurd hf (by simp [f_X12_moved_L49])
    | succ n ih =>
      intro x2 x3 x4 x5 x6 x7 M H locs ls hf hP hS hl
      unfold f_X12_moved_L49 at hf
      refine lv_iload hx hb dX12_moved_49 (lv_at hl 6 rfl) ?_
      refine lv_aload_n hx hb dX12_moved_51 rfl (lv_at hl 0 rfl) ?_
      obtain ⟨r15, hu16, hf⟩ := bd_s hf
      refine r_goI (r_runV (As := []) (rest := [.int x7]) hC hP hS (k_X12_places hg hO hu16) cw_X12_64 q_200 q_201 q_202 (Rm.D 0 5 rfl) hO.1 rfl rfl hl.1 rfl (Nat.le_of_ble_eq_true rfl) dX12_moved_52) hS (fun H locs hP hS => ?_)
      refine lv_icmp_ge (tgt := 123) hx hb dX12_moved_55 (by decide) (fun c18 => ?_) (fun c18 => ?_)
      · have hf := if_t c18 hf
        refine lv_aload_n hx hb dX12_moved_123 rfl (lv_at hl 0 rfl) ?_
        refine r_getR hC hP hO.1 fl_X12_7 rfl dX12_moved_124 ?_
        refine lv_iload_n hx hb dX12_moved_127 rfl (lv_at hl 2 rfl) ?_
        refine lv_iload hx hb dX12_moved_128 (lv_at hl 3 rfl) ?_
        obtain ⟨hb19, hf⟩ := ck_s hf
        refine r_iast hC hP hS hO.2.1 hb19 dX12_moved_130 (fun H locs hP hS => ?_)
        obtain ⟨M20, eM20, hf, hP⟩ := bsM hf hP
        refine lv_iload hx hb dX12_moved_131 (lv_at hl 4 rfl) ?_
        exact e_IM hC hr hlk hP hS dX12_moved_133 hf
      · have hf := if_f c18 hf
        refine lv_aload_n hx hb dX12_moved_58 rfl (lv_at hl 0 rfl) ?_
        refine r_getR hC hP hO.1 fl_X12_7 rfl dX12_moved_59 ?_
        refine lv_iload_n hx hb dX12_moved_62 rfl (lv_at hl 2 rfl) ?_
        refine lv_iload hx hb dX12_moved_63 (lv_at hl 3 rfl) ?_
        refine lv_iload hx hb dX12_moved_65 (lv_at hl 6 rfl) ?_
        refine lv_iadd hx hb dX12_moved_67 ?_
        refine lv_aload_n hx hb dX12_moved_68 rfl (lv_at hl 0 rfl) ?_
        obtain ⟨r21, hu22, hf⟩ := bd_s hf
        refine r_goI (r_runV (As := []) (rest := [.int (x4 + x7), .int x3, .ref (y + 1)]) hC hP hS (k_X12_places hg hO hu22) cw_X12_64 q_200 q_201 q_202 (Rm.D 0 5 rfl) hO.1 rfl rfl hl.1 rfl (Nat.le_of_ble_eq_true rfl) dX12_moved_69) hS (fun H locs hP hS => ?_)
        obtain ⟨hz24, hf⟩ := cz_s hf
        refine lv_irem hx hb dX12_moved_72 hz24 ?_
        obtain ⟨hb25, hf⟩ := ck_s hf
        refine r_iast hC hP hS hO.2.1 hb25 dX12_moved_73 (fun H locs hP hS => ?_)
        obtain ⟨M26, eM26, hf, hP⟩ := bsM hf hP
        refine lv_aload_n hx hb dX12_moved_74 rfl (lv_at hl 0 rfl) ?_
        refine lv_iload_n hx hb dX12_moved_75 rfl (lv_at hl 1 rfl) ?_
        refine lv_aload_n hx hb dX12_moved_76 rfl (lv_at hl 0 rfl) ?_
        obtain ⟨r27, hu28, hf⟩ := bd_s hf
        refine r_goI (r_runV (As := []) (rest := [.int x2, .ref y]) hC hP hS (k_X12_all hg hO hu28) cw_X12_127 q_543 q_544 q_545 (Rm.D 1 5 rfl) hO.1 rfl rfl hl.1 rfl (Nat.le_of_ble_eq_true rfl) dX12_moved_77) hS (fun H locs hP hS => ?_)
        obtain ⟨r30, M32, hu31, hf⟩ := bd2_s hf
        refine r_goI (r_runV (As := [.int x2, .int r27]) (rest := []) hC hP hS (k_X12_lossOf hg hO hu31) cw_X12_172 q_716 q_717 q_718 (Rm.D 4 5 rfl) hO.1 rfl rfl hl.1 rfl (Nat.le_of_ble_eq_true rfl) dX12_moved_80) hS (fun H locs hP hS => ?_)
        refine lv_istore (lv' := [(8, .int r30), (0, .ref y), (2, .int x2), (3, .int x3), (4, .int x4), (5, .int x5), (6, .int x6), (7, .int x7)]) hx hb dX12_moved_83 hl (by decide) rfl (fun ls hl => ?_)
        refine lv_iload hx hb dX12_moved_85 (lv_at hl 0 rfl) ?_
        refine lv_iload hx hb dX12_moved_87 (lv_at hl 6 rfl) ?_
        refine lv_icmp_ge (tgt := 97) hx hb dX12_moved_89 (by decide) (fun c33 => ?_) (fun c33 => ?_)
        · have hf := if_t c33 hf
          refine lv_iload hx hb dX12_moved_97 (lv_at hl 5 rfl) ?_
          exact J99 _ ih x2 x3 x4 x6 x7 r30 x5 M32 _ _ _ hf hP hS (lv_sub hl [1, 2, 3, 4, 6, 7, 0] rfl)
        · have hf := if_f c33 hf
          refine lv_iload hx hb dX12_moved_92 (lv_at hl 7 rfl) ?_
          refine lv_goto (tgt := 99) hx hb dX12_moved_94 (by decide) ?_
          exact J99 _ ih x2 x3 x4 x6 x7 r30 x7 M32 _ _ _ hf hP hS (lv_sub hl [1, 2, 3, 4, 6, 7, 0] rfl)
  unfold f_X12_moved at hf
  refine lv_aload_n hx hb dX12_moved_0 rfl (lv_at hl 0 rfl) ?_
  refine lv_iload_n hx hb dX12_moved_1 rfl (lv_at hl 1 rfl) ?_
  obtain ⟨r1, hu2, hf⟩ := bd_s hf
  refine r_goI (r_runV (As := [.int p0]) (rest := []) hC hP hS (k_X12_isMoon hg hO hu2) cw_X12_144 q_635 q_636 q_637 (Rm.D 1 5 rfl) hO.1 rfl rfl hl.1 rfl (Nat.le_of_ble_eq_true rfl) dX12_moved_2) hS (fun H locs hP hS => ?_)
  refine lv_if_eq (tgt := 15) hx hb dX12_moved_5 (by decide) (fun c4 => ?_) (fun c4 => ?_)
  · have hf := if_t c4 hf
    exact J15 M _ _ _ hf hP hS (lv_sub hl [0] rfl)
  · have hf := if_f c4 hf
    refine lv_iload_n hx hb dX12_moved_8 rfl (lv_at hl 2 rfl) ?_
    obtain ⟨r8, hu9, hf⟩ := bd_s hf
    refine r_goI (r_runS (As := [.int p1]) (rest := []) hC hP hS (k_X12_isLong hg hu9) cw_X12_163 q_686 q_687 (Rm.D 1 5 rfl) rfl hl.1 rfl (Nat.le_of_ble_eq_true rfl) dX12_moved_9) hS (fun H locs hP hS => ?_)
    refine lv_if_ne (tgt := 22) hx hb dX12_moved_12 (by decide) (fun c11 => ?_) (fun c11 => ?_)
    · have hf := if_f c11 hf
      refine lv_bipush (v := (127 : Int32)) hx hb dX12_moved_22 (by decide) ?_
      refine lv_iconst (v := (4 : Int32)) hx hb dX12_moved_24 (by decide) ?_
      refine lv_iload_n hx hb dX12_moved_25 rfl (lv_at hl 1 rfl) ?_
      refine lv_imul hx hb dX12_moved_26 ?_
      refine lv_iadd hx hb dX12_moved_27 ?_
      refine lv_iconst (v := (2 : Int32)) hx hb dX12_moved_28 (by decide) ?_
      refine lv_iadd hx hb dX12_moved_29 ?_
      refine lv_topi (fun z12 ez12 => ?_)
      have hf := bs ez12 hf
      refine lv_istore_n (lv' := [(3, .int z12), (0, .ref y), (1, .int p0), (2, .int p1)]) hx hb dX12_moved_30 rfl hl (by decide) rfl (fun ls hl => ?_)
      refine lv_aload_n hx hb dX12_moved_31 rfl (lv_at hl 1 rfl) ?_
      refine r_getR hC hP hO.1 fl_X12_7 rfl dX12_moved_32 ?_
      refine lv_iload_n hx hb dX12_moved_35 rfl (lv_at hl 0 rfl) ?_
      obtain ⟨hb13, hf⟩ := ck_s hf
      refine r_iald hC hP hO.2.1 hb13 dX12_moved_36 ?_
      refine lv_topi (fun z14 ez14 => ?_)
      have hf := bs ez14 hf
      refine lv_istore (lv' := [(4, .int z14), (3, .int z12), (0, .ref y), (1, .int p0), (2, .int p1)]) hx hb dX12_moved_37 hl (by decide) rfl (fun ls hl => ?_)
      refine lv_iconst (v := (0 : Int32)) hx hb dX12_moved_39 (by decide) ?_
      refine lv_istore (lv' := [(5, .int (0 : Int32)), (4, .int z14), (3, .int z12), (0, .ref y), (1, .int p0), (2, .int p1)]) hx hb dX12_moved_40 hl (by decide) rfl (fun ls hl => ?_)
      refine lv_ldc (v := (100000000 : Int32)) hx hb hC.2.2.2.1 (hC.2.2.2.2.1 _ q_754) dX12_moved_42 ?_
      refine lv_istore (lv' := [(6, .int (100000000 : Int32)), (5, .int (0 : Int32)), (4, .int z14), (3, .int z12), (0, .ref y), (1, .int p0), (2, .int p1)]) hx hb dX12_moved_44 hl (by decide) rfl (fun ls hl => ?_)
      refine lv_iconst (v := (0 : Int32)) hx hb dX12_moved_46 (by decide) ?_
      refine lv_istore (lv' := [(7, .int (0 : Int32)), (6, .int (100000000 : Int32)), (5, .int (0 : Int32)), (4, .int z14), (3, .int z12), (0, .ref y), (1, .int p0), (2, .int p1)]) hx hb dX12_moved_47 hl (by decide) rfl (fun ls hl => ?_)
      exact L49 _ p1 z12 z14 (0 : Int32) (100000000 : Int32) (0 : Int32) M _ _ _ hf hP hS (lv_sub hl [5, 7, 4, 3, 2, 1, 0] rfl)
    · have hf := if_t c11 hf
      exact J15 M _ _ _ hf hP hS (lv_sub hl [0] rfl)
