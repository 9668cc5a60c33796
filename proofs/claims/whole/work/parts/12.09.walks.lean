set_option maxRecDepth 100000 in
set_option maxHeartbeats 4000000 in
theorem k_X12_round {g : Ev} {l : Launch} (hg : g.2.1.Nodup) {y : Nat} (hO : oModel g y) {M : Mm} {N : Ml}  {v : Int32} {MR : Mm} (hf : f_X12_round y M = some (v, MR)) : KM g l yX12_round cX12_round 4 (some .int) 4 [.ref y] M N (QI g v MR N) := by
  refine KM.mk hg (by decide) (Nat.le_of_ble_eq_true rfl) ?_
  intro p e s m below meth c ls hC hr hlk hl hP hS
  have hx := hC.1
  have hb := hC.2.1
  have hl : lv_has ls 4 [(0, .ref y)] := hl
  have L244 : ∀ (n : Nat) (x2 : Int32) (x3 : Int32) (M : Mm) (H : Heap) (locs : List Loc) (ls : Array Slot), f_X12_round_L244 y n x2 x3 M = some (v, MR) → wP g M N H → va_S (wA g) s.heap H locs → lv_has ls 4 [(0, .ref y), (2, .int x2), (3, .int x3)] → W p l e (rmD 4) s m ([.ref y] : List Value).toArray below meth c H locs 0 0 (MQ below (QI g v MR N) ([.ref y] : List Value).toArray s 0 0 (wA g)) (F0 m 244 ls []) := by
    intro n
    induction n with
    | zero =>
      intro x2 x3 M H locs ls hf
      exact absurd hf (by simp [f_X12_round_L244])
    | succ n ih =>
      intro x2 x3 M H locs ls hf hP hS hl
      unfold f_X12_round_L244 at hf
      refine lv_iload_n hx hb dX12_round_244 rfl (lv_at hl 2 rfl) ?_
      refine lv_aload_n hx hb dX12_round_245 rfl (lv_at hl 0 rfl) ?_
      obtain ⟨r31, hu32, hf⟩ := bd_s hf
      refine r_goI (r_runV (As := []) (rest := [.int x3]) hC hP hS (k_X12_moons hg hO hu32) cw_X12_68 q_263 q_264 q_265 (Rm.D 0 4 rfl) hO.1 rfl rfl hl.1 rfl (Nat.le_of_ble_eq_true rfl) dX12_round_246) hS (fun H locs hP hS => ?_)
      refine lv_icmp_ge (tgt := 277) hx hb dX12_round_249 (by decide) (fun c34 => ?_) (fun c34 => ?_)
      · have hf := if_t c34 hf
        refine lv_aload_n hx hb dX12_round_277 rfl (lv_at hl 0 rfl) ?_
        refine r_getR hC hP hO.1 fl_X12_7 rfl dX12_round_278 ?_
        refine lv_sipush (v := (148 : Int32)) hx hb dX12_round_281 (by decide) ?_
        refine lv_dup2_11 hx hb dX12_round_284 rfl rfl ?_
        obtain ⟨hb35, hf⟩ := ck_s hf
        refine r_iald hC hP hO.2.1 hb35 dX12_round_285 ?_
        refine lv_iconst (v := (1 : Int32)) hx hb dX12_round_286 (by decide) ?_
        refine lv_iadd hx hb dX12_round_287 ?_
        obtain ⟨hb36, hf⟩ := ck_s hf
        refine r_iast hC hP hS hO.2.1 hb36 dX12_round_288 (fun H locs hP hS => ?_)
        obtain ⟨M37, eM37, hf, hP⟩ := bsM hf hP
        refine lv_aload_n hx hb dX12_round_289 rfl (lv_at hl 0 rfl) ?_
        refine r_getR hC hP hO.1 fl_X12_7 rfl dX12_round_290 ?_
        refine lv_sipush (v := (149 : Int32)) hx hb dX12_round_293 (by decide) ?_
        refine lv_dup2_11 hx hb dX12_round_296 rfl rfl ?_
        obtain ⟨hb38, hf⟩ := ck_s hf
        refine r_iald hC hP hO.2.1 hb38 dX12_round_297 ?_
        refine lv_iload_n hx hb dX12_round_298 rfl (lv_at hl 1 rfl) ?_
        refine lv_iadd hx hb dX12_round_299 ?_
        obtain ⟨hb39, hf⟩ := ck_s hf
        refine r_iast hC hP hS hO.2.1 hb39 dX12_round_300 (fun H locs hP hS => ?_)
        obtain ⟨M40, eM40, hf, hP⟩ := bsM hf hP
        refine lv_iload_n hx hb dX12_round_301 rfl (lv_at hl 1 rfl) ?_
        exact e_IM hC hr hlk hP hS dX12_round_302 hf
      · have hf := if_f c34 hf
        refine lv_aload_n hx hb dX12_round_252 rfl (lv_at hl 0 rfl) ?_
        refine r_getR hC hP hO.1 fl_X12_7 rfl dX12_round_253 ?_
        refine lv_bipush (v := (127 : Int32)) hx hb dX12_round_256 (by decide) ?_
        refine lv_iconst (v := (4 : Int32)) hx hb dX12_round_258 (by decide) ?_
        refine lv_iload_n hx hb dX12_round_259 rfl (lv_at hl 2 rfl) ?_
        refine lv_imul hx hb dX12_round_260 ?_
        refine lv_iadd hx hb dX12_round_261 ?_
        refine lv_iconst (v := (2 : Int32)) hx hb dX12_round_262 (by decide) ?_
        refine lv_iadd hx hb dX12_round_263 ?_
        refine lv_aload_n hx hb dX12_round_264 rfl (lv_at hl 0 rfl) ?_
        refine r_getR hC hP hO.1 fl_X12_33 rfl dX12_round_265 ?_
        refine lv_iload_n hx hb dX12_round_268 rfl (lv_at hl 2 rfl) ?_
        obtain ⟨hb41, hf⟩ := ck_s hf
        refine r_iald hC hP hO.2.2.2.2.2.2.2.1 hb41 dX12_round_269 ?_
        obtain ⟨hb42, hf⟩ := ck_s hf
        refine r_iast hC hP hS hO.2.1 hb42 dX12_round_270 (fun H locs hP hS => ?_)
        obtain ⟨M43, eM43, hf, hP⟩ := bsM hf hP
        obtain ⟨z44, ez44, hf⟩ := bsJ hf
        refine lv_iinc (v := z44) (lv' := [(3, .int z44), (0, .ref y), (2, .int x2)]) hx hb dX12_round_271 hl (k := 2) rfl (by rw [ez44]; rfl) (by decide) rfl (fun ls hl => ?_)
        refine lv_goto (tgt := 244) hx hb dX12_round_274 (by decide) ?_
        exact ih x2 z44 M43 _ _ _ hf hP hS (lv_sub hl [1, 2, 0] rfl)
  have L215 : ∀ (n : Nat) (x2 : Int32) (x3 : Int32) (M : Mm) (H : Heap) (locs : List Loc) (ls : Array Slot), f_X12_round_L215 y n x2 x3 M = some (v, MR) → wP g M N H → va_S (wA g) s.heap H locs → lv_has ls 4 [(0, .ref y), (2, .int x2), (3, .int x3)] → W p l e (rmD 4) s m ([.ref y] : List Value).toArray below meth c H locs 0 0 (MQ below (QI g v MR N) ([.ref y] : List Value).toArray s 0 0 (wA g)) (F0 m 215 ls []) := by
    intro n
    induction n with
    | zero =>
      intro x2 x3 M H locs ls hf
      exact absurd hf (by simp [f_X12_round_L215])
    | succ n ih =>
      intro x2 x3 M H locs ls hf hP hS hl
      unfold f_X12_round_L215 at hf
      refine lv_iload_n hx hb dX12_round_215 rfl (lv_at hl 2 rfl) ?_
      refine lv_bipush (v := (120 : Int32)) hx hb dX12_round_216 (by decide) ?_
      refine lv_icmp_ge (tgt := 242) hx hb dX12_round_218 (by decide) (fun c30 => ?_) (fun c30 => ?_)
      · have hf := if_t c30 hf
        refine lv_iconst (v := (0 : Int32)) hx hb dX12_round_242 (by decide) ?_
        refine lv_istore_n (lv' := [(3, .int (0 : Int32)), (0, .ref y), (2, .int x2)]) hx hb dX12_round_243 rfl hl (by decide) rfl (fun ls hl => ?_)
        exact L244 _ x2 (0 : Int32) M _ _ _ hf hP hS (lv_sub hl [1, 2, 0] rfl)
      · have hf := if_f c30 hf
        refine lv_aload_n hx hb dX12_round_221 rfl (lv_at hl 0 rfl) ?_
        refine r_getR hC hP hO.1 fl_X12_7 rfl dX12_round_222 ?_
        refine lv_bipush (v := (6 : Int32)) hx hb dX12_round_225 (by decide) ?_
        refine lv_iload_n hx hb dX12_round_227 rfl (lv_at hl 2 rfl) ?_
        refine lv_iadd hx hb dX12_round_228 ?_
        refine lv_aload_n hx hb dX12_round_229 rfl (lv_at hl 0 rfl) ?_
        refine r_getR hC hP hO.1 fl_X12_27 rfl dX12_round_230 ?_
        refine lv_iload_n hx hb dX12_round_233 rfl (lv_at hl 2 rfl) ?_
        obtain ⟨hb45, hf⟩ := ck_s hf
        refine r_iald hC hP hO.2.2.2.2.2.1 hb45 dX12_round_234 ?_
        obtain ⟨hb46, hf⟩ := ck_s hf
        refine r_iast hC hP hS hO.2.1 hb46 dX12_round_235 (fun H locs hP hS => ?_)
        obtain ⟨M47, eM47, hf, hP⟩ := bsM hf hP
        obtain ⟨z48, ez48, hf⟩ := bsJ hf
        refine lv_iinc (v := z48) (lv' := [(3, .int z48), (0, .ref y), (2, .int x2)]) hx hb dX12_round_236 hl (k := 2) rfl (by rw [ez48]; rfl) (by decide) rfl (fun ls hl => ?_)
        refine lv_goto (tgt := 215) hx hb dX12_round_239 (by decide) ?_
        exact ih x2 z48 M47 _ _ _ hf hP hS (lv_sub hl [1, 2, 0] rfl)
  have L106 : ∀ (n : Nat) (x1 : Int32) (x2 : Int32) (M : Mm) (H : Heap) (locs : List Loc) (ls : Array Slot), f_X12_round_L106 y n x1 x2 M = some (v, MR) → wP g M N H → va_S (wA g) s.heap H locs → lv_has ls 4 [(0, .ref y), (1, .int x1), (2, .int x2)] → W p l e (rmD 4) s m ([.ref y] : List Value).toArray below meth c H locs 0 0 (MQ below (QI g v MR N) ([.ref y] : List Value).toArray s 0 0 (wA g)) (F0 m 106 ls []) := by
    intro n
    induction n with
    | zero =>
      intro x1 x2 M H locs ls hf
      exact absurd hf (by simp [f_X12_round_L106])
    | succ n ih =>
      intro x1 x2 M H locs ls hf hP hS hl
      unfold f_X12_round_L106 at hf
      refine lv_iload_n hx hb dX12_round_106 rfl (lv_at hl 2 rfl) ?_
      refine lv_iconst (v := (4 : Int32)) hx hb dX12_round_107 (by decide) ?_
      refine lv_icmp_ge (tgt := 141) hx hb dX12_round_108 (by decide) (fun c6 => ?_) (fun c6 => ?_)
      · have hf := if_t c6 hf
        refine lv_aload_n hx hb dX12_round_141 rfl (lv_at hl 0 rfl) ?_
        refine r_getR hC hP hO.1 fl_X12_7 rfl dX12_round_142 ?_
        refine lv_iload_n hx hb dX12_round_145 rfl (lv_at hl 1 rfl) ?_
        refine lv_bipush (v := (124 : Int32)) hx hb dX12_round_146 (by decide) ?_
        refine lv_iadd hx hb dX12_round_148 ?_
        refine lv_aload_n hx hb dX12_round_149 rfl (lv_at hl 0 rfl) ?_
        refine r_getR hC hP hO.1 fl_X12_7 rfl dX12_round_150 ?_
        refine lv_sipush (v := (148 : Int32)) hx hb dX12_round_153 (by decide) ?_
        obtain ⟨hb7, hf⟩ := ck_s hf
        refine r_iald hC hP hO.2.1 hb7 dX12_round_156 ?_
        obtain ⟨hb8, hf⟩ := ck_s hf
        refine r_iast hC hP hS hO.2.1 hb8 dX12_round_157 (fun H locs hP hS => ?_)
        obtain ⟨M9, eM9, hf, hP⟩ := bsM hf hP
        refine lv_aload_n hx hb dX12_round_158 rfl (lv_at hl 0 rfl) ?_
        refine r_getR hC hP hO.1 fl_X12_7 rfl dX12_round_159 ?_
        refine lv_iload_n hx hb dX12_round_162 rfl (lv_at hl 1 rfl) ?_
        refine lv_bipush (v := (125 : Int32)) hx hb dX12_round_163 (by decide) ?_
        refine lv_iadd hx hb dX12_round_165 ?_
        refine lv_aload_n hx hb dX12_round_166 rfl (lv_at hl 0 rfl) ?_
        refine r_getR hC hP hO.1 fl_X12_7 rfl dX12_round_167 ?_
        refine lv_sipush (v := (149 : Int32)) hx hb dX12_round_170 (by decide) ?_
        obtain ⟨hb10, hf⟩ := ck_s hf
        refine r_iald hC hP hO.2.1 hb10 dX12_round_173 ?_
        obtain ⟨hb11, hf⟩ := ck_s hf
        refine r_iast hC hP hS hO.2.1 hb11 dX12_round_174 (fun H locs hP hS => ?_)
        obtain ⟨M12, eM12, hf, hP⟩ := bsM hf hP
        refine lv_aload_n hx hb dX12_round_175 rfl (lv_at hl 0 rfl) ?_
        refine r_getR hC hP hO.1 fl_X12_7 rfl dX12_round_176 ?_
        refine lv_iload_n hx hb dX12_round_179 rfl (lv_at hl 1 rfl) ?_
        refine lv_bipush (v := (126 : Int32)) hx hb dX12_round_180 (by decide) ?_
        refine lv_iadd hx hb dX12_round_182 ?_
        refine lv_aload_n hx hb dX12_round_183 rfl (lv_at hl 0 rfl) ?_
        obtain ⟨r13, hu14, hf⟩ := bd_s hf
        refine r_goI (r_runV (As := []) (rest := [.int (x1 + (126 : Int32)), .ref (y + 1)]) hC hP hS (k_X12_moons hg hO hu14) cw_X12_68 q_263 q_264 q_265 (Rm.D 0 4 rfl) hO.1 rfl rfl hl.1 rfl (Nat.le_of_ble_eq_true rfl) dX12_round_184) hS (fun H locs hP hS => ?_)
        obtain ⟨hb16, hf⟩ := ck_s hf
        refine r_iast hC hP hS hO.2.1 hb16 dX12_round_187 (fun H locs hP hS => ?_)
        obtain ⟨M17, eM17, hf, hP⟩ := bsM hf hP
        refine lv_aload_n hx hb dX12_round_188 rfl (lv_at hl 0 rfl) ?_
        refine r_getR hC hP hO.1 fl_X12_7 rfl dX12_round_189 ?_
        refine lv_sipush (v := (150 : Int32)) hx hb dX12_round_192 (by decide) ?_
        refine lv_dup2_11 hx hb dX12_round_195 rfl rfl ?_
        obtain ⟨hb18, hf⟩ := ck_s hf
        refine r_iald hC hP hO.2.1 hb18 dX12_round_196 ?_
        refine lv_iconst (v := (1 : Int32)) hx hb dX12_round_197 (by decide) ?_
        refine lv_iadd hx hb dX12_round_198 ?_
        obtain ⟨hb19, hf⟩ := ck_s hf
        refine r_iast hC hP hS hO.2.1 hb19 dX12_round_199 (fun H locs hP hS => ?_)
        obtain ⟨M20, eM20, hf, hP⟩ := bsM hf hP
        refine lv_aload_n hx hb dX12_round_200 rfl (lv_at hl 0 rfl) ?_
        refine lv_aload_n hx hb dX12_round_201 rfl (lv_at hl 0 rfl) ?_
        obtain ⟨r21, hu22, hf⟩ := bd_s hf
        refine r_goI (r_runV (As := []) (rest := [.ref y]) hC hP hS (k_X12_all hg hO hu22) cw_X12_127 q_543 q_544 q_545 (Rm.D 1 4 rfl) hO.1 rfl rfl hl.1 rfl (Nat.le_of_ble_eq_true rfl) dX12_round_202) hS (fun H locs hP hS => ?_)
        obtain ⟨M26, hu25, hf⟩ := bd_s hf
        refine r_goV (r_runV (As := [.int r21]) (rest := []) hC hP hS (k_X12_takeNow hg hO hu25) cw_X12_130 q_547 q_548 q_549 (Rm.D 1 4 rfl) hO.1 rfl rfl hl.1 rfl (Nat.le_of_ble_eq_true rfl) dX12_round_205) hS (fun H locs hP hS => ?_)
        refine lv_aload_n hx hb dX12_round_208 rfl (lv_at hl 0 rfl) ?_
        obtain ⟨r27, M29, hu28, hf⟩ := bd2_s hf
        refine r_goI (r_runV (As := []) (rest := []) hC hP hS (k_X12_goRound hg hO hu28) cw_X12_134 q_557 q_558 q_559 (Rm.D 3 4 rfl) hO.1 rfl rfl hl.1 rfl (Nat.le_of_ble_eq_true rfl) dX12_round_209) hS (fun H locs hP hS => ?_)
        refine lv_istore_n (lv' := [(2, .int r27), (0, .ref y), (1, .int x1)]) hx hb dX12_round_212 rfl hl (by decide) rfl (fun ls hl => ?_)
        refine lv_iconst (v := (0 : Int32)) hx hb dX12_round_213 (by decide) ?_
        refine lv_istore_n (lv' := [(3, .int (0 : Int32)), (2, .int r27), (0, .ref y), (1, .int x1)]) hx hb dX12_round_214 rfl hl (by decide) rfl (fun ls hl => ?_)
        exact L215 _ r27 (0 : Int32) M29 _ _ _ hf hP hS (lv_sub hl [2, 1, 0] rfl)
      · have hf := if_f c6 hf
        refine lv_aload_n hx hb dX12_round_111 rfl (lv_at hl 0 rfl) ?_
        refine r_getR hC hP hO.1 fl_X12_7 rfl dX12_round_112 ?_
        refine lv_iload_n hx hb dX12_round_115 rfl (lv_at hl 1 rfl) ?_
        refine lv_bipush (v := (120 : Int32)) hx hb dX12_round_116 (by decide) ?_
        refine lv_iadd hx hb dX12_round_118 ?_
        refine lv_iload_n hx hb dX12_round_119 rfl (lv_at hl 2 rfl) ?_
        refine lv_iadd hx hb dX12_round_120 ?_
        refine lv_aload_n hx hb dX12_round_121 rfl (lv_at hl 0 rfl) ?_
        refine r_getR hC hP hO.1 fl_X12_7 rfl dX12_round_122 ?_
        refine lv_bipush (v := (127 : Int32)) hx hb dX12_round_125 (by decide) ?_
        refine lv_iconst (v := (4 : Int32)) hx hb dX12_round_127 (by decide) ?_
        refine lv_iload_n hx hb dX12_round_128 rfl (lv_at hl 2 rfl) ?_
        refine lv_imul hx hb dX12_round_129 ?_
        refine lv_iadd hx hb dX12_round_130 ?_
        refine lv_iconst (v := (2 : Int32)) hx hb dX12_round_131 (by decide) ?_
        refine lv_iadd hx hb dX12_round_132 ?_
        obtain ⟨hb49, hf⟩ := ck_s hf
        refine r_iald hC hP hO.2.1 hb49 dX12_round_133 ?_
        obtain ⟨hb50, hf⟩ := ck_s hf
        refine r_iast hC hP hS hO.2.1 hb50 dX12_round_134 (fun H locs hP hS => ?_)
        obtain ⟨M51, eM51, hf, hP⟩ := bsM hf hP
        obtain ⟨z52, ez52, hf⟩ := bsJ hf
        refine lv_iinc (v := z52) (lv' := [(2, .int z52), (0, .ref y), (1, .int x1)]) hx hb dX12_round_135 hl (k := 2) rfl (by rw [ez52]; rfl) (by decide) rfl (fun ls hl => ?_)
        refine lv_goto (tgt := 106) hx hb dX12_round_138 (by decide) ?_
        exact ih x1 z52 M51 _ _ _ hf hP hS (lv_sub hl [1, 2, 0] rfl)
  have L75 : ∀ (n : Nat) (x1 : Int32) (x2 : Int32) (M : Mm) (H : Heap) (locs : List Loc) (ls : Array Slot), f_X12_round_L75 y n x1 x2 M = some (v, MR) → wP g M N H → va_S (wA g) s.heap H locs → lv_has ls 4 [(0, .ref y), (1, .int x1), (2, .int x2)] → W p l e (rmD 4) s m ([.ref y] : List Value).toArray below meth c H locs 0 0 (MQ below (QI g v MR N) ([.ref y] : List Value).toArray s 0 0 (wA g)) (F0 m 75 ls []) := by
    intro n
    induction n with
    | zero =>
      intro x1 x2 M H locs ls hf
      exact absurd hf (by simp [f_X12_round_L75])
    | succ n ih =>
      intro x1 x2 M H locs ls hf hP hS hl
      unfold f_X12_round_L75 at hf
      refine lv_iload_n hx hb dX12_round_75 rfl (lv_at hl 2 rfl) ?_
      refine lv_bipush (v := (120 : Int32)) hx hb dX12_round_76 (by decide) ?_
      refine lv_icmp_ge (tgt := 104) hx hb dX12_round_78 (by decide) (fun c5 => ?_) (fun c5 => ?_)
      · have hf := if_t c5 hf
        refine lv_iconst (v := (0 : Int32)) hx hb dX12_round_104 (by decide) ?_
        refine lv_istore_n (lv' := [(2, .int (0 : Int32)), (0, .ref y), (1, .int x1)]) hx hb dX12_round_105 rfl hl (by decide) rfl (fun ls hl => ?_)
        exact L106 _ x1 (0 : Int32) M _ _ _ hf hP hS (lv_sub hl [1, 2, 0] rfl)
      · have hf := if_f c5 hf
        refine lv_aload_n hx hb dX12_round_81 rfl (lv_at hl 0 rfl) ?_
        refine r_getR hC hP hO.1 fl_X12_7 rfl dX12_round_82 ?_
        refine lv_iload_n hx hb dX12_round_85 rfl (lv_at hl 1 rfl) ?_
        refine lv_iload_n hx hb dX12_round_86 rfl (lv_at hl 2 rfl) ?_
        refine lv_iadd hx hb dX12_round_87 ?_
        refine lv_aload_n hx hb dX12_round_88 rfl (lv_at hl 0 rfl) ?_
        refine r_getR hC hP hO.1 fl_X12_7 rfl dX12_round_89 ?_
        refine lv_bipush (v := (6 : Int32)) hx hb dX12_round_92 (by decide) ?_
        refine lv_iload_n hx hb dX12_round_94 rfl (lv_at hl 2 rfl) ?_
        refine lv_iadd hx hb dX12_round_95 ?_
        obtain ⟨hb53, hf⟩ := ck_s hf
        refine r_iald hC hP hO.2.1 hb53 dX12_round_96 ?_
        obtain ⟨hb54, hf⟩ := ck_s hf
        refine r_iast hC hP hS hO.2.1 hb54 dX12_round_97 (fun H locs hP hS => ?_)
        obtain ⟨M55, eM55, hf, hP⟩ := bsM hf hP
        obtain ⟨z56, ez56, hf⟩ := bsJ hf
        refine lv_iinc (v := z56) (lv' := [(2, .int z56), (0, .ref y), (1, .int x1)]) hx hb dX12_round_98 hl (k := 2) rfl (by rw [ez56]; rfl) (by decide) rfl (fun ls hl => ?_)
        refine lv_goto (tgt := 75) hx hb dX12_round_101 (by decide) ?_
        exact ih x1 z56 M55 _ _ _ hf hP hS (lv_sub hl [1, 2, 0] rfl)
  have J57 : ∀ (M : Mm) (H : Heap) (locs : List Loc) (ls : Array Slot), f_X12_round_J57 y M = some (v, MR) → wP g M N H → va_S (wA g) s.heap H locs → lv_has ls 4 [(0, .ref y)] → W p l e (rmD 4) s m ([.ref y] : List Value).toArray below meth c H locs 0 0 (MQ below (QI g v MR N) ([.ref y] : List Value).toArray s 0 0 (wA g)) (F0 m 57 ls []) := by
    intro M H locs ls hf hP hS hl
    unfold f_X12_round_J57 at hf
    refine lv_sipush (v := (151 : Int32)) hx hb dX12_round_57 (by decide) ?_
    refine lv_bipush (v := (127 : Int32)) hx hb dX12_round_60 (by decide) ?_
    refine lv_aload_n hx hb dX12_round_62 rfl (lv_at hl 0 rfl) ?_
    refine r_getR hC hP hO.1 fl_X12_7 rfl dX12_round_63 ?_
    refine lv_sipush (v := (150 : Int32)) hx hb dX12_round_66 (by decide) ?_
    obtain ⟨hb3, hf⟩ := ck_s hf
    refine r_iald hC hP hO.2.1 hb3 dX12_round_69 ?_
    refine lv_imul hx hb dX12_round_70 ?_
    refine lv_iadd hx hb dX12_round_71 ?_
    refine lv_topi (fun z4 ez4 => ?_)
    have hf := bs ez4 hf
    refine lv_istore_n (lv' := [(1, .int z4), (0, .ref y)]) hx hb dX12_round_72 rfl hl (by decide) rfl (fun ls hl => ?_)
    refine lv_iconst (v := (0 : Int32)) hx hb dX12_round_73 (by decide) ?_
    refine lv_istore_n (lv' := [(2, .int (0 : Int32)), (1, .int z4), (0, .ref y)]) hx hb dX12_round_74 rfl hl (by decide) rfl (fun ls hl => ?_)
    exact L75 _ z4 (0 : Int32) M _ _ _ hf hP hS (lv_sub hl [2, 1, 0] rfl)
  have L15 : ∀ (n : Nat) (x1 : Int32) (M : Mm) (H : Heap) (locs : List Loc) (ls : Array Slot), f_X12_round_L15 y n x1 M = some (v, MR) → wP g M N H → va_S (wA g) s.heap H locs → lv_has ls 4 [(0, .ref y), (1, .int x1)] → W p l e (rmD 4) s m ([.ref y] : List Value).toArray below meth c H locs 0 0 (MQ below (QI g v MR N) ([.ref y] : List Value).toArray s 0 0 (wA g)) (F0 m 15 ls []) := by
    intro n
    induction n with
    | zero =>
      intro x1 M H locs ls hf
      exact absurd hf (by simp [f_X12_round_L15])
    | succ n ih =>
      intro x1 M H locs ls hf hP hS hl
      unfold f_X12_round_L15 at hf
      refine lv_iload_n hx hb dX12_round_15 rfl (lv_at hl 1 rfl) ?_
      refine lv_sipush (v := (635 : Int32)) hx hb dX12_round_16 (by decide) ?_
      refine lv_icmp_ge (tgt := 48) hx hb dX12_round_19 (by decide) (fun c57 => ?_) (fun c57 => ?_)
      · have hf := if_t c57 hf
        refine lv_aload_n hx hb dX12_round_48 rfl (lv_at hl 0 rfl) ?_
        refine r_getR hC hP hO.1 fl_X12_7 rfl dX12_round_49 ?_
        refine lv_sipush (v := (150 : Int32)) hx hb dX12_round_52 (by decide) ?_
        refine lv_iconst (v := (5 : Int32)) hx hb dX12_round_55 (by decide) ?_
        obtain ⟨hb58, hf⟩ := ck_s hf
        refine r_iast hC hP hS hO.2.1 hb58 dX12_round_56 (fun H locs hP hS => ?_)
        obtain ⟨M59, eM59, hf, hP⟩ := bsM hf hP
        exact J57 M59 _ _ _ hf hP hS (lv_sub hl [0] rfl)
      · have hf := if_f c57 hf
        refine lv_aload_n hx hb dX12_round_22 rfl (lv_at hl 0 rfl) ?_
        refine r_getR hC hP hO.1 fl_X12_7 rfl dX12_round_23 ?_
        refine lv_sipush (v := (151 : Int32)) hx hb dX12_round_26 (by decide) ?_
        refine lv_iload_n hx hb dX12_round_29 rfl (lv_at hl 1 rfl) ?_
        refine lv_iadd hx hb dX12_round_30 ?_
        refine lv_aload_n hx hb dX12_round_31 rfl (lv_at hl 0 rfl) ?_
        refine r_getR hC hP hO.1 fl_X12_7 rfl dX12_round_32 ?_
        refine lv_sipush (v := (278 : Int32)) hx hb dX12_round_35 (by decide) ?_
        refine lv_iload_n hx hb dX12_round_38 rfl (lv_at hl 1 rfl) ?_
        refine lv_iadd hx hb dX12_round_39 ?_
        obtain ⟨hb60, hf⟩ := ck_s hf
        refine r_iald hC hP hO.2.1 hb60 dX12_round_40 ?_
        obtain ⟨hb61, hf⟩ := ck_s hf
        refine r_iast hC hP hS hO.2.1 hb61 dX12_round_41 (fun H locs hP hS => ?_)
        obtain ⟨M62, eM62, hf, hP⟩ := bsM hf hP
        obtain ⟨z63, ez63, hf⟩ := bsJ hf
        refine lv_iinc (v := z63) (lv' := [(1, .int z63), (0, .ref y)]) hx hb dX12_round_42 hl (k := 1) rfl (by rw [ez63]; rfl) (by decide) rfl (fun ls hl => ?_)
        refine lv_goto (tgt := 15) hx hb dX12_round_45 (by decide) ?_
        exact ih z63 M62 _ _ _ hf hP hS (lv_sub hl [1, 0] rfl)
  unfold f_X12_round at hf
  refine lv_aload_n hx hb dX12_round_0 rfl (lv_at hl 0 rfl) ?_
  refine r_getR hC hP hO.1 fl_X12_7 rfl dX12_round_1 ?_
  refine lv_sipush (v := (150 : Int32)) hx hb dX12_round_4 (by decide) ?_
  obtain ⟨hb1, hf⟩ := ck_s hf
  refine r_iald hC hP hO.2.1 hb1 dX12_round_7 ?_
  refine lv_bipush (v := (6 : Int32)) hx hb dX12_round_8 (by decide) ?_
  refine lv_icmp_ne (tgt := 57) hx hb dX12_round_10 (by decide) (fun c2 => ?_) (fun c2 => ?_)
  · have hf := if_f c2 hf
    exact J57 M _ _ _ hf hP hS (lv_sub hl [0] rfl)
  · have hf := if_t c2 hf
    refine lv_iconst (v := (0 : Int32)) hx hb dX12_round_13 (by decide) ?_
    refine lv_istore_n (lv' := [(1, .int (0 : Int32)), (0, .ref y)]) hx hb dX12_round_14 rfl hl (by decide) rfl (fun ls hl => ?_)
    exact L15 _ (0 : Int32) M _ _ _ hf hP hS (lv_sub hl [1, 0] rfl)
set_option maxRecDepth 100000 in
set_option maxHeartbeats 4000000 in
theorem k_X12_status {g : Ev} {l : Launch} (hg : g.2.1.Nodup) {y : Nat} (hO : oModel g y) {M : Mm} {N : Ml} {p0 : Int32} {v : Int32} {MR : Mm} (hf : f_X12_status y p0 M = some (v, MR)) : KM g l yX12_status cX12_status 2 (some .int) 1 [.ref y, .int p0] M N (QI g v MR N) := by
  refine KM.mk hg (by decide) (Nat.le_of_ble_eq_true rfl) ?_
  intro p e s m below meth c ls hC hr hlk hl hP hS
  have hx := hC.1
  have hb := hC.2.1
  have hl : lv_has ls 2 [(0, .ref y), (1, .int p0)] := hl
  unfold f_X12_status at hf
  refine lv_iload_n hx hb dX12_status_0 rfl (lv_at hl 1 rfl) ?_
  refine lv_i2l hx hb dX12_status_1 rfl ?_
  refine lv_lconst (v := (0 : Int64)) hx hb dX12_status_2 (by decide) ?_
  refine lv_ldc2 (v := (2 : Int64)) hx hb hC.2.2.2.1 (hC.2.2.2.2.1 _ q_682) dX12_status_3 ?_
  obtain ⟨r1, hu2, hf⟩ := bd_s hf
  refine r_goI (r_runS (As := [.long p0.toInt64, .long (0 : Int64), .long (2 : Int64)]) (rest := []) hC hP hS (k_X12_in hg hu2) cw_X12_60 q_193 q_194 (Rm.D 0 1 rfl) rfl hl.1 rfl (Nat.le_of_ble_eq_true rfl) dX12_status_6) hS (fun H locs hP hS => ?_)
  refine lv_if_eq (tgt := 21) hx hb dX12_status_9 (by decide) (fun c4 => ?_) (fun c4 => ?_)
  · have hf := if_t c4 hf
    refine lv_aload_n hx hb dX12_status_21 rfl (lv_at hl 0 rfl) ?_
    refine lv_iconst (v := (-1 : Int32)) hx hb dX12_status_22 (by decide) ?_
    obtain ⟨r5, M7, hu6, hf⟩ := bd2_s hf
    refine r_goI (r_runV (As := [.int (-1 : Int32)]) (rest := []) hC hP hS (k_X12_bad hg hO hu6) cw_X12_73 q_196 q_197 q_198 (Rm.D 0 1 rfl) hO.1 rfl rfl hl.1 rfl (Nat.le_of_ble_eq_true rfl) dX12_status_23) hS (fun H locs hP hS => ?_)
    exact e_IM hC hr hlk hP hS dX12_status_26 hf
  · have hf := if_f c4 hf
    refine lv_aload_n hx hb dX12_status_12 rfl (lv_at hl 0 rfl) ?_
    refine r_getR hC hP hO.1 fl_X12_20 rfl dX12_status_13 ?_
    refine lv_iload_n hx hb dX12_status_16 rfl (lv_at hl 1 rfl) ?_
    obtain ⟨hb8, hf⟩ := ck_s hf
    refine r_iald hC hP hO.2.2.2.2.1 hb8 dX12_status_17 ?_
    refine lv_goto (tgt := 26) hx hb dX12_status_18 (by decide) ?_
    exact e_IM hC hr hlk hP hS dX12_status_26 hf
set_option maxRecDepth 100000 in
set_option maxHeartbeats 4000000 in
theorem k_X12_step {g : Ev} {l : Launch} (hg : g.2.1.Nodup) {y : Nat} (hO : oModel g y) {M : Mm} {N : Ml} {p0 : Int32} {p1 : Int32} {v : Int32} {MR : Mm} (hf : f_X12_step y p0 p1 M = some (v, MR)) : KM g l yX12_step cX12_step 4 (some .int) 2 [.ref y, .int p0, .int p1] M N (QI g v MR N) := by
  refine KM.mk hg (by decide) (Nat.le_of_ble_eq_true rfl) ?_
  intro p e s m below meth c ls hC hr hlk hl hP hS
  have hx := hC.1
  have hb := hC.2.1
  have hl : lv_has ls 4 [(0, .ref y), (1, .int p0), (2, .int p1)] := hl
  have J19 : ∀ (M : Mm) (H : Heap) (locs : List Loc) (ls : Array Slot), f_X12_step_J19 y M = some (v, MR) → wP g M N H → va_S (wA g) s.heap H locs → lv_has ls 4 [(0, .ref y)] → W p l e (rmD 2) s m ([.ref y, .int p0, .int p1] : List Value).toArray below meth c H locs 0 0 (MQ below (QI g v MR N) ([.ref y, .int p0, .int p1] : List Value).toArray s 0 0 (wA g)) (F0 m 19 ls []) := by
    intro M H locs ls hf hP hS hl
    unfold f_X12_step_J19 at hf
    refine lv_aload_n hx hb dX12_step_19 rfl (lv_at hl 0 rfl) ?_
    refine lv_bipush (v := (-2 : Int32)) hx hb dX12_step_20 (by decide) ?_
    obtain ⟨r5, M7, hu6, hf⟩ := bd2_s hf
    refine r_goI (r_runV (As := [.int (-2 : Int32)]) (rest := []) hC hP hS (k_X12_bad hg hO hu6) cw_X12_73 q_196 q_197 q_198 (Rm.D 0 2 rfl) hO.1 rfl rfl hl.1 rfl (Nat.le_of_ble_eq_true rfl) dX12_step_22) hS (fun H locs hP hS => ?_)
    exact e_IM hC hr hlk hP hS dX12_step_25 hf
  unfold f_X12_step at hf
  refine lv_iload_n hx hb dX12_step_0 rfl (lv_at hl 1 rfl) ?_
  obtain ⟨r1, hu2, hf⟩ := bd_s hf
  refine r_goI (r_runS (As := [.int p0]) (rest := []) hC hP hS (k_X12_isLane hg hu2) cw_X12_77 q_217 q_218 (Rm.D 1 2 rfl) rfl hl.1 rfl (Nat.le_of_ble_eq_true rfl) dX12_step_1) hS (fun H locs hP hS => ?_)
  refine lv_if_eq (tgt := 19) hx hb dX12_step_4 (by decide) (fun c4 => ?_) (fun c4 => ?_)
  · have hf := if_t c4 hf
    exact J19 M _ _ _ hf hP hS (lv_sub hl [0] rfl)
  · have hf := if_f c4 hf
    refine lv_iload_n hx hb dX12_step_7 rfl (lv_at hl 2 rfl) ?_
    refine lv_i2l hx hb dX12_step_8 rfl ?_
    refine lv_lconst (v := (0 : Int64)) hx hb dX12_step_9 (by decide) ?_
    refine lv_ldc2 (v := (9 : Int64)) hx hb hC.2.2.2.1 (hC.2.2.2.2.1 _ q_216) dX12_step_10 ?_
    obtain ⟨r8, hu9, hf⟩ := bd_s hf
    refine r_goI (r_runS (As := [.long p1.toInt64, .long (0 : Int64), .long (9 : Int64)]) (rest := []) hC hP hS (k_X12_in hg hu9) cw_X12_60 q_193 q_194 (Rm.D 0 2 rfl) rfl hl.1 rfl (Nat.le_of_ble_eq_true rfl) dX12_step_13) hS (fun H locs hP hS => ?_)
    refine lv_if_ne (tgt := 26) hx hb dX12_step_16 (by decide) (fun c11 => ?_) (fun c11 => ?_)
    · have hf := if_f c11 hf
      refine lv_aload_n hx hb dX12_step_26 rfl (lv_at hl 0 rfl) ?_
      refine r_getR hC hP hO.1 fl_X12_7 rfl dX12_step_27 ?_
      refine lv_iconst (v := (1 : Int32)) hx hb dX12_step_30 (by decide) ?_
      refine lv_iload_n hx hb dX12_step_31 rfl (lv_at hl 1 rfl) ?_
      refine lv_iadd hx hb dX12_step_32 ?_
      obtain ⟨hb12, hf⟩ := ck_s hf
      refine r_iald hC hP hO.2.1 hb12 dX12_step_33 ?_
      refine lv_topi (fun z13 ez13 => ?_)
      have hf := bs ez13 hf
      refine lv_istore_n (lv' := [(3, .int z13), (0, .ref y), (1, .int p0), (2, .int p1)]) hx hb dX12_step_34 rfl hl (by decide) rfl (fun ls hl => ?_)
      refine lv_aload_n hx hb dX12_step_35 rfl (lv_at hl 1 rfl) ?_
      refine r_getR hC hP hO.1 fl_X12_7 rfl dX12_step_36 ?_
      refine lv_iconst (v := (1 : Int32)) hx hb dX12_step_39 (by decide) ?_
      refine lv_iload_n hx hb dX12_step_40 rfl (lv_at hl 2 rfl) ?_
      refine lv_iadd hx hb dX12_step_41 ?_
      refine lv_iload_n hx hb dX12_step_42 rfl (lv_at hl 3 rfl) ?_
      obtain ⟨hb14, hf⟩ := ck_s hf
      refine r_iast hC hP hS hO.2.1 hb14 dX12_step_43 (fun H locs hP hS => ?_)
      obtain ⟨M15, eM15, hf, hP⟩ := bsM hf hP
      refine lv_iload_n hx hb dX12_step_44 rfl (lv_at hl 0 rfl) ?_
      exact e_IM hC hr hlk hP hS dX12_step_45 hf
    · have hf := if_t c11 hf
      exact J19 M _ _ _ hf hP hS (lv_sub hl [0] rfl)
set_option maxRecDepth 100000 in
set_option maxHeartbeats 4000000 in
theorem k_X12_taken {g : Ev} {l : Launch} (hg : g.2.1.Nodup) {y : Nat} (hO : oModel g y) {M : Mm} {N : Ml} {p0 : Int32} {p1 : Int32} {v : Int32} {MR : Mm} (hf : f_X12_taken y p0 p1 M = some (v, MR)) : KM g l yX12_taken cX12_taken 8 (some .int) 5 [.ref y, .int p0, .int p1] M N (QI g v MR N) := by
  refine KM.mk hg (by decide) (Nat.le_of_ble_eq_true rfl) ?_
  intro p e s m below meth c ls hC hr hlk hl hP hS
  have hx := hC.1
  have hb := hC.2.1
  have hl : lv_has ls 8 [(0, .ref y), (1, .int p0), (2, .int p1)] := hl
  have J12 : ∀ (M : Mm) (H : Heap) (locs : List Loc) (ls : Array Slot), f_X12_taken_J12 y M = some (v, MR) → wP g M N H → va_S (wA g) s.heap H locs → lv_has ls 8 [(0, .ref y)] → W p l e (rmD 5) s m ([.ref y, .int p0, .int p1] : List Value).toArray below meth c H locs 0 0 (MQ below (QI g v MR N) ([.ref y, .int p0, .int p1] : List Value).toArray s 0 0 (wA g)) (F0 m 12 ls []) := by
    intro M H locs ls hf hP hS hl
    unfold f_X12_taken_J12 at hf
    refine lv_aload_n hx hb dX12_taken_12 rfl (lv_at hl 0 rfl) ?_
    refine lv_bipush (v := (-10 : Int32)) hx hb dX12_taken_13 (by decide) ?_
    obtain ⟨r5, M7, hu6, hf⟩ := bd2_s hf
    refine r_goI (r_runV (As := [.int (-10 : Int32)]) (rest := []) hC hP hS (k_X12_bad hg hO hu6) cw_X12_73 q_196 q_197 q_198 (Rm.D 0 5 rfl) hO.1 rfl rfl hl.1 rfl (Nat.le_of_ble_eq_true rfl) dX12_taken_15) hS (fun H locs hP hS => ?_)
    exact e_IM hC hr hlk hP hS dX12_taken_18 hf
  have J173 : ∀ (kb77 : Int32 → Int32 → Int32 → Int32 → Int32 → Mm → Option (Int32 × Mm)) (hkb77 : ∀ (x1 : Int32) (x2 : Int32) (x4 : Int32) (x5 : Int32) (x6 : Int32) (M : Mm) (H : Heap) (locs : List Loc) (ls : Array Slot), kb77 x1 x2 x4 x5 x6 M = some (v, MR) → wP g M N H → va_S (wA g) s.heap H locs → lv_has ls 8 [(0, .ref y), (1, .int x1), (2, .int x2), (4, .int x4), (5, .int x5), (6, .int x6)] → W p l e (rmD 5) s m ([.ref y, .int p0, .int p1] : List Value).toArray below meth c H locs 0 0 (MQ below (QI g v MR N) ([.ref y, .int p0, .int p1] : List Value).toArray s 0 0 (wA g)) (F0 m 77 ls [])) (x1 : Int32) (x2 : Int32) (x4 : Int32) (x5 : Int32) (x6 : Int32) (M : Mm) (H : Heap) (locs : List Loc) (ls : Array Slot), f_X12_taken_J173 y x1 x2 x4 x5 x6 M kb77 = some (v, MR) → wP g M N H → va_S (wA g) s.heap H locs → lv_has ls 8 [(0, .ref y), (1, .int x1), (2, .int x2), (4, .int x4), (5, .int x5), (6, .int x6)] → W p l e (rmD 5) s m ([.ref y, .int p0, .int p1] : List Value).toArray below meth c H locs 0 0 (MQ below (QI g v MR N) ([.ref y, .int p0, .int p1] : List Value).toArray s 0 0 (wA g)) (F0 m 173 ls []) := by
    intro kb77 hkb77 x1 x2 x4 x5 x6 M H locs ls hf hP hS hl
    unfold f_X12_taken_J173 at hf
    obtain ⟨z21, ez21, hf⟩ := bsJ hf
    refine lv_iinc (v := z21) (lv' := [(6, .int z21), (0, .ref y), (1, .int x1), (2, .int x2), (4, .int x4), (5, .int x5)]) hx hb dX12_taken_173 hl (k := 5) rfl (by rw [ez21]; rfl) (by decide) rfl (fun ls hl => ?_)
    refine lv_goto (tgt := 77) hx hb dX12_taken_176 (by decide) ?_
    exact hkb77 x1 x2 x4 x5 z21 M _ _ _ hf hP hS (lv_sub hl [1, 2, 3, 4, 5, 0] rfl)
  have J168 : ∀ (kb77 : Int32 → Int32 → Int32 → Int32 → Int32 → Mm → Option (Int32 × Mm)) (hkb77 : ∀ (x1 : Int32) (x2 : Int32) (x4 : Int32) (x5 : Int32) (x6 : Int32) (M : Mm) (H : Heap) (locs : List Loc) (ls : Array Slot), kb77 x1 x2 x4 x5 x6 M = some (v, MR) → wP g M N H → va_S (wA g) s.heap H locs → lv_has ls 8 [(0, .ref y), (1, .int x1), (2, .int x2), (4, .int x4), (5, .int x5), (6, .int x6)] → W p l e (rmD 5) s m ([.ref y, .int p0, .int p1] : List Value).toArray below meth c H locs 0 0 (MQ below (QI g v MR N) ([.ref y, .int p0, .int p1] : List Value).toArray s 0 0 (wA g)) (F0 m 77 ls [])) (x1 : Int32) (x2 : Int32) (x4 : Int32) (x6 : Int32) (s0 : Int32) (M : Mm) (H : Heap) (locs : List Loc) (ls : Array Slot), f_X12_taken_J168 y x1 x2 x4 x6 s0 M kb77 = some (v, MR) → wP g M N H → va_S (wA g) s.heap H locs → lv_has ls 8 [(0, .ref y), (1, .int x1), (2, .int x2), (4, .int x4), (6, .int x6)] → W p l e (rmD 5) s m ([.ref y, .int p0, .int p1] : List Value).toArray below meth c H locs 0 0 (MQ below (QI g v MR N) ([.ref y, .int p0, .int p1] : List Value).toArray s 0 0 (wA g)) (F0 m 168 ls [.int s0]) := by
    intro kb77 hkb77 x1 x2 x4 x6 s0 M H locs ls hf hP hS hl
    unfold f_X12_taken_J168 at hf
    refine lv_istore (lv' := [(5, .int s0), (0, .ref y), (1, .int x1), (2, .int x2), (4, .int x4), (6, .int x6)]) hx hb dX12_taken_168 hl (by decide) rfl (fun ls hl => ?_)
    obtain ⟨z36, ez36, hf⟩ := bsJ hf
    refine lv_iinc (v := z36) (lv' := [(4, .int z36), (5, .int s0), (0, .ref y), (1, .int x1), (2, .int x2), (6, .int x6)]) hx hb dX12_taken_170 hl (k := 4) rfl (by rw [ez36]; rfl) (by decide) rfl (fun ls hl => ?_)
    exact J173 _ hkb77 x1 x2 z36 s0 x6 M _ _ _ hf hP hS (lv_sub hl [2, 3, 4, 0, 1, 5] rfl)
  have J135 : ∀ (kb77 : Int32 → Int32 → Int32 → Int32 → Int32 → Mm → Option (Int32 × Mm)) (hkb77 : ∀ (x1 : Int32) (x2 : Int32) (x4 : Int32) (x5 : Int32) (x6 : Int32) (M : Mm) (H : Heap) (locs : List Loc) (ls : Array Slot), kb77 x1 x2 x4 x5 x6 M = some (v, MR) → wP g M N H → va_S (wA g) s.heap H locs → lv_has ls 8 [(0, .ref y), (1, .int x1), (2, .int x2), (4, .int x4), (5, .int x5), (6, .int x6)] → W p l e (rmD 5) s m ([.ref y, .int p0, .int p1] : List Value).toArray below meth c H locs 0 0 (MQ below (QI g v MR N) ([.ref y, .int p0, .int p1] : List Value).toArray s 0 0 (wA g)) (F0 m 77 ls [])) (x1 : Int32) (x2 : Int32) (x4 : Int32) (x5 : Int32) (x6 : Int32) (x7 : Int32) (s1 : Int32) (M : Mm) (H : Heap) (locs : List Loc) (ls : Array Slot), f_X12_taken_J135 y x1 x2 x4 x5 x6 x7 s1 M kb77 = some (v, MR) → wP g M N H → va_S (wA g) s.heap H locs → lv_has ls 8 [(0, .ref y), (1, .int x1), (2, .int x2), (4, .int x4), (5, .int x5), (6, .int x6), (7, .int x7)] → W p l e (rmD 5) s m ([.ref y, .int p0, .int p1] : List Value).toArray below meth c H locs 0 0 (MQ below (QI g v MR N) ([.ref y, .int p0, .int p1] : List Value).toArray s 0 0 (wA g)) (F0 m 135 ls [.int s1, .ref y]) := by
    intro kb77 hkb77 x1 x2 x4 x5 x6 x7 s1 M H locs ls hf hP hS hl
    unfold f_X12_taken_J135 at hf
    refine lv_iload hx hb dX12_taken_135 (lv_at hl 6 rfl) ?_
    obtain ⟨r31, hu32, hf⟩ := bd_s hf
    refine r_goI (r_runV (As := [.int s1, .int x7]) (rest := []) hC hP hS (k_X12_isTold hg hO hu32) cw_X12_193 q_854 q_855 q_856 (Rm.D 0 5 rfl) hO.1 rfl rfl hl.1 rfl (Nat.le_of_ble_eq_true rfl) dX12_taken_137) hS (fun H locs hP hS => ?_)
    refine lv_if_eq (tgt := 173) hx hb dX12_taken_140 (by decide) (fun c34 => ?_) (fun c34 => ?_)
    · have hf := if_t c34 hf
      exact J173 _ hkb77 x1 x2 x4 x5 x6 M _ _ _ hf hP hS (lv_sub hl [0, 1, 2, 3, 4, 5] rfl)
    · have hf := if_f c34 hf
      refine lv_iload hx hb dX12_taken_143 (lv_at hl 3 rfl) ?_
      refine lv_iload_n hx hb dX12_taken_145 rfl (lv_at hl 2 rfl) ?_
      refine lv_icmp_ne (tgt := 166) hx hb dX12_taken_146 (by decide) (fun c35 => ?_) (fun c35 => ?_)
      · have hf := if_f c35 hf
        refine lv_iload hx hb dX12_taken_166 (lv_at hl 4 rfl) ?_
        exact J168 _ hkb77 x1 x2 x4 x6 x5 M _ _ _ hf hP hS (lv_sub hl [0, 1, 2, 3, 5] rfl)
      · have hf := if_t c35 hf
        refine lv_bipush (v := (100 : Int32)) hx hb dX12_taken_149 (by decide) ?_
        refine lv_iload hx hb dX12_taken_151 (lv_at hl 5 rfl) ?_
        refine lv_bipush (v := (24 : Int32)) hx hb dX12_taken_153 (by decide) ?_
        obtain ⟨hz37, hf⟩ := cz_s hf
        refine lv_idiv hx hb dX12_taken_155 hz37 ?_
        refine lv_imul hx hb dX12_taken_156 ?_
        refine lv_iload hx hb dX12_taken_157 (lv_at hl 5 rfl) ?_
        refine lv_bipush (v := (24 : Int32)) hx hb dX12_taken_159 (by decide) ?_
        obtain ⟨hz38, hf⟩ := cz_s hf
        refine lv_irem hx hb dX12_taken_161 hz38 ?_
        refine lv_iadd hx hb dX12_taken_162 ?_
        refine lv_goto (tgt := 168) hx hb dX12_taken_163 (by decide) ?_
        exact J168 _ hkb77 x1 x2 x4 x6 (((100 : Int32) * (x6 / (24 : Int32))) + (jr x6 (24 : Int32))) M _ _ _ hf hP hS (lv_sub hl [0, 1, 2, 3, 5] rfl)
  have L77 : ∀ (n : Nat) (x1 : Int32) (x2 : Int32) (x4 : Int32) (x5 : Int32) (x6 : Int32) (M : Mm) (H : Heap) (locs : List Loc) (ls : Array Slot), f_X12_taken_L77 y n x1 x2 x4 x5 x6 M = some (v, MR) → wP g M N H → va_S (wA g) s.heap H locs → lv_has ls 8 [(0, .ref y), (1, .int x1), (2, .int x2), (4, .int x4), (5, .int x5), (6, .int x6)] → W p l e (rmD 5) s m ([.ref y, .int p0, .int p1] : List Value).toArray below meth c H locs 0 0 (MQ below (QI g v MR N) ([.ref y, .int p0, .int p1] : List Value).toArray s 0 0 (wA g)) (F0 m 77 ls []) := by
    intro n
    induction n with
    | zero =>
      intro x1 x2 x4 x5 x6 M H locs ls hf
      exact absurd hf (by simp [f_X12_taken_L77])
    | succ n ih =>
      intro x1 x2 x4 x5 x6 M H locs ls hf hP hS hl
      unfold f_X12_taken_L77 at hf
      refine lv_iload hx hb dX12_taken_77 (lv_at hl 5 rfl) ?_
      refine lv_bipush (v := (120 : Int32)) hx hb dX12_taken_79 (by decide) ?_
      refine lv_icmp_ge (tgt := 179) hx hb dX12_taken_81 (by decide) (fun c16 => ?_) (fun c16 => ?_)
      · have hf := if_t c16 hf
        refine lv_iload_n hx hb dX12_taken_179 rfl (lv_at hl 2 rfl) ?_
        refine lv_iconst (v := (-1 : Int32)) hx hb dX12_taken_180 (by decide) ?_
        refine lv_icmp_ne (tgt := 189) hx hb dX12_taken_181 (by decide) (fun c17 => ?_) (fun c17 => ?_)
        · have hf := if_f c17 hf
          refine lv_iload hx hb dX12_taken_189 (lv_at hl 4 rfl) ?_
          exact e_IM hC hr hlk hP hS dX12_taken_191 hf
        · have hf := if_t c17 hf
          refine lv_iload hx hb dX12_taken_184 (lv_at hl 3 rfl) ?_
          refine lv_goto (tgt := 191) hx hb dX12_taken_186 (by decide) ?_
          exact e_IM hC hr hlk hP hS dX12_taken_191 hf
      · have hf := if_f c16 hf
        refine lv_aload_n hx hb dX12_taken_84 rfl (lv_at hl 0 rfl) ?_
        refine r_getR hC hP hO.1 fl_X12_7 rfl dX12_taken_85 ?_
        refine lv_bipush (v := (6 : Int32)) hx hb dX12_taken_88 (by decide) ?_
        refine lv_iload hx hb dX12_taken_90 (lv_at hl 5 rfl) ?_
        refine lv_iadd hx hb dX12_taken_92 ?_
        obtain ⟨hb18, hf⟩ := ck_s hf
        refine r_iald hC hP hO.2.1 hb18 dX12_taken_93 ?_
        refine lv_topi (fun z19 ez19 => ?_)
        have hf := bs ez19 hf
        refine lv_istore (lv' := [(7, .int z19), (0, .ref y), (1, .int x1), (2, .int x2), (4, .int x4), (5, .int x5), (6, .int x6)]) hx hb dX12_taken_94 hl (by decide) rfl (fun ls hl => ?_)
        refine lv_iload hx hb dX12_taken_96 (lv_at hl 0 rfl) ?_
        refine lv_if_le (tgt := 173) hx hb dX12_taken_98 (by decide) (fun c20 => ?_) (fun c20 => ?_)
        · have hf := if_t c20 hf
          exact J173 _ ih x1 x2 x4 x5 x6 M _ _ _ hf hP hS (lv_sub hl [1, 2, 3, 4, 5, 6] rfl)
        · have hf := if_f c20 hf
          refine lv_aload_n hx hb dX12_taken_101 rfl (lv_at hl 1 rfl) ?_
          refine lv_iload hx hb dX12_taken_102 (lv_at hl 6 rfl) ?_
          refine lv_bipush (v := (24 : Int32)) hx hb dX12_taken_104 (by decide) ?_
          obtain ⟨hz22, hf⟩ := cz_s hf
          refine lv_idiv hx hb dX12_taken_106 hz22 ?_
          refine lv_iload hx hb dX12_taken_107 (lv_at hl 6 rfl) ?_
          refine lv_bipush (v := (24 : Int32)) hx hb dX12_taken_109 (by decide) ?_
          obtain ⟨hz23, hf⟩ := cz_s hf
          refine lv_irem hx hb dX12_taken_111 hz23 ?_
          refine lv_iload_n hx hb dX12_taken_112 rfl (lv_at hl 2 rfl) ?_
          obtain ⟨M26, hu25, hf⟩ := bd_s hf
          refine r_goV (r_runV (As := [.int (x6 / (24 : Int32)), .int (jr x6 (24 : Int32)), .int x1]) (rest := []) hC hP hS (k_X12_goOneOn hg hO hu25) cw_X12_168 q_690 q_691 q_692 (Rm.D 3 5 rfl) hO.1 rfl rfl hl.1 rfl (Nat.le_of_ble_eq_true rfl) dX12_taken_113) hS (fun H locs hP hS => ?_)
          refine lv_aload_n hx hb dX12_taken_116 rfl (lv_at hl 1 rfl) ?_
          refine lv_aload_n hx hb dX12_taken_117 rfl (lv_at hl 1 rfl) ?_
          refine r_getI hC hP hO.1 fl_X12_152 rfl dX12_taken_118 ?_
          obtain ⟨r27, hu28, hf⟩ := bd_s hf
          refine r_goI (r_runS (As := [.int (M26 y 11)]) (rest := [.ref y]) hC hP hS (k_X12_isLane hg hu28) cw_X12_77 q_217 q_218 (Rm.D 1 5 rfl) rfl hl.1 rfl (Nat.le_of_ble_eq_true rfl) dX12_taken_121) hS (fun H locs hP hS => ?_)
          refine lv_if_eq (tgt := 134) hx hb dX12_taken_124 (by decide) (fun c30 => ?_) (fun c30 => ?_)
          · have hf := if_t c30 hf
            refine lv_iconst (v := (-1 : Int32)) hx hb dX12_taken_134 (by decide) ?_
            exact J135 _ ih x1 x2 x4 x5 x6 z19 (-1 : Int32) M26 _ _ _ hf hP hS (lv_sub hl [1, 2, 3, 4, 5, 6, 0] rfl)
          · have hf := if_f c30 hf
            refine lv_aload_n hx hb dX12_taken_127 rfl (lv_at hl 1 rfl) ?_
            refine r_getI hC hP hO.1 fl_X12_152 rfl dX12_taken_128 ?_
            refine lv_goto (tgt := 135) hx hb dX12_taken_131 (by decide) ?_
            exact J135 _ ih x1 x2 x4 x5 x6 z19 (M26 y 11) M26 _ _ _ hf hP hS (lv_sub hl [1, 2, 3, 4, 5, 6, 0] rfl)
  have L32 : ∀ (n : Nat) (x1 : Int32) (x2 : Int32) (x4 : Int32) (M : Mm) (H : Heap) (locs : List Loc) (ls : Array Slot), f_X12_taken_L32 y n x1 x2 x4 M = some (v, MR) → wP g M N H → va_S (wA g) s.heap H locs → lv_has ls 8 [(0, .ref y), (1, .int x1), (2, .int x2), (4, .int x4)] → W p l e (rmD 5) s m ([.ref y, .int p0, .int p1] : List Value).toArray below meth c H locs 0 0 (MQ below (QI g v MR N) ([.ref y, .int p0, .int p1] : List Value).toArray s 0 0 (wA g)) (F0 m 32 ls []) := by
    intro n
    induction n with
    | zero =>
      intro x1 x2 x4 M H locs ls hf
      exact absurd hf (by simp [f_X12_taken_L32])
    | succ n ih =>
      intro x1 x2 x4 M H locs ls hf hP hS hl
      unfold f_X12_taken_L32 at hf
      refine lv_iload hx hb dX12_taken_32 (lv_at hl 3 rfl) ?_
      refine lv_iconst (v := (5 : Int32)) hx hb dX12_taken_34 (by decide) ?_
      refine lv_icmp_ge (tgt := 67) hx hb dX12_taken_35 (by decide) (fun c15 => ?_) (fun c15 => ?_)
      · have hf := if_t c15 hf
        refine lv_iconst (v := (0 : Int32)) hx hb dX12_taken_67 (by decide) ?_
        refine lv_istore (lv' := [(4, .int (0 : Int32)), (0, .ref y), (1, .int x1), (2, .int x2)]) hx hb dX12_taken_68 hl (by decide) rfl (fun ls hl => ?_)
        refine lv_bipush (v := (-5 : Int32)) hx hb dX12_taken_70 (by decide) ?_
        refine lv_istore (lv' := [(5, .int (-5 : Int32)), (4, .int (0 : Int32)), (0, .ref y), (1, .int x1), (2, .int x2)]) hx hb dX12_taken_72 hl (by decide) rfl (fun ls hl => ?_)
        refine lv_iconst (v := (0 : Int32)) hx hb dX12_taken_74 (by decide) ?_
        refine lv_istore (lv' := [(6, .int (0 : Int32)), (5, .int (-5 : Int32)), (4, .int (0 : Int32)), (0, .ref y), (1, .int x1), (2, .int x2)]) hx hb dX12_taken_75 hl (by decide) rfl (fun ls hl => ?_)
        exact L77 _ x1 x2 (0 : Int32) (-5 : Int32) (0 : Int32) M _ _ _ hf hP hS (lv_sub hl [3, 4, 5, 2, 1, 0] rfl)
      · have hf := if_f c15 hf
        refine lv_aload_n hx hb dX12_taken_38 rfl (lv_at hl 0 rfl) ?_
        refine r_getR hC hP hO.1 fl_X12_39 rfl dX12_taken_39 ?_
        refine lv_iload hx hb dX12_taken_42 (lv_at hl 3 rfl) ?_
        refine lv_aload_n hx hb dX12_taken_44 rfl (lv_at hl 0 rfl) ?_
        refine r_getR hC hP hO.1 fl_X12_27 rfl dX12_taken_45 ?_
        refine lv_bipush (v := (24 : Int32)) hx hb dX12_taken_48 (by decide) ?_
        refine lv_iload hx hb dX12_taken_50 (lv_at hl 3 rfl) ?_
        refine lv_imul hx hb dX12_taken_52 ?_
        refine lv_aload_n hx hb dX12_taken_53 rfl (lv_at hl 0 rfl) ?_
        obtain ⟨r39, hu40, hf⟩ := bd_s hf
        refine r_goI (r_runV (As := []) (rest := [.int ((24 : Int32) * x4), .ref (y + 5), .int x4, .ref (y + 9)]) hC hP hS (k_X12_places hg hO hu40) cw_X12_64 q_200 q_201 q_202 (Rm.D 0 5 rfl) hO.1 rfl rfl hl.1 rfl (Nat.le_of_ble_eq_true rfl) dX12_taken_54) hS (fun H locs hP hS => ?_)
        obtain ⟨r42, hu43, hf⟩ := bd_s hf
        refine r_goI (r_runS (As := [.ref (y + 5), .int ((24 : Int32) * x4), .int r39]) (rest := [.int x4, .ref (y + 9)]) hC hP hS (k_X12_sumOf hg hO.2.2.2.2.2.1 hu43) cw_X12_140 q_615 q_616 (Rm.D 0 5 rfl) rfl hl.1 rfl (Nat.le_of_ble_eq_true rfl) dX12_taken_57) hS (fun H locs hP hS => ?_)
        obtain ⟨hb45, hf⟩ := ck_s hf
        refine r_iast hC hP hS hO.2.2.2.2.2.2.2.2.2.1 hb45 dX12_taken_60 (fun H locs hP hS => ?_)
        obtain ⟨M46, eM46, hf, hP⟩ := bsM hf hP
        obtain ⟨z47, ez47, hf⟩ := bsJ hf
        refine lv_iinc (v := z47) (lv' := [(4, .int z47), (0, .ref y), (1, .int x1), (2, .int x2)]) hx hb dX12_taken_61 hl (k := 3) rfl (by rw [ez47]; rfl) (by decide) rfl (fun ls hl => ?_)
        refine lv_goto (tgt := 32) hx hb dX12_taken_64 (by decide) ?_
        exact ih x1 x2 z47 M46 _ _ _ hf hP hS (lv_sub hl [1, 2, 3, 0] rfl)
  unfold f_X12_taken at hf
  refine lv_iload_n hx hb dX12_taken_0 rfl (lv_at hl 1 rfl) ?_
  obtain ⟨r1, hu2, hf⟩ := bd_s hf
  refine r_goI (r_runS (As := [.int p0]) (rest := []) hC hP hS (k_X12_isLong hg hu2) cw_X12_163 q_686 q_687 (Rm.D 1 5 rfl) rfl hl.1 rfl (Nat.le_of_ble_eq_true rfl) dX12_taken_1) hS (fun H locs hP hS => ?_)
  refine lv_if_eq (tgt := 12) hx hb dX12_taken_4 (by decide) (fun c4 => ?_) (fun c4 => ?_)
  · have hf := if_t c4 hf
    exact J12 M _ _ _ hf hP hS (lv_sub hl [0] rfl)
  · have hf := if_f c4 hf
    refine lv_iload_n hx hb dX12_taken_7 rfl (lv_at hl 2 rfl) ?_
    refine lv_iconst (v := (-1 : Int32)) hx hb dX12_taken_8 (by decide) ?_
    refine lv_icmp_ge (tgt := 19) hx hb dX12_taken_9 (by decide) (fun c8 => ?_) (fun c8 => ?_)
    · have hf := if_t c8 hf
      refine lv_aload_n hx hb dX12_taken_19 rfl (lv_at hl 0 rfl) ?_
      refine lv_iload_n hx hb dX12_taken_20 rfl (lv_at hl 1 rfl) ?_
      refine lv_aload_n hx hb dX12_taken_21 rfl (lv_at hl 0 rfl) ?_
      obtain ⟨r9, hu10, hf⟩ := bd_s hf
      refine r_goI (r_runV (As := []) (rest := [.int p0, .ref y]) hC hP hS (k_X12_all hg hO hu10) cw_X12_127 q_543 q_544 q_545 (Rm.D 1 5 rfl) hO.1 rfl rfl hl.1 rfl (Nat.le_of_ble_eq_true rfl) dX12_taken_22) hS (fun H locs hP hS => ?_)
      obtain ⟨r12, M14, hu13, hf⟩ := bd2_s hf
      refine r_goI (r_runV (As := [.int p0, .int r9]) (rest := []) hC hP hS (k_X12_lossOf hg hO hu13) cw_X12_172 q_716 q_717 q_718 (Rm.D 4 5 rfl) hO.1 rfl rfl hl.1 rfl (Nat.le_of_ble_eq_true rfl) dX12_taken_25) hS (fun H locs hP hS => ?_)
      refine lv_istore_n (lv' := [(3, .int r12), (0, .ref y), (1, .int p0), (2, .int p1)]) hx hb dX12_taken_28 rfl hl (by decide) rfl (fun ls hl => ?_)
      refine lv_iconst (v := (0 : Int32)) hx hb dX12_taken_29 (by decide) ?_
      refine lv_istore (lv' := [(4, .int (0 : Int32)), (3, .int r12), (0, .ref y), (1, .int p0), (2, .int p1)]) hx hb dX12_taken_30 hl (by decide) rfl (fun ls hl => ?_)
      exact L32 _ p0 p1 (0 : Int32) M14 _ _ _ hf hP hS (lv_sub hl [2, 3, 4, 0] rfl)
    · have hf := if_f c8 hf
      exact J12 M _ _ _ hf hP hS (lv_sub hl [0] rfl)
set_option maxRecDepth 100000 in
set_option maxHeartbeats 4000000 in
theorem k_X12_there {g : Ev} {l : Launch} (hg : g.2.1.Nodup) {y : Nat} (hO : oModel g y) {M : Mm} {N : Ml} {p0 : Int32} {p1 : Int32} {v : Int32} {MR : Mm} (hf : f_X12_there y p0 p1 M = some (v, MR)) : KM g l yX12_there cX12_there 3 (some .int) 2 [.ref y, .int p0, .int p1] M N (QI g v MR N) := by
  refine KM.mk hg (by decide) (Nat.le_of_ble_eq_true rfl) ?_
  intro p e s m below meth c ls hC hr hlk hl hP hS
  have hx := hC.1
  have hb := hC.2.1
  have hl : lv_has ls 3 [(0, .ref y), (1, .int p0), (2, .int p1)] := hl
  have J20 : ∀ (M : Mm) (H : Heap) (locs : List Loc) (ls : Array Slot), f_X12_there_J20 y M = some (v, MR) → wP g M N H → va_S (wA g) s.heap H locs → lv_has ls 3 [(0, .ref y)] → W p l e (rmD 2) s m ([.ref y, .int p0, .int p1] : List Value).toArray below meth c H locs 0 0 (MQ below (QI g v MR N) ([.ref y, .int p0, .int p1] : List Value).toArray s 0 0 (wA g)) (F0 m 20 ls []) := by
    intro M H locs ls hf hP hS hl
    unfold f_X12_there_J20 at hf
    refine lv_aload_n hx hb dX12_there_20 rfl (lv_at hl 0 rfl) ?_
    refine lv_bipush (v := (-10 : Int32)) hx hb dX12_there_21 (by decide) ?_
    obtain ⟨r5, M7, hu6, hf⟩ := bd2_s hf
    refine r_goI (r_runV (As := [.int (-10 : Int32)]) (rest := []) hC hP hS (k_X12_bad hg hO hu6) cw_X12_73 q_196 q_197 q_198 (Rm.D 0 2 rfl) hO.1 rfl rfl hl.1 rfl (Nat.le_of_ble_eq_true rfl) dX12_there_23) hS (fun H locs hP hS => ?_)
    exact e_IM hC hr hlk hP hS dX12_there_26 hf
  have J27 : ∀ (x1 : Int32) (x2 : Int32) (M : Mm) (H : Heap) (locs : List Loc) (ls : Array Slot), f_X12_there_J27 y x1 x2 M = some (v, MR) → wP g M N H → va_S (wA g) s.heap H locs → lv_has ls 3 [(0, .ref y), (1, .int x1), (2, .int x2)] → W p l e (rmD 2) s m ([.ref y, .int p0, .int p1] : List Value).toArray below meth c H locs 0 0 (MQ below (QI g v MR N) ([.ref y, .int p0, .int p1] : List Value).toArray s 0 0 (wA g)) (F0 m 27 ls []) := by
    intro x1 x2 M H locs ls hf hP hS hl
    unfold f_X12_there_J27 at hf
    refine lv_iload_n hx hb dX12_there_27 rfl (lv_at hl 2 rfl) ?_
    refine lv_iconst (v := (-1 : Int32)) hx hb dX12_there_28 (by decide) ?_
    refine lv_icmp_ne (tgt := 53) hx hb dX12_there_29 (by decide) (fun c9 => ?_) (fun c9 => ?_)
    · have hf := if_f c9 hf
      refine lv_aload_n hx hb dX12_there_53 rfl (lv_at hl 0 rfl) ?_
      refine r_getR hC hP hO.1 fl_X12_7 rfl dX12_there_54 ?_
      refine lv_bipush (v := (6 : Int32)) hx hb dX12_there_57 (by decide) ?_
      refine lv_bipush (v := (24 : Int32)) hx hb dX12_there_59 (by decide) ?_
      refine lv_iload_n hx hb dX12_there_61 rfl (lv_at hl 1 rfl) ?_
      refine lv_imul hx hb dX12_there_62 ?_
      refine lv_iadd hx hb dX12_there_63 ?_
      refine lv_iload_n hx hb dX12_there_64 rfl (lv_at hl 2 rfl) ?_
      refine lv_iadd hx hb dX12_there_65 ?_
      obtain ⟨hb10, hf⟩ := ck_s hf
      refine r_iald hC hP hO.2.1 hb10 dX12_there_66 ?_
      exact e_IM hC hr hlk hP hS dX12_there_67 hf
    · have hf := if_t c9 hf
      refine lv_aload_n hx hb dX12_there_32 rfl (lv_at hl 0 rfl) ?_
      refine r_getR hC hP hO.1 fl_X12_7 rfl dX12_there_33 ?_
      refine lv_bipush (v := (6 : Int32)) hx hb dX12_there_36 (by decide) ?_
      refine lv_bipush (v := (24 : Int32)) hx hb dX12_there_38 (by decide) ?_
      refine lv_iload_n hx hb dX12_there_40 rfl (lv_at hl 1 rfl) ?_
      refine lv_imul hx hb dX12_there_41 ?_
      refine lv_iadd hx hb dX12_there_42 ?_
      refine lv_aload_n hx hb dX12_there_43 rfl (lv_at hl 0 rfl) ?_
      obtain ⟨r11, hu12, hf⟩ := bd_s hf
      refine r_goI (r_runV (As := []) (rest := [.int ((6 : Int32) + ((24 : Int32) * x1)), .ref (y + 1)]) hC hP hS (k_X12_places hg hO hu12) cw_X12_64 q_200 q_201 q_202 (Rm.D 0 2 rfl) hO.1 rfl rfl hl.1 rfl (Nat.le_of_ble_eq_true rfl) dX12_there_44) hS (fun H locs hP hS => ?_)
      obtain ⟨r14, hu15, hf⟩ := bd_s hf
      refine r_goI (r_runS (As := [.ref (y + 1), .int ((6 : Int32) + ((24 : Int32) * x1)), .int r11]) (rest := []) hC hP hS (k_X12_sumOf hg hO.2.1 hu15) cw_X12_140 q_615 q_616 (Rm.D 0 2 rfl) rfl hl.1 rfl (Nat.le_of_ble_eq_true rfl) dX12_there_47) hS (fun H locs hP hS => ?_)
      refine lv_goto (tgt := 67) hx hb dX12_there_50 (by decide) ?_
      exact e_IM hC hr hlk hP hS dX12_there_67 hf
  unfold f_X12_there at hf
  refine lv_iload_n hx hb dX12_there_0 rfl (lv_at hl 1 rfl) ?_
  obtain ⟨r1, hu2, hf⟩ := bd_s hf
  refine r_goI (r_runS (As := [.int p0]) (rest := []) hC hP hS (k_X12_isLane hg hu2) cw_X12_77 q_217 q_218 (Rm.D 1 2 rfl) rfl hl.1 rfl (Nat.le_of_ble_eq_true rfl) dX12_there_1) hS (fun H locs hP hS => ?_)
  refine lv_if_eq (tgt := 20) hx hb dX12_there_4 (by decide) (fun c4 => ?_) (fun c4 => ?_)
  · have hf := if_t c4 hf
    exact J20 M _ _ _ hf hP hS (lv_sub hl [0] rfl)
  · have hf := if_f c4 hf
    refine lv_iload_n hx hb dX12_there_7 rfl (lv_at hl 2 rfl) ?_
    refine lv_iconst (v := (-1 : Int32)) hx hb dX12_there_8 (by decide) ?_
    refine lv_icmp_eq (tgt := 27) hx hb dX12_there_9 (by decide) (fun c8 => ?_) (fun c8 => ?_)
    · have hf := if_t c8 hf
      exact J27 p0 p1 M _ _ _ hf hP hS (lv_sub hl [0, 1, 2] rfl)
    · have hf := if_f c8 hf
      refine lv_aload_n hx hb dX12_there_12 rfl (lv_at hl 0 rfl) ?_
      refine lv_iload_n hx hb dX12_there_13 rfl (lv_at hl 2 rfl) ?_
      obtain ⟨r17, hu18, hf⟩ := bd_s hf
      refine r_goI (r_runV (As := [.int p1]) (rest := []) hC hP hS (k_X12_isPlace hg hO hu18) cw_X12_83 q_245 q_246 q_247 (Rm.D 1 2 rfl) hO.1 rfl rfl hl.1 rfl (Nat.le_of_ble_eq_true rfl) dX12_there_14) hS (fun H locs hP hS => ?_)
      refine lv_if_ne (tgt := 27) hx hb dX12_there_17 (by decide) (fun c20 => ?_) (fun c20 => ?_)
      · have hf := if_f c20 hf
        exact J27 p0 p1 M _ _ _ hf hP hS (lv_sub hl [0, 1, 2] rfl)
      · have hf := if_t c20 hf
        exact J20 M _ _ _ hf hP hS (lv_sub hl [0] rfl)
set_option maxRecDepth 100000 in
set_option maxHeartbeats 4000000 in
theorem k_X12_told {g : Ev} {l : Launch} (hg : g.2.1.Nodup) {y : Nat} (hO : oModel g y) {M : Mm} {N : Ml} {p0 : Int32} {p1 : Int32} {v : Int32} {MR : Mm} (hf : f_X12_told y p0 p1 M = some (v, MR)) : KM g l yX12_told cX12_told 4 (some .int) 2 [.ref y, .int p0, .int p1] M N (QI g v MR N) := by
  refine KM.mk hg (by decide) (Nat.le_of_ble_eq_true rfl) ?_
  intro p e s m below meth c ls hC hr hlk hl hP hS
  have hx := hC.1
  have hb := hC.2.1
  have hl : lv_has ls 4 [(0, .ref y), (1, .int p0), (2, .int p1)] := hl
  have J19 : ∀ (M : Mm) (H : Heap) (locs : List Loc) (ls : Array Slot), f_X12_told_J19 y M = some (v, MR) → wP g M N H → va_S (wA g) s.heap H locs → lv_has ls 4 [(0, .ref y)] → W p l e (rmD 2) s m ([.ref y, .int p0, .int p1] : List Value).toArray below meth c H locs 0 0 (MQ below (QI g v MR N) ([.ref y, .int p0, .int p1] : List Value).toArray s 0 0 (wA g)) (F0 m 19 ls []) := by
    intro M H locs ls hf hP hS hl
    unfold f_X12_told_J19 at hf
    refine lv_aload_n hx hb dX12_told_19 rfl (lv_at hl 0 rfl) ?_
    refine lv_bipush (v := (-2 : Int32)) hx hb dX12_told_20 (by decide) ?_
    obtain ⟨r5, M7, hu6, hf⟩ := bd2_s hf
    refine r_goI (r_runV (As := [.int (-2 : Int32)]) (rest := []) hC hP hS (k_X12_bad hg hO hu6) cw_X12_73 q_196 q_197 q_198 (Rm.D 0 2 rfl) hO.1 rfl rfl hl.1 rfl (Nat.le_of_ble_eq_true rfl) dX12_told_22) hS (fun H locs hP hS => ?_)
    exact e_IM hC hr hlk hP hS dX12_told_25 hf
  unfold f_X12_told at hf
  refine lv_iload_n hx hb dX12_told_0 rfl (lv_at hl 1 rfl) ?_
  obtain ⟨r1, hu2, hf⟩ := bd_s hf
  refine r_goI (r_runS (As := [.int p0]) (rest := []) hC hP hS (k_X12_isLane hg hu2) cw_X12_77 q_217 q_218 (Rm.D 1 2 rfl) rfl hl.1 rfl (Nat.le_of_ble_eq_true rfl) dX12_told_1) hS (fun H locs hP hS => ?_)
  refine lv_if_eq (tgt := 19) hx hb dX12_told_4 (by decide) (fun c4 => ?_) (fun c4 => ?_)
  · have hf := if_t c4 hf
    exact J19 M _ _ _ hf hP hS (lv_sub hl [0] rfl)
  · have hf := if_f c4 hf
    refine lv_iload_n hx hb dX12_told_7 rfl (lv_at hl 2 rfl) ?_
    refine lv_i2l hx hb dX12_told_8 rfl ?_
    refine lv_lconst (v := (0 : Int64)) hx hb dX12_told_9 (by decide) ?_
    refine lv_ldc2 (v := (9999 : Int64)) hx hb hC.2.2.2.1 (hC.2.2.2.2.1 _ q_830) dX12_told_10 ?_
    obtain ⟨r8, hu9, hf⟩ := bd_s hf
    refine r_goI (r_runS (As := [.long p1.toInt64, .long (0 : Int64), .long (9999 : Int64)]) (rest := []) hC hP hS (k_X12_in hg hu9) cw_X12_60 q_193 q_194 (Rm.D 0 2 rfl) rfl hl.1 rfl (Nat.le_of_ble_eq_true rfl) dX12_told_13) hS (fun H locs hP hS => ?_)
    refine lv_if_ne (tgt := 26) hx hb dX12_told_16 (by decide) (fun c11 => ?_) (fun c11 => ?_)
    · have hf := if_f c11 hf
      refine lv_aload_n hx hb dX12_told_26 rfl (lv_at hl 0 rfl) ?_
      refine r_getR hC hP hO.1 fl_X12_7 rfl dX12_told_27 ?_
      refine lv_sipush (v := (143 : Int32)) hx hb dX12_told_30 (by decide) ?_
      refine lv_iload_n hx hb dX12_told_33 rfl (lv_at hl 1 rfl) ?_
      refine lv_iadd hx hb dX12_told_34 ?_
      obtain ⟨hb12, hf⟩ := ck_s hf
      refine r_iald hC hP hO.2.1 hb12 dX12_told_35 ?_
      refine lv_topi (fun z13 ez13 => ?_)
      have hf := bs ez13 hf
      refine lv_istore_n (lv' := [(3, .int z13), (0, .ref y), (1, .int p0), (2, .int p1)]) hx hb dX12_told_36 rfl hl (by decide) rfl (fun ls hl => ?_)
      refine lv_aload_n hx hb dX12_told_37 rfl (lv_at hl 1 rfl) ?_
      refine r_getR hC hP hO.1 fl_X12_7 rfl dX12_told_38 ?_
      refine lv_sipush (v := (143 : Int32)) hx hb dX12_told_41 (by decide) ?_
      refine lv_iload_n hx hb dX12_told_44 rfl (lv_at hl 2 rfl) ?_
      refine lv_iadd hx hb dX12_told_45 ?_
      refine lv_iload_n hx hb dX12_told_46 rfl (lv_at hl 3 rfl) ?_
      obtain ⟨hb14, hf⟩ := ck_s hf
      refine r_iast hC hP hS hO.2.1 hb14 dX12_told_47 (fun H locs hP hS => ?_)
      obtain ⟨M15, eM15, hf, hP⟩ := bsM hf hP
      refine lv_iload_n hx hb dX12_told_48 rfl (lv_at hl 0 rfl) ?_
      exact e_IM hC hr hlk hP hS dX12_told_49 hf
    · have hf := if_t c11 hf
      exact J19 M _ _ _ hf hP hS (lv_sub hl [0] rfl)
set_option maxRecDepth 100000 in
set_option maxHeartbeats 4000000 in
theorem k_X12_type {g : Ev} {l : Launch} (hg : g.2.1.Nodup) {y : Nat} (hO : oModel g y) {M : Mm} {N : Ml} {p0 : Int64} {p1 : Int32} {v : Int32} {MR : Mm} (hf : f_X12_type y p0 p1 M = some (v, MR)) : KM g l yX12_type cX12_type 5 (some .int) 1 [.ref y, .long p0, .int p1] M N (QI g v MR N) := by
  refine KM.mk hg (by decide) (Nat.le_of_ble_eq_true rfl) ?_
  intro p e s m below meth c ls hC hr hlk hl hP hS
  have hx := hC.1
  have hb := hC.2.1
  have hl : lv_has ls 5 [(0, .ref y), (1, .long p0), (3, .int p1)] := hl
  have L41 : ∀ (n : Nat) (x1 : Int64) (x4 : Int32) (M : Mm) (H : Heap) (locs : List Loc) (ls : Array Slot), f_X12_type_L41 y n x1 x4 M = some (v, MR) → wP g M N H → va_S (wA g) s.heap H locs → lv_has ls 5 [(0, .ref y), (1, .long x1), (4, .int x4)] → W p l e (rmD 1) s m ([.ref y, .long p0, .int p1] : List Value).toArray below meth c H locs 0 0 (MQ below (QI g v MR N) ([.ref y, .long p0, .int p1] : List Value).toArray s 0 0 (wA g)) (F0 m 41 ls []) := by
    intro n
    induction n with
    | zero =>
      intro x1 x4 M H locs ls hf
      exact absurd hf (by simp [f_X12_type_L41])
    | succ n ih =>
      intro x1 x4 M H locs ls hf hP hS hl
      unfold f_X12_type_L41 at hf
      refine lv_iload hx hb dX12_type_41 (lv_at hl 2 rfl) ?_
      refine lv_if_lt (tgt := 83) hx hb dX12_type_43 (by decide) (fun c7 => ?_) (fun c7 => ?_)
      · have hf := if_t c7 hf
        refine lv_aload_n hx hb dX12_type_83 rfl (lv_at hl 0 rfl) ?_
        refine r_getI hC hP hO.1 fl_X12_214 rfl dX12_type_84 ?_
        exact e_IM hC hr hlk hP hS dX12_type_87 hf
      · have hf := if_f c7 hf
        refine lv_aload_n hx hb dX12_type_46 rfl (lv_at hl 0 rfl) ?_
        refine r_getR hC hP hO.1 fl_X12_45 rfl dX12_type_47 ?_
        refine lv_aload_n hx hb dX12_type_50 rfl (lv_at hl 0 rfl) ?_
        refine r_getI hC hP hO.1 fl_X12_214 rfl dX12_type_51 ?_
        refine lv_lload_n hx hb dX12_type_54 rfl (lv_at hl 1 rfl) ?_
        refine lv_bipush (v := (8 : Int32)) hx hb dX12_type_55 (by decide) ?_
        refine lv_iload hx hb dX12_type_57 (lv_at hl 2 rfl) ?_
        refine lv_imul hx hb dX12_type_59 ?_
        refine lv_lushr hx hb dX12_type_60 rfl ?_
        refine lv_ldc2 (v := (255 : Int64)) hx hb hC.2.2.2.1 (hC.2.2.2.2.1 _ q_290) dX12_type_61 ?_
        refine lv_land hx hb dX12_type_64 ?_
        refine lv_l2i hx hb dX12_type_65 rfl ?_
        obtain ⟨hb8, hf⟩ := ck_s hf
        refine r_iast hC hP hS hO.2.2.2.2.2.2.2.2.2.2.2.1 hb8 dX12_type_66 (fun H locs hP hS => ?_)
        obtain ⟨M9, eM9, hf, hP⟩ := bsM hf hP
        refine lv_aload_n hx hb dX12_type_67 rfl (lv_at hl 0 rfl) ?_
        refine lv_dup hx hb dX12_type_68 rfl ?_
        refine r_getI hC hP hO.1 fl_X12_214 rfl dX12_type_69 ?_
        refine lv_iconst (v := (1 : Int32)) hx hb dX12_type_72 (by decide) ?_
        refine lv_iadd hx hb dX12_type_73 ?_
        refine r_putI hC hP hS hO.1 fl_X12_214 tyX12 tyX12_ok nmX12 rfl rfl rfl dX12_type_74 (fun H locs hP hS => ?_)
        obtain ⟨M10, eM10, hf, hP⟩ := bsM hf hP
        obtain ⟨z11, ez11, hf⟩ := bsJ hf
        refine lv_iinc (v := z11) (lv' := [(4, .int z11), (0, .ref y), (1, .long x1)]) hx hb dX12_type_77 hl (k := 2) rfl (by rw [ez11]; rfl) (by decide) rfl (fun ls hl => ?_)
        refine lv_goto (tgt := 41) hx hb dX12_type_80 (by decide) ?_
        exact ih x1 z11 M10 _ _ _ hf hP hS (lv_sub hl [1, 2, 0] rfl)
  unfold f_X12_type at hf
  refine lv_iload_n hx hb dX12_type_0 rfl (lv_at hl 2 rfl) ?_
  refine lv_i2l hx hb dX12_type_1 rfl ?_
  refine lv_lconst (v := (1 : Int64)) hx hb dX12_type_2 (by decide) ?_
  refine lv_ldc2 (v := (8 : Int64)) hx hb hC.2.2.2.1 (hC.2.2.2.2.1 _ q_288) dX12_type_3 ?_
  obtain ⟨r1, hu2, hf⟩ := bd_s hf
  refine r_goI (r_runS (As := [.long p1.toInt64, .long (1 : Int64), .long (8 : Int64)]) (rest := []) hC hP hS (k_X12_in hg hu2) cw_X12_60 q_193 q_194 (Rm.D 0 1 rfl) rfl hl.1 rfl (Nat.le_of_ble_eq_true rfl) dX12_type_6) hS (fun H locs hP hS => ?_)
  refine lv_if_ne (tgt := 19) hx hb dX12_type_9 (by decide) (fun c4 => ?_) (fun c4 => ?_)
  · have hf := if_f c4 hf
    refine lv_aload_n hx hb dX12_type_19 rfl (lv_at hl 0 rfl) ?_
    refine r_getI hC hP hO.1 fl_X12_214 rfl dX12_type_20 ?_
    refine lv_iload_n hx hb dX12_type_23 rfl (lv_at hl 2 rfl) ?_
    refine lv_iadd hx hb dX12_type_24 ?_
    refine lv_sipush (v := (250 : Int32)) hx hb dX12_type_25 (by decide) ?_
    refine lv_icmp_le (tgt := 36) hx hb dX12_type_28 (by decide) (fun c5 => ?_) (fun c5 => ?_)
    · have hf := if_t c5 hf
      refine lv_iload_n hx hb dX12_type_36 rfl (lv_at hl 2 rfl) ?_
      refine lv_iconst (v := (1 : Int32)) hx hb dX12_type_37 (by decide) ?_
      refine lv_isub hx hb dX12_type_38 ?_
      refine lv_topi (fun z6 ez6 => ?_)
      have hf := bs ez6 hf
      refine lv_istore (lv' := [(4, .int z6), (0, .ref y), (1, .long p0), (3, .int p1)]) hx hb dX12_type_39 hl (by decide) rfl (fun ls hl => ?_)
      exact L41 _ p0 z6 M _ _ _ hf hP hS (lv_sub hl [1, 2, 0] rfl)
    · have hf := if_f c5 hf
      refine lv_aload_n hx hb dX12_type_31 rfl (lv_at hl 0 rfl) ?_
      obtain ⟨r12, M14, hu13, hf⟩ := bd2_s hf
      refine r_goI (r_runV (As := []) (rest := []) hC hP hS (k_X12_full hg hO hu13) cw_X12_90 q_267 q_268 q_269 (Rm.D 0 1 rfl) hO.1 rfl rfl hl.1 rfl (Nat.le_of_ble_eq_true rfl) dX12_type_32) hS (fun H locs hP hS => ?_)
      exact e_IM hC hr hlk hP hS dX12_type_35 hf
  · have hf := if_t c4 hf
    refine lv_aload_n hx hb dX12_type_12 rfl (lv_at hl 0 rfl) ?_
    refine lv_bipush (v := (-2 : Int32)) hx hb dX12_type_13 (by decide) ?_
    obtain ⟨r15, M17, hu16, hf⟩ := bd2_s hf
    refine r_goI (r_runV (As := [.int (-2 : Int32)]) (rest := []) hC hP hS (k_X12_bad hg hO hu16) cw_X12_73 q_196 q_197 q_198 (Rm.D 0 1 rfl) hO.1 rfl rfl hl.1 rfl (Nat.le_of_ble_eq_true rfl) dX12_type_15) hS (fun H locs hP hS => ?_)
    exact e_IM hC hr hlk hP hS dX12_type_18 hf
set_option maxRecDepth 100000 in
set_option maxHeartbeats 4000000 in
theorem k_X12_undo {g : Ev} {l : Launch} (hg : g.2.1.Nodup) {y : Nat} (hO : oModel g y) {M : Mm} {N : Ml}  {v : Int32} {MR : Mm} (hf : f_X12_undo y M = some (v, MR)) : KM g l yX12_undo cX12_undo 3 (some .int) 1 [.ref y] M N (QI g v MR N) := by
  refine KM.mk hg (by decide) (Nat.le_of_ble_eq_true rfl) ?_
  intro p e s m below meth c ls hC hr hlk hl hP hS
  have hx := hC.1
  have hb := hC.2.1
  have hl : lv_has ls 3 [(0, .ref y)] := hl
  have L77 : ∀ (n : Nat) (x1 : Int32) (x2 : Int32) (M : Mm) (H : Heap) (locs : List Loc) (ls : Array Slot), f_X12_undo_L77 y n x1 x2 M = some (v, MR) → wP g M N H → va_S (wA g) s.heap H locs → lv_has ls 3 [(0, .ref y), (1, .int x1), (2, .int x2)] → W p l e (rmD 1) s m ([.ref y] : List Value).toArray below meth c H locs 0 0 (MQ below (QI g v MR N) ([.ref y] : List Value).toArray s 0 0 (wA g)) (F0 m 77 ls []) := by
    intro n
    induction n with
    | zero =>
      intro x1 x2 M H locs ls hf
      exact absurd hf (by simp [f_X12_undo_L77])
    | succ n ih =>
      intro x1 x2 M H locs ls hf hP hS hl
      unfold f_X12_undo_L77 at hf
      refine lv_iload_n hx hb dX12_undo_77 rfl (lv_at hl 2 rfl) ?_
      refine lv_aload_n hx hb dX12_undo_78 rfl (lv_at hl 0 rfl) ?_
      refine r_getR hC hP hO.1 fl_X12_7 rfl dX12_undo_79 ?_
      refine lv_iload_n hx hb dX12_undo_82 rfl (lv_at hl 1 rfl) ?_
      refine lv_bipush (v := (126 : Int32)) hx hb dX12_undo_83 (by decide) ?_
      refine lv_iadd hx hb dX12_undo_85 ?_
      obtain ⟨hb9, hf⟩ := ck_s hf
      refine r_iald hC hP hO.2.1 hb9 dX12_undo_86 ?_
      refine lv_icmp_ge (tgt := 120) hx hb dX12_undo_87 (by decide) (fun c10 => ?_) (fun c10 => ?_)
      · have hf := if_t c10 hf
        refine lv_aload_n hx hb dX12_undo_120 rfl (lv_at hl 0 rfl) ?_
        refine r_getR hC hP hO.1 fl_X12_7 rfl dX12_undo_121 ?_
        refine lv_sipush (v := (148 : Int32)) hx hb dX12_undo_124 (by decide) ?_
        refine lv_aload_n hx hb dX12_undo_127 rfl (lv_at hl 0 rfl) ?_
        refine r_getR hC hP hO.1 fl_X12_7 rfl dX12_undo_128 ?_
        refine lv_iload_n hx hb dX12_undo_131 rfl (lv_at hl 1 rfl) ?_
        refine lv_bipush (v := (124 : Int32)) hx hb dX12_undo_132 (by decide) ?_
        refine lv_iadd hx hb dX12_undo_134 ?_
        obtain ⟨hb11, hf⟩ := ck_s hf
        refine r_iald hC hP hO.2.1 hb11 dX12_undo_135 ?_
        obtain ⟨hb12, hf⟩ := ck_s hf
        refine r_iast hC hP hS hO.2.1 hb12 dX12_undo_136 (fun H locs hP hS => ?_)
        obtain ⟨M13, eM13, hf, hP⟩ := bsM hf hP
        refine lv_aload_n hx hb dX12_undo_137 rfl (lv_at hl 0 rfl) ?_
        refine r_getR hC hP hO.1 fl_X12_7 rfl dX12_undo_138 ?_
        refine lv_sipush (v := (149 : Int32)) hx hb dX12_undo_141 (by decide) ?_
        refine lv_aload_n hx hb dX12_undo_144 rfl (lv_at hl 0 rfl) ?_
        refine r_getR hC hP hO.1 fl_X12_7 rfl dX12_undo_145 ?_
        refine lv_iload_n hx hb dX12_undo_148 rfl (lv_at hl 1 rfl) ?_
        refine lv_bipush (v := (125 : Int32)) hx hb dX12_undo_149 (by decide) ?_
        refine lv_iadd hx hb dX12_undo_151 ?_
        obtain ⟨hb14, hf⟩ := ck_s hf
        refine r_iald hC hP hO.2.1 hb14 dX12_undo_152 ?_
        obtain ⟨hb15, hf⟩ := ck_s hf
        refine r_iast hC hP hS hO.2.1 hb15 dX12_undo_153 (fun H locs hP hS => ?_)
        obtain ⟨M16, eM16, hf, hP⟩ := bsM hf hP
        refine lv_iconst (v := (1 : Int32)) hx hb dX12_undo_154 (by decide) ?_
        exact e_IM hC hr hlk hP hS dX12_undo_155 hf
      · have hf := if_f c10 hf
        refine lv_aload_n hx hb dX12_undo_90 rfl (lv_at hl 0 rfl) ?_
        refine r_getR hC hP hO.1 fl_X12_7 rfl dX12_undo_91 ?_
        refine lv_bipush (v := (127 : Int32)) hx hb dX12_undo_94 (by decide) ?_
        refine lv_iconst (v := (4 : Int32)) hx hb dX12_undo_96 (by decide) ?_
        refine lv_iload_n hx hb dX12_undo_97 rfl (lv_at hl 2 rfl) ?_
        refine lv_imul hx hb dX12_undo_98 ?_
        refine lv_iadd hx hb dX12_undo_99 ?_
        refine lv_iconst (v := (2 : Int32)) hx hb dX12_undo_100 (by decide) ?_
        refine lv_iadd hx hb dX12_undo_101 ?_
        refine lv_aload_n hx hb dX12_undo_102 rfl (lv_at hl 0 rfl) ?_
        refine r_getR hC hP hO.1 fl_X12_7 rfl dX12_undo_103 ?_
        refine lv_iload_n hx hb dX12_undo_106 rfl (lv_at hl 1 rfl) ?_
        refine lv_bipush (v := (120 : Int32)) hx hb dX12_undo_107 (by decide) ?_
        refine lv_iadd hx hb dX12_undo_109 ?_
        refine lv_iload_n hx hb dX12_undo_110 rfl (lv_at hl 2 rfl) ?_
        refine lv_iadd hx hb dX12_undo_111 ?_
        obtain ⟨hb17, hf⟩ := ck_s hf
        refine r_iald hC hP hO.2.1 hb17 dX12_undo_112 ?_
        obtain ⟨hb18, hf⟩ := ck_s hf
        refine r_iast hC hP hS hO.2.1 hb18 dX12_undo_113 (fun H locs hP hS => ?_)
        obtain ⟨M19, eM19, hf, hP⟩ := bsM hf hP
        obtain ⟨z20, ez20, hf⟩ := bsJ hf
        refine lv_iinc (v := z20) (lv' := [(2, .int z20), (0, .ref y), (1, .int x1)]) hx hb dX12_undo_114 hl (k := 2) rfl (by rw [ez20]; rfl) (by decide) rfl (fun ls hl => ?_)
        refine lv_goto (tgt := 77) hx hb dX12_undo_117 (by decide) ?_
        exact ih x1 z20 M19 _ _ _ hf hP hS (lv_sub hl [1, 2, 0] rfl)
  have L46 : ∀ (n : Nat) (x1 : Int32) (x2 : Int32) (M : Mm) (H : Heap) (locs : List Loc) (ls : Array Slot), f_X12_undo_L46 y n x1 x2 M = some (v, MR) → wP g M N H → va_S (wA g) s.heap H locs → lv_has ls 3 [(0, .ref y), (1, .int x1), (2, .int x2)] → W p l e (rmD 1) s m ([.ref y] : List Value).toArray below meth c H locs 0 0 (MQ below (QI g v MR N) ([.ref y] : List Value).toArray s 0 0 (wA g)) (F0 m 46 ls []) := by
    intro n
    induction n with
    | zero =>
      intro x1 x2 M H locs ls hf
      exact absurd hf (by simp [f_X12_undo_L46])
    | succ n ih =>
      intro x1 x2 M H locs ls hf hP hS hl
      unfold f_X12_undo_L46 at hf
      refine lv_iload_n hx hb dX12_undo_46 rfl (lv_at hl 2 rfl) ?_
      refine lv_bipush (v := (120 : Int32)) hx hb dX12_undo_47 (by decide) ?_
      refine lv_icmp_ge (tgt := 75) hx hb dX12_undo_49 (by decide) (fun c8 => ?_) (fun c8 => ?_)
      · have hf := if_t c8 hf
        refine lv_iconst (v := (0 : Int32)) hx hb dX12_undo_75 (by decide) ?_
        refine lv_istore_n (lv' := [(2, .int (0 : Int32)), (0, .ref y), (1, .int x1)]) hx hb dX12_undo_76 rfl hl (by decide) rfl (fun ls hl => ?_)
        exact L77 _ x1 (0 : Int32) M _ _ _ hf hP hS (lv_sub hl [1, 2, 0] rfl)
      · have hf := if_f c8 hf
        refine lv_aload_n hx hb dX12_undo_52 rfl (lv_at hl 0 rfl) ?_
        refine r_getR hC hP hO.1 fl_X12_7 rfl dX12_undo_53 ?_
        refine lv_bipush (v := (6 : Int32)) hx hb dX12_undo_56 (by decide) ?_
        refine lv_iload_n hx hb dX12_undo_58 rfl (lv_at hl 2 rfl) ?_
        refine lv_iadd hx hb dX12_undo_59 ?_
        refine lv_aload_n hx hb dX12_undo_60 rfl (lv_at hl 0 rfl) ?_
        refine r_getR hC hP hO.1 fl_X12_7 rfl dX12_undo_61 ?_
        refine lv_iload_n hx hb dX12_undo_64 rfl (lv_at hl 1 rfl) ?_
        refine lv_iload_n hx hb dX12_undo_65 rfl (lv_at hl 2 rfl) ?_
        refine lv_iadd hx hb dX12_undo_66 ?_
        obtain ⟨hb21, hf⟩ := ck_s hf
        refine r_iald hC hP hO.2.1 hb21 dX12_undo_67 ?_
        obtain ⟨hb22, hf⟩ := ck_s hf
        refine r_iast hC hP hS hO.2.1 hb22 dX12_undo_68 (fun H locs hP hS => ?_)
        obtain ⟨M23, eM23, hf, hP⟩ := bsM hf hP
        obtain ⟨z24, ez24, hf⟩ := bsJ hf
        refine lv_iinc (v := z24) (lv' := [(2, .int z24), (0, .ref y), (1, .int x1)]) hx hb dX12_undo_69 hl (k := 2) rfl (by rw [ez24]; rfl) (by decide) rfl (fun ls hl => ?_)
        refine lv_goto (tgt := 46) hx hb dX12_undo_72 (by decide) ?_
        exact ih x1 z24 M23 _ _ _ hf hP hS (lv_sub hl [1, 2, 0] rfl)
  unfold f_X12_undo at hf
  refine lv_aload_n hx hb dX12_undo_0 rfl (lv_at hl 0 rfl) ?_
  refine r_getR hC hP hO.1 fl_X12_7 rfl dX12_undo_1 ?_
  refine lv_sipush (v := (150 : Int32)) hx hb dX12_undo_4 (by decide) ?_
  obtain ⟨hb1, hf⟩ := ck_s hf
  refine r_iald hC hP hO.2.1 hb1 dX12_undo_7 ?_
  refine lv_if_ne (tgt := 16) hx hb dX12_undo_8 (by decide) (fun c2 => ?_) (fun c2 => ?_)
  · have hf := if_f c2 hf
    refine lv_aload_n hx hb dX12_undo_16 rfl (lv_at hl 0 rfl) ?_
    refine r_getR hC hP hO.1 fl_X12_7 rfl dX12_undo_17 ?_
    refine lv_sipush (v := (150 : Int32)) hx hb dX12_undo_20 (by decide) ?_
    refine lv_dup2_11 hx hb dX12_undo_23 rfl rfl ?_
    obtain ⟨hb3, hf⟩ := ck_s hf
    refine r_iald hC hP hO.2.1 hb3 dX12_undo_24 ?_
    refine lv_iconst (v := (1 : Int32)) hx hb dX12_undo_25 (by decide) ?_
    refine lv_isub hx hb dX12_undo_26 ?_
    obtain ⟨hb4, hf⟩ := ck_s hf
    refine r_iast hC hP hS hO.2.1 hb4 dX12_undo_27 (fun H locs hP hS => ?_)
    obtain ⟨M5, eM5, hf, hP⟩ := bsM hf hP
    refine lv_sipush (v := (151 : Int32)) hx hb dX12_undo_28 (by decide) ?_
    refine lv_bipush (v := (127 : Int32)) hx hb dX12_undo_31 (by decide) ?_
    refine lv_aload_n hx hb dX12_undo_33 rfl (lv_at hl 0 rfl) ?_
    refine r_getR hC hP hO.1 fl_X12_7 rfl dX12_undo_34 ?_
    refine lv_sipush (v := (150 : Int32)) hx hb dX12_undo_37 (by decide) ?_
    obtain ⟨hb6, hf⟩ := ck_s hf
    refine r_iald hC hP hO.2.1 hb6 dX12_undo_40 ?_
    refine lv_imul hx hb dX12_undo_41 ?_
    refine lv_iadd hx hb dX12_undo_42 ?_
    refine lv_topi (fun z7 ez7 => ?_)
    have hf := bs ez7 hf
    refine lv_istore_n (lv' := [(1, .int z7), (0, .ref y)]) hx hb dX12_undo_43 rfl hl (by decide) rfl (fun ls hl => ?_)
    refine lv_iconst (v := (0 : Int32)) hx hb dX12_undo_44 (by decide) ?_
    refine lv_istore_n (lv' := [(2, .int (0 : Int32)), (1, .int z7), (0, .ref y)]) hx hb dX12_undo_45 rfl hl (by decide) rfl (fun ls hl => ?_)
    exact L46 _ z7 (0 : Int32) M5 _ _ _ hf hP hS (lv_sub hl [2, 1, 0] rfl)
  · have hf := if_t c2 hf
    refine lv_aload_n hx hb dX12_undo_11 rfl (lv_at hl 0 rfl) ?_
    obtain ⟨r25, M27, hu26, hf⟩ := bd2_s hf
    refine r_goI (r_runV (As := []) (rest := []) hC hP hS (k_X12_no hg hO hu26) cw_X12_137 q_599 q_600 q_601 (Rm.D 0 1 rfl) hO.1 rfl rfl hl.1 rfl (Nat.le_of_ble_eq_true rfl) dX12_undo_12) hS (fun H locs hP hS => ?_)
    exact e_IM hC hr hlk hP hS dX12_undo_15 hf
set_option maxRecDepth 100000 in
set_option maxHeartbeats 4000000 in
theorem k_X12_where {g : Ev} {l : Launch} (hg : g.2.1.Nodup) {y : Nat} (hO : oModel g y) {M : Mm} {N : Ml} {p0 : Int32} {p1 : Int32} {p2 : Int32} {p3 : Int32} {v : Int32} {MR : Mm} (hf : f_X12_where y p0 p1 p2 p3 M = some (v, MR)) : KM g l yX12_where cX12_where 5 (some .int) 4 [.ref y, .int p0, .int p1, .int p2, .int p3] M N (QI g v MR N) := by
  refine KM.mk hg (by decide) (Nat.le_of_ble_eq_true rfl) ?_
  intro p e s m below meth c ls hC hr hlk hl hP hS
  have hx := hC.1
  have hb := hC.2.1
  have hl : lv_has ls 5 [(0, .ref y), (1, .int p0), (2, .int p1), (3, .int p2), (4, .int p3)] := hl
  have J35 : ∀ (M : Mm) (H : Heap) (locs : List Loc) (ls : Array Slot), f_X12_where_J35 y M = some (v, MR) → wP g M N H → va_S (wA g) s.heap H locs → lv_has ls 5 [(0, .ref y)] → W p l e (rmD 4) s m ([.ref y, .int p0, .int p1, .int p2, .int p3] : List Value).toArray below meth c H locs 0 0 (MQ below (QI g v MR N) ([.ref y, .int p0, .int p1, .int p2, .int p3] : List Value).toArray s 0 0 (wA g)) (F0 m 35 ls []) := by
    intro M H locs ls hf hP hS hl
    unfold f_X12_where_J35 at hf
    refine lv_aload_n hx hb dX12_where_35 rfl (lv_at hl 0 rfl) ?_
    refine lv_bipush (v := (-10 : Int32)) hx hb dX12_where_36 (by decide) ?_
    obtain ⟨r5, M7, hu6, hf⟩ := bd2_s hf
    refine r_goI (r_runV (As := [.int (-10 : Int32)]) (rest := []) hC hP hS (k_X12_bad hg hO hu6) cw_X12_73 q_196 q_197 q_198 (Rm.D 0 4 rfl) hO.1 rfl rfl hl.1 rfl (Nat.le_of_ble_eq_true rfl) dX12_where_38) hS (fun H locs hP hS => ?_)
    exact e_IM hC hr hlk hP hS dX12_where_41 hf
  unfold f_X12_where at hf
  refine lv_iload_n hx hb dX12_where_0 rfl (lv_at hl 1 rfl) ?_
  obtain ⟨r1, hu2, hf⟩ := bd_s hf
  refine r_goI (r_runS (As := [.int p0]) (rest := []) hC hP hS (k_X12_isLane hg hu2) cw_X12_77 q_217 q_218 (Rm.D 1 4 rfl) rfl hl.1 rfl (Nat.le_of_ble_eq_true rfl) dX12_where_1) hS (fun H locs hP hS => ?_)
  refine lv_if_eq (tgt := 35) hx hb dX12_where_4 (by decide) (fun c4 => ?_) (fun c4 => ?_)
  · have hf := if_t c4 hf
    exact J35 M _ _ _ hf hP hS (lv_sub hl [0] rfl)
  · have hf := if_f c4 hf
    refine lv_aload_n hx hb dX12_where_7 rfl (lv_at hl 0 rfl) ?_
    refine lv_iload_n hx hb dX12_where_8 rfl (lv_at hl 2 rfl) ?_
    obtain ⟨r8, hu9, hf⟩ := bd_s hf
    refine r_goI (r_runV (As := [.int p1]) (rest := []) hC hP hS (k_X12_isPlace hg hO hu9) cw_X12_83 q_245 q_246 q_247 (Rm.D 1 4 rfl) hO.1 rfl rfl hl.1 rfl (Nat.le_of_ble_eq_true rfl) dX12_where_9) hS (fun H locs hP hS => ?_)
    refine lv_if_eq (tgt := 35) hx hb dX12_where_12 (by decide) (fun c11 => ?_) (fun c11 => ?_)
    · have hf := if_t c11 hf
      exact J35 M _ _ _ hf hP hS (lv_sub hl [0] rfl)
    · have hf := if_f c11 hf
      refine lv_iload_n hx hb dX12_where_15 rfl (lv_at hl 3 rfl) ?_
      obtain ⟨r12, hu13, hf⟩ := bd_s hf
      refine r_goI (r_runS (As := [.int p2]) (rest := []) hC hP hS (k_X12_isLong hg hu13) cw_X12_163 q_686 q_687 (Rm.D 1 4 rfl) rfl hl.1 rfl (Nat.le_of_ble_eq_true rfl) dX12_where_16) hS (fun H locs hP hS => ?_)
      refine lv_if_eq (tgt := 35) hx hb dX12_where_19 (by decide) (fun c15 => ?_) (fun c15 => ?_)
      · have hf := if_t c15 hf
        exact J35 M _ _ _ hf hP hS (lv_sub hl [0] rfl)
      · have hf := if_f c15 hf
        refine lv_iload hx hb dX12_where_22 (lv_at hl 4 rfl) ?_
        refine lv_i2l hx hb dX12_where_24 rfl ?_
        refine lv_lconst (v := (0 : Int64)) hx hb dX12_where_25 (by decide) ?_
        refine lv_ldc2 (v := (2 : Int64)) hx hb hC.2.2.2.1 (hC.2.2.2.2.1 _ q_682) dX12_where_26 ?_
        obtain ⟨r16, hu17, hf⟩ := bd_s hf
        refine r_goI (r_runS (As := [.long p3.toInt64, .long (0 : Int64), .long (2 : Int64)]) (rest := []) hC hP hS (k_X12_in hg hu17) cw_X12_60 q_193 q_194 (Rm.D 0 4 rfl) rfl hl.1 rfl (Nat.le_of_ble_eq_true rfl) dX12_where_29) hS (fun H locs hP hS => ?_)
        refine lv_if_ne (tgt := 42) hx hb dX12_where_32 (by decide) (fun c19 => ?_) (fun c19 => ?_)
        · have hf := if_f c19 hf
          refine lv_aload_n hx hb dX12_where_42 rfl (lv_at hl 0 rfl) ?_
          refine lv_iload_n hx hb dX12_where_43 rfl (lv_at hl 1 rfl) ?_
          refine lv_iload_n hx hb dX12_where_44 rfl (lv_at hl 2 rfl) ?_
          refine lv_iload_n hx hb dX12_where_45 rfl (lv_at hl 3 rfl) ?_
          obtain ⟨M22, hu21, hf⟩ := bd_s hf
          refine r_goV (r_runV (As := [.int p0, .int p1, .int p2]) (rest := []) hC hP hS (k_X12_goOneOn hg hO hu21) cw_X12_168 q_690 q_691 q_692 (Rm.D 3 4 rfl) hO.1 rfl rfl hl.1 rfl (Nat.le_of_ble_eq_true rfl) dX12_where_46) hS (fun H locs hP hS => ?_)
          refine lv_iload hx hb dX12_where_49 (lv_at hl 4 rfl) ?_
          refine lv_if_ne (tgt := 75) hx hb dX12_where_51 (by decide) (fun c23 => ?_) (fun c23 => ?_)
          · have hf := if_f c23 hf
            refine lv_iload hx hb dX12_where_75 (lv_at hl 4 rfl) ?_
            refine lv_iconst (v := (1 : Int32)) hx hb dX12_where_77 (by decide) ?_
            refine lv_icmp_ne (tgt := 88) hx hb dX12_where_78 (by decide) (fun c24 => ?_) (fun c24 => ?_)
            · have hf := if_f c24 hf
              refine lv_aload_n hx hb dX12_where_88 rfl (lv_at hl 0 rfl) ?_
              refine r_getI hC hP hO.1 fl_X12_155 rfl dX12_where_89 ?_
              exact e_IM hC hr hlk hP hS dX12_where_92 hf
            · have hf := if_t c24 hf
              refine lv_aload_n hx hb dX12_where_81 rfl (lv_at hl 0 rfl) ?_
              refine r_getI hC hP hO.1 fl_X12_149 rfl dX12_where_82 ?_
              refine lv_goto (tgt := 92) hx hb dX12_where_85 (by decide) ?_
              exact e_IM hC hr hlk hP hS dX12_where_92 hf
          · have hf := if_t c23 hf
            refine lv_aload_n hx hb dX12_where_54 rfl (lv_at hl 0 rfl) ?_
            refine r_getI hC hP hO.1 fl_X12_152 rfl dX12_where_55 ?_
            obtain ⟨r25, hu26, hf⟩ := bd_s hf
            refine r_goI (r_runS (As := [.int (M22 y 11)]) (rest := []) hC hP hS (k_X12_isLane hg hu26) cw_X12_77 q_217 q_218 (Rm.D 1 4 rfl) rfl hl.1 rfl (Nat.le_of_ble_eq_true rfl) dX12_where_58) hS (fun H locs hP hS => ?_)
            refine lv_if_eq (tgt := 71) hx hb dX12_where_61 (by decide) (fun c28 => ?_) (fun c28 => ?_)
            · have hf := if_t c28 hf
              refine lv_iconst (v := (-1 : Int32)) hx hb dX12_where_71 (by decide) ?_
              refine lv_goto (tgt := 92) hx hb dX12_where_72 (by decide) ?_
              exact e_IM hC hr hlk hP hS dX12_where_92 hf
            · have hf := if_f c28 hf
              refine lv_aload_n hx hb dX12_where_64 rfl (lv_at hl 0 rfl) ?_
              refine r_getI hC hP hO.1 fl_X12_152 rfl dX12_where_65 ?_
              refine lv_goto (tgt := 92) hx hb dX12_where_68 (by decide) ?_
              exact e_IM hC hr hlk hP hS dX12_where_92 hf
        · have hf := if_t c19 hf
          exact J35 M _ _ _ hf hP hS (lv_sub hl [0] rfl)
