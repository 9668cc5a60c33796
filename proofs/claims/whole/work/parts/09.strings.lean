section RST
variable {p : Program} {l : Launch} {e : Env} {R : Room} {s : State} {m : MethodId} {args : Array Value} {below : List Frame} {meth : Method} {c : Code} {H : Heap} {locs : List Loc} {cells slots : Nat} {Q : State → Prop}
variable {cc : ByteArray} {pc nL : Nat} {own : String} {ls : Array Slot} {rest st : List Value} {g : Ev} {M M' : Mm} {N N' : Ml}
theorem r_runVo (hC : Cx g p s m args c cc nL own) (hP : wP g M N H) (hS : va_S (wA g) s.heap H locs) {y : MethodName} {b : ByteArray} {n na d index a : Nat} {r : Option FieldType} {As : List Value} {Qc : Array Value → State → Outcome → State → Prop} {C : String} (hM : KM g l y b n r d (.ref a :: As) M N Qc) (hw : CWd own index y b n r na) (hlk : Cond.methodLink own index y ∈ wsL_law) (him : Cond.instanceMethod y ∈ wsL_law) (hsel : Cond.selects C y y ∈ wsL_law) (hR : Rm R d cells slots) (hrc : ∃ cell : Cell, H[a]? = some cell ∧ cell.vm.isStatics = false ∧ s.vm.findClass C = some cell.cls) (hn : As.length = na) (hls : ls.size = nL) (hst : st = As.reverse ++ .ref a :: rest) (hcat : (rest.map fun v => v.category).sum ≤ 8) (hdg : decode cc pc = .ok (.invokevirtual index, 3)) :
    va_Run p l e R s m args below meth c H locs cells slots 0 0 (F0 m pc ls st) rest (Qc (Value.ref a :: As).toArray) (wA g) := by
  have hC' := hC
  obtain ⟨hx, hb, hml, hown, hts, hF, hnd⟩ := hC'
  obtain ⟨w1, w2, w3, w4, w5⟩ := hw
  refine va_runV (R := R) (As := As) (rest := rest) (n := na) ⟨hx, hb, hml, hown, hts⟩ hM ⟨⟨rfl, rfl, hR.1, ?_, wy_pay hC w1, List.mem_cons_self, hts _ w1, hts _ w2, w3, w4, hts _ hlk⟩, hts _ him, hts _ hsel⟩ ⟨Wd.blind, hrc, fun U hU hW => Wd.pre hC hP hS _ U hU hW⟩ rfl hn hls hst (lv_room hcat) hdg ⟨hR.2.2.1, hR.2.2.2⟩
  show 8 + (n + 11) + 64 * d ≤ R.locals
  have := hR.2.1
  omega
theorem e_T {v v' : Int32} {ty : FieldType} (hC : Cx g p s m args c cc nL own) (hr : meth.sig.returnType = some ty) (hlk : meth.locks = false) (hn : narrow ty (.int v') = .int v') (hP : wP g M N H) (hS : va_S (wA g) s.heap H locs) (hdg : decode cc pc = .ok (.ireturn, 1)) (hf : v' = v) : W p l e R s m args below meth c H locs 0 0 (MQ below (QI g v M N) args s 0 0 (wA g)) (F0 m pc ls [.int v']) :=
  W.zret hC.1 hC.2.1 hr hn (fun t ht hW => ⟨⟨v', (M, N), rfl, ⟨hf, rfl⟩, by show wP g M N t.heap; rw [ht]; exact hP⟩, hS.F ht⟩) hS.2.2 hdg hlk
theorem e_V0 (hC : Cx g p s m args c cc nL own) (hr : meth.sig.returnType = none) (hlk : meth.locks = false) (hP : wP g M N H) (hS : va_S (wA g) s.heap H locs) (hdg : decode cc pc = .ok (.return_, 1)) : W p l e R s m args below meth c H locs 0 0 (MQ below (QV g M N) args s 0 0 (wA g)) (F0 m pc ls []) := e_VM hC hr hlk hP hS hdg rfl
end RST
theorem k_coder {g : Ev} {l : Launch} (hg : g.2.1.Nodup) {w : Nat} (hw : w < 4) {M : Mm} {N : Ml} : KM g l yJ0_coder_7d493 cJ0_coder_7d493 1 (some .byte) 0 [.ref (eK g w)] M N (QI g 0 M N) := by
  refine KM.mk hg (by decide) (Nat.le_of_ble_eq_true rfl) ?_
  intro p e s m below meth c ls hC hr hlk hl hP hS
  have hx := hC.1
  have hb := hC.2.1
  have hl : lv_has ls 1 [(0, .ref (eK g w))] := hl
  have hF := hC.2.2.2.2.2.1.2.2
  refine va_gets (C := "java/lang/String") (ref := "java/lang/String") hx hb hF.2.1 hS hC.2.2.2.1 (hC.2.2.2.2.1 _ q_336) (fun _ h => h) dJ0_coder_7d493_0 ?_
  refine lv_if_eq (tgt := 13) hx hb dJ0_coder_7d493_3 (by decide) (fun c1 => absurd c1 (by decide)) (fun _ => ?_)
  refine lv_aload_n hx hb dJ0_coder_7d493_6 rfl (lv_at hl 0 rfl) ?_
  refine vk_getf (ref := "java/lang/String") hx hb (hF.2.2.2.1.1 w hw).2.1 hS hC.2.2.2.1 (hC.2.2.2.2.1 _ q_337) (fun _ h => h) dJ0_coder_7d493_7 ?_
  refine lv_goto (tgt := 14) hx hb dJ0_coder_7d493_10 (by decide) ?_
  exact e_T hC hr hlk rfl hP hS dJ0_coder_7d493_14 rfl
theorem k_isLatin1 {g : Ev} {l : Launch} (hg : g.2.1.Nodup) {w : Nat} (hw : w < 4) {M : Mm} {N : Ml} : KM g l yJ0_isLatin1_aae02 cJ0_isLatin1_aae02 1 (some .boolean) 0 [.ref (eK g w)] M N (QI g 1 M N) := by
  refine KM.mk hg (by decide) (Nat.le_of_ble_eq_true rfl) ?_
  intro p e s m below meth c ls hC hr hlk hl hP hS
  have hx := hC.1
  have hb := hC.2.1
  have hl : lv_has ls 1 [(0, .ref (eK g w))] := hl
  have hF := hC.2.2.2.2.2.1.2.2
  refine va_gets (C := "java/lang/String") (ref := "java/lang/String") hx hb hF.2.1 hS hC.2.2.2.1 (hC.2.2.2.2.1 _ q_336) (fun _ h => h) dJ0_isLatin1_aae02_0 ?_
  refine lv_if_eq (tgt := 17) hx hb dJ0_isLatin1_aae02_3 (by decide) (fun c1 => absurd c1 (by decide)) (fun _ => ?_)
  refine lv_aload_n hx hb dJ0_isLatin1_aae02_6 rfl (lv_at hl 0 rfl) ?_
  refine vk_getf (ref := "java/lang/String") hx hb (hF.2.2.2.1.1 w hw).2.1 hS hC.2.2.2.1 (hC.2.2.2.2.1 _ q_337) (fun _ h => h) dJ0_isLatin1_aae02_7 ?_
  refine lv_if_ne (tgt := 17) hx hb dJ0_isLatin1_aae02_10 (by decide) (fun c1 => absurd rfl c1) (fun _ => ?_)
  refine lv_iconst (v := (1 : Int32)) hx hb dJ0_isLatin1_aae02_13 (by decide) ?_
  refine lv_goto (tgt := 18) hx hb dJ0_isLatin1_aae02_14 (by decide) ?_
  exact e_T hC hr hlk rfl hP hS dJ0_isLatin1_aae02_18 rfl
theorem k_length {g : Ev} {l : Launch} (hg : g.2.1.Nodup) {w : Nat} (hw : w < 4) {M : Mm} {N : Ml} : KM g l yJ0_length_8abf5 cJ0_length_8abf5 1 (some .int) 1 [.ref (eK g w)] M N (QI g (Int32.ofNat (txLen.getD w 0)) M N) := by
  refine KM.mk hg (by decide) (Nat.le_of_ble_eq_true rfl) ?_
  intro p e s m below meth c ls hC hr hlk hl hP hS
  have hx := hC.1
  have hb := hC.2.1
  have hl : lv_has ls 1 [(0, .ref (eK g w))] := hl
  have hF := hC.2.2.2.2.2.1.2.2
  refine lv_aload_n hx hb dJ0_length_8abf5_0 rfl (lv_at hl 0 rfl) ?_
  refine vk_getf (ref := "java/lang/String") hx hb (hF.2.2.2.1.1 w hw).2.2.1 hS hC.2.2.2.1 (hC.2.2.2.2.1 _ q_331) (fun _ h => h) dJ0_length_8abf5_1 ?_
  refine va_tlen hx hb (hF.2.2.2.1.1 w hw).2.2.2 hS rfl dJ0_length_8abf5_4 ?_
  refine lv_aload_n hx hb dJ0_length_8abf5_5 rfl (lv_at hl 0 rfl) ?_
  refine r_goI (r_runVo (As := []) (rest := [.int (Int32.ofNat (txLen.getD w 0))]) (C := "java/lang/String") hC hP hS (k_coder hg hw) ⟨q_335, q_329, by decide, by decide, by decide⟩ q_332 q_333 q_334 (Rm.D 0 1 rfl) (vk_recv hF.2.2.2.1 hw hS) rfl hl.1 rfl (Nat.le_of_ble_eq_true rfl) dJ0_length_8abf5_6) hS (fun H locs hP hS => ?_)
  refine lv_ishr hx hb dJ0_length_8abf5_9 ?_
  exact e_T hC hr hlk rfl hP hS dJ0_length_8abf5_10 (sb_shr0 _)
theorem k_pcheck {g : Ev} {l : Launch} (hg : g.2.1.Nodup) {i n : Int32} (h0 : ¬ i < 0) (h1 : i < n) {fm : Value} (hfm : fm = .null ∨ ∃ t, fm = .ref t) {M : Mm} {N : Ml} : KM g l yJ3_checkIndex_8e157 cJ3_checkIndex_8e157 3 (some .int) 0 [.int i, .int n, fm] M N (QI g i M N) := by
  have hs : lv_args 0 [.int i, .int n, fm] = [(0, .int i), (1, .int n), (2, fm)] := by
    rcases hfm with rfl | ⟨t, rfl⟩ <;> rfl
  refine KM.mk hg (by decide) (by rcases hfm with rfl | ⟨t, rfl⟩ <;> exact Nat.le_of_ble_eq_true rfl) ?_
  intro p e s m below meth c ls hC hr hlk hl hP hS
  rw [hs] at hl
  have hx := hC.1
  have hb := hC.2.1
  refine lv_iload_n hx hb dJ3_checkIndex_8e157_0 rfl (lv_at hl 0 rfl) ?_
  refine lv_if_lt (tgt := 9) hx hb dJ3_checkIndex_8e157_1 (by decide) (fun c1 => absurd c1 h0) (fun _ => ?_)
  refine lv_iload_n hx hb dJ3_checkIndex_8e157_4 rfl (lv_at hl 0 rfl) ?_
  refine lv_iload_n hx hb dJ3_checkIndex_8e157_5 rfl (lv_at hl 1 rfl) ?_
  refine lv_icmp_lt (tgt := 16) hx hb dJ3_checkIndex_8e157_6 (by decide) (fun _ => ?_) (fun c1 => absurd h1 c1)
  refine lv_iload_n hx hb dJ3_checkIndex_8e157_16 rfl (lv_at hl 0 rfl) ?_
  exact e_T hC hr hlk rfl hP hS dJ3_checkIndex_8e157_17 rfl
theorem k_scheck {g : Ev} {l : Launch} (hg : g.2.1.Nodup) {i n : Int32} (h0 : ¬ i < 0) (h1 : i < n) {M : Mm} {N : Ml} : KM g l yJ0_checkIndex_df160 cJ0_checkIndex_df160 2 none 1 [.int i, .int n] M N (QV g M N) := by
  refine KM.mk hg (by decide) (Nat.le_of_ble_eq_true rfl) ?_
  intro p e s m below meth c ls hC hr hlk hl hP hS
  have hx := hC.1
  have hb := hC.2.1
  have hl : lv_has ls 2 [(0, .int i), (1, .int n)] := hl
  have hF := hC.2.2.2.2.2.1.2.2
  refine lv_iload_n hx hb dJ0_checkIndex_df160_0 rfl (lv_at hl 0 rfl) ?_
  refine lv_iload_n hx hb dJ0_checkIndex_df160_1 rfl (lv_at hl 1 rfl) ?_
  have K : ∀ fm : Value, (fm = .null ∨ ∃ t, fm = .ref t) → W p l e (rmD 1) s m ([.int i, .int n] : List Value).toArray below meth c s.heap [] 0 0 (MQ below (QV g M N) ([.int i, .int n] : List Value).toArray s 0 0 (wA g)) (F0 m 5 ls [fm, .int n, .int i]) := by
    intro fm hfm
    refine r_goI (r_runS (na := 3) (As := [.int i, .int n, fm]) (rest := []) hC hP hS (k_pcheck hg h0 h1 hfm) ⟨q_357, q_356, by decide, by decide, by decide⟩ q_354 q_355 (Rm.D 0 1 rfl) rfl hl.1 rfl (Nat.le_of_ble_eq_true rfl) dJ0_checkIndex_df160_5) hS (fun H locs hP hS => ?_)
    refine lv_pop hx hb dJ0_checkIndex_df160_8 rfl ?_
    exact e_V0 hC hr hlk hP hS dJ0_checkIndex_df160_9
  rcases hF.2.2.1 with hz | ⟨t, hz⟩
  · refine va_gets (C := "jdk/internal/util/Preconditions") (ref := "jdk/internal/util/Preconditions") hx hb hz hS hC.2.2.2.1 (hC.2.2.2.2.1 _ q_353) (fun _ h => h) dJ0_checkIndex_df160_2 ?_
    exact K _ (Or.inl rfl)
  · refine va_gets (C := "jdk/internal/util/Preconditions") (ref := "jdk/internal/util/Preconditions") hx hb hz hS hC.2.2.2.1 (hC.2.2.2.2.1 _ q_353) (fun _ h => h) dJ0_checkIndex_df160_2 ?_
    exact K _ (Or.inr ⟨t, rfl⟩)
theorem tx_ok : ∀ w : Fin 4, ∀ j : Fin 5, j.val < txLen.getD w.val 0 → ((((txByt.getD w.val []).getD j.val 0) &&& 255).toUInt32 % 65536).toInt32 = (txByt.getD w.val []).getD j.val 0 ∧ narrow .char (.int ((txByt.getD w.val []).getD j.val 0)) = .int ((txByt.getD w.val []).getD j.val 0) := by decide +kernel
theorem tx_len : ∀ w : Fin 4, txLen.getD w.val 0 ≤ 5 := by decide
theorem k_lcharAt {g : Ev} {l : Launch} (hg : g.2.1.Nodup) {w : Nat} (hw : w < 4) {i : Int32} (hi : vp_in i (txLen.getD w 0)) {M : Mm} {N : Ml} : KM g l yJ1_charAt_3b067 cJ1_charAt_3b067 2 (some .char) 2 [.ref (eV g w), .int i] M N (QI g ((txByt.getD w []).getD i.toNatClampNeg 0) M N) := by
  have hlen := tx_len ⟨w, hw⟩
  have hlt := vin_lt hi
  have hok := tx_ok ⟨w, hw⟩ ⟨i.toNatClampNeg, by have : i.toNatClampNeg < txLen.getD w 0 := hlt; simp only at hlen; omega⟩ hlt
  have h0 : ¬ i < 0 := fun q => hi (Or.inl q)
  have h1 : i < Int32.ofNat (txLen.getD w 0) := by
    obtain ⟨j, hj, rfl⟩ := vp_in_of hi (by simp only at hlen; omega)
    exact nI_lt hj (by simp only at hlen; omega)
  refine KM.mk hg (by decide) (Nat.le_of_ble_eq_true rfl) ?_
  intro p e s m below meth c ls hC hr hlk hl hP hS
  have hx := hC.1
  have hb := hC.2.1
  have hl : lv_has ls 2 [(0, .ref (eV g w)), (1, .int i)] := hl
  have hF := hC.2.2.2.2.2.1.2.2
  refine lv_iload_n hx hb dJ1_charAt_3b067_0 rfl (lv_at hl 1 rfl) ?_
  refine lv_aload_n hx hb dJ1_charAt_3b067_1 rfl (lv_at hl 0 rfl) ?_
  refine va_tlen hx hb (hF.2.2.2.1.1 w hw).2.2.2 hS rfl dJ1_charAt_3b067_2 ?_
  refine r_goV (r_runS (na := 2) (As := [.int i, .int (Int32.ofNat (txLen.getD w 0))]) (rest := []) hC hP hS (k_scheck hg h0 h1) ⟨q_352, q_329, by decide, by decide, by decide⟩ q_350 q_351 (Rm.D 1 2 rfl) rfl hl.1 rfl (Nat.le_of_ble_eq_true rfl) dJ1_charAt_3b067_3) hS (fun H locs hP hS => ?_)
  refine lv_aload_n hx hb dJ1_charAt_3b067_6 rfl (lv_at hl 0 rfl) ?_
  refine lv_iload_n hx hb dJ1_charAt_3b067_7 rfl (lv_at hl 1 rfl) ?_
  refine va_tb hx hb (hF.2.2.2.1.1 w hw).2.2.2 hS hi rfl dJ1_charAt_3b067_8 ?_
  refine lv_sipush (v := (255 : Int32)) hx hb dJ1_charAt_3b067_9 (by decide) ?_
  refine lv_iand hx hb dJ1_charAt_3b067_12 ?_
  refine lv_i2c (v := (txByt.getD w []).getD i.toNatClampNeg 0) hx hb dJ1_charAt_3b067_13 hok.1 ?_
  exact e_T hC hr hlk hok.2 hP hS dJ1_charAt_3b067_14 rfl
theorem k_charAt {g : Ev} {l : Launch} (hg : g.2.1.Nodup) {w : Nat} (hw : w < 4) {i : Int32} (hi : vp_in i (txLen.getD w 0)) {M : Mm} {N : Ml} : KM g l yJ0_charAt_5068e cJ0_charAt_5068e 2 (some .char) 3 [.ref (eK g w), .int i] M N (QI g ((txByt.getD w []).getD i.toNatClampNeg 0) M N) := by
  have hlen := tx_len ⟨w, hw⟩
  have hlt := vin_lt hi
  have hok := tx_ok ⟨w, hw⟩ ⟨i.toNatClampNeg, by have : i.toNatClampNeg < txLen.getD w 0 := hlt; simp only at hlen; omega⟩ hlt
  refine KM.mk hg (by decide) (Nat.le_of_ble_eq_true rfl) ?_
  intro p e s m below meth c ls hC hr hlk hl hP hS
  have hx := hC.1
  have hb := hC.2.1
  have hl : lv_has ls 2 [(0, .ref (eK g w)), (1, .int i)] := hl
  have hF := hC.2.2.2.2.2.1.2.2
  refine lv_aload_n hx hb dJ0_charAt_5068e_0 rfl (lv_at hl 0 rfl) ?_
  refine r_goI (r_runVo (As := []) (rest := []) (C := "java/lang/String") hC hP hS (k_isLatin1 hg hw) ⟨q_345, q_329, by decide, by decide, by decide⟩ q_342 q_343 q_344 (Rm.D 0 3 rfl) (vk_recv hF.2.2.2.1 hw hS) rfl hl.1 rfl (Nat.le_of_ble_eq_true rfl) dJ0_charAt_5068e_1) hS (fun H locs hP hS => ?_)
  refine lv_if_eq (tgt := 16) hx hb dJ0_charAt_5068e_4 (by decide) (fun c1 => absurd c1 (by decide)) (fun _ => ?_)
  refine lv_aload_n hx hb dJ0_charAt_5068e_7 rfl (lv_at hl 0 rfl) ?_
  refine vk_getf (ref := "java/lang/String") hx hb (hF.2.2.2.1.1 w hw).2.2.1 hS hC.2.2.2.1 (hC.2.2.2.2.1 _ q_331) (fun _ h => h) dJ0_charAt_5068e_8 ?_
  refine lv_iload_n hx hb dJ0_charAt_5068e_11 rfl (lv_at hl 1 rfl) ?_
  refine r_goI (r_runS (na := 2) (As := [.ref (eV g w), .int i]) (rest := []) hC hP hS (k_lcharAt hg hw hi) ⟨q_349, q_348, by decide, by decide, by decide⟩ q_346 q_347 (Rm.D 2 3 rfl) rfl hl.1 rfl (Nat.le_of_ble_eq_true rfl) dJ0_charAt_5068e_12) hS (fun H locs hP hS => ?_)
  exact e_T hC hr hlk hok.2 hP hS dJ0_charAt_5068e_15 rfl
section RSV
variable {p : Program} {l : Launch} {e : Env} {R : Room} {s : State} {m : MethodId} {args : Array Value} {below : List Frame} {meth : Method} {c : Code} {H : Heap} {locs : List Loc} {cells slots : Nat} {Q : State → Prop}
variable {cc : ByteArray} {pc nL : Nat} {own : String} {ls : Array Slot} {rest st : List Value} {g : Ev} {M M' : Mm} {N N' : Ml}
theorem r_slen (hC : Cx g p s m args c cc nL RX9) (hls : ls.size = nL) (hP : wP g M N H) (hS : va_S (wA g) s.heap H locs) {w : Nat} (hw : w < 4) (hR : Rm R 3 cells slots) (hcat : (rest.map fun v => v.category).sum ≤ 8) (hdg : decode cc pc = .ok (.invokevirtual 37, 3))
    (kk : ∀ (H : Heap) (locs : List Loc), wP g M N H → va_S (wA g) s.heap H locs → W p l e R s m args below meth c H locs cells slots Q (F0 m (pc + 3) ls (.int (Int32.ofNat (txLen.getD w 0)) :: rest))) : W p l e R s m args below meth c H locs cells slots Q (F0 m pc ls (.ref (eK g w) :: rest)) :=
  r_goI (r_runVo (As := []) (rest := rest) (C := "java/lang/String") hC hP hS (k_length hC.2.2.2.2.2.2 hw) ⟨q_330, q_329, by decide, by decide, by decide⟩ q_326 q_327 q_328 hR.low.low (vk_recv hC.2.2.2.2.2.1.2.2.2.2.2.1 hw hS) rfl hls rfl hcat hdg) hS kk
theorem r_schr (hC : Cx g p s m args c cc nL RX9) (hls : ls.size = nL) (hP : wP g M N H) (hS : va_S (wA g) s.heap H locs) {w : Nat} (hw : w < 4) {i : Int32} (hi : vp_in i (txLen.getD w 0)) (hR : Rm R 3 cells slots) (hcat : (rest.map fun v => v.category).sum ≤ 8) (hdg : decode cc pc = .ok (.invokevirtual 43, 3))
    (kk : ∀ (H : Heap) (locs : List Loc), wP g M N H → va_S (wA g) s.heap H locs → W p l e R s m args below meth c H locs cells slots Q (F0 m (pc + 3) ls (.int ((txByt.getD w []).getD i.toNatClampNeg 0) :: rest))) : W p l e R s m args below meth c H locs cells slots Q (F0 m pc ls (.int i :: .ref (eK g w) :: rest)) :=
  r_goI (r_runVo (na := 1) (As := [.int i]) (rest := rest) (C := "java/lang/String") hC hP hS (k_charAt hC.2.2.2.2.2.2 hw hi) ⟨q_341, q_329, by decide, by decide, by decide⟩ q_338 q_339 q_340 hR (vk_recv hC.2.2.2.2.2.1.2.2.2.2.2.1 hw hS) rfl hls rfl hcat hdg) hS kk
end RSV
