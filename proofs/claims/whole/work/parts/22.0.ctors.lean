theorem cw_X10_1 : CWd RX10 1 yX3_init cX3_init 1 none 0 := ⟨q_57, q_15, by decide, by decide, by decide⟩
theorem cw_X1_1 : CWd RX1 1 yX3_init cX3_init 1 none 0 := ⟨q_57, q_15, by decide, by decide, by decide⟩
theorem cw_X6_1 : CWd RX6 1 yX3_init cX3_init 1 none 0 := ⟨q_57, q_15, by decide, by decide, by decide⟩
theorem cw_X8_1 : CWd RX8 1 yX10_init cX10_init 1 none 0 := ⟨q_61, q_18, by decide, by decide, by decide⟩
theorem cw_X5_40 : CWd RX5 40 yX5_begin cX5_begin 3 none 1 := ⟨q_100, q_41, by decide, by decide, by decide⟩
theorem cw_X9_19 : CWd RX9 19 yX9_rewind cX9_rewind 1 none 0 := ⟨q_138, q_45, by decide, by decide, by decide⟩
def Ft (L : List Nat) (σ : Shp) (q : Nat) (sh : (ClassId × Nat × Option (Nat → Option Nat)) ⊕ (Nat × List (Nat ⊕ Option Nat))) : Prop := q ∈ L ∧ σ q = sh
theorem Ft.mono {L L' : List Nat} {σ σ' : Shp} {q : Nat} {sh : (ClassId × Nat × Option (Nat → Option Nat)) ⊕ (Nat × List (Nat ⊕ Option Nat))} (h : Ft L σ q sh) (hL : ∀ q ∈ L, q ∈ L') (hs : σ' q = σ q) : Ft L' σ' q sh := ⟨hL q h.1, hs.trans h.2⟩
theorem oAt_mono {g : Ev} {L L' : List Nat} {σ σ' : Shp} {q ci : Nat} {sl : List (Nat ⊕ Option Nat)} (h : oAt (gE g L σ) q ci sl) (hL : ∀ q ∈ L, q ∈ L') (hs : σ' q = σ q) : oAt (gE g L' σ') q ci sl := ⟨hL q h.1, hs.trans h.2⟩
theorem iAt_mono {g : Ev} {L L' : List Nat} {σ σ' : Shp} {q n : Nat} (h : iAt (gE g L σ) q n) (hL : ∀ q ∈ L, q ∈ L') (hs : σ' q = σ q) : iAt (gE g L' σ') q n := ⟨hL q h.1, hs.trans h.2⟩
theorem rAt_mono {g : Ev} {L L' : List Nat} {σ σ' : Shp} {q n : Nat} {cA : ClassId} {f : Nat → Option Nat} (h : rAt (gE g L σ) q cA n f) (hL : ∀ q ∈ L, q ∈ L') (hs : σ' q = σ q) : rAt (gE g L' σ') q cA n f := ⟨hL q h.1, h.2.choose, hs.trans h.2.choose_spec.1, h.2.choose_spec.2⟩
theorem oKinds_mono {g : Ev} {L L' : List Nat} {σ σ' : Shp} {kd : Nat} (h : oKinds (gE g L σ) kd) (hL : ∀ q ∈ L, q ∈ L') (hs : ∀ q, kd ≤ q → q < kd + 6 → σ' q = σ q) : oKinds (gE g L' σ') kd :=
  ⟨rAt_mono h.1 hL (hs _ (by omega) (by omega)), oAt_mono h.2.1 hL (hs _ (by omega) (by omega)), oAt_mono h.2.2.1 hL (hs _ (by omega) (by omega)), oAt_mono h.2.2.2.1 hL (hs _ (by omega) (by omega)), oAt_mono h.2.2.2.2.1 hL (hs _ (by omega) (by omega)), oAt_mono h.2.2.2.2.2 hL (hs _ (by omega) (by omega))⟩
theorem oRing_mono {g : Ev} {L L' : List Nat} {σ σ' : Shp} {kd a : Nat} (h : oRing (gE g L σ) kd a) (hL : ∀ q ∈ L, q ∈ L') (hs : ∀ q, a ≤ q → q < a + 9 → σ' q = σ q) (hk : ∀ q, kd ≤ q → q < kd + 6 → σ' q = σ q) : oRing (gE g L' σ') kd a :=
  ⟨oAt_mono h.1 hL (hs _ (by omega) (by omega)), iAt_mono h.2.1 hL (hs _ (by omega) (by omega)), iAt_mono h.2.2.1 hL (hs _ (by omega) (by omega)), iAt_mono h.2.2.2.1 hL (hs _ (by omega) (by omega)), iAt_mono h.2.2.2.2.1 hL (hs _ (by omega) (by omega)), iAt_mono h.2.2.2.2.2.1 hL (hs _ (by omega) (by omega)), iAt_mono h.2.2.2.2.2.2.1 hL (hs _ (by omega) (by omega)), iAt_mono h.2.2.2.2.2.2.2.1 hL (hs _ (by omega) (by omega)), iAt_mono h.2.2.2.2.2.2.2.2.1 hL (hs _ (by omega) (by omega)), oKinds_mono h.2.2.2.2.2.2.2.2.2 hL hk⟩
theorem oStory_mono {g : Ev} {L L' : List Nat} {σ σ' : Shp} {kd b : Nat} (h : oStory (gE g L σ) kd b) (hL : ∀ q ∈ L, q ∈ L') (hs : ∀ q, b ≤ q → q < b + 65 → σ' q = σ q) (hk : ∀ q, kd ≤ q → q < kd + 6 → σ' q = σ q) : oStory (gE g L' σ') kd b :=
  ⟨oAt_mono h.1 hL (hs _ (by omega) (by omega)), oRing_mono h.2.1 hL (fun q h1 h2 => hs q (by omega) (by omega)) hk, rAt_mono h.2.2.1 hL (hs _ (by omega) (by omega)), fun i hi => oRing_mono (h.2.2.2 i hi) hL (fun q h1 h2 => hs q (by omega) (by omega)) hk⟩
theorem oLump_mono {g : Ev} {L L' : List Nat} {σ σ' : Shp} {a : Nat} (h : oLump (gE g L σ) a) (hL : ∀ q ∈ L, q ∈ L') (hs : σ' a = σ a) : oLump (gE g L' σ') a := oAt_mono h hL hs
theorem oText_mono {g : Ev} {L L' : List Nat} {σ σ' : Shp} {t : Nat} (h : oText (gE g L σ) t) (hL : ∀ q ∈ L, q ∈ L') (hs : ∀ q, t ≤ q → q < t + 2 → σ' q = σ q) : oText (gE g L' σ') t := ⟨oAt_mono h.1 hL (hs _ (by omega) (by omega)), iAt_mono h.2 hL (hs _ (by omega) (by omega))⟩
theorem oCourse_mono {g : Ev} {L L' : List Nat} {σ σ' : Shp} {kd r c : Nat} (h : oCourse (gE g L σ) kd r c) (hL : ∀ q ∈ L, q ∈ L') (hs : ∀ q, c ≤ q → q < c + 16 → σ' q = σ q) (hr : ∀ q, r ≤ q → q < r + 9 → σ' q = σ q) (hk : ∀ q, kd ≤ q → q < kd + 6 → σ' q = σ q) : oCourse (gE g L' σ') kd r c :=
  ⟨oAt_mono h.1 hL (hs _ (by omega) (by omega)), oRing_mono h.2.1 hL hr hk, oRing_mono h.2.2.1 hL (fun q h1 h2 => hs q (by omega) (by omega)) hk, oLump_mono h.2.2.2.1 hL (hs _ (by omega) (by omega)), iAt_mono h.2.2.2.2.1 hL (hs _ (by omega) (by omega)), iAt_mono h.2.2.2.2.2.1 hL (hs _ (by omega) (by omega)), iAt_mono h.2.2.2.2.2.2.1 hL (hs _ (by omega) (by omega)), iAt_mono h.2.2.2.2.2.2.2.1 hL (hs _ (by omega) (by omega)), iAt_mono h.2.2.2.2.2.2.2.2 hL (hs _ (by omega) (by omega))⟩
theorem oReader_mono {g : Ev} {L L' : List Nat} {σ σ' : Shp} {kd t rd : Nat} (h : oReader (gE g L σ) kd t rd) (hL : ∀ q ∈ L, q ∈ L') (hs : ∀ q, rd ≤ q → q < rd + 11 → σ' q = σ q) (ht : ∀ q, t ≤ q → q < t + 2 → σ' q = σ q) (hk : ∀ q, kd ≤ q → q < kd + 6 → σ' q = σ q) : oReader (gE g L' σ') kd t rd :=
  ⟨oAt_mono h.1 hL (hs _ (by omega) (by omega)), oText_mono h.2.1 hL ht, oRing_mono h.2.2.1 hL (fun q h1 h2 => hs q (by omega) (by omega)) hk, iAt_mono h.2.2.2 hL (hs _ (by omega) (by omega))⟩
theorem Wc.name {g : Ev} {z0 : Nat} {L : List Nat} {σ : Shp} {M : Mm} {N : Ml} {H : Heap} (h : Wc g z0 L σ M N H) : ∃ (L1 : List Nat) (σ1 : Shp) (M1 : Mm) (N1 : Ml), Wc g z0 L1 σ1 M1 N1 H ∧ L1 = L ∧ σ1 = σ ∧ M1 = M ∧ N1 = N := ⟨L, σ, M, N, h, rfl, rfl, rfl, rfl⟩
theorem up_out {α : Type} {f : Nat → α} {k : Nat} {v : α} (q : Nat) (h : q < k ∨ k + 1 ≤ q) : va_up f k v q = f q := va_up_ne _ _ (by omega)
theorem hA_snoc {A : Nat → Prop} {L : List Nat} {z : Nat} (h : ∀ q ∈ L, A q) (hz : A z) : ∀ q ∈ L ++ [z], A q := fun q hq => by
  rcases List.mem_append.mp hq with h1 | h1
  · exact h q h1
  · rw [List.mem_singleton] at h1
    rw [h1]
    exact hz
theorem r_app {a n m : Nat} : List.range' a n ++ List.range' (a + n) m = List.range' a (n + m) := by
  rw [List.range'_append_1]
/-- a ring as begin(12) leaves it -/
def rInit (M : Mm) (a : Nat) : Prop := M a 9 = 12 ∧ M a 10 = 0 ∧ M a 11 = 0 ∧ M a 12 = 0 ∧ (∀ j, j < 5 → M (a + 1) j = nI (5 - j)) ∧ (∀ j, j < 5 → M (a + 2) j = 0) ∧ (∀ j, j < 120 → M (a + 3) j = 0) ∧ ∀ j, j < 5 → M (a + 4) j = 0
theorem rInit_beg (M : Mm) (a : Nat) : rInit (begM M a 12) a := by
  refine ⟨?_, ?_, ?_, ?_, fun j hj => ?_, fun j hj => ?_, fun j hj => ?_, fun j hj => ?_⟩ <;> simp [begM] <;> omega
theorem rInit_mono {M M' : Mm} {a : Nat} (h : rInit M a) (hm : ∀ q, a ≤ q → q < a + 9 → M' q = M q) : rInit M' a := by
  have e0 := hm a (by omega) (by omega)
  have e1 := hm (a + 1) (by omega) (by omega)
  have e2 := hm (a + 2) (by omega) (by omega)
  have e3 := hm (a + 3) (by omega) (by omega)
  have e4 := hm (a + 4) (by omega) (by omega)
  unfold rInit at h ⊢
  rw [e0, e1, e2, e3, e4]
  exact h
def sInit (M : Mm) (b : Nat) : Prop := M b 3 = 0 ∧ ∀ i, i < 6 → M (b + 11 + 9 * i) 10 = 0
theorem sInit_mono {M M' : Mm} {b : Nat} (h : sInit M b) (hm : ∀ q, b ≤ q → q < b + 65 → M' q = M q) : sInit M' b := by
  refine ⟨?_, fun i hi => ?_⟩
  · rw [hm b (by omega) (by omega)]; exact h.1
  · rw [hm _ (by omega) (by omega)]; exact h.2 i hi
theorem sInit_of {M : Mm} {b : Nat} (h3 : M b 3 = 0) (r0 : rInit M (b + 11)) (r1 : rInit M (b + 20)) (r2 : rInit M (b + 29)) (r3 : rInit M (b + 38)) (r4 : rInit M (b + 47)) (r5 : rInit M (b + 56)) : sInit M b := by
  refine ⟨h3, fun i hi => ?_⟩
  rcases (show i = 0 ∨ i = 1 ∨ i = 2 ∨ i = 3 ∨ i = 4 ∨ i = 5 by omega) with rfl | rfl | rfl | rfl | rfl | rfl
  · exact r0.2.1
  · exact r1.2.1
  · exact r2.2.1
  · exact r3.2.1
  · exact r4.2.1
  · exact r5.2.1
theorem beg_out (M : Mm) (a : Nat) (p : Int32) (q : Nat) (h : q < a ∨ a + 9 ≤ q) : begM M a p q = M q := by
  funext j
  have h0 : q ≠ a := by omega
  have h1 : q ≠ a + 1 := by omega
  have h2 : q ≠ a + 2 := by omega
  have h3 : q ≠ a + 3 := by omega
  have h4 : q ≠ a + 4 := by omega
  simp [begM, h0, h1, h2, h3, h4]
/-- what a constructor leaves: its cells behind the others, nothing changed outside [lo, hi) -/
def pOut (L : List Nat) (σ : Shp) (M : Mm) (N : Ml) (lo hi z n : Nat) (u : Uu) : Prop := u.1 = L ++ List.range' z n ∧ (∀ q, (q < lo ∨ hi ≤ q) → u.2.1 q = σ q) ∧ (∀ q, (q < lo ∨ hi ≤ q) → u.2.2.1 q = M q) ∧ ∀ q, (q < lo ∨ hi ≤ q) → u.2.2.2 q = N q
theorem snoc_r {L : List Nat} {z n w : Nat} (h : w = z + n) : L ++ List.range' z n ++ [w] = L ++ List.range' z (n + 1) := by
  rw [List.append_assoc, List.range'_1_concat, h]
theorem app_r {L : List Nat} {z n z' n' : Nat} (h : z' = z + n) : L ++ List.range' z n ++ List.range' z' n' = L ++ List.range' z (n + n') := by
  rw [List.append_assoc, h, List.range'_append_1]
theorem hA_app {A : Nat → Prop} {L : List Nat} {z n : Nat} (h : ∀ q ∈ L, A q) (hz : ∀ q, z ≤ q → A q) : ∀ q ∈ L ++ List.range' z n, A q := fun q hq => by
  rcases List.mem_append.mp hq with h1 | h1
  · exact h q h1
  · exact hz q (List.mem_range'_1.mp h1).1
theorem nd_app {L : List Nat} {z n : Nat} (h : L.Nodup) (hz : ∀ q ∈ L, q < z) : (L ++ List.range' z n).Nodup := by
  rw [List.nodup_append]
  refine ⟨h, List.nodup_range', fun a ha b hb e => ?_⟩
  have h1 := hz a ha
  have h2 := (List.mem_range'_1.mp hb).1
  omega
theorem ge_app {L : List Nat} {z n z0 : Nat} (h : ∀ q ∈ L, z0 ≤ q) (hz : z0 ≤ z) : ∀ q ∈ L ++ List.range' z n, z0 ≤ q := fun q hq => by
  rcases List.mem_append.mp hq with h1 | h1
  · exact h q h1
  · have := (List.mem_range'_1.mp h1).1
    omega
theorem rewind_ok (t : Nat) (M : Mm) : f_X9_rewind t M = some (up2 (up2 (up2 M t 2 0) t 3 0) t 4 0) := by
  unfold f_X9_rewind
  rw [bnd_e, bnd_e, bnd_e]
theorem vin_c {i : Int32} {n : Nat} (k : Nat) (h : ckd i n = true) : vp_in i n := ckd_in h
theorem r_of6 {g : Ev} {q : Nat} {cA : ClassId} {f' f : Nat → Option Nat} (h : q ∈ g.2.1 ∧ g.2.2.1 q = .inl (cA, 6, some f')) (h0 : f' 0 = f 0) (h1 : f' 1 = f 1) (h2 : f' 2 = f 2) (h3 : f' 3 = f 3) (h4 : f' 4 = f 4) (h5 : f' 5 = f 5) : rAt g q cA 6 f := ⟨h.1, f', h.2, fun i hi => by
  rcases (show i = 0 ∨ i = 1 ∨ i = 2 ∨ i = 3 ∨ i = 4 ∨ i = 5 by omega) with rfl | rfl | rfl | rfl | rfl | rfl <;> assumption⟩
theorem six_rings {g : Ev} {kd b : Nat} (h0 : oRing g kd (b + 11)) (h1 : oRing g kd (b + 20)) (h2 : oRing g kd (b + 29)) (h3 : oRing g kd (b + 38)) (h4 : oRing g kd (b + 47)) (h5 : oRing g kd (b + 56)) : ∀ i, i < 6 → oRing g kd (b + 11 + 9 * i) := by
  intro i hi
  rcases (show i = 0 ∨ i = 1 ∨ i = 2 ∨ i = 3 ∨ i = 4 ∨ i = 5 by omega) with rfl | rfl | rfl | rfl | rfl | rfl
  · exact h0
  · exact h1
  · exact h2
  · exact h3
  · exact h4
  · exact h5
theorem k_X3_init {g : Ev} {l : Launch} (hg : g.2.1.Nodup) {a : Nat} {M : Mm} {N : Ml} : KM g l yX3_init cX3_init 1 none 1 [.ref a] M N (QV g M N) := by
  refine KM.mk hg (by decide) (Nat.le_of_ble_eq_true rfl) ?_
  intro p e s m below meth c ls hC hr hlk hl hP hS
  have hx := hC.1
  have hb := hC.2.1
  have hl : lv_has ls 1 [(0, .ref a)] := hl
  refine lv_aload_n hx hb dX3_init_0 rfl (lv_at hl 0 rfl) ?_
  refine r_objI hC hl.1 q_58 q_11 q_12 ⟨by decide, by decide⟩ (Nat.le_of_ble_eq_true rfl) dX3_init_1 ?_
  exact e_VM hC hr hlk hP hS dX3_init_4 rfl
theorem k_X2_init {g : Ev} {l : Launch} (hg : g.2.1.Nodup) {a : Nat} {M : Mm} {N : Ml} : KM g l yX2_init cX2_init 1 none 1 [.ref a] M N (QV g M N) := by
  refine KM.mk hg (by decide) (Nat.le_of_ble_eq_true rfl) ?_
  intro p e s m below meth c ls hC hr hlk hl hP hS
  have hx := hC.1
  have hb := hC.2.1
  have hl : lv_has ls 1 [(0, .ref a)] := hl
  refine lv_aload_n hx hb dX2_init_0 rfl (lv_at hl 0 rfl) ?_
  refine r_objI hC hl.1 q_128 q_11 q_12 ⟨by decide, by decide⟩ (Nat.le_of_ble_eq_true rfl) dX2_init_1 ?_
  exact e_VM hC hr hlk hP hS dX2_init_4 rfl
theorem k_X10_init {g : Ev} {l : Launch} (hg : g.2.1.Nodup) {a : Nat} {M : Mm} {N : Ml} : KM g l yX10_init cX10_init 1 none 2 [.ref a] M N (QV g M N) := by
  refine KM.mk hg (by decide) (Nat.le_of_ble_eq_true rfl) ?_
  intro p e s m below meth c ls hC hr hlk hl hP hS
  have hx := hC.1
  have hb := hC.2.1
  have hl : lv_has ls 1 [(0, .ref a)] := hl
  refine lv_aload_n hx hb dX10_init_0 rfl (lv_at hl 0 rfl) ?_
  refine r_goV (r_runI (As := []) (rest := []) hC hP hS (k_X3_init hg) cw_X10_1 q_62 q_56 rfl (Rm.D 1 2 rfl) rfl hl.1 rfl (Nat.le_of_ble_eq_true rfl) dX10_init_1) hS (fun H locs hP hS => ?_)
  exact e_VM hC hr hlk hP hS dX10_init_4 rfl
theorem k_X1_init {g : Ev} {l : Launch} (hg : g.2.1.Nodup) {a : Nat} {M : Mm} {N : Ml} : KM g l yX1_init cX1_init 1 none 2 [.ref a] M N (QV g M N) := by
  refine KM.mk hg (by decide) (Nat.le_of_ble_eq_true rfl) ?_
  intro p e s m below meth c ls hC hr hlk hl hP hS
  have hx := hC.1
  have hb := hC.2.1
  have hl : lv_has ls 1 [(0, .ref a)] := hl
  refine lv_aload_n hx hb dX1_init_0 rfl (lv_at hl 0 rfl) ?_
  refine r_goV (r_runI (As := []) (rest := []) hC hP hS (k_X3_init hg) cw_X1_1 q_66 q_56 rfl (Rm.D 1 2 rfl) rfl hl.1 rfl (Nat.le_of_ble_eq_true rfl) dX1_init_1) hS (fun H locs hP hS => ?_)
  exact e_VM hC hr hlk hP hS dX1_init_4 rfl
theorem k_X6_init {g : Ev} {l : Launch} (hg : g.2.1.Nodup) {a : Nat} {M : Mm} {N : Ml} : KM g l yX6_init cX6_init 1 none 2 [.ref a] M N (QV g M N) := by
  refine KM.mk hg (by decide) (Nat.le_of_ble_eq_true rfl) ?_
  intro p e s m below meth c ls hC hr hlk hl hP hS
  have hx := hC.1
  have hb := hC.2.1
  have hl : lv_has ls 1 [(0, .ref a)] := hl
  refine lv_aload_n hx hb dX6_init_0 rfl (lv_at hl 0 rfl) ?_
  refine r_goV (r_runI (As := []) (rest := []) hC hP hS (k_X3_init hg) cw_X6_1 q_74 q_56 rfl (Rm.D 1 2 rfl) rfl hl.1 rfl (Nat.le_of_ble_eq_true rfl) dX6_init_1) hS (fun H locs hP hS => ?_)
  exact e_VM hC hr hlk hP hS dX6_init_4 rfl
theorem k_X8_init {g : Ev} {l : Launch} (hg : g.2.1.Nodup) {a : Nat} {M : Mm} {N : Ml} : KM g l yX8_init cX8_init 1 none 3 [.ref a] M N (QV g M N) := by
  refine KM.mk hg (by decide) (Nat.le_of_ble_eq_true rfl) ?_
  intro p e s m below meth c ls hC hr hlk hl hP hS
  have hx := hC.1
  have hb := hC.2.1
  have hl : lv_has ls 1 [(0, .ref a)] := hl
  refine lv_aload_n hx hb dX8_init_0 rfl (lv_at hl 0 rfl) ?_
  refine r_goV (r_runI (As := []) (rest := []) hC hP hS (k_X10_init hg) cw_X8_1 q_70 q_60 rfl (Rm.D 2 3 rfl) rfl hl.1 rfl (Nat.le_of_ble_eq_true rfl) dX8_init_1) hS (fun H locs hP hS => ?_)
  exact e_VM hC hr hlk hP hS dX8_init_4 rfl
set_option maxRecDepth 100000 in
set_option maxHeartbeats 4000000 in
theorem kc_X5_init {g : Ev} {l : Launch} {z0 : Nat} {kd a : Nat} {L : List Nat} {σ : Shp} {M : Mm} {N : Ml} (hz0 : z0 ≤ a) (hka : kd + 6 ≤ a) (hKd_kd : oKinds (gE g L σ) kd) (ho_a : Ft L σ (a) (.inr (5, [.inr none, .inr none, .inr none, .inr none, .inr none, .inr none, .inr none, .inr none, .inr none, .inl 0, .inl 0, .inl 0, .inl 0]))) : KC g l yX5_init cX5_init 2 4 8 151 z0 (a + 1) [.ref a, .ref kd] L σ M N (fun u => pOut L σ M N a (a + 9) (a + 1) 8 u ∧ oRing (gE g u.1 u.2.1) kd a ∧ rInit u.2.2.1 a) := by
  refine KC.mk (by decide) (Nat.le_of_ble_eq_true rfl) ?_
  intro p e s m below meth c ls hC hmn hr hlk hl hsz hw hS
  have hx := hC.1
  have hb := hC.2.1
  have hl : lv_has ls 2 [(0, .ref a), (1, .ref kd)] := hl
  have hA : ∀ q ∈ L, cA0 L (a + 1) q := fun q h => Or.inl h
  have hB : ∀ q, q < s.heap.size → cA0 L (a + 1) q → z0 ≤ q := fun q h1 h2 => h2.elim (hw.2.2 q) (fun h => by omega)
  have hLe : L = L ++ List.range' (a + 1) 0 := (List.append_nil L).symm
  have hσo : ∀ q, (q < a ∨ a + 9 ≤ q) → σ q = σ q := fun _ _ => rfl
  have hMo : ∀ q, (q < a ∨ a + 9 ≤ q) → M q = M q := fun _ _ => rfl
  have hNo : ∀ q, (q < a ∨ a + 9 ≤ q) → N q = N q := fun _ _ => rfl
  refine lv_aload_n hx hb dX5_init_0 rfl (lv_at hl 0 rfl) ?_
  refine n_objI hC hl.1 q_87 q_11 q_12 ⟨by decide, by decide⟩ (Nat.le_of_ble_eq_true rfl) dX5_init_1 ?_
  refine lv_aload_n hx hb dX5_init_4 rfl (lv_at hl 0 rfl) ?_
  refine lv_aload_n hx hb dX5_init_5 rfl (lv_at hl 1 rfl) ?_
  refine n_putR hC hmn hw hS hA ho_a.1 ho_a.2 fl_X5_9 tyX5 tyX5_ok nmX5 rfl rfl rfl rfl rfl dX5_init_6 (fun H locs hw1 hS1 => ?_)
  clear hw hS
  have hwk := hw1.name
  clear hw1
  obtain ⟨L1, σ1, M1, N1, hw1, eL, eσ, eM, eN⟩ := hwk
  have hLn : ∀ q ∈ L, q ∈ L1 := fun q h => by rw [eL]; exact h
  have hsn : ∀ q, (q < a ∨ a + 1 ≤ q) → σ1 q = σ q := fun q h => by rw [eσ]; exact up_out q h
  have hmn : ∀ q, (q < 0 ∨ 0 ≤ q) → M1 q = M q := fun q h => by rw [eM]
  have hnn : ∀ q, (q < 0 ∨ 0 ≤ q) → N1 q = N q := fun q h => by rw [eN]
  replace hA : ∀ q ∈ L1, cA0 L (a + 1) q := by rw [eL]; exact hA
  replace hLe : L1 = L ++ List.range' (a + 1) 0 := eL.trans hLe
  have mem_o := ho_a.1
  clear ho_a
  replace hKd_kd : oKinds (gE g L1 σ1) kd := oKinds_mono hKd_kd hLn (fun q h1 h2 => hsn q (by omega))
  replace hσo : ∀ q, (q < a ∨ a + 9 ≤ q) → σ1 q = σ q := fun q h => (hsn q (by omega)).trans (hσo q h)
  replace hMo : ∀ q, (q < a ∨ a + 9 ≤ q) → M1 q = M q := fun q h => (hmn q (by omega)).trans (hMo q h)
  replace hNo : ∀ q, (q < a ∨ a + 9 ≤ q) → N1 q = N q := fun q h => (hnn q (by omega)).trans (hNo q h)
  clear hLn hsn hmn hnn
  have ho_a : Ft L1 σ1 (a) (.inr (5, [.inr (some (kd)), .inr none, .inr none, .inr none, .inr none, .inr none, .inr none, .inr none, .inr none, .inl 0, .inl 0, .inl 0, .inl 0])) := ⟨by rw [eL]; exact mem_o, by rw [eσ]; exact va_up_self _ _ _⟩
  clear mem_o eL eσ eM eN
  refine lv_aload_n hx hb dX5_init_9 rfl (lv_at hl 0 rfl) ?_
  refine lv_iconst (v := (5 : Int32)) hx hb dX5_init_10 (by decide) ?_
  refine W_end (fun hze => ?_)
  have hz := n_hz hw1 ho_a.1 hze (by omega)
  clear hze
  refine n_newa hC hw1 hS1 hz (by omega) (k := 5) (by decide) (by decide) (by decide) (by show _ ≤ (8 : Nat); omega) (by show _ ≤ (151 : Nat); omega) q_51 dX5_init_11 (fun H hw2 hzf hS2 => ?_)
  clear hw1 hS1
  clear hzf hz
  refine W.widen (k := 1) (n := 5) (by omega) (by omega) ?_
  have hwk := hw2.name
  clear hw2
  obtain ⟨L2, σ2, M2, N2, hw2, eL, eσ, eM, eN⟩ := hwk
  have hLn : ∀ q ∈ L1, q ∈ L2 := fun q h => by rw [eL]; exact List.mem_append_left _ h
  have hsn : ∀ q, (q < a + 1 ∨ a + 1 + 1 ≤ q) → σ2 q = σ1 q := fun q h => by rw [eσ]; exact up_out q h
  have hmn : ∀ q, (q < a + 1 ∨ a + 1 + 1 ≤ q) → M2 q = M1 q := fun q h => by rw [eM]; exact up_out q h
  have hnn : ∀ q, (q < a + 1 ∨ a + 1 + 1 ≤ q) → N2 q = N1 q := fun q h => by rw [eN]
  replace hA : ∀ q ∈ L2, cA0 L (a + 1) q := by rw [eL]; exact hA_snoc hA (Or.inr (by omega))
  replace hLe : L2 = L ++ List.range' (a + 1) 1 := by rw [eL]; exact (congrArg (fun t => t ++ _) hLe).trans (snoc_r (by omega))
  replace hKd_kd : oKinds (gE g L2 σ2) kd := oKinds_mono hKd_kd hLn (fun q h1 h2 => hsn q (by omega))
  replace ho_a : Ft L2 σ2 (a) (.inr (5, [.inr (some (kd)), .inr none, .inr none, .inr none, .inr none, .inr none, .inr none, .inr none, .inr none, .inl 0, .inl 0, .inl 0, .inl 0])) := Ft.mono ho_a hLn (hsn _ (by omega))
  replace hσo : ∀ q, (q < a ∨ a + 9 ≤ q) → σ2 q = σ q := fun q h => (hsn q (by omega)).trans (hσo q h)
  replace hMo : ∀ q, (q < a ∨ a + 9 ≤ q) → M2 q = M q := fun q h => (hmn q (by omega)).trans (hMo q h)
  replace hNo : ∀ q, (q < a ∨ a + 9 ≤ q) → N2 q = N q := fun q h => (hnn q (by omega)).trans (hNo q h)
  clear hLn hsn hmn hnn
  have hi_a_1 : Ft L2 σ2 (a + 1) (.inl (eI g, 5, none)) := ⟨by rw [eL]; simp, by rw [eσ]; exact va_up_self _ _ _⟩
  have mzz_a_1 : ∀ j, M2 (a + 1) j = 0 := fun j => by rw [eM, va_up_self]
  clear eL eσ eM eN
  refine n_putR hC hmn hw2 hS2 hA ho_a.1 ho_a.2 fl_X5_15 tyX5 tyX5_ok nmX5 rfl rfl rfl rfl rfl dX5_init_13 (fun H locs hw3 hS3 => ?_)
  clear hw2 hS2
  have hwk := hw3.name
  clear hw3
  obtain ⟨L3, σ3, M3, N3, hw3, eL, eσ, eM, eN⟩ := hwk
  have hLn : ∀ q ∈ L2, q ∈ L3 := fun q h => by rw [eL]; exact h
  have hsn : ∀ q, (q < a ∨ a + 1 ≤ q) → σ3 q = σ2 q := fun q h => by rw [eσ]; exact up_out q h
  have hmn : ∀ q, (q < 0 ∨ 0 ≤ q) → M3 q = M2 q := fun q h => by rw [eM]
  have hnn : ∀ q, (q < 0 ∨ 0 ≤ q) → N3 q = N2 q := fun q h => by rw [eN]
  replace hA : ∀ q ∈ L3, cA0 L (a + 1) q := by rw [eL]; exact hA
  replace hLe : L3 = L ++ List.range' (a + 1) 1 := eL.trans hLe
  have mem_o := ho_a.1
  clear ho_a
  replace hKd_kd : oKinds (gE g L3 σ3) kd := oKinds_mono hKd_kd hLn (fun q h1 h2 => hsn q (by omega))
  replace hi_a_1 : Ft L3 σ3 (a + 1) (.inl (eI g, 5, none)) := Ft.mono hi_a_1 hLn (hsn _ (by omega))
  replace mzz_a_1 : ∀ j, M3 (a + 1) j = 0 := by rw [hmn _ (by omega)]; exact mzz_a_1
  replace hσo : ∀ q, (q < a ∨ a + 9 ≤ q) → σ3 q = σ q := fun q h => (hsn q (by omega)).trans (hσo q h)
  replace hMo : ∀ q, (q < a ∨ a + 9 ≤ q) → M3 q = M q := fun q h => (hmn q (by omega)).trans (hMo q h)
  replace hNo : ∀ q, (q < a ∨ a + 9 ≤ q) → N3 q = N q := fun q h => (hnn q (by omega)).trans (hNo q h)
  clear hLn hsn hmn hnn
  have ho_a : Ft L3 σ3 (a) (.inr (5, [.inr (some (kd)), .inr (some (a + 1)), .inr none, .inr none, .inr none, .inr none, .inr none, .inr none, .inr none, .inl 0, .inl 0, .inl 0, .inl 0])) := ⟨by rw [eL]; exact mem_o, by rw [eσ]; exact va_up_self _ _ _⟩
  clear mem_o eL eσ eM eN
  refine lv_aload_n hx hb dX5_init_16 rfl (lv_at hl 0 rfl) ?_
  refine lv_iconst (v := (5 : Int32)) hx hb dX5_init_17 (by decide) ?_
  refine W_end (fun hze => ?_)
  have hz := n_hz hw3 hi_a_1.1 hze (by omega)
  clear hze
  refine n_newa hC hw3 hS3 hz (by omega) (k := 5) (by decide) (by decide) (by decide) (by show _ ≤ (8 : Nat); omega) (by show _ ≤ (151 : Nat); omega) q_51 dX5_init_18 (fun H hw4 hzf hS4 => ?_)
  clear hw3 hS3
  clear hzf hz
  refine W.widen (k := 2) (n := 10) (by omega) (by omega) ?_
  have hwk := hw4.name
  clear hw4
  obtain ⟨L4, σ4, M4, N4, hw4, eL, eσ, eM, eN⟩ := hwk
  have hLn : ∀ q ∈ L3, q ∈ L4 := fun q h => by rw [eL]; exact List.mem_append_left _ h
  have hsn : ∀ q, (q < a + 2 ∨ a + 2 + 1 ≤ q) → σ4 q = σ3 q := fun q h => by rw [eσ]; exact up_out q h
  have hmn : ∀ q, (q < a + 2 ∨ a + 2 + 1 ≤ q) → M4 q = M3 q := fun q h => by rw [eM]; exact up_out q h
  have hnn : ∀ q, (q < a + 2 ∨ a + 2 + 1 ≤ q) → N4 q = N3 q := fun q h => by rw [eN]
  replace hA : ∀ q ∈ L4, cA0 L (a + 1) q := by rw [eL]; exact hA_snoc hA (Or.inr (by omega))
  replace hLe : L4 = L ++ List.range' (a + 1) 2 := by rw [eL]; exact (congrArg (fun t => t ++ _) hLe).trans (snoc_r (by omega))
  replace hKd_kd : oKinds (gE g L4 σ4) kd := oKinds_mono hKd_kd hLn (fun q h1 h2 => hsn q (by omega))
  replace hi_a_1 : Ft L4 σ4 (a + 1) (.inl (eI g, 5, none)) := Ft.mono hi_a_1 hLn (hsn _ (by omega))
  replace ho_a : Ft L4 σ4 (a) (.inr (5, [.inr (some (kd)), .inr (some (a + 1)), .inr none, .inr none, .inr none, .inr none, .inr none, .inr none, .inr none, .inl 0, .inl 0, .inl 0, .inl 0])) := Ft.mono ho_a hLn (hsn _ (by omega))
  replace mzz_a_1 : ∀ j, M4 (a + 1) j = 0 := by rw [hmn _ (by omega)]; exact mzz_a_1
  replace hσo : ∀ q, (q < a ∨ a + 9 ≤ q) → σ4 q = σ q := fun q h => (hsn q (by omega)).trans (hσo q h)
  replace hMo : ∀ q, (q < a ∨ a + 9 ≤ q) → M4 q = M q := fun q h => (hmn q (by omega)).trans (hMo q h)
  replace hNo : ∀ q, (q < a ∨ a + 9 ≤ q) → N4 q = N q := fun q h => (hnn q (by omega)).trans (hNo q h)
  clear hLn hsn hmn hnn
  have hi_a_2 : Ft L4 σ4 (a + 2) (.inl (eI g, 5, none)) := ⟨by rw [eL]; simp, by rw [eσ]; exact va_up_self _ _ _⟩
  have mzz_a_2 : ∀ j, M4 (a + 2) j = 0 := fun j => by rw [eM, va_up_self]
  clear eL eσ eM eN
  refine n_putR hC hmn hw4 hS4 hA ho_a.1 ho_a.2 fl_X5_19 tyX5 tyX5_ok nmX5 rfl rfl rfl rfl rfl dX5_init_20 (fun H locs hw5 hS5 => ?_)
  clear hw4 hS4
  have hwk := hw5.name
  clear hw5
  obtain ⟨L5, σ5, M5, N5, hw5, eL, eσ, eM, eN⟩ := hwk
  have hLn : ∀ q ∈ L4, q ∈ L5 := fun q h => by rw [eL]; exact h
  have hsn : ∀ q, (q < a ∨ a + 1 ≤ q) → σ5 q = σ4 q := fun q h => by rw [eσ]; exact up_out q h
  have hmn : ∀ q, (q < 0 ∨ 0 ≤ q) → M5 q = M4 q := fun q h => by rw [eM]
  have hnn : ∀ q, (q < 0 ∨ 0 ≤ q) → N5 q = N4 q := fun q h => by rw [eN]
  replace hA : ∀ q ∈ L5, cA0 L (a + 1) q := by rw [eL]; exact hA
  replace hLe : L5 = L ++ List.range' (a + 1) 2 := eL.trans hLe
  have mem_o := ho_a.1
  clear ho_a
  replace hKd_kd : oKinds (gE g L5 σ5) kd := oKinds_mono hKd_kd hLn (fun q h1 h2 => hsn q (by omega))
  replace hi_a_1 : Ft L5 σ5 (a + 1) (.inl (eI g, 5, none)) := Ft.mono hi_a_1 hLn (hsn _ (by omega))
  replace hi_a_2 : Ft L5 σ5 (a + 2) (.inl (eI g, 5, none)) := Ft.mono hi_a_2 hLn (hsn _ (by omega))
  replace mzz_a_1 : ∀ j, M5 (a + 1) j = 0 := by rw [hmn _ (by omega)]; exact mzz_a_1
  replace mzz_a_2 : ∀ j, M5 (a + 2) j = 0 := by rw [hmn _ (by omega)]; exact mzz_a_2
  replace hσo : ∀ q, (q < a ∨ a + 9 ≤ q) → σ5 q = σ q := fun q h => (hsn q (by omega)).trans (hσo q h)
  replace hMo : ∀ q, (q < a ∨ a + 9 ≤ q) → M5 q = M q := fun q h => (hmn q (by omega)).trans (hMo q h)
  replace hNo : ∀ q, (q < a ∨ a + 9 ≤ q) → N5 q = N q := fun q h => (hnn q (by omega)).trans (hNo q h)
  clear hLn hsn hmn hnn
  have ho_a : Ft L5 σ5 (a) (.inr (5, [.inr (some (kd)), .inr (some (a + 1)), .inr (some (a + 2)), .inr none, .inr none, .inr none, .inr none, .inr none, .inr none, .inl 0, .inl 0, .inl 0, .inl 0])) := ⟨by rw [eL]; exact mem_o, by rw [eσ]; exact va_up_self _ _ _⟩
  clear mem_o eL eσ eM eN
  refine lv_aload_n hx hb dX5_init_23 rfl (lv_at hl 0 rfl) ?_
  refine lv_bipush (v := (120 : Int32)) hx hb dX5_init_24 (by decide) ?_
  refine W_end (fun hze => ?_)
  have hz := n_hz hw5 hi_a_2.1 hze (by omega)
  clear hze
  refine n_newa hC hw5 hS5 hz (by omega) (k := 120) (by decide) (by decide) (by decide) (by show _ ≤ (8 : Nat); omega) (by show _ ≤ (151 : Nat); omega) q_51 dX5_init_26 (fun H hw6 hzf hS6 => ?_)
  clear hw5 hS5
  clear hzf hz
  refine W.widen (k := 3) (n := 130) (by omega) (by omega) ?_
  have hwk := hw6.name
  clear hw6
  obtain ⟨L6, σ6, M6, N6, hw6, eL, eσ, eM, eN⟩ := hwk
  have hLn : ∀ q ∈ L5, q ∈ L6 := fun q h => by rw [eL]; exact List.mem_append_left _ h
  have hsn : ∀ q, (q < a + 3 ∨ a + 3 + 1 ≤ q) → σ6 q = σ5 q := fun q h => by rw [eσ]; exact up_out q h
  have hmn : ∀ q, (q < a + 3 ∨ a + 3 + 1 ≤ q) → M6 q = M5 q := fun q h => by rw [eM]; exact up_out q h
  have hnn : ∀ q, (q < a + 3 ∨ a + 3 + 1 ≤ q) → N6 q = N5 q := fun q h => by rw [eN]
  replace hA : ∀ q ∈ L6, cA0 L (a + 1) q := by rw [eL]; exact hA_snoc hA (Or.inr (by omega))
  replace hLe : L6 = L ++ List.range' (a + 1) 3 := by rw [eL]; exact (congrArg (fun t => t ++ _) hLe).trans (snoc_r (by omega))
  replace hKd_kd : oKinds (gE g L6 σ6) kd := oKinds_mono hKd_kd hLn (fun q h1 h2 => hsn q (by omega))
  replace hi_a_1 : Ft L6 σ6 (a + 1) (.inl (eI g, 5, none)) := Ft.mono hi_a_1 hLn (hsn _ (by omega))
  replace hi_a_2 : Ft L6 σ6 (a + 2) (.inl (eI g, 5, none)) := Ft.mono hi_a_2 hLn (hsn _ (by omega))
  replace ho_a : Ft L6 σ6 (a) (.inr (5, [.inr (some (kd)), .inr (some (a + 1)), .inr (some (a + 2)), .inr none, .inr none, .inr none, .inr none, .inr none, .inr none, .inl 0, .inl 0, .inl 0, .inl 0])) := Ft.mono ho_a hLn (hsn _ (by omega))
  replace mzz_a_1 : ∀ j, M6 (a + 1) j = 0 := by rw [hmn _ (by omega)]; exact mzz_a_1
  replace mzz_a_2 : ∀ j, M6 (a + 2) j = 0 := by rw [hmn _ (by omega)]; exact mzz_a_2
  replace hσo : ∀ q, (q < a ∨ a + 9 ≤ q) → σ6 q = σ q := fun q h => (hsn q (by omega)).trans (hσo q h)
  replace hMo : ∀ q, (q < a ∨ a + 9 ≤ q) → M6 q = M q := fun q h => (hmn q (by omega)).trans (hMo q h)
  replace hNo : ∀ q, (q < a ∨ a + 9 ≤ q) → N6 q = N q := fun q h => (hnn q (by omega)).trans (hNo q h)
  clear hLn hsn hmn hnn
  have hi_a_3 : Ft L6 σ6 (a + 3) (.inl (eI g, 120, none)) := ⟨by rw [eL]; simp, by rw [eσ]; exact va_up_self _ _ _⟩
  have mzz_a_3 : ∀ j, M6 (a + 3) j = 0 := fun j => by rw [eM, va_up_self]
  clear eL eσ eM eN
  refine n_putR hC hmn hw6 hS6 hA ho_a.1 ho_a.2 fl_X5_22 tyX5 tyX5_ok nmX5 rfl rfl rfl rfl rfl dX5_init_28 (fun H locs hw7 hS7 => ?_)
  clear hw6 hS6
  have hwk := hw7.name
  clear hw7
  obtain ⟨L7, σ7, M7, N7, hw7, eL, eσ, eM, eN⟩ := hwk
  have hLn : ∀ q ∈ L6, q ∈ L7 := fun q h => by rw [eL]; exact h
  have hsn : ∀ q, (q < a ∨ a + 1 ≤ q) → σ7 q = σ6 q := fun q h => by rw [eσ]; exact up_out q h
  have hmn : ∀ q, (q < 0 ∨ 0 ≤ q) → M7 q = M6 q := fun q h => by rw [eM]
  have hnn : ∀ q, (q < 0 ∨ 0 ≤ q) → N7 q = N6 q := fun q h => by rw [eN]
  replace hA : ∀ q ∈ L7, cA0 L (a + 1) q := by rw [eL]; exact hA
  replace hLe : L7 = L ++ List.range' (a + 1) 3 := eL.trans hLe
  have mem_o := ho_a.1
  clear ho_a
  replace hKd_kd : oKinds (gE g L7 σ7) kd := oKinds_mono hKd_kd hLn (fun q h1 h2 => hsn q (by omega))
  replace hi_a_1 : Ft L7 σ7 (a + 1) (.inl (eI g, 5, none)) := Ft.mono hi_a_1 hLn (hsn _ (by omega))
  replace hi_a_2 : Ft L7 σ7 (a + 2) (.inl (eI g, 5, none)) := Ft.mono hi_a_2 hLn (hsn _ (by omega))
  replace hi_a_3 : Ft L7 σ7 (a + 3) (.inl (eI g, 120, none)) := Ft.mono hi_a_3 hLn (hsn _ (by omega))
  replace mzz_a_1 : ∀ j, M7 (a + 1) j = 0 := by rw [hmn _ (by omega)]; exact mzz_a_1
  replace mzz_a_2 : ∀ j, M7 (a + 2) j = 0 := by rw [hmn _ (by omega)]; exact mzz_a_2
  replace mzz_a_3 : ∀ j, M7 (a + 3) j = 0 := by rw [hmn _ (by omega)]; exact mzz_a_3
  replace hσo : ∀ q, (q < a ∨ a + 9 ≤ q) → σ7 q = σ q := fun q h => (hsn q (by omega)).trans (hσo q h)
  replace hMo : ∀ q, (q < a ∨ a + 9 ≤ q) → M7 q = M q := fun q h => (hmn q (by omega)).trans (hMo q h)
  replace hNo : ∀ q, (q < a ∨ a + 9 ≤ q) → N7 q = N q := fun q h => (hnn q (by omega)).trans (hNo q h)
  clear hLn hsn hmn hnn
  have ho_a : Ft L7 σ7 (a) (.inr (5, [.inr (some (kd)), .inr (some (a + 1)), .inr (some (a + 2)), .inr (some (a + 3)), .inr none, .inr none, .inr none, .inr none, .inr none, .inl 0, .inl 0, .inl 0, .inl 0])) := ⟨by rw [eL]; exact mem_o, by rw [eσ]; exact va_up_self _ _ _⟩
  clear mem_o eL eσ eM eN
  refine lv_aload_n hx hb dX5_init_31 rfl (lv_at hl 0 rfl) ?_
  refine lv_iconst (v := (5 : Int32)) hx hb dX5_init_32 (by decide) ?_
  refine W_end (fun hze => ?_)
  have hz := n_hz hw7 hi_a_3.1 hze (by omega)
  clear hze
  refine n_newa hC hw7 hS7 hz (by omega) (k := 5) (by decide) (by decide) (by decide) (by show _ ≤ (8 : Nat); omega) (by show _ ≤ (151 : Nat); omega) q_51 dX5_init_33 (fun H hw8 hzf hS8 => ?_)
  clear hw7 hS7
  clear hzf hz
  refine W.widen (k := 4) (n := 135) (by omega) (by omega) ?_
  have hwk := hw8.name
  clear hw8
  obtain ⟨L8, σ8, M8, N8, hw8, eL, eσ, eM, eN⟩ := hwk
  have hLn : ∀ q ∈ L7, q ∈ L8 := fun q h => by rw [eL]; exact List.mem_append_left _ h
  have hsn : ∀ q, (q < a + 4 ∨ a + 4 + 1 ≤ q) → σ8 q = σ7 q := fun q h => by rw [eσ]; exact up_out q h
  have hmn : ∀ q, (q < a + 4 ∨ a + 4 + 1 ≤ q) → M8 q = M7 q := fun q h => by rw [eM]; exact up_out q h
  have hnn : ∀ q, (q < a + 4 ∨ a + 4 + 1 ≤ q) → N8 q = N7 q := fun q h => by rw [eN]
  replace hA : ∀ q ∈ L8, cA0 L (a + 1) q := by rw [eL]; exact hA_snoc hA (Or.inr (by omega))
  replace hLe : L8 = L ++ List.range' (a + 1) 4 := by rw [eL]; exact (congrArg (fun t => t ++ _) hLe).trans (snoc_r (by omega))
  replace hKd_kd : oKinds (gE g L8 σ8) kd := oKinds_mono hKd_kd hLn (fun q h1 h2 => hsn q (by omega))
  replace hi_a_1 : Ft L8 σ8 (a + 1) (.inl (eI g, 5, none)) := Ft.mono hi_a_1 hLn (hsn _ (by omega))
  replace hi_a_2 : Ft L8 σ8 (a + 2) (.inl (eI g, 5, none)) := Ft.mono hi_a_2 hLn (hsn _ (by omega))
  replace hi_a_3 : Ft L8 σ8 (a + 3) (.inl (eI g, 120, none)) := Ft.mono hi_a_3 hLn (hsn _ (by omega))
  replace ho_a : Ft L8 σ8 (a) (.inr (5, [.inr (some (kd)), .inr (some (a + 1)), .inr (some (a + 2)), .inr (some (a + 3)), .inr none, .inr none, .inr none, .inr none, .inr none, .inl 0, .inl 0, .inl 0, .inl 0])) := Ft.mono ho_a hLn (hsn _ (by omega))
  replace mzz_a_1 : ∀ j, M8 (a + 1) j = 0 := by rw [hmn _ (by omega)]; exact mzz_a_1
  replace mzz_a_2 : ∀ j, M8 (a + 2) j = 0 := by rw [hmn _ (by omega)]; exact mzz_a_2
  replace mzz_a_3 : ∀ j, M8 (a + 3) j = 0 := by rw [hmn _ (by omega)]; exact mzz_a_3
  replace hσo : ∀ q, (q < a ∨ a + 9 ≤ q) → σ8 q = σ q := fun q h => (hsn q (by omega)).trans (hσo q h)
  replace hMo : ∀ q, (q < a ∨ a + 9 ≤ q) → M8 q = M q := fun q h => (hmn q (by omega)).trans (hMo q h)
  replace hNo : ∀ q, (q < a ∨ a + 9 ≤ q) → N8 q = N q := fun q h => (hnn q (by omega)).trans (hNo q h)
  clear hLn hsn hmn hnn
  have hi_a_4 : Ft L8 σ8 (a + 4) (.inl (eI g, 5, none)) := ⟨by rw [eL]; simp, by rw [eσ]; exact va_up_self _ _ _⟩
  have mzz_a_4 : ∀ j, M8 (a + 4) j = 0 := fun j => by rw [eM, va_up_self]
  clear eL eσ eM eN
  refine n_putR hC hmn hw8 hS8 hA ho_a.1 ho_a.2 fl_X5_25 tyX5 tyX5_ok nmX5 rfl rfl rfl rfl rfl dX5_init_35 (fun H locs hw9 hS9 => ?_)
  clear hw8 hS8
  have hwk := hw9.name
  clear hw9
  obtain ⟨L9, σ9, M9, N9, hw9, eL, eσ, eM, eN⟩ := hwk
  have hLn : ∀ q ∈ L8, q ∈ L9 := fun q h => by rw [eL]; exact h
  have hsn : ∀ q, (q < a ∨ a + 1 ≤ q) → σ9 q = σ8 q := fun q h => by rw [eσ]; exact up_out q h
  have hmn : ∀ q, (q < 0 ∨ 0 ≤ q) → M9 q = M8 q := fun q h => by rw [eM]
  have hnn : ∀ q, (q < 0 ∨ 0 ≤ q) → N9 q = N8 q := fun q h => by rw [eN]
  replace hA : ∀ q ∈ L9, cA0 L (a + 1) q := by rw [eL]; exact hA
  replace hLe : L9 = L ++ List.range' (a + 1) 4 := eL.trans hLe
  have mem_o := ho_a.1
  clear ho_a
  replace hKd_kd : oKinds (gE g L9 σ9) kd := oKinds_mono hKd_kd hLn (fun q h1 h2 => hsn q (by omega))
  replace hi_a_1 : Ft L9 σ9 (a + 1) (.inl (eI g, 5, none)) := Ft.mono hi_a_1 hLn (hsn _ (by omega))
  replace hi_a_2 : Ft L9 σ9 (a + 2) (.inl (eI g, 5, none)) := Ft.mono hi_a_2 hLn (hsn _ (by omega))
  replace hi_a_3 : Ft L9 σ9 (a + 3) (.inl (eI g, 120, none)) := Ft.mono hi_a_3 hLn (hsn _ (by omega))
  replace hi_a_4 : Ft L9 σ9 (a + 4) (.inl (eI g, 5, none)) := Ft.mono hi_a_4 hLn (hsn _ (by omega))
  replace mzz_a_1 : ∀ j, M9 (a + 1) j = 0 := by rw [hmn _ (by omega)]; exact mzz_a_1
  replace mzz_a_2 : ∀ j, M9 (a + 2) j = 0 := by rw [hmn _ (by omega)]; exact mzz_a_2
  replace mzz_a_3 : ∀ j, M9 (a + 3) j = 0 := by rw [hmn _ (by omega)]; exact mzz_a_3
  replace mzz_a_4 : ∀ j, M9 (a + 4) j = 0 := by rw [hmn _ (by omega)]; exact mzz_a_4
  replace hσo : ∀ q, (q < a ∨ a + 9 ≤ q) → σ9 q = σ q := fun q h => (hsn q (by omega)).trans (hσo q h)
  replace hMo : ∀ q, (q < a ∨ a + 9 ≤ q) → M9 q = M q := fun q h => (hmn q (by omega)).trans (hMo q h)
  replace hNo : ∀ q, (q < a ∨ a + 9 ≤ q) → N9 q = N q := fun q h => (hnn q (by omega)).trans (hNo q h)
  clear hLn hsn hmn hnn
  have ho_a : Ft L9 σ9 (a) (.inr (5, [.inr (some (kd)), .inr (some (a + 1)), .inr (some (a + 2)), .inr (some (a + 3)), .inr (some (a + 4)), .inr none, .inr none, .inr none, .inr none, .inl 0, .inl 0, .inl 0, .inl 0])) := ⟨by rw [eL]; exact mem_o, by rw [eσ]; exact va_up_self _ _ _⟩
  clear mem_o eL eσ eM eN
  refine lv_aload_n hx hb dX5_init_38 rfl (lv_at hl 0 rfl) ?_
  refine lv_iconst (v := (4 : Int32)) hx hb dX5_init_39 (by decide) ?_
  refine W_end (fun hze => ?_)
  have hz := n_hz hw9 hi_a_4.1 hze (by omega)
  clear hze
  refine n_newa hC hw9 hS9 hz (by omega) (k := 4) (by decide) (by decide) (by decide) (by show _ ≤ (8 : Nat); omega) (by show _ ≤ (151 : Nat); omega) q_51 dX5_init_40 (fun H hw10 hzf hS10 => ?_)
  clear hw9 hS9
  clear hzf hz
  refine W.widen (k := 5) (n := 139) (by omega) (by omega) ?_
  have hwk := hw10.name
  clear hw10
  obtain ⟨L10, σ10, M10, N10, hw10, eL, eσ, eM, eN⟩ := hwk
  have hLn : ∀ q ∈ L9, q ∈ L10 := fun q h => by rw [eL]; exact List.mem_append_left _ h
  have hsn : ∀ q, (q < a + 5 ∨ a + 5 + 1 ≤ q) → σ10 q = σ9 q := fun q h => by rw [eσ]; exact up_out q h
  have hmn : ∀ q, (q < a + 5 ∨ a + 5 + 1 ≤ q) → M10 q = M9 q := fun q h => by rw [eM]; exact up_out q h
  have hnn : ∀ q, (q < a + 5 ∨ a + 5 + 1 ≤ q) → N10 q = N9 q := fun q h => by rw [eN]
  replace hA : ∀ q ∈ L10, cA0 L (a + 1) q := by rw [eL]; exact hA_snoc hA (Or.inr (by omega))
  replace hLe : L10 = L ++ List.range' (a + 1) 5 := by rw [eL]; exact (congrArg (fun t => t ++ _) hLe).trans (snoc_r (by omega))
  replace hKd_kd : oKinds (gE g L10 σ10) kd := oKinds_mono hKd_kd hLn (fun q h1 h2 => hsn q (by omega))
  replace hi_a_1 : Ft L10 σ10 (a + 1) (.inl (eI g, 5, none)) := Ft.mono hi_a_1 hLn (hsn _ (by omega))
  replace hi_a_2 : Ft L10 σ10 (a + 2) (.inl (eI g, 5, none)) := Ft.mono hi_a_2 hLn (hsn _ (by omega))
  replace hi_a_3 : Ft L10 σ10 (a + 3) (.inl (eI g, 120, none)) := Ft.mono hi_a_3 hLn (hsn _ (by omega))
  replace hi_a_4 : Ft L10 σ10 (a + 4) (.inl (eI g, 5, none)) := Ft.mono hi_a_4 hLn (hsn _ (by omega))
  replace ho_a : Ft L10 σ10 (a) (.inr (5, [.inr (some (kd)), .inr (some (a + 1)), .inr (some (a + 2)), .inr (some (a + 3)), .inr (some (a + 4)), .inr none, .inr none, .inr none, .inr none, .inl 0, .inl 0, .inl 0, .inl 0])) := Ft.mono ho_a hLn (hsn _ (by omega))
  replace mzz_a_1 : ∀ j, M10 (a + 1) j = 0 := by rw [hmn _ (by omega)]; exact mzz_a_1
  replace mzz_a_2 : ∀ j, M10 (a + 2) j = 0 := by rw [hmn _ (by omega)]; exact mzz_a_2
  replace mzz_a_3 : ∀ j, M10 (a + 3) j = 0 := by rw [hmn _ (by omega)]; exact mzz_a_3
  replace mzz_a_4 : ∀ j, M10 (a + 4) j = 0 := by rw [hmn _ (by omega)]; exact mzz_a_4
  replace hσo : ∀ q, (q < a ∨ a + 9 ≤ q) → σ10 q = σ q := fun q h => (hsn q (by omega)).trans (hσo q h)
  replace hMo : ∀ q, (q < a ∨ a + 9 ≤ q) → M10 q = M q := fun q h => (hmn q (by omega)).trans (hMo q h)
  replace hNo : ∀ q, (q < a ∨ a + 9 ≤ q) → N10 q = N q := fun q h => (hnn q (by omega)).trans (hNo q h)
  clear hLn hsn hmn hnn
  have hi_a_5 : Ft L10 σ10 (a + 5) (.inl (eI g, 4, none)) := ⟨by rw [eL]; simp, by rw [eσ]; exact va_up_self _ _ _⟩
  have mzz_a_5 : ∀ j, M10 (a + 5) j = 0 := fun j => by rw [eM, va_up_self]
  clear eL eσ eM eN
  refine n_putR hC hmn hw10 hS10 hA ho_a.1 ho_a.2 fl_X5_28 tyX5 tyX5_ok nmX5 rfl rfl rfl rfl rfl dX5_init_42 (fun H locs hw11 hS11 => ?_)
  clear hw10 hS10
  have hwk := hw11.name
  clear hw11
  obtain ⟨L11, σ11, M11, N11, hw11, eL, eσ, eM, eN⟩ := hwk
  have hLn : ∀ q ∈ L10, q ∈ L11 := fun q h => by rw [eL]; exact h
  have hsn : ∀ q, (q < a ∨ a + 1 ≤ q) → σ11 q = σ10 q := fun q h => by rw [eσ]; exact up_out q h
  have hmn : ∀ q, (q < 0 ∨ 0 ≤ q) → M11 q = M10 q := fun q h => by rw [eM]
  have hnn : ∀ q, (q < 0 ∨ 0 ≤ q) → N11 q = N10 q := fun q h => by rw [eN]
  replace hA : ∀ q ∈ L11, cA0 L (a + 1) q := by rw [eL]; exact hA
  replace hLe : L11 = L ++ List.range' (a + 1) 5 := eL.trans hLe
  have mem_o := ho_a.1
  clear ho_a
  replace hKd_kd : oKinds (gE g L11 σ11) kd := oKinds_mono hKd_kd hLn (fun q h1 h2 => hsn q (by omega))
  replace hi_a_1 : Ft L11 σ11 (a + 1) (.inl (eI g, 5, none)) := Ft.mono hi_a_1 hLn (hsn _ (by omega))
  replace hi_a_2 : Ft L11 σ11 (a + 2) (.inl (eI g, 5, none)) := Ft.mono hi_a_2 hLn (hsn _ (by omega))
  replace hi_a_3 : Ft L11 σ11 (a + 3) (.inl (eI g, 120, none)) := Ft.mono hi_a_3 hLn (hsn _ (by omega))
  replace hi_a_4 : Ft L11 σ11 (a + 4) (.inl (eI g, 5, none)) := Ft.mono hi_a_4 hLn (hsn _ (by omega))
  replace hi_a_5 : Ft L11 σ11 (a + 5) (.inl (eI g, 4, none)) := Ft.mono hi_a_5 hLn (hsn _ (by omega))
  replace mzz_a_1 : ∀ j, M11 (a + 1) j = 0 := by rw [hmn _ (by omega)]; exact mzz_a_1
  replace mzz_a_2 : ∀ j, M11 (a + 2) j = 0 := by rw [hmn _ (by omega)]; exact mzz_a_2
  replace mzz_a_3 : ∀ j, M11 (a + 3) j = 0 := by rw [hmn _ (by omega)]; exact mzz_a_3
  replace mzz_a_4 : ∀ j, M11 (a + 4) j = 0 := by rw [hmn _ (by omega)]; exact mzz_a_4
  replace mzz_a_5 : ∀ j, M11 (a + 5) j = 0 := by rw [hmn _ (by omega)]; exact mzz_a_5
  replace hσo : ∀ q, (q < a ∨ a + 9 ≤ q) → σ11 q = σ q := fun q h => (hsn q (by omega)).trans (hσo q h)
  replace hMo : ∀ q, (q < a ∨ a + 9 ≤ q) → M11 q = M q := fun q h => (hmn q (by omega)).trans (hMo q h)
  replace hNo : ∀ q, (q < a ∨ a + 9 ≤ q) → N11 q = N q := fun q h => (hnn q (by omega)).trans (hNo q h)
  clear hLn hsn hmn hnn
  have ho_a : Ft L11 σ11 (a) (.inr (5, [.inr (some (kd)), .inr (some (a + 1)), .inr (some (a + 2)), .inr (some (a + 3)), .inr (some (a + 4)), .inr (some (a + 5)), .inr none, .inr none, .inr none, .inl 0, .inl 0, .inl 0, .inl 0])) := ⟨by rw [eL]; exact mem_o, by rw [eσ]; exact va_up_self _ _ _⟩
  clear mem_o eL eσ eM eN
  refine lv_aload_n hx hb dX5_init_45 rfl (lv_at hl 0 rfl) ?_
  refine lv_iconst (v := (4 : Int32)) hx hb dX5_init_46 (by decide) ?_
  refine W_end (fun hze => ?_)
  have hz := n_hz hw11 hi_a_5.1 hze (by omega)
  clear hze
  refine n_newa hC hw11 hS11 hz (by omega) (k := 4) (by decide) (by decide) (by decide) (by show _ ≤ (8 : Nat); omega) (by show _ ≤ (151 : Nat); omega) q_51 dX5_init_47 (fun H hw12 hzf hS12 => ?_)
  clear hw11 hS11
  clear hzf hz
  refine W.widen (k := 6) (n := 143) (by omega) (by omega) ?_
  have hwk := hw12.name
  clear hw12
  obtain ⟨L12, σ12, M12, N12, hw12, eL, eσ, eM, eN⟩ := hwk
  have hLn : ∀ q ∈ L11, q ∈ L12 := fun q h => by rw [eL]; exact List.mem_append_left _ h
  have hsn : ∀ q, (q < a + 6 ∨ a + 6 + 1 ≤ q) → σ12 q = σ11 q := fun q h => by rw [eσ]; exact up_out q h
  have hmn : ∀ q, (q < a + 6 ∨ a + 6 + 1 ≤ q) → M12 q = M11 q := fun q h => by rw [eM]; exact up_out q h
  have hnn : ∀ q, (q < a + 6 ∨ a + 6 + 1 ≤ q) → N12 q = N11 q := fun q h => by rw [eN]
  replace hA : ∀ q ∈ L12, cA0 L (a + 1) q := by rw [eL]; exact hA_snoc hA (Or.inr (by omega))
  replace hLe : L12 = L ++ List.range' (a + 1) 6 := by rw [eL]; exact (congrArg (fun t => t ++ _) hLe).trans (snoc_r (by omega))
  replace hKd_kd : oKinds (gE g L12 σ12) kd := oKinds_mono hKd_kd hLn (fun q h1 h2 => hsn q (by omega))
  replace hi_a_1 : Ft L12 σ12 (a + 1) (.inl (eI g, 5, none)) := Ft.mono hi_a_1 hLn (hsn _ (by omega))
  replace hi_a_2 : Ft L12 σ12 (a + 2) (.inl (eI g, 5, none)) := Ft.mono hi_a_2 hLn (hsn _ (by omega))
  replace hi_a_3 : Ft L12 σ12 (a + 3) (.inl (eI g, 120, none)) := Ft.mono hi_a_3 hLn (hsn _ (by omega))
  replace hi_a_4 : Ft L12 σ12 (a + 4) (.inl (eI g, 5, none)) := Ft.mono hi_a_4 hLn (hsn _ (by omega))
  replace hi_a_5 : Ft L12 σ12 (a + 5) (.inl (eI g, 4, none)) := Ft.mono hi_a_5 hLn (hsn _ (by omega))
  replace ho_a : Ft L12 σ12 (a) (.inr (5, [.inr (some (kd)), .inr (some (a + 1)), .inr (some (a + 2)), .inr (some (a + 3)), .inr (some (a + 4)), .inr (some (a + 5)), .inr none, .inr none, .inr none, .inl 0, .inl 0, .inl 0, .inl 0])) := Ft.mono ho_a hLn (hsn _ (by omega))
  replace mzz_a_1 : ∀ j, M12 (a + 1) j = 0 := by rw [hmn _ (by omega)]; exact mzz_a_1
  replace mzz_a_2 : ∀ j, M12 (a + 2) j = 0 := by rw [hmn _ (by omega)]; exact mzz_a_2
  replace mzz_a_3 : ∀ j, M12 (a + 3) j = 0 := by rw [hmn _ (by omega)]; exact mzz_a_3
  replace mzz_a_4 : ∀ j, M12 (a + 4) j = 0 := by rw [hmn _ (by omega)]; exact mzz_a_4
  replace mzz_a_5 : ∀ j, M12 (a + 5) j = 0 := by rw [hmn _ (by omega)]; exact mzz_a_5
  replace hσo : ∀ q, (q < a ∨ a + 9 ≤ q) → σ12 q = σ q := fun q h => (hsn q (by omega)).trans (hσo q h)
  replace hMo : ∀ q, (q < a ∨ a + 9 ≤ q) → M12 q = M q := fun q h => (hmn q (by omega)).trans (hMo q h)
  replace hNo : ∀ q, (q < a ∨ a + 9 ≤ q) → N12 q = N q := fun q h => (hnn q (by omega)).trans (hNo q h)
  clear hLn hsn hmn hnn
  have hi_a_6 : Ft L12 σ12 (a + 6) (.inl (eI g, 4, none)) := ⟨by rw [eL]; simp, by rw [eσ]; exact va_up_self _ _ _⟩
  have mzz_a_6 : ∀ j, M12 (a + 6) j = 0 := fun j => by rw [eM, va_up_self]
  clear eL eσ eM eN
  refine n_putR hC hmn hw12 hS12 hA ho_a.1 ho_a.2 fl_X5_31 tyX5 tyX5_ok nmX5 rfl rfl rfl rfl rfl dX5_init_49 (fun H locs hw13 hS13 => ?_)
  clear hw12 hS12
  have hwk := hw13.name
  clear hw13
  obtain ⟨L13, σ13, M13, N13, hw13, eL, eσ, eM, eN⟩ := hwk
  have hLn : ∀ q ∈ L12, q ∈ L13 := fun q h => by rw [eL]; exact h
  have hsn : ∀ q, (q < a ∨ a + 1 ≤ q) → σ13 q = σ12 q := fun q h => by rw [eσ]; exact up_out q h
  have hmn : ∀ q, (q < 0 ∨ 0 ≤ q) → M13 q = M12 q := fun q h => by rw [eM]
  have hnn : ∀ q, (q < 0 ∨ 0 ≤ q) → N13 q = N12 q := fun q h => by rw [eN]
  replace hA : ∀ q ∈ L13, cA0 L (a + 1) q := by rw [eL]; exact hA
  replace hLe : L13 = L ++ List.range' (a + 1) 6 := eL.trans hLe
  have mem_o := ho_a.1
  clear ho_a
  replace hKd_kd : oKinds (gE g L13 σ13) kd := oKinds_mono hKd_kd hLn (fun q h1 h2 => hsn q (by omega))
  replace hi_a_1 : Ft L13 σ13 (a + 1) (.inl (eI g, 5, none)) := Ft.mono hi_a_1 hLn (hsn _ (by omega))
  replace hi_a_2 : Ft L13 σ13 (a + 2) (.inl (eI g, 5, none)) := Ft.mono hi_a_2 hLn (hsn _ (by omega))
  replace hi_a_3 : Ft L13 σ13 (a + 3) (.inl (eI g, 120, none)) := Ft.mono hi_a_3 hLn (hsn _ (by omega))
  replace hi_a_4 : Ft L13 σ13 (a + 4) (.inl (eI g, 5, none)) := Ft.mono hi_a_4 hLn (hsn _ (by omega))
  replace hi_a_5 : Ft L13 σ13 (a + 5) (.inl (eI g, 4, none)) := Ft.mono hi_a_5 hLn (hsn _ (by omega))
  replace hi_a_6 : Ft L13 σ13 (a + 6) (.inl (eI g, 4, none)) := Ft.mono hi_a_6 hLn (hsn _ (by omega))
  replace mzz_a_1 : ∀ j, M13 (a + 1) j = 0 := by rw [hmn _ (by omega)]; exact mzz_a_1
  replace mzz_a_2 : ∀ j, M13 (a + 2) j = 0 := by rw [hmn _ (by omega)]; exact mzz_a_2
  replace mzz_a_3 : ∀ j, M13 (a + 3) j = 0 := by rw [hmn _ (by omega)]; exact mzz_a_3
  replace mzz_a_4 : ∀ j, M13 (a + 4) j = 0 := by rw [hmn _ (by omega)]; exact mzz_a_4
  replace mzz_a_5 : ∀ j, M13 (a + 5) j = 0 := by rw [hmn _ (by omega)]; exact mzz_a_5
  replace mzz_a_6 : ∀ j, M13 (a + 6) j = 0 := by rw [hmn _ (by omega)]; exact mzz_a_6
  replace hσo : ∀ q, (q < a ∨ a + 9 ≤ q) → σ13 q = σ q := fun q h => (hsn q (by omega)).trans (hσo q h)
  replace hMo : ∀ q, (q < a ∨ a + 9 ≤ q) → M13 q = M q := fun q h => (hmn q (by omega)).trans (hMo q h)
  replace hNo : ∀ q, (q < a ∨ a + 9 ≤ q) → N13 q = N q := fun q h => (hnn q (by omega)).trans (hNo q h)
  clear hLn hsn hmn hnn
  have ho_a : Ft L13 σ13 (a) (.inr (5, [.inr (some (kd)), .inr (some (a + 1)), .inr (some (a + 2)), .inr (some (a + 3)), .inr (some (a + 4)), .inr (some (a + 5)), .inr (some (a + 6)), .inr none, .inr none, .inl 0, .inl 0, .inl 0, .inl 0])) := ⟨by rw [eL]; exact mem_o, by rw [eσ]; exact va_up_self _ _ _⟩
  clear mem_o eL eσ eM eN
  refine lv_aload_n hx hb dX5_init_52 rfl (lv_at hl 0 rfl) ?_
  refine lv_iconst (v := (4 : Int32)) hx hb dX5_init_53 (by decide) ?_
  refine W_end (fun hze => ?_)
  have hz := n_hz hw13 hi_a_6.1 hze (by omega)
  clear hze
  refine n_newa hC hw13 hS13 hz (by omega) (k := 4) (by decide) (by decide) (by decide) (by show _ ≤ (8 : Nat); omega) (by show _ ≤ (151 : Nat); omega) q_51 dX5_init_54 (fun H hw14 hzf hS14 => ?_)
  clear hw13 hS13
  clear hzf hz
  refine W.widen (k := 7) (n := 147) (by omega) (by omega) ?_
  have hwk := hw14.name
  clear hw14
  obtain ⟨L14, σ14, M14, N14, hw14, eL, eσ, eM, eN⟩ := hwk
  have hLn : ∀ q ∈ L13, q ∈ L14 := fun q h => by rw [eL]; exact List.mem_append_left _ h
  have hsn : ∀ q, (q < a + 7 ∨ a + 7 + 1 ≤ q) → σ14 q = σ13 q := fun q h => by rw [eσ]; exact up_out q h
  have hmn : ∀ q, (q < a + 7 ∨ a + 7 + 1 ≤ q) → M14 q = M13 q := fun q h => by rw [eM]; exact up_out q h
  have hnn : ∀ q, (q < a + 7 ∨ a + 7 + 1 ≤ q) → N14 q = N13 q := fun q h => by rw [eN]
  replace hA : ∀ q ∈ L14, cA0 L (a + 1) q := by rw [eL]; exact hA_snoc hA (Or.inr (by omega))
  replace hLe : L14 = L ++ List.range' (a + 1) 7 := by rw [eL]; exact (congrArg (fun t => t ++ _) hLe).trans (snoc_r (by omega))
  replace hKd_kd : oKinds (gE g L14 σ14) kd := oKinds_mono hKd_kd hLn (fun q h1 h2 => hsn q (by omega))
  replace hi_a_1 : Ft L14 σ14 (a + 1) (.inl (eI g, 5, none)) := Ft.mono hi_a_1 hLn (hsn _ (by omega))
  replace hi_a_2 : Ft L14 σ14 (a + 2) (.inl (eI g, 5, none)) := Ft.mono hi_a_2 hLn (hsn _ (by omega))
  replace hi_a_3 : Ft L14 σ14 (a + 3) (.inl (eI g, 120, none)) := Ft.mono hi_a_3 hLn (hsn _ (by omega))
  replace hi_a_4 : Ft L14 σ14 (a + 4) (.inl (eI g, 5, none)) := Ft.mono hi_a_4 hLn (hsn _ (by omega))
  replace hi_a_5 : Ft L14 σ14 (a + 5) (.inl (eI g, 4, none)) := Ft.mono hi_a_5 hLn (hsn _ (by omega))
  replace hi_a_6 : Ft L14 σ14 (a + 6) (.inl (eI g, 4, none)) := Ft.mono hi_a_6 hLn (hsn _ (by omega))
  replace ho_a : Ft L14 σ14 (a) (.inr (5, [.inr (some (kd)), .inr (some (a + 1)), .inr (some (a + 2)), .inr (some (a + 3)), .inr (some (a + 4)), .inr (some (a + 5)), .inr (some (a + 6)), .inr none, .inr none, .inl 0, .inl 0, .inl 0, .inl 0])) := Ft.mono ho_a hLn (hsn _ (by omega))
  replace mzz_a_1 : ∀ j, M14 (a + 1) j = 0 := by rw [hmn _ (by omega)]; exact mzz_a_1
  replace mzz_a_2 : ∀ j, M14 (a + 2) j = 0 := by rw [hmn _ (by omega)]; exact mzz_a_2
  replace mzz_a_3 : ∀ j, M14 (a + 3) j = 0 := by rw [hmn _ (by omega)]; exact mzz_a_3
  replace mzz_a_4 : ∀ j, M14 (a + 4) j = 0 := by rw [hmn _ (by omega)]; exact mzz_a_4
  replace mzz_a_5 : ∀ j, M14 (a + 5) j = 0 := by rw [hmn _ (by omega)]; exact mzz_a_5
  replace mzz_a_6 : ∀ j, M14 (a + 6) j = 0 := by rw [hmn _ (by omega)]; exact mzz_a_6
  replace hσo : ∀ q, (q < a ∨ a + 9 ≤ q) → σ14 q = σ q := fun q h => (hsn q (by omega)).trans (hσo q h)
  replace hMo : ∀ q, (q < a ∨ a + 9 ≤ q) → M14 q = M q := fun q h => (hmn q (by omega)).trans (hMo q h)
  replace hNo : ∀ q, (q < a ∨ a + 9 ≤ q) → N14 q = N q := fun q h => (hnn q (by omega)).trans (hNo q h)
  clear hLn hsn hmn hnn
  have hi_a_7 : Ft L14 σ14 (a + 7) (.inl (eI g, 4, none)) := ⟨by rw [eL]; simp, by rw [eσ]; exact va_up_self _ _ _⟩
  have mzz_a_7 : ∀ j, M14 (a + 7) j = 0 := fun j => by rw [eM, va_up_self]
  clear eL eσ eM eN
  refine n_putR hC hmn hw14 hS14 hA ho_a.1 ho_a.2 fl_X5_34 tyX5 tyX5_ok nmX5 rfl rfl rfl rfl rfl dX5_init_56 (fun H locs hw15 hS15 => ?_)
  clear hw14 hS14
  have hwk := hw15.name
  clear hw15
  obtain ⟨L15, σ15, M15, N15, hw15, eL, eσ, eM, eN⟩ := hwk
  have hLn : ∀ q ∈ L14, q ∈ L15 := fun q h => by rw [eL]; exact h
  have hsn : ∀ q, (q < a ∨ a + 1 ≤ q) → σ15 q = σ14 q := fun q h => by rw [eσ]; exact up_out q h
  have hmn : ∀ q, (q < 0 ∨ 0 ≤ q) → M15 q = M14 q := fun q h => by rw [eM]
  have hnn : ∀ q, (q < 0 ∨ 0 ≤ q) → N15 q = N14 q := fun q h => by rw [eN]
  replace hA : ∀ q ∈ L15, cA0 L (a + 1) q := by rw [eL]; exact hA
  replace hLe : L15 = L ++ List.range' (a + 1) 7 := eL.trans hLe
  have mem_o := ho_a.1
  clear ho_a
  replace hKd_kd : oKinds (gE g L15 σ15) kd := oKinds_mono hKd_kd hLn (fun q h1 h2 => hsn q (by omega))
  replace hi_a_1 : Ft L15 σ15 (a + 1) (.inl (eI g, 5, none)) := Ft.mono hi_a_1 hLn (hsn _ (by omega))
  replace hi_a_2 : Ft L15 σ15 (a + 2) (.inl (eI g, 5, none)) := Ft.mono hi_a_2 hLn (hsn _ (by omega))
  replace hi_a_3 : Ft L15 σ15 (a + 3) (.inl (eI g, 120, none)) := Ft.mono hi_a_3 hLn (hsn _ (by omega))
  replace hi_a_4 : Ft L15 σ15 (a + 4) (.inl (eI g, 5, none)) := Ft.mono hi_a_4 hLn (hsn _ (by omega))
  replace hi_a_5 : Ft L15 σ15 (a + 5) (.inl (eI g, 4, none)) := Ft.mono hi_a_5 hLn (hsn _ (by omega))
  replace hi_a_6 : Ft L15 σ15 (a + 6) (.inl (eI g, 4, none)) := Ft.mono hi_a_6 hLn (hsn _ (by omega))
  replace hi_a_7 : Ft L15 σ15 (a + 7) (.inl (eI g, 4, none)) := Ft.mono hi_a_7 hLn (hsn _ (by omega))
  replace mzz_a_1 : ∀ j, M15 (a + 1) j = 0 := by rw [hmn _ (by omega)]; exact mzz_a_1
  replace mzz_a_2 : ∀ j, M15 (a + 2) j = 0 := by rw [hmn _ (by omega)]; exact mzz_a_2
  replace mzz_a_3 : ∀ j, M15 (a + 3) j = 0 := by rw [hmn _ (by omega)]; exact mzz_a_3
  replace mzz_a_4 : ∀ j, M15 (a + 4) j = 0 := by rw [hmn _ (by omega)]; exact mzz_a_4
  replace mzz_a_5 : ∀ j, M15 (a + 5) j = 0 := by rw [hmn _ (by omega)]; exact mzz_a_5
  replace mzz_a_6 : ∀ j, M15 (a + 6) j = 0 := by rw [hmn _ (by omega)]; exact mzz_a_6
  replace mzz_a_7 : ∀ j, M15 (a + 7) j = 0 := by rw [hmn _ (by omega)]; exact mzz_a_7
  replace hσo : ∀ q, (q < a ∨ a + 9 ≤ q) → σ15 q = σ q := fun q h => (hsn q (by omega)).trans (hσo q h)
  replace hMo : ∀ q, (q < a ∨ a + 9 ≤ q) → M15 q = M q := fun q h => (hmn q (by omega)).trans (hMo q h)
  replace hNo : ∀ q, (q < a ∨ a + 9 ≤ q) → N15 q = N q := fun q h => (hnn q (by omega)).trans (hNo q h)
  clear hLn hsn hmn hnn
  have ho_a : Ft L15 σ15 (a) (.inr (5, [.inr (some (kd)), .inr (some (a + 1)), .inr (some (a + 2)), .inr (some (a + 3)), .inr (some (a + 4)), .inr (some (a + 5)), .inr (some (a + 6)), .inr (some (a + 7)), .inr none, .inl 0, .inl 0, .inl 0, .inl 0])) := ⟨by rw [eL]; exact mem_o, by rw [eσ]; exact va_up_self _ _ _⟩
  clear mem_o eL eσ eM eN
  refine lv_aload_n hx hb dX5_init_59 rfl (lv_at hl 0 rfl) ?_
  refine lv_iconst (v := (4 : Int32)) hx hb dX5_init_60 (by decide) ?_
  refine W_end (fun hze => ?_)
  have hz := n_hz hw15 hi_a_7.1 hze (by omega)
  clear hze
  refine n_newa hC hw15 hS15 hz (by omega) (k := 4) (by decide) (by decide) (by decide) (by show _ ≤ (8 : Nat); omega) (by show _ ≤ (151 : Nat); omega) q_51 dX5_init_61 (fun H hw16 hzf hS16 => ?_)
  clear hw15 hS15
  clear hzf hz
  refine W.widen (k := 8) (n := 151) (by omega) (by omega) ?_
  have hwk := hw16.name
  clear hw16
  obtain ⟨L16, σ16, M16, N16, hw16, eL, eσ, eM, eN⟩ := hwk
  have hLn : ∀ q ∈ L15, q ∈ L16 := fun q h => by rw [eL]; exact List.mem_append_left _ h
  have hsn : ∀ q, (q < a + 8 ∨ a + 8 + 1 ≤ q) → σ16 q = σ15 q := fun q h => by rw [eσ]; exact up_out q h
  have hmn : ∀ q, (q < a + 8 ∨ a + 8 + 1 ≤ q) → M16 q = M15 q := fun q h => by rw [eM]; exact up_out q h
  have hnn : ∀ q, (q < a + 8 ∨ a + 8 + 1 ≤ q) → N16 q = N15 q := fun q h => by rw [eN]
  replace hA : ∀ q ∈ L16, cA0 L (a + 1) q := by rw [eL]; exact hA_snoc hA (Or.inr (by omega))
  replace hLe : L16 = L ++ List.range' (a + 1) 8 := by rw [eL]; exact (congrArg (fun t => t ++ _) hLe).trans (snoc_r (by omega))
  replace hKd_kd : oKinds (gE g L16 σ16) kd := oKinds_mono hKd_kd hLn (fun q h1 h2 => hsn q (by omega))
  replace hi_a_1 : Ft L16 σ16 (a + 1) (.inl (eI g, 5, none)) := Ft.mono hi_a_1 hLn (hsn _ (by omega))
  replace hi_a_2 : Ft L16 σ16 (a + 2) (.inl (eI g, 5, none)) := Ft.mono hi_a_2 hLn (hsn _ (by omega))
  replace hi_a_3 : Ft L16 σ16 (a + 3) (.inl (eI g, 120, none)) := Ft.mono hi_a_3 hLn (hsn _ (by omega))
  replace hi_a_4 : Ft L16 σ16 (a + 4) (.inl (eI g, 5, none)) := Ft.mono hi_a_4 hLn (hsn _ (by omega))
  replace hi_a_5 : Ft L16 σ16 (a + 5) (.inl (eI g, 4, none)) := Ft.mono hi_a_5 hLn (hsn _ (by omega))
  replace hi_a_6 : Ft L16 σ16 (a + 6) (.inl (eI g, 4, none)) := Ft.mono hi_a_6 hLn (hsn _ (by omega))
  replace hi_a_7 : Ft L16 σ16 (a + 7) (.inl (eI g, 4, none)) := Ft.mono hi_a_7 hLn (hsn _ (by omega))
  replace ho_a : Ft L16 σ16 (a) (.inr (5, [.inr (some (kd)), .inr (some (a + 1)), .inr (some (a + 2)), .inr (some (a + 3)), .inr (some (a + 4)), .inr (some (a + 5)), .inr (some (a + 6)), .inr (some (a + 7)), .inr none, .inl 0, .inl 0, .inl 0, .inl 0])) := Ft.mono ho_a hLn (hsn _ (by omega))
  replace mzz_a_1 : ∀ j, M16 (a + 1) j = 0 := by rw [hmn _ (by omega)]; exact mzz_a_1
  replace mzz_a_2 : ∀ j, M16 (a + 2) j = 0 := by rw [hmn _ (by omega)]; exact mzz_a_2
  replace mzz_a_3 : ∀ j, M16 (a + 3) j = 0 := by rw [hmn _ (by omega)]; exact mzz_a_3
  replace mzz_a_4 : ∀ j, M16 (a + 4) j = 0 := by rw [hmn _ (by omega)]; exact mzz_a_4
  replace mzz_a_5 : ∀ j, M16 (a + 5) j = 0 := by rw [hmn _ (by omega)]; exact mzz_a_5
  replace mzz_a_6 : ∀ j, M16 (a + 6) j = 0 := by rw [hmn _ (by omega)]; exact mzz_a_6
  replace mzz_a_7 : ∀ j, M16 (a + 7) j = 0 := by rw [hmn _ (by omega)]; exact mzz_a_7
  replace hσo : ∀ q, (q < a ∨ a + 9 ≤ q) → σ16 q = σ q := fun q h => (hsn q (by omega)).trans (hσo q h)
  replace hMo : ∀ q, (q < a ∨ a + 9 ≤ q) → M16 q = M q := fun q h => (hmn q (by omega)).trans (hMo q h)
  replace hNo : ∀ q, (q < a ∨ a + 9 ≤ q) → N16 q = N q := fun q h => (hnn q (by omega)).trans (hNo q h)
  clear hLn hsn hmn hnn
  have hi_a_8 : Ft L16 σ16 (a + 8) (.inl (eI g, 4, none)) := ⟨by rw [eL]; simp, by rw [eσ]; exact va_up_self _ _ _⟩
  have mzz_a_8 : ∀ j, M16 (a + 8) j = 0 := fun j => by rw [eM, va_up_self]
  clear eL eσ eM eN
  refine n_putR hC hmn hw16 hS16 hA ho_a.1 ho_a.2 fl_X5_37 tyX5 tyX5_ok nmX5 rfl rfl rfl rfl rfl dX5_init_63 (fun H locs hw17 hS17 => ?_)
  clear hw16 hS16
  have hwk := hw17.name
  clear hw17
  obtain ⟨L17, σ17, M17, N17, hw17, eL, eσ, eM, eN⟩ := hwk
  have hLn : ∀ q ∈ L16, q ∈ L17 := fun q h => by rw [eL]; exact h
  have hsn : ∀ q, (q < a ∨ a + 1 ≤ q) → σ17 q = σ16 q := fun q h => by rw [eσ]; exact up_out q h
  have hmn : ∀ q, (q < 0 ∨ 0 ≤ q) → M17 q = M16 q := fun q h => by rw [eM]
  have hnn : ∀ q, (q < 0 ∨ 0 ≤ q) → N17 q = N16 q := fun q h => by rw [eN]
  replace hA : ∀ q ∈ L17, cA0 L (a + 1) q := by rw [eL]; exact hA
  replace hLe : L17 = L ++ List.range' (a + 1) 8 := eL.trans hLe
  have mem_o := ho_a.1
  clear ho_a
  replace hKd_kd : oKinds (gE g L17 σ17) kd := oKinds_mono hKd_kd hLn (fun q h1 h2 => hsn q (by omega))
  replace hi_a_1 : Ft L17 σ17 (a + 1) (.inl (eI g, 5, none)) := Ft.mono hi_a_1 hLn (hsn _ (by omega))
  replace hi_a_2 : Ft L17 σ17 (a + 2) (.inl (eI g, 5, none)) := Ft.mono hi_a_2 hLn (hsn _ (by omega))
  replace hi_a_3 : Ft L17 σ17 (a + 3) (.inl (eI g, 120, none)) := Ft.mono hi_a_3 hLn (hsn _ (by omega))
  replace hi_a_4 : Ft L17 σ17 (a + 4) (.inl (eI g, 5, none)) := Ft.mono hi_a_4 hLn (hsn _ (by omega))
  replace hi_a_5 : Ft L17 σ17 (a + 5) (.inl (eI g, 4, none)) := Ft.mono hi_a_5 hLn (hsn _ (by omega))
  replace hi_a_6 : Ft L17 σ17 (a + 6) (.inl (eI g, 4, none)) := Ft.mono hi_a_6 hLn (hsn _ (by omega))
  replace hi_a_7 : Ft L17 σ17 (a + 7) (.inl (eI g, 4, none)) := Ft.mono hi_a_7 hLn (hsn _ (by omega))
  replace hi_a_8 : Ft L17 σ17 (a + 8) (.inl (eI g, 4, none)) := Ft.mono hi_a_8 hLn (hsn _ (by omega))
  replace mzz_a_1 : ∀ j, M17 (a + 1) j = 0 := by rw [hmn _ (by omega)]; exact mzz_a_1
  replace mzz_a_2 : ∀ j, M17 (a + 2) j = 0 := by rw [hmn _ (by omega)]; exact mzz_a_2
  replace mzz_a_3 : ∀ j, M17 (a + 3) j = 0 := by rw [hmn _ (by omega)]; exact mzz_a_3
  replace mzz_a_4 : ∀ j, M17 (a + 4) j = 0 := by rw [hmn _ (by omega)]; exact mzz_a_4
  replace mzz_a_5 : ∀ j, M17 (a + 5) j = 0 := by rw [hmn _ (by omega)]; exact mzz_a_5
  replace mzz_a_6 : ∀ j, M17 (a + 6) j = 0 := by rw [hmn _ (by omega)]; exact mzz_a_6
  replace mzz_a_7 : ∀ j, M17 (a + 7) j = 0 := by rw [hmn _ (by omega)]; exact mzz_a_7
  replace mzz_a_8 : ∀ j, M17 (a + 8) j = 0 := by rw [hmn _ (by omega)]; exact mzz_a_8
  replace hσo : ∀ q, (q < a ∨ a + 9 ≤ q) → σ17 q = σ q := fun q h => (hsn q (by omega)).trans (hσo q h)
  replace hMo : ∀ q, (q < a ∨ a + 9 ≤ q) → M17 q = M q := fun q h => (hmn q (by omega)).trans (hMo q h)
  replace hNo : ∀ q, (q < a ∨ a + 9 ≤ q) → N17 q = N q := fun q h => (hnn q (by omega)).trans (hNo q h)
  clear hLn hsn hmn hnn
  have ho_a : Ft L17 σ17 (a) (.inr (5, [.inr (some (kd)), .inr (some (a + 1)), .inr (some (a + 2)), .inr (some (a + 3)), .inr (some (a + 4)), .inr (some (a + 5)), .inr (some (a + 6)), .inr (some (a + 7)), .inr (some (a + 8)), .inl 0, .inl 0, .inl 0, .inl 0])) := ⟨by rw [eL]; exact mem_o, by rw [eσ]; exact va_up_self _ _ _⟩
  clear mem_o eL eσ eM eN
  refine lv_aload_n hx hb dX5_init_66 rfl (lv_at hl 0 rfl) ?_
  refine lv_bipush (v := (12 : Int32)) hx hb dX5_init_67 (by decide) ?_
  have hRg : oRing (gE g L17 σ17) kd a := ⟨ho_a, hi_a_1, hi_a_2, hi_a_3, hi_a_4, hi_a_5, hi_a_6, hi_a_7, hi_a_8, hKd_kd⟩
  refine n_goV hS17 hA hw17 (n_runV (As := [.int (12 : Int32)]) (rest := []) hC hw17 hS17 hB (k_X5_begin hw17.2.1 hRg (begin_ok _ _ _)) cw_X5_40 q_97 q_98 q_99 ⟨by decide, by decide, by show _ ≤ (8 : Nat); omega, by show _ ≤ (151 : Nat); omega⟩ hRg.1 rfl rfl hl.1 rfl (Nat.le_of_ble_eq_true rfl) dX5_init_69) (fun H locs hw18 hS18 => ?_)
  clear hw17 hS17
  exact e_C hC hr hlk hw18 hS18 (⟨⟨hLe, hσo, fun q h => (beg_out _ _ _ q h).trans (hMo q h), hNo⟩, hRg, rInit_beg _ _⟩) dX5_init_72
set_option maxRecDepth 100000 in
set_option maxHeartbeats 4000000 in
theorem kc_X7_init {g : Ev} {l : Launch} {z0 : Nat} {kd b : Nat} {L : List Nat} {σ : Shp} {M : Mm} {N : Ml} (hz0 : z0 ≤ b) (hka : kd + 6 ≤ b) (hKd_kd : oKinds (gE g L σ) kd) (ho_b : Ft L σ (b) (.inr (7, [.inr none, .inr none, .inl 0, .inl 0]))) (mm_b_2 : M b 2 = 0) (mm_b_3 : M b 3 = 0) : KC g l yX7_init cX7_init 3 5 64 1154 z0 (b + 1) [.ref b, .ref kd] L σ M N (fun u => pOut L σ M N b (b + 65) (b + 1) 64 u ∧ oStory (gE g u.1 u.2.1) kd b ∧ rInit u.2.2.1 (b + 1) ∧ u.2.2.1 b 2 = 0 ∧ sInit u.2.2.1 b) := by
  refine KC.mk (by decide) (Nat.le_of_ble_eq_true rfl) ?_
  intro p e s m below meth c ls hC hmn hr hlk hl hsz hw hS
  have hx := hC.1
  have hb := hC.2.1
  have hl : lv_has ls 3 [(0, .ref b), (1, .ref kd)] := hl
  have hA : ∀ q ∈ L, cA0 L (b + 1) q := fun q h => Or.inl h
  have hB : ∀ q, q < s.heap.size → cA0 L (b + 1) q → z0 ≤ q := fun q h1 h2 => h2.elim (hw.2.2 q) (fun h => by omega)
  have hLe : L = L ++ List.range' (b + 1) 0 := (List.append_nil L).symm
  have hσo : ∀ q, (q < b ∨ b + 65 ≤ q) → σ q = σ q := fun _ _ => rfl
  have hMo : ∀ q, (q < b ∨ b + 65 ≤ q) → M q = M q := fun _ _ => rfl
  have hNo : ∀ q, (q < b ∨ b + 65 ≤ q) → N q = N q := fun _ _ => rfl
  refine lv_aload_n hx hb dX7_init_0 rfl (lv_at hl 0 rfl) ?_
  refine n_objI hC hl.1 q_78 q_11 q_12 ⟨by decide, by decide⟩ (Nat.le_of_ble_eq_true rfl) dX7_init_1 ?_
  refine lv_aload_n hx hb dX7_init_4 rfl (lv_at hl 0 rfl) ?_
  refine W_end (fun hze => ?_)
  have hz := n_hz hw ho_b.1 hze (by omega)
  clear hze
  refine n_new (ci := 5) (sl := [.inr none, .inr none, .inr none, .inr none, .inr none, .inr none, .inr none, .inr none, .inr none, .inl 0, .inl 0, .inl 0, .inl 0]) hC hw hS hz (by omega) q_79 q_40 q_41 inX5 tyX5 tyX5_ok rfl (by decide) (by show _ ≤ (64 : Nat); omega) (by show _ ≤ (1154 : Nat); omega) dX7_init_5 (fun H hw1 hzf hS1 => ?_)
  clear hw hS
  clear hzf hz
  refine W.widen (k := 1) (n := 13) (by omega) (by omega) ?_
  have hwk := hw1.name
  clear hw1
  obtain ⟨L1, σ1, M1, N1, hw1, eL, eσ, eM, eN⟩ := hwk
  have hLn : ∀ q ∈ L, q ∈ L1 := fun q h => by rw [eL]; exact List.mem_append_left _ h
  have hsn : ∀ q, (q < b + 1 ∨ b + 1 + 1 ≤ q) → σ1 q = σ q := fun q h => by rw [eσ]; exact up_out q h
  have hmn : ∀ q, (q < b + 1 ∨ b + 1 + 1 ≤ q) → M1 q = M q := fun q h => by rw [eM]; exact up_out q h
  have hnn : ∀ q, (q < b + 1 ∨ b + 1 + 1 ≤ q) → N1 q = N q := fun q h => by rw [eN]; exact up_out q h
  replace hA : ∀ q ∈ L1, cA0 L (b + 1) q := by rw [eL]; exact hA_snoc hA (Or.inr (by omega))
  replace hLe : L1 = L ++ List.range' (b + 1) 1 := by rw [eL]; exact (congrArg (fun t => t ++ _) hLe).trans (snoc_r (by omega))
  replace hKd_kd : oKinds (gE g L1 σ1) kd := oKinds_mono hKd_kd hLn (fun q h1 h2 => hsn q (by omega))
  replace ho_b : Ft L1 σ1 (b) (.inr (7, [.inr none, .inr none, .inl 0, .inl 0])) := Ft.mono ho_b hLn (hsn _ (by omega))
  replace mm_b_2 : M1 b 2 = 0 := by rw [hmn _ (by omega)]; exact mm_b_2
  replace mm_b_3 : M1 b 3 = 0 := by rw [hmn _ (by omega)]; exact mm_b_3
  replace hσo : ∀ q, (q < b ∨ b + 65 ≤ q) → σ1 q = σ q := fun q h => (hsn q (by omega)).trans (hσo q h)
  replace hMo : ∀ q, (q < b ∨ b + 65 ≤ q) → M1 q = M q := fun q h => (hmn q (by omega)).trans (hMo q h)
  replace hNo : ∀ q, (q < b ∨ b + 65 ≤ q) → N1 q = N q := fun q h => (hnn q (by omega)).trans (hNo q h)
  clear hLn hsn hmn hnn
  have ho_b_1 : Ft L1 σ1 (b + 1) (.inr (5, [.inr none, .inr none, .inr none, .inr none, .inr none, .inr none, .inr none, .inr none, .inr none, .inl 0, .inl 0, .inl 0, .inl 0])) := ⟨by rw [eL]; simp, by rw [eσ]; exact va_up_self _ _ _⟩
  clear eL eσ eM eN
  refine lv_dup hx hb dX7_init_8 rfl ?_
  refine lv_aload_n hx hb dX7_init_9 rfl (lv_at hl 1 rfl) ?_
  refine W_end (fun hze => ?_)
  have hz := n_hz hw1 ho_b_1.1 hze (by omega)
  clear hze
  refine n_callI (na := 1) (As := [.ref kd]) (rest := [.ref (b + 1), .ref b]) hC hw1 hS1 hA (fun q h => Or.inr (by omega)) hB hz (kc_X5_init (a := b + 1) (kd := kd) (by omega) (by omega) hKd_kd ho_b_1) ⟨q_86, q_41, by decide, by decide, by decide⟩ q_84 q_85 rfl ⟨by decide, by decide, by show _ ≤ (64 : Nat); omega, by show _ ≤ (1154 : Nat); omega⟩ rfl hl.1 rfl (Nat.le_of_ble_eq_true rfl) dX7_init_10 (fun u H locs hpost hwp hS2 => ?_)
  refine W.widen (k := 9) (n := 164) (by omega) (by omega) ?_
  obtain ⟨L2, σ2, M2, N2⟩ := u
  obtain ⟨⟨eL, hsn, hmn, hnn⟩, p0, p1⟩ := hpost
  simp only at eL hsn hmn hnn hwp
  have hLn : ∀ q ∈ L1, q ∈ L2 := fun q h => by rw [eL]; exact List.mem_append_left _ h
  replace hA : ∀ q ∈ L2, cA0 L (b + 1) q := by rw [eL]; exact hA_app hA (fun q h => Or.inr (by omega))
  replace hLe : L2 = L ++ List.range' (b + 1) 9 := by rw [eL]; exact (congrArg (fun t => t ++ _) hLe).trans (app_r (by omega))
  have hw2 : Wc g z0 L2 σ2 M2 N2 H := ⟨hwp, by rw [eL]; exact nd_app hw1.2.1 (fun q h => by have := wP_lt hw1.1 h; omega), by rw [eL]; exact ge_app hw1.2.2 (by omega)⟩
  clear hwp hz hw1 hS1
  clear ho_b_1
  replace hKd_kd : oKinds (gE g L2 σ2) kd := oKinds_mono hKd_kd hLn (fun q h1 h2 => hsn q (by omega))
  replace ho_b : Ft L2 σ2 (b) (.inr (7, [.inr none, .inr none, .inl 0, .inl 0])) := Ft.mono ho_b hLn (hsn _ (by omega))
  replace mm_b_2 : M2 b 2 = 0 := by rw [hmn _ (by omega)]; exact mm_b_2
  replace mm_b_3 : M2 b 3 = 0 := by rw [hmn _ (by omega)]; exact mm_b_3
  replace hσo : ∀ q, (q < b ∨ b + 65 ≤ q) → σ2 q = σ q := fun q h => (hsn q (by omega)).trans (hσo q h)
  replace hMo : ∀ q, (q < b ∨ b + 65 ≤ q) → M2 q = M q := fun q h => (hmn q (by omega)).trans (hMo q h)
  replace hNo : ∀ q, (q < b ∨ b + 65 ≤ q) → N2 q = N q := fun q h => (hnn q (by omega)).trans (hNo q h)
  clear hLn hsn hmn hnn
  have hRg_b_1 : oRing (gE g L2 σ2) kd (b + 1) := p0
  have mrI_b_1 : rInit M2 (b + 1) := p1
  clear eL p0 p1
  refine n_putR hC hmn hw2 hS2 hA ho_b.1 ho_b.2 fl_X7_14 tyX7 tyX7_ok nmX7 rfl rfl rfl rfl rfl dX7_init_13 (fun H locs hw3 hS3 => ?_)
  clear hw2 hS2
  have hwk := hw3.name
  clear hw3
  obtain ⟨L3, σ3, M3, N3, hw3, eL, eσ, eM, eN⟩ := hwk
  have hLn : ∀ q ∈ L2, q ∈ L3 := fun q h => by rw [eL]; exact h
  have hsn : ∀ q, (q < b ∨ b + 1 ≤ q) → σ3 q = σ2 q := fun q h => by rw [eσ]; exact up_out q h
  have hmn : ∀ q, (q < 0 ∨ 0 ≤ q) → M3 q = M2 q := fun q h => by rw [eM]
  have hnn : ∀ q, (q < 0 ∨ 0 ≤ q) → N3 q = N2 q := fun q h => by rw [eN]
  replace hA : ∀ q ∈ L3, cA0 L (b + 1) q := by rw [eL]; exact hA
  replace hLe : L3 = L ++ List.range' (b + 1) 9 := eL.trans hLe
  have mem_o := ho_b.1
  clear ho_b
  replace hKd_kd : oKinds (gE g L3 σ3) kd := oKinds_mono hKd_kd hLn (fun q h1 h2 => hsn q (by omega))
  replace hRg_b_1 : oRing (gE g L3 σ3) kd (b + 1) := oRing_mono hRg_b_1 hLn (fun q h1 h2 => hsn q (by omega)) (fun q h1 h2 => hsn q (by omega))
  replace mm_b_2 : M3 b 2 = 0 := by rw [hmn _ (by omega)]; exact mm_b_2
  replace mm_b_3 : M3 b 3 = 0 := by rw [hmn _ (by omega)]; exact mm_b_3
  replace mrI_b_1 : rInit M3 (b + 1) := rInit_mono mrI_b_1 (fun q h1 h2 => hmn q (by omega))
  replace hσo : ∀ q, (q < b ∨ b + 65 ≤ q) → σ3 q = σ q := fun q h => (hsn q (by omega)).trans (hσo q h)
  replace hMo : ∀ q, (q < b ∨ b + 65 ≤ q) → M3 q = M q := fun q h => (hmn q (by omega)).trans (hMo q h)
  replace hNo : ∀ q, (q < b ∨ b + 65 ≤ q) → N3 q = N q := fun q h => (hnn q (by omega)).trans (hNo q h)
  clear hLn hsn hmn hnn
  have ho_b : Ft L3 σ3 (b) (.inr (7, [.inr (some (b + 1)), .inr none, .inl 0, .inl 0])) := ⟨by rw [eL]; exact mem_o, by rw [eσ]; exact va_up_self _ _ _⟩
  clear mem_o eL eσ eM eN
  refine lv_aload_n hx hb dX7_init_16 rfl (lv_at hl 0 rfl) ?_
  refine lv_bipush (v := (6 : Int32)) hx hb dX7_init_17 (by decide) ?_
  refine W_end (fun hze => ?_)
  have hz := n_hz hw3 hRg_b_1.2.2.2.2.2.2.2.2.1.1 hze (by omega)
  clear hze
  refine n_anew (t0 := 3) hC hw3 hS3 hz (by omega) (k := 6) rfl hC.2.2.2.2.2.2.2.2.1.2.1 q_79 (by decide) (by decide) (by decide) (by show _ ≤ (64 : Nat); omega) (by show _ ≤ (1154 : Nat); omega) dX7_init_19 (fun H hw4 hzf hS4 => ?_)
  clear hw3 hS3
  clear hzf hz
  refine W.widen (k := 10) (n := 170) (by omega) (by omega) ?_
  have hwk := hw4.name
  clear hw4
  obtain ⟨L4, σ4, M4, N4, hw4, eL, eσ, eM, eN⟩ := hwk
  have hLn : ∀ q ∈ L3, q ∈ L4 := fun q h => by rw [eL]; exact List.mem_append_left _ h
  have hsn : ∀ q, (q < b + 10 ∨ b + 10 + 1 ≤ q) → σ4 q = σ3 q := fun q h => by rw [eσ]; exact up_out q h
  have hmn : ∀ q, (q < b + 10 ∨ b + 10 + 1 ≤ q) → M4 q = M3 q := fun q h => by rw [eM]
  have hnn : ∀ q, (q < b + 10 ∨ b + 10 + 1 ≤ q) → N4 q = N3 q := fun q h => by rw [eN]
  replace hA : ∀ q ∈ L4, cA0 L (b + 1) q := by rw [eL]; exact hA_snoc hA (Or.inr (by omega))
  replace hLe : L4 = L ++ List.range' (b + 1) 10 := by rw [eL]; exact (congrArg (fun t => t ++ _) hLe).trans (snoc_r (by omega))
  replace hKd_kd : oKinds (gE g L4 σ4) kd := oKinds_mono hKd_kd hLn (fun q h1 h2 => hsn q (by omega))
  replace hRg_b_1 : oRing (gE g L4 σ4) kd (b + 1) := oRing_mono hRg_b_1 hLn (fun q h1 h2 => hsn q (by omega)) (fun q h1 h2 => hsn q (by omega))
  replace ho_b : Ft L4 σ4 (b) (.inr (7, [.inr (some (b + 1)), .inr none, .inl 0, .inl 0])) := Ft.mono ho_b hLn (hsn _ (by omega))
  replace mm_b_2 : M4 b 2 = 0 := by rw [hmn _ (by omega)]; exact mm_b_2
  replace mm_b_3 : M4 b 3 = 0 := by rw [hmn _ (by omega)]; exact mm_b_3
  replace mrI_b_1 : rInit M4 (b + 1) := rInit_mono mrI_b_1 (fun q h1 h2 => hmn q (by omega))
  replace hσo : ∀ q, (q < b ∨ b + 65 ≤ q) → σ4 q = σ q := fun q h => (hsn q (by omega)).trans (hσo q h)
  replace hMo : ∀ q, (q < b ∨ b + 65 ≤ q) → M4 q = M q := fun q h => (hmn q (by omega)).trans (hMo q h)
  replace hNo : ∀ q, (q < b ∨ b + 65 ≤ q) → N4 q = N q := fun q h => (hnn q (by omega)).trans (hNo q h)
  clear hLn hsn hmn hnn
  have hr_b_10 : Ft L4 σ4 (b + 10) (.inl (eR g, 6, some (fun _ => none))) := ⟨by rw [eL]; simp, by rw [eσ]; exact va_up_self _ _ _⟩
  clear eL eσ eM eN
  refine n_putR hC hmn hw4 hS4 hA ho_b.1 ho_b.2 fl_X7_20 tyX7 tyX7_ok nmX7 rfl rfl rfl rfl rfl dX7_init_22 (fun H locs hw5 hS5 => ?_)
  clear hw4 hS4
  have hwk := hw5.name
  clear hw5
  obtain ⟨L5, σ5, M5, N5, hw5, eL, eσ, eM, eN⟩ := hwk
  have hLn : ∀ q ∈ L4, q ∈ L5 := fun q h => by rw [eL]; exact h
  have hsn : ∀ q, (q < b ∨ b + 1 ≤ q) → σ5 q = σ4 q := fun q h => by rw [eσ]; exact up_out q h
  have hmn : ∀ q, (q < 0 ∨ 0 ≤ q) → M5 q = M4 q := fun q h => by rw [eM]
  have hnn : ∀ q, (q < 0 ∨ 0 ≤ q) → N5 q = N4 q := fun q h => by rw [eN]
  replace hA : ∀ q ∈ L5, cA0 L (b + 1) q := by rw [eL]; exact hA
  replace hLe : L5 = L ++ List.range' (b + 1) 10 := eL.trans hLe
  have mem_o := ho_b.1
  clear ho_b
  replace hKd_kd : oKinds (gE g L5 σ5) kd := oKinds_mono hKd_kd hLn (fun q h1 h2 => hsn q (by omega))
  replace hRg_b_1 : oRing (gE g L5 σ5) kd (b + 1) := oRing_mono hRg_b_1 hLn (fun q h1 h2 => hsn q (by omega)) (fun q h1 h2 => hsn q (by omega))
  replace hr_b_10 : Ft L5 σ5 (b + 10) (.inl (eR g, 6, some (fun _ => none))) := Ft.mono hr_b_10 hLn (hsn _ (by omega))
  replace mm_b_2 : M5 b 2 = 0 := by rw [hmn _ (by omega)]; exact mm_b_2
  replace mm_b_3 : M5 b 3 = 0 := by rw [hmn _ (by omega)]; exact mm_b_3
  replace mrI_b_1 : rInit M5 (b + 1) := rInit_mono mrI_b_1 (fun q h1 h2 => hmn q (by omega))
  replace hσo : ∀ q, (q < b ∨ b + 65 ≤ q) → σ5 q = σ q := fun q h => (hsn q (by omega)).trans (hσo q h)
  replace hMo : ∀ q, (q < b ∨ b + 65 ≤ q) → M5 q = M q := fun q h => (hmn q (by omega)).trans (hMo q h)
  replace hNo : ∀ q, (q < b ∨ b + 65 ≤ q) → N5 q = N q := fun q h => (hnn q (by omega)).trans (hNo q h)
  clear hLn hsn hmn hnn
  have ho_b : Ft L5 σ5 (b) (.inr (7, [.inr (some (b + 1)), .inr (some (b + 10)), .inl 0, .inl 0])) := ⟨by rw [eL]; exact mem_o, by rw [eσ]; exact va_up_self _ _ _⟩
  clear mem_o eL eσ eM eN
  refine lv_iconst (v := (0 : Int32)) hx hb dX7_init_25 (by decide) ?_
  refine lv_istore_n (lv' := [(2, .int (0 : Int32)), (0, .ref b), (1, .ref kd)]) hx hb dX7_init_26 rfl hl (by decide) rfl (fun ls hl => ?_)
  refine lv_iload_n hx hb dX7_init_27 rfl (lv_at hl 0 rfl) ?_
  refine lv_bipush (v := (6 : Int32)) hx hb dX7_init_28 (by decide) ?_
  refine lv_icmp_ge (tgt := 53) hx hb dX7_init_30 (by decide) (fun hc => absurd hc (by decide)) (fun _ => ?_)
  refine lv_aload_n hx hb dX7_init_33 rfl (lv_at hl 1 rfl) ?_
  refine n_getR hC hw5 ho_b.1 ho_b.2 fl_X7_20 rfl dX7_init_34 ?_
  refine lv_iload_n hx hb dX7_init_37 rfl (lv_at hl 0 rfl) ?_
  refine W_end (fun hze => ?_)
  have hz := n_hz hw5 hr_b_10.1 hze (by omega)
  clear hze
  refine n_new (ci := 5) (sl := [.inr none, .inr none, .inr none, .inr none, .inr none, .inr none, .inr none, .inr none, .inr none, .inl 0, .inl 0, .inl 0, .inl 0]) hC hw5 hS5 hz (by omega) q_79 q_40 q_41 inX5 tyX5 tyX5_ok rfl (by decide) (by show _ ≤ (64 : Nat); omega) (by show _ ≤ (1154 : Nat); omega) dX7_init_38 (fun H hw6 hzf hS6 => ?_)
  clear hw5 hS5
  clear hzf hz
  refine W.widen (k := 11) (n := 183) (by omega) (by omega) ?_
  have hwk := hw6.name
  clear hw6
  obtain ⟨L6, σ6, M6, N6, hw6, eL, eσ, eM, eN⟩ := hwk
  have hLn : ∀ q ∈ L5, q ∈ L6 := fun q h => by rw [eL]; exact List.mem_append_left _ h
  have hsn : ∀ q, (q < b + 11 ∨ b + 11 + 1 ≤ q) → σ6 q = σ5 q := fun q h => by rw [eσ]; exact up_out q h
  have hmn : ∀ q, (q < b + 11 ∨ b + 11 + 1 ≤ q) → M6 q = M5 q := fun q h => by rw [eM]; exact up_out q h
  have hnn : ∀ q, (q < b + 11 ∨ b + 11 + 1 ≤ q) → N6 q = N5 q := fun q h => by rw [eN]; exact up_out q h
  replace hA : ∀ q ∈ L6, cA0 L (b + 1) q := by rw [eL]; exact hA_snoc hA (Or.inr (by omega))
  replace hLe : L6 = L ++ List.range' (b + 1) 11 := by rw [eL]; exact (congrArg (fun t => t ++ _) hLe).trans (snoc_r (by omega))
  replace hKd_kd : oKinds (gE g L6 σ6) kd := oKinds_mono hKd_kd hLn (fun q h1 h2 => hsn q (by omega))
  replace hRg_b_1 : oRing (gE g L6 σ6) kd (b + 1) := oRing_mono hRg_b_1 hLn (fun q h1 h2 => hsn q (by omega)) (fun q h1 h2 => hsn q (by omega))
  replace hr_b_10 : Ft L6 σ6 (b + 10) (.inl (eR g, 6, some (fun _ => none))) := Ft.mono hr_b_10 hLn (hsn _ (by omega))
  replace ho_b : Ft L6 σ6 (b) (.inr (7, [.inr (some (b + 1)), .inr (some (b + 10)), .inl 0, .inl 0])) := Ft.mono ho_b hLn (hsn _ (by omega))
  replace mm_b_2 : M6 b 2 = 0 := by rw [hmn _ (by omega)]; exact mm_b_2
  replace mm_b_3 : M6 b 3 = 0 := by rw [hmn _ (by omega)]; exact mm_b_3
  replace mrI_b_1 : rInit M6 (b + 1) := rInit_mono mrI_b_1 (fun q h1 h2 => hmn q (by omega))
  replace hσo : ∀ q, (q < b ∨ b + 65 ≤ q) → σ6 q = σ q := fun q h => (hsn q (by omega)).trans (hσo q h)
  replace hMo : ∀ q, (q < b ∨ b + 65 ≤ q) → M6 q = M q := fun q h => (hmn q (by omega)).trans (hMo q h)
  replace hNo : ∀ q, (q < b ∨ b + 65 ≤ q) → N6 q = N q := fun q h => (hnn q (by omega)).trans (hNo q h)
  clear hLn hsn hmn hnn
  have ho_b_11 : Ft L6 σ6 (b + 11) (.inr (5, [.inr none, .inr none, .inr none, .inr none, .inr none, .inr none, .inr none, .inr none, .inr none, .inl 0, .inl 0, .inl 0, .inl 0])) := ⟨by rw [eL]; simp, by rw [eσ]; exact va_up_self _ _ _⟩
  clear eL eσ eM eN
  refine lv_dup hx hb dX7_init_41 rfl ?_
  refine lv_aload_n hx hb dX7_init_42 rfl (lv_at hl 2 rfl) ?_
  refine W_end (fun hze => ?_)
  have hz := n_hz hw6 ho_b_11.1 hze (by omega)
  clear hze
  refine n_callI (na := 1) (As := [.ref kd]) (rest := [.ref (b + 11), .int (0 : Int32), .ref (b + 10)]) hC hw6 hS6 hA (fun q h => Or.inr (by omega)) hB hz (kc_X5_init (a := b + 11) (kd := kd) (by omega) (by omega) hKd_kd ho_b_11) ⟨q_86, q_41, by decide, by decide, by decide⟩ q_84 q_85 rfl ⟨by decide, by decide, by show _ ≤ (64 : Nat); omega, by show _ ≤ (1154 : Nat); omega⟩ rfl hl.1 rfl (Nat.le_of_ble_eq_true rfl) dX7_init_43 (fun u H locs hpost hwp hS7 => ?_)
  refine W.widen (k := 19) (n := 334) (by omega) (by omega) ?_
  obtain ⟨L7, σ7, M7, N7⟩ := u
  obtain ⟨⟨eL, hsn, hmn, hnn⟩, p0, p1⟩ := hpost
  simp only at eL hsn hmn hnn hwp
  have hLn : ∀ q ∈ L6, q ∈ L7 := fun q h => by rw [eL]; exact List.mem_append_left _ h
  replace hA : ∀ q ∈ L7, cA0 L (b + 1) q := by rw [eL]; exact hA_app hA (fun q h => Or.inr (by omega))
  replace hLe : L7 = L ++ List.range' (b + 1) 19 := by rw [eL]; exact (congrArg (fun t => t ++ _) hLe).trans (app_r (by omega))
  have hw7 : Wc g z0 L7 σ7 M7 N7 H := ⟨hwp, by rw [eL]; exact nd_app hw6.2.1 (fun q h => by have := wP_lt hw6.1 h; omega), by rw [eL]; exact ge_app hw6.2.2 (by omega)⟩
  clear hwp hz hw6 hS6
  clear ho_b_11
  replace hKd_kd : oKinds (gE g L7 σ7) kd := oKinds_mono hKd_kd hLn (fun q h1 h2 => hsn q (by omega))
  replace hRg_b_1 : oRing (gE g L7 σ7) kd (b + 1) := oRing_mono hRg_b_1 hLn (fun q h1 h2 => hsn q (by omega)) (fun q h1 h2 => hsn q (by omega))
  replace hr_b_10 : Ft L7 σ7 (b + 10) (.inl (eR g, 6, some (fun _ => none))) := Ft.mono hr_b_10 hLn (hsn _ (by omega))
  replace ho_b : Ft L7 σ7 (b) (.inr (7, [.inr (some (b + 1)), .inr (some (b + 10)), .inl 0, .inl 0])) := Ft.mono ho_b hLn (hsn _ (by omega))
  replace mm_b_2 : M7 b 2 = 0 := by rw [hmn _ (by omega)]; exact mm_b_2
  replace mm_b_3 : M7 b 3 = 0 := by rw [hmn _ (by omega)]; exact mm_b_3
  replace mrI_b_1 : rInit M7 (b + 1) := rInit_mono mrI_b_1 (fun q h1 h2 => hmn q (by omega))
  replace hσo : ∀ q, (q < b ∨ b + 65 ≤ q) → σ7 q = σ q := fun q h => (hsn q (by omega)).trans (hσo q h)
  replace hMo : ∀ q, (q < b ∨ b + 65 ≤ q) → M7 q = M q := fun q h => (hmn q (by omega)).trans (hMo q h)
  replace hNo : ∀ q, (q < b ∨ b + 65 ≤ q) → N7 q = N q := fun q h => (hnn q (by omega)).trans (hNo q h)
  clear hLn hsn hmn hnn
  have hRg_b_11 : oRing (gE g L7 σ7) kd (b + 11) := p0
  have mrI_b_11 : rInit M7 (b + 11) := p1
  clear eL p0 p1
  refine n_aast (t0 := 3) hC hw7 hS7 hA hr_b_10.1 hr_b_10.2 rfl hRg_b_11.1.1 hRg_b_11.1.2 rfl (Or.inl rfl) (vin_c 0 rfl) dX7_init_46 (fun H locs hw8 hS8 => ?_)
  clear hw7 hS7
  have hwk := hw8.name
  clear hw8
  obtain ⟨L8, σ8, M8, N8, hw8, eL, eσ, eM, eN⟩ := hwk
  have hLn : ∀ q ∈ L7, q ∈ L8 := fun q h => by rw [eL]; exact h
  have hsn : ∀ q, (q < b + 10 ∨ b + 10 + 1 ≤ q) → σ8 q = σ7 q := fun q h => by rw [eσ]; exact up_out q h
  have hmn : ∀ q, (q < 0 ∨ 0 ≤ q) → M8 q = M7 q := fun q h => by rw [eM]
  have hnn : ∀ q, (q < 0 ∨ 0 ≤ q) → N8 q = N7 q := fun q h => by rw [eN]
  replace hA : ∀ q ∈ L8, cA0 L (b + 1) q := by rw [eL]; exact hA
  replace hLe : L8 = L ++ List.range' (b + 1) 19 := eL.trans hLe
  have mem_o := hr_b_10.1
  clear hr_b_10
  replace hKd_kd : oKinds (gE g L8 σ8) kd := oKinds_mono hKd_kd hLn (fun q h1 h2 => hsn q (by omega))
  replace hRg_b_1 : oRing (gE g L8 σ8) kd (b + 1) := oRing_mono hRg_b_1 hLn (fun q h1 h2 => hsn q (by omega)) (fun q h1 h2 => hsn q (by omega))
  replace ho_b : Ft L8 σ8 (b) (.inr (7, [.inr (some (b + 1)), .inr (some (b + 10)), .inl 0, .inl 0])) := Ft.mono ho_b hLn (hsn _ (by omega))
  replace hRg_b_11 : oRing (gE g L8 σ8) kd (b + 11) := oRing_mono hRg_b_11 hLn (fun q h1 h2 => hsn q (by omega)) (fun q h1 h2 => hsn q (by omega))
  replace mm_b_2 : M8 b 2 = 0 := by rw [hmn _ (by omega)]; exact mm_b_2
  replace mm_b_3 : M8 b 3 = 0 := by rw [hmn _ (by omega)]; exact mm_b_3
  replace mrI_b_1 : rInit M8 (b + 1) := rInit_mono mrI_b_1 (fun q h1 h2 => hmn q (by omega))
  replace mrI_b_11 : rInit M8 (b + 11) := rInit_mono mrI_b_11 (fun q h1 h2 => hmn q (by omega))
  replace hσo : ∀ q, (q < b ∨ b + 65 ≤ q) → σ8 q = σ q := fun q h => (hsn q (by omega)).trans (hσo q h)
  replace hMo : ∀ q, (q < b ∨ b + 65 ≤ q) → M8 q = M q := fun q h => (hmn q (by omega)).trans (hMo q h)
  replace hNo : ∀ q, (q < b ∨ b + 65 ≤ q) → N8 q = N q := fun q h => (hnn q (by omega)).trans (hNo q h)
  clear hLn hsn hmn hnn
  have hr_b_10 : Ft L8 σ8 (b + 10) (.inl (eR g, 6, some (va_up (fun _ => none) (0 : Int32).toNatClampNeg (some (b + 11))))) := ⟨by rw [eL]; exact mem_o, by rw [eσ]; exact va_up_self _ _ _⟩
  clear mem_o eL eσ eM eN
  refine lv_iinc (v := (1 : Int32)) (lv' := [(2, .int (1 : Int32)), (0, .ref b), (1, .ref kd)]) hx hb dX7_init_47 hl (k := 0) rfl (by decide) (by decide) rfl (fun ls hl => ?_)
  refine lv_goto (tgt := 27) hx hb dX7_init_50 (by decide) ?_
  refine lv_iload_n hx hb dX7_init_27 rfl (lv_at hl 0 rfl) ?_
  refine lv_bipush (v := (6 : Int32)) hx hb dX7_init_28 (by decide) ?_
  refine lv_icmp_ge (tgt := 53) hx hb dX7_init_30 (by decide) (fun hc => absurd hc (by decide)) (fun _ => ?_)
  refine lv_aload_n hx hb dX7_init_33 rfl (lv_at hl 1 rfl) ?_
  refine n_getR hC hw8 ho_b.1 ho_b.2 fl_X7_20 rfl dX7_init_34 ?_
  refine lv_iload_n hx hb dX7_init_37 rfl (lv_at hl 0 rfl) ?_
  refine W_end (fun hze => ?_)
  have hz := n_hz hw8 hRg_b_11.2.2.2.2.2.2.2.2.1.1 hze (by omega)
  clear hze
  refine n_new (ci := 5) (sl := [.inr none, .inr none, .inr none, .inr none, .inr none, .inr none, .inr none, .inr none, .inr none, .inl 0, .inl 0, .inl 0, .inl 0]) hC hw8 hS8 hz (by omega) q_79 q_40 q_41 inX5 tyX5 tyX5_ok rfl (by decide) (by show _ ≤ (64 : Nat); omega) (by show _ ≤ (1154 : Nat); omega) dX7_init_38 (fun H hw9 hzf hS9 => ?_)
  clear hw8 hS8
  clear hzf hz
  refine W.widen (k := 20) (n := 347) (by omega) (by omega) ?_
  have hwk := hw9.name
  clear hw9
  obtain ⟨L9, σ9, M9, N9, hw9, eL, eσ, eM, eN⟩ := hwk
  have hLn : ∀ q ∈ L8, q ∈ L9 := fun q h => by rw [eL]; exact List.mem_append_left _ h
  have hsn : ∀ q, (q < b + 20 ∨ b + 20 + 1 ≤ q) → σ9 q = σ8 q := fun q h => by rw [eσ]; exact up_out q h
  have hmn : ∀ q, (q < b + 20 ∨ b + 20 + 1 ≤ q) → M9 q = M8 q := fun q h => by rw [eM]; exact up_out q h
  have hnn : ∀ q, (q < b + 20 ∨ b + 20 + 1 ≤ q) → N9 q = N8 q := fun q h => by rw [eN]; exact up_out q h
  replace hA : ∀ q ∈ L9, cA0 L (b + 1) q := by rw [eL]; exact hA_snoc hA (Or.inr (by omega))
  replace hLe : L9 = L ++ List.range' (b + 1) 20 := by rw [eL]; exact (congrArg (fun t => t ++ _) hLe).trans (snoc_r (by omega))
  replace hKd_kd : oKinds (gE g L9 σ9) kd := oKinds_mono hKd_kd hLn (fun q h1 h2 => hsn q (by omega))
  replace hRg_b_1 : oRing (gE g L9 σ9) kd (b + 1) := oRing_mono hRg_b_1 hLn (fun q h1 h2 => hsn q (by omega)) (fun q h1 h2 => hsn q (by omega))
  replace ho_b : Ft L9 σ9 (b) (.inr (7, [.inr (some (b + 1)), .inr (some (b + 10)), .inl 0, .inl 0])) := Ft.mono ho_b hLn (hsn _ (by omega))
  replace hRg_b_11 : oRing (gE g L9 σ9) kd (b + 11) := oRing_mono hRg_b_11 hLn (fun q h1 h2 => hsn q (by omega)) (fun q h1 h2 => hsn q (by omega))
  replace hr_b_10 : Ft L9 σ9 (b + 10) (.inl (eR g, 6, some (va_up (fun _ => none) (0 : Int32).toNatClampNeg (some (b + 11))))) := Ft.mono hr_b_10 hLn (hsn _ (by omega))
  replace mm_b_2 : M9 b 2 = 0 := by rw [hmn _ (by omega)]; exact mm_b_2
  replace mm_b_3 : M9 b 3 = 0 := by rw [hmn _ (by omega)]; exact mm_b_3
  replace mrI_b_1 : rInit M9 (b + 1) := rInit_mono mrI_b_1 (fun q h1 h2 => hmn q (by omega))
  replace mrI_b_11 : rInit M9 (b + 11) := rInit_mono mrI_b_11 (fun q h1 h2 => hmn q (by omega))
  replace hσo : ∀ q, (q < b ∨ b + 65 ≤ q) → σ9 q = σ q := fun q h => (hsn q (by omega)).trans (hσo q h)
  replace hMo : ∀ q, (q < b ∨ b + 65 ≤ q) → M9 q = M q := fun q h => (hmn q (by omega)).trans (hMo q h)
  replace hNo : ∀ q, (q < b ∨ b + 65 ≤ q) → N9 q = N q := fun q h => (hnn q (by omega)).trans (hNo q h)
  clear hLn hsn hmn hnn
  have ho_b_20 : Ft L9 σ9 (b + 20) (.inr (5, [.inr none, .inr none, .inr none, .inr none, .inr none, .inr none, .inr none, .inr none, .inr none, .inl 0, .inl 0, .inl 0, .inl 0])) := ⟨by rw [eL]; simp, by rw [eσ]; exact va_up_self _ _ _⟩
  clear eL eσ eM eN
  refine lv_dup hx hb dX7_init_41 rfl ?_
  refine lv_aload_n hx hb dX7_init_42 rfl (lv_at hl 2 rfl) ?_
  refine W_end (fun hze => ?_)
  have hz := n_hz hw9 ho_b_20.1 hze (by omega)
  clear hze
  refine n_callI (na := 1) (As := [.ref kd]) (rest := [.ref (b + 20), .int (1 : Int32), .ref (b + 10)]) hC hw9 hS9 hA (fun q h => Or.inr (by omega)) hB hz (kc_X5_init (a := b + 20) (kd := kd) (by omega) (by omega) hKd_kd ho_b_20) ⟨q_86, q_41, by decide, by decide, by decide⟩ q_84 q_85 rfl ⟨by decide, by decide, by show _ ≤ (64 : Nat); omega, by show _ ≤ (1154 : Nat); omega⟩ rfl hl.1 rfl (Nat.le_of_ble_eq_true rfl) dX7_init_43 (fun u H locs hpost hwp hS10 => ?_)
  refine W.widen (k := 28) (n := 498) (by omega) (by omega) ?_
  obtain ⟨L10, σ10, M10, N10⟩ := u
  obtain ⟨⟨eL, hsn, hmn, hnn⟩, p0, p1⟩ := hpost
  simp only at eL hsn hmn hnn hwp
  have hLn : ∀ q ∈ L9, q ∈ L10 := fun q h => by rw [eL]; exact List.mem_append_left _ h
  replace hA : ∀ q ∈ L10, cA0 L (b + 1) q := by rw [eL]; exact hA_app hA (fun q h => Or.inr (by omega))
  replace hLe : L10 = L ++ List.range' (b + 1) 28 := by rw [eL]; exact (congrArg (fun t => t ++ _) hLe).trans (app_r (by omega))
  have hw10 : Wc g z0 L10 σ10 M10 N10 H := ⟨hwp, by rw [eL]; exact nd_app hw9.2.1 (fun q h => by have := wP_lt hw9.1 h; omega), by rw [eL]; exact ge_app hw9.2.2 (by omega)⟩
  clear hwp hz hw9 hS9
  clear ho_b_20
  replace hKd_kd : oKinds (gE g L10 σ10) kd := oKinds_mono hKd_kd hLn (fun q h1 h2 => hsn q (by omega))
  replace hRg_b_1 : oRing (gE g L10 σ10) kd (b + 1) := oRing_mono hRg_b_1 hLn (fun q h1 h2 => hsn q (by omega)) (fun q h1 h2 => hsn q (by omega))
  replace ho_b : Ft L10 σ10 (b) (.inr (7, [.inr (some (b + 1)), .inr (some (b + 10)), .inl 0, .inl 0])) := Ft.mono ho_b hLn (hsn _ (by omega))
  replace hRg_b_11 : oRing (gE g L10 σ10) kd (b + 11) := oRing_mono hRg_b_11 hLn (fun q h1 h2 => hsn q (by omega)) (fun q h1 h2 => hsn q (by omega))
  replace hr_b_10 : Ft L10 σ10 (b + 10) (.inl (eR g, 6, some (va_up (fun _ => none) (0 : Int32).toNatClampNeg (some (b + 11))))) := Ft.mono hr_b_10 hLn (hsn _ (by omega))
  replace mm_b_2 : M10 b 2 = 0 := by rw [hmn _ (by omega)]; exact mm_b_2
  replace mm_b_3 : M10 b 3 = 0 := by rw [hmn _ (by omega)]; exact mm_b_3
  replace mrI_b_1 : rInit M10 (b + 1) := rInit_mono mrI_b_1 (fun q h1 h2 => hmn q (by omega))
  replace mrI_b_11 : rInit M10 (b + 11) := rInit_mono mrI_b_11 (fun q h1 h2 => hmn q (by omega))
  replace hσo : ∀ q, (q < b ∨ b + 65 ≤ q) → σ10 q = σ q := fun q h => (hsn q (by omega)).trans (hσo q h)
  replace hMo : ∀ q, (q < b ∨ b + 65 ≤ q) → M10 q = M q := fun q h => (hmn q (by omega)).trans (hMo q h)
  replace hNo : ∀ q, (q < b ∨ b + 65 ≤ q) → N10 q = N q := fun q h => (hnn q (by omega)).trans (hNo q h)
  clear hLn hsn hmn hnn
  have hRg_b_20 : oRing (gE g L10 σ10) kd (b + 20) := p0
  have mrI_b_20 : rInit M10 (b + 20) := p1
  clear eL p0 p1
  refine n_aast (t0 := 3) hC hw10 hS10 hA hr_b_10.1 hr_b_10.2 rfl hRg_b_20.1.1 hRg_b_20.1.2 rfl (Or.inl rfl) (vin_c 1 rfl) dX7_init_46 (fun H locs hw11 hS11 => ?_)
  clear hw10 hS10
  have hwk := hw11.name
  clear hw11
  obtain ⟨L11, σ11, M11, N11, hw11, eL, eσ, eM, eN⟩ := hwk
  have hLn : ∀ q ∈ L10, q ∈ L11 := fun q h => by rw [eL]; exact h
  have hsn : ∀ q, (q < b + 10 ∨ b + 10 + 1 ≤ q) → σ11 q = σ10 q := fun q h => by rw [eσ]; exact up_out q h
  have hmn : ∀ q, (q < 0 ∨ 0 ≤ q) → M11 q = M10 q := fun q h => by rw [eM]
  have hnn : ∀ q, (q < 0 ∨ 0 ≤ q) → N11 q = N10 q := fun q h => by rw [eN]
  replace hA : ∀ q ∈ L11, cA0 L (b + 1) q := by rw [eL]; exact hA
  replace hLe : L11 = L ++ List.range' (b + 1) 28 := eL.trans hLe
  have mem_o := hr_b_10.1
  clear hr_b_10
  replace hKd_kd : oKinds (gE g L11 σ11) kd := oKinds_mono hKd_kd hLn (fun q h1 h2 => hsn q (by omega))
  replace hRg_b_1 : oRing (gE g L11 σ11) kd (b + 1) := oRing_mono hRg_b_1 hLn (fun q h1 h2 => hsn q (by omega)) (fun q h1 h2 => hsn q (by omega))
  replace ho_b : Ft L11 σ11 (b) (.inr (7, [.inr (some (b + 1)), .inr (some (b + 10)), .inl 0, .inl 0])) := Ft.mono ho_b hLn (hsn _ (by omega))
  replace hRg_b_11 : oRing (gE g L11 σ11) kd (b + 11) := oRing_mono hRg_b_11 hLn (fun q h1 h2 => hsn q (by omega)) (fun q h1 h2 => hsn q (by omega))
  replace hRg_b_20 : oRing (gE g L11 σ11) kd (b + 20) := oRing_mono hRg_b_20 hLn (fun q h1 h2 => hsn q (by omega)) (fun q h1 h2 => hsn q (by omega))
  replace mm_b_2 : M11 b 2 = 0 := by rw [hmn _ (by omega)]; exact mm_b_2
  replace mm_b_3 : M11 b 3 = 0 := by rw [hmn _ (by omega)]; exact mm_b_3
  replace mrI_b_1 : rInit M11 (b + 1) := rInit_mono mrI_b_1 (fun q h1 h2 => hmn q (by omega))
  replace mrI_b_11 : rInit M11 (b + 11) := rInit_mono mrI_b_11 (fun q h1 h2 => hmn q (by omega))
  replace mrI_b_20 : rInit M11 (b + 20) := rInit_mono mrI_b_20 (fun q h1 h2 => hmn q (by omega))
  replace hσo : ∀ q, (q < b ∨ b + 65 ≤ q) → σ11 q = σ q := fun q h => (hsn q (by omega)).trans (hσo q h)
  replace hMo : ∀ q, (q < b ∨ b + 65 ≤ q) → M11 q = M q := fun q h => (hmn q (by omega)).trans (hMo q h)
  replace hNo : ∀ q, (q < b ∨ b + 65 ≤ q) → N11 q = N q := fun q h => (hnn q (by omega)).trans (hNo q h)
  clear hLn hsn hmn hnn
  have hr_b_10 : Ft L11 σ11 (b + 10) (.inl (eR g, 6, some (va_up (va_up (fun _ => none) (0 : Int32).toNatClampNeg (some (b + 11))) (1 : Int32).toNatClampNeg (some (b + 20))))) := ⟨by rw [eL]; exact mem_o, by rw [eσ]; exact va_up_self _ _ _⟩
  clear mem_o eL eσ eM eN
  refine lv_iinc (v := (2 : Int32)) (lv' := [(2, .int (2 : Int32)), (0, .ref b), (1, .ref kd)]) hx hb dX7_init_47 hl (k := 0) rfl (by decide) (by decide) rfl (fun ls hl => ?_)
  refine lv_goto (tgt := 27) hx hb dX7_init_50 (by decide) ?_
  refine lv_iload_n hx hb dX7_init_27 rfl (lv_at hl 0 rfl) ?_
  refine lv_bipush (v := (6 : Int32)) hx hb dX7_init_28 (by decide) ?_
  refine lv_icmp_ge (tgt := 53) hx hb dX7_init_30 (by decide) (fun hc => absurd hc (by decide)) (fun _ => ?_)
  refine lv_aload_n hx hb dX7_init_33 rfl (lv_at hl 1 rfl) ?_
  refine n_getR hC hw11 ho_b.1 ho_b.2 fl_X7_20 rfl dX7_init_34 ?_
  refine lv_iload_n hx hb dX7_init_37 rfl (lv_at hl 0 rfl) ?_
  refine W_end (fun hze => ?_)
  have hz := n_hz hw11 hRg_b_20.2.2.2.2.2.2.2.2.1.1 hze (by omega)
  clear hze
  refine n_new (ci := 5) (sl := [.inr none, .inr none, .inr none, .inr none, .inr none, .inr none, .inr none, .inr none, .inr none, .inl 0, .inl 0, .inl 0, .inl 0]) hC hw11 hS11 hz (by omega) q_79 q_40 q_41 inX5 tyX5 tyX5_ok rfl (by decide) (by show _ ≤ (64 : Nat); omega) (by show _ ≤ (1154 : Nat); omega) dX7_init_38 (fun H hw12 hzf hS12 => ?_)
  clear hw11 hS11
  clear hzf hz
  refine W.widen (k := 29) (n := 511) (by omega) (by omega) ?_
  have hwk := hw12.name
  clear hw12
  obtain ⟨L12, σ12, M12, N12, hw12, eL, eσ, eM, eN⟩ := hwk
  have hLn : ∀ q ∈ L11, q ∈ L12 := fun q h => by rw [eL]; exact List.mem_append_left _ h
  have hsn : ∀ q, (q < b + 29 ∨ b + 29 + 1 ≤ q) → σ12 q = σ11 q := fun q h => by rw [eσ]; exact up_out q h
  have hmn : ∀ q, (q < b + 29 ∨ b + 29 + 1 ≤ q) → M12 q = M11 q := fun q h => by rw [eM]; exact up_out q h
  have hnn : ∀ q, (q < b + 29 ∨ b + 29 + 1 ≤ q) → N12 q = N11 q := fun q h => by rw [eN]; exact up_out q h
  replace hA : ∀ q ∈ L12, cA0 L (b + 1) q := by rw [eL]; exact hA_snoc hA (Or.inr (by omega))
  replace hLe : L12 = L ++ List.range' (b + 1) 29 := by rw [eL]; exact (congrArg (fun t => t ++ _) hLe).trans (snoc_r (by omega))
  replace hKd_kd : oKinds (gE g L12 σ12) kd := oKinds_mono hKd_kd hLn (fun q h1 h2 => hsn q (by omega))
  replace hRg_b_1 : oRing (gE g L12 σ12) kd (b + 1) := oRing_mono hRg_b_1 hLn (fun q h1 h2 => hsn q (by omega)) (fun q h1 h2 => hsn q (by omega))
  replace ho_b : Ft L12 σ12 (b) (.inr (7, [.inr (some (b + 1)), .inr (some (b + 10)), .inl 0, .inl 0])) := Ft.mono ho_b hLn (hsn _ (by omega))
  replace hRg_b_11 : oRing (gE g L12 σ12) kd (b + 11) := oRing_mono hRg_b_11 hLn (fun q h1 h2 => hsn q (by omega)) (fun q h1 h2 => hsn q (by omega))
  replace hRg_b_20 : oRing (gE g L12 σ12) kd (b + 20) := oRing_mono hRg_b_20 hLn (fun q h1 h2 => hsn q (by omega)) (fun q h1 h2 => hsn q (by omega))
  replace hr_b_10 : Ft L12 σ12 (b + 10) (.inl (eR g, 6, some (va_up (va_up (fun _ => none) (0 : Int32).toNatClampNeg (some (b + 11))) (1 : Int32).toNatClampNeg (some (b + 20))))) := Ft.mono hr_b_10 hLn (hsn _ (by omega))
  replace mm_b_2 : M12 b 2 = 0 := by rw [hmn _ (by omega)]; exact mm_b_2
  replace mm_b_3 : M12 b 3 = 0 := by rw [hmn _ (by omega)]; exact mm_b_3
  replace mrI_b_1 : rInit M12 (b + 1) := rInit_mono mrI_b_1 (fun q h1 h2 => hmn q (by omega))
  replace mrI_b_11 : rInit M12 (b + 11) := rInit_mono mrI_b_11 (fun q h1 h2 => hmn q (by omega))
  replace mrI_b_20 : rInit M12 (b + 20) := rInit_mono mrI_b_20 (fun q h1 h2 => hmn q (by omega))
  replace hσo : ∀ q, (q < b ∨ b + 65 ≤ q) → σ12 q = σ q := fun q h => (hsn q (by omega)).trans (hσo q h)
  replace hMo : ∀ q, (q < b ∨ b + 65 ≤ q) → M12 q = M q := fun q h => (hmn q (by omega)).trans (hMo q h)
  replace hNo : ∀ q, (q < b ∨ b + 65 ≤ q) → N12 q = N q := fun q h => (hnn q (by omega)).trans (hNo q h)
  clear hLn hsn hmn hnn
  have ho_b_29 : Ft L12 σ12 (b + 29) (.inr (5, [.inr none, .inr none, .inr none, .inr none, .inr none, .inr none, .inr none, .inr none, .inr none, .inl 0, .inl 0, .inl 0, .inl 0])) := ⟨by rw [eL]; simp, by rw [eσ]; exact va_up_self _ _ _⟩
  clear eL eσ eM eN
  refine lv_dup hx hb dX7_init_41 rfl ?_
  refine lv_aload_n hx hb dX7_init_42 rfl (lv_at hl 2 rfl) ?_
  refine W_end (fun hze => ?_)
  have hz := n_hz hw12 ho_b_29.1 hze (by omega)
  clear hze
  refine n_callI (na := 1) (As := [.ref kd]) (rest := [.ref (b + 29), .int (2 : Int32), .ref (b + 10)]) hC hw12 hS12 hA (fun q h => Or.inr (by omega)) hB hz (kc_X5_init (a := b + 29) (kd := kd) (by omega) (by omega) hKd_kd ho_b_29) ⟨q_86, q_41, by decide, by decide, by decide⟩ q_84 q_85 rfl ⟨by decide, by decide, by show _ ≤ (64 : Nat); omega, by show _ ≤ (1154 : Nat); omega⟩ rfl hl.1 rfl (Nat.le_of_ble_eq_true rfl) dX7_init_43 (fun u H locs hpost hwp hS13 => ?_)
  refine W.widen (k := 37) (n := 662) (by omega) (by omega) ?_
  obtain ⟨L13, σ13, M13, N13⟩ := u
  obtain ⟨⟨eL, hsn, hmn, hnn⟩, p0, p1⟩ := hpost
  simp only at eL hsn hmn hnn hwp
  have hLn : ∀ q ∈ L12, q ∈ L13 := fun q h => by rw [eL]; exact List.mem_append_left _ h
  replace hA : ∀ q ∈ L13, cA0 L (b + 1) q := by rw [eL]; exact hA_app hA (fun q h => Or.inr (by omega))
  replace hLe : L13 = L ++ List.range' (b + 1) 37 := by rw [eL]; exact (congrArg (fun t => t ++ _) hLe).trans (app_r (by omega))
  have hw13 : Wc g z0 L13 σ13 M13 N13 H := ⟨hwp, by rw [eL]; exact nd_app hw12.2.1 (fun q h => by have := wP_lt hw12.1 h; omega), by rw [eL]; exact ge_app hw12.2.2 (by omega)⟩
  clear hwp hz hw12 hS12
  clear ho_b_29
  replace hKd_kd : oKinds (gE g L13 σ13) kd := oKinds_mono hKd_kd hLn (fun q h1 h2 => hsn q (by omega))
  replace hRg_b_1 : oRing (gE g L13 σ13) kd (b + 1) := oRing_mono hRg_b_1 hLn (fun q h1 h2 => hsn q (by omega)) (fun q h1 h2 => hsn q (by omega))
  replace ho_b : Ft L13 σ13 (b) (.inr (7, [.inr (some (b + 1)), .inr (some (b + 10)), .inl 0, .inl 0])) := Ft.mono ho_b hLn (hsn _ (by omega))
  replace hRg_b_11 : oRing (gE g L13 σ13) kd (b + 11) := oRing_mono hRg_b_11 hLn (fun q h1 h2 => hsn q (by omega)) (fun q h1 h2 => hsn q (by omega))
  replace hRg_b_20 : oRing (gE g L13 σ13) kd (b + 20) := oRing_mono hRg_b_20 hLn (fun q h1 h2 => hsn q (by omega)) (fun q h1 h2 => hsn q (by omega))
  replace hr_b_10 : Ft L13 σ13 (b + 10) (.inl (eR g, 6, some (va_up (va_up (fun _ => none) (0 : Int32).toNatClampNeg (some (b + 11))) (1 : Int32).toNatClampNeg (some (b + 20))))) := Ft.mono hr_b_10 hLn (hsn _ (by omega))
  replace mm_b_2 : M13 b 2 = 0 := by rw [hmn _ (by omega)]; exact mm_b_2
  replace mm_b_3 : M13 b 3 = 0 := by rw [hmn _ (by omega)]; exact mm_b_3
  replace mrI_b_1 : rInit M13 (b + 1) := rInit_mono mrI_b_1 (fun q h1 h2 => hmn q (by omega))
  replace mrI_b_11 : rInit M13 (b + 11) := rInit_mono mrI_b_11 (fun q h1 h2 => hmn q (by omega))
  replace mrI_b_20 : rInit M13 (b + 20) := rInit_mono mrI_b_20 (fun q h1 h2 => hmn q (by omega))
  replace hσo : ∀ q, (q < b ∨ b + 65 ≤ q) → σ13 q = σ q := fun q h => (hsn q (by omega)).trans (hσo q h)
  replace hMo : ∀ q, (q < b ∨ b + 65 ≤ q) → M13 q = M q := fun q h => (hmn q (by omega)).trans (hMo q h)
  replace hNo : ∀ q, (q < b ∨ b + 65 ≤ q) → N13 q = N q := fun q h => (hnn q (by omega)).trans (hNo q h)
  clear hLn hsn hmn hnn
  have hRg_b_29 : oRing (gE g L13 σ13) kd (b + 29) := p0
  have mrI_b_29 : rInit M13 (b + 29) := p1
  clear eL p0 p1
  refine n_aast (t0 := 3) hC hw13 hS13 hA hr_b_10.1 hr_b_10.2 rfl hRg_b_29.1.1 hRg_b_29.1.2 rfl (Or.inl rfl) (vin_c 2 rfl) dX7_init_46 (fun H locs hw14 hS14 => ?_)
  clear hw13 hS13
  have hwk := hw14.name
  clear hw14
  obtain ⟨L14, σ14, M14, N14, hw14, eL, eσ, eM, eN⟩ := hwk
  have hLn : ∀ q ∈ L13, q ∈ L14 := fun q h => by rw [eL]; exact h
  have hsn : ∀ q, (q < b + 10 ∨ b + 10 + 1 ≤ q) → σ14 q = σ13 q := fun q h => by rw [eσ]; exact up_out q h
  have hmn : ∀ q, (q < 0 ∨ 0 ≤ q) → M14 q = M13 q := fun q h => by rw [eM]
  have hnn : ∀ q, (q < 0 ∨ 0 ≤ q) → N14 q = N13 q := fun q h => by rw [eN]
  replace hA : ∀ q ∈ L14, cA0 L (b + 1) q := by rw [eL]; exact hA
  replace hLe : L14 = L ++ List.range' (b + 1) 37 := eL.trans hLe
  have mem_o := hr_b_10.1
  clear hr_b_10
  replace hKd_kd : oKinds (gE g L14 σ14) kd := oKinds_mono hKd_kd hLn (fun q h1 h2 => hsn q (by omega))
  replace hRg_b_1 : oRing (gE g L14 σ14) kd (b + 1) := oRing_mono hRg_b_1 hLn (fun q h1 h2 => hsn q (by omega)) (fun q h1 h2 => hsn q (by omega))
  replace ho_b : Ft L14 σ14 (b) (.inr (7, [.inr (some (b + 1)), .inr (some (b + 10)), .inl 0, .inl 0])) := Ft.mono ho_b hLn (hsn _ (by omega))
  replace hRg_b_11 : oRing (gE g L14 σ14) kd (b + 11) := oRing_mono hRg_b_11 hLn (fun q h1 h2 => hsn q (by omega)) (fun q h1 h2 => hsn q (by omega))
  replace hRg_b_20 : oRing (gE g L14 σ14) kd (b + 20) := oRing_mono hRg_b_20 hLn (fun q h1 h2 => hsn q (by omega)) (fun q h1 h2 => hsn q (by omega))
  replace hRg_b_29 : oRing (gE g L14 σ14) kd (b + 29) := oRing_mono hRg_b_29 hLn (fun q h1 h2 => hsn q (by omega)) (fun q h1 h2 => hsn q (by omega))
  replace mm_b_2 : M14 b 2 = 0 := by rw [hmn _ (by omega)]; exact mm_b_2
  replace mm_b_3 : M14 b 3 = 0 := by rw [hmn _ (by omega)]; exact mm_b_3
  replace mrI_b_1 : rInit M14 (b + 1) := rInit_mono mrI_b_1 (fun q h1 h2 => hmn q (by omega))
  replace mrI_b_11 : rInit M14 (b + 11) := rInit_mono mrI_b_11 (fun q h1 h2 => hmn q (by omega))
  replace mrI_b_20 : rInit M14 (b + 20) := rInit_mono mrI_b_20 (fun q h1 h2 => hmn q (by omega))
  replace mrI_b_29 : rInit M14 (b + 29) := rInit_mono mrI_b_29 (fun q h1 h2 => hmn q (by omega))
  replace hσo : ∀ q, (q < b ∨ b + 65 ≤ q) → σ14 q = σ q := fun q h => (hsn q (by omega)).trans (hσo q h)
  replace hMo : ∀ q, (q < b ∨ b + 65 ≤ q) → M14 q = M q := fun q h => (hmn q (by omega)).trans (hMo q h)
  replace hNo : ∀ q, (q < b ∨ b + 65 ≤ q) → N14 q = N q := fun q h => (hnn q (by omega)).trans (hNo q h)
  clear hLn hsn hmn hnn
  have hr_b_10 : Ft L14 σ14 (b + 10) (.inl (eR g, 6, some (va_up (va_up (va_up (fun _ => none) (0 : Int32).toNatClampNeg (some (b + 11))) (1 : Int32).toNatClampNeg (some (b + 20))) (2 : Int32).toNatClampNeg (some (b + 29))))) := ⟨by rw [eL]; exact mem_o, by rw [eσ]; exact va_up_self _ _ _⟩
  clear mem_o eL eσ eM eN
  refine lv_iinc (v := (3 : Int32)) (lv' := [(2, .int (3 : Int32)), (0, .ref b), (1, .ref kd)]) hx hb dX7_init_47 hl (k := 0) rfl (by decide) (by decide) rfl (fun ls hl => ?_)
  refine lv_goto (tgt := 27) hx hb dX7_init_50 (by decide) ?_
  refine lv_iload_n hx hb dX7_init_27 rfl (lv_at hl 0 rfl) ?_
  refine lv_bipush (v := (6 : Int32)) hx hb dX7_init_28 (by decide) ?_
  refine lv_icmp_ge (tgt := 53) hx hb dX7_init_30 (by decide) (fun hc => absurd hc (by decide)) (fun _ => ?_)
  refine lv_aload_n hx hb dX7_init_33 rfl (lv_at hl 1 rfl) ?_
  refine n_getR hC hw14 ho_b.1 ho_b.2 fl_X7_20 rfl dX7_init_34 ?_
  refine lv_iload_n hx hb dX7_init_37 rfl (lv_at hl 0 rfl) ?_
  refine W_end (fun hze => ?_)
  have hz := n_hz hw14 hRg_b_29.2.2.2.2.2.2.2.2.1.1 hze (by omega)
  clear hze
  refine n_new (ci := 5) (sl := [.inr none, .inr none, .inr none, .inr none, .inr none, .inr none, .inr none, .inr none, .inr none, .inl 0, .inl 0, .inl 0, .inl 0]) hC hw14 hS14 hz (by omega) q_79 q_40 q_41 inX5 tyX5 tyX5_ok rfl (by decide) (by show _ ≤ (64 : Nat); omega) (by show _ ≤ (1154 : Nat); omega) dX7_init_38 (fun H hw15 hzf hS15 => ?_)
  clear hw14 hS14
  clear hzf hz
  refine W.widen (k := 38) (n := 675) (by omega) (by omega) ?_
  have hwk := hw15.name
  clear hw15
  obtain ⟨L15, σ15, M15, N15, hw15, eL, eσ, eM, eN⟩ := hwk
  have hLn : ∀ q ∈ L14, q ∈ L15 := fun q h => by rw [eL]; exact List.mem_append_left _ h
  have hsn : ∀ q, (q < b + 38 ∨ b + 38 + 1 ≤ q) → σ15 q = σ14 q := fun q h => by rw [eσ]; exact up_out q h
  have hmn : ∀ q, (q < b + 38 ∨ b + 38 + 1 ≤ q) → M15 q = M14 q := fun q h => by rw [eM]; exact up_out q h
  have hnn : ∀ q, (q < b + 38 ∨ b + 38 + 1 ≤ q) → N15 q = N14 q := fun q h => by rw [eN]; exact up_out q h
  replace hA : ∀ q ∈ L15, cA0 L (b + 1) q := by rw [eL]; exact hA_snoc hA (Or.inr (by omega))
  replace hLe : L15 = L ++ List.range' (b + 1) 38 := by rw [eL]; exact (congrArg (fun t => t ++ _) hLe).trans (snoc_r (by omega))
  replace hKd_kd : oKinds (gE g L15 σ15) kd := oKinds_mono hKd_kd hLn (fun q h1 h2 => hsn q (by omega))
  replace hRg_b_1 : oRing (gE g L15 σ15) kd (b + 1) := oRing_mono hRg_b_1 hLn (fun q h1 h2 => hsn q (by omega)) (fun q h1 h2 => hsn q (by omega))
  replace ho_b : Ft L15 σ15 (b) (.inr (7, [.inr (some (b + 1)), .inr (some (b + 10)), .inl 0, .inl 0])) := Ft.mono ho_b hLn (hsn _ (by omega))
  replace hRg_b_11 : oRing (gE g L15 σ15) kd (b + 11) := oRing_mono hRg_b_11 hLn (fun q h1 h2 => hsn q (by omega)) (fun q h1 h2 => hsn q (by omega))
  replace hRg_b_20 : oRing (gE g L15 σ15) kd (b + 20) := oRing_mono hRg_b_20 hLn (fun q h1 h2 => hsn q (by omega)) (fun q h1 h2 => hsn q (by omega))
  replace hRg_b_29 : oRing (gE g L15 σ15) kd (b + 29) := oRing_mono hRg_b_29 hLn (fun q h1 h2 => hsn q (by omega)) (fun q h1 h2 => hsn q (by omega))
  replace hr_b_10 : Ft L15 σ15 (b + 10) (.inl (eR g, 6, some (va_up (va_up (va_up (fun _ => none) (0 : Int32).toNatClampNeg (some (b + 11))) (1 : Int32).toNatClampNeg (some (b + 20))) (2 : Int32).toNatClampNeg (some (b + 29))))) := Ft.mono hr_b_10 hLn (hsn _ (by omega))
  replace mm_b_2 : M15 b 2 = 0 := by rw [hmn _ (by omega)]; exact mm_b_2
  replace mm_b_3 : M15 b 3 = 0 := by rw [hmn _ (by omega)]; exact mm_b_3
  replace mrI_b_1 : rInit M15 (b + 1) := rInit_mono mrI_b_1 (fun q h1 h2 => hmn q (by omega))
  replace mrI_b_11 : rInit M15 (b + 11) := rInit_mono mrI_b_11 (fun q h1 h2 => hmn q (by omega))
  replace mrI_b_20 : rInit M15 (b + 20) := rInit_mono mrI_b_20 (fun q h1 h2 => hmn q (by omega))
  replace mrI_b_29 : rInit M15 (b + 29) := rInit_mono mrI_b_29 (fun q h1 h2 => hmn q (by omega))
  replace hσo : ∀ q, (q < b ∨ b + 65 ≤ q) → σ15 q = σ q := fun q h => (hsn q (by omega)).trans (hσo q h)
  replace hMo : ∀ q, (q < b ∨ b + 65 ≤ q) → M15 q = M q := fun q h => (hmn q (by omega)).trans (hMo q h)
  replace hNo : ∀ q, (q < b ∨ b + 65 ≤ q) → N15 q = N q := fun q h => (hnn q (by omega)).trans (hNo q h)
  clear hLn hsn hmn hnn
  have ho_b_38 : Ft L15 σ15 (b + 38) (.inr (5, [.inr none, .inr none, .inr none, .inr none, .inr none, .inr none, .inr none, .inr none, .inr none, .inl 0, .inl 0, .inl 0, .inl 0])) := ⟨by rw [eL]; simp, by rw [eσ]; exact va_up_self _ _ _⟩
  clear eL eσ eM eN
  refine lv_dup hx hb dX7_init_41 rfl ?_
  refine lv_aload_n hx hb dX7_init_42 rfl (lv_at hl 2 rfl) ?_
  refine W_end (fun hze => ?_)
  have hz := n_hz hw15 ho_b_38.1 hze (by omega)
  clear hze
  refine n_callI (na := 1) (As := [.ref kd]) (rest := [.ref (b + 38), .int (3 : Int32), .ref (b + 10)]) hC hw15 hS15 hA (fun q h => Or.inr (by omega)) hB hz (kc_X5_init (a := b + 38) (kd := kd) (by omega) (by omega) hKd_kd ho_b_38) ⟨q_86, q_41, by decide, by decide, by decide⟩ q_84 q_85 rfl ⟨by decide, by decide, by show _ ≤ (64 : Nat); omega, by show _ ≤ (1154 : Nat); omega⟩ rfl hl.1 rfl (Nat.le_of_ble_eq_true rfl) dX7_init_43 (fun u H locs hpost hwp hS16 => ?_)
  refine W.widen (k := 46) (n := 826) (by omega) (by omega) ?_
  obtain ⟨L16, σ16, M16, N16⟩ := u
  obtain ⟨⟨eL, hsn, hmn, hnn⟩, p0, p1⟩ := hpost
  simp only at eL hsn hmn hnn hwp
  have hLn : ∀ q ∈ L15, q ∈ L16 := fun q h => by rw [eL]; exact List.mem_append_left _ h
  replace hA : ∀ q ∈ L16, cA0 L (b + 1) q := by rw [eL]; exact hA_app hA (fun q h => Or.inr (by omega))
  replace hLe : L16 = L ++ List.range' (b + 1) 46 := by rw [eL]; exact (congrArg (fun t => t ++ _) hLe).trans (app_r (by omega))
  have hw16 : Wc g z0 L16 σ16 M16 N16 H := ⟨hwp, by rw [eL]; exact nd_app hw15.2.1 (fun q h => by have := wP_lt hw15.1 h; omega), by rw [eL]; exact ge_app hw15.2.2 (by omega)⟩
  clear hwp hz hw15 hS15
  clear ho_b_38
  replace hKd_kd : oKinds (gE g L16 σ16) kd := oKinds_mono hKd_kd hLn (fun q h1 h2 => hsn q (by omega))
  replace hRg_b_1 : oRing (gE g L16 σ16) kd (b + 1) := oRing_mono hRg_b_1 hLn (fun q h1 h2 => hsn q (by omega)) (fun q h1 h2 => hsn q (by omega))
  replace ho_b : Ft L16 σ16 (b) (.inr (7, [.inr (some (b + 1)), .inr (some (b + 10)), .inl 0, .inl 0])) := Ft.mono ho_b hLn (hsn _ (by omega))
  replace hRg_b_11 : oRing (gE g L16 σ16) kd (b + 11) := oRing_mono hRg_b_11 hLn (fun q h1 h2 => hsn q (by omega)) (fun q h1 h2 => hsn q (by omega))
  replace hRg_b_20 : oRing (gE g L16 σ16) kd (b + 20) := oRing_mono hRg_b_20 hLn (fun q h1 h2 => hsn q (by omega)) (fun q h1 h2 => hsn q (by omega))
  replace hRg_b_29 : oRing (gE g L16 σ16) kd (b + 29) := oRing_mono hRg_b_29 hLn (fun q h1 h2 => hsn q (by omega)) (fun q h1 h2 => hsn q (by omega))
  replace hr_b_10 : Ft L16 σ16 (b + 10) (.inl (eR g, 6, some (va_up (va_up (va_up (fun _ => none) (0 : Int32).toNatClampNeg (some (b + 11))) (1 : Int32).toNatClampNeg (some (b + 20))) (2 : Int32).toNatClampNeg (some (b + 29))))) := Ft.mono hr_b_10 hLn (hsn _ (by omega))
  replace mm_b_2 : M16 b 2 = 0 := by rw [hmn _ (by omega)]; exact mm_b_2
  replace mm_b_3 : M16 b 3 = 0 := by rw [hmn _ (by omega)]; exact mm_b_3
  replace mrI_b_1 : rInit M16 (b + 1) := rInit_mono mrI_b_1 (fun q h1 h2 => hmn q (by omega))
  replace mrI_b_11 : rInit M16 (b + 11) := rInit_mono mrI_b_11 (fun q h1 h2 => hmn q (by omega))
  replace mrI_b_20 : rInit M16 (b + 20) := rInit_mono mrI_b_20 (fun q h1 h2 => hmn q (by omega))
  replace mrI_b_29 : rInit M16 (b + 29) := rInit_mono mrI_b_29 (fun q h1 h2 => hmn q (by omega))
  replace hσo : ∀ q, (q < b ∨ b + 65 ≤ q) → σ16 q = σ q := fun q h => (hsn q (by omega)).trans (hσo q h)
  replace hMo : ∀ q, (q < b ∨ b + 65 ≤ q) → M16 q = M q := fun q h => (hmn q (by omega)).trans (hMo q h)
  replace hNo : ∀ q, (q < b ∨ b + 65 ≤ q) → N16 q = N q := fun q h => (hnn q (by omega)).trans (hNo q h)
  clear hLn hsn hmn hnn
  have hRg_b_38 : oRing (gE g L16 σ16) kd (b + 38) := p0
  have mrI_b_38 : rInit M16 (b + 38) := p1
  clear eL p0 p1
  refine n_aast (t0 := 3) hC hw16 hS16 hA hr_b_10.1 hr_b_10.2 rfl hRg_b_38.1.1 hRg_b_38.1.2 rfl (Or.inl rfl) (vin_c 3 rfl) dX7_init_46 (fun H locs hw17 hS17 => ?_)
  clear hw16 hS16
  have hwk := hw17.name
  clear hw17
  obtain ⟨L17, σ17, M17, N17, hw17, eL, eσ, eM, eN⟩ := hwk
  have hLn : ∀ q ∈ L16, q ∈ L17 := fun q h => by rw [eL]; exact h
  have hsn : ∀ q, (q < b + 10 ∨ b + 10 + 1 ≤ q) → σ17 q = σ16 q := fun q h => by rw [eσ]; exact up_out q h
  have hmn : ∀ q, (q < 0 ∨ 0 ≤ q) → M17 q = M16 q := fun q h => by rw [eM]
  have hnn : ∀ q, (q < 0 ∨ 0 ≤ q) → N17 q = N16 q := fun q h => by rw [eN]
  replace hA : ∀ q ∈ L17, cA0 L (b + 1) q := by rw [eL]; exact hA
  replace hLe : L17 = L ++ List.range' (b + 1) 46 := eL.trans hLe
  have mem_o := hr_b_10.1
  clear hr_b_10
  replace hKd_kd : oKinds (gE g L17 σ17) kd := oKinds_mono hKd_kd hLn (fun q h1 h2 => hsn q (by omega))
  replace hRg_b_1 : oRing (gE g L17 σ17) kd (b + 1) := oRing_mono hRg_b_1 hLn (fun q h1 h2 => hsn q (by omega)) (fun q h1 h2 => hsn q (by omega))
  replace ho_b : Ft L17 σ17 (b) (.inr (7, [.inr (some (b + 1)), .inr (some (b + 10)), .inl 0, .inl 0])) := Ft.mono ho_b hLn (hsn _ (by omega))
  replace hRg_b_11 : oRing (gE g L17 σ17) kd (b + 11) := oRing_mono hRg_b_11 hLn (fun q h1 h2 => hsn q (by omega)) (fun q h1 h2 => hsn q (by omega))
  replace hRg_b_20 : oRing (gE g L17 σ17) kd (b + 20) := oRing_mono hRg_b_20 hLn (fun q h1 h2 => hsn q (by omega)) (fun q h1 h2 => hsn q (by omega))
  replace hRg_b_29 : oRing (gE g L17 σ17) kd (b + 29) := oRing_mono hRg_b_29 hLn (fun q h1 h2 => hsn q (by omega)) (fun q h1 h2 => hsn q (by omega))
  replace hRg_b_38 : oRing (gE g L17 σ17) kd (b + 38) := oRing_mono hRg_b_38 hLn (fun q h1 h2 => hsn q (by omega)) (fun q h1 h2 => hsn q (by omega))
  replace mm_b_2 : M17 b 2 = 0 := by rw [hmn _ (by omega)]; exact mm_b_2
  replace mm_b_3 : M17 b 3 = 0 := by rw [hmn _ (by omega)]; exact mm_b_3
  replace mrI_b_1 : rInit M17 (b + 1) := rInit_mono mrI_b_1 (fun q h1 h2 => hmn q (by omega))
  replace mrI_b_11 : rInit M17 (b + 11) := rInit_mono mrI_b_11 (fun q h1 h2 => hmn q (by omega))
  replace mrI_b_20 : rInit M17 (b + 20) := rInit_mono mrI_b_20 (fun q h1 h2 => hmn q (by omega))
  replace mrI_b_29 : rInit M17 (b + 29) := rInit_mono mrI_b_29 (fun q h1 h2 => hmn q (by omega))
  replace mrI_b_38 : rInit M17 (b + 38) := rInit_mono mrI_b_38 (fun q h1 h2 => hmn q (by omega))
  replace hσo : ∀ q, (q < b ∨ b + 65 ≤ q) → σ17 q = σ q := fun q h => (hsn q (by omega)).trans (hσo q h)
  replace hMo : ∀ q, (q < b ∨ b + 65 ≤ q) → M17 q = M q := fun q h => (hmn q (by omega)).trans (hMo q h)
  replace hNo : ∀ q, (q < b ∨ b + 65 ≤ q) → N17 q = N q := fun q h => (hnn q (by omega)).trans (hNo q h)
  clear hLn hsn hmn hnn
  have hr_b_10 : Ft L17 σ17 (b + 10) (.inl (eR g, 6, some (va_up (va_up (va_up (va_up (fun _ => none) (0 : Int32).toNatClampNeg (some (b + 11))) (1 : Int32).toNatClampNeg (some (b + 20))) (2 : Int32).toNatClampNeg (some (b + 29))) (3 : Int32).toNatClampNeg (some (b + 38))))) := ⟨by rw [eL]; exact mem_o, by rw [eσ]; exact va_up_self _ _ _⟩
  clear mem_o eL eσ eM eN
  refine lv_iinc (v := (4 : Int32)) (lv' := [(2, .int (4 : Int32)), (0, .ref b), (1, .ref kd)]) hx hb dX7_init_47 hl (k := 0) rfl (by decide) (by decide) rfl (fun ls hl => ?_)
  refine lv_goto (tgt := 27) hx hb dX7_init_50 (by decide) ?_
  refine lv_iload_n hx hb dX7_init_27 rfl (lv_at hl 0 rfl) ?_
  refine lv_bipush (v := (6 : Int32)) hx hb dX7_init_28 (by decide) ?_
  refine lv_icmp_ge (tgt := 53) hx hb dX7_init_30 (by decide) (fun hc => absurd hc (by decide)) (fun _ => ?_)
  refine lv_aload_n hx hb dX7_init_33 rfl (lv_at hl 1 rfl) ?_
  refine n_getR hC hw17 ho_b.1 ho_b.2 fl_X7_20 rfl dX7_init_34 ?_
  refine lv_iload_n hx hb dX7_init_37 rfl (lv_at hl 0 rfl) ?_
  refine W_end (fun hze => ?_)
  have hz := n_hz hw17 hRg_b_38.2.2.2.2.2.2.2.2.1.1 hze (by omega)
  clear hze
  refine n_new (ci := 5) (sl := [.inr none, .inr none, .inr none, .inr none, .inr none, .inr none, .inr none, .inr none, .inr none, .inl 0, .inl 0, .inl 0, .inl 0]) hC hw17 hS17 hz (by omega) q_79 q_40 q_41 inX5 tyX5 tyX5_ok rfl (by decide) (by show _ ≤ (64 : Nat); omega) (by show _ ≤ (1154 : Nat); omega) dX7_init_38 (fun H hw18 hzf hS18 => ?_)
  clear hw17 hS17
  clear hzf hz
  refine W.widen (k := 47) (n := 839) (by omega) (by omega) ?_
  have hwk := hw18.name
  clear hw18
  obtain ⟨L18, σ18, M18, N18, hw18, eL, eσ, eM, eN⟩ := hwk
  have hLn : ∀ q ∈ L17, q ∈ L18 := fun q h => by rw [eL]; exact List.mem_append_left _ h
  have hsn : ∀ q, (q < b + 47 ∨ b + 47 + 1 ≤ q) → σ18 q = σ17 q := fun q h => by rw [eσ]; exact up_out q h
  have hmn : ∀ q, (q < b + 47 ∨ b + 47 + 1 ≤ q) → M18 q = M17 q := fun q h => by rw [eM]; exact up_out q h
  have hnn : ∀ q, (q < b + 47 ∨ b + 47 + 1 ≤ q) → N18 q = N17 q := fun q h => by rw [eN]; exact up_out q h
  replace hA : ∀ q ∈ L18, cA0 L (b + 1) q := by rw [eL]; exact hA_snoc hA (Or.inr (by omega))
  replace hLe : L18 = L ++ List.range' (b + 1) 47 := by rw [eL]; exact (congrArg (fun t => t ++ _) hLe).trans (snoc_r (by omega))
  replace hKd_kd : oKinds (gE g L18 σ18) kd := oKinds_mono hKd_kd hLn (fun q h1 h2 => hsn q (by omega))
  replace hRg_b_1 : oRing (gE g L18 σ18) kd (b + 1) := oRing_mono hRg_b_1 hLn (fun q h1 h2 => hsn q (by omega)) (fun q h1 h2 => hsn q (by omega))
  replace ho_b : Ft L18 σ18 (b) (.inr (7, [.inr (some (b + 1)), .inr (some (b + 10)), .inl 0, .inl 0])) := Ft.mono ho_b hLn (hsn _ (by omega))
  replace hRg_b_11 : oRing (gE g L18 σ18) kd (b + 11) := oRing_mono hRg_b_11 hLn (fun q h1 h2 => hsn q (by omega)) (fun q h1 h2 => hsn q (by omega))
  replace hRg_b_20 : oRing (gE g L18 σ18) kd (b + 20) := oRing_mono hRg_b_20 hLn (fun q h1 h2 => hsn q (by omega)) (fun q h1 h2 => hsn q (by omega))
  replace hRg_b_29 : oRing (gE g L18 σ18) kd (b + 29) := oRing_mono hRg_b_29 hLn (fun q h1 h2 => hsn q (by omega)) (fun q h1 h2 => hsn q (by omega))
  replace hRg_b_38 : oRing (gE g L18 σ18) kd (b + 38) := oRing_mono hRg_b_38 hLn (fun q h1 h2 => hsn q (by omega)) (fun q h1 h2 => hsn q (by omega))
  replace hr_b_10 : Ft L18 σ18 (b + 10) (.inl (eR g, 6, some (va_up (va_up (va_up (va_up (fun _ => none) (0 : Int32).toNatClampNeg (some (b + 11))) (1 : Int32).toNatClampNeg (some (b + 20))) (2 : Int32).toNatClampNeg (some (b + 29))) (3 : Int32).toNatClampNeg (some (b + 38))))) := Ft.mono hr_b_10 hLn (hsn _ (by omega))
  replace mm_b_2 : M18 b 2 = 0 := by rw [hmn _ (by omega)]; exact mm_b_2
  replace mm_b_3 : M18 b 3 = 0 := by rw [hmn _ (by omega)]; exact mm_b_3
  replace mrI_b_1 : rInit M18 (b + 1) := rInit_mono mrI_b_1 (fun q h1 h2 => hmn q (by omega))
  replace mrI_b_11 : rInit M18 (b + 11) := rInit_mono mrI_b_11 (fun q h1 h2 => hmn q (by omega))
  replace mrI_b_20 : rInit M18 (b + 20) := rInit_mono mrI_b_20 (fun q h1 h2 => hmn q (by omega))
  replace mrI_b_29 : rInit M18 (b + 29) := rInit_mono mrI_b_29 (fun q h1 h2 => hmn q (by omega))
  replace mrI_b_38 : rInit M18 (b + 38) := rInit_mono mrI_b_38 (fun q h1 h2 => hmn q (by omega))
  replace hσo : ∀ q, (q < b ∨ b + 65 ≤ q) → σ18 q = σ q := fun q h => (hsn q (by omega)).trans (hσo q h)
  replace hMo : ∀ q, (q < b ∨ b + 65 ≤ q) → M18 q = M q := fun q h => (hmn q (by omega)).trans (hMo q h)
  replace hNo : ∀ q, (q < b ∨ b + 65 ≤ q) → N18 q = N q := fun q h => (hnn q (by omega)).trans (hNo q h)
  clear hLn hsn hmn hnn
  have ho_b_47 : Ft L18 σ18 (b + 47) (.inr (5, [.inr none, .inr none, .inr none, .inr none, .inr none, .inr none, .inr none, .inr none, .inr none, .inl 0, .inl 0, .inl 0, .inl 0])) := ⟨by rw [eL]; simp, by rw [eσ]; exact va_up_self _ _ _⟩
  clear eL eσ eM eN
  refine lv_dup hx hb dX7_init_41 rfl ?_
  refine lv_aload_n hx hb dX7_init_42 rfl (lv_at hl 2 rfl) ?_
  refine W_end (fun hze => ?_)
  have hz := n_hz hw18 ho_b_47.1 hze (by omega)
  clear hze
  refine n_callI (na := 1) (As := [.ref kd]) (rest := [.ref (b + 47), .int (4 : Int32), .ref (b + 10)]) hC hw18 hS18 hA (fun q h => Or.inr (by omega)) hB hz (kc_X5_init (a := b + 47) (kd := kd) (by omega) (by omega) hKd_kd ho_b_47) ⟨q_86, q_41, by decide, by decide, by decide⟩ q_84 q_85 rfl ⟨by decide, by decide, by show _ ≤ (64 : Nat); omega, by show _ ≤ (1154 : Nat); omega⟩ rfl hl.1 rfl (Nat.le_of_ble_eq_true rfl) dX7_init_43 (fun u H locs hpost hwp hS19 => ?_)
  refine W.widen (k := 55) (n := 990) (by omega) (by omega) ?_
  obtain ⟨L19, σ19, M19, N19⟩ := u
  obtain ⟨⟨eL, hsn, hmn, hnn⟩, p0, p1⟩ := hpost
  simp only at eL hsn hmn hnn hwp
  have hLn : ∀ q ∈ L18, q ∈ L19 := fun q h => by rw [eL]; exact List.mem_append_left _ h
  replace hA : ∀ q ∈ L19, cA0 L (b + 1) q := by rw [eL]; exact hA_app hA (fun q h => Or.inr (by omega))
  replace hLe : L19 = L ++ List.range' (b + 1) 55 := by rw [eL]; exact (congrArg (fun t => t ++ _) hLe).trans (app_r (by omega))
  have hw19 : Wc g z0 L19 σ19 M19 N19 H := ⟨hwp, by rw [eL]; exact nd_app hw18.2.1 (fun q h => by have := wP_lt hw18.1 h; omega), by rw [eL]; exact ge_app hw18.2.2 (by omega)⟩
  clear hwp hz hw18 hS18
  clear ho_b_47
  replace hKd_kd : oKinds (gE g L19 σ19) kd := oKinds_mono hKd_kd hLn (fun q h1 h2 => hsn q (by omega))
  replace hRg_b_1 : oRing (gE g L19 σ19) kd (b + 1) := oRing_mono hRg_b_1 hLn (fun q h1 h2 => hsn q (by omega)) (fun q h1 h2 => hsn q (by omega))
  replace ho_b : Ft L19 σ19 (b) (.inr (7, [.inr (some (b + 1)), .inr (some (b + 10)), .inl 0, .inl 0])) := Ft.mono ho_b hLn (hsn _ (by omega))
  replace hRg_b_11 : oRing (gE g L19 σ19) kd (b + 11) := oRing_mono hRg_b_11 hLn (fun q h1 h2 => hsn q (by omega)) (fun q h1 h2 => hsn q (by omega))
  replace hRg_b_20 : oRing (gE g L19 σ19) kd (b + 20) := oRing_mono hRg_b_20 hLn (fun q h1 h2 => hsn q (by omega)) (fun q h1 h2 => hsn q (by omega))
  replace hRg_b_29 : oRing (gE g L19 σ19) kd (b + 29) := oRing_mono hRg_b_29 hLn (fun q h1 h2 => hsn q (by omega)) (fun q h1 h2 => hsn q (by omega))
  replace hRg_b_38 : oRing (gE g L19 σ19) kd (b + 38) := oRing_mono hRg_b_38 hLn (fun q h1 h2 => hsn q (by omega)) (fun q h1 h2 => hsn q (by omega))
  replace hr_b_10 : Ft L19 σ19 (b + 10) (.inl (eR g, 6, some (va_up (va_up (va_up (va_up (fun _ => none) (0 : Int32).toNatClampNeg (some (b + 11))) (1 : Int32).toNatClampNeg (some (b + 20))) (2 : Int32).toNatClampNeg (some (b + 29))) (3 : Int32).toNatClampNeg (some (b + 38))))) := Ft.mono hr_b_10 hLn (hsn _ (by omega))
  replace mm_b_2 : M19 b 2 = 0 := by rw [hmn _ (by omega)]; exact mm_b_2
  replace mm_b_3 : M19 b 3 = 0 := by rw [hmn _ (by omega)]; exact mm_b_3
  replace mrI_b_1 : rInit M19 (b + 1) := rInit_mono mrI_b_1 (fun q h1 h2 => hmn q (by omega))
  replace mrI_b_11 : rInit M19 (b + 11) := rInit_mono mrI_b_11 (fun q h1 h2 => hmn q (by omega))
  replace mrI_b_20 : rInit M19 (b + 20) := rInit_mono mrI_b_20 (fun q h1 h2 => hmn q (by omega))
  replace mrI_b_29 : rInit M19 (b + 29) := rInit_mono mrI_b_29 (fun q h1 h2 => hmn q (by omega))
  replace mrI_b_38 : rInit M19 (b + 38) := rInit_mono mrI_b_38 (fun q h1 h2 => hmn q (by omega))
  replace hσo : ∀ q, (q < b ∨ b + 65 ≤ q) → σ19 q = σ q := fun q h => (hsn q (by omega)).trans (hσo q h)
  replace hMo : ∀ q, (q < b ∨ b + 65 ≤ q) → M19 q = M q := fun q h => (hmn q (by omega)).trans (hMo q h)
  replace hNo : ∀ q, (q < b ∨ b + 65 ≤ q) → N19 q = N q := fun q h => (hnn q (by omega)).trans (hNo q h)
  clear hLn hsn hmn hnn
  have hRg_b_47 : oRing (gE g L19 σ19) kd (b + 47) := p0
  have mrI_b_47 : rInit M19 (b + 47) := p1
  clear eL p0 p1
  refine n_aast (t0 := 3) hC hw19 hS19 hA hr_b_10.1 hr_b_10.2 rfl hRg_b_47.1.1 hRg_b_47.1.2 rfl (Or.inl rfl) (vin_c 4 rfl) dX7_init_46 (fun H locs hw20 hS20 => ?_)
  clear hw19 hS19
  have hwk := hw20.name
  clear hw20
  obtain ⟨L20, σ20, M20, N20, hw20, eL, eσ, eM, eN⟩ := hwk
  have hLn : ∀ q ∈ L19, q ∈ L20 := fun q h => by rw [eL]; exact h
  have hsn : ∀ q, (q < b + 10 ∨ b + 10 + 1 ≤ q) → σ20 q = σ19 q := fun q h => by rw [eσ]; exact up_out q h
  have hmn : ∀ q, (q < 0 ∨ 0 ≤ q) → M20 q = M19 q := fun q h => by rw [eM]
  have hnn : ∀ q, (q < 0 ∨ 0 ≤ q) → N20 q = N19 q := fun q h => by rw [eN]
  replace hA : ∀ q ∈ L20, cA0 L (b + 1) q := by rw [eL]; exact hA
  replace hLe : L20 = L ++ List.range' (b + 1) 55 := eL.trans hLe
  have mem_o := hr_b_10.1
  clear hr_b_10
  replace hKd_kd : oKinds (gE g L20 σ20) kd := oKinds_mono hKd_kd hLn (fun q h1 h2 => hsn q (by omega))
  replace hRg_b_1 : oRing (gE g L20 σ20) kd (b + 1) := oRing_mono hRg_b_1 hLn (fun q h1 h2 => hsn q (by omega)) (fun q h1 h2 => hsn q (by omega))
  replace ho_b : Ft L20 σ20 (b) (.inr (7, [.inr (some (b + 1)), .inr (some (b + 10)), .inl 0, .inl 0])) := Ft.mono ho_b hLn (hsn _ (by omega))
  replace hRg_b_11 : oRing (gE g L20 σ20) kd (b + 11) := oRing_mono hRg_b_11 hLn (fun q h1 h2 => hsn q (by omega)) (fun q h1 h2 => hsn q (by omega))
  replace hRg_b_20 : oRing (gE g L20 σ20) kd (b + 20) := oRing_mono hRg_b_20 hLn (fun q h1 h2 => hsn q (by omega)) (fun q h1 h2 => hsn q (by omega))
  replace hRg_b_29 : oRing (gE g L20 σ20) kd (b + 29) := oRing_mono hRg_b_29 hLn (fun q h1 h2 => hsn q (by omega)) (fun q h1 h2 => hsn q (by omega))
  replace hRg_b_38 : oRing (gE g L20 σ20) kd (b + 38) := oRing_mono hRg_b_38 hLn (fun q h1 h2 => hsn q (by omega)) (fun q h1 h2 => hsn q (by omega))
  replace hRg_b_47 : oRing (gE g L20 σ20) kd (b + 47) := oRing_mono hRg_b_47 hLn (fun q h1 h2 => hsn q (by omega)) (fun q h1 h2 => hsn q (by omega))
  replace mm_b_2 : M20 b 2 = 0 := by rw [hmn _ (by omega)]; exact mm_b_2
  replace mm_b_3 : M20 b 3 = 0 := by rw [hmn _ (by omega)]; exact mm_b_3
  replace mrI_b_1 : rInit M20 (b + 1) := rInit_mono mrI_b_1 (fun q h1 h2 => hmn q (by omega))
  replace mrI_b_11 : rInit M20 (b + 11) := rInit_mono mrI_b_11 (fun q h1 h2 => hmn q (by omega))
  replace mrI_b_20 : rInit M20 (b + 20) := rInit_mono mrI_b_20 (fun q h1 h2 => hmn q (by omega))
  replace mrI_b_29 : rInit M20 (b + 29) := rInit_mono mrI_b_29 (fun q h1 h2 => hmn q (by omega))
  replace mrI_b_38 : rInit M20 (b + 38) := rInit_mono mrI_b_38 (fun q h1 h2 => hmn q (by omega))
  replace mrI_b_47 : rInit M20 (b + 47) := rInit_mono mrI_b_47 (fun q h1 h2 => hmn q (by omega))
  replace hσo : ∀ q, (q < b ∨ b + 65 ≤ q) → σ20 q = σ q := fun q h => (hsn q (by omega)).trans (hσo q h)
  replace hMo : ∀ q, (q < b ∨ b + 65 ≤ q) → M20 q = M q := fun q h => (hmn q (by omega)).trans (hMo q h)
  replace hNo : ∀ q, (q < b ∨ b + 65 ≤ q) → N20 q = N q := fun q h => (hnn q (by omega)).trans (hNo q h)
  clear hLn hsn hmn hnn
  have hr_b_10 : Ft L20 σ20 (b + 10) (.inl (eR g, 6, some (va_up (va_up (va_up (va_up (va_up (fun _ => none) (0 : Int32).toNatClampNeg (some (b + 11))) (1 : Int32).toNatClampNeg (some (b + 20))) (2 : Int32).toNatClampNeg (some (b + 29))) (3 : Int32).toNatClampNeg (some (b + 38))) (4 : Int32).toNatClampNeg (some (b + 47))))) := ⟨by rw [eL]; exact mem_o, by rw [eσ]; exact va_up_self _ _ _⟩
  clear mem_o eL eσ eM eN
  refine lv_iinc (v := (5 : Int32)) (lv' := [(2, .int (5 : Int32)), (0, .ref b), (1, .ref kd)]) hx hb dX7_init_47 hl (k := 0) rfl (by decide) (by decide) rfl (fun ls hl => ?_)
  refine lv_goto (tgt := 27) hx hb dX7_init_50 (by decide) ?_
  refine lv_iload_n hx hb dX7_init_27 rfl (lv_at hl 0 rfl) ?_
  refine lv_bipush (v := (6 : Int32)) hx hb dX7_init_28 (by decide) ?_
  refine lv_icmp_ge (tgt := 53) hx hb dX7_init_30 (by decide) (fun hc => absurd hc (by decide)) (fun _ => ?_)
  refine lv_aload_n hx hb dX7_init_33 rfl (lv_at hl 1 rfl) ?_
  refine n_getR hC hw20 ho_b.1 ho_b.2 fl_X7_20 rfl dX7_init_34 ?_
  refine lv_iload_n hx hb dX7_init_37 rfl (lv_at hl 0 rfl) ?_
  refine W_end (fun hze => ?_)
  have hz := n_hz hw20 hRg_b_47.2.2.2.2.2.2.2.2.1.1 hze (by omega)
  clear hze
  refine n_new (ci := 5) (sl := [.inr none, .inr none, .inr none, .inr none, .inr none, .inr none, .inr none, .inr none, .inr none, .inl 0, .inl 0, .inl 0, .inl 0]) hC hw20 hS20 hz (by omega) q_79 q_40 q_41 inX5 tyX5 tyX5_ok rfl (by decide) (by show _ ≤ (64 : Nat); omega) (by show _ ≤ (1154 : Nat); omega) dX7_init_38 (fun H hw21 hzf hS21 => ?_)
  clear hw20 hS20
  clear hzf hz
  refine W.widen (k := 56) (n := 1003) (by omega) (by omega) ?_
  have hwk := hw21.name
  clear hw21
  obtain ⟨L21, σ21, M21, N21, hw21, eL, eσ, eM, eN⟩ := hwk
  have hLn : ∀ q ∈ L20, q ∈ L21 := fun q h => by rw [eL]; exact List.mem_append_left _ h
  have hsn : ∀ q, (q < b + 56 ∨ b + 56 + 1 ≤ q) → σ21 q = σ20 q := fun q h => by rw [eσ]; exact up_out q h
  have hmn : ∀ q, (q < b + 56 ∨ b + 56 + 1 ≤ q) → M21 q = M20 q := fun q h => by rw [eM]; exact up_out q h
  have hnn : ∀ q, (q < b + 56 ∨ b + 56 + 1 ≤ q) → N21 q = N20 q := fun q h => by rw [eN]; exact up_out q h
  replace hA : ∀ q ∈ L21, cA0 L (b + 1) q := by rw [eL]; exact hA_snoc hA (Or.inr (by omega))
  replace hLe : L21 = L ++ List.range' (b + 1) 56 := by rw [eL]; exact (congrArg (fun t => t ++ _) hLe).trans (snoc_r (by omega))
  replace hKd_kd : oKinds (gE g L21 σ21) kd := oKinds_mono hKd_kd hLn (fun q h1 h2 => hsn q (by omega))
  replace hRg_b_1 : oRing (gE g L21 σ21) kd (b + 1) := oRing_mono hRg_b_1 hLn (fun q h1 h2 => hsn q (by omega)) (fun q h1 h2 => hsn q (by omega))
  replace ho_b : Ft L21 σ21 (b) (.inr (7, [.inr (some (b + 1)), .inr (some (b + 10)), .inl 0, .inl 0])) := Ft.mono ho_b hLn (hsn _ (by omega))
  replace hRg_b_11 : oRing (gE g L21 σ21) kd (b + 11) := oRing_mono hRg_b_11 hLn (fun q h1 h2 => hsn q (by omega)) (fun q h1 h2 => hsn q (by omega))
  replace hRg_b_20 : oRing (gE g L21 σ21) kd (b + 20) := oRing_mono hRg_b_20 hLn (fun q h1 h2 => hsn q (by omega)) (fun q h1 h2 => hsn q (by omega))
  replace hRg_b_29 : oRing (gE g L21 σ21) kd (b + 29) := oRing_mono hRg_b_29 hLn (fun q h1 h2 => hsn q (by omega)) (fun q h1 h2 => hsn q (by omega))
  replace hRg_b_38 : oRing (gE g L21 σ21) kd (b + 38) := oRing_mono hRg_b_38 hLn (fun q h1 h2 => hsn q (by omega)) (fun q h1 h2 => hsn q (by omega))
  replace hRg_b_47 : oRing (gE g L21 σ21) kd (b + 47) := oRing_mono hRg_b_47 hLn (fun q h1 h2 => hsn q (by omega)) (fun q h1 h2 => hsn q (by omega))
  replace hr_b_10 : Ft L21 σ21 (b + 10) (.inl (eR g, 6, some (va_up (va_up (va_up (va_up (va_up (fun _ => none) (0 : Int32).toNatClampNeg (some (b + 11))) (1 : Int32).toNatClampNeg (some (b + 20))) (2 : Int32).toNatClampNeg (some (b + 29))) (3 : Int32).toNatClampNeg (some (b + 38))) (4 : Int32).toNatClampNeg (some (b + 47))))) := Ft.mono hr_b_10 hLn (hsn _ (by omega))
  replace mm_b_2 : M21 b 2 = 0 := by rw [hmn _ (by omega)]; exact mm_b_2
  replace mm_b_3 : M21 b 3 = 0 := by rw [hmn _ (by omega)]; exact mm_b_3
  replace mrI_b_1 : rInit M21 (b + 1) := rInit_mono mrI_b_1 (fun q h1 h2 => hmn q (by omega))
  replace mrI_b_11 : rInit M21 (b + 11) := rInit_mono mrI_b_11 (fun q h1 h2 => hmn q (by omega))
  replace mrI_b_20 : rInit M21 (b + 20) := rInit_mono mrI_b_20 (fun q h1 h2 => hmn q (by omega))
  replace mrI_b_29 : rInit M21 (b + 29) := rInit_mono mrI_b_29 (fun q h1 h2 => hmn q (by omega))
  replace mrI_b_38 : rInit M21 (b + 38) := rInit_mono mrI_b_38 (fun q h1 h2 => hmn q (by omega))
  replace mrI_b_47 : rInit M21 (b + 47) := rInit_mono mrI_b_47 (fun q h1 h2 => hmn q (by omega))
  replace hσo : ∀ q, (q < b ∨ b + 65 ≤ q) → σ21 q = σ q := fun q h => (hsn q (by omega)).trans (hσo q h)
  replace hMo : ∀ q, (q < b ∨ b + 65 ≤ q) → M21 q = M q := fun q h => (hmn q (by omega)).trans (hMo q h)
  replace hNo : ∀ q, (q < b ∨ b + 65 ≤ q) → N21 q = N q := fun q h => (hnn q (by omega)).trans (hNo q h)
  clear hLn hsn hmn hnn
  have ho_b_56 : Ft L21 σ21 (b + 56) (.inr (5, [.inr none, .inr none, .inr none, .inr none, .inr none, .inr none, .inr none, .inr none, .inr none, .inl 0, .inl 0, .inl 0, .inl 0])) := ⟨by rw [eL]; simp, by rw [eσ]; exact va_up_self _ _ _⟩
  clear eL eσ eM eN
  refine lv_dup hx hb dX7_init_41 rfl ?_
  refine lv_aload_n hx hb dX7_init_42 rfl (lv_at hl 2 rfl) ?_
  refine W_end (fun hze => ?_)
  have hz := n_hz hw21 ho_b_56.1 hze (by omega)
  clear hze
  refine n_callI (na := 1) (As := [.ref kd]) (rest := [.ref (b + 56), .int (5 : Int32), .ref (b + 10)]) hC hw21 hS21 hA (fun q h => Or.inr (by omega)) hB hz (kc_X5_init (a := b + 56) (kd := kd) (by omega) (by omega) hKd_kd ho_b_56) ⟨q_86, q_41, by decide, by decide, by decide⟩ q_84 q_85 rfl ⟨by decide, by decide, by show _ ≤ (64 : Nat); omega, by show _ ≤ (1154 : Nat); omega⟩ rfl hl.1 rfl (Nat.le_of_ble_eq_true rfl) dX7_init_43 (fun u H locs hpost hwp hS22 => ?_)
  refine W.widen (k := 64) (n := 1154) (by omega) (by omega) ?_
  obtain ⟨L22, σ22, M22, N22⟩ := u
  obtain ⟨⟨eL, hsn, hmn, hnn⟩, p0, p1⟩ := hpost
  simp only at eL hsn hmn hnn hwp
  have hLn : ∀ q ∈ L21, q ∈ L22 := fun q h => by rw [eL]; exact List.mem_append_left _ h
  replace hA : ∀ q ∈ L22, cA0 L (b + 1) q := by rw [eL]; exact hA_app hA (fun q h => Or.inr (by omega))
  replace hLe : L22 = L ++ List.range' (b + 1) 64 := by rw [eL]; exact (congrArg (fun t => t ++ _) hLe).trans (app_r (by omega))
  have hw22 : Wc g z0 L22 σ22 M22 N22 H := ⟨hwp, by rw [eL]; exact nd_app hw21.2.1 (fun q h => by have := wP_lt hw21.1 h; omega), by rw [eL]; exact ge_app hw21.2.2 (by omega)⟩
  clear hwp hz hw21 hS21
  clear ho_b_56
  replace hKd_kd : oKinds (gE g L22 σ22) kd := oKinds_mono hKd_kd hLn (fun q h1 h2 => hsn q (by omega))
  replace hRg_b_1 : oRing (gE g L22 σ22) kd (b + 1) := oRing_mono hRg_b_1 hLn (fun q h1 h2 => hsn q (by omega)) (fun q h1 h2 => hsn q (by omega))
  replace ho_b : Ft L22 σ22 (b) (.inr (7, [.inr (some (b + 1)), .inr (some (b + 10)), .inl 0, .inl 0])) := Ft.mono ho_b hLn (hsn _ (by omega))
  replace hRg_b_11 : oRing (gE g L22 σ22) kd (b + 11) := oRing_mono hRg_b_11 hLn (fun q h1 h2 => hsn q (by omega)) (fun q h1 h2 => hsn q (by omega))
  replace hRg_b_20 : oRing (gE g L22 σ22) kd (b + 20) := oRing_mono hRg_b_20 hLn (fun q h1 h2 => hsn q (by omega)) (fun q h1 h2 => hsn q (by omega))
  replace hRg_b_29 : oRing (gE g L22 σ22) kd (b + 29) := oRing_mono hRg_b_29 hLn (fun q h1 h2 => hsn q (by omega)) (fun q h1 h2 => hsn q (by omega))
  replace hRg_b_38 : oRing (gE g L22 σ22) kd (b + 38) := oRing_mono hRg_b_38 hLn (fun q h1 h2 => hsn q (by omega)) (fun q h1 h2 => hsn q (by omega))
  replace hRg_b_47 : oRing (gE g L22 σ22) kd (b + 47) := oRing_mono hRg_b_47 hLn (fun q h1 h2 => hsn q (by omega)) (fun q h1 h2 => hsn q (by omega))
  replace hr_b_10 : Ft L22 σ22 (b + 10) (.inl (eR g, 6, some (va_up (va_up (va_up (va_up (va_up (fun _ => none) (0 : Int32).toNatClampNeg (some (b + 11))) (1 : Int32).toNatClampNeg (some (b + 20))) (2 : Int32).toNatClampNeg (some (b + 29))) (3 : Int32).toNatClampNeg (some (b + 38))) (4 : Int32).toNatClampNeg (some (b + 47))))) := Ft.mono hr_b_10 hLn (hsn _ (by omega))
  replace mm_b_2 : M22 b 2 = 0 := by rw [hmn _ (by omega)]; exact mm_b_2
  replace mm_b_3 : M22 b 3 = 0 := by rw [hmn _ (by omega)]; exact mm_b_3
  replace mrI_b_1 : rInit M22 (b + 1) := rInit_mono mrI_b_1 (fun q h1 h2 => hmn q (by omega))
  replace mrI_b_11 : rInit M22 (b + 11) := rInit_mono mrI_b_11 (fun q h1 h2 => hmn q (by omega))
  replace mrI_b_20 : rInit M22 (b + 20) := rInit_mono mrI_b_20 (fun q h1 h2 => hmn q (by omega))
  replace mrI_b_29 : rInit M22 (b + 29) := rInit_mono mrI_b_29 (fun q h1 h2 => hmn q (by omega))
  replace mrI_b_38 : rInit M22 (b + 38) := rInit_mono mrI_b_38 (fun q h1 h2 => hmn q (by omega))
  replace mrI_b_47 : rInit M22 (b + 47) := rInit_mono mrI_b_47 (fun q h1 h2 => hmn q (by omega))
  replace hσo : ∀ q, (q < b ∨ b + 65 ≤ q) → σ22 q = σ q := fun q h => (hsn q (by omega)).trans (hσo q h)
  replace hMo : ∀ q, (q < b ∨ b + 65 ≤ q) → M22 q = M q := fun q h => (hmn q (by omega)).trans (hMo q h)
  replace hNo : ∀ q, (q < b ∨ b + 65 ≤ q) → N22 q = N q := fun q h => (hnn q (by omega)).trans (hNo q h)
  clear hLn hsn hmn hnn
  have hRg_b_56 : oRing (gE g L22 σ22) kd (b + 56) := p0
  have mrI_b_56 : rInit M22 (b + 56) := p1
  clear eL p0 p1
  refine n_aast (t0 := 3) hC hw22 hS22 hA hr_b_10.1 hr_b_10.2 rfl hRg_b_56.1.1 hRg_b_56.1.2 rfl (Or.inl rfl) (vin_c 5 rfl) dX7_init_46 (fun H locs hw23 hS23 => ?_)
  clear hw22 hS22
  have hwk := hw23.name
  clear hw23
  obtain ⟨L23, σ23, M23, N23, hw23, eL, eσ, eM, eN⟩ := hwk
  have hLn : ∀ q ∈ L22, q ∈ L23 := fun q h => by rw [eL]; exact h
  have hsn : ∀ q, (q < b + 10 ∨ b + 10 + 1 ≤ q) → σ23 q = σ22 q := fun q h => by rw [eσ]; exact up_out q h
  have hmn : ∀ q, (q < 0 ∨ 0 ≤ q) → M23 q = M22 q := fun q h => by rw [eM]
  have hnn : ∀ q, (q < 0 ∨ 0 ≤ q) → N23 q = N22 q := fun q h => by rw [eN]
  replace hA : ∀ q ∈ L23, cA0 L (b + 1) q := by rw [eL]; exact hA
  replace hLe : L23 = L ++ List.range' (b + 1) 64 := eL.trans hLe
  have mem_o := hr_b_10.1
  clear hr_b_10
  replace hKd_kd : oKinds (gE g L23 σ23) kd := oKinds_mono hKd_kd hLn (fun q h1 h2 => hsn q (by omega))
  replace hRg_b_1 : oRing (gE g L23 σ23) kd (b + 1) := oRing_mono hRg_b_1 hLn (fun q h1 h2 => hsn q (by omega)) (fun q h1 h2 => hsn q (by omega))
  replace ho_b : Ft L23 σ23 (b) (.inr (7, [.inr (some (b + 1)), .inr (some (b + 10)), .inl 0, .inl 0])) := Ft.mono ho_b hLn (hsn _ (by omega))
  replace hRg_b_11 : oRing (gE g L23 σ23) kd (b + 11) := oRing_mono hRg_b_11 hLn (fun q h1 h2 => hsn q (by omega)) (fun q h1 h2 => hsn q (by omega))
  replace hRg_b_20 : oRing (gE g L23 σ23) kd (b + 20) := oRing_mono hRg_b_20 hLn (fun q h1 h2 => hsn q (by omega)) (fun q h1 h2 => hsn q (by omega))
  replace hRg_b_29 : oRing (gE g L23 σ23) kd (b + 29) := oRing_mono hRg_b_29 hLn (fun q h1 h2 => hsn q (by omega)) (fun q h1 h2 => hsn q (by omega))
  replace hRg_b_38 : oRing (gE g L23 σ23) kd (b + 38) := oRing_mono hRg_b_38 hLn (fun q h1 h2 => hsn q (by omega)) (fun q h1 h2 => hsn q (by omega))
  replace hRg_b_47 : oRing (gE g L23 σ23) kd (b + 47) := oRing_mono hRg_b_47 hLn (fun q h1 h2 => hsn q (by omega)) (fun q h1 h2 => hsn q (by omega))
  replace hRg_b_56 : oRing (gE g L23 σ23) kd (b + 56) := oRing_mono hRg_b_56 hLn (fun q h1 h2 => hsn q (by omega)) (fun q h1 h2 => hsn q (by omega))
  replace mm_b_2 : M23 b 2 = 0 := by rw [hmn _ (by omega)]; exact mm_b_2
  replace mm_b_3 : M23 b 3 = 0 := by rw [hmn _ (by omega)]; exact mm_b_3
  replace mrI_b_1 : rInit M23 (b + 1) := rInit_mono mrI_b_1 (fun q h1 h2 => hmn q (by omega))
  replace mrI_b_11 : rInit M23 (b + 11) := rInit_mono mrI_b_11 (fun q h1 h2 => hmn q (by omega))
  replace mrI_b_20 : rInit M23 (b + 20) := rInit_mono mrI_b_20 (fun q h1 h2 => hmn q (by omega))
  replace mrI_b_29 : rInit M23 (b + 29) := rInit_mono mrI_b_29 (fun q h1 h2 => hmn q (by omega))
  replace mrI_b_38 : rInit M23 (b + 38) := rInit_mono mrI_b_38 (fun q h1 h2 => hmn q (by omega))
  replace mrI_b_47 : rInit M23 (b + 47) := rInit_mono mrI_b_47 (fun q h1 h2 => hmn q (by omega))
  replace mrI_b_56 : rInit M23 (b + 56) := rInit_mono mrI_b_56 (fun q h1 h2 => hmn q (by omega))
  replace hσo : ∀ q, (q < b ∨ b + 65 ≤ q) → σ23 q = σ q := fun q h => (hsn q (by omega)).trans (hσo q h)
  replace hMo : ∀ q, (q < b ∨ b + 65 ≤ q) → M23 q = M q := fun q h => (hmn q (by omega)).trans (hMo q h)
  replace hNo : ∀ q, (q < b ∨ b + 65 ≤ q) → N23 q = N q := fun q h => (hnn q (by omega)).trans (hNo q h)
  clear hLn hsn hmn hnn
  have hr_b_10 : Ft L23 σ23 (b + 10) (.inl (eR g, 6, some (va_up (va_up (va_up (va_up (va_up (va_up (fun _ => none) (0 : Int32).toNatClampNeg (some (b + 11))) (1 : Int32).toNatClampNeg (some (b + 20))) (2 : Int32).toNatClampNeg (some (b + 29))) (3 : Int32).toNatClampNeg (some (b + 38))) (4 : Int32).toNatClampNeg (some (b + 47))) (5 : Int32).toNatClampNeg (some (b + 56))))) := ⟨by rw [eL]; exact mem_o, by rw [eσ]; exact va_up_self _ _ _⟩
  clear mem_o eL eσ eM eN
  refine lv_iinc (v := (6 : Int32)) (lv' := [(2, .int (6 : Int32)), (0, .ref b), (1, .ref kd)]) hx hb dX7_init_47 hl (k := 0) rfl (by decide) (by decide) rfl (fun ls hl => ?_)
  refine lv_goto (tgt := 27) hx hb dX7_init_50 (by decide) ?_
  refine lv_iload_n hx hb dX7_init_27 rfl (lv_at hl 0 rfl) ?_
  refine lv_bipush (v := (6 : Int32)) hx hb dX7_init_28 (by decide) ?_
  refine lv_icmp_ge (tgt := 53) hx hb dX7_init_30 (by decide) (fun _ => ?_) (fun hc => absurd (by decide) hc)
  refine lv_aload_n hx hb dX7_init_53 rfl (lv_at hl 1 rfl) ?_
  refine lv_iconst (v := (0 : Int32)) hx hb dX7_init_54 (by decide) ?_
  refine n_putI hC hw23 hS23 hA ho_b.1 ho_b.2 fl_X7_24 tyX7 tyX7_ok nmX7 rfl rfl rfl dX7_init_55 (fun H locs hw24 hS24 => ?_)
  clear hw23 hS23
  have hwk := hw24.name
  clear hw24
  obtain ⟨L24, σ24, M24, N24, hw24, eL, eσ, eM, eN⟩ := hwk
  have hLn : ∀ q ∈ L23, q ∈ L24 := fun q h => by rw [eL]; exact h
  have hsn : ∀ q, (q < 0 ∨ 0 ≤ q) → σ24 q = σ23 q := fun q h => by rw [eσ]
  have hmn : ∀ q, (q < b ∨ b + 1 ≤ q) → M24 q = M23 q := fun q h => by rw [eM]; exact up2_o _ _ _ (by omega)
  have hnn : ∀ q, (q < 0 ∨ 0 ≤ q) → N24 q = N23 q := fun q h => by rw [eN]
  replace hA : ∀ q ∈ L24, cA0 L (b + 1) q := by rw [eL]; exact hA
  replace hLe : L24 = L ++ List.range' (b + 1) 64 := eL.trans hLe
  replace mm_b_2 : M24 b 2 = (0 : Int32) := by rw [eM]; simp [up2_at]
  replace mm_b_3 : M24 b 3 = 0 := by rw [eM]; simp [up2_at]; exact mm_b_3
  replace hKd_kd : oKinds (gE g L24 σ24) kd := oKinds_mono hKd_kd hLn (fun q h1 h2 => hsn q (by omega))
  replace hRg_b_1 : oRing (gE g L24 σ24) kd (b + 1) := oRing_mono hRg_b_1 hLn (fun q h1 h2 => hsn q (by omega)) (fun q h1 h2 => hsn q (by omega))
  replace ho_b : Ft L24 σ24 (b) (.inr (7, [.inr (some (b + 1)), .inr (some (b + 10)), .inl 0, .inl 0])) := Ft.mono ho_b hLn (hsn _ (by omega))
  replace hRg_b_11 : oRing (gE g L24 σ24) kd (b + 11) := oRing_mono hRg_b_11 hLn (fun q h1 h2 => hsn q (by omega)) (fun q h1 h2 => hsn q (by omega))
  replace hRg_b_20 : oRing (gE g L24 σ24) kd (b + 20) := oRing_mono hRg_b_20 hLn (fun q h1 h2 => hsn q (by omega)) (fun q h1 h2 => hsn q (by omega))
  replace hRg_b_29 : oRing (gE g L24 σ24) kd (b + 29) := oRing_mono hRg_b_29 hLn (fun q h1 h2 => hsn q (by omega)) (fun q h1 h2 => hsn q (by omega))
  replace hRg_b_38 : oRing (gE g L24 σ24) kd (b + 38) := oRing_mono hRg_b_38 hLn (fun q h1 h2 => hsn q (by omega)) (fun q h1 h2 => hsn q (by omega))
  replace hRg_b_47 : oRing (gE g L24 σ24) kd (b + 47) := oRing_mono hRg_b_47 hLn (fun q h1 h2 => hsn q (by omega)) (fun q h1 h2 => hsn q (by omega))
  replace hRg_b_56 : oRing (gE g L24 σ24) kd (b + 56) := oRing_mono hRg_b_56 hLn (fun q h1 h2 => hsn q (by omega)) (fun q h1 h2 => hsn q (by omega))
  replace hr_b_10 : Ft L24 σ24 (b + 10) (.inl (eR g, 6, some (va_up (va_up (va_up (va_up (va_up (va_up (fun _ => none) (0 : Int32).toNatClampNeg (some (b + 11))) (1 : Int32).toNatClampNeg (some (b + 20))) (2 : Int32).toNatClampNeg (some (b + 29))) (3 : Int32).toNatClampNeg (some (b + 38))) (4 : Int32).toNatClampNeg (some (b + 47))) (5 : Int32).toNatClampNeg (some (b + 56))))) := Ft.mono hr_b_10 hLn (hsn _ (by omega))
  replace mrI_b_1 : rInit M24 (b + 1) := rInit_mono mrI_b_1 (fun q h1 h2 => hmn q (by omega))
  replace mrI_b_11 : rInit M24 (b + 11) := rInit_mono mrI_b_11 (fun q h1 h2 => hmn q (by omega))
  replace mrI_b_20 : rInit M24 (b + 20) := rInit_mono mrI_b_20 (fun q h1 h2 => hmn q (by omega))
  replace mrI_b_29 : rInit M24 (b + 29) := rInit_mono mrI_b_29 (fun q h1 h2 => hmn q (by omega))
  replace mrI_b_38 : rInit M24 (b + 38) := rInit_mono mrI_b_38 (fun q h1 h2 => hmn q (by omega))
  replace mrI_b_47 : rInit M24 (b + 47) := rInit_mono mrI_b_47 (fun q h1 h2 => hmn q (by omega))
  replace mrI_b_56 : rInit M24 (b + 56) := rInit_mono mrI_b_56 (fun q h1 h2 => hmn q (by omega))
  replace hσo : ∀ q, (q < b ∨ b + 65 ≤ q) → σ24 q = σ q := fun q h => (hsn q (by omega)).trans (hσo q h)
  replace hMo : ∀ q, (q < b ∨ b + 65 ≤ q) → M24 q = M q := fun q h => (hmn q (by omega)).trans (hMo q h)
  replace hNo : ∀ q, (q < b ∨ b + 65 ≤ q) → N24 q = N q := fun q h => (hnn q (by omega)).trans (hNo q h)
  clear hLn hsn hmn hnn
  clear eL eσ eM eN
  refine lv_aload_n hx hb dX7_init_58 rfl (lv_at hl 1 rfl) ?_
  refine lv_iconst (v := (0 : Int32)) hx hb dX7_init_59 (by decide) ?_
  refine n_putI hC hw24 hS24 hA ho_b.1 ho_b.2 fl_X7_28 tyX7 tyX7_ok nmX7 rfl rfl rfl dX7_init_60 (fun H locs hw25 hS25 => ?_)
  clear hw24 hS24
  have hwk := hw25.name
  clear hw25
  obtain ⟨L25, σ25, M25, N25, hw25, eL, eσ, eM, eN⟩ := hwk
  have hLn : ∀ q ∈ L24, q ∈ L25 := fun q h => by rw [eL]; exact h
  have hsn : ∀ q, (q < 0 ∨ 0 ≤ q) → σ25 q = σ24 q := fun q h => by rw [eσ]
  have hmn : ∀ q, (q < b ∨ b + 1 ≤ q) → M25 q = M24 q := fun q h => by rw [eM]; exact up2_o _ _ _ (by omega)
  have hnn : ∀ q, (q < 0 ∨ 0 ≤ q) → N25 q = N24 q := fun q h => by rw [eN]
  replace hA : ∀ q ∈ L25, cA0 L (b + 1) q := by rw [eL]; exact hA
  replace hLe : L25 = L ++ List.range' (b + 1) 64 := eL.trans hLe
  replace mm_b_2 : M25 b 2 = (0 : Int32) := by rw [eM]; simp [up2_at]; exact mm_b_2
  replace mm_b_3 : M25 b 3 = (0 : Int32) := by rw [eM]; simp [up2_at]
  replace hKd_kd : oKinds (gE g L25 σ25) kd := oKinds_mono hKd_kd hLn (fun q h1 h2 => hsn q (by omega))
  replace hRg_b_1 : oRing (gE g L25 σ25) kd (b + 1) := oRing_mono hRg_b_1 hLn (fun q h1 h2 => hsn q (by omega)) (fun q h1 h2 => hsn q (by omega))
  replace ho_b : Ft L25 σ25 (b) (.inr (7, [.inr (some (b + 1)), .inr (some (b + 10)), .inl 0, .inl 0])) := Ft.mono ho_b hLn (hsn _ (by omega))
  replace hRg_b_11 : oRing (gE g L25 σ25) kd (b + 11) := oRing_mono hRg_b_11 hLn (fun q h1 h2 => hsn q (by omega)) (fun q h1 h2 => hsn q (by omega))
  replace hRg_b_20 : oRing (gE g L25 σ25) kd (b + 20) := oRing_mono hRg_b_20 hLn (fun q h1 h2 => hsn q (by omega)) (fun q h1 h2 => hsn q (by omega))
  replace hRg_b_29 : oRing (gE g L25 σ25) kd (b + 29) := oRing_mono hRg_b_29 hLn (fun q h1 h2 => hsn q (by omega)) (fun q h1 h2 => hsn q (by omega))
  replace hRg_b_38 : oRing (gE g L25 σ25) kd (b + 38) := oRing_mono hRg_b_38 hLn (fun q h1 h2 => hsn q (by omega)) (fun q h1 h2 => hsn q (by omega))
  replace hRg_b_47 : oRing (gE g L25 σ25) kd (b + 47) := oRing_mono hRg_b_47 hLn (fun q h1 h2 => hsn q (by omega)) (fun q h1 h2 => hsn q (by omega))
  replace hRg_b_56 : oRing (gE g L25 σ25) kd (b + 56) := oRing_mono hRg_b_56 hLn (fun q h1 h2 => hsn q (by omega)) (fun q h1 h2 => hsn q (by omega))
  replace hr_b_10 : Ft L25 σ25 (b + 10) (.inl (eR g, 6, some (va_up (va_up (va_up (va_up (va_up (va_up (fun _ => none) (0 : Int32).toNatClampNeg (some (b + 11))) (1 : Int32).toNatClampNeg (some (b + 20))) (2 : Int32).toNatClampNeg (some (b + 29))) (3 : Int32).toNatClampNeg (some (b + 38))) (4 : Int32).toNatClampNeg (some (b + 47))) (5 : Int32).toNatClampNeg (some (b + 56))))) := Ft.mono hr_b_10 hLn (hsn _ (by omega))
  replace mrI_b_1 : rInit M25 (b + 1) := rInit_mono mrI_b_1 (fun q h1 h2 => hmn q (by omega))
  replace mrI_b_11 : rInit M25 (b + 11) := rInit_mono mrI_b_11 (fun q h1 h2 => hmn q (by omega))
  replace mrI_b_20 : rInit M25 (b + 20) := rInit_mono mrI_b_20 (fun q h1 h2 => hmn q (by omega))
  replace mrI_b_29 : rInit M25 (b + 29) := rInit_mono mrI_b_29 (fun q h1 h2 => hmn q (by omega))
  replace mrI_b_38 : rInit M25 (b + 38) := rInit_mono mrI_b_38 (fun q h1 h2 => hmn q (by omega))
  replace mrI_b_47 : rInit M25 (b + 47) := rInit_mono mrI_b_47 (fun q h1 h2 => hmn q (by omega))
  replace mrI_b_56 : rInit M25 (b + 56) := rInit_mono mrI_b_56 (fun q h1 h2 => hmn q (by omega))
  replace hσo : ∀ q, (q < b ∨ b + 65 ≤ q) → σ25 q = σ q := fun q h => (hsn q (by omega)).trans (hσo q h)
  replace hMo : ∀ q, (q < b ∨ b + 65 ≤ q) → M25 q = M q := fun q h => (hmn q (by omega)).trans (hMo q h)
  replace hNo : ∀ q, (q < b ∨ b + 65 ≤ q) → N25 q = N q := fun q h => (hnn q (by omega)).trans (hNo q h)
  clear hLn hsn hmn hnn
  clear eL eσ eM eN
  exact e_C hC hr hlk hw25 hS25 (⟨⟨hLe, hσo, hMo, hNo⟩, ⟨ho_b, hRg_b_1, r_of6 hr_b_10 rfl rfl rfl rfl rfl rfl, six_rings hRg_b_11 hRg_b_20 hRg_b_29 hRg_b_38 hRg_b_47 hRg_b_56⟩, mrI_b_1, mm_b_2, sInit_of mm_b_3 mrI_b_11 mrI_b_20 mrI_b_29 mrI_b_38 mrI_b_47 mrI_b_56⟩) dX7_init_63
set_option maxRecDepth 100000 in
set_option maxHeartbeats 4000000 in
theorem kc_X0_init {g : Ev} {l : Launch} {z0 : Nat} {kd r cs : Nat} {L : List Nat} {σ : Shp} {M : Mm} {N : Ml} (hz0 : z0 ≤ cs) (hka : kd + 6 ≤ cs) (hrc : r + 9 ≤ cs) (hRg_r : oRing (gE g L σ) kd r) (hRg_cs_1 : oRing (gE g L σ) kd (cs + 1)) (ho_cs : Ft L σ (cs) (.inr (0, [.inr none, .inr none, .inr none, .inr none, .inr none, .inr none, .inr none, .inr none]))) : KC g l yX0_init cX0_init 3 4 6 384 z0 (cs + 10) [.ref cs, .ref r, .ref (cs + 1)] L σ M N (fun u => pOut L σ M N cs (cs + 16) (cs + 10) 6 u ∧ oCourse (gE g u.1 u.2.1) kd r cs) := by
  refine KC.mk (by decide) (Nat.le_of_ble_eq_true rfl) ?_
  intro p e s m below meth c ls hC hmn hr hlk hl hsz hw hS
  have hx := hC.1
  have hb := hC.2.1
  have hl : lv_has ls 3 [(0, .ref cs), (1, .ref r), (2, .ref (cs + 1))] := hl
  have hA : ∀ q ∈ L, cA0 L (cs + 10) q := fun q h => Or.inl h
  have hB : ∀ q, q < s.heap.size → cA0 L (cs + 10) q → z0 ≤ q := fun q h1 h2 => h2.elim (hw.2.2 q) (fun h => by omega)
  have hLe : L = L ++ List.range' (cs + 10) 0 := (List.append_nil L).symm
  have hσo : ∀ q, (q < cs ∨ cs + 16 ≤ q) → σ q = σ q := fun _ _ => rfl
  have hMo : ∀ q, (q < cs ∨ cs + 16 ≤ q) → M q = M q := fun _ _ => rfl
  have hNo : ∀ q, (q < cs ∨ cs + 16 ≤ q) → N q = N q := fun _ _ => rfl
  refine lv_aload_n hx hb dX0_init_0 rfl (lv_at hl 0 rfl) ?_
  refine n_objI hC hl.1 q_113 q_11 q_12 ⟨by decide, by decide⟩ (Nat.le_of_ble_eq_true rfl) dX0_init_1 ?_
  refine lv_aload_n hx hb dX0_init_4 rfl (lv_at hl 0 rfl) ?_
  refine lv_aload_n hx hb dX0_init_5 rfl (lv_at hl 1 rfl) ?_
  refine n_putR hC hmn hw hS hA ho_cs.1 ho_cs.2 fl_X0_9 tyX0 tyX0_ok nmX0 rfl rfl rfl rfl rfl dX0_init_6 (fun H locs hw1 hS1 => ?_)
  clear hw hS
  have hwk := hw1.name
  clear hw1
  obtain ⟨L1, σ1, M1, N1, hw1, eL, eσ, eM, eN⟩ := hwk
  have hLn : ∀ q ∈ L, q ∈ L1 := fun q h => by rw [eL]; exact h
  have hsn : ∀ q, (q < cs ∨ cs + 1 ≤ q) → σ1 q = σ q := fun q h => by rw [eσ]; exact up_out q h
  have hmn : ∀ q, (q < 0 ∨ 0 ≤ q) → M1 q = M q := fun q h => by rw [eM]
  have hnn : ∀ q, (q < 0 ∨ 0 ≤ q) → N1 q = N q := fun q h => by rw [eN]
  replace hA : ∀ q ∈ L1, cA0 L (cs + 10) q := by rw [eL]; exact hA
  replace hLe : L1 = L ++ List.range' (cs + 10) 0 := eL.trans hLe
  have mem_o := ho_cs.1
  clear ho_cs
  replace hRg_r : oRing (gE g L1 σ1) kd r := oRing_mono hRg_r hLn (fun q h1 h2 => hsn q (by omega)) (fun q h1 h2 => hsn q (by omega))
  replace hRg_cs_1 : oRing (gE g L1 σ1) kd (cs + 1) := oRing_mono hRg_cs_1 hLn (fun q h1 h2 => hsn q (by omega)) (fun q h1 h2 => hsn q (by omega))
  replace hσo : ∀ q, (q < cs ∨ cs + 16 ≤ q) → σ1 q = σ q := fun q h => (hsn q (by omega)).trans (hσo q h)
  replace hMo : ∀ q, (q < cs ∨ cs + 16 ≤ q) → M1 q = M q := fun q h => (hmn q (by omega)).trans (hMo q h)
  replace hNo : ∀ q, (q < cs ∨ cs + 16 ≤ q) → N1 q = N q := fun q h => (hnn q (by omega)).trans (hNo q h)
  clear hLn hsn hmn hnn
  have ho_cs : Ft L1 σ1 (cs) (.inr (0, [.inr (some (r)), .inr none, .inr none, .inr none, .inr none, .inr none, .inr none, .inr none])) := ⟨by rw [eL]; exact mem_o, by rw [eσ]; exact va_up_self _ _ _⟩
  clear mem_o eL eσ eM eN
  refine lv_aload_n hx hb dX0_init_9 rfl (lv_at hl 0 rfl) ?_
  refine lv_aload_n hx hb dX0_init_10 rfl (lv_at hl 2 rfl) ?_
  refine n_putR hC hmn hw1 hS1 hA ho_cs.1 ho_cs.2 fl_X0_15 tyX0 tyX0_ok nmX0 rfl rfl rfl rfl rfl dX0_init_11 (fun H locs hw2 hS2 => ?_)
  clear hw1 hS1
  have hwk := hw2.name
  clear hw2
  obtain ⟨L2, σ2, M2, N2, hw2, eL, eσ, eM, eN⟩ := hwk
  have hLn : ∀ q ∈ L1, q ∈ L2 := fun q h => by rw [eL]; exact h
  have hsn : ∀ q, (q < cs ∨ cs + 1 ≤ q) → σ2 q = σ1 q := fun q h => by rw [eσ]; exact up_out q h
  have hmn : ∀ q, (q < 0 ∨ 0 ≤ q) → M2 q = M1 q := fun q h => by rw [eM]
  have hnn : ∀ q, (q < 0 ∨ 0 ≤ q) → N2 q = N1 q := fun q h => by rw [eN]
  replace hA : ∀ q ∈ L2, cA0 L (cs + 10) q := by rw [eL]; exact hA
  replace hLe : L2 = L ++ List.range' (cs + 10) 0 := eL.trans hLe
  have mem_o := ho_cs.1
  clear ho_cs
  replace hRg_r : oRing (gE g L2 σ2) kd r := oRing_mono hRg_r hLn (fun q h1 h2 => hsn q (by omega)) (fun q h1 h2 => hsn q (by omega))
  replace hRg_cs_1 : oRing (gE g L2 σ2) kd (cs + 1) := oRing_mono hRg_cs_1 hLn (fun q h1 h2 => hsn q (by omega)) (fun q h1 h2 => hsn q (by omega))
  replace hσo : ∀ q, (q < cs ∨ cs + 16 ≤ q) → σ2 q = σ q := fun q h => (hsn q (by omega)).trans (hσo q h)
  replace hMo : ∀ q, (q < cs ∨ cs + 16 ≤ q) → M2 q = M q := fun q h => (hmn q (by omega)).trans (hMo q h)
  replace hNo : ∀ q, (q < cs ∨ cs + 16 ≤ q) → N2 q = N q := fun q h => (hnn q (by omega)).trans (hNo q h)
  clear hLn hsn hmn hnn
  have ho_cs : Ft L2 σ2 (cs) (.inr (0, [.inr (some (r)), .inr (some (cs + 1)), .inr none, .inr none, .inr none, .inr none, .inr none, .inr none])) := ⟨by rw [eL]; exact mem_o, by rw [eσ]; exact va_up_self _ _ _⟩
  clear mem_o eL eσ eM eN
  refine lv_aload_n hx hb dX0_init_14 rfl (lv_at hl 0 rfl) ?_
  refine W_end (fun hze => ?_)
  have hz := n_hz hw2 hRg_cs_1.2.2.2.2.2.2.2.2.1.1 hze (by omega)
  clear hze
  refine n_new (ci := 2) (sl := [.inl 0, .inl 0, .inl 0]) hC hw2 hS2 hz (by omega) q_116 q_117 q_118 inX2 tyX2 tyX2_ok rfl (by decide) (by show _ ≤ (6 : Nat); omega) (by show _ ≤ (384 : Nat); omega) dX0_init_15 (fun H hw3 hzf hS3 => ?_)
  clear hw2 hS2
  clear hzf hz
  refine W.widen (k := 1) (n := 3) (by omega) (by omega) ?_
  have hwk := hw3.name
  clear hw3
  obtain ⟨L3, σ3, M3, N3, hw3, eL, eσ, eM, eN⟩ := hwk
  have hLn : ∀ q ∈ L2, q ∈ L3 := fun q h => by rw [eL]; exact List.mem_append_left _ h
  have hsn : ∀ q, (q < cs + 10 ∨ cs + 10 + 1 ≤ q) → σ3 q = σ2 q := fun q h => by rw [eσ]; exact up_out q h
  have hmn : ∀ q, (q < cs + 10 ∨ cs + 10 + 1 ≤ q) → M3 q = M2 q := fun q h => by rw [eM]; exact up_out q h
  have hnn : ∀ q, (q < cs + 10 ∨ cs + 10 + 1 ≤ q) → N3 q = N2 q := fun q h => by rw [eN]; exact up_out q h
  replace hA : ∀ q ∈ L3, cA0 L (cs + 10) q := by rw [eL]; exact hA_snoc hA (Or.inr (by omega))
  replace hLe : L3 = L ++ List.range' (cs + 10) 1 := by rw [eL]; exact (congrArg (fun t => t ++ _) hLe).trans (snoc_r (by omega))
  replace hRg_r : oRing (gE g L3 σ3) kd r := oRing_mono hRg_r hLn (fun q h1 h2 => hsn q (by omega)) (fun q h1 h2 => hsn q (by omega))
  replace hRg_cs_1 : oRing (gE g L3 σ3) kd (cs + 1) := oRing_mono hRg_cs_1 hLn (fun q h1 h2 => hsn q (by omega)) (fun q h1 h2 => hsn q (by omega))
  replace ho_cs : Ft L3 σ3 (cs) (.inr (0, [.inr (some (r)), .inr (some (cs + 1)), .inr none, .inr none, .inr none, .inr none, .inr none, .inr none])) := Ft.mono ho_cs hLn (hsn _ (by omega))
  replace hσo : ∀ q, (q < cs ∨ cs + 16 ≤ q) → σ3 q = σ q := fun q h => (hsn q (by omega)).trans (hσo q h)
  replace hMo : ∀ q, (q < cs ∨ cs + 16 ≤ q) → M3 q = M q := fun q h => (hmn q (by omega)).trans (hMo q h)
  replace hNo : ∀ q, (q < cs ∨ cs + 16 ≤ q) → N3 q = N q := fun q h => (hnn q (by omega)).trans (hNo q h)
  clear hLn hsn hmn hnn
  have ho_cs_10 : Ft L3 σ3 (cs + 10) (.inr (2, [.inl 0, .inl 0, .inl 0])) := ⟨by rw [eL]; simp, by rw [eσ]; exact va_up_self _ _ _⟩
  clear eL eσ eM eN
  refine lv_dup hx hb dX0_init_18 rfl ?_
  refine n_goV hS3 hA hw3 (n_runI (As := []) (rest := [.ref (cs + 10), .ref cs]) hC hw3 hS3 hB (k_X2_init hw3.2.1) ⟨q_127, q_118, by decide, by decide, by decide⟩ q_125 q_126 rfl ⟨by decide, by decide, by show _ ≤ (6 : Nat); omega, by show _ ≤ (384 : Nat); omega⟩ rfl hl.1 rfl (Nat.le_of_ble_eq_true rfl) dX0_init_19) (fun H locs hw4 hS4 => ?_)
  clear hw3 hS3
  have hLp_cs_10 : oLump (gE g L3 σ3) (cs + 10) := ho_cs_10
  clear ho_cs_10
  refine n_putR hC hmn hw4 hS4 hA ho_cs.1 ho_cs.2 fl_X0_21 tyX0 tyX0_ok nmX0 rfl rfl rfl rfl rfl dX0_init_22 (fun H locs hw5 hS5 => ?_)
  clear hw4 hS4
  have hwk := hw5.name
  clear hw5
  obtain ⟨L4, σ4, M4, N4, hw5, eL, eσ, eM, eN⟩ := hwk
  have hLn : ∀ q ∈ L3, q ∈ L4 := fun q h => by rw [eL]; exact h
  have hsn : ∀ q, (q < cs ∨ cs + 1 ≤ q) → σ4 q = σ3 q := fun q h => by rw [eσ]; exact up_out q h
  have hmn : ∀ q, (q < 0 ∨ 0 ≤ q) → M4 q = M3 q := fun q h => by rw [eM]
  have hnn : ∀ q, (q < 0 ∨ 0 ≤ q) → N4 q = N3 q := fun q h => by rw [eN]
  replace hA : ∀ q ∈ L4, cA0 L (cs + 10) q := by rw [eL]; exact hA
  replace hLe : L4 = L ++ List.range' (cs + 10) 1 := eL.trans hLe
  have mem_o := ho_cs.1
  clear ho_cs
  replace hRg_r : oRing (gE g L4 σ4) kd r := oRing_mono hRg_r hLn (fun q h1 h2 => hsn q (by omega)) (fun q h1 h2 => hsn q (by omega))
  replace hRg_cs_1 : oRing (gE g L4 σ4) kd (cs + 1) := oRing_mono hRg_cs_1 hLn (fun q h1 h2 => hsn q (by omega)) (fun q h1 h2 => hsn q (by omega))
  replace hLp_cs_10 : oLump (gE g L4 σ4) (cs + 10) := oLump_mono hLp_cs_10 hLn (hsn _ (by omega))
  replace hσo : ∀ q, (q < cs ∨ cs + 16 ≤ q) → σ4 q = σ q := fun q h => (hsn q (by omega)).trans (hσo q h)
  replace hMo : ∀ q, (q < cs ∨ cs + 16 ≤ q) → M4 q = M q := fun q h => (hmn q (by omega)).trans (hMo q h)
  replace hNo : ∀ q, (q < cs ∨ cs + 16 ≤ q) → N4 q = N q := fun q h => (hnn q (by omega)).trans (hNo q h)
  clear hLn hsn hmn hnn
  have ho_cs : Ft L4 σ4 (cs) (.inr (0, [.inr (some (r)), .inr (some (cs + 1)), .inr (some (cs + 10)), .inr none, .inr none, .inr none, .inr none, .inr none])) := ⟨by rw [eL]; exact mem_o, by rw [eσ]; exact va_up_self _ _ _⟩
  clear mem_o eL eσ eM eN
  refine lv_aload_n hx hb dX0_init_25 rfl (lv_at hl 0 rfl) ?_
  refine lv_iconst (v := (5 : Int32)) hx hb dX0_init_26 (by decide) ?_
  refine W_end (fun hze => ?_)
  have hz := n_hz hw5 hLp_cs_10.1 hze (by omega)
  clear hze
  refine n_newa hC hw5 hS5 hz (by omega) (k := 5) (by decide) (by decide) (by decide) (by show _ ≤ (6 : Nat); omega) (by show _ ≤ (384 : Nat); omega) q_51 dX0_init_27 (fun H hw6 hzf hS6 => ?_)
  clear hw5 hS5
  clear hzf hz
  refine W.widen (k := 2) (n := 8) (by omega) (by omega) ?_
  have hwk := hw6.name
  clear hw6
  obtain ⟨L5, σ5, M5, N5, hw6, eL, eσ, eM, eN⟩ := hwk
  have hLn : ∀ q ∈ L4, q ∈ L5 := fun q h => by rw [eL]; exact List.mem_append_left _ h
  have hsn : ∀ q, (q < cs + 11 ∨ cs + 11 + 1 ≤ q) → σ5 q = σ4 q := fun q h => by rw [eσ]; exact up_out q h
  have hmn : ∀ q, (q < cs + 11 ∨ cs + 11 + 1 ≤ q) → M5 q = M4 q := fun q h => by rw [eM]; exact up_out q h
  have hnn : ∀ q, (q < cs + 11 ∨ cs + 11 + 1 ≤ q) → N5 q = N4 q := fun q h => by rw [eN]
  replace hA : ∀ q ∈ L5, cA0 L (cs + 10) q := by rw [eL]; exact hA_snoc hA (Or.inr (by omega))
  replace hLe : L5 = L ++ List.range' (cs + 10) 2 := by rw [eL]; exact (congrArg (fun t => t ++ _) hLe).trans (snoc_r (by omega))
  replace hRg_r : oRing (gE g L5 σ5) kd r := oRing_mono hRg_r hLn (fun q h1 h2 => hsn q (by omega)) (fun q h1 h2 => hsn q (by omega))
  replace hRg_cs_1 : oRing (gE g L5 σ5) kd (cs + 1) := oRing_mono hRg_cs_1 hLn (fun q h1 h2 => hsn q (by omega)) (fun q h1 h2 => hsn q (by omega))
  replace hLp_cs_10 : oLump (gE g L5 σ5) (cs + 10) := oLump_mono hLp_cs_10 hLn (hsn _ (by omega))
  replace ho_cs : Ft L5 σ5 (cs) (.inr (0, [.inr (some (r)), .inr (some (cs + 1)), .inr (some (cs + 10)), .inr none, .inr none, .inr none, .inr none, .inr none])) := Ft.mono ho_cs hLn (hsn _ (by omega))
  replace hσo : ∀ q, (q < cs ∨ cs + 16 ≤ q) → σ5 q = σ q := fun q h => (hsn q (by omega)).trans (hσo q h)
  replace hMo : ∀ q, (q < cs ∨ cs + 16 ≤ q) → M5 q = M q := fun q h => (hmn q (by omega)).trans (hMo q h)
  replace hNo : ∀ q, (q < cs ∨ cs + 16 ≤ q) → N5 q = N q := fun q h => (hnn q (by omega)).trans (hNo q h)
  clear hLn hsn hmn hnn
  have hi_cs_11 : Ft L5 σ5 (cs + 11) (.inl (eI g, 5, none)) := ⟨by rw [eL]; simp, by rw [eσ]; exact va_up_self _ _ _⟩
  have mzz_cs_11 : ∀ j, M5 (cs + 11) j = 0 := fun j => by rw [eM, va_up_self]
  clear eL eσ eM eN
  refine n_putR hC hmn hw6 hS6 hA ho_cs.1 ho_cs.2 fl_X0_25 tyX0 tyX0_ok nmX0 rfl rfl rfl rfl rfl dX0_init_29 (fun H locs hw7 hS7 => ?_)
  clear hw6 hS6
  have hwk := hw7.name
  clear hw7
  obtain ⟨L6, σ6, M6, N6, hw7, eL, eσ, eM, eN⟩ := hwk
  have hLn : ∀ q ∈ L5, q ∈ L6 := fun q h => by rw [eL]; exact h
  have hsn : ∀ q, (q < cs ∨ cs + 1 ≤ q) → σ6 q = σ5 q := fun q h => by rw [eσ]; exact up_out q h
  have hmn : ∀ q, (q < 0 ∨ 0 ≤ q) → M6 q = M5 q := fun q h => by rw [eM]
  have hnn : ∀ q, (q < 0 ∨ 0 ≤ q) → N6 q = N5 q := fun q h => by rw [eN]
  replace hA : ∀ q ∈ L6, cA0 L (cs + 10) q := by rw [eL]; exact hA
  replace hLe : L6 = L ++ List.range' (cs + 10) 2 := eL.trans hLe
  have mem_o := ho_cs.1
  clear ho_cs
  replace hRg_r : oRing (gE g L6 σ6) kd r := oRing_mono hRg_r hLn (fun q h1 h2 => hsn q (by omega)) (fun q h1 h2 => hsn q (by omega))
  replace hRg_cs_1 : oRing (gE g L6 σ6) kd (cs + 1) := oRing_mono hRg_cs_1 hLn (fun q h1 h2 => hsn q (by omega)) (fun q h1 h2 => hsn q (by omega))
  replace hLp_cs_10 : oLump (gE g L6 σ6) (cs + 10) := oLump_mono hLp_cs_10 hLn (hsn _ (by omega))
  replace hi_cs_11 : Ft L6 σ6 (cs + 11) (.inl (eI g, 5, none)) := Ft.mono hi_cs_11 hLn (hsn _ (by omega))
  replace mzz_cs_11 : ∀ j, M6 (cs + 11) j = 0 := by rw [hmn _ (by omega)]; exact mzz_cs_11
  replace hσo : ∀ q, (q < cs ∨ cs + 16 ≤ q) → σ6 q = σ q := fun q h => (hsn q (by omega)).trans (hσo q h)
  replace hMo : ∀ q, (q < cs ∨ cs + 16 ≤ q) → M6 q = M q := fun q h => (hmn q (by omega)).trans (hMo q h)
  replace hNo : ∀ q, (q < cs ∨ cs + 16 ≤ q) → N6 q = N q := fun q h => (hnn q (by omega)).trans (hNo q h)
  clear hLn hsn hmn hnn
  have ho_cs : Ft L6 σ6 (cs) (.inr (0, [.inr (some (r)), .inr (some (cs + 1)), .inr (some (cs + 10)), .inr (some (cs + 11)), .inr none, .inr none, .inr none, .inr none])) := ⟨by rw [eL]; exact mem_o, by rw [eσ]; exact va_up_self _ _ _⟩
  clear mem_o eL eσ eM eN
  refine lv_aload_n hx hb dX0_init_32 rfl (lv_at hl 0 rfl) ?_
  refine lv_bipush (v := (120 : Int32)) hx hb dX0_init_33 (by decide) ?_
  refine W_end (fun hze => ?_)
  have hz := n_hz hw7 hi_cs_11.1 hze (by omega)
  clear hze
  refine n_newa hC hw7 hS7 hz (by omega) (k := 120) (by decide) (by decide) (by decide) (by show _ ≤ (6 : Nat); omega) (by show _ ≤ (384 : Nat); omega) q_51 dX0_init_35 (fun H hw8 hzf hS8 => ?_)
  clear hw7 hS7
  clear hzf hz
  refine W.widen (k := 3) (n := 128) (by omega) (by omega) ?_
  have hwk := hw8.name
  clear hw8
  obtain ⟨L7, σ7, M7, N7, hw8, eL, eσ, eM, eN⟩ := hwk
  have hLn : ∀ q ∈ L6, q ∈ L7 := fun q h => by rw [eL]; exact List.mem_append_left _ h
  have hsn : ∀ q, (q < cs + 12 ∨ cs + 12 + 1 ≤ q) → σ7 q = σ6 q := fun q h => by rw [eσ]; exact up_out q h
  have hmn : ∀ q, (q < cs + 12 ∨ cs + 12 + 1 ≤ q) → M7 q = M6 q := fun q h => by rw [eM]; exact up_out q h
  have hnn : ∀ q, (q < cs + 12 ∨ cs + 12 + 1 ≤ q) → N7 q = N6 q := fun q h => by rw [eN]
  replace hA : ∀ q ∈ L7, cA0 L (cs + 10) q := by rw [eL]; exact hA_snoc hA (Or.inr (by omega))
  replace hLe : L7 = L ++ List.range' (cs + 10) 3 := by rw [eL]; exact (congrArg (fun t => t ++ _) hLe).trans (snoc_r (by omega))
  replace hRg_r : oRing (gE g L7 σ7) kd r := oRing_mono hRg_r hLn (fun q h1 h2 => hsn q (by omega)) (fun q h1 h2 => hsn q (by omega))
  replace hRg_cs_1 : oRing (gE g L7 σ7) kd (cs + 1) := oRing_mono hRg_cs_1 hLn (fun q h1 h2 => hsn q (by omega)) (fun q h1 h2 => hsn q (by omega))
  replace hLp_cs_10 : oLump (gE g L7 σ7) (cs + 10) := oLump_mono hLp_cs_10 hLn (hsn _ (by omega))
  replace hi_cs_11 : Ft L7 σ7 (cs + 11) (.inl (eI g, 5, none)) := Ft.mono hi_cs_11 hLn (hsn _ (by omega))
  replace ho_cs : Ft L7 σ7 (cs) (.inr (0, [.inr (some (r)), .inr (some (cs + 1)), .inr (some (cs + 10)), .inr (some (cs + 11)), .inr none, .inr none, .inr none, .inr none])) := Ft.mono ho_cs hLn (hsn _ (by omega))
  replace mzz_cs_11 : ∀ j, M7 (cs + 11) j = 0 := by rw [hmn _ (by omega)]; exact mzz_cs_11
  replace hσo : ∀ q, (q < cs ∨ cs + 16 ≤ q) → σ7 q = σ q := fun q h => (hsn q (by omega)).trans (hσo q h)
  replace hMo : ∀ q, (q < cs ∨ cs + 16 ≤ q) → M7 q = M q := fun q h => (hmn q (by omega)).trans (hMo q h)
  replace hNo : ∀ q, (q < cs ∨ cs + 16 ≤ q) → N7 q = N q := fun q h => (hnn q (by omega)).trans (hNo q h)
  clear hLn hsn hmn hnn
  have hi_cs_12 : Ft L7 σ7 (cs + 12) (.inl (eI g, 120, none)) := ⟨by rw [eL]; simp, by rw [eσ]; exact va_up_self _ _ _⟩
  have mzz_cs_12 : ∀ j, M7 (cs + 12) j = 0 := fun j => by rw [eM, va_up_self]
  clear eL eσ eM eN
  refine n_putR hC hmn hw8 hS8 hA ho_cs.1 ho_cs.2 fl_X0_29 tyX0 tyX0_ok nmX0 rfl rfl rfl rfl rfl dX0_init_37 (fun H locs hw9 hS9 => ?_)
  clear hw8 hS8
  have hwk := hw9.name
  clear hw9
  obtain ⟨L8, σ8, M8, N8, hw9, eL, eσ, eM, eN⟩ := hwk
  have hLn : ∀ q ∈ L7, q ∈ L8 := fun q h => by rw [eL]; exact h
  have hsn : ∀ q, (q < cs ∨ cs + 1 ≤ q) → σ8 q = σ7 q := fun q h => by rw [eσ]; exact up_out q h
  have hmn : ∀ q, (q < 0 ∨ 0 ≤ q) → M8 q = M7 q := fun q h => by rw [eM]
  have hnn : ∀ q, (q < 0 ∨ 0 ≤ q) → N8 q = N7 q := fun q h => by rw [eN]
  replace hA : ∀ q ∈ L8, cA0 L (cs + 10) q := by rw [eL]; exact hA
  replace hLe : L8 = L ++ List.range' (cs + 10) 3 := eL.trans hLe
  have mem_o := ho_cs.1
  clear ho_cs
  replace hRg_r : oRing (gE g L8 σ8) kd r := oRing_mono hRg_r hLn (fun q h1 h2 => hsn q (by omega)) (fun q h1 h2 => hsn q (by omega))
  replace hRg_cs_1 : oRing (gE g L8 σ8) kd (cs + 1) := oRing_mono hRg_cs_1 hLn (fun q h1 h2 => hsn q (by omega)) (fun q h1 h2 => hsn q (by omega))
  replace hLp_cs_10 : oLump (gE g L8 σ8) (cs + 10) := oLump_mono hLp_cs_10 hLn (hsn _ (by omega))
  replace hi_cs_11 : Ft L8 σ8 (cs + 11) (.inl (eI g, 5, none)) := Ft.mono hi_cs_11 hLn (hsn _ (by omega))
  replace hi_cs_12 : Ft L8 σ8 (cs + 12) (.inl (eI g, 120, none)) := Ft.mono hi_cs_12 hLn (hsn _ (by omega))
  replace mzz_cs_11 : ∀ j, M8 (cs + 11) j = 0 := by rw [hmn _ (by omega)]; exact mzz_cs_11
  replace mzz_cs_12 : ∀ j, M8 (cs + 12) j = 0 := by rw [hmn _ (by omega)]; exact mzz_cs_12
  replace hσo : ∀ q, (q < cs ∨ cs + 16 ≤ q) → σ8 q = σ q := fun q h => (hsn q (by omega)).trans (hσo q h)
  replace hMo : ∀ q, (q < cs ∨ cs + 16 ≤ q) → M8 q = M q := fun q h => (hmn q (by omega)).trans (hMo q h)
  replace hNo : ∀ q, (q < cs ∨ cs + 16 ≤ q) → N8 q = N q := fun q h => (hnn q (by omega)).trans (hNo q h)
  clear hLn hsn hmn hnn
  have ho_cs : Ft L8 σ8 (cs) (.inr (0, [.inr (some (r)), .inr (some (cs + 1)), .inr (some (cs + 10)), .inr (some (cs + 11)), .inr (some (cs + 12)), .inr none, .inr none, .inr none])) := ⟨by rw [eL]; exact mem_o, by rw [eσ]; exact va_up_self _ _ _⟩
  clear mem_o eL eσ eM eN
  refine lv_aload_n hx hb dX0_init_40 rfl (lv_at hl 0 rfl) ?_
  refine lv_bipush (v := (120 : Int32)) hx hb dX0_init_41 (by decide) ?_
  refine W_end (fun hze => ?_)
  have hz := n_hz hw9 hi_cs_12.1 hze (by omega)
  clear hze
  refine n_newa hC hw9 hS9 hz (by omega) (k := 120) (by decide) (by decide) (by decide) (by show _ ≤ (6 : Nat); omega) (by show _ ≤ (384 : Nat); omega) q_51 dX0_init_43 (fun H hw10 hzf hS10 => ?_)
  clear hw9 hS9
  clear hzf hz
  refine W.widen (k := 4) (n := 248) (by omega) (by omega) ?_
  have hwk := hw10.name
  clear hw10
  obtain ⟨L9, σ9, M9, N9, hw10, eL, eσ, eM, eN⟩ := hwk
  have hLn : ∀ q ∈ L8, q ∈ L9 := fun q h => by rw [eL]; exact List.mem_append_left _ h
  have hsn : ∀ q, (q < cs + 13 ∨ cs + 13 + 1 ≤ q) → σ9 q = σ8 q := fun q h => by rw [eσ]; exact up_out q h
  have hmn : ∀ q, (q < cs + 13 ∨ cs + 13 + 1 ≤ q) → M9 q = M8 q := fun q h => by rw [eM]; exact up_out q h
  have hnn : ∀ q, (q < cs + 13 ∨ cs + 13 + 1 ≤ q) → N9 q = N8 q := fun q h => by rw [eN]
  replace hA : ∀ q ∈ L9, cA0 L (cs + 10) q := by rw [eL]; exact hA_snoc hA (Or.inr (by omega))
  replace hLe : L9 = L ++ List.range' (cs + 10) 4 := by rw [eL]; exact (congrArg (fun t => t ++ _) hLe).trans (snoc_r (by omega))
  replace hRg_r : oRing (gE g L9 σ9) kd r := oRing_mono hRg_r hLn (fun q h1 h2 => hsn q (by omega)) (fun q h1 h2 => hsn q (by omega))
  replace hRg_cs_1 : oRing (gE g L9 σ9) kd (cs + 1) := oRing_mono hRg_cs_1 hLn (fun q h1 h2 => hsn q (by omega)) (fun q h1 h2 => hsn q (by omega))
  replace hLp_cs_10 : oLump (gE g L9 σ9) (cs + 10) := oLump_mono hLp_cs_10 hLn (hsn _ (by omega))
  replace hi_cs_11 : Ft L9 σ9 (cs + 11) (.inl (eI g, 5, none)) := Ft.mono hi_cs_11 hLn (hsn _ (by omega))
  replace hi_cs_12 : Ft L9 σ9 (cs + 12) (.inl (eI g, 120, none)) := Ft.mono hi_cs_12 hLn (hsn _ (by omega))
  replace ho_cs : Ft L9 σ9 (cs) (.inr (0, [.inr (some (r)), .inr (some (cs + 1)), .inr (some (cs + 10)), .inr (some (cs + 11)), .inr (some (cs + 12)), .inr none, .inr none, .inr none])) := Ft.mono ho_cs hLn (hsn _ (by omega))
  replace mzz_cs_11 : ∀ j, M9 (cs + 11) j = 0 := by rw [hmn _ (by omega)]; exact mzz_cs_11
  replace mzz_cs_12 : ∀ j, M9 (cs + 12) j = 0 := by rw [hmn _ (by omega)]; exact mzz_cs_12
  replace hσo : ∀ q, (q < cs ∨ cs + 16 ≤ q) → σ9 q = σ q := fun q h => (hsn q (by omega)).trans (hσo q h)
  replace hMo : ∀ q, (q < cs ∨ cs + 16 ≤ q) → M9 q = M q := fun q h => (hmn q (by omega)).trans (hMo q h)
  replace hNo : ∀ q, (q < cs ∨ cs + 16 ≤ q) → N9 q = N q := fun q h => (hnn q (by omega)).trans (hNo q h)
  clear hLn hsn hmn hnn
  have hi_cs_13 : Ft L9 σ9 (cs + 13) (.inl (eI g, 120, none)) := ⟨by rw [eL]; simp, by rw [eσ]; exact va_up_self _ _ _⟩
  have mzz_cs_13 : ∀ j, M9 (cs + 13) j = 0 := fun j => by rw [eM, va_up_self]
  clear eL eσ eM eN
  refine n_putR hC hmn hw10 hS10 hA ho_cs.1 ho_cs.2 fl_X0_32 tyX0 tyX0_ok nmX0 rfl rfl rfl rfl rfl dX0_init_45 (fun H locs hw11 hS11 => ?_)
  clear hw10 hS10
  have hwk := hw11.name
  clear hw11
  obtain ⟨L10, σ10, M10, N10, hw11, eL, eσ, eM, eN⟩ := hwk
  have hLn : ∀ q ∈ L9, q ∈ L10 := fun q h => by rw [eL]; exact h
  have hsn : ∀ q, (q < cs ∨ cs + 1 ≤ q) → σ10 q = σ9 q := fun q h => by rw [eσ]; exact up_out q h
  have hmn : ∀ q, (q < 0 ∨ 0 ≤ q) → M10 q = M9 q := fun q h => by rw [eM]
  have hnn : ∀ q, (q < 0 ∨ 0 ≤ q) → N10 q = N9 q := fun q h => by rw [eN]
  replace hA : ∀ q ∈ L10, cA0 L (cs + 10) q := by rw [eL]; exact hA
  replace hLe : L10 = L ++ List.range' (cs + 10) 4 := eL.trans hLe
  have mem_o := ho_cs.1
  clear ho_cs
  replace hRg_r : oRing (gE g L10 σ10) kd r := oRing_mono hRg_r hLn (fun q h1 h2 => hsn q (by omega)) (fun q h1 h2 => hsn q (by omega))
  replace hRg_cs_1 : oRing (gE g L10 σ10) kd (cs + 1) := oRing_mono hRg_cs_1 hLn (fun q h1 h2 => hsn q (by omega)) (fun q h1 h2 => hsn q (by omega))
  replace hLp_cs_10 : oLump (gE g L10 σ10) (cs + 10) := oLump_mono hLp_cs_10 hLn (hsn _ (by omega))
  replace hi_cs_11 : Ft L10 σ10 (cs + 11) (.inl (eI g, 5, none)) := Ft.mono hi_cs_11 hLn (hsn _ (by omega))
  replace hi_cs_12 : Ft L10 σ10 (cs + 12) (.inl (eI g, 120, none)) := Ft.mono hi_cs_12 hLn (hsn _ (by omega))
  replace hi_cs_13 : Ft L10 σ10 (cs + 13) (.inl (eI g, 120, none)) := Ft.mono hi_cs_13 hLn (hsn _ (by omega))
  replace mzz_cs_11 : ∀ j, M10 (cs + 11) j = 0 := by rw [hmn _ (by omega)]; exact mzz_cs_11
  replace mzz_cs_12 : ∀ j, M10 (cs + 12) j = 0 := by rw [hmn _ (by omega)]; exact mzz_cs_12
  replace mzz_cs_13 : ∀ j, M10 (cs + 13) j = 0 := by rw [hmn _ (by omega)]; exact mzz_cs_13
  replace hσo : ∀ q, (q < cs ∨ cs + 16 ≤ q) → σ10 q = σ q := fun q h => (hsn q (by omega)).trans (hσo q h)
  replace hMo : ∀ q, (q < cs ∨ cs + 16 ≤ q) → M10 q = M q := fun q h => (hmn q (by omega)).trans (hMo q h)
  replace hNo : ∀ q, (q < cs ∨ cs + 16 ≤ q) → N10 q = N q := fun q h => (hnn q (by omega)).trans (hNo q h)
  clear hLn hsn hmn hnn
  have ho_cs : Ft L10 σ10 (cs) (.inr (0, [.inr (some (r)), .inr (some (cs + 1)), .inr (some (cs + 10)), .inr (some (cs + 11)), .inr (some (cs + 12)), .inr (some (cs + 13)), .inr none, .inr none])) := ⟨by rw [eL]; exact mem_o, by rw [eσ]; exact va_up_self _ _ _⟩
  clear mem_o eL eσ eM eN
  refine lv_aload_n hx hb dX0_init_48 rfl (lv_at hl 0 rfl) ?_
  refine lv_bipush (v := (120 : Int32)) hx hb dX0_init_49 (by decide) ?_
  refine W_end (fun hze => ?_)
  have hz := n_hz hw11 hi_cs_13.1 hze (by omega)
  clear hze
  refine n_newa hC hw11 hS11 hz (by omega) (k := 120) (by decide) (by decide) (by decide) (by show _ ≤ (6 : Nat); omega) (by show _ ≤ (384 : Nat); omega) q_51 dX0_init_51 (fun H hw12 hzf hS12 => ?_)
  clear hw11 hS11
  clear hzf hz
  refine W.widen (k := 5) (n := 368) (by omega) (by omega) ?_
  have hwk := hw12.name
  clear hw12
  obtain ⟨L11, σ11, M11, N11, hw12, eL, eσ, eM, eN⟩ := hwk
  have hLn : ∀ q ∈ L10, q ∈ L11 := fun q h => by rw [eL]; exact List.mem_append_left _ h
  have hsn : ∀ q, (q < cs + 14 ∨ cs + 14 + 1 ≤ q) → σ11 q = σ10 q := fun q h => by rw [eσ]; exact up_out q h
  have hmn : ∀ q, (q < cs + 14 ∨ cs + 14 + 1 ≤ q) → M11 q = M10 q := fun q h => by rw [eM]; exact up_out q h
  have hnn : ∀ q, (q < cs + 14 ∨ cs + 14 + 1 ≤ q) → N11 q = N10 q := fun q h => by rw [eN]
  replace hA : ∀ q ∈ L11, cA0 L (cs + 10) q := by rw [eL]; exact hA_snoc hA (Or.inr (by omega))
  replace hLe : L11 = L ++ List.range' (cs + 10) 5 := by rw [eL]; exact (congrArg (fun t => t ++ _) hLe).trans (snoc_r (by omega))
  replace hRg_r : oRing (gE g L11 σ11) kd r := oRing_mono hRg_r hLn (fun q h1 h2 => hsn q (by omega)) (fun q h1 h2 => hsn q (by omega))
  replace hRg_cs_1 : oRing (gE g L11 σ11) kd (cs + 1) := oRing_mono hRg_cs_1 hLn (fun q h1 h2 => hsn q (by omega)) (fun q h1 h2 => hsn q (by omega))
  replace hLp_cs_10 : oLump (gE g L11 σ11) (cs + 10) := oLump_mono hLp_cs_10 hLn (hsn _ (by omega))
  replace hi_cs_11 : Ft L11 σ11 (cs + 11) (.inl (eI g, 5, none)) := Ft.mono hi_cs_11 hLn (hsn _ (by omega))
  replace hi_cs_12 : Ft L11 σ11 (cs + 12) (.inl (eI g, 120, none)) := Ft.mono hi_cs_12 hLn (hsn _ (by omega))
  replace hi_cs_13 : Ft L11 σ11 (cs + 13) (.inl (eI g, 120, none)) := Ft.mono hi_cs_13 hLn (hsn _ (by omega))
  replace ho_cs : Ft L11 σ11 (cs) (.inr (0, [.inr (some (r)), .inr (some (cs + 1)), .inr (some (cs + 10)), .inr (some (cs + 11)), .inr (some (cs + 12)), .inr (some (cs + 13)), .inr none, .inr none])) := Ft.mono ho_cs hLn (hsn _ (by omega))
  replace mzz_cs_11 : ∀ j, M11 (cs + 11) j = 0 := by rw [hmn _ (by omega)]; exact mzz_cs_11
  replace mzz_cs_12 : ∀ j, M11 (cs + 12) j = 0 := by rw [hmn _ (by omega)]; exact mzz_cs_12
  replace mzz_cs_13 : ∀ j, M11 (cs + 13) j = 0 := by rw [hmn _ (by omega)]; exact mzz_cs_13
  replace hσo : ∀ q, (q < cs ∨ cs + 16 ≤ q) → σ11 q = σ q := fun q h => (hsn q (by omega)).trans (hσo q h)
  replace hMo : ∀ q, (q < cs ∨ cs + 16 ≤ q) → M11 q = M q := fun q h => (hmn q (by omega)).trans (hMo q h)
  replace hNo : ∀ q, (q < cs ∨ cs + 16 ≤ q) → N11 q = N q := fun q h => (hnn q (by omega)).trans (hNo q h)
  clear hLn hsn hmn hnn
  have hi_cs_14 : Ft L11 σ11 (cs + 14) (.inl (eI g, 120, none)) := ⟨by rw [eL]; simp, by rw [eσ]; exact va_up_self _ _ _⟩
  have mzz_cs_14 : ∀ j, M11 (cs + 14) j = 0 := fun j => by rw [eM, va_up_self]
  clear eL eσ eM eN
  refine n_putR hC hmn hw12 hS12 hA ho_cs.1 ho_cs.2 fl_X0_35 tyX0 tyX0_ok nmX0 rfl rfl rfl rfl rfl dX0_init_53 (fun H locs hw13 hS13 => ?_)
  clear hw12 hS12
  have hwk := hw13.name
  clear hw13
  obtain ⟨L12, σ12, M12, N12, hw13, eL, eσ, eM, eN⟩ := hwk
  have hLn : ∀ q ∈ L11, q ∈ L12 := fun q h => by rw [eL]; exact h
  have hsn : ∀ q, (q < cs ∨ cs + 1 ≤ q) → σ12 q = σ11 q := fun q h => by rw [eσ]; exact up_out q h
  have hmn : ∀ q, (q < 0 ∨ 0 ≤ q) → M12 q = M11 q := fun q h => by rw [eM]
  have hnn : ∀ q, (q < 0 ∨ 0 ≤ q) → N12 q = N11 q := fun q h => by rw [eN]
  replace hA : ∀ q ∈ L12, cA0 L (cs + 10) q := by rw [eL]; exact hA
  replace hLe : L12 = L ++ List.range' (cs + 10) 5 := eL.trans hLe
  have mem_o := ho_cs.1
  clear ho_cs
  replace hRg_r : oRing (gE g L12 σ12) kd r := oRing_mono hRg_r hLn (fun q h1 h2 => hsn q (by omega)) (fun q h1 h2 => hsn q (by omega))
  replace hRg_cs_1 : oRing (gE g L12 σ12) kd (cs + 1) := oRing_mono hRg_cs_1 hLn (fun q h1 h2 => hsn q (by omega)) (fun q h1 h2 => hsn q (by omega))
  replace hLp_cs_10 : oLump (gE g L12 σ12) (cs + 10) := oLump_mono hLp_cs_10 hLn (hsn _ (by omega))
  replace hi_cs_11 : Ft L12 σ12 (cs + 11) (.inl (eI g, 5, none)) := Ft.mono hi_cs_11 hLn (hsn _ (by omega))
  replace hi_cs_12 : Ft L12 σ12 (cs + 12) (.inl (eI g, 120, none)) := Ft.mono hi_cs_12 hLn (hsn _ (by omega))
  replace hi_cs_13 : Ft L12 σ12 (cs + 13) (.inl (eI g, 120, none)) := Ft.mono hi_cs_13 hLn (hsn _ (by omega))
  replace hi_cs_14 : Ft L12 σ12 (cs + 14) (.inl (eI g, 120, none)) := Ft.mono hi_cs_14 hLn (hsn _ (by omega))
  replace mzz_cs_11 : ∀ j, M12 (cs + 11) j = 0 := by rw [hmn _ (by omega)]; exact mzz_cs_11
  replace mzz_cs_12 : ∀ j, M12 (cs + 12) j = 0 := by rw [hmn _ (by omega)]; exact mzz_cs_12
  replace mzz_cs_13 : ∀ j, M12 (cs + 13) j = 0 := by rw [hmn _ (by omega)]; exact mzz_cs_13
  replace mzz_cs_14 : ∀ j, M12 (cs + 14) j = 0 := by rw [hmn _ (by omega)]; exact mzz_cs_14
  replace hσo : ∀ q, (q < cs ∨ cs + 16 ≤ q) → σ12 q = σ q := fun q h => (hsn q (by omega)).trans (hσo q h)
  replace hMo : ∀ q, (q < cs ∨ cs + 16 ≤ q) → M12 q = M q := fun q h => (hmn q (by omega)).trans (hMo q h)
  replace hNo : ∀ q, (q < cs ∨ cs + 16 ≤ q) → N12 q = N q := fun q h => (hnn q (by omega)).trans (hNo q h)
  clear hLn hsn hmn hnn
  have ho_cs : Ft L12 σ12 (cs) (.inr (0, [.inr (some (r)), .inr (some (cs + 1)), .inr (some (cs + 10)), .inr (some (cs + 11)), .inr (some (cs + 12)), .inr (some (cs + 13)), .inr (some (cs + 14)), .inr none])) := ⟨by rw [eL]; exact mem_o, by rw [eσ]; exact va_up_self _ _ _⟩
  clear mem_o eL eσ eM eN
  refine lv_aload_n hx hb dX0_init_56 rfl (lv_at hl 0 rfl) ?_
  refine lv_bipush (v := (16 : Int32)) hx hb dX0_init_57 (by decide) ?_
  refine W_end (fun hze => ?_)
  have hz := n_hz hw13 hi_cs_14.1 hze (by omega)
  clear hze
  refine n_newa hC hw13 hS13 hz (by omega) (k := 16) (by decide) (by decide) (by decide) (by show _ ≤ (6 : Nat); omega) (by show _ ≤ (384 : Nat); omega) q_51 dX0_init_59 (fun H hw14 hzf hS14 => ?_)
  clear hw13 hS13
  clear hzf hz
  refine W.widen (k := 6) (n := 384) (by omega) (by omega) ?_
  have hwk := hw14.name
  clear hw14
  obtain ⟨L13, σ13, M13, N13, hw14, eL, eσ, eM, eN⟩ := hwk
  have hLn : ∀ q ∈ L12, q ∈ L13 := fun q h => by rw [eL]; exact List.mem_append_left _ h
  have hsn : ∀ q, (q < cs + 15 ∨ cs + 15 + 1 ≤ q) → σ13 q = σ12 q := fun q h => by rw [eσ]; exact up_out q h
  have hmn : ∀ q, (q < cs + 15 ∨ cs + 15 + 1 ≤ q) → M13 q = M12 q := fun q h => by rw [eM]; exact up_out q h
  have hnn : ∀ q, (q < cs + 15 ∨ cs + 15 + 1 ≤ q) → N13 q = N12 q := fun q h => by rw [eN]
  replace hA : ∀ q ∈ L13, cA0 L (cs + 10) q := by rw [eL]; exact hA_snoc hA (Or.inr (by omega))
  replace hLe : L13 = L ++ List.range' (cs + 10) 6 := by rw [eL]; exact (congrArg (fun t => t ++ _) hLe).trans (snoc_r (by omega))
  replace hRg_r : oRing (gE g L13 σ13) kd r := oRing_mono hRg_r hLn (fun q h1 h2 => hsn q (by omega)) (fun q h1 h2 => hsn q (by omega))
  replace hRg_cs_1 : oRing (gE g L13 σ13) kd (cs + 1) := oRing_mono hRg_cs_1 hLn (fun q h1 h2 => hsn q (by omega)) (fun q h1 h2 => hsn q (by omega))
  replace hLp_cs_10 : oLump (gE g L13 σ13) (cs + 10) := oLump_mono hLp_cs_10 hLn (hsn _ (by omega))
  replace hi_cs_11 : Ft L13 σ13 (cs + 11) (.inl (eI g, 5, none)) := Ft.mono hi_cs_11 hLn (hsn _ (by omega))
  replace hi_cs_12 : Ft L13 σ13 (cs + 12) (.inl (eI g, 120, none)) := Ft.mono hi_cs_12 hLn (hsn _ (by omega))
  replace hi_cs_13 : Ft L13 σ13 (cs + 13) (.inl (eI g, 120, none)) := Ft.mono hi_cs_13 hLn (hsn _ (by omega))
  replace hi_cs_14 : Ft L13 σ13 (cs + 14) (.inl (eI g, 120, none)) := Ft.mono hi_cs_14 hLn (hsn _ (by omega))
  replace ho_cs : Ft L13 σ13 (cs) (.inr (0, [.inr (some (r)), .inr (some (cs + 1)), .inr (some (cs + 10)), .inr (some (cs + 11)), .inr (some (cs + 12)), .inr (some (cs + 13)), .inr (some (cs + 14)), .inr none])) := Ft.mono ho_cs hLn (hsn _ (by omega))
  replace mzz_cs_11 : ∀ j, M13 (cs + 11) j = 0 := by rw [hmn _ (by omega)]; exact mzz_cs_11
  replace mzz_cs_12 : ∀ j, M13 (cs + 12) j = 0 := by rw [hmn _ (by omega)]; exact mzz_cs_12
  replace mzz_cs_13 : ∀ j, M13 (cs + 13) j = 0 := by rw [hmn _ (by omega)]; exact mzz_cs_13
  replace mzz_cs_14 : ∀ j, M13 (cs + 14) j = 0 := by rw [hmn _ (by omega)]; exact mzz_cs_14
  replace hσo : ∀ q, (q < cs ∨ cs + 16 ≤ q) → σ13 q = σ q := fun q h => (hsn q (by omega)).trans (hσo q h)
  replace hMo : ∀ q, (q < cs ∨ cs + 16 ≤ q) → M13 q = M q := fun q h => (hmn q (by omega)).trans (hMo q h)
  replace hNo : ∀ q, (q < cs ∨ cs + 16 ≤ q) → N13 q = N q := fun q h => (hnn q (by omega)).trans (hNo q h)
  clear hLn hsn hmn hnn
  have hi_cs_15 : Ft L13 σ13 (cs + 15) (.inl (eI g, 16, none)) := ⟨by rw [eL]; simp, by rw [eσ]; exact va_up_self _ _ _⟩
  have mzz_cs_15 : ∀ j, M13 (cs + 15) j = 0 := fun j => by rw [eM, va_up_self]
  clear eL eσ eM eN
  refine n_putR hC hmn hw14 hS14 hA ho_cs.1 ho_cs.2 fl_X0_38 tyX0 tyX0_ok nmX0 rfl rfl rfl rfl rfl dX0_init_61 (fun H locs hw15 hS15 => ?_)
  clear hw14 hS14
  have hwk := hw15.name
  clear hw15
  obtain ⟨L14, σ14, M14, N14, hw15, eL, eσ, eM, eN⟩ := hwk
  have hLn : ∀ q ∈ L13, q ∈ L14 := fun q h => by rw [eL]; exact h
  have hsn : ∀ q, (q < cs ∨ cs + 1 ≤ q) → σ14 q = σ13 q := fun q h => by rw [eσ]; exact up_out q h
  have hmn : ∀ q, (q < 0 ∨ 0 ≤ q) → M14 q = M13 q := fun q h => by rw [eM]
  have hnn : ∀ q, (q < 0 ∨ 0 ≤ q) → N14 q = N13 q := fun q h => by rw [eN]
  replace hA : ∀ q ∈ L14, cA0 L (cs + 10) q := by rw [eL]; exact hA
  replace hLe : L14 = L ++ List.range' (cs + 10) 6 := eL.trans hLe
  have mem_o := ho_cs.1
  clear ho_cs
  replace hRg_r : oRing (gE g L14 σ14) kd r := oRing_mono hRg_r hLn (fun q h1 h2 => hsn q (by omega)) (fun q h1 h2 => hsn q (by omega))
  replace hRg_cs_1 : oRing (gE g L14 σ14) kd (cs + 1) := oRing_mono hRg_cs_1 hLn (fun q h1 h2 => hsn q (by omega)) (fun q h1 h2 => hsn q (by omega))
  replace hLp_cs_10 : oLump (gE g L14 σ14) (cs + 10) := oLump_mono hLp_cs_10 hLn (hsn _ (by omega))
  replace hi_cs_11 : Ft L14 σ14 (cs + 11) (.inl (eI g, 5, none)) := Ft.mono hi_cs_11 hLn (hsn _ (by omega))
  replace hi_cs_12 : Ft L14 σ14 (cs + 12) (.inl (eI g, 120, none)) := Ft.mono hi_cs_12 hLn (hsn _ (by omega))
  replace hi_cs_13 : Ft L14 σ14 (cs + 13) (.inl (eI g, 120, none)) := Ft.mono hi_cs_13 hLn (hsn _ (by omega))
  replace hi_cs_14 : Ft L14 σ14 (cs + 14) (.inl (eI g, 120, none)) := Ft.mono hi_cs_14 hLn (hsn _ (by omega))
  replace hi_cs_15 : Ft L14 σ14 (cs + 15) (.inl (eI g, 16, none)) := Ft.mono hi_cs_15 hLn (hsn _ (by omega))
  replace mzz_cs_11 : ∀ j, M14 (cs + 11) j = 0 := by rw [hmn _ (by omega)]; exact mzz_cs_11
  replace mzz_cs_12 : ∀ j, M14 (cs + 12) j = 0 := by rw [hmn _ (by omega)]; exact mzz_cs_12
  replace mzz_cs_13 : ∀ j, M14 (cs + 13) j = 0 := by rw [hmn _ (by omega)]; exact mzz_cs_13
  replace mzz_cs_14 : ∀ j, M14 (cs + 14) j = 0 := by rw [hmn _ (by omega)]; exact mzz_cs_14
  replace mzz_cs_15 : ∀ j, M14 (cs + 15) j = 0 := by rw [hmn _ (by omega)]; exact mzz_cs_15
  replace hσo : ∀ q, (q < cs ∨ cs + 16 ≤ q) → σ14 q = σ q := fun q h => (hsn q (by omega)).trans (hσo q h)
  replace hMo : ∀ q, (q < cs ∨ cs + 16 ≤ q) → M14 q = M q := fun q h => (hmn q (by omega)).trans (hMo q h)
  replace hNo : ∀ q, (q < cs ∨ cs + 16 ≤ q) → N14 q = N q := fun q h => (hnn q (by omega)).trans (hNo q h)
  clear hLn hsn hmn hnn
  have ho_cs : Ft L14 σ14 (cs) (.inr (0, [.inr (some (r)), .inr (some (cs + 1)), .inr (some (cs + 10)), .inr (some (cs + 11)), .inr (some (cs + 12)), .inr (some (cs + 13)), .inr (some (cs + 14)), .inr (some (cs + 15))])) := ⟨by rw [eL]; exact mem_o, by rw [eσ]; exact va_up_self _ _ _⟩
  clear mem_o eL eσ eM eN
  exact e_C hC hr hlk hw15 hS15 (⟨⟨hLe, hσo, hMo, hNo⟩, ⟨ho_cs, hRg_r, hRg_cs_1, hLp_cs_10, hi_cs_11, hi_cs_12, hi_cs_13, hi_cs_14, hi_cs_15⟩⟩) dX0_init_64
set_option maxRecDepth 100000 in
set_option maxHeartbeats 4000000 in
theorem kc_X9_init {g : Ev} {l : Launch} {z0 : Nat} {t : Nat} {L : List Nat} {σ : Shp} {M : Mm} {N : Ml} (hz0 : z0 ≤ t) (ho_t : Ft L σ (t) (.inr (9, [.inr none, .inl 0, .inl 0, .inl 0, .inl 0]))) (mm_t_1 : M t 1 = 0) (mm_t_2 : M t 2 = 0) (mm_t_3 : M t 3 = 0) (mm_t_4 : M t 4 = 0) : KC g l yX9_init cX9_init 1 2 1 250 z0 (t + 1) [.ref t] L σ M N (fun u => pOut L σ M N t (t + 2) (t + 1) 1 u ∧ oText (gE g u.1 u.2.1) t ∧ u.2.2.1 t 1 = 0) := by
  refine KC.mk (by decide) (Nat.le_of_ble_eq_true rfl) ?_
  intro p e s m below meth c ls hC hmn hr hlk hl hsz hw hS
  have hx := hC.1
  have hb := hC.2.1
  have hl : lv_has ls 1 [(0, .ref t)] := hl
  have hA : ∀ q ∈ L, cA0 L (t + 1) q := fun q h => Or.inl h
  have hB : ∀ q, q < s.heap.size → cA0 L (t + 1) q → z0 ≤ q := fun q h1 h2 => h2.elim (hw.2.2 q) (fun h => by omega)
  have hLe : L = L ++ List.range' (t + 1) 0 := (List.append_nil L).symm
  have hσo : ∀ q, (q < t ∨ t + 2 ≤ q) → σ q = σ q := fun _ _ => rfl
  have hMo : ∀ q, (q < t ∨ t + 2 ≤ q) → M q = M q := fun _ _ => rfl
  have hNo : ∀ q, (q < t ∨ t + 2 ≤ q) → N q = N q := fun _ _ => rfl
  refine lv_aload_n hx hb dX9_init_0 rfl (lv_at hl 0 rfl) ?_
  refine n_objI hC hl.1 q_132 q_11 q_12 ⟨by decide, by decide⟩ (Nat.le_of_ble_eq_true rfl) dX9_init_1 ?_
  refine lv_aload_n hx hb dX9_init_4 rfl (lv_at hl 0 rfl) ?_
  refine lv_sipush (v := (250 : Int32)) hx hb dX9_init_5 (by decide) ?_
  refine W_end (fun hze => ?_)
  have hz := n_hz hw ho_t.1 hze (by omega)
  clear hze
  refine n_newa hC hw hS hz (by omega) (k := 250) (by decide) (by decide) (by decide) (by show _ ≤ (1 : Nat); omega) (by show _ ≤ (250 : Nat); omega) q_51 dX9_init_8 (fun H hw1 hzf hS1 => ?_)
  clear hw hS
  clear hzf hz
  refine W.widen (k := 1) (n := 250) (by omega) (by omega) ?_
  have hwk := hw1.name
  clear hw1
  obtain ⟨L1, σ1, M1, N1, hw1, eL, eσ, eM, eN⟩ := hwk
  have hLn : ∀ q ∈ L, q ∈ L1 := fun q h => by rw [eL]; exact List.mem_append_left _ h
  have hsn : ∀ q, (q < t + 1 ∨ t + 1 + 1 ≤ q) → σ1 q = σ q := fun q h => by rw [eσ]; exact up_out q h
  have hmn : ∀ q, (q < t + 1 ∨ t + 1 + 1 ≤ q) → M1 q = M q := fun q h => by rw [eM]; exact up_out q h
  have hnn : ∀ q, (q < t + 1 ∨ t + 1 + 1 ≤ q) → N1 q = N q := fun q h => by rw [eN]
  replace hA : ∀ q ∈ L1, cA0 L (t + 1) q := by rw [eL]; exact hA_snoc hA (Or.inr (by omega))
  replace hLe : L1 = L ++ List.range' (t + 1) 1 := by rw [eL]; exact (congrArg (fun t => t ++ _) hLe).trans (snoc_r (by omega))
  replace ho_t : Ft L1 σ1 (t) (.inr (9, [.inr none, .inl 0, .inl 0, .inl 0, .inl 0])) := Ft.mono ho_t hLn (hsn _ (by omega))
  replace mm_t_1 : M1 t 1 = 0 := by rw [hmn _ (by omega)]; exact mm_t_1
  replace hσo : ∀ q, (q < t ∨ t + 2 ≤ q) → σ1 q = σ q := fun q h => (hsn q (by omega)).trans (hσo q h)
  replace hMo : ∀ q, (q < t ∨ t + 2 ≤ q) → M1 q = M q := fun q h => (hmn q (by omega)).trans (hMo q h)
  replace hNo : ∀ q, (q < t ∨ t + 2 ≤ q) → N1 q = N q := fun q h => (hnn q (by omega)).trans (hNo q h)
  clear hLn hsn hmn hnn
  have hi_t_1 : Ft L1 σ1 (t + 1) (.inl (eI g, 250, none)) := ⟨by rw [eL]; simp, by rw [eσ]; exact va_up_self _ _ _⟩
  have mzz_t_1 : ∀ j, M1 (t + 1) j = 0 := fun j => by rw [eM, va_up_self]
  clear eL eσ eM eN
  refine n_putR hC hmn hw1 hS1 hA ho_t.1 ho_t.2 fl_X9_9 tyX9 tyX9_ok nmX9 rfl rfl rfl rfl rfl dX9_init_10 (fun H locs hw2 hS2 => ?_)
  clear hw1 hS1
  have hwk := hw2.name
  clear hw2
  obtain ⟨L2, σ2, M2, N2, hw2, eL, eσ, eM, eN⟩ := hwk
  have hLn : ∀ q ∈ L1, q ∈ L2 := fun q h => by rw [eL]; exact h
  have hsn : ∀ q, (q < t ∨ t + 1 ≤ q) → σ2 q = σ1 q := fun q h => by rw [eσ]; exact up_out q h
  have hmn : ∀ q, (q < 0 ∨ 0 ≤ q) → M2 q = M1 q := fun q h => by rw [eM]
  have hnn : ∀ q, (q < 0 ∨ 0 ≤ q) → N2 q = N1 q := fun q h => by rw [eN]
  replace hA : ∀ q ∈ L2, cA0 L (t + 1) q := by rw [eL]; exact hA
  replace hLe : L2 = L ++ List.range' (t + 1) 1 := eL.trans hLe
  have mem_o := ho_t.1
  clear ho_t
  replace hi_t_1 : Ft L2 σ2 (t + 1) (.inl (eI g, 250, none)) := Ft.mono hi_t_1 hLn (hsn _ (by omega))
  replace mm_t_1 : M2 t 1 = 0 := by rw [hmn _ (by omega)]; exact mm_t_1
  replace mzz_t_1 : ∀ j, M2 (t + 1) j = 0 := by rw [hmn _ (by omega)]; exact mzz_t_1
  replace hσo : ∀ q, (q < t ∨ t + 2 ≤ q) → σ2 q = σ q := fun q h => (hsn q (by omega)).trans (hσo q h)
  replace hMo : ∀ q, (q < t ∨ t + 2 ≤ q) → M2 q = M q := fun q h => (hmn q (by omega)).trans (hMo q h)
  replace hNo : ∀ q, (q < t ∨ t + 2 ≤ q) → N2 q = N q := fun q h => (hnn q (by omega)).trans (hNo q h)
  clear hLn hsn hmn hnn
  have ho_t : Ft L2 σ2 (t) (.inr (9, [.inr (some (t + 1)), .inl 0, .inl 0, .inl 0, .inl 0])) := ⟨by rw [eL]; exact mem_o, by rw [eσ]; exact va_up_self _ _ _⟩
  clear mem_o eL eσ eM eN
  refine lv_aload_n hx hb dX9_init_13 rfl (lv_at hl 0 rfl) ?_
  refine lv_iconst (v := (0 : Int32)) hx hb dX9_init_14 (by decide) ?_
  refine n_putI hC hw2 hS2 hA ho_t.1 ho_t.2 fl_X9_15 tyX9 tyX9_ok nmX9 rfl rfl rfl dX9_init_15 (fun H locs hw3 hS3 => ?_)
  clear hw2 hS2
  have hwk := hw3.name
  clear hw3
  obtain ⟨L3, σ3, M3, N3, hw3, eL, eσ, eM, eN⟩ := hwk
  have hLn : ∀ q ∈ L2, q ∈ L3 := fun q h => by rw [eL]; exact h
  have hsn : ∀ q, (q < 0 ∨ 0 ≤ q) → σ3 q = σ2 q := fun q h => by rw [eσ]
  have hmn : ∀ q, (q < t ∨ t + 1 ≤ q) → M3 q = M2 q := fun q h => by rw [eM]; exact up2_o _ _ _ (by omega)
  have hnn : ∀ q, (q < 0 ∨ 0 ≤ q) → N3 q = N2 q := fun q h => by rw [eN]
  replace hA : ∀ q ∈ L3, cA0 L (t + 1) q := by rw [eL]; exact hA
  replace hLe : L3 = L ++ List.range' (t + 1) 1 := eL.trans hLe
  replace mm_t_1 : M3 t 1 = (0 : Int32) := by rw [eM]; simp [up2_at]
  replace hi_t_1 : Ft L3 σ3 (t + 1) (.inl (eI g, 250, none)) := Ft.mono hi_t_1 hLn (hsn _ (by omega))
  replace ho_t : Ft L3 σ3 (t) (.inr (9, [.inr (some (t + 1)), .inl 0, .inl 0, .inl 0, .inl 0])) := Ft.mono ho_t hLn (hsn _ (by omega))
  replace mzz_t_1 : ∀ j, M3 (t + 1) j = 0 := by rw [hmn _ (by omega)]; exact mzz_t_1
  replace hσo : ∀ q, (q < t ∨ t + 2 ≤ q) → σ3 q = σ q := fun q h => (hsn q (by omega)).trans (hσo q h)
  replace hMo : ∀ q, (q < t ∨ t + 2 ≤ q) → M3 q = M q := fun q h => (hmn q (by omega)).trans (hMo q h)
  replace hNo : ∀ q, (q < t ∨ t + 2 ≤ q) → N3 q = N q := fun q h => (hnn q (by omega)).trans (hNo q h)
  clear hLn hsn hmn hnn
  clear eL eσ eM eN
  refine lv_aload_n hx hb dX9_init_18 rfl (lv_at hl 0 rfl) ?_
  have hTx : oText (gE g L3 σ3) t := ⟨ho_t, hi_t_1⟩
  refine n_goV hS3 hA hw3 (n_runV (As := []) (rest := []) hC hw3 hS3 hB (k_X9_rewind hw3.2.1 hTx (rewind_ok _ _)) cw_X9_19 q_135 q_136 q_137 ⟨by decide, by decide, by show _ ≤ (1 : Nat); omega, by show _ ≤ (250 : Nat); omega⟩ hTx.1 rfl rfl hl.1 rfl (Nat.le_of_ble_eq_true rfl) dX9_init_19) (fun H locs hw4 hS4 => ?_)
  clear hw3 hS3
  exact e_C hC hr hlk hw4 hS4 (⟨⟨hLe, hσo, fun q h => by show up2 (up2 (up2 _ t 2 0) t 3 0) t 4 0 q = M q; rw [up2_o _ _ _ (by omega), up2_o _ _ _ (by omega), up2_o _ _ _ (by omega)]; exact hMo q h, hNo⟩, hTx, by show up2 (up2 (up2 _ t 2 0) t 3 0) t 4 0 t 1 = 0; simp only [up2_at]; simp; exact mm_t_1⟩) dX9_init_22
set_option maxRecDepth 100000 in
set_option maxHeartbeats 4000000 in
theorem kc_X4_init {g : Ev} {l : Launch} {z0 : Nat} {kd t rd : Nat} {L : List Nat} {σ : Shp} {M : Mm} {N : Ml} (hz0 : z0 ≤ rd) (hka : kd + 6 ≤ rd) (htr : t + 2 ≤ rd) (hTx_t : oText (gE g L σ) t) (hRg_rd_1 : oRing (gE g L σ) kd (rd + 1)) (ho_rd : Ft L σ (rd) (.inr (4, [.inr none, .inr none, .inr none]))) : KC g l yX4_init cX4_init 3 2 1 4 z0 (rd + 10) [.ref rd, .ref t, .ref (rd + 1)] L σ M N (fun u => pOut L σ M N rd (rd + 11) (rd + 10) 1 u ∧ oReader (gE g u.1 u.2.1) kd t rd) := by
  refine KC.mk (by decide) (Nat.le_of_ble_eq_true rfl) ?_
  intro p e s m below meth c ls hC hmn hr hlk hl hsz hw hS
  have hx := hC.1
  have hb := hC.2.1
  have hl : lv_has ls 3 [(0, .ref rd), (1, .ref t), (2, .ref (rd + 1))] := hl
  have hA : ∀ q ∈ L, cA0 L (rd + 10) q := fun q h => Or.inl h
  have hB : ∀ q, q < s.heap.size → cA0 L (rd + 10) q → z0 ≤ q := fun q h1 h2 => h2.elim (hw.2.2 q) (fun h => by omega)
  have hLe : L = L ++ List.range' (rd + 10) 0 := (List.append_nil L).symm
  have hσo : ∀ q, (q < rd ∨ rd + 11 ≤ q) → σ q = σ q := fun _ _ => rfl
  have hMo : ∀ q, (q < rd ∨ rd + 11 ≤ q) → M q = M q := fun _ _ => rfl
  have hNo : ∀ q, (q < rd ∨ rd + 11 ≤ q) → N q = N q := fun _ _ => rfl
  refine lv_aload_n hx hb dX4_init_0 rfl (lv_at hl 0 rfl) ?_
  refine n_objI hC hl.1 q_145 q_11 q_12 ⟨by decide, by decide⟩ (Nat.le_of_ble_eq_true rfl) dX4_init_1 ?_
  refine lv_aload_n hx hb dX4_init_4 rfl (lv_at hl 0 rfl) ?_
  refine lv_aload_n hx hb dX4_init_5 rfl (lv_at hl 1 rfl) ?_
  refine n_putR hC hmn hw hS hA ho_rd.1 ho_rd.2 fl_X4_9 tyX4 tyX4_ok nmX4 rfl rfl rfl rfl rfl dX4_init_6 (fun H locs hw1 hS1 => ?_)
  clear hw hS
  have hwk := hw1.name
  clear hw1
  obtain ⟨L1, σ1, M1, N1, hw1, eL, eσ, eM, eN⟩ := hwk
  have hLn : ∀ q ∈ L, q ∈ L1 := fun q h => by rw [eL]; exact h
  have hsn : ∀ q, (q < rd ∨ rd + 1 ≤ q) → σ1 q = σ q := fun q h => by rw [eσ]; exact up_out q h
  have hmn : ∀ q, (q < 0 ∨ 0 ≤ q) → M1 q = M q := fun q h => by rw [eM]
  have hnn : ∀ q, (q < 0 ∨ 0 ≤ q) → N1 q = N q := fun q h => by rw [eN]
  replace hA : ∀ q ∈ L1, cA0 L (rd + 10) q := by rw [eL]; exact hA
  replace hLe : L1 = L ++ List.range' (rd + 10) 0 := eL.trans hLe
  have mem_o := ho_rd.1
  clear ho_rd
  replace hTx_t : oText (gE g L1 σ1) t := oText_mono hTx_t hLn (fun q h1 h2 => hsn q (by omega))
  replace hRg_rd_1 : oRing (gE g L1 σ1) kd (rd + 1) := oRing_mono hRg_rd_1 hLn (fun q h1 h2 => hsn q (by omega)) (fun q h1 h2 => hsn q (by omega))
  replace hσo : ∀ q, (q < rd ∨ rd + 11 ≤ q) → σ1 q = σ q := fun q h => (hsn q (by omega)).trans (hσo q h)
  replace hMo : ∀ q, (q < rd ∨ rd + 11 ≤ q) → M1 q = M q := fun q h => (hmn q (by omega)).trans (hMo q h)
  replace hNo : ∀ q, (q < rd ∨ rd + 11 ≤ q) → N1 q = N q := fun q h => (hnn q (by omega)).trans (hNo q h)
  clear hLn hsn hmn hnn
  have ho_rd : Ft L1 σ1 (rd) (.inr (4, [.inr (some (t)), .inr none, .inr none])) := ⟨by rw [eL]; exact mem_o, by rw [eσ]; exact va_up_self _ _ _⟩
  clear mem_o eL eσ eM eN
  refine lv_aload_n hx hb dX4_init_9 rfl (lv_at hl 0 rfl) ?_
  refine lv_aload_n hx hb dX4_init_10 rfl (lv_at hl 2 rfl) ?_
  refine n_putR hC hmn hw1 hS1 hA ho_rd.1 ho_rd.2 fl_X4_15 tyX4 tyX4_ok nmX4 rfl rfl rfl rfl rfl dX4_init_11 (fun H locs hw2 hS2 => ?_)
  clear hw1 hS1
  have hwk := hw2.name
  clear hw2
  obtain ⟨L2, σ2, M2, N2, hw2, eL, eσ, eM, eN⟩ := hwk
  have hLn : ∀ q ∈ L1, q ∈ L2 := fun q h => by rw [eL]; exact h
  have hsn : ∀ q, (q < rd ∨ rd + 1 ≤ q) → σ2 q = σ1 q := fun q h => by rw [eσ]; exact up_out q h
  have hmn : ∀ q, (q < 0 ∨ 0 ≤ q) → M2 q = M1 q := fun q h => by rw [eM]
  have hnn : ∀ q, (q < 0 ∨ 0 ≤ q) → N2 q = N1 q := fun q h => by rw [eN]
  replace hA : ∀ q ∈ L2, cA0 L (rd + 10) q := by rw [eL]; exact hA
  replace hLe : L2 = L ++ List.range' (rd + 10) 0 := eL.trans hLe
  have mem_o := ho_rd.1
  clear ho_rd
  replace hTx_t : oText (gE g L2 σ2) t := oText_mono hTx_t hLn (fun q h1 h2 => hsn q (by omega))
  replace hRg_rd_1 : oRing (gE g L2 σ2) kd (rd + 1) := oRing_mono hRg_rd_1 hLn (fun q h1 h2 => hsn q (by omega)) (fun q h1 h2 => hsn q (by omega))
  replace hσo : ∀ q, (q < rd ∨ rd + 11 ≤ q) → σ2 q = σ q := fun q h => (hsn q (by omega)).trans (hσo q h)
  replace hMo : ∀ q, (q < rd ∨ rd + 11 ≤ q) → M2 q = M q := fun q h => (hmn q (by omega)).trans (hMo q h)
  replace hNo : ∀ q, (q < rd ∨ rd + 11 ≤ q) → N2 q = N q := fun q h => (hnn q (by omega)).trans (hNo q h)
  clear hLn hsn hmn hnn
  have ho_rd : Ft L2 σ2 (rd) (.inr (4, [.inr (some (t)), .inr (some (rd + 1)), .inr none])) := ⟨by rw [eL]; exact mem_o, by rw [eσ]; exact va_up_self _ _ _⟩
  clear mem_o eL eσ eM eN
  refine lv_aload_n hx hb dX4_init_14 rfl (lv_at hl 0 rfl) ?_
  refine lv_iconst (v := (4 : Int32)) hx hb dX4_init_15 (by decide) ?_
  refine W_end (fun hze => ?_)
  have hz := n_hz hw2 hRg_rd_1.2.2.2.2.2.2.2.2.1.1 hze (by omega)
  clear hze
  refine n_newa hC hw2 hS2 hz (by omega) (k := 4) (by decide) (by decide) (by decide) (by show _ ≤ (1 : Nat); omega) (by show _ ≤ (4 : Nat); omega) q_51 dX4_init_16 (fun H hw3 hzf hS3 => ?_)
  clear hw2 hS2
  clear hzf hz
  refine W.widen (k := 1) (n := 4) (by omega) (by omega) ?_
  have hwk := hw3.name
  clear hw3
  obtain ⟨L3, σ3, M3, N3, hw3, eL, eσ, eM, eN⟩ := hwk
  have hLn : ∀ q ∈ L2, q ∈ L3 := fun q h => by rw [eL]; exact List.mem_append_left _ h
  have hsn : ∀ q, (q < rd + 10 ∨ rd + 10 + 1 ≤ q) → σ3 q = σ2 q := fun q h => by rw [eσ]; exact up_out q h
  have hmn : ∀ q, (q < rd + 10 ∨ rd + 10 + 1 ≤ q) → M3 q = M2 q := fun q h => by rw [eM]; exact up_out q h
  have hnn : ∀ q, (q < rd + 10 ∨ rd + 10 + 1 ≤ q) → N3 q = N2 q := fun q h => by rw [eN]
  replace hA : ∀ q ∈ L3, cA0 L (rd + 10) q := by rw [eL]; exact hA_snoc hA (Or.inr (by omega))
  replace hLe : L3 = L ++ List.range' (rd + 10) 1 := by rw [eL]; exact (congrArg (fun t => t ++ _) hLe).trans (snoc_r (by omega))
  replace hTx_t : oText (gE g L3 σ3) t := oText_mono hTx_t hLn (fun q h1 h2 => hsn q (by omega))
  replace hRg_rd_1 : oRing (gE g L3 σ3) kd (rd + 1) := oRing_mono hRg_rd_1 hLn (fun q h1 h2 => hsn q (by omega)) (fun q h1 h2 => hsn q (by omega))
  replace ho_rd : Ft L3 σ3 (rd) (.inr (4, [.inr (some (t)), .inr (some (rd + 1)), .inr none])) := Ft.mono ho_rd hLn (hsn _ (by omega))
  replace hσo : ∀ q, (q < rd ∨ rd + 11 ≤ q) → σ3 q = σ q := fun q h => (hsn q (by omega)).trans (hσo q h)
  replace hMo : ∀ q, (q < rd ∨ rd + 11 ≤ q) → M3 q = M q := fun q h => (hmn q (by omega)).trans (hMo q h)
  replace hNo : ∀ q, (q < rd ∨ rd + 11 ≤ q) → N3 q = N q := fun q h => (hnn q (by omega)).trans (hNo q h)
  clear hLn hsn hmn hnn
  have hi_rd_10 : Ft L3 σ3 (rd + 10) (.inl (eI g, 4, none)) := ⟨by rw [eL]; simp, by rw [eσ]; exact va_up_self _ _ _⟩
  have mzz_rd_10 : ∀ j, M3 (rd + 10) j = 0 := fun j => by rw [eM, va_up_self]
  clear eL eσ eM eN
  refine n_putR hC hmn hw3 hS3 hA ho_rd.1 ho_rd.2 fl_X4_19 tyX4 tyX4_ok nmX4 rfl rfl rfl rfl rfl dX4_init_18 (fun H locs hw4 hS4 => ?_)
  clear hw3 hS3
  have hwk := hw4.name
  clear hw4
  obtain ⟨L4, σ4, M4, N4, hw4, eL, eσ, eM, eN⟩ := hwk
  have hLn : ∀ q ∈ L3, q ∈ L4 := fun q h => by rw [eL]; exact h
  have hsn : ∀ q, (q < rd ∨ rd + 1 ≤ q) → σ4 q = σ3 q := fun q h => by rw [eσ]; exact up_out q h
  have hmn : ∀ q, (q < 0 ∨ 0 ≤ q) → M4 q = M3 q := fun q h => by rw [eM]
  have hnn : ∀ q, (q < 0 ∨ 0 ≤ q) → N4 q = N3 q := fun q h => by rw [eN]
  replace hA : ∀ q ∈ L4, cA0 L (rd + 10) q := by rw [eL]; exact hA
  replace hLe : L4 = L ++ List.range' (rd + 10) 1 := eL.trans hLe
  have mem_o := ho_rd.1
  clear ho_rd
  replace hTx_t : oText (gE g L4 σ4) t := oText_mono hTx_t hLn (fun q h1 h2 => hsn q (by omega))
  replace hRg_rd_1 : oRing (gE g L4 σ4) kd (rd + 1) := oRing_mono hRg_rd_1 hLn (fun q h1 h2 => hsn q (by omega)) (fun q h1 h2 => hsn q (by omega))
  replace hi_rd_10 : Ft L4 σ4 (rd + 10) (.inl (eI g, 4, none)) := Ft.mono hi_rd_10 hLn (hsn _ (by omega))
  replace mzz_rd_10 : ∀ j, M4 (rd + 10) j = 0 := by rw [hmn _ (by omega)]; exact mzz_rd_10
  replace hσo : ∀ q, (q < rd ∨ rd + 11 ≤ q) → σ4 q = σ q := fun q h => (hsn q (by omega)).trans (hσo q h)
  replace hMo : ∀ q, (q < rd ∨ rd + 11 ≤ q) → M4 q = M q := fun q h => (hmn q (by omega)).trans (hMo q h)
  replace hNo : ∀ q, (q < rd ∨ rd + 11 ≤ q) → N4 q = N q := fun q h => (hnn q (by omega)).trans (hNo q h)
  clear hLn hsn hmn hnn
  have ho_rd : Ft L4 σ4 (rd) (.inr (4, [.inr (some (t)), .inr (some (rd + 1)), .inr (some (rd + 10))])) := ⟨by rw [eL]; exact mem_o, by rw [eσ]; exact va_up_self _ _ _⟩
  clear mem_o eL eσ eM eN
  exact e_C hC hr hlk hw4 hS4 (⟨⟨hLe, hσo, hMo, hNo⟩, ⟨ho_rd, hTx_t, hRg_rd_1, hi_rd_10⟩⟩) dX4_init_21
