def f_X3_force (a : Nat) (M : Mm) : Option (Int32) :=
  some ((1 : Int32))
def f_X3_reach (a : Nat) (M : Mm) : Option (Int32) :=
  some ((0 : Int32))
def f_X3_isAwake (a : Nat) (p0 : Int32) (M : Mm) : Option (Int32) :=
  some ((1 : Int32))
def f_X10_reach (a : Nat) (M : Mm) : Option (Int32) :=
  some ((1 : Int32))
def f_X1_force (a : Nat) (M : Mm) : Option (Int32) :=
  some ((-1 : Int32))
def f_X8_force (a : Nat) (M : Mm) : Option (Int32) :=
  some ((2 : Int32))
def f_X6_isAwake (a : Nat) (p0 : Int32) (M : Mm) : Option (Int32) :=
  cz (3 : Int32) <|
  if (jr p0 (3 : Int32)) = 0 then
    some ((0 : Int32))
  else
    some ((1 : Int32))

set_option maxRecDepth 100000 in
set_option maxHeartbeats 4000000 in
theorem k_X3_force {g : Ev} {l : Launch} (hg : g.2.1.Nodup) {a : Nat} (hO : True) {M : Mm} {N : Ml}  {v : Int32} (hf : f_X3_force a M = some v) : KM g l yX3_force cX3_force 1 (some .int) 0 [.ref a] M N (QI g v M N) := by
  refine KM.mk hg (by decide) (Nat.le_of_ble_eq_true rfl) ?_
  intro p e s m below meth c ls hC hr hlk hl hP hS
  have hx := hC.1
  have hb := hC.2.1
  have hl : lv_has ls 1 [(0, .ref a)] := hl
  unfold f_X3_force at hf
  refine lv_iconst (v := (1 : Int32)) hx hb dX3_force_0 (by decide) ?_
  exact e_I hC hr hlk hP hS dX3_force_1 hf
set_option maxRecDepth 100000 in
set_option maxHeartbeats 4000000 in
theorem k_X3_reach {g : Ev} {l : Launch} (hg : g.2.1.Nodup) {a : Nat} (hO : True) {M : Mm} {N : Ml}  {v : Int32} (hf : f_X3_reach a M = some v) : KM g l yX3_reach cX3_reach 1 (some .int) 0 [.ref a] M N (QI g v M N) := by
  refine KM.mk hg (by decide) (Nat.le_of_ble_eq_true rfl) ?_
  intro p e s m below meth c ls hC hr hlk hl hP hS
  have hx := hC.1
  have hb := hC.2.1
  have hl : lv_has ls 1 [(0, .ref a)] := hl
  unfold f_X3_reach at hf
  refine lv_iconst (v := (0 : Int32)) hx hb dX3_reach_0 (by decide) ?_
  exact e_I hC hr hlk hP hS dX3_reach_1 hf
set_option maxRecDepth 100000 in
set_option maxHeartbeats 4000000 in
theorem k_X3_isAwake {g : Ev} {l : Launch} (hg : g.2.1.Nodup) {a : Nat} (hO : True) {M : Mm} {N : Ml} {p0 : Int32} {v : Int32} (hf : f_X3_isAwake a p0 M = some v) : KM g l yX3_isAwake cX3_isAwake 2 (some .boolean) 0 [.ref a, .int p0] M N (QI g v M N) := by
  refine KM.mk hg (by decide) (Nat.le_of_ble_eq_true rfl) ?_
  intro p e s m below meth c ls hC hr hlk hl hP hS
  have hx := hC.1
  have hb := hC.2.1
  have hl : lv_has ls 2 [(0, .ref a), (1, .int p0)] := hl
  unfold f_X3_isAwake at hf
  refine lv_iconst (v := (1 : Int32)) hx hb dX3_isAwake_0 (by decide) ?_
  exact e_Z hC hr hlk (Or.inr rfl) hP hS dX3_isAwake_1 hf
set_option maxRecDepth 100000 in
set_option maxHeartbeats 4000000 in
theorem k_X10_reach {g : Ev} {l : Launch} (hg : g.2.1.Nodup) {a : Nat} (hO : True) {M : Mm} {N : Ml}  {v : Int32} (hf : f_X10_reach a M = some v) : KM g l yX10_reach cX10_reach 1 (some .int) 0 [.ref a] M N (QI g v M N) := by
  refine KM.mk hg (by decide) (Nat.le_of_ble_eq_true rfl) ?_
  intro p e s m below meth c ls hC hr hlk hl hP hS
  have hx := hC.1
  have hb := hC.2.1
  have hl : lv_has ls 1 [(0, .ref a)] := hl
  unfold f_X10_reach at hf
  refine lv_iconst (v := (1 : Int32)) hx hb dX10_reach_0 (by decide) ?_
  exact e_I hC hr hlk hP hS dX10_reach_1 hf
set_option maxRecDepth 100000 in
set_option maxHeartbeats 4000000 in
theorem k_X1_force {g : Ev} {l : Launch} (hg : g.2.1.Nodup) {a : Nat} (hO : True) {M : Mm} {N : Ml}  {v : Int32} (hf : f_X1_force a M = some v) : KM g l yX1_force cX1_force 1 (some .int) 0 [.ref a] M N (QI g v M N) := by
  refine KM.mk hg (by decide) (Nat.le_of_ble_eq_true rfl) ?_
  intro p e s m below meth c ls hC hr hlk hl hP hS
  have hx := hC.1
  have hb := hC.2.1
  have hl : lv_has ls 1 [(0, .ref a)] := hl
  unfold f_X1_force at hf
  refine lv_iconst (v := (-1 : Int32)) hx hb dX1_force_0 (by decide) ?_
  exact e_I hC hr hlk hP hS dX1_force_1 hf
set_option maxRecDepth 100000 in
set_option maxHeartbeats 4000000 in
theorem k_X8_force {g : Ev} {l : Launch} (hg : g.2.1.Nodup) {a : Nat} (hO : True) {M : Mm} {N : Ml}  {v : Int32} (hf : f_X8_force a M = some v) : KM g l yX8_force cX8_force 1 (some .int) 0 [.ref a] M N (QI g v M N) := by
  refine KM.mk hg (by decide) (Nat.le_of_ble_eq_true rfl) ?_
  intro p e s m below meth c ls hC hr hlk hl hP hS
  have hx := hC.1
  have hb := hC.2.1
  have hl : lv_has ls 1 [(0, .ref a)] := hl
  unfold f_X8_force at hf
  refine lv_iconst (v := (2 : Int32)) hx hb dX8_force_0 (by decide) ?_
  exact e_I hC hr hlk hP hS dX8_force_1 hf
set_option maxRecDepth 100000 in
set_option maxHeartbeats 4000000 in
theorem k_X6_isAwake {g : Ev} {l : Launch} (hg : g.2.1.Nodup) {a : Nat} (hO : True) {M : Mm} {N : Ml} {p0 : Int32} {v : Int32} (hf : f_X6_isAwake a p0 M = some v) : KM g l yX6_isAwake cX6_isAwake 2 (some .boolean) 0 [.ref a, .int p0] M N (QI g v M N) := by
  refine KM.mk hg (by decide) (Nat.le_of_ble_eq_true rfl) ?_
  intro p e s m below meth c ls hC hr hlk hl hP hS
  have hx := hC.1
  have hb := hC.2.1
  have hl : lv_has ls 2 [(0, .ref a), (1, .int p0)] := hl
  unfold f_X6_isAwake at hf
  refine lv_iload_n hx hb dX6_isAwake_0 rfl (lv_at hl 1 rfl) ?_
  refine lv_iconst (v := (3 : Int32)) hx hb dX6_isAwake_1 (by decide) ?_
  obtain ⟨hz1, hf⟩ := cz_s hf
  refine lv_irem hx hb dX6_isAwake_2 hz1 ?_
  refine lv_if_eq (tgt := 10) hx hb dX6_isAwake_3 (by decide) (fun c2 => ?_) (fun c2 => ?_)
  · have hf := if_t c2 hf
    refine lv_iconst (v := (0 : Int32)) hx hb dX6_isAwake_10 (by decide) ?_
    exact e_Z hC hr hlk (Or.inl rfl) hP hS dX6_isAwake_11 hf
  · have hf := if_f c2 hf
    refine lv_iconst (v := (1 : Int32)) hx hb dX6_isAwake_6 (by decide) ?_
    refine lv_goto (tgt := 11) hx hb dX6_isAwake_7 (by decide) ?_
    exact e_Z hC hr hlk (Or.inr rfl) hP hS dX6_isAwake_11 hf
def v_force (j : Nat) : Option Int32 := if j = 0 then some 1 else if j = 1 then some 1 else if j = 2 then some (-1) else if j = 3 then some 2 else if j = 4 then some 1 else none
def v_reach (j : Nat) : Option Int32 := if j = 0 then some 0 else if j = 1 then some 1 else if j = 2 then some 0 else if j = 3 then some 1 else if j = 4 then some 0 else none
def v_isAwake (j : Nat) (r : Int32) : Option Int32 := if j = 0 then some 1 else if j = 1 then some 1 else if j = 2 then some 1 else if j = 3 then some 1 else if j = 4 then (if jr r 3 = 0 then some 0 else some 1) else none
theorem v5 {j : Nat} {α : Type} {a b c d e f : Option α} {v : α} (hn : f = none) (h : (if j = 0 then a else if j = 1 then b else if j = 2 then c else if j = 3 then d else if j = 4 then e else f) = some v) : j = 0 ∨ j = 1 ∨ j = 2 ∨ j = 3 ∨ j = 4 := by
  by_cases h0 : j = 0
  · exact Or.inl h0
  · by_cases h1 : j = 1
    · exact Or.inr (Or.inl h1)
    · by_cases h2 : j = 2
      · exact Or.inr (Or.inr (Or.inl h2))
      · by_cases h3 : j = 3
        · exact Or.inr (Or.inr (Or.inr (Or.inl h3)))
        · by_cases h4 : j = 4
          · exact Or.inr (Or.inr (Or.inr (Or.inr h4)))
          · rw [if_neg h0, if_neg h1, if_neg h2, if_neg h3, if_neg h4, hn] at h
            cases h
section RVS
variable {p : Program} {l : Launch} {e : Env} {R : Room} {s : State} {m : MethodId} {args : Array Value} {below : List Frame} {meth : Method} {c : Code} {H : Heap} {locs : List Loc} {cells slots : Nat} {Q : State → Prop}
variable {cc : ByteArray} {pc nL : Nat} {own : String} {ls : Array Slot} {rest st : List Value} {g : Ev} {M M' : Mm} {N N' : Ml}
theorem r_runU (hC : Cx g p s m args c cc nL own) (hP : wP g M N H) (hS : va_S (wA g) s.heap H locs) {x y : MethodName} {b bx : ByteArray} {n nx na d index a ci : Nat} {r rx : Option FieldType} {As : List Value} {Qc : Array Value → State → Outcome → State → Prop} {sl : List (Nat ⊕ Option Nat)} {C : String} {T : u_T} {Nn : Nat} (hM : KM g l y b n r d (.ref a :: As) M N Qc) (hcy : Cond.code y b n r ∈ wsL_law) (hiy : Cond.initialized y.cls ∈ wsL_law) (hlk : Cond.methodLink own index x ∈ wsL_law) (hsm : Cond.sameMethod x.cls x.cls x.name x.desc ∈ wsL_law) (hix : Cond.instanceMethod x ∈ wsL_law) (hcx : Cond.code x bx nx rx ∈ wsL_law) (hsel : Cond.selects C x y ∈ wsL_law) (him : Cond.instanceMethod y ∈ wsL_law) (hmh : x.cls ≠ "java/lang/invoke/MethodHandle" ∧ x.cls ≠ "java/lang/invoke/VarHandle") (hlen : ∀ sig, parseMethodDescriptor x.desc = some sig → na = sig.parameters.length) (hn40 : n ≤ 40) (hR : Rm R d cells slots) (ho : oAt g a ci sl) (hc : vwCl[ci]? = some (C, T, Nn)) (hn : As.length = na) (hls : ls.size = nL) (hst : st = As.reverse ++ .ref a :: rest) (hcat : (rest.map fun v => v.category).sum ≤ 8) (hdg : decode cc pc = .ok (.invokevirtual index, 3)) :
    va_Run p l e R s m args below meth c H locs cells slots 0 0 (F0 m pc ls st) rest (Qc (Value.ref a :: As).toArray) (wA g) := by
  have hC' := hC
  obtain ⟨hx, hb, hml, hown, hts, hF, hnd⟩ := hC'
  obtain ⟨k9, hk9⟩ := pl_at (D := g.1) ho.1 (cE_obj (M := M) (N := N) ho.2)
  refine va_runU (R := R) (As := As) (rest := rest) (n := na) (x := x) (owner := x.cls) ⟨hx, hb, hml, hown, hts⟩ hM ⟨⟨rfl, rfl, hR.1, ?_, wy_pay hC hcy, List.mem_cons_self⟩, hts _ hcy, hts _ hiy, hmh, hlen, hts _ hlk, hts _ hsm, va_Decl.of (hts _ hix) (hts _ hcx), hts _ hsel, hts _ him⟩ ⟨Wd.blind, va_recv hF.1 hP hc hk9, fun U hU hW => Wd.pre hC hP hS _ U hU hW⟩ rfl hn hls hst (lv_room hcat) hdg ⟨hR.2.2.1, hR.2.2.2⟩
  show 8 + (n + 11) + 64 * d ≤ R.locals
  have := hR.2.1
  omega
theorem r_abs (hC : Cx g p s m args c cc nL RX11) (hls : ls.size = nL) (hR : Rm R 0 cells slots) (hcat : (rest.map fun v => v.category).sum ≤ 8) {x : Int64} (hdg : decode cc pc = .ok (.invokestatic 228, 3))
    (kk : W p l e R s m args below meth c H locs cells slots Q (F0 m (pc + 3) ls (.long (jabs x) :: rest))) : W p l e R s m args below meth c H locs cells slots Q (F0 m pc ls (.long x :: rest)) := by
  obtain ⟨hx, hb, hml, hown, hts, hF, hnd⟩ := hC
  have h2 := hR.2.1
  exact va_mabs_long hx hb (hml.trans hls.symm) hown (hts _ q_895) (hts _ q_896) (hts _ q_477) (hts _ q_897) (by have := hR.1; omega) (by omega) hR.2.2.1 hR.2.2.2 hdg kk
theorem r_vforce (hC : Cx g p s m args c cc nL RX5) (hls : ls.size = nL) (hP : wP g M N H) (hS : va_S (wA g) s.heap H locs) {kd j : Nat} (hk : oKinds g kd) {v : Int32} (hu : v_force j = some v) (hR : Rm R 1 cells slots) (hcat : (rest.map fun v => v.category).sum ≤ 8) (hdg : decode cc pc = .ok (.invokevirtual 108, 3))
    (kk : ∀ (H : Heap) (locs : List Loc), wP g M N H → va_S (wA g) s.heap H locs → W p l e R s m args below meth c H locs cells slots Q (F0 m (pc + 3) ls (.int v :: rest))) : W p l e R s m args below meth c H locs cells slots Q (F0 m pc ls (.ref (kd + 1 + j) :: rest)) := by
  have hg := hC.2.2.2.2.2.2
  have hR0 := hR.low
  rcases v5 rfl hu with rfl | rfl | rfl | rfl | rfl
  · obtain rfl := Option.some.inj hu
    exact r_goI (r_runU (As := []) (rest := rest) (x := yX3_force) hC hP hS (k_X3_force hg trivial rfl) q_513 q_15 q_507 q_508 q_509 q_513 q_514 q_509 (by decide) (by decide) (by decide) hR0 hk.2.1 rfl rfl hls rfl hcat hdg) hS kk
  · obtain rfl := Option.some.inj hu
    exact r_goI (r_runU (As := []) (rest := rest) (x := yX3_force) hC hP hS (k_X3_force hg trivial rfl) q_513 q_15 q_507 q_508 q_509 q_513 q_519 q_509 (by decide) (by decide) (by decide) hR0 hk.2.2.1 rfl rfl hls rfl hcat hdg) hS kk
  · obtain rfl := Option.some.inj hu
    exact r_goI (r_runU (As := []) (rest := rest) (x := yX3_force) hC hP hS (k_X1_force hg trivial rfl) q_512 q_21 q_507 q_508 q_509 q_513 q_510 q_511 (by decide) (by decide) (by decide) hR0 hk.2.2.2.1 rfl rfl hls rfl hcat hdg) hS kk
  · obtain rfl := Option.some.inj hu
    exact r_goI (r_runU (As := []) (rest := rest) (x := yX3_force) hC hP hS (k_X8_force hg trivial rfl) q_518 q_24 q_507 q_508 q_509 q_513 q_516 q_517 (by decide) (by decide) (by decide) hR0 hk.2.2.2.2.1 rfl rfl hls rfl hcat hdg) hS kk
  · obtain rfl := Option.some.inj hu
    exact r_goI (r_runU (As := []) (rest := rest) (x := yX3_force) hC hP hS (k_X3_force hg trivial rfl) q_513 q_15 q_507 q_508 q_509 q_513 q_515 q_509 (by decide) (by decide) (by decide) hR0 hk.2.2.2.2.2 rfl rfl hls rfl hcat hdg) hS kk
theorem r_vreach (hC : Cx g p s m args c cc nL RX5) (hls : ls.size = nL) (hP : wP g M N H) (hS : va_S (wA g) s.heap H locs) {kd j : Nat} (hk : oKinds g kd) {v : Int32} (hu : v_reach j = some v) (hR : Rm R 1 cells slots) (hcat : (rest.map fun v => v.category).sum ≤ 8) (hdg : decode cc pc = .ok (.invokevirtual 111, 3))
    (kk : ∀ (H : Heap) (locs : List Loc), wP g M N H → va_S (wA g) s.heap H locs → W p l e R s m args below meth c H locs cells slots Q (F0 m (pc + 3) ls (.int v :: rest))) : W p l e R s m args below meth c H locs cells slots Q (F0 m pc ls (.ref (kd + 1 + j) :: rest)) := by
  have hg := hC.2.2.2.2.2.2
  have hR0 := hR.low
  rcases v5 rfl hu with rfl | rfl | rfl | rfl | rfl
  · obtain rfl := Option.some.inj hu
    exact r_goI (r_runU (As := []) (rest := rest) (x := yX3_reach) hC hP hS (k_X3_reach hg trivial rfl) q_524 q_15 q_520 q_521 q_523 q_524 q_525 q_523 (by decide) (by decide) (by decide) hR0 hk.2.1 rfl rfl hls rfl hcat hdg) hS kk
  · obtain rfl := Option.some.inj hu
    exact r_goI (r_runU (As := []) (rest := rest) (x := yX3_reach) hC hP hS (k_X10_reach hg trivial rfl) q_529 q_18 q_520 q_521 q_523 q_524 q_530 q_528 (by decide) (by decide) (by decide) hR0 hk.2.2.1 rfl rfl hls rfl hcat hdg) hS kk
  · obtain rfl := Option.some.inj hu
    exact r_goI (r_runU (As := []) (rest := rest) (x := yX3_reach) hC hP hS (k_X3_reach hg trivial rfl) q_524 q_15 q_520 q_521 q_523 q_524 q_522 q_523 (by decide) (by decide) (by decide) hR0 hk.2.2.2.1 rfl rfl hls rfl hcat hdg) hS kk
  · obtain rfl := Option.some.inj hu
    exact r_goI (r_runU (As := []) (rest := rest) (x := yX3_reach) hC hP hS (k_X10_reach hg trivial rfl) q_529 q_18 q_520 q_521 q_523 q_524 q_527 q_528 (by decide) (by decide) (by decide) hR0 hk.2.2.2.2.1 rfl rfl hls rfl hcat hdg) hS kk
  · obtain rfl := Option.some.inj hu
    exact r_goI (r_runU (As := []) (rest := rest) (x := yX3_reach) hC hP hS (k_X3_reach hg trivial rfl) q_524 q_15 q_520 q_521 q_523 q_524 q_526 q_523 (by decide) (by decide) (by decide) hR0 hk.2.2.2.2.2 rfl rfl hls rfl hcat hdg) hS kk
theorem r_visAwake (hC : Cx g p s m args c cc nL RX5) (hls : ls.size = nL) (hP : wP g M N H) (hS : va_S (wA g) s.heap H locs) {kd j : Nat} (hk : oKinds g kd) {v q : Int32} (hu : v_isAwake j q = some v) (hR : Rm R 1 cells slots) (hcat : (rest.map fun v => v.category).sum ≤ 8) (hdg : decode cc pc = .ok (.invokevirtual 102, 3))
    (kk : ∀ (H : Heap) (locs : List Loc), wP g M N H → va_S (wA g) s.heap H locs → W p l e R s m args below meth c H locs cells slots Q (F0 m (pc + 3) ls (.int v :: rest))) : W p l e R s m args below meth c H locs cells slots Q (F0 m pc ls (.int q :: .ref (kd + 1 + j) :: rest)) := by
  have hg := hC.2.2.2.2.2.2
  have hR0 := hR.low
  rcases v5 rfl hu with rfl | rfl | rfl | rfl | rfl
  · obtain rfl := Option.some.inj hu
    exact r_goI (r_runU (na := 1) (As := [.int q]) (rest := rest) (x := yX3_isAwake) hC hP hS (k_X3_isAwake hg trivial rfl) q_500 q_15 q_496 q_497 q_499 q_500 q_501 q_499 (by decide) (by decide) (by decide) hR0 hk.2.1 rfl rfl hls rfl hcat hdg) hS kk
  · obtain rfl := Option.some.inj hu
    exact r_goI (r_runU (na := 1) (As := [.int q]) (rest := rest) (x := yX3_isAwake) hC hP hS (k_X3_isAwake hg trivial rfl) q_500 q_15 q_496 q_497 q_499 q_500 q_506 q_499 (by decide) (by decide) (by decide) hR0 hk.2.2.1 rfl rfl hls rfl hcat hdg) hS kk
  · obtain rfl := Option.some.inj hu
    exact r_goI (r_runU (na := 1) (As := [.int q]) (rest := rest) (x := yX3_isAwake) hC hP hS (k_X3_isAwake hg trivial rfl) q_500 q_15 q_496 q_497 q_499 q_500 q_498 q_499 (by decide) (by decide) (by decide) hR0 hk.2.2.2.1 rfl rfl hls rfl hcat hdg) hS kk
  · obtain rfl := Option.some.inj hu
    exact r_goI (r_runU (na := 1) (As := [.int q]) (rest := rest) (x := yX3_isAwake) hC hP hS (k_X3_isAwake hg trivial rfl) q_500 q_15 q_496 q_497 q_499 q_500 q_505 q_499 (by decide) (by decide) (by decide) hR0 hk.2.2.2.2.1 rfl rfl hls rfl hcat hdg) hS kk
  · have hu : (if jr q 3 = 0 then some 0 else some 1) = some v := hu
    refine r_goI (r_runU (na := 1) (As := [.int q]) (rest := rest) (x := yX3_isAwake) hC hP hS (k_X6_isAwake (v := v) hg trivial ?_) q_504 q_27 q_496 q_497 q_499 q_500 q_502 q_503 (by decide) (by decide) (by decide) hR0 hk.2.2.2.2.2 rfl rfl hls rfl hcat hdg) hS kk
    exact hu
end RVS
