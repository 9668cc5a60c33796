section RWS
variable {p : Program} {l : Launch} {e : Env} {R : Room} {s : State} {m : MethodId} {args : Array Value} {below : List Frame} {meth : Method} {c : Code} {H : Heap} {locs : List Loc} {cells slots : Nat} {Q : State → Prop}
variable {cc : ByteArray} {pc nL : Nat} {own : String} {ls : Array Slot} {rest st : List Value} {g : Ev} {M M' : Mm} {N N' : Ml}
/-- the cell of an object, the cell of an array of ints: where, and what shape -/
def oAt (g : Ev) (a ci : Nat) (sl : List (Nat ⊕ Option Nat)) : Prop := a ∈ g.2.1 ∧ g.2.2.1 a = .inr (ci, sl)
def iAt (g : Ev) (a n : Nat) : Prop := a ∈ g.2.1 ∧ g.2.2.1 a = .inl (eI g, n, none)
def zAt (g : Ev) (a n : Nat) : Prop := a ∈ g.2.1 ∧ g.2.2.1 a = .inl (eZ g, n, none)
def rAt (g : Ev) (a : Nat) (cA : ClassId) (n : Nat) (f : Nat → Option Nat) : Prop := a ∈ g.2.1 ∧ ∃ f' : Nat → Option Nat, g.2.2.1 a = .inl (cA, n, some f') ∧ ∀ i, i < n → f' i = f i
/-- a field's words: who reads it, where it is linked -/
def FL (own : String) (ci index k : Nat) (C : String) (T : u_T) (Nn : Nat) : Prop := vwCl[ci]? = some (C, T, Nn) ∧ k < Nn ∧ (∀ w ∈ u_ws C T Nn, w ∈ wsL_law) ∧ (T k).1 = C ∧ Cond.fieldLink own index C (T k).2.1 (T k).2.2.1 ∈ wsL_law
theorem pl_at {D : va_G} {a : Nat} {e0 : va_E} (ha : a ∈ g.2.1) (he : cE g.2.2.1 M N a = e0) : ∃ k : Nat, (va_pl g.2.1 (cE g.2.2.1 M N))[k]? = some (a, e0) := by
  obtain ⟨k, hk⟩ := va_pl_get (X := []) (f := cE g.2.2.1 M N) ha
  exact ⟨k, by rw [← he]; exact hk⟩
theorem pl_put {a k : Nat} {e0 e1 : va_E} (hnd : g.2.1.Nodup) (ha : a ∈ g.2.1) (he : cE g.2.2.1 M N a = e0) (hk : (va_pl g.2.1 (cE g.2.2.1 M N))[k]? = some (a, e0)) (hu : ∀ b, va_up (cE g.2.2.1 M N) a e1 b = cE g.2.2.1 M' N' b) : (va_pl g.2.1 (cE g.2.2.1 M N)).set k (a, e1) = va_pl g.2.1 (cE g.2.2.1 M' N') := by
  have h := va_pl_set (X := []) (e := e1) (wD hnd (cE g.2.2.1 M N) (A := fun _ => True) (fun _ _ => trivial)) ha (by rw [he]; exact hk)
  have h2 := va_pl_congr (L := g.2.1) hu
  rw [← h2]
  exact h
theorem r_get (hC : Cx g p s m args c cc nL own) (hP : wP g M N H) {a ci index : Nat} {sl : List (Nat ⊕ Option Nat)} {C : String} {T : u_T} {Nn : Nat} (ho : oAt g a ci sl) {k : Nat} (hf : FL own ci index k C T Nn) {q0 : Nat ⊕ Option Nat} (hq : sl[k]? = some q0) (hdg : decode cc pc = .ok (.getfield index, 3))
    (kk : W p l e R s m args below meth c H locs cells slots Q (F0 m (pc + 3) ls (cF M N a k q0 :: rest))) : W p l e R s m args below meth c H locs cells slots Q (F0 m pc ls (.ref a :: rest)) := by
  obtain ⟨hx, hb, hml, hown, hts, hF, hnd⟩ := hC
  obtain ⟨hc, hk, hin, hcc, hlink⟩ := hf
  obtain ⟨k9, hk9⟩ := pl_at (D := g.1) ho.1 (cE_obj (M := M) (N := N) ho.2)
  refine va_get (D := g.1) (C := C) (T := T) (N := Nn) (ref := C) (index := index) hx hb hts hin hown hF.1 hP k9 hk9 hc k hk (hts _ hlink) (by rw [hcc]; exact fun _ h9 => h9) (v := cF M N a k q0) ?_ hdg kk
  rw [List.getElem?_mapIdx, hq]
  rfl
theorem r_putI (hC : Cx g p s m args c cc nL own) (hP : wP g M N H) (hS : va_S (wA g) s.heap H locs) {a ci index : Nat} {sl : List (Nat ⊕ Option Nat)} {C : String} {T : u_T} {Nn : Nat} (ho : oAt g a ci sl) {k : Nat} (hf : FL own ci index k C T Nn) (ty0 : Nat → FieldType) (hty : ∀ k, k < Nn → parseFieldDescriptor (T k).2.2.1 = some (ty0 k)) (hnm : ∀ a, a < Nn → ∀ b, b < Nn → a ≠ b → (T a).2.1 ≠ (T b).2.1) (hfin : (T k).2.2.2 = false) (hint : ty0 k = .int) (hq : sl[k]? = some (.inl 0)) {v : Int32} (hdg : decode cc pc = .ok (.putfield index, 3))
    (kk : ∀ (H : Heap) (locs : List Loc), wP g (up2 M a k v) N H → va_S (wA g) s.heap H locs → W p l e R s m args below meth c H locs cells slots Q (F0 m (pc + 3) ls rest)) : W p l e R s m args below meth c H locs cells slots Q (F0 m pc ls (.int v :: .ref a :: rest)) := by
  obtain ⟨hx, hb, hml, hown, hts, hF, hnd⟩ := hC
  obtain ⟨hc, hk, hin, hcc, hlink⟩ := hf
  obtain ⟨k9, hk9⟩ := pl_at (D := g.1) ho.1 (cE_obj (M := M) (N := N) ho.2)
  refine va_put (D := g.1) (C := C) (T := T) (N := Nn) (ref := C) (index := index) (ty := .int) (v := .int v) hx hb hts hin ty0 hty hnm hown hF.1 hP (wD hnd _ (fun _ h => h)) hS k9 hk9 hc k hk (hts _ hlink) (by rw [hcc]; exact fun _ h9 => h9) hfin (by rw [← hint]; exact hty k hk) rfl rfl ?_ hdg (fun H1 locs1 hP1 hD1 hS1 => ?_)
  · rw [List.length_mapIdx]
    exact (List.getElem?_eq_some_iff.mp hq).1
  · rw [pl_put (M' := up2 M a k v) (N' := N) hnd ho.1 (cE_obj ho.2) hk9 (cE_upI ho.2 hq v)] at hP1
    exact kk H1 locs1 hP1 hS1
theorem r_putL (hC : Cx g p s m args c cc nL own) (hP : wP g M N H) (hS : va_S (wA g) s.heap H locs) {a ci index : Nat} {sl : List (Nat ⊕ Option Nat)} {C : String} {T : u_T} {Nn : Nat} (ho : oAt g a ci sl) {k : Nat} (hf : FL own ci index k C T Nn) (ty0 : Nat → FieldType) (hty : ∀ k, k < Nn → parseFieldDescriptor (T k).2.2.1 = some (ty0 k)) (hnm : ∀ a, a < Nn → ∀ b, b < Nn → a ≠ b → (T a).2.1 ≠ (T b).2.1) (hfin : (T k).2.2.2 = false) (hint : ty0 k = .long) (hq : sl[k]? = some (.inl 1)) {v : Int64} (hdg : decode cc pc = .ok (.putfield index, 3))
    (kk : ∀ (H : Heap) (locs : List Loc), wP g M (up2L N a k v) H → va_S (wA g) s.heap H locs → W p l e R s m args below meth c H locs cells slots Q (F0 m (pc + 3) ls rest)) : W p l e R s m args below meth c H locs cells slots Q (F0 m pc ls (.long v :: .ref a :: rest)) := by
  obtain ⟨hx, hb, hml, hown, hts, hF, hnd⟩ := hC
  obtain ⟨hc, hk, hin, hcc, hlink⟩ := hf
  obtain ⟨k9, hk9⟩ := pl_at (D := g.1) ho.1 (cE_obj (M := M) (N := N) ho.2)
  refine va_put (D := g.1) (C := C) (T := T) (N := Nn) (ref := C) (index := index) (ty := .long) (v := .long v) hx hb hts hin ty0 hty hnm hown hF.1 hP (wD hnd _ (fun _ h => h)) hS k9 hk9 hc k hk (hts _ hlink) (by rw [hcc]; exact fun _ h9 => h9) hfin (by rw [← hint]; exact hty k hk) rfl rfl ?_ hdg (fun H1 locs1 hP1 hD1 hS1 => ?_)
  · rw [List.length_mapIdx]
    exact (List.getElem?_eq_some_iff.mp hq).1
  · rw [pl_put (M' := M) (N' := up2L N a k v) hnd ho.1 (cE_obj ho.2) hk9 (cE_upL ho.2 hq v)] at hP1
    exact kk H1 locs1 hP1 hS1
/-- an index that is in its row, as a number -/
def ckd (i : Int32) (n : Nat) : Bool := decide (0 ≤ i) && decide (i.toNatClampNeg < n)
theorem ckd_in {i : Int32} {n : Nat} (h : ckd i n = true) : vp_in i n := by
  simp only [ckd, Bool.and_eq_true, decide_eq_true_eq] at h
  intro q
  rcases q with q | q
  · exact absurd h.1 (Int32.not_le.mpr q)
  · omega
theorem r_iald (hC : Cx g p s m args c cc nL own) (hP : wP g M N H) {a n : Nat} (ha : iAt g a n) {i : Int32} (hin : vp_in i n) (hdg : decode cc pc = .ok (.iaload, 1))
    (kk : W p l e R s m args below meth c H locs cells slots Q (F0 m (pc + 1) ls (.int (M a i.toNatClampNeg) :: rest))) : W p l e R s m args below meth c H locs cells slots Q (F0 m pc ls (.int i :: .ref a :: rest)) := by
  obtain ⟨hx, hb, hml, hown, hts, hF, hnd⟩ := hC
  obtain ⟨k9, hk9⟩ := pl_at (D := g.1) ha.1 (cE_arr (M := M) (N := N) ha.2)
  exact va_iald (D := g.1) hx hb hF.1 hP k9 0 hk9 rfl hin hdg kk
theorem r_zald (hC : Cx g p s m args c cc nL own) (hP : wP g M N H) {a n : Nat} (ha : zAt g a n) {i : Int32} (hin : vp_in i n) (hdg : decode cc pc = .ok (.baload, 1))
    (kk : W p l e R s m args below meth c H locs cells slots Q (F0 m (pc + 1) ls (.int (M a i.toNatClampNeg) :: rest))) : W p l e R s m args below meth c H locs cells slots Q (F0 m pc ls (.int i :: .ref a :: rest)) := by
  obtain ⟨hx, hb, hml, hown, hts, hF, hnd⟩ := hC
  obtain ⟨k9, hk9⟩ := pl_at (D := g.1) ha.1 (cE_arr (M := M) (N := N) ha.2)
  exact va_zald (D := g.1) hx hb hF.1 hP k9 1 hk9 rfl hin hdg kk
theorem r_iast (hC : Cx g p s m args c cc nL own) (hP : wP g M N H) (hS : va_S (wA g) s.heap H locs) {a n : Nat} (ha : iAt g a n) {i v : Int32} (hin : vp_in i n) (hdg : decode cc pc = .ok (.iastore, 1))
    (kk : ∀ (H : Heap) (locs : List Loc), wP g (up2 M a i.toNatClampNeg v) N H → va_S (wA g) s.heap H locs → W p l e R s m args below meth c H locs cells slots Q (F0 m (pc + 1) ls rest)) : W p l e R s m args below meth c H locs cells slots Q (F0 m pc ls (.int v :: .int i :: .ref a :: rest)) := by
  obtain ⟨hx, hb, hml, hown, hts, hF, hnd⟩ := hC
  obtain ⟨k9, hk9⟩ := pl_at (D := g.1) ha.1 (cE_arr (M := M) (N := N) ha.2)
  refine va_iast (D := g.1) hx hb hF.1 hP (wD hnd _ (fun _ h => h)) hS k9 0 hk9 rfl hin hdg (fun H1 locs1 hP1 hD1 hS1 => ?_)
  rw [pl_put (M' := up2 M a i.toNatClampNeg v) (N' := N) hnd ha.1 (cE_arr ha.2) hk9 (cE_upA ha.2 _)] at hP1
  exact kk H1 locs1 hP1 hS1
theorem r_aald (hC : Cx g p s m args c cc nL own) (hP : wP g M N H) {a n t0 : Nat} {cA : ClassId} {f : Nat → Option Nat} {C : String} (ha : rAt g a cA n f) (ht : (tys g)[t0]? = some (cA, .object C)) {i : Int32} (hin : vp_in i n) (hdg : decode cc pc = .ok (.aaload, 1))
    (kk : W p l e R s m args below meth c H locs cells slots Q (F0 m (pc + 1) ls (va_rf (f i.toNatClampNeg) :: rest))) : W p l e R s m args below meth c H locs cells slots Q (F0 m pc ls (.int i :: .ref a :: rest)) := by
  obtain ⟨hx, hb, hml, hown, hts, hF, hnd⟩ := hC
  obtain ⟨ha1, f', hf', hi⟩ := ha
  obtain ⟨k9, hk9⟩ := pl_at (D := g.1) ha1 (cE_ref (M := M) (N := N) hf')
  have hlt : i.toNatClampNeg < n := Nat.not_le.mp fun q => hin (Or.inr q)
  exact va_aldq (D := g.1) hx hb hF.1 hP k9 t0 hk9 ht hin hdg (by rw [hi _ hlt]; exact kk)
/-- the words of a call, by a link of own's pool -/
def CWd (own : String) (index : Nat) (y : MethodName) (b : ByteArray) (n : Nat) (r : Option FieldType) (na : Nat) : Prop := Cond.code y b n r ∈ wsL_law ∧ Cond.initialized y.cls ∈ wsL_law ∧ (y.cls ≠ "java/lang/invoke/MethodHandle" ∧ y.cls ≠ "java/lang/invoke/VarHandle") ∧ (∀ sig, parseMethodDescriptor y.desc = some sig → na = sig.parameters.length) ∧ n ≤ 40
def Rm (R : Room) (d cells slots : Nat) : Prop := d + 1 ≤ R.frames ∧ 64 * d + 64 ≤ R.locals ∧ cells ≤ R.cells ∧ slots ≤ R.slots
theorem Rm.D (d d' : Nat) (h : Nat.ble (d + 1) d' = true) : Rm (rmD d') d 0 0 := by
  have h1 := Nat.le_of_ble_eq_true h
  refine ⟨h1, ?_, Nat.le_refl 0, Nat.le_refl 0⟩
  show 64 * d + 64 ≤ 64 * d'
  omega
theorem Rm.E (d : Nat) : Rm (rmD (d + 1)) d 0 0 := ⟨Nat.le_refl _, Nat.le_refl _, Nat.le_refl 0, Nat.le_refl 0⟩
theorem Rm.low {d : Nat} (h : Rm R (d + 1) cells slots) : Rm R d cells slots := by
  obtain ⟨h1, h2, h3, h4⟩ := h
  exact ⟨by omega, by omega, h3, h4⟩
theorem wy_pay (hC : Cx g p s m args c cc nL own) {y : MethodName} {b : ByteArray} {n : Nat} {r : Option FieldType} (hy : Cond.code y b n r ∈ wsL_law) : ∀ w ∈ wy y b n r, ∀ (a' : Array Value) (U : State), s.WarmedH U.vm → w.before a' U = true := by
  have hG : GoodIn wsL_law (wy y b n r) := fun w hw => by
    rcases List.mem_cons.mp hw with e | e
    · subst e
      exact ⟨hy, (wb_good _ hy).2⟩
    · exact ⟨e, (wb_good _ e).2⟩
  exact pay_in hC.2.2.2.2.1 hG
theorem Wd.blind {av : List Value} : FrameBlind (va_Pc av (Wd g M N)) := fun a U f mk q => by
  obtain ⟨q0, qP, qF⟩ := q
  exact ⟨q0, qP, qF.same rfl rfl⟩
theorem Wd.pre (hC : Cx g p s m args c cc nL own) (hP : wP g M N H) (hS : va_S (wA g) s.heap H locs) (av : List Value) (U : State) (hU : U.heap = H) (hW : s.WarmedH U.vm) : va_Pc av (Wd g M N) av.toArray U := ⟨rfl, by rw [hU]; exact hP, hC.2.2.2.2.2.1.go hS hU hW⟩
theorem r_runV (hC : Cx g p s m args c cc nL own) (hP : wP g M N H) (hS : va_S (wA g) s.heap H locs) {y : MethodName} {b : ByteArray} {n na d index a ci : Nat} {r : Option FieldType} {As : List Value} {Qc : Array Value → State → Outcome → State → Prop} {sl : List (Nat ⊕ Option Nat)} {C : String} {T : u_T} {Nn : Nat} (hM : KM g l y b n r d (.ref a :: As) M N Qc) (hw : CWd own index y b n r na) (hlk : Cond.methodLink own index y ∈ wsL_law) (him : Cond.instanceMethod y ∈ wsL_law) (hsel : Cond.selects C y y ∈ wsL_law) (hR : Rm R d cells slots) (ho : oAt g a ci sl) (hc : vwCl[ci]? = some (C, T, Nn)) (hn : As.length = na) (hls : ls.size = nL) (hst : st = As.reverse ++ .ref a :: rest) (hcat : (rest.map fun v => v.category).sum ≤ 8) (hdg : decode cc pc = .ok (.invokevirtual index, 3)) :
    va_Run p l e R s m args below meth c H locs cells slots 0 0 (F0 m pc ls st) rest (Qc (Value.ref a :: As).toArray) (wA g) := by
  have hC' := hC
  obtain ⟨hx, hb, hml, hown, hts, hF, hnd⟩ := hC'
  obtain ⟨k9, hk9⟩ := pl_at (D := g.1) ho.1 (cE_obj (M := M) (N := N) ho.2)
  obtain ⟨w1, w2, w3, w4, w5⟩ := hw
  refine va_runV (R := R) (As := As) (rest := rest) (n := na) ⟨hx, hb, hml, hown, hts⟩ hM ⟨⟨rfl, rfl, hR.1, ?_, wy_pay hC w1, List.mem_cons_self, hts _ w1, hts _ w2, w3, w4, hts _ hlk⟩, hts _ him, hts _ hsel⟩ ⟨Wd.blind, va_recv hF.1 hP hc hk9, fun U hU hW => Wd.pre hC hP hS _ U hU hW⟩ rfl hn hls hst (lv_room hcat) hdg ⟨hR.2.2.1, hR.2.2.2⟩
  show 8 + (n + 11) + 64 * d ≤ R.locals
  have := hR.2.1
  omega
theorem r_runS (hC : Cx g p s m args c cc nL own) (hP : wP g M N H) (hS : va_S (wA g) s.heap H locs) {y : MethodName} {b : ByteArray} {n na d index : Nat} {r : Option FieldType} {As : List Value} {Qc : Array Value → State → Outcome → State → Prop} (hM : KM g l y b n r d As M N Qc) (hw : CWd own index y b n r na) (hlk : Cond.methodLink own index y ∈ wsL_law) (hsta : Cond.static y ∈ wsL_law) (hR : Rm R d cells slots) (hn : As.length = na) (hls : ls.size = nL) (hst : st = As.reverse ++ rest) (hcat : (rest.map fun v => v.category).sum ≤ 8) (hdg : decode cc pc = .ok (.invokestatic index, 3)) :
    va_Run p l e R s m args below meth c H locs cells slots 0 0 (F0 m pc ls st) rest (Qc As.toArray) (wA g) := by
  have hC' := hC
  obtain ⟨hx, hb, hml, hown, hts, hF, hnd⟩ := hC'
  obtain ⟨w1, w2, w3, w4, w5⟩ := hw
  refine va_runS (R := R) (As := As) (rest := rest) (n := na) ⟨hx, hb, hml, hown, hts⟩ hM ⟨⟨rfl, rfl, hR.1, ?_, wy_pay hC w1, List.mem_cons_self, hts _ w1, hts _ w2, w3, w4, hts _ hlk⟩, hts _ hsta⟩ ⟨Wd.blind, fun U hU hW => Wd.pre hC hP hS _ U hU hW⟩ rfl hn hls hst (lv_room hcat) hdg ⟨hR.2.2.1, hR.2.2.2⟩
  show 8 + (n + 11) + 64 * d ≤ R.locals
  have := hR.2.1
  omega
theorem r_runSN (hC : Cx g p s m args c cc nL own) (hP : wP g M N H) (hS : va_S (wA g) s.heap H locs) {y : MethodName} {b : ByteArray} {n na d index : Nat} {host : String} {r : Option FieldType} {As : List Value} {Qc : Array Value → State → Outcome → State → Prop} (hM : KM g l y b n r d As M N Qc) (hw : CWd own index y b n r na) (hlk : va_Nw (.methodLinkNest own index y host) s) (hsta : Cond.static y ∈ wsL_law) (hR : Rm R d cells slots) (hn : As.length = na) (hls : ls.size = nL) (hst : st = As.reverse ++ rest) (hcat : (rest.map fun v => v.category).sum ≤ 8) (hdg : decode cc pc = .ok (.invokestatic index, 3)) :
    va_Run p l e R s m args below meth c H locs cells slots 0 0 (F0 m pc ls st) rest (Qc As.toArray) (wA g) := by
  have hC' := hC
  obtain ⟨hx, hb, hml, hown, hts, hF, hnd⟩ := hC'
  obtain ⟨w1, w2, w3, w4, w5⟩ := hw
  refine va_runSN (R := R) (As := As) (rest := rest) (n := na) ⟨hx, hb, hml, hown, hts⟩ hM ⟨⟨⟨rfl, rfl, hR.1, ?_, wy_pay hC w1, List.mem_cons_self⟩, hts _ w1, hts _ w2, w3, w4, va_Nw.use rfl hlk⟩, hts _ hsta, trivial⟩ ⟨Wd.blind, fun U hU hW => Wd.pre hC hP hS _ U hU hW⟩ rfl hn hls hst (lv_room hcat) hdg ⟨hR.2.2.1, hR.2.2.2⟩
  show 8 + (n + 11) + 64 * d ≤ R.locals
  have := hR.2.1
  omega
/-- a call's way on, by what it answers -/
theorem r_goI {a : Array Value} {v : Int32} (hr : va_Run p l e R s m args below meth c H locs cells slots 0 0 (F0 m pc ls st) rest (QI g v M' N' a) (wA g)) (hS : va_S (wA g) s.heap H locs) (kk : ∀ (H : Heap) (locs : List Loc), wP g M' N' H → va_S (wA g) s.heap H locs → W p l e R s m args below meth c H locs cells slots Q (F0 m (pc + 3) ls (.int v :: rest))) : W p l e R s m args below meth c H locs cells slots Q (F0 m pc ls st) := by
  refine va_calli hr hS (fun _ _ h => h) (fun _ h => h) (fun r u t H1 locs1 ht hvm hw hB hz hk hS1 => ?_)
  obtain ⟨rfl, rfl⟩ := hw
  exact kk H1 locs1 (by rw [← ht]; exact hB) hS1
theorem r_goL {a : Array Value} {v : Int64} (hr : va_Run p l e R s m args below meth c H locs cells slots 0 0 (F0 m pc ls st) rest (QL g v M' N' a) (wA g)) (hS : va_S (wA g) s.heap H locs) (kk : ∀ (H : Heap) (locs : List Loc), wP g M' N' H → va_S (wA g) s.heap H locs → W p l e R s m args below meth c H locs cells slots Q (F0 m (pc + 3) ls (.long v :: rest))) : W p l e R s m args below meth c H locs cells slots Q (F0 m pc ls st) := by
  refine va_calll hr hS (fun _ _ h => h) (fun _ h => h) (fun r u t H1 locs1 ht hvm hw hB hz hk hS1 => ?_)
  obtain ⟨rfl, rfl⟩ := hw
  exact kk H1 locs1 (by rw [← ht]; exact hB) hS1
theorem r_goV {a : Array Value} (hr : va_Run p l e R s m args below meth c H locs cells slots 0 0 (F0 m pc ls st) rest (QV g M' N' a) (wA g)) (hS : va_S (wA g) s.heap H locs) (kk : ∀ (H : Heap) (locs : List Loc), wP g M' N' H → va_S (wA g) s.heap H locs → W p l e R s m args below meth c H locs cells slots Q (F0 m (pc + 3) ls rest)) : W p l e R s m args below meth c H locs cells slots Q (F0 m pc ls st) := by
  refine va_callv hr hS (fun _ _ h => h) (fun _ h => h) (fun u t H1 locs1 ht hvm hw hB hz hk hS1 => ?_)
  subst hw
  exact kk H1 locs1 (by rw [← ht]; exact hB) hS1
theorem r_goR {a : Array Value} {v : Nat} (hr : va_Run p l e R s m args below meth c H locs cells slots 0 0 (F0 m pc ls st) rest (QR g v M' N' a) (wA g)) (hS : va_S (wA g) s.heap H locs) (kk : ∀ (H : Heap) (locs : List Loc), wP g M' N' H → va_S (wA g) s.heap H locs → W p l e R s m args below meth c H locs cells slots Q (F0 m (pc + 3) ls (.ref v :: rest))) : W p l e R s m args below meth c H locs cells slots Q (F0 m pc ls st) := by
  refine va_callr hr hS (fun _ _ h => h) (fun _ h => h) (fun u a t H1 locs1 ht hvm hw hB hz hk hS1 => ?_)
  subst hw
  obtain ⟨rfl, hB⟩ := hB
  exact kk H1 locs1 (by rw [← ht]; exact hB) hS1
/-- the ends -/
theorem e_I {v v' : Int32} (hC : Cx g p s m args c cc nL own) (hr : meth.sig.returnType = some .int) (hlk : meth.locks = false) (hP : wP g M N H) (hS : va_S (wA g) s.heap H locs) (hdg : decode cc pc = .ok (.ireturn, 1)) (hf : some v' = some v) : W p l e R s m args below meth c H locs 0 0 (MQ below (QI g v M N) args s 0 0 (wA g)) (F0 m pc ls [.int v']) :=
  W.iret hC.1 hC.2.1 hr (fun t ht hW => ⟨⟨v', (M, N), rfl, ⟨Option.some.inj hf, rfl⟩, by show wP g M N t.heap; rw [ht]; exact hP⟩, hS.F ht⟩) hS.2.2 hdg hlk
theorem e_IM {v v' : Int32} (hC : Cx g p s m args c cc nL own) (hr : meth.sig.returnType = some .int) (hlk : meth.locks = false) (hP : wP g M N H) (hS : va_S (wA g) s.heap H locs) (hdg : decode cc pc = .ok (.ireturn, 1)) (hf : some (v', M) = some (v, M')) : W p l e R s m args below meth c H locs 0 0 (MQ below (QI g v M' N) args s 0 0 (wA g)) (F0 m pc ls [.int v']) := by
  obtain ⟨h1, h2⟩ := Prod.mk.inj (Option.some.inj hf)
  subst h2
  exact e_I hC hr hlk hP hS hdg (by rw [h1])
theorem e_IN {v v' : Int32} (hC : Cx g p s m args c cc nL own) (hr : meth.sig.returnType = some .int) (hlk : meth.locks = false) (hP : wP g M N H) (hS : va_S (wA g) s.heap H locs) (hdg : decode cc pc = .ok (.ireturn, 1)) (hf : some (v', M, N) = some (v, M', N')) : W p l e R s m args below meth c H locs 0 0 (MQ below (QI g v M' N') args s 0 0 (wA g)) (F0 m pc ls [.int v']) := by
  obtain ⟨h1, h2⟩ := Prod.mk.inj (Option.some.inj hf)
  obtain ⟨h2, h3⟩ := Prod.mk.inj h2
  subst h2
  subst h3
  exact e_I hC hr hlk hP hS hdg (by rw [h1])
theorem e_Z {v v' : Int32} (hC : Cx g p s m args c cc nL own) (hr : meth.sig.returnType = some .boolean) (hlk : meth.locks = false) (hn : v' = 0 ∨ v' = 1) (hP : wP g M N H) (hS : va_S (wA g) s.heap H locs) (hdg : decode cc pc = .ok (.ireturn, 1)) (hf : some v' = some v) : W p l e R s m args below meth c H locs 0 0 (MQ below (QI g v M N) args s 0 0 (wA g)) (F0 m pc ls [.int v']) :=
  W.zret hC.1 hC.2.1 hr (by rcases hn with rfl | rfl <;> rfl) (fun t ht hW => ⟨⟨v', (M, N), rfl, ⟨Option.some.inj hf, rfl⟩, by show wP g M N t.heap; rw [ht]; exact hP⟩, hS.F ht⟩) hS.2.2 hdg hlk
theorem e_ZM {v v' : Int32} (hC : Cx g p s m args c cc nL own) (hr : meth.sig.returnType = some .boolean) (hlk : meth.locks = false) (hn : v' = 0 ∨ v' = 1) (hP : wP g M N H) (hS : va_S (wA g) s.heap H locs) (hdg : decode cc pc = .ok (.ireturn, 1)) (hf : some (v', M) = some (v, M')) : W p l e R s m args below meth c H locs 0 0 (MQ below (QI g v M' N) args s 0 0 (wA g)) (F0 m pc ls [.int v']) := by
  obtain ⟨h1, h2⟩ := Prod.mk.inj (Option.some.inj hf)
  subst h2
  exact e_Z hC hr hlk hn hP hS hdg (by rw [h1])
theorem e_L {v v' : Int64} (hC : Cx g p s m args c cc nL own) (hr : meth.sig.returnType = some .long) (hlk : meth.locks = false) (hP : wP g M N H) (hS : va_S (wA g) s.heap H locs) (hdg : decode cc pc = .ok (.lreturn, 1)) (hf : some v' = some v) : W p l e R s m args below meth c H locs 0 0 (MQ below (QL g v M N) args s 0 0 (wA g)) (F0 m pc ls [.long v']) :=
  W.lret hC.1 hC.2.1 hr (fun t ht hW => ⟨⟨v', (M, N), rfl, ⟨Option.some.inj hf, rfl⟩, by show wP g M N t.heap; rw [ht]; exact hP⟩, hS.F ht⟩) hS.2.2 hdg hlk
theorem e_LM {v v' : Int64} (hC : Cx g p s m args c cc nL own) (hr : meth.sig.returnType = some .long) (hlk : meth.locks = false) (hP : wP g M N H) (hS : va_S (wA g) s.heap H locs) (hdg : decode cc pc = .ok (.lreturn, 1)) (hf : some (v', M) = some (v, M')) : W p l e R s m args below meth c H locs 0 0 (MQ below (QL g v M' N) args s 0 0 (wA g)) (F0 m pc ls [.long v']) := by
  obtain ⟨h1, h2⟩ := Prod.mk.inj (Option.some.inj hf)
  subst h2
  exact e_L hC hr hlk hP hS hdg (by rw [h1])
theorem e_VM (hC : Cx g p s m args c cc nL own) (hr : meth.sig.returnType = none) (hlk : meth.locks = false) (hP : wP g M N H) (hS : va_S (wA g) s.heap H locs) (hdg : decode cc pc = .ok (.return_, 1)) (hf : some M = some M') : W p l e R s m args below meth c H locs 0 0 (MQ below (QV g M' N) args s 0 0 (wA g)) (F0 m pc ls []) := by
  obtain rfl := Option.some.inj hf
  exact W.vret hC.1 hC.2.1 hr (fun t ht hW => ⟨⟨(M, N), rfl, rfl, by show wP g M N t.heap; rw [ht]; exact hP⟩, hS.F ht⟩) hS.2.2 hdg hlk
theorem e_RM {v v' : Nat} {rt : FieldType} (hC : Cx g p s m args c cc nL own) (hr : meth.sig.returnType = some rt) (hrt : (∃ n, rt = .object n) ∨ ∃ t, rt = .array t) (hlk : meth.locks = false) (hP : wP g M N H) (hS : va_S (wA g) s.heap H locs) (hdg : decode cc pc = .ok (.areturn, 1)) (hf : some (v', M) = some (v, M')) : W p l e R s m args below meth c H locs 0 0 (MQ below (QR g v M' N) args s 0 0 (wA g)) (F0 m pc ls [.ref v']) := by
  obtain ⟨rfl, rfl⟩ := Prod.mk.inj (Option.some.inj hf)
  exact W.aret hC.1 hC.2.1 hr hrt (Or.inr ⟨v', rfl⟩) (fun t ht hW => ⟨⟨(M, N), v', rfl, rfl, rfl, by show wP g M N t.heap; rw [ht]; exact hP⟩, hS.F ht⟩) hS.2.2 hdg hlk
theorem e_R {v : Nat} {rt : FieldType} (hC : Cx g p s m args c cc nL own) (hr : meth.sig.returnType = some rt) (hrt : (∃ n, rt = .object n) ∨ ∃ t, rt = .array t) (hlk : meth.locks = false) (hP : wP g M N H) (hS : va_S (wA g) s.heap H locs) (hdg : decode cc pc = .ok (.areturn, 1)) (hf : some M = some M') : W p l e R s m args below meth c H locs 0 0 (MQ below (QR g v M' N) args s 0 0 (wA g)) (F0 m pc ls [.ref v]) := e_RM hC hr hrt hlk hP hS hdg (by rw [Option.some.inj hf])
theorem r_getI (hC : Cx g p s m args c cc nL own) (hP : wP g M N H) {a ci index : Nat} {sl : List (Nat ⊕ Option Nat)} {C : String} {T : u_T} {Nn : Nat} (ho : oAt g a ci sl) {k : Nat} (hf : FL own ci index k C T Nn) (hq : sl[k]? = some (.inl 0)) (hdg : decode cc pc = .ok (.getfield index, 3))
    (kk : W p l e R s m args below meth c H locs cells slots Q (F0 m (pc + 3) ls (.int (M a k) :: rest))) : W p l e R s m args below meth c H locs cells slots Q (F0 m pc ls (.ref a :: rest)) := r_get hC hP ho hf hq hdg kk
theorem r_getL (hC : Cx g p s m args c cc nL own) (hP : wP g M N H) {a ci index : Nat} {sl : List (Nat ⊕ Option Nat)} {C : String} {T : u_T} {Nn : Nat} (ho : oAt g a ci sl) {k : Nat} (hf : FL own ci index k C T Nn) (hq : sl[k]? = some (.inl 1)) (hdg : decode cc pc = .ok (.getfield index, 3))
    (kk : W p l e R s m args below meth c H locs cells slots Q (F0 m (pc + 3) ls (.long (N a k) :: rest))) : W p l e R s m args below meth c H locs cells slots Q (F0 m pc ls (.ref a :: rest)) := r_get hC hP ho hf hq hdg kk
theorem r_getR (hC : Cx g p s m args c cc nL own) (hP : wP g M N H) {a ci index : Nat} {sl : List (Nat ⊕ Option Nat)} {C : String} {T : u_T} {Nn : Nat} (ho : oAt g a ci sl) {k : Nat} (hf : FL own ci index k C T Nn) {v : Nat} (hq : sl[k]? = some (.inr (some v))) (hdg : decode cc pc = .ok (.getfield index, 3))
    (kk : W p l e R s m args below meth c H locs cells slots Q (F0 m (pc + 3) ls (.ref v :: rest))) : W p l e R s m args below meth c H locs cells slots Q (F0 m pc ls (.ref a :: rest)) := r_get hC hP ho hf hq hdg kk
theorem r_aalR (hC : Cx g p s m args c cc nL own) (hP : wP g M N H) {a n t0 : Nat} {cA : ClassId} {f : Nat → Option Nat} {C : String} (ha : rAt g a cA n f) (ht : (tys g)[t0]? = some (cA, .object C)) {i : Int32} (hin : vp_in i n) {v : Nat} (hv : f i.toNatClampNeg = some v) (hdg : decode cc pc = .ok (.aaload, 1))
    (kk : W p l e R s m args below meth c H locs cells slots Q (F0 m (pc + 1) ls (.ref v :: rest))) : W p l e R s m args below meth c H locs cells slots Q (F0 m pc ls (.int i :: .ref a :: rest)) := r_aald hC hP ha ht hin hdg (by rw [hv]; exact kk)
theorem r_alen (hC : Cx g p s m args c cc nL own) (hP : wP g M N H) {a n : Nat} (ha : iAt g a n) (hdg : decode cc pc = .ok (.arraylength, 1))
    (kk : W p l e R s m args below meth c H locs cells slots Q (F0 m (pc + 1) ls (.int (Int32.ofNat n) :: rest))) : W p l e R s m args below meth c H locs cells slots Q (F0 m pc ls (.ref a :: rest)) := by
  obtain ⟨hx, hb, hml, hown, hts, hF, hnd⟩ := hC
  obtain ⟨k9, hk9⟩ := pl_at (D := g.1) ha.1 (cE_arr (M := M) (N := N) ha.2)
  exact va_alen (D := g.1) hx hb hF.1 hP k9 0 hk9 (ty := .int) rfl rfl hdg kk
theorem r_min (hC : Cx g p s m args c cc nL own) (hls : ls.size = nL) {index : Nat} (hlk : Cond.methodLink own index Lib.Math.min.name ∈ wsL_law) (hst : Cond.static Lib.Math.min.name ∈ wsL_law) (hin : Cond.initialized "java/lang/Math" ∈ wsL_law) (hco : Cond.code Lib.Math.min.name Lib.Math.min.code 2 (some .int) ∈ wsL_law) (hR : Rm R 0 cells slots) (hcat : (rest.map fun v => v.category).sum ≤ 8) {x y : Int32} (hdg : decode cc pc = .ok (.invokestatic index, 3))
    (kk : W p l e R s m args below meth c H locs cells slots Q (F0 m (pc + 3) ls (.int (if y < x then y else x) :: rest))) : W p l e R s m args below meth c H locs cells slots Q (F0 m pc ls (.int y :: .int x :: rest)) := by
  obtain ⟨hx, hb, hml, hown, hts, hF, hnd⟩ := hC
  have h2 := hR.2.1
  exact va_mmin hx hb (hml.trans hls.symm) hown (hts _ hlk) (hts _ hst) (hts _ hin) (hts _ hco) (by have := hR.1; omega) (by omega) hR.2.2.1 hR.2.2.2 hdg kk
theorem r_copy (hC : Cx g p s m args c cc nL own) (hls : ls.size = nL) (hP : wP g M N H) (hS : va_S (wA g) s.heap H locs) {index : Nat} (hlk : Cond.methodLink own index arraycopyName ∈ wsL_law) (hna : Cond.native arraycopyName ∈ wsL_law) (hst : Cond.static arraycopyName ∈ wsL_law) (hin : Cond.initialized "java/lang/System" ∈ wsL_law) {a0 a n0 n1 : Nat} (ha0 : iAt g a0 n0) (ha : iAt g a n1) {sp dp n : Int32} (h1 : ¬ sp < 0) (h2 : ¬ dp < 0) (h3 : ¬ n < 0) (h4 : sp.toNatClampNeg + n.toNatClampNeg ≤ n0) (h5 : dp.toNatClampNeg + n.toNatClampNeg ≤ n1) (hR : Rm R 0 cells slots) (hcat : (rest.map fun v => v.category).sum ≤ 8) (hdg : decode cc pc = .ok (.invokestatic index, 3))
    (kk : ∀ (H : Heap) (locs : List Loc), wP g (va_up M a (va_cpy (M a0) (M a) sp.toNatClampNeg dp.toNatClampNeg n.toNatClampNeg)) N H → va_S (wA g) s.heap H locs → W p l e R s m args below meth c H locs cells slots Q (F0 m (pc + 3) ls rest)) : W p l e R s m args below meth c H locs cells slots Q (F0 m pc ls (.int n :: .int dp :: .ref a :: .int sp :: .ref a0 :: rest)) := by
  obtain ⟨hx, hb, hml, hown, hts, hF, hnd⟩ := hC
  obtain ⟨k8, hk8⟩ := pl_at (D := g.1) ha0.1 (cE_arr (M := M) (N := N) ha0.2)
  obtain ⟨k9, hk9⟩ := pl_at (D := g.1) ha.1 (cE_arr (M := M) (N := N) ha.2)
  have hz := hR.2.1
  have hq : nativeFrameWords "java/lang/System" "arraycopy" 5 ≤ 40 := by decide
  refine va_copyi (D := g.1) (ty := .int) hx hb (hml.trans hls.symm) hown (hts _ hlk) (hts _ hna) (hts _ hst) (hts _ hin) hF.1 hP (wD hnd _ (fun _ h => h)) hS k8 k9 0 0 hk8 hk9 rfl rfl rfl h1 h2 h3 h4 h5 (fun _ _ => rfl) (by have := hR.1; omega) (by omega) hdg (fun H1 locs1 hP1 hD1 hS1 => ?_)
  rw [pl_put (M' := va_up M a (va_cpy (M a0) (M a) sp.toNatClampNeg dp.toNatClampNeg n.toNatClampNeg)) (N' := N) hnd ha.1 (cE_arr ha.2) hk9 (cE_upA ha.2 _)] at hP1
  exact kk H1 locs1 hP1 hS1
theorem r_zast (hC : Cx g p s m args c cc nL own) (hP : wP g M N H) (hS : va_S (wA g) s.heap H locs) {a n : Nat} (ha : zAt g a n) {i v : Int32} (hv : vp_nar .boolean v = v) (hin : vp_in i n) (hdg : decode cc pc = .ok (.bastore, 1))
    (kk : ∀ (H : Heap) (locs : List Loc), wP g (up2 M a i.toNatClampNeg v) N H → va_S (wA g) s.heap H locs → W p l e R s m args below meth c H locs cells slots Q (F0 m (pc + 1) ls rest)) : W p l e R s m args below meth c H locs cells slots Q (F0 m pc ls (.int v :: .int i :: .ref a :: rest)) := by
  obtain ⟨hx, hb, hml, hown, hts, hF, hnd⟩ := hC
  obtain ⟨k9, hk9⟩ := pl_at (D := g.1) ha.1 (cE_arr (M := M) (N := N) ha.2)
  refine va_zast (D := g.1) hx hb hF.1 hP (wD hnd _ (fun _ h => h)) hS k9 1 hk9 rfl hin hdg (fun H1 locs1 hP1 hD1 hS1 => ?_)
  rw [hv] at hP1
  rw [pl_put (M' := up2 M a i.toNatClampNeg v) (N' := N) hnd ha.1 (cE_arr ha.2) hk9 (cE_upA ha.2 _)] at hP1
  exact kk H1 locs1 hP1 hS1
theorem r_fact (hC : Cx g p s m args c cc nL RX11) (hS : va_S (wA g) s.heap H locs) {index : Nat} (hlk : Cond.fieldLink RX11 index RX11 "FACTORIALS" "[I" ∈ wsL_law) (hdg : decode cc pc = .ok (.getstatic index, 3))
    (kk : W p l e R s m args below meth c H locs cells slots Q (F0 m (pc + 3) ls (.ref (eF g) :: rest))) : W p l e R s m args below meth c H locs cells slots Q (F0 m pc ls rest) := by
  obtain ⟨hx, hb, hml, hown, hts, hF, hnd⟩ := hC
  exact va_gets (C := RX11) (ref := RX11) hx hb hF.2.2.1.1 hS hown (hts _ hlk) (fun _ h => h) hdg kk
theorem r_factN (hC : Cx g p s m args c cc nL RX0) (hS : va_S (wA g) s.heap H locs) (hdg : decode cc pc = .ok (.getstatic 153, 3))
    (kk : W p l e R s m args below meth c H locs cells slots Q (F0 m (pc + 3) ls (.ref (eF g) :: rest))) : W p l e R s m args below meth c H locs cells slots Q (F0 m pc ls rest) := by
  obtain ⟨hx, hb, hml, hown, hts, hF, hnd⟩ := hC
  exact va_getsN (C := RX11) (ref := RX11) hx hb hF.2.2.1.1 hS hown (va_Nw.use rfl hF.2.1.2.2.2.2) (fun _ h => h) hdg kk
theorem r_fald (hC : Cx g p s m args c cc nL own) (hS : va_S (wA g) s.heap H locs) {i : Int32} (hin : vp_in i 5) (hdg : decode cc pc = .ok (.iaload, 1))
    (kk : W p l e R s m args below meth c H locs cells slots Q (F0 m (pc + 1) ls (.int (facts.getD i.toNatClampNeg 0) :: rest))) : W p l e R s m args below meth c H locs cells slots Q (F0 m pc ls (.int i :: .ref (eF g) :: rest)) := by
  obtain ⟨hx, hb, hml, hown, hts, hF, hnd⟩ := hC
  exact va_ti hx hb hF.2.2.1.2 hS hin rfl hdg kk
end RWS
/-! what a hypothesis 'f .. = some ..' says, by f's first piece -/
def ck {α : Type} (i : Int32) (n : Nat) (k : Option α) : Option α := if ckd i n then k else none
theorem ck_s {α : Type} {i : Int32} {n : Nat} {k : Option α} {r : α} (h : ck i n k = some r) : vp_in i n ∧ k = some r := by
  unfold ck at h
  split at h
  · exact ⟨ckd_in (by assumption), h⟩
  · cases h
def cz {α : Type} (y : Int32) (k : Option α) : Option α := if y = 0 then none else k
theorem cz_s {α : Type} {y : Int32} {k : Option α} {r : α} (h : cz y k = some r) : ¬ y = 0 ∧ k = some r := by
  unfold cz at h
  split at h
  · cases h
  · exact ⟨by assumption, h⟩
def czL {α : Type} (y : Int64) (k : Option α) : Option α := if y = 0 then none else k
theorem czL_s {α : Type} {y : Int64} {k : Option α} {r : α} (h : czL y k = some r) : ¬ y = 0 ∧ k = some r := by
  unfold czL at h
  split at h
  · cases h
  · exact ⟨by assumption, h⟩
def cb {α : Type} (v : Int32) (k : Option α) : Option α := if v = 0 ∨ v = 1 then k else none
theorem cb_s {α : Type} {v : Int32} {k : Option α} {r : α} (h : cb v k = some r) : (v = 0 ∨ v = 1) ∧ k = some r := by
  unfold cb at h
  split at h
  · exact ⟨by assumption, h⟩
  · cases h
theorem bd_s {α β : Type} {x : Option α} {f : α → Option β} {r : β} (h : x.bind f = some r) : ∃ a, x = some a ∧ f a = some r := Option.bind_eq_some_iff.mp h
theorem if_t {α : Type} {c : Prop} {inst : Decidable c} {a b : α} {r : α} (hc : c) (h : @ite _ c inst a b = r) : a = r := by rw [if_pos hc] at h; exact h
theorem if_f {α : Type} {c : Prop} {inst : Decidable c} {a b : α} {r : α} (hc : ¬ c) (h : @ite _ c inst a b = r) : b = r := by rw [if_neg hc] at h; exact h
/-- a name for a value: nothing is done -/
def bnd {α β : Type} (e : α) (f : α → β) : β := f e
theorem bs {α β : Type} {e x : α} {f : α → Option β} {r : β} (ex : x = e) (hf : bnd e f = some r) : f x = some r := by subst ex; exact hf
theorem bsM {β : Type} {g : Ev} {e : Mm} {N : Ml} {H : Heap} {f : Mm → Option β} {r : β} (hf : bnd e f = some r) (hP : wP g e N H) : ∃ x, x = e ∧ f x = some r ∧ wP g x N H := ⟨e, rfl, hf, hP⟩
theorem bsN {β : Type} {g : Ev} {M : Mm} {e : Ml} {H : Heap} {f : Ml → Option β} {r : β} (hf : bnd e f = some r) (hP : wP g M e H) : ∃ x, x = e ∧ f x = some r ∧ wP g M x H := ⟨e, rfl, hf, hP⟩
def bd2 {α β γ : Type} (x : Option (α × β)) (f : α → β → Option γ) : Option γ := x.bind fun u => f u.1 u.2
theorem bd2_s {α β γ : Type} {x : Option (α × β)} {f : α → β → Option γ} {r : γ} (h : bd2 x f = some r) : ∃ a b, x = some (a, b) ∧ f a b = some r := by
  obtain ⟨u, h1, h2⟩ := Option.bind_eq_some_iff.mp h
  exact ⟨u.1, u.2, h1, h2⟩
def ccp {α : Type} (sp dp n : Int32) (n0 n1 : Nat) (k : Option α) : Option α := if ¬ sp < 0 ∧ ¬ dp < 0 ∧ ¬ n < 0 ∧ sp.toNatClampNeg + n.toNatClampNeg ≤ n0 ∧ dp.toNatClampNeg + n.toNatClampNeg ≤ n1 then k else none
theorem ccp_s {α : Type} {sp dp n : Int32} {n0 n1 : Nat} {k : Option α} {r : α} (h : ccp sp dp n n0 n1 k = some r) : (¬ sp < 0 ∧ ¬ dp < 0 ∧ ¬ n < 0 ∧ sp.toNatClampNeg + n.toNatClampNeg ≤ n0 ∧ dp.toNatClampNeg + n.toNatClampNeg ≤ n1) ∧ k = some r := by
  unfold ccp at h
  split at h
  · exact ⟨by assumption, h⟩
  · cases h
abbrev jr (x y : Int32) : Int32 := x - x / y * y
abbrev jrL (x y : Int64) : Int64 := x - x / y * y
abbrev jsl (x y : Int32) : Int32 := x <<< (y &&& 31)
abbrev jsr (x y : Int32) : Int32 := x >>> (y &&& 31)
abbrev jmin (x y : Int32) : Int32 := if y < x then y else x
abbrev jusr (x y : Int32) : Int32 := (x.toUInt32 >>> (y.toUInt32 &&& Int32.toUInt32 31)).toInt32
abbrev jslL (x : Int64) (y : Int32) : Int64 := x <<< (y.toInt64 &&& 63)
abbrev jsrL (x : Int64) (y : Int32) : Int64 := x >>> (y.toInt64 &&& 63)
abbrev jusrL (x : Int64) (y : Int32) : Int64 := (x.toUInt64 >>> (y.toInt64.toUInt64 &&& Int64.toUInt64 63)).toInt64
theorem bsJ {α β : Type} {e : α} {f : α → Option β} {r : β} (hf : bnd e f = some r) : ∃ x, x = e ∧ f x = some r := ⟨e, rfl, hf⟩
theorem vin_lt {i : Int32} {n : Nat} (h : vp_in i n) : i.toNatClampNeg < n := Nat.not_le.mp fun q => h (Or.inr q)
theorem ts_any {x : Int32} (k : Int) (h : x.toInt = k) : x = Int32.ofInt k := by rw [← h]; exact (Int32.ofInt_toInt x).symm
theorem tsout2 {x : Int32} (h0 : ¬ x = 0) (h1 : ¬ x = 1) (h2 : ¬ x = 2) : x.toInt < 0 ∨ 2 < x.toInt := by
  by_cases q : x.toInt < 0
  · exact Or.inl q
  · by_cases q2 : 2 < x.toInt
    · exact Or.inr q2
    · have h : x.toInt = 0 ∨ x.toInt = 1 ∨ x.toInt = 2 := by omega
      rcases h with h | h | h
      · exact absurd (ts_any 0 h) h0
      · exact absurd (ts_any 1 h) h1
      · exact absurd (ts_any 2 h) h2
theorem tsout5 {x : Int32} (h0 : ¬ x = 0) (h1 : ¬ x = 1) (h2 : ¬ x = 2) (h3 : ¬ x = 3) (h4 : ¬ x = 4) (h5 : ¬ x = 5) : x.toInt < 0 ∨ 5 < x.toInt := by
  by_cases q : x.toInt < 0
  · exact Or.inl q
  · by_cases q2 : 5 < x.toInt
    · exact Or.inr q2
    · have h : x.toInt = 0 ∨ x.toInt = 1 ∨ x.toInt = 2 ∨ x.toInt = 3 ∨ x.toInt = 4 ∨ x.toInt = 5 := by omega
      rcases h with h | h | h | h | h | h
      · exact absurd (ts_any 0 h) h0
      · exact absurd (ts_any 1 h) h1
      · exact absurd (ts_any 2 h) h2
      · exact absurd (ts_any 3 h) h3
      · exact absurd (ts_any 4 h) h4
      · exact absurd (ts_any 5 h) h5
abbrev jabs (x : Int64) : Int64 := if 0 < x then x else -x
