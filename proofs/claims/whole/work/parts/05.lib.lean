/-! my own words: a flat memory. M a k: the int at place k of the cell a (a field's slot, or an array's place); N a k: the long. A shape says which cells there are; it never changes once made. -/
abbrev Mm : Type := Nat → Nat → Int32
abbrev Ml : Type := Nat → Nat → Int64
/-- a shape: an array (its class, its length, its references if it holds such), or an object (its class's number, its slots: .inl 0 an int, .inl 1 a long, .inr a reference that stays) -/
abbrev Shp : Type := Nat → (ClassId × Nat × Option (Nat → Option Nat)) ⊕ (Nat × List (Nat ⊕ Option Nat))
def cF (M : Mm) (N : Ml) (a k : Nat) (q : Nat ⊕ Option Nat) : Value := match q with
  | .inl 0 => .int (M a k)
  | .inl (_ + 1) => .long (N a k)
  | .inr r => va_rf r
def cE (σ : Shp) (M : Mm) (N : Ml) : Nat → va_E := fun a => match σ a with
  | .inl (cA, n, none) => .inl (cA, n, .inl (M a))
  | .inl (cA, n, some f) => .inl (cA, n, .inr (.inr (.inr (.inr f))))
  | .inr (ci, sl) => .inr (ci, sl.mapIdx (cF M N a))
def up2 (M : Mm) (a k : Nat) (v : Int32) : Mm := va_up M a (upd (M a) k v)
def up2L (N : Ml) (a k : Nat) (v : Int64) : Ml := va_up N a (vp_updL (N a) k v)
theorem cE_arr {σ : Shp} {M : Mm} {N : Ml} {a : Nat} {cA : ClassId} {n : Nat} (h : σ a = .inl (cA, n, none)) : cE σ M N a = .inl (cA, n, .inl (M a)) := by simp [cE, h]
theorem cE_ref {σ : Shp} {M : Mm} {N : Ml} {a : Nat} {cA : ClassId} {n : Nat} {f : Nat → Option Nat} (h : σ a = .inl (cA, n, some f)) : cE σ M N a = .inl (cA, n, .inr (.inr (.inr (.inr f)))) := by simp [cE, h]
theorem cE_obj {σ : Shp} {M : Mm} {N : Ml} {a : Nat} {ci : Nat} {sl : List (Nat ⊕ Option Nat)} (h : σ a = .inr (ci, sl)) : cE σ M N a = .inr (ci, sl.mapIdx (cF M N a)) := by simp [cE, h]
theorem cF_cong {M M' : Mm} {N N' : Ml} {a k : Nat} {q : Nat ⊕ Option Nat} (h1 : M' a k = M a k) (h2 : N' a k = N a k) : cF M' N' a k q = cF M N a k q := by
  match q with
  | .inl 0 => simp [cF, h1]
  | .inl (_ + 1) => simp [cF, h2]
  | .inr r => simp [cF]
theorem cE_cong {σ : Shp} {M M' : Mm} {N N' : Ml} {a : Nat} (h1 : M' a = M a) (h2 : N' a = N a) : cE σ M' N' a = cE σ M N a := by
  have hc : cF M' N' a = cF M N a := by funext k q; exact cF_cong (by rw [h1]) (by rw [h2])
  simp only [cE, h1, hc]
theorem cE_upA {σ : Shp} {M : Mm} {N : Ml} {a : Nat} {cA : ClassId} {n : Nat} (h : σ a = .inl (cA, n, none)) (f : Nat → Int32) (b : Nat) : va_up (cE σ M N) a (.inl (cA, n, .inl f)) b = cE σ (va_up M a f) N b := by
  by_cases hb : b = a
  · subst hb
    rw [va_up_self, cE_arr h, va_up_self]
  · rw [va_up_ne _ _ hb]
    exact (cE_cong (va_up_ne _ _ hb) rfl).symm
theorem mapIdx_set {sl : List (Nat ⊕ Option Nat)} {F G : Nat → (Nat ⊕ Option Nat) → Value} {k : Nat} {v : Value} {q0 : Nat ⊕ Option Nat} (hq : sl[k]? = some q0) (h1 : G k q0 = v) (h2 : ∀ j q, j ≠ k → sl[j]? = some q → G j q = F j q) : (sl.mapIdx F).set k v = sl.mapIdx G := by
  apply List.ext_getElem?
  intro j
  by_cases hj : j = k
  · subst hj
    have hl : j < (sl.mapIdx F).length := by rw [List.length_mapIdx]; exact (List.getElem?_eq_some_iff.mp hq).1
    rw [List.getElem?_set_self hl, List.getElem?_mapIdx, hq]
    simp [h1]
  · rw [List.getElem?_set_ne (fun e => hj e.symm), List.getElem?_mapIdx, List.getElem?_mapIdx]
    cases hs : sl[j]? with
    | none => rfl
    | some q => simp [h2 j q hj hs]
theorem cE_upI {σ : Shp} {M : Mm} {N : Ml} {a : Nat} {ci : Nat} {sl : List (Nat ⊕ Option Nat)} (h : σ a = .inr (ci, sl)) {k : Nat} (hk : sl[k]? = some (.inl 0)) (v : Int32) (b : Nat) : va_up (cE σ M N) a (.inr (ci, (sl.mapIdx (cF M N a)).set k (.int v))) b = cE σ (up2 M a k v) N b := by
  by_cases hb : b = a
  · subst hb
    rw [va_up_self, cE_obj h, mapIdx_set (G := cF (up2 M b k v) N b) hk (by simp [cF, up2, va_up, upd])]
    intro j q hj _
    exact cF_cong (by simp [up2, va_up, upd, hj]) rfl
  · rw [va_up_ne _ _ hb]
    exact (cE_cong (va_up_ne _ _ hb) rfl).symm
theorem cE_upL {σ : Shp} {M : Mm} {N : Ml} {a : Nat} {ci : Nat} {sl : List (Nat ⊕ Option Nat)} (h : σ a = .inr (ci, sl)) {k : Nat} (hk : sl[k]? = some (.inl 1)) (v : Int64) (b : Nat) : va_up (cE σ M N) a (.inr (ci, (sl.mapIdx (cF M N a)).set k (.long v))) b = cE σ M (up2L N a k v) b := by
  by_cases hb : b = a
  · subst hb
    rw [va_up_self, cE_obj h, mapIdx_set (G := cF M (up2L N b k v) b) hk (by simp [cF, up2L, va_up, vp_updL])]
    intro j q hj _
    exact cF_cong rfl (by simp [up2L, va_up, vp_updL, hj])
  · rw [va_up_ne _ _ hb]
    exact (cE_cong rfl (va_up_ne _ _ hb)).symm
/-- what stays for a whole run: the tables' numbers, the cells' addresses, their shapes, the array classes (int, boolean, Plain, Ring, Story), the factorials' array, the Strings and their bytes -/
abbrev Ev : Type := va_G × List Nat × Shp × (ClassId × ClassId × ClassId × ClassId × ClassId) × Nat × (Nat → Nat) × (Nat → Nat)
abbrev eI (g : Ev) : ClassId := g.2.2.2.1.1
abbrev eZ (g : Ev) : ClassId := g.2.2.2.1.2.1
abbrev eP (g : Ev) : ClassId := g.2.2.2.1.2.2.1
abbrev eR (g : Ev) : ClassId := g.2.2.2.1.2.2.2.1
abbrev eS (g : Ev) : ClassId := g.2.2.2.1.2.2.2.2
abbrev eF (g : Ev) : Nat := g.2.2.2.2.1
abbrev eK (g : Ev) : Nat → Nat := g.2.2.2.2.2.1
abbrev eV (g : Ev) : Nat → Nat := g.2.2.2.2.2.2
abbrev tys (g : Ev) : List (ClassId × FieldType) := [(eI g, .int), (eZ g, .boolean), (eP g, .object RX3), (eR g, .object RX5), (eS g, .object RX7)]
def wA (g : Ev) : Nat → Prop := fun q => q ∈ g.2.1
abbrev wP (g : Ev) (M : Mm) (N : Ml) (H : Heap) : Prop := va_P g.1 vwCl (va_pl g.2.1 (cE g.2.2.1 M N)) H
def facts : List Int32 := [1, 1, 2, 6, 24]
def txLen : List Nat := [4, 4, 5, 4]
def txByt : List (List Int32) := [[114, 105, 110, 103], [115, 116, 101, 112], [108, 117, 109, 112, 115], [109, 111, 111, 110]]
def nsW : List Cond := [.methodLinkNest RX0 104 yX11_isLane RX11, .methodLinkNest RX2 19 yX11_isLane RX11, .methodLinkNest RX4 100 yX11_isWithin RX11, .methodLinkNest RX5 121 yX11_isLane RX11]
def Sx (g : Ev) (U : State) : Prop := (va_Z RX11 "FACTORIALS" "[I" (.ref (eF g)) (wA g) U U.heap ∧ va_T .int (eF g) 5 (fun j => .int (facts.getD j 0)) (wA g) U U.heap) ∧
  va_Z "java/lang/String" "COMPACT_STRINGS" "Z" (.int 1) (wA g) U U.heap ∧ va_Zq "jdk/internal/util/Preconditions" "SIOOBE_FORMATTER" "Ljava/util/function/BiFunction;" (wA g) U U.heap ∧
  vk_S 4 txLen txByt (eK g) (eV g) (wA g) U U.heap ∧ vk_R RX4 45 "ring" (eK g 0) U ∧ vk_R RX4 64 "step" (eK g 1) U ∧ vk_R RX4 69 "lumps" (eK g 2) U ∧ vk_R RX4 74 "moon" (eK g 3) U
def Fx (g : Ev) (U : State) : Prop := va_K g.1 vwCl (tys g) U ∧ (va_Nw (.methodLinkNest RX0 104 yX11_isLane RX11) U ∧ va_Nw (.methodLinkNest RX2 19 yX11_isLane RX11) U ∧ va_Nw (.methodLinkNest RX4 100 yX11_isWithin RX11) U ∧ va_Nw (.methodLinkNest RX5 121 yX11_isLane RX11) U ∧ va_Nw (.fieldLinkNest RX0 153 RX11 "FACTORIALS" "[I" RX11) U) ∧ Sx g U
theorem Sx.go {g : Ev} {s U : State} {H : Heap} {locs : List Loc} (h : Sx g s) (hS : va_S (wA g) s.heap H locs) (hU : U.heap = H) (hW : s.WarmedH U.vm) : Sx g U := by
  obtain ⟨⟨h1, h2⟩, h3, h4, h5, h6, h7, h8, h9⟩ := h
  have hq : ∀ a : Nat, a < s.heap.size → ¬ wA g a → U.heap[a]? = s.heap[a]? := fun a h1 h2 => by rw [hU]; exact hS.2.1 a h1 h2
  exact ⟨⟨(h1.kept hq).moved hW.alike, (h2.kept hq).moved hW.alike⟩, (h3.kept hq).moved hW.alike, (h4.kept hq).moved hW.alike, (h5.kept hq).moved hW.alike, h6.warm hW, h7.warm hW, h8.warm hW, h9.warm hW⟩
theorem Fx.go {g : Ev} {s U : State} {H : Heap} {locs : List Loc} (h : Fx g s) (hS : va_S (wA g) s.heap H locs) (hU : U.heap = H) (hW : s.WarmedH U.vm) : Fx g U :=
  ⟨va_K.moved hW.alike h.1, ⟨h.2.1.1.warmM hW, h.2.1.2.1.warmM hW, h.2.1.2.2.1.warmM hW, h.2.1.2.2.2.1.warmM hW, h.2.1.2.2.2.2.warmF hW⟩, h.2.2.go hS hU hW⟩
theorem Sx.same {g : Ev} {s U : State} (h : Sx g s) (hv : U.vm = s.vm) (hh : U.heap = s.heap) : Sx g U := by
  obtain ⟨⟨h1, h2⟩, h3, h4, h5, h6, h7, h8, h9⟩ := h
  have ha : s.vm.Alike U.vm := by rw [hv]; exact Vm.Alike.refl s.vm
  have hq : ∀ a : Nat, a < s.heap.size → ¬ wA g a → U.heap[a]? = s.heap[a]? := fun a _ _ => by rw [hh]
  exact ⟨⟨(h1.kept hq).moved ha, (h2.kept hq).moved ha⟩, (h3.kept hq).moved ha, (h4.kept hq).moved ha, (h5.kept hq).moved ha, h6.same hv, h7.same hv, h8.same hv, h9.same hv⟩
theorem Fx.same {g : Ev} {s U : State} (h : Fx g s) (hv : U.vm = s.vm) (hh : U.heap = s.heap) : Fx g U :=
  ⟨va_K.moved (by rw [hv]; exact Vm.Alike.refl s.vm) h.1, ⟨h.2.1.1.same rfl hv.symm, h.2.1.2.1.same rfl hv.symm, h.2.1.2.2.1.same rfl hv.symm, h.2.1.2.2.2.1.same rfl hv.symm, h.2.1.2.2.2.2.same rfl hv.symm⟩, h.2.2.same hv hh⟩
abbrev rmD (d : Nat) : Room := { frames := d, cells := 0, slots := 0, locals := 64 * d }
abbrev Wd (g : Ev) (M : Mm) (N : Ml) (U : State) : Prop := wP g M N U.heap ∧ Fx g U
abbrev wy (y : MethodName) (b : ByteArray) (n : Nat) (r : Option FieldType) : List Cond := Cond.code y b n r :: wsL_law
abbrev QI (g : Ev) (v : Int32) (M : Mm) (N : Ml) : Array Value → State → Outcome → State → Prop := va_Qi (fun v' (u : Mm × Ml) => v' = v ∧ u = (M, N)) (fun u t => wP g u.1 u.2 t.heap) (wA g)
abbrev QL (g : Ev) (v : Int64) (M : Mm) (N : Ml) : Array Value → State → Outcome → State → Prop := va_Ql (fun v' (u : Mm × Ml) => v' = v ∧ u = (M, N)) (fun u t => wP g u.1 u.2 t.heap) (wA g)
abbrev QV (g : Ev) (M : Mm) (N : Ml) : Array Value → State → Outcome → State → Prop := va_Qv (fun (u : Mm × Ml) => u = (M, N)) (fun u t => wP g u.1 u.2 t.heap) (wA g)
abbrev QR (g : Ev) (v : Nat) (M : Mm) (N : Ml) : Array Value → State → Outcome → State → Prop := va_Qr (fun (u : Mm × Ml) => u = (M, N)) (fun u a t => a = v ∧ wP g u.1 u.2 t.heap) (wA g)
abbrev KM (g : Ev) (l : Launch) (y : MethodName) (b : ByteArray) (n : Nat) (r : Option FieldType) (d : Nat) (av : List Value) (M : Mm) (N : Ml) (Qc : Array Value → State → Outcome → State → Prop) : Prop := Met l y (wy y b n r) (rmD d) (va_Pc av (Wd g M N)) Qc 0 0 (wA g)
/-- what a method's walk has from its entry on -/
def Cx (g : Ev) (p : Program) (s : State) (m : MethodId) (args : Array Value) (c : Code) (cc : ByteArray) (nL : Nat) (own : String) : Prop :=
  p.tables.exec = Jvm.exec ∧ c.code = cc ∧ c.maxLocals = nL ∧ s.vm.findClass own = some m.cls ∧ (∀ w ∈ wsL_law, w.before args s = true) ∧ Fx g s ∧ g.2.1.Nodup
theorem wD {L : List Nat} (h : L.Nodup) (f : Nat → va_E) {A : Nat → Prop} (hA : ∀ a ∈ L, A a) : va_D A (va_pl L f) := by
  refine ⟨fun i j p q hi hj e => ?_, fun k q hk => ?_⟩
  · rw [va_pl, List.getElem?_map] at hi hj
    cases h1 : L[i]? with
    | none => simp [h1] at hi
    | some x =>
      cases h2 : L[j]? with
      | none => simp [h2] at hj
      | some z =>
        simp [h1] at hi
        simp [h2] at hj
        subst hi
        subst hj
        have hxz : x = z := e
        subst hxz
        have hi' := (List.getElem?_eq_some_iff.mp h1).1
        exact (List.getElem?_inj hi' h).mp (h1.trans h2.symm)
  · rw [va_pl, List.getElem?_map] at hk
    cases h1 : L[k]? with
    | none => simp [h1] at hk
    | some x =>
      simp [h1] at hk
      subst hk
      exact hA x (List.mem_of_getElem? h1)
theorem KM.mk {g : Ev} {l : Launch} {y : MethodName} {b : ByteArray} {n : Nat} {r : Option FieldType} {d : Nat} {av : List Value} {M : Mm} {N : Ml} {Qc : Array Value → State → Outcome → State → Prop} (hg : g.2.1.Nodup) (hy : plainName y.cls = true) (hn : (lg_sl av).length ≤ n)
    (body : ∀ (p : Program) (e : Env) (s : State) (m : MethodId) (below : List Frame) (meth : Method) (c : Code) (ls : Array Slot), Cx g p s m av.toArray c b n y.cls → meth.sig.returnType = r → meth.locks = false → lv_has ls n (lv_args 0 av) → wP g M N s.heap → va_S (wA g) s.heap s.heap [] →
      W p l e (rmD d) s m av.toArray below meth c s.heap [] 0 0 (MQ below Qc av.toArray s 0 0 (wA g)) (F0 m 0 ls [])) : KM g l y b n r d av M N Qc := by
  refine Met.ofW (cc := b) (maxL := n) (ret := r) hy rfl ?_
  intro p e s m args below meth c s₁ B hml hv
  obtain ⟨rfl, hP, hF⟩ := hv
  have hts := atoms_spec (ws := wy y b n r) B.pre
  have hown : s.vm.findClass y.cls = some m.cls := findClass_of_methodNamed B.named
  have hl := lv_entry av (n := n) hn
  rw [lg_entry_eq]
  exact body p e s m below meth c _ ⟨B.exec, B.bytes, hml, hown, fun w hw => hts w (List.mem_cons_of_mem _ hw), hF, hg⟩ B.returns B.notSynchronized hl hP va_S.rf
