/-! constructors: the cells grow. gE g L σ: the same tables, other cells and shapes -/
abbrev gE (g : Ev) (L : List Nat) (σ : Shp) : Ev := (g.1, L, σ, g.2.2.2)
def SxA (g : Ev) (A : Nat → Prop) (U : State) : Prop := (va_Z RX11 "FACTORIALS" "[I" (.ref (eF g)) A U U.heap ∧ va_T .int (eF g) 5 (fun j => .int (facts.getD j 0)) A U U.heap) ∧
  va_Z "java/lang/String" "COMPACT_STRINGS" "Z" (.int 1) A U U.heap ∧ va_Zq "jdk/internal/util/Preconditions" "SIOOBE_FORMATTER" "Ljava/util/function/BiFunction;" A U U.heap ∧
  vk_S 4 txLen txByt (eK g) (eV g) A U U.heap ∧ vk_R RX4 45 "ring" (eK g 0) U ∧ vk_R RX4 64 "step" (eK g 1) U ∧ vk_R RX4 69 "lumps" (eK g 2) U ∧ vk_R RX4 74 "moon" (eK g 3) U
theorem va_Zq.narrow' {C n d : String} {A B : Nat → Prop} {U : State} {H : Heap} (h : va_Zq C n d A U H) (hAB : ∀ q, B q → A q) : va_Zq C n d B U H := by
  rcases h with h | ⟨t, h⟩
  · exact Or.inl (h.narrow hAB)
  · exact Or.inr ⟨t, h.narrow hAB⟩
theorem SxA.to {g : Ev} {A : Nat → Prop} {U : State} {L : List Nat} {σ : Shp} (h : SxA g A U) (hL : ∀ q ∈ L, A q) : Sx (gE g L σ) U := by
  obtain ⟨⟨h1, h2⟩, h3, h4, h5, h6⟩ := h
  exact ⟨⟨h1.narrow hL, h2.narrow hL⟩, h3.narrow hL, h4.narrow' hL, h5.narrow hL, h6⟩
theorem SxA.go {g : Ev} {A B : Nat → Prop} {s U : State} {H : Heap} {locs : List Loc} (h : SxA g A s) (hS : va_S B s.heap H locs) (hB : ∀ q, q < s.heap.size → B q → A q) (hU : U.heap = H) (hW : s.WarmedH U.vm) : SxA g A U := by
  obtain ⟨⟨h1, h2⟩, h3, h4, h5, h6, h7, h8, h9⟩ := h
  have hq : ∀ a : Nat, a < s.heap.size → ¬ A a → U.heap[a]? = s.heap[a]? := fun a h1 h2 => by rw [hU]; exact hS.2.1 a h1 (fun z => h2 (hB a h1 z))
  exact ⟨⟨(h1.kept hq).moved hW.alike, (h2.kept hq).moved hW.alike⟩, (h3.kept hq).moved hW.alike, (h4.kept hq).moved hW.alike, (h5.kept hq).moved hW.alike, h6.warm hW, h7.warm hW, h8.warm hW, h9.warm hW⟩
theorem SxA.same {g : Ev} {A : Nat → Prop} {s U : State} (h : SxA g A s) (hv : U.vm = s.vm) (hh : U.heap = s.heap) : SxA g A U := by
  obtain ⟨⟨h1, h2⟩, h3, h4, h5, h6, h7, h8, h9⟩ := h
  have ha : s.vm.Alike U.vm := by rw [hv]; exact Vm.Alike.refl s.vm
  have hq : ∀ a : Nat, a < s.heap.size → ¬ A a → U.heap[a]? = s.heap[a]? := fun a _ _ => by rw [hh]
  exact ⟨⟨(h1.kept hq).moved ha, (h2.kept hq).moved ha⟩, (h3.kept hq).moved ha, (h4.kept hq).moved ha, (h5.kept hq).moved ha, h6.same hv, h7.same hv, h8.same hv, h9.same hv⟩
def Nx (U : State) : Prop := va_Nw (.methodLinkNest RX0 104 yX11_isLane RX11) U ∧ va_Nw (.methodLinkNest RX2 19 yX11_isLane RX11) U ∧ va_Nw (.methodLinkNest RX4 100 yX11_isWithin RX11) U ∧ va_Nw (.methodLinkNest RX5 121 yX11_isLane RX11) U ∧ va_Nw (.fieldLinkNest RX0 153 RX11 "FACTORIALS" "[I" RX11) U
def Ox (U : State) : Prop := (va_AO RX3 U ∧ va_AO RX5 U ∧ va_AO RX7 U) ∧ va_Nw (.castable RX10 RX3) U ∧ va_Nw (.castable RX1 RX3) U ∧ va_Nw (.castable RX8 RX3) U ∧ va_Nw (.castable RX6 RX3) U
def Fz (g : Ev) (A : Nat → Prop) (U : State) : Prop := va_K g.1 vwCl (tys g) U ∧ Nx U ∧ SxA g A U ∧ Ox U
theorem Fz.to {g : Ev} {A : Nat → Prop} {U : State} {L : List Nat} {σ : Shp} (h : Fz g A U) (hL : ∀ q ∈ L, A q) : Fx (gE g L σ) U := ⟨h.1, h.2.1, h.2.2.1.to hL⟩
theorem Fz.go {g : Ev} {A B : Nat → Prop} {s U : State} {H : Heap} {locs : List Loc} (h : Fz g A s) (hS : va_S B s.heap H locs) (hB : ∀ q, q < s.heap.size → B q → A q) (hU : U.heap = H) (hW : s.WarmedH U.vm) : Fz g A U := by
  obtain ⟨h1, ⟨a1, a2, a3, a4, a5⟩, h3, ⟨b1, b2, b3⟩, c1, c2, c3, c4⟩ := h
  exact ⟨va_K.moved hW.alike h1, ⟨a1.warmM hW, a2.warmM hW, a3.warmM hW, a4.warmM hW, a5.warmF hW⟩, h3.go hS hB hU hW, ⟨b1.moved hW.alike, b2.moved hW.alike, b3.moved hW.alike⟩, c1.warmC hW, c2.warmC hW, c3.warmC hW, c4.warmC hW⟩
theorem Fz.same {g : Ev} {A : Nat → Prop} {s U : State} (h : Fz g A s) (hv : U.vm = s.vm) (hh : U.heap = s.heap) : Fz g A U := by
  obtain ⟨h1, ⟨a1, a2, a3, a4, a5⟩, h3, ⟨b1, b2, b3⟩, c1, c2, c3, c4⟩ := h
  have ha : s.vm.Alike U.vm := by rw [hv]; exact Vm.Alike.refl s.vm
  exact ⟨va_K.moved ha h1, ⟨a1.same rfl hv.symm, a2.same rfl hv.symm, a3.same rfl hv.symm, a4.same rfl hv.symm, a5.same rfl hv.symm⟩, h3.same hv hh, ⟨b1.moved ha, b2.moved ha, b3.moved ha⟩, c1.same rfl hv.symm, c2.same rfl hv.symm, c3.same rfl hv.symm, c4.same rfl hv.symm⟩
/-- the growing world: its cells, apart, from z0 on -/
def Wc (g : Ev) (z0 : Nat) (L : List Nat) (σ : Shp) (M : Mm) (N : Ml) (H : Heap) : Prop := wP (gE g L σ) M N H ∧ L.Nodup ∧ ∀ q ∈ L, z0 ≤ q
/-- a walk's context while cells are made: the law's start is z0 -/
def Cq (g : Ev) (z0 : Nat) (p : Program) (s : State) (m : MethodId) (args : Array Value) (c : Code) (cc : ByteArray) (nL : Nat) (own : String) : Prop :=
  p.tables.exec = Jvm.exec ∧ c.code = cc ∧ c.maxLocals = nL ∧ s.vm.findClass own = some m.cls ∧ (∀ w ∈ wsL_law, w.before args s = true) ∧ Fz g (fun q => z0 ≤ q) s
theorem wP_pl {g : Ev} {L : List Nat} {σ : Shp} {M : Mm} {N : Ml} {H : Heap} : wP (gE g L σ) M N H ↔ ∀ a ∈ L, va_at g.1 vwCl (a, cE σ M N a) H := by
  constructor
  · intro h a ha
    obtain ⟨k, hk⟩ := va_pl_get (X := []) (f := cE σ M N) ha
    exact h k _ hk
  · intro h k q hk
    have hk : (L.map (fun a => (a, cE σ M N a)))[k]? = some q := hk
    rw [List.getElem?_map] at hk
    cases h1 : L[k]? with
    | none => simp [h1] at hk
    | some a =>
      simp [h1] at hk
      subst hk
      exact h a (List.mem_of_getElem? h1)
theorem wP_lt {g : Ev} {L : List Nat} {σ : Shp} {M : Mm} {N : Ml} {H : Heap} (h : wP (gE g L σ) M N H) {a : Nat} (ha : a ∈ L) : a < H.size := (wP_pl.mp h a ha).lt
theorem Wc.grow {g : Ev} {z0 sz : Nat} {L : List Nat} {σ σ' : Shp} {M M' : Mm} {N N' : Ml} {H H1 : Heap} (h : Wc g z0 L σ M N H) (hz : H.size = sz) (h0 : z0 ≤ sz) (o1 : ∀ q, q < sz → H1[q]? = H[q]?) (z1 : H1.size = sz + 1) (hn : va_at g.1 vwCl (sz, cE σ' M' N' sz) H1) (hσ : ∀ q, q ≠ sz → σ' q = σ q) (hM : ∀ q, q ≠ sz → M' q = M q) (hN : ∀ q, q ≠ sz → N' q = N q) : Wc g z0 (L ++ [sz]) σ' M' N' H1 := by
  obtain ⟨hP, hnd, hb⟩ := h
  refine ⟨wP_pl.mpr (fun a ha => ?_), ?_, fun q hq => ?_⟩
  · rcases List.mem_append.mp ha with h | h
    · have hlt := wP_lt hP h
      have hne : a ≠ sz := by omega
      have e : cE σ' M' N' a = cE σ M N a := by
        have hc : cF M' N' a = cF M N a := by funext k q; exact cF_cong (by rw [hM a hne]) (by rw [hN a hne])
        simp only [cE, hσ a hne, hM a hne, hc]
      rw [e]
      exact (wP_pl.mp hP a h).kept (o1 a (by omega))
    · rw [List.mem_singleton] at h
      subst h
      exact hn
  · rw [List.nodup_append]
    refine ⟨hnd, by simp, fun a ha b hb' e => ?_⟩
    rw [List.mem_singleton] at hb'
    have := wP_lt hP ha
    omega
  · rcases List.mem_append.mp hq with h | h
    · exact hb q h
    · rw [List.mem_singleton] at h
      subst h
      exact h0
theorem pl_at' {L : List Nat} {f : Nat → va_E} {a : Nat} {e0 : va_E} (ha : a ∈ L) (he : f a = e0) : ∃ k : Nat, (va_pl L f)[k]? = some (a, e0) := by
  obtain ⟨k, hk⟩ := va_pl_get (X := []) (f := f) ha
  exact ⟨k, by rw [← he]; exact hk⟩
theorem pl_put' {L : List Nat} {f f' : Nat → va_E} {a k : Nat} {e0 e1 : va_E} (hnd : L.Nodup) (ha : a ∈ L) (he : f a = e0) (hk : (va_pl L f)[k]? = some (a, e0)) (hu : ∀ b, va_up f a e1 b = f' b) : (va_pl L f).set k (a, e1) = va_pl L f' := by
  have h := va_pl_set (X := []) (e := e1) (wD hnd f (A := fun _ => True) (fun _ _ => trivial)) ha (by rw [he]; exact hk)
  have h2 := va_pl_congr (L := L) hu
  rw [← h2]
  exact h
theorem cE_upR {σ : Shp} {M : Mm} {N : Ml} {a : Nat} {ci : Nat} {sl : List (Nat ⊕ Option Nat)} (h : σ a = .inr (ci, sl)) {k : Nat} {q0 : Option Nat} (hk : sl[k]? = some (.inr q0)) (v : Nat) (b : Nat) : va_up (cE σ M N) a (.inr (ci, (sl.mapIdx (cF M N a)).set k (.ref v))) b = cE (va_up σ a (.inr (ci, sl.set k (.inr (some v))))) M N b := by
  by_cases hb : b = a
  · subst hb
    rw [va_up_self, cE_obj (va_up_self _ _ _)]
    congr 2
    apply List.ext_getElem?
    intro j
    have hlt := (List.getElem?_eq_some_iff.mp hk).1
    by_cases hj : j = k
    · subst hj
      rw [List.getElem?_set_self (by rw [List.length_mapIdx]; exact hlt), List.getElem?_mapIdx, List.getElem?_set_self hlt]
      rfl
    · rw [List.getElem?_set_ne (fun e => hj e.symm), List.getElem?_mapIdx, List.getElem?_mapIdx, List.getElem?_set_ne (fun e => hj e.symm)]
  · rw [va_up_ne _ _ hb]
    simp only [cE, va_up_ne _ _ hb]
theorem cE_upQ {σ : Shp} {M : Mm} {N : Ml} {a : Nat} {cA : ClassId} {n : Nat} (f : Nat → Option Nat) (b : Nat) : va_up (cE σ M N) a (.inl (cA, n, .inr (.inr (.inr (.inr f))))) b = cE (va_up σ a (.inl (cA, n, some f))) M N b := by
  by_cases hb : b = a
  · subst hb
    rw [va_up_self, cE_ref (va_up_self _ _ _)]
  · rw [va_up_ne _ _ hb]
    simp only [cE, va_up_ne _ _ hb]
section NWS
variable {p : Program} {l : Launch} {e : Env} {R : Room} {s : State} {m : MethodId} {args : Array Value} {below : List Frame} {meth : Method} {c : Code} {H : Heap} {locs : List Loc} {cells slots : Nat} {Q : State → Prop}
variable {cc : ByteArray} {pc nL : Nat} {own : String} {ls : Array Slot} {rest st : List Value} {g : Ev} {z0 sz : Nat} {A : Nat → Prop} {L : List Nat} {σ : Shp} {M M' : Mm} {N N' : Ml}
theorem n_S (hS : va_S A s.heap H locs) {H1 : Heap} (hz : H.size = sz) (o1 : ∀ q, q < sz → H1[q]? = H[q]?) (z1 : H1.size = sz + 1) : va_S A s.heap H1 locs := ⟨Nat.le_trans hS.1 (by omega), fun x h1 h2 => (o1 x (by have := hS.1; omega)).trans (hS.2.1 x h1 h2), hS.2.2⟩
theorem n_newa (hC : Cq g z0 p s m args c cc nL own) (hw : Wc g z0 L σ M N H) (hS : va_S A s.heap H locs) (hz : H.size = sz) (h0 : z0 ≤ sz) {n : Int32} {k : Nat} (hn : ¬ n < 0) (hk : n.toNatClampNeg = k) (hby : k * 4 ≤ 536870912) (hcells : cells + 1 ≤ R.cells) (hslots : slots + k ≤ R.slots) (hac : Cond.arrayClass .int ∈ wsL_law) (hdg : decode cc pc = .ok (.newarray .int, 2))
    (kk : ∀ H1 : Heap, Wc g z0 (L ++ [sz]) (va_up σ sz (.inl (eI g, k, none))) (va_up M sz (fun _ => 0)) N H1 → H1.size = sz + 1 → va_S A s.heap H1 locs → W p l e R s m args below meth c H1 locs (cells + 1) (slots + k) Q (F0 m (pc + 2) ls (.ref sz :: rest))) : W p l e R s m args below meth c H locs cells slots Q (F0 m pc ls (.int n :: rest)) := by
  obtain ⟨hx, hb, hml, hown, hts, hF⟩ := hC
  refine va_newaK (atype := .int) hx hb (hts _ hac) rfl hdg rfl hn hk hby hcells hslots hz fun H1 cA e1 z1 o1 hAr hNm => ?_
  have hcA : cA = eI g := Option.some.inj (hNm.symm.trans (hF.1.2 0 _ rfl).2)
  subst hcA
  refine kk H1 (hw.grow hz h0 o1 z1 ?_ (fun q hq => va_up_ne _ _ hq) (fun q hq => va_up_ne _ _ hq) (fun _ _ => rfl)) z1 (n_S hS hz o1 z1)
  rw [cE_arr (va_up_self _ _ _), va_up_self]
  exact e1
theorem n_newz (hC : Cq g z0 p s m args c cc nL own) (hw : Wc g z0 L σ M N H) (hS : va_S A s.heap H locs) (hz : H.size = sz) (h0 : z0 ≤ sz) {n : Int32} {k : Nat} (hn : ¬ n < 0) (hk : n.toNatClampNeg = k) (hby : k * 1 ≤ 536870912) (hcells : cells + 1 ≤ R.cells) (hslots : slots + k ≤ R.slots) (hac : Cond.arrayClass .boolean ∈ wsL_law) (hdg : decode cc pc = .ok (.newarray .boolean, 2))
    (kk : ∀ H1 : Heap, Wc g z0 (L ++ [sz]) (va_up σ sz (.inl (eZ g, k, none))) (va_up M sz (fun _ => 0)) N H1 → H1.size = sz + 1 → va_S A s.heap H1 locs → W p l e R s m args below meth c H1 locs (cells + 1) (slots + k) Q (F0 m (pc + 2) ls (.ref sz :: rest))) : W p l e R s m args below meth c H locs cells slots Q (F0 m pc ls (.int n :: rest)) := by
  obtain ⟨hx, hb, hml, hown, hts, hF⟩ := hC
  refine va_newaK (atype := .boolean) hx hb (hts _ hac) rfl hdg rfl hn hk hby hcells hslots hz fun H1 cA e1 z1 o1 hAr hNm => ?_
  have hcA : cA = eZ g := Option.some.inj (hNm.symm.trans (hF.1.2 1 _ rfl).2)
  subst hcA
  refine kk H1 (hw.grow hz h0 o1 z1 ?_ (fun q hq => va_up_ne _ _ hq) (fun q hq => va_up_ne _ _ hq) (fun _ _ => rfl)) z1 (n_S hS hz o1 z1)
  rw [cE_arr (va_up_self _ _ _), va_up_self]
  exact e1
theorem n_anew (hC : Cq g z0 p s m args c cc nL own) (hw : Wc g z0 L σ M N H) (hS : va_S A s.heap H locs) (hz : H.size = sz) (h0 : z0 ≤ sz) {n : Int32} {k t0 index : Nat} {C : String} {cA : ClassId} (ht : (tys g)[t0]? = some (cA, .object C)) (hao : va_AO C s) (hlk : Cond.classLink own index C ∈ wsL_law) (hn : ¬ n < 0) (hk : n.toNatClampNeg = k) (hby : k * 4 ≤ 536870912) (hcells : cells + 1 ≤ R.cells) (hslots : slots + k ≤ R.slots) (hdg : decode cc pc = .ok (.anewarray index, 3))
    (kk : ∀ H1 : Heap, Wc g z0 (L ++ [sz]) (va_up σ sz (.inl (cA, k, some (fun _ => none)))) M N H1 → H1.size = sz + 1 → va_S A s.heap H1 locs → W p l e R s m args below meth c H1 locs (cells + 1) (slots + k) Q (F0 m (pc + 3) ls (.ref sz :: rest))) : W p l e R s m args below meth c H locs cells slots Q (F0 m pc ls (.int n :: rest)) := by
  obtain ⟨hx, hb, hml, hown, hts, hF⟩ := hC
  subst hk
  refine W.anew hx hb hown (hts _ hlk) (va_AO.use hao) rfl hdg rfl hn hby hcells hslots fun cB kA comp f1 f2 f3 f4 => ?_
  have hcA : cB = cA := by
    obtain ⟨kA', comp', r1, r2, r3, r4⟩ := (hF.1.2 t0 _ ht).2
    exact Option.some.inj (f1.symm.trans r4)
  subst hcA
  generalize hH1 : H.push ({ cls := cB, slots := Array.replicate n.toNatClampNeg .null, vm := .none } : Cell) = H1
  have z1 : H1.size = sz + 1 := by rw [← hH1, Array.size_push, hz]
  have e1 : H1[sz]? = some (arrV cB n.toNatClampNeg (fun _ => .null)) := by rw [← hH1, ← hz, Array.getElem?_push_size, ← arrV_new]
  have o1 : ∀ q, q < sz → H1[q]? = H[q]? := fun q hq => by
    rw [← hH1, Array.getElem?_push]
    have : q ≠ H.size := by omega
    simp [this]
  rw [hz]
  refine kk H1 (hw.grow hz h0 o1 z1 ?_ (fun q hq => va_up_ne _ _ hq) (fun _ _ => rfl) (fun _ _ => rfl)) z1 (n_S hS hz o1 z1)
  rw [cE_ref (va_up_self _ _ _)]
  exact e1
theorem n_new (hC : Cq g z0 p s m args c cc nL own) (hw : Wc g z0 L σ M N H) (hS : va_S A s.heap H locs) (hz : H.size = sz) (h0 : z0 ≤ sz) {index ci Nn : Nat} {C : String} {T : u_T} {sl : List (Nat ⊕ Option Nat)} (hlk : Cond.classLink own index C ∈ wsL_law) (hins : Cond.instantiable C Nn ∈ wsL_law) (hini : Cond.initialized C ∈ wsL_law) (hin : ∀ w ∈ u_ws C T Nn, w ∈ wsL_law) (ty : Nat → FieldType) (hty : ∀ k, k < Nn → parseFieldDescriptor (T k).2.2.1 = some (ty k)) (hc : vwCl[ci]? = some (C, T, Nn)) (hsl : ∀ j, j < Nn → (sl[j]?).map (cF (fun _ _ => 0) (fun _ _ => 0) 0 j) = some (defaultValue (ty j))) (hcells : cells + 1 ≤ R.cells) (hslots : slots + Nn ≤ R.slots) (hdg : decode cc pc = .ok (.new index, 3))
    (kk : ∀ H1 : Heap, Wc g z0 (L ++ [sz]) (va_up σ sz (.inr (ci, sl))) (va_up M sz (fun _ => 0)) (va_up N sz (fun _ => 0)) H1 → H1.size = sz + 1 → va_S A s.heap H1 locs → W p l e R s m args below meth c H1 locs (cells + 1) (slots + Nn) Q (F0 m (pc + 3) ls (.ref sz :: rest))) : W p l e R s m args below meth c H locs cells slots Q (F0 m pc ls rest) := by
  obtain ⟨hx, hb, hml, hown, hts, hF⟩ := hC
  have hKn := hF.1.1 ci _ hc
  refine W.newcK hx hb hown (hts _ hlk) (hts _ hins) (hts _ hini) rfl hdg hcells hslots hKn.2.1 hz fun H1 kC hkC e1 z1 o1 => ?_
  refine kk H1 (hw.grow hz h0 o1 z1 ?_ (fun q hq => va_up_ne _ _ hq) (fun q hq => va_up_ne _ _ hq) (fun q hq => va_up_ne _ _ hq)) z1 (n_S hS hz o1 z1)
  rw [cE_obj (va_up_self _ _ _)]
  refine ⟨_, hc, (u_born ty hts hin hKn hkC e1 hty).to (fun j hj => ?_)⟩
  have hq := hsl j hj
  obtain ⟨q, h1, h2⟩ : ∃ q, sl[j]? = some q ∧ cF (fun _ _ => 0) (fun _ _ => 0) 0 j q = defaultValue (ty j) := by
    cases hs : sl[j]? with
    | none => simp [hs] at hq
    | some q => exact ⟨q, rfl, by simpa [hs] using hq⟩
  rw [← h2]
  show _ = vp_V (List.mapIdx _ sl) j
  simp only [vp_V, List.getD_eq_getElem?_getD, List.getElem?_mapIdx, h1, Option.map_some, Option.getD_some]
  match q with
  | .inl 0 => simp [cF, va_up]
  | .inl (_ + 1) => simp [cF, va_up]
  | .inr r => simp [cF]
theorem W_end {f : JFrame} (kk : H.size ≤ s.heap.size + cells → W p l e R s m args below meth c H locs cells slots Q f) : W p l e R s m args below meth c H locs cells slots Q f := fun T hT X => kk (by rw [← hT]; exact X.same.2.2.1) T hT X
/-- the heap's end is behind the cell that was made last -/
theorem n_hz (hw : Wc g z0 L σ M N H) {k : Nat} (hm : k ∈ L) {n : Nat} (h : H.size ≤ n) (hn : n = k + 1) : H.size = k + 1 := by
  have := wP_lt hw.1 hm
  omega
/-- a final field that holds a reference, laid by its constructor -/
theorem n_putR (hC : Cq g z0 p s m args c cc nL own) (hmn : meth.name = "<init>") (hw : Wc g z0 L σ M N H) (hS : va_S A s.heap H locs) (hA : ∀ q ∈ L, A q) {a ci index : Nat} {sl : List (Nat ⊕ Option Nat)} {C : String} {T : u_T} {Nn : Nat} (ha : a ∈ L) (hsa : σ a = .inr (ci, sl)) {k : Nat} (hf : FL own ci index k C T Nn) (ty0 : Nat → FieldType) (hty : ∀ k, k < Nn → parseFieldDescriptor (T k).2.2.1 = some (ty0 k)) (hnm : ∀ a, a < Nn → ∀ b, b < Nn → a ≠ b → (T a).2.1 ≠ (T b).2.1) (hfin : (T k).2.2.2 = true) (hdecl : (T k).1 = own) {v : Nat} (hn : narrow (ty0 k) (.ref v) = .ref v) (hfit : fits (ty0 k) (.ref v) = true) {q0 : Option Nat} (hq : sl[k]? = some (.inr q0)) (hdg : decode cc pc = .ok (.putfield index, 3))
    (kk : ∀ (H1 : Heap) (locs1 : List Loc), Wc g z0 L (va_up σ a (.inr (ci, sl.set k (.inr (some v))))) M N H1 → va_S A s.heap H1 locs1 → W p l e R s m args below meth c H1 locs1 cells slots Q (F0 m (pc + 3) ls rest)) : W p l e R s m args below meth c H locs cells slots Q (F0 m pc ls (.ref v :: .ref a :: rest)) := by
  obtain ⟨hx, hb, hml, hown, hts, hF⟩ := hC
  obtain ⟨hc, hk, hin, hcc, hlink⟩ := hf
  obtain ⟨hP, hnd, hz0⟩ := hw
  obtain ⟨k9, hk9⟩ := pl_at' ha (cE_obj (M := M) (N := N) hsa)
  refine va_putF (D := g.1) (C := C) (T := T) (N := Nn) (ref := C) (index := index) (ty := ty0 k) (v := .ref v) hx hb hts hin ty0 hty hnm hown hF.1 hP (wD hnd _ hA) hS k9 hk9 hc k hk (hts _ hlink) (by rw [hcc]; exact fun _ h9 => h9) hfin hmn hdecl (hty k hk) hn hfit ?_ hdg (fun H1 locs1 hP1 hD1 hS1 => ?_)
  · rw [List.length_mapIdx]
    exact (List.getElem?_eq_some_iff.mp hq).1
  · rw [pl_put' hnd ha (cE_obj hsa) hk9 (cE_upR hsa hq v)] at hP1
    exact kk H1 locs1 ⟨hP1, hnd, hz0⟩ hS1
theorem n_putI (hC : Cq g z0 p s m args c cc nL own) (hw : Wc g z0 L σ M N H) (hS : va_S A s.heap H locs) (hA : ∀ q ∈ L, A q) {a ci index : Nat} {sl : List (Nat ⊕ Option Nat)} {C : String} {T : u_T} {Nn : Nat} (ha : a ∈ L) (hsa : σ a = .inr (ci, sl)) {k : Nat} (hf : FL own ci index k C T Nn) (ty0 : Nat → FieldType) (hty : ∀ k, k < Nn → parseFieldDescriptor (T k).2.2.1 = some (ty0 k)) (hnm : ∀ a, a < Nn → ∀ b, b < Nn → a ≠ b → (T a).2.1 ≠ (T b).2.1) (hfin : (T k).2.2.2 = false) (hint : ty0 k = .int) (hq : sl[k]? = some (.inl 0)) {v : Int32} (hdg : decode cc pc = .ok (.putfield index, 3))
    (kk : ∀ (H1 : Heap) (locs1 : List Loc), Wc g z0 L σ (up2 M a k v) N H1 → va_S A s.heap H1 locs1 → W p l e R s m args below meth c H1 locs1 cells slots Q (F0 m (pc + 3) ls rest)) : W p l e R s m args below meth c H locs cells slots Q (F0 m pc ls (.int v :: .ref a :: rest)) := by
  obtain ⟨hx, hb, hml, hown, hts, hF⟩ := hC
  obtain ⟨hc, hk, hin, hcc, hlink⟩ := hf
  obtain ⟨hP, hnd, hz0⟩ := hw
  obtain ⟨k9, hk9⟩ := pl_at' ha (cE_obj (M := M) (N := N) hsa)
  refine va_put (D := g.1) (C := C) (T := T) (N := Nn) (ref := C) (index := index) (ty := .int) (v := .int v) hx hb hts hin ty0 hty hnm hown hF.1 hP (wD hnd _ hA) hS k9 hk9 hc k hk (hts _ hlink) (by rw [hcc]; exact fun _ h9 => h9) hfin (by rw [← hint]; exact hty k hk) rfl rfl ?_ hdg (fun H1 locs1 hP1 hD1 hS1 => ?_)
  · rw [List.length_mapIdx]
    exact (List.getElem?_eq_some_iff.mp hq).1
  · rw [pl_put' hnd ha (cE_obj hsa) hk9 (cE_upI hsa hq v)] at hP1
    exact kk H1 locs1 ⟨hP1, hnd, hz0⟩ hS1
theorem n_putL (hC : Cq g z0 p s m args c cc nL own) (hw : Wc g z0 L σ M N H) (hS : va_S A s.heap H locs) (hA : ∀ q ∈ L, A q) {a ci index : Nat} {sl : List (Nat ⊕ Option Nat)} {C : String} {T : u_T} {Nn : Nat} (ha : a ∈ L) (hsa : σ a = .inr (ci, sl)) {k : Nat} (hf : FL own ci index k C T Nn) (ty0 : Nat → FieldType) (hty : ∀ k, k < Nn → parseFieldDescriptor (T k).2.2.1 = some (ty0 k)) (hnm : ∀ a, a < Nn → ∀ b, b < Nn → a ≠ b → (T a).2.1 ≠ (T b).2.1) (hfin : (T k).2.2.2 = false) (hint : ty0 k = .long) (hq : sl[k]? = some (.inl 1)) {v : Int64} (hdg : decode cc pc = .ok (.putfield index, 3))
    (kk : ∀ (H1 : Heap) (locs1 : List Loc), Wc g z0 L σ M (up2L N a k v) H1 → va_S A s.heap H1 locs1 → W p l e R s m args below meth c H1 locs1 cells slots Q (F0 m (pc + 3) ls rest)) : W p l e R s m args below meth c H locs cells slots Q (F0 m pc ls (.long v :: .ref a :: rest)) := by
  obtain ⟨hx, hb, hml, hown, hts, hF⟩ := hC
  obtain ⟨hc, hk, hin, hcc, hlink⟩ := hf
  obtain ⟨hP, hnd, hz0⟩ := hw
  obtain ⟨k9, hk9⟩ := pl_at' ha (cE_obj (M := M) (N := N) hsa)
  refine va_put (D := g.1) (C := C) (T := T) (N := Nn) (ref := C) (index := index) (ty := .long) (v := .long v) hx hb hts hin ty0 hty hnm hown hF.1 hP (wD hnd _ hA) hS k9 hk9 hc k hk (hts _ hlink) (by rw [hcc]; exact fun _ h9 => h9) hfin (by rw [← hint]; exact hty k hk) rfl rfl ?_ hdg (fun H1 locs1 hP1 hD1 hS1 => ?_)
  · rw [List.length_mapIdx]
    exact (List.getElem?_eq_some_iff.mp hq).1
  · rw [pl_put' hnd ha (cE_obj hsa) hk9 (cE_upL hsa hq v)] at hP1
    exact kk H1 locs1 ⟨hP1, hnd, hz0⟩ hS1
theorem n_getR (hC : Cq g z0 p s m args c cc nL own) (hw : Wc g z0 L σ M N H) {a ci index : Nat} {sl : List (Nat ⊕ Option Nat)} {C : String} {T : u_T} {Nn : Nat} (ha : a ∈ L) (hsa : σ a = .inr (ci, sl)) {k : Nat} (hf : FL own ci index k C T Nn) {v : Nat} (hq : sl[k]? = some (.inr (some v))) (hdg : decode cc pc = .ok (.getfield index, 3))
    (kk : W p l e R s m args below meth c H locs cells slots Q (F0 m (pc + 3) ls (.ref v :: rest))) : W p l e R s m args below meth c H locs cells slots Q (F0 m pc ls (.ref a :: rest)) := by
  obtain ⟨hx, hb, hml, hown, hts, hF⟩ := hC
  obtain ⟨hc, hk, hin, hcc, hlink⟩ := hf
  obtain ⟨k9, hk9⟩ := pl_at' ha (cE_obj (M := M) (N := N) hsa)
  refine va_get (D := g.1) (C := C) (T := T) (N := Nn) (ref := C) (index := index) hx hb hts hin hown hF.1 hw.1 k9 hk9 hc k hk (hts _ hlink) (by rw [hcc]; exact fun _ h9 => h9) (v := .ref v) ?_ hdg kk
  rw [List.getElem?_mapIdx, hq]
  rfl
theorem n_aast (hC : Cq g z0 p s m args c cc nL own) (hw : Wc g z0 L σ M N H) (hS : va_S A s.heap H locs) (hA : ∀ q ∈ L, A q) {a v n t0 ci : Nat} {E C : String} {T : u_T} {Nn : Nat} {cA : ClassId} {f : Nat → Option Nat} {vs : List (Nat ⊕ Option Nat)} (ha : a ∈ L) (hsa : σ a = .inl (cA, n, some f)) (ht : (tys g)[t0]? = some (cA, .object E)) (hv : v ∈ L) (hsv : σ v = .inr (ci, vs)) (hc : vwCl[ci]? = some (C, T, Nn)) (hca : C = E ∨ va_Nw (.castable C E) s) {i : Int32} (hin : vp_in i n) (hdg : decode cc pc = .ok (.aastore, 1))
    (kk : ∀ (H1 : Heap) (locs1 : List Loc), Wc g z0 L (va_up σ a (.inl (cA, n, some (va_up f i.toNatClampNeg (some v))))) M N H1 → va_S A s.heap H1 locs1 → W p l e R s m args below meth c H1 locs1 cells slots Q (F0 m (pc + 1) ls rest)) : W p l e R s m args below meth c H locs cells slots Q (F0 m pc ls (.ref v :: .int i :: .ref a :: rest)) := by
  obtain ⟨hx, hb, hml, hown, hts, hF⟩ := hC
  obtain ⟨hP, hnd, hz0⟩ := hw
  obtain ⟨k9, hk9⟩ := pl_at' ha (cE_ref (M := M) (N := N) hsa)
  obtain ⟨k8, hk8⟩ := pl_at' hv (cE_obj (M := M) (N := N) hsv)
  have K : ∀ (H1 : Heap) (locs1 : List Loc), va_P g.1 vwCl ((va_pl L (cE σ M N)).set k9 (a, .inl (cA, n, .inr (.inr (.inr (.inr (va_up f i.toNatClampNeg (some v)))))))) H1 → va_S A s.heap H1 locs1 → W p l e R s m args below meth c H1 locs1 cells slots Q (F0 m (pc + 1) ls rest) := fun H1 locs1 hP1 hS1 => by
    rw [pl_put' hnd ha (cE_ref hsa) hk9 (cE_upQ _)] at hP1
    exact kk H1 locs1 ⟨hP1, hnd, hz0⟩ hS1
  rcases hca with rfl | hca
  · exact va_astq (D := g.1) (r := (C, T, Nn)) hx hb hF.1 hP (wD hnd _ hA) hS k9 t0 k8 ci hk9 ht hk8 hc hin hdg (fun H1 locs1 hP1 _ hS1 => K H1 locs1 hP1 hS1)
  · exact va_astqO (D := g.1) (r := (C, T, Nn)) hx hb hF.1 hP (wD hnd _ hA) hS k9 t0 k8 ci hk9 ht hca hk8 hc hin hdg (fun H1 locs1 hP1 _ hS1 => K H1 locs1 hP1 hS1)
theorem n_objI (hC : Cq g z0 p s m args c cc nL own) (hls : ls.size = nL) {a idx : Nat} (hlk : Cond.methodLink own idx Lib.objectInit ∈ wsL_law) (him : Cond.instanceMethod Lib.objectInit ∈ wsL_law) (hco : Cond.code Lib.objectInit ⟨#[0xb1]⟩ 1 none ∈ wsL_law) (hR : 1 ≤ R.frames ∧ 64 ≤ R.locals) (hcat : (rest.map fun v => v.category).sum ≤ 8) (hdg : decode cc pc = .ok (.invokespecial idx, 3))
    (kk : W p l e R s m args below meth c H locs cells slots Q (F0 m (pc + 3) ls rest)) : W p l e R s m args below meth c H locs cells slots Q (F0 m pc ls (.ref a :: rest)) := by
  obtain ⟨hx, hb, hml, hown, hts, hF⟩ := hC
  have h8 : 2 * (F0 m pc ls (.ref a :: rest)).monitorRoom + (rest.map fun v => v.category).sum ≤ 8 := lv_room hcat
  exact W.objInit hx hb hown (hts _ hlk) (hts _ him) (hts _ hco) rfl (hls.trans hml.symm) rfl hdg hR.1 (by have := hR.2; omega) kk
/-- a constructor's contract: where the heap ended, the cells then, what is there behind it -/
abbrev rmC (d mc ms : Nat) : Room := { frames := d, cells := mc, slots := ms, locals := 64 * d }
abbrev cA0 (L : List Nat) (sz : Nat) : Nat → Prop := fun q => q ∈ L ∨ sz ≤ q
abbrev Uu : Type := List Nat × Shp × Mm × Ml
abbrev KC (g : Ev) (l : Launch) (y : MethodName) (b : ByteArray) (n d mc ms z0 sz : Nat) (av : List Value) (L : List Nat) (σ : Shp) (M : Mm) (N : Ml) (post : Uu → Prop) : Prop := Met l y (wy y b n none) (rmC d mc ms) (va_Pc av (fun U => U.heap.size = sz ∧ Wc g z0 L σ M N U.heap ∧ Fz g (fun q => z0 ≤ q) U)) (va_Qv post (fun u t => wP (gE g u.1 u.2.1) u.2.2.1 u.2.2.2 t.heap) (cA0 L sz)) mc ms (cA0 L sz)
theorem KC.mk {y : MethodName} {b : ByteArray} {n d mc ms : Nat} {av : List Value} {post : Uu → Prop} (hy : plainName y.cls = true) (hn : (lg_sl av).length ≤ n)
    (body : ∀ (p : Program) (e : Env) (s : State) (m : MethodId) (below : List Frame) (meth : Method) (c : Code) (ls : Array Slot), Cq g z0 p s m av.toArray c b n y.cls → meth.name = y.name → meth.sig.returnType = none → meth.locks = false → lv_has ls n (lv_args 0 av) → s.heap.size = sz → Wc g z0 L σ M N s.heap → va_S (cA0 L sz) s.heap s.heap [] →
      W p l e (rmC d mc ms) s m av.toArray below meth c s.heap [] 0 0 (MQ below (va_Qv post (fun u t => wP (gE g u.1 u.2.1) u.2.2.1 u.2.2.2 t.heap) (cA0 L sz)) av.toArray s mc ms (cA0 L sz)) (F0 m 0 ls [])) : KC g l y b n d mc ms z0 sz av L σ M N post := by
  refine Met.ofW (cc := b) (maxL := n) (ret := none) hy rfl ?_
  intro p e s m args below meth c s₁ B hml hv
  obtain ⟨rfl, hsz, hP, hF⟩ := hv
  have hts := atoms_spec (ws := wy y b n none) B.pre
  have hown : s.vm.findClass y.cls = some m.cls := findClass_of_methodNamed B.named
  have hl := lv_entry av (n := n) hn
  rw [lg_entry_eq]
  exact body p e s m below meth c _ ⟨B.exec, B.bytes, hml, hown, fun w hw => hts w (List.mem_cons_of_mem _ hw), hF⟩ (name_of_methodNamed B.named B.method).1 B.returns B.notSynchronized hl hsz hP va_S.rf
theorem e_C {post : Uu → Prop} (hC : Cq g z0 p s m args c cc nL own) (hr : meth.sig.returnType = none) (hlk : meth.locks = false) (hw : Wc g z0 L σ M N H) (hS : va_S A s.heap H locs) (hp : post (L, σ, M, N)) (hdg : decode cc pc = .ok (.return_, 1)) : W p l e R s m args below meth c H locs cells slots (MQ below (va_Qv post (fun u t => wP (gE g u.1 u.2.1) u.2.2.1 u.2.2.2 t.heap) A) args s cells slots A) (F0 m pc ls []) :=
  W.vret hC.1 hC.2.1 hr (fun t ht hW => ⟨⟨(L, σ, M, N), rfl, hp, by show wP (gE g L σ) M N t.heap; rw [ht]; exact hw.1⟩, hS.F ht⟩) hS.2.2 hdg hlk
theorem Cq.pay (hC : Cq g z0 p s m args c cc nL own) {y : MethodName} {b : ByteArray} {n : Nat} {r : Option FieldType} (hy : Cond.code y b n r ∈ wsL_law) : ∀ w ∈ wy y b n r, ∀ (a' : Array Value) (U : State), s.WarmedH U.vm → w.before a' U = true := by
  have hG : GoodIn wsL_law (wy y b n r) := fun w hw => by
    rcases List.mem_cons.mp hw with e | e
    · subst e
      exact ⟨hy, (wb_good _ hy).2⟩
    · exact ⟨e, (wb_good _ e).2⟩
  exact pay_in hC.2.2.2.2.1 hG
/-- a constructor of the world is called -/
theorem n_callI {L1 : List Nat} {σ1 : Shp} {M1 : Mm} {N1 : Ml} {y : MethodName} {b : ByteArray} {n na d mc ms index a : Nat} {As : List Value} {post : Uu → Prop} (hC : Cq g z0 p s m args c cc nL own) (hw : Wc g z0 L1 σ1 M1 N1 H) (hS : va_S A s.heap H locs) (hA : ∀ q ∈ L1, A q) (hA2 : ∀ q, s.heap.size ≤ q → A q) (hB : ∀ q, q < s.heap.size → A q → z0 ≤ q) (hz : H.size = sz) (hM : KC g l y b n d mc ms z0 sz (.ref a :: As) L1 σ1 M1 N1 post) (hcw : CWd own index y b n none na) (hlk : Cond.methodLink own index y ∈ wsL_law) (him : Cond.instanceMethod y ∈ wsL_law) (hyi : y.name = "<init>") (hR : d + 1 ≤ R.frames ∧ 64 * d + 64 ≤ R.locals ∧ cells + mc ≤ R.cells ∧ slots + ms ≤ R.slots) (hn : As.length = na) (hls : ls.size = nL) (hst : st = As.reverse ++ .ref a :: rest) (hcat : (rest.map fun v => v.category).sum ≤ 8) (hdg : decode cc pc = .ok (.invokespecial index, 3))
    (kk : ∀ (u : Uu) (H1 : Heap) (locs1 : List Loc), post u → wP (gE g u.1 u.2.1) u.2.2.1 u.2.2.2 H1 → va_S A s.heap H1 locs1 → W p l e R s m args below meth c H1 locs1 (cells + mc) (slots + ms) Q (F0 m (pc + 3) ls rest)) : W p l e R s m args below meth c H locs cells slots Q (F0 m pc ls st) := by
  have hC' := hC
  obtain ⟨hx, hb, hml, hown, hts, hF⟩ := hC'
  obtain ⟨w1, w2, w3, w4, w5⟩ := hcw
  have hrun := va_runI (R := R) (p := p) (e := e) (m := m) (c := c) (below := below) (meth := meth) (locs := locs) (cells := cells) (slots := slots) (g := F0 m pc ls st) (As := As) (rest := rest) (n := na) (H := H) ⟨hx, hb, hml, hown, hts⟩ hM ⟨⟨rfl, rfl, hR.1, (by show 8 + (n + 11) + 64 * d ≤ R.locals; have := hR.2.1; omega), hC.pay w1, List.mem_cons_self, hts _ w1, hts _ w2, w3, w4, hts _ hlk⟩, hyi, hts _ him⟩ ⟨fun a' U f mk q => (by obtain ⟨q0, q1, qP, qF⟩ := q; exact ⟨q0, q1, qP, qF.same rfl rfl⟩), fun U hU hW => ⟨rfl, by rw [hU]; exact hz, by rw [hU]; exact hw, hF.go hS hB hU hW⟩⟩ rfl hn hls hst (lv_room hcat) hdg ⟨hR.2.2.1, hR.2.2.2⟩
  have hsz := hS.1
  refine va_callv hrun hS (fun q h1 h2 => ?_) (fun q h2 => ?_) (fun u t H1 locs1 ht hvm hp hB1 hz1 hk1 hS1 => kk u H1 locs1 hp (by rw [← ht]; exact hB1) hS1)
  · rcases h2 with h2 | h2
    · exact hA q h2
    · exact hA2 q (by omega)
  · rcases h2 with h2 | h2
    · exact hA q h2
    · exact hA2 q (by omega)
/-- a method over the world's fixed cells is called while cells are made -/
theorem n_goV {L1 : List Nat} {σ1 : Shp} {M1 M2 : Mm} {N1 N2 : Ml} {a : Array Value} (hS : va_S A s.heap H locs) (hA : ∀ q ∈ L1, A q) (hw : Wc g z0 L1 σ1 M1 N1 H) (hr : va_Run p l e R s m args below meth c H locs cells slots 0 0 (F0 m pc ls st) rest (QV (gE g L1 σ1) M2 N2 a) (wA (gE g L1 σ1))) (kk : ∀ (H1 : Heap) (locs1 : List Loc), Wc g z0 L1 σ1 M2 N2 H1 → va_S A s.heap H1 locs1 → W p l e R s m args below meth c H1 locs1 cells slots Q (F0 m (pc + 3) ls rest)) : W p l e R s m args below meth c H locs cells slots Q (F0 m pc ls st) := by
  refine va_callv hr hS (fun q _ h => hA q h) (fun q h => hA q h) (fun u t H1 locs1 ht hvm hw1 hB hz hk hS1 => ?_)
  subst hw1
  exact kk H1 locs1 ⟨by rw [← ht]; exact hB, hw.2.1, hw.2.2⟩ hS1
theorem n_pre {L1 : List Nat} {σ1 : Shp} {M1 : Mm} {N1 : Ml} (hC : Cq g z0 p s m args c cc nL own) (hw : Wc g z0 L1 σ1 M1 N1 H) (hS : va_S A s.heap H locs) (hB : ∀ q, q < s.heap.size → A q → z0 ≤ q) (av : List Value) (U : State) (hU : U.heap = H) (hW : s.WarmedH U.vm) : va_Pc av (Wd (gE g L1 σ1) M1 N1) av.toArray U := ⟨rfl, by rw [hU]; exact hw.1, (hC.2.2.2.2.2.go hS hB hU hW).to hw.2.2⟩
theorem n_runV {L1 : List Nat} {σ1 : Shp} {M1 : Mm} {N1 : Ml} (hC : Cq g z0 p s m args c cc nL own) (hw : Wc g z0 L1 σ1 M1 N1 H) (hS : va_S A s.heap H locs) (hB : ∀ q, q < s.heap.size → A q → z0 ≤ q) {y : MethodName} {b : ByteArray} {n na d index a ci : Nat} {r : Option FieldType} {As : List Value} {Qc : Array Value → State → Outcome → State → Prop} {sl : List (Nat ⊕ Option Nat)} {C : String} {T : u_T} {Nn : Nat} (hM : KM (gE g L1 σ1) l y b n r d (.ref a :: As) M1 N1 Qc) (hcw : CWd own index y b n r na) (hlk : Cond.methodLink own index y ∈ wsL_law) (him : Cond.instanceMethod y ∈ wsL_law) (hsel : Cond.selects C y y ∈ wsL_law) (hR : Rm R d cells slots) (ho : oAt (gE g L1 σ1) a ci sl) (hc : vwCl[ci]? = some (C, T, Nn)) (hn : As.length = na) (hls : ls.size = nL) (hst : st = As.reverse ++ .ref a :: rest) (hcat : (rest.map fun v => v.category).sum ≤ 8) (hdg : decode cc pc = .ok (.invokevirtual index, 3)) :
    va_Run p l e R s m args below meth c H locs cells slots 0 0 (F0 m pc ls st) rest (Qc (Value.ref a :: As).toArray) (wA (gE g L1 σ1)) := by
  have hC' := hC
  obtain ⟨hx, hb, hml, hown, hts, hF⟩ := hC'
  obtain ⟨k9, hk9⟩ := pl_at' ho.1 (cE_obj (M := M1) (N := N1) ho.2)
  obtain ⟨w1, w2, w3, w4, w5⟩ := hcw
  refine va_runV (R := R) (As := As) (rest := rest) (n := na) ⟨hx, hb, hml, hown, hts⟩ hM ⟨⟨rfl, rfl, hR.1, ?_, hC.pay w1, List.mem_cons_self, hts _ w1, hts _ w2, w3, w4, hts _ hlk⟩, hts _ him, hts _ hsel⟩ ⟨Wd.blind, va_recv hF.1 hw.1 hc hk9, fun U hU hW => n_pre hC hw hS hB _ U hU hW⟩ rfl hn hls hst (lv_room hcat) hdg ⟨hR.2.2.1, hR.2.2.2⟩
  show 8 + (n + 11) + 64 * d ≤ R.locals
  have := hR.2.1
  omega
theorem n_runS {L1 : List Nat} {σ1 : Shp} {M1 : Mm} {N1 : Ml} (hC : Cq g z0 p s m args c cc nL own) (hw : Wc g z0 L1 σ1 M1 N1 H) (hS : va_S A s.heap H locs) (hB : ∀ q, q < s.heap.size → A q → z0 ≤ q) {y : MethodName} {b : ByteArray} {n na d index : Nat} {r : Option FieldType} {As : List Value} {Qc : Array Value → State → Outcome → State → Prop} (hM : KM (gE g L1 σ1) l y b n r d As M1 N1 Qc) (hcw : CWd own index y b n r na) (hlk : Cond.methodLink own index y ∈ wsL_law) (hsta : Cond.static y ∈ wsL_law) (hR : Rm R d cells slots) (hn : As.length = na) (hls : ls.size = nL) (hst : st = As.reverse ++ rest) (hcat : (rest.map fun v => v.category).sum ≤ 8) (hdg : decode cc pc = .ok (.invokestatic index, 3)) :
    va_Run p l e R s m args below meth c H locs cells slots 0 0 (F0 m pc ls st) rest (Qc As.toArray) (wA (gE g L1 σ1)) := by
  have hC' := hC
  obtain ⟨hx, hb, hml, hown, hts, hF⟩ := hC'
  obtain ⟨w1, w2, w3, w4, w5⟩ := hcw
  refine va_runS (R := R) (As := As) (rest := rest) (n := na) ⟨hx, hb, hml, hown, hts⟩ hM ⟨⟨rfl, rfl, hR.1, ?_, hC.pay w1, List.mem_cons_self, hts _ w1, hts _ w2, w3, w4, hts _ hlk⟩, hts _ hsta⟩ ⟨Wd.blind, fun U hU hW => n_pre hC hw hS hB _ U hU hW⟩ rfl hn hls hst (lv_room hcat) hdg ⟨hR.2.2.1, hR.2.2.2⟩
  show 8 + (n + 11) + 64 * d ≤ R.locals
  have := hR.2.1
  omega
/-- by invokespecial: a constructor that makes nothing -/
theorem n_runI {L1 : List Nat} {σ1 : Shp} {M1 : Mm} {N1 : Ml} (hC : Cq g z0 p s m args c cc nL own) (hw : Wc g z0 L1 σ1 M1 N1 H) (hS : va_S A s.heap H locs) (hB : ∀ q, q < s.heap.size → A q → z0 ≤ q) {y : MethodName} {b : ByteArray} {n na d index a : Nat} {As : List Value} {Qc : Array Value → State → Outcome → State → Prop} (hM : KM (gE g L1 σ1) l y b n none d (.ref a :: As) M1 N1 Qc) (hcw : CWd own index y b n none na) (hlk : Cond.methodLink own index y ∈ wsL_law) (him : Cond.instanceMethod y ∈ wsL_law) (hyi : y.name = "<init>") (hR : Rm R d cells slots) (hn : As.length = na) (hls : ls.size = nL) (hst : st = As.reverse ++ .ref a :: rest) (hcat : (rest.map fun v => v.category).sum ≤ 8) (hdg : decode cc pc = .ok (.invokespecial index, 3)) :
    va_Run p l e R s m args below meth c H locs cells slots 0 0 (F0 m pc ls st) rest (Qc (Value.ref a :: As).toArray) (wA (gE g L1 σ1)) := by
  have hC' := hC
  obtain ⟨hx, hb, hml, hown, hts, hF⟩ := hC'
  obtain ⟨w1, w2, w3, w4, w5⟩ := hcw
  refine va_runI (R := R) (As := As) (rest := rest) (n := na) ⟨hx, hb, hml, hown, hts⟩ hM ⟨⟨rfl, rfl, hR.1, ?_, hC.pay w1, List.mem_cons_self, hts _ w1, hts _ w2, w3, w4, hts _ hlk⟩, hyi, hts _ him⟩ ⟨Wd.blind, fun U hU hW => n_pre hC hw hS hB _ U hU hW⟩ rfl hn hls hst (lv_room hcat) hdg ⟨hR.2.2.1, hR.2.2.2⟩
  show 8 + (n + 11) + 64 * d ≤ R.locals
  have := hR.2.1
  omega
/-- and the same from a walk over fixed cells -/
theorem r_runI (hC : Cx g p s m args c cc nL own) (hP : wP g M N H) (hS : va_S (wA g) s.heap H locs) {y : MethodName} {b : ByteArray} {n na d index a : Nat} {As : List Value} {Qc : Array Value → State → Outcome → State → Prop} (hM : KM g l y b n none d (.ref a :: As) M N Qc) (hcw : CWd own index y b n none na) (hlk : Cond.methodLink own index y ∈ wsL_law) (him : Cond.instanceMethod y ∈ wsL_law) (hyi : y.name = "<init>") (hR : Rm R d cells slots) (hn : As.length = na) (hls : ls.size = nL) (hst : st = As.reverse ++ .ref a :: rest) (hcat : (rest.map fun v => v.category).sum ≤ 8) (hdg : decode cc pc = .ok (.invokespecial index, 3)) :
    va_Run p l e R s m args below meth c H locs cells slots 0 0 (F0 m pc ls st) rest (Qc (Value.ref a :: As).toArray) (wA g) := by
  have hC' := hC
  obtain ⟨hx, hb, hml, hown, hts, hF, hnd⟩ := hC'
  obtain ⟨w1, w2, w3, w4, w5⟩ := hcw
  refine va_runI (R := R) (As := As) (rest := rest) (n := na) ⟨hx, hb, hml, hown, hts⟩ hM ⟨⟨rfl, rfl, hR.1, ?_, wy_pay hC w1, List.mem_cons_self, hts _ w1, hts _ w2, w3, w4, hts _ hlk⟩, hyi, hts _ him⟩ ⟨Wd.blind, fun U hU hW => Wd.pre hC hP hS _ U hU hW⟩ rfl hn hls hst (lv_room hcat) hdg ⟨hR.2.2.1, hR.2.2.2⟩
  show 8 + (n + 11) + 64 * d ≤ R.locals
  have := hR.2.1
  omega
theorem r_objI (hC : Cx g p s m args c cc nL own) (hls : ls.size = nL) {a idx : Nat} (hlk : Cond.methodLink own idx Lib.objectInit ∈ wsL_law) (him : Cond.instanceMethod Lib.objectInit ∈ wsL_law) (hco : Cond.code Lib.objectInit ⟨#[0xb1]⟩ 1 none ∈ wsL_law) (hR : 1 ≤ R.frames ∧ 64 ≤ R.locals) (hcat : (rest.map fun v => v.category).sum ≤ 8) (hdg : decode cc pc = .ok (.invokespecial idx, 3))
    (kk : W p l e R s m args below meth c H locs cells slots Q (F0 m (pc + 3) ls rest)) : W p l e R s m args below meth c H locs cells slots Q (F0 m pc ls (.ref a :: rest)) := by
  obtain ⟨hx, hb, hml, hown, hts, hF, hnd⟩ := hC
  have h8 : 2 * (F0 m pc ls (.ref a :: rest)).monitorRoom + (rest.map fun v => v.category).sum ≤ 8 := lv_room hcat
  exact W.objInit hx hb hown (hts _ hlk) (hts _ him) (hts _ hco) rfl (hls.trans hml.symm) rfl hdg hR.1 (by have := hR.2; omega) kk
end NWS
