
theorem st_arr {s : State} {args : Array Value} {ty : FieldType} (h : (Cond.arrayClass ty).before args s = true) (hno : ∀ C, ty ≠ .object C) : ∃ cA : ClassId, ArrOfT s cA ty ∧ va_RA s cA ty := by
  obtain ⟨cA, kA, comp, f1, f2, f3⟩ := Cond.arrayClass_spec h
  refine ⟨cA, fun N z => ⟨(fun k h => by cases h), kA, f2, comp, f3⟩, ?_⟩
  cases ty with
  | object C => exact absurd rfl (hno C)
  | _ => exact f1
theorem st_arrR {s : State} {C : String} (h : va_AO C s) : ∃ cA : ClassId, ArrOfT s cA (.object C) ∧ va_RA s cA (.object C) := by
  obtain ⟨comp, cA, kA, f1, f2, f3, f4, f5⟩ := Cond.arrayOver_spec (va_AO.use (A := #[]) h)
  exact ⟨cA, fun N z => ⟨(fun k h => by cases h), kA, f3, comp, f4⟩, kA, comp, f3, f4, f1, f5⟩
def stIdx : List Nat := [45, 64, 69, 74]
set_option maxHeartbeats 4000000 in
set_option maxRecDepth 100000 in
/-- what the Statement gives at the law's start, in my words -/
theorem st_Fz {s : State} {b : Nat} (hts : ∀ w ∈ lw_tbl, w.before #[Value.ref b] s = true) (hgv : (Jvm.Cond.and given_1 narrow_1).before #[Value.ref b] s = true) : ∃ g : Ev, Fz g (fun q => s.heap.size ≤ q) s := by
  have hts' : ∀ w ∈ wsL_law, w.before #[Value.ref b] s = true := fun w h => hts w (wb_good w h).1
  have hf := flat_of_before _ hgv
  have hA : ∀ a : Nat, a < s.heap.size → ¬ (fun q => s.heap.size ≤ q) a := fun a h => Nat.not_le.mpr h
  obtain ⟨c0, i0, hn0⟩ := u_known (C := RX0) (T := TX0) (N := 8) (n := 8) hts' inX0 (hts' _ q_36)
  obtain ⟨c1, i1, hn1⟩ := u_known (C := RX1) (T := TX1) (N := 0) (n := 0) hts' inX1 (hts' _ q_20)
  obtain ⟨c2, i2, hn2⟩ := u_known (C := RX2) (T := TX2) (N := 3) (n := 3) hts' inX2 (hts' _ q_117)
  obtain ⟨c3, i3, hn3⟩ := u_known (C := RX3) (T := TX3) (N := 0) (n := 0) hts' inX3 (hts' _ q_14)
  obtain ⟨c4, i4, hn4⟩ := u_known (C := RX4) (T := TX4) (N := 3) (n := 3) hts' inX4 (hts' _ q_48)
  obtain ⟨c5, i5, hn5⟩ := u_known (C := RX5) (T := TX5) (N := 13) (n := 13) hts' inX5 (hts' _ q_40)
  obtain ⟨c6, i6, hn6⟩ := u_known (C := RX6) (T := TX6) (N := 0) (n := 0) hts' inX6 (hts' _ q_26)
  obtain ⟨c7, i7, hn7⟩ := u_known (C := RX7) (T := TX7) (N := 4) (n := 4) hts' inX7 (hts' _ q_29)
  obtain ⟨c8, i8, hn8⟩ := u_known (C := RX8) (T := TX8) (N := 0) (n := 0) hts' inX8 (hts' _ q_23)
  obtain ⟨c9, i9, hn9⟩ := u_known (C := RX9) (T := TX9) (N := 5) (n := 5) hts' inX9 (hts' _ q_44)
  obtain ⟨c10, i10, hn10⟩ := u_known (C := RX10) (T := TX10) (N := 0) (n := 0) hts' inX10 (hts' _ q_17)
  obtain ⟨c11, i11, hn11⟩ := u_known (C := RX11) (T := TX11) (N := 9) (n := 9) hts' inX11 (hts' _ q_1)
  obtain ⟨c12, i12, hn12⟩ := u_known (C := RX12) (T := TX12) (N := 25) (n := 25) hts' inX12 (hts' _ q_4)
  obtain ⟨dC, dI, hKc⟩ : ∃ (dC : Nat → ClassId) (dI : Nat → Nat → Nat), ∀ (k : Nat) (q : vw_C), vwCl[k]? = some q → u_Kn s q.1 q.2.1 q.2.2 (dC k) (dI k) := by
    refine ⟨fun k => if k = 0 then c0 else if k = 1 then c1 else if k = 2 then c2 else if k = 3 then c3 else if k = 4 then c4 else if k = 5 then c5 else if k = 6 then c6 else if k = 7 then c7 else if k = 8 then c8 else if k = 9 then c9 else if k = 10 then c10 else if k = 11 then c11 else c12, fun k => if k = 0 then i0 else if k = 1 then i1 else if k = 2 then i2 else if k = 3 then i3 else if k = 4 then i4 else if k = 5 then i5 else if k = 6 then i6 else if k = 7 then i7 else if k = 8 then i8 else if k = 9 then i9 else if k = 10 then i10 else if k = 11 then i11 else i12, ?_⟩
    intro k q hq
    match k, hq with
    | 0, hq => cases hq; exact hn0
    | 1, hq => cases hq; exact hn1
    | 2, hq => cases hq; exact hn2
    | 3, hq => cases hq; exact hn3
    | 4, hq => cases hq; exact hn4
    | 5, hq => cases hq; exact hn5
    | 6, hq => cases hq; exact hn6
    | 7, hq => cases hq; exact hn7
    | 8, hq => cases hq; exact hn8
    | 9, hq => cases hq; exact hn9
    | 10, hq => cases hq; exact hn10
    | 11, hq => cases hq; exact hn11
    | 12, hq => cases hq; exact hn12
    | k + 13, hq => simp [vwCl] at hq
  have hao3 : va_AO RX3 s := va_AO.of (hts (.arrayOver (.object "RingShepherds$Plain")) (by decide +kernel))
  have hao5 : va_AO RX5 s := va_AO.of (hts (.arrayOver (.object "RingShepherds$Ring")) (by decide +kernel))
  have hao7 : va_AO RX7 s := va_AO.of (hts (.arrayOver (.object "RingShepherds$Story")) (by decide +kernel))
  obtain ⟨aI, aI1, aI2⟩ := st_arr (hts' _ q_51) (by intro C h; cases h)
  obtain ⟨aZ, aZ1, aZ2⟩ := st_arr (hts' _ q_33) (by intro C h; cases h)
  obtain ⟨aP, aP1, aP2⟩ := st_arrR hao3
  obtain ⟨aR, aR1, aR2⟩ := st_arrR hao5
  obtain ⟨aS, aS1, aS2⟩ := st_arrR hao7
  obtain ⟨tF, hF1, hF2⟩ := va_Tof (tm := Term.static "RingShepherds" "FACTORIALS" "[I") (ty := .int) (N := 5) (f := fun j => .int (facts.getD j 0)) (A := fun q => s.heap.size ≤ q) (by decide) (hf _ (by decide +kernel)) (va_eqt (hf (Cond.eq (.length (.static "RingShepherds" "FACTORIALS" "[I")) (.int 5)) (by decide +kernel))) (fun j hj => by
    rcases (show j = 0 ∨ j = 1 ∨ j = 2 ∨ j = 3 ∨ j = 4 by omega) with rfl | rfl | rfl | rfl | rfl
    · exact va_eqt (hf (Cond.eq (.elem (.static "RingShepherds" "FACTORIALS" "[I") (.int 0)) (.int 1)) (by decide +kernel))
    · exact va_eqt (hf (Cond.eq (.elem (.static "RingShepherds" "FACTORIALS" "[I") (.int 1)) (.int 1)) (by decide +kernel))
    · exact va_eqt (hf (Cond.eq (.elem (.static "RingShepherds" "FACTORIALS" "[I") (.int 2)) (.int 2)) (by decide +kernel))
    · exact va_eqt (hf (Cond.eq (.elem (.static "RingShepherds" "FACTORIALS" "[I") (.int 3)) (.int 6)) (by decide +kernel))
    · exact va_eqt (hf (Cond.eq (.elem (.static "RingShepherds" "FACTORIALS" "[I") (.int 4)) (.int 24)) (by decide +kernel))) hA
  have hFZ : va_Z RX11 "FACTORIALS" "[I" (.ref tF) (fun q => s.heap.size ≤ q) s s.heap := va_Zof (hts (.laysStatic "RingShepherds" "FACTORIALS" "[I") (by decide +kernel)) (hts' _ q_2) hF1 hA
  have hCZ : va_Z "java/lang/String" "COMPACT_STRINGS" "Z" (.int 1) (fun q => s.heap.size ≤ q) s s.heap := va_Zof (hts (.laysStatic "java/lang/String" "COMPACT_STRINGS" "Z") (by decide +kernel)) (hts' _ q_329) (va_eqi (hf _ (by decide +kernel))) hA
  have hSZ : va_Zq "jdk/internal/util/Preconditions" "SIOOBE_FORMATTER" "Ljava/util/function/BiFunction;" (fun q => s.heap.size ≤ q) s s.heap := va_Zqof (hts (.laysStatic "jdk/internal/util/Preconditions" "SIOOBE_FORMATTER" "Ljava/util/function/BiFunction;") (by decide +kernel)) (hts' _ q_356) (hf _ (by decide +kernel)) hA
  obtain ⟨aK, aV, hSS, hSE⟩ := vk_Sof (N := 4) (tm := fun i => Term.string "RingShepherds$Reader" (stIdx.getD i 0)) (len := txLen) (byt := txByt) (A := fun q => s.heap.size ≤ q) (by intro i hi; rcases (show i = 0 ∨ i = 1 ∨ i = 2 ∨ i = 3 by omega) with rfl | rfl | rfl | rfl <;> decide)
    (by intro i hi; rcases (show i = 0 ∨ i = 1 ∨ i = 2 ∨ i = 3 by omega) with rfl | rfl | rfl | rfl <;> exact hf _ (by decide +kernel))
    (by intro i hi; rcases (show i = 0 ∨ i = 1 ∨ i = 2 ∨ i = 3 by omega) with rfl | rfl | rfl | rfl <;> exact hf _ (by decide +kernel))
    (by intro i hi; rcases (show i = 0 ∨ i = 1 ∨ i = 2 ∨ i = 3 by omega) with rfl | rfl | rfl | rfl <;> exact hf _ (by decide +kernel))
    (by intro i hi; rcases (show i = 0 ∨ i = 1 ∨ i = 2 ∨ i = 3 by omega) with rfl | rfl | rfl | rfl <;> exact hf _ (by decide +kernel))
    (by
      intro i hi
      rcases (show i = 0 ∨ i = 1 ∨ i = 2 ∨ i = 3 by omega) with rfl | rfl | rfl | rfl
      · intro j hj
        have hj : j < 4 := hj
        rcases (show j = 0 ∨ j = 1 ∨ j = 2 ∨ j = 3 by omega) with rfl | rfl | rfl | rfl <;> exact hf _ (by decide +kernel)
      · intro j hj
        have hj : j < 4 := hj
        rcases (show j = 0 ∨ j = 1 ∨ j = 2 ∨ j = 3 by omega) with rfl | rfl | rfl | rfl <;> exact hf _ (by decide +kernel)
      · intro j hj
        have hj : j < 5 := hj
        rcases (show j = 0 ∨ j = 1 ∨ j = 2 ∨ j = 3 ∨ j = 4 by omega) with rfl | rfl | rfl | rfl | rfl <;> exact hf _ (by decide +kernel)
      · intro j hj
        have hj : j < 4 := hj
        rcases (show j = 0 ∨ j = 1 ∨ j = 2 ∨ j = 3 by omega) with rfl | rfl | rfl | rfl <;> exact hf _ (by decide +kernel))
    (by
      intro i j hi hj hij
      rcases (show i = 0 ∨ i = 1 ∨ i = 2 ∨ i = 3 by omega) with rfl | rfl | rfl | rfl <;> rcases (show j = 0 ∨ j = 1 ∨ j = 2 ∨ j = 3 by omega) with rfl | rfl | rfl | rfl <;> first | exact absurd rfl hij | exact Or.inl (hf _ (by decide +kernel)) | exact Or.inr (hf _ (by decide +kernel))) hA
  refine ⟨((dC, dI), [], fun _ => .inr (0, []), (aI, aZ, aP, aR, aS), tF, aK, aV), ⟨hKc, fun k q hk => ?_⟩, ⟨va_Nw.of rfl (hts _ (by decide +kernel)), va_Nw.of rfl (hts _ (by decide +kernel)), va_Nw.of rfl (hts _ (by decide +kernel)), va_Nw.of rfl (hts _ (by decide +kernel)), va_Nw.of rfl (hts _ (by decide +kernel))⟩, ⟨⟨hFZ, hF2⟩, hCZ, hSZ, hSS, vk_R.of (hts (.stringRef "RingShepherds$Reader" 45 "ring") (by decide +kernel)) (hSE 0 (by omega)), vk_R.of (hts (.stringRef "RingShepherds$Reader" 64 "step") (by decide +kernel)) (hSE 1 (by omega)), vk_R.of (hts (.stringRef "RingShepherds$Reader" 69 "lumps") (by decide +kernel)) (hSE 2 (by omega)), vk_R.of (hts (.stringRef "RingShepherds$Reader" 74 "moon") (by decide +kernel)) (hSE 3 (by omega))⟩, ⟨hao3, hao5, hao7⟩, va_Nw.of rfl (hts _ (by decide +kernel)), va_Nw.of rfl (hts _ (by decide +kernel)), va_Nw.of rfl (hts _ (by decide +kernel)), va_Nw.of rfl (hts _ (by decide +kernel))⟩
  match k, hk with
  | 0, hk => cases hk; exact ⟨aI1, aI2⟩
  | 1, hk => cases hk; exact ⟨aZ1, aZ2⟩
  | 2, hk => cases hk; exact ⟨aP1, aP2⟩
  | 3, hk => cases hk; exact ⟨aR1, aR2⟩
  | 4, hk => cases hk; exact ⟨aS1, aS2⟩
  | k + 5, hk => simp at hk
theorem zAt_mono {g : Ev} {L L' : List Nat} {σ σ' : Shp} {q n : Nat} (h : zAt (gE g L σ) q n) (hL : ∀ q ∈ L, q ∈ L') (hs : σ' q = σ q) : zAt (gE g L' σ') q n := ⟨hL q h.1, hs.trans h.2⟩
theorem oTop_mono {g : Ev} {L L' : List Nat} {σ σ' : Shp} {x : Nat} (h : oTop (gE g L σ) x) (hL : ∀ q ∈ L, q ∈ L') (hs : ∀ q, x ≤ q → q < x + 234 → σ' q = σ q) : oTop (gE g L' σ') x := by
  obtain ⟨h1, h2, h3, h4, h5, h6, h7, h8, h9⟩ := h
  exact ⟨oAt_mono h1 hL (hs _ (by omega) (by omega)), oStory_mono h2 hL (fun q a b => hs q (by omega) (by omega)) (fun q a b => hs q (by omega) (by omega)), rAt_mono h3 hL (hs _ (by omega) (by omega)), fun i hi => oStory_mono (h4 i hi) hL (fun q a b => hs q (by omega) (by omega)) (fun q a b => hs q (by omega) (by omega)), zAt_mono h5 hL (hs _ (by omega) (by omega)), oCourse_mono h6 hL (fun q a b => hs q (by omega) (by omega)) (fun q a b => hs q (by omega) (by omega)) (fun q a b => hs q (by omega) (by omega)), oText_mono h7 hL (fun q a b => hs q (by omega) (by omega)), oReader_mono h8 hL (fun q a b => hs q (by omega) (by omega)) (fun q a b => hs q (by omega) (by omega)) (fun q a b => hs q (by omega) (by omega)), iAt_mono h9 hL (hs _ (by omega) (by omega))⟩
theorem tInit_mono {M M' : Mm} {N N' : Ml} {x : Nat} (h : tInit M N x) (hm : ∀ q, x ≤ q → q < x + 234 → M' q = M q) (hn : ∀ q, x ≤ q → q < x + 234 → N' q = N q) : tInit M' N' x := by
  obtain ⟨h1, h2, h3, h4, h5, h6, h7, h8⟩ := h
  refine ⟨rInit_mono h1 (fun q a b => hm q (by omega) (by omega)), ?_, ?_, ?_, ?_, ?_, ?_, ?_⟩
  · rw [hm _ (by omega) (by omega)]; exact h2
  · exact sInit_mono h3 (fun q a b => hm q (by omega) (by omega))
  · rw [hm _ (by omega) (by omega)]; exact h4
  · rw [hm _ (by omega) (by omega)]; exact h5
  · rw [hm _ (by omega) (by omega)]; exact h6
  · rw [hn _ (by omega) (by omega)]; exact h7
  · rw [hn _ (by omega) (by omega)]; exact h8
set_option maxHeartbeats 4000000 in
set_option maxRecDepth 100000 in
/-- the law, from its entry, over the pure side -/
theorem law_entry {p : Program} {e : Env} {s : State} {m : MethodId} {below : List Frame} {meth : Method} {c : Code} (l : Launch) {b n0 : Nat} {xs : Nat → Int32} (hn0 : n0 ≤ 320) (C0 : lw_At p s m meth c b n0 xs) (Inv : Nat → Nat → Nat → Mm → Ml → Prop) (hInit : ∀ x M N, tInit M N x → mInit M N (x + 234) → Inv x (x + 234) 0 M N) (hSt : ∀ x, LawSteps x (x + 234) (Inv x (x + 234))) : W p l e room_1 s m #[Value.ref b] below meth c s.heap [] 0 0 (lw_Z below #[Value.ref b] s) (entryFrame m ([Value.ref b] : List Value).toArray 4) := by
  obtain ⟨hx, hb, hr, hml, hown, hts, hX, hbl, hlocks, hgv⟩ := id C0
  obtain ⟨g, hFz⟩ := st_Fz hts hgv
  obtain ⟨x, hsz⟩ : ∃ x, s.heap.size = x := ⟨_, rfl⟩
  have z0x : x = x := rfl
  rw [hsz] at hFz
  have hC : Cq g x p s m #[Value.ref b] c cL_law 4 RL := ⟨hx, hb, hml, hown, fun w h => hts w (wb_good w h).1, hFz⟩
  obtain ⟨L, hL0⟩ : ∃ L : List Nat, L = [] := ⟨_, rfl⟩
  obtain ⟨σ, -⟩ : ∃ σ : Shp, σ = fun _ => .inr (0, []) := ⟨_, rfl⟩
  obtain ⟨M, -⟩ : ∃ M : Mm, M = fun _ _ => 0 := ⟨_, rfl⟩
  obtain ⟨N, -⟩ : ∃ N : Ml, N = fun _ _ => 0 := ⟨_, rfl⟩
  have hw : Wc g x L σ M N s.heap := ⟨wP_pl.mpr (fun a h => by rw [hL0] at h; cases h), by rw [hL0]; exact List.nodup_nil, fun q h => by rw [hL0] at h; cases h⟩
  have hS : va_S (cA0 L x) s.heap s.heap [] := va_S.rf
  have hl := lv_entry ([.ref b]) (n := 4) (Nat.le_of_ble_eq_true rfl)
  rw [lg_entry_eq]
  generalize (lg_sl ([.ref b]) ++ List.replicate (4 - (lg_sl ([.ref b])).length) Slot.unset).toArray = ls at hl ⊢
  have hl : lv_has ls 4 [(0, .ref b)] := hl
  have hA : ∀ q ∈ L, cA0 L (x) q := fun q h => Or.inl h
  have hB : ∀ q, q < s.heap.size → cA0 L (x) q → x ≤ q := fun q h1 h2 => h2.elim (hw.2.2 q) (fun h => h)
  have hLe : L = L ++ List.range' (x) 0 := (List.append_nil L).symm
  have hσo : ∀ q, (q < x ∨ x + 248 ≤ q) → σ q = σ q := fun _ _ => rfl
  have hMo : ∀ q, (q < x ∨ x + 248 ≤ q) → M q = M q := fun _ _ => rfl
  have hNo : ∀ q, (q < x ∨ x + 248 ≤ q) → N q = N q := fun _ _ => rfl
  have hz := hsz
  refine n_new (ci := 11) (sl := [.inr none, .inr none, .inr none, .inr none, .inr none, .inr none, .inr none, .inl 1, .inl 1]) hC hw hS hz (by omega) q_0 q_1 q_2 inX11 tyX11 tyX11_ok rfl (by decide) (by show _ ≤ (600000 : Nat); omega) (by show _ ≤ (7302250 : Nat); omega) dL_law_0 (fun H hw1 hzf hS1 => ?_)
  clear hw hS
  clear hzf hz
  refine W.widen (k := 1) (n := 9) (by omega) (by omega) ?_
  have hwk := hw1.name
  clear hw1
  obtain ⟨L1, σ1, M1, N1, hw1, eL, eσ, eM, eN⟩ := hwk
  have hLn : ∀ q ∈ L, q ∈ L1 := fun q h => by rw [eL]; exact List.mem_append_left _ h
  have hsn : ∀ q, (q < x ∨ x + 1 ≤ q) → σ1 q = σ q := fun q h => by rw [eσ]; exact up_out q h
  have hmn : ∀ q, (q < x ∨ x + 1 ≤ q) → M1 q = M q := fun q h => by rw [eM]; exact up_out q h
  have hnn : ∀ q, (q < x ∨ x + 1 ≤ q) → N1 q = N q := fun q h => by rw [eN]; exact up_out q h
  replace hA : ∀ q ∈ L1, cA0 L (x) q := by rw [eL]; exact hA_snoc hA (Or.inr (by omega))
  replace hLe : L1 = L ++ List.range' (x) 1 := by rw [eL]; exact (congrArg (fun t => t ++ _) hLe).trans (snoc_r (by omega))
  replace hσo : ∀ q, (q < x ∨ x + 248 ≤ q) → σ1 q = σ q := fun q h => (hsn q (by omega)).trans (hσo q h)
  replace hMo : ∀ q, (q < x ∨ x + 248 ≤ q) → M1 q = M q := fun q h => (hmn q (by omega)).trans (hMo q h)
  replace hNo : ∀ q, (q < x ∨ x + 248 ≤ q) → N1 q = N q := fun q h => (hnn q (by omega)).trans (hNo q h)
  clear hLn hsn hmn hnn
  have ho_x : Ft L1 σ1 (x) (.inr (11, [.inr none, .inr none, .inr none, .inr none, .inr none, .inr none, .inr none, .inl 1, .inl 1])) := ⟨by rw [eL]; simp, by rw [eσ]; exact va_up_self _ _ _⟩
  have mn_x_7 : N1 x 7 = 0 := by rw [eN, va_up_self]
  have mn_x_8 : N1 x 8 = 0 := by rw [eN, va_up_self]
  clear eL eσ eM eN
  refine lv_dup hx hb dL_law_3 rfl ?_
  refine W_end (fun hze => ?_)
  have hz := n_hz hw1 ho_x.1 hze (by omega)
  clear hze
  refine n_callI (na := 0) (As := []) (rest := [.ref x]) hC hw1 hS1 hA (fun q h => Or.inr (by omega)) hB hz (kc_X11_init (x := x) (by omega) ho_x mn_x_7 mn_x_8) ⟨q_9, q_2, by decide, by decide, by decide⟩ q_7 q_8 rfl ⟨by decide, by decide, by show _ ≤ (600000 : Nat); omega, by show _ ≤ (7302250 : Nat); omega⟩ rfl hl.1 rfl (Nat.le_of_ble_eq_true rfl) dL_law_4 (fun u H locs hpost hwp hS2 => ?_)
  refine W.widen (k := 234) (n := 4477) (by omega) (by omega) ?_
  obtain ⟨L2, σ2, M2, N2⟩ := u
  obtain ⟨⟨eL, hsn, hmn, hnn⟩, p0, p1⟩ := hpost
  simp only at eL hsn hmn hnn hwp
  have hLn : ∀ q ∈ L1, q ∈ L2 := fun q h => by rw [eL]; exact List.mem_append_left _ h
  replace hA : ∀ q ∈ L2, cA0 L (x) q := by rw [eL]; exact hA_app hA (fun q h => Or.inr (by omega))
  replace hLe : L2 = L ++ List.range' (x) 234 := by rw [eL]; exact (congrArg (fun t => t ++ _) hLe).trans (app_r (by omega))
  have hw2 : Wc g x L2 σ2 M2 N2 H := ⟨hwp, by rw [eL]; exact nd_app hw1.2.1 (fun q h => by have := wP_lt hw1.1 h; omega), by rw [eL]; exact ge_app hw1.2.2 (by omega)⟩
  clear hwp hz hw1 hS1
  clear ho_x mn_x_7 mn_x_8
  replace hσo : ∀ q, (q < x ∨ x + 248 ≤ q) → σ2 q = σ q := fun q h => (hsn q (by omega)).trans (hσo q h)
  replace hMo : ∀ q, (q < x ∨ x + 248 ≤ q) → M2 q = M q := fun q h => (hmn q (by omega)).trans (hMo q h)
  replace hNo : ∀ q, (q < x ∨ x + 248 ≤ q) → N2 q = N q := fun q h => (hnn q (by omega)).trans (hNo q h)
  clear hLn hsn hmn hnn
  have hTp_x : oTop (gE g L2 σ2) (x) := p0
  have mtI_x : tInit M2 N2 (x) := p1
  clear eL p0 p1
  refine lv_astore_n (lv' := [(1, .ref x), (0, .ref b)]) hx hb dL_law_7 rfl hl (by decide) rfl (fun ls hl => ?_)
  refine W_end (fun hze => ?_)
  have hz := n_hz hw2 hTp_x.2.2.2.2.2.2.2.2.1 hze (by omega)
  clear hze
  refine n_new (ci := 12) (sl := [.inr none, .inr none, .inr none, .inr none, .inl 1, .inl 1, .inr none, .inr none, .inr none, .inl 0, .inl 0, .inl 0, .inl 0, .inl 0, .inr none, .inr none, .inr none, .inr none, .inl 0, .inl 0, .inl 0, .inl 0, .inl 0, .inr none, .inr none]) hC hw2 hS2 hz (by omega) q_3 q_4 q_5 inX12 tyX12 tyX12_ok rfl (by decide) (by show _ ≤ (600000 : Nat); omega) (by show _ ≤ (7302250 : Nat); omega) dL_law_8 (fun H hw3 hzf hS3 => ?_)
  clear hw2 hS2
  clear hzf hz
  refine W.widen (k := 235) (n := 4502) (by omega) (by omega) ?_
  have hwk := hw3.name
  clear hw3
  obtain ⟨L3, σ3, M3, N3, hw3, eL, eσ, eM, eN⟩ := hwk
  have hLn : ∀ q ∈ L2, q ∈ L3 := fun q h => by rw [eL]; exact List.mem_append_left _ h
  have hsn : ∀ q, (q < x + 234 ∨ x + 234 + 1 ≤ q) → σ3 q = σ2 q := fun q h => by rw [eσ]; exact up_out q h
  have hmn : ∀ q, (q < x + 234 ∨ x + 234 + 1 ≤ q) → M3 q = M2 q := fun q h => by rw [eM]; exact up_out q h
  have hnn : ∀ q, (q < x + 234 ∨ x + 234 + 1 ≤ q) → N3 q = N2 q := fun q h => by rw [eN]; exact up_out q h
  replace hA : ∀ q ∈ L3, cA0 L (x) q := by rw [eL]; exact hA_snoc hA (Or.inr (by omega))
  replace hLe : L3 = L ++ List.range' (x) 235 := by rw [eL]; exact (congrArg (fun t => t ++ _) hLe).trans (snoc_r (by omega))
  replace hTp_x : oTop (gE g L3 σ3) (x) := oTop_mono hTp_x hLn (fun q h1 h2 => hsn q (by omega))
  replace mtI_x : tInit M3 N3 (x) := tInit_mono mtI_x (fun q h1 h2 => hmn q (by omega)) (fun q h1 h2 => hnn q (by omega))
  replace hσo : ∀ q, (q < x ∨ x + 248 ≤ q) → σ3 q = σ q := fun q h => (hsn q (by omega)).trans (hσo q h)
  replace hMo : ∀ q, (q < x ∨ x + 248 ≤ q) → M3 q = M q := fun q h => (hmn q (by omega)).trans (hMo q h)
  replace hNo : ∀ q, (q < x ∨ x + 248 ≤ q) → N3 q = N q := fun q h => (hnn q (by omega)).trans (hNo q h)
  clear hLn hsn hmn hnn
  have ho_x_234 : Ft L3 σ3 (x + 234) (.inr (12, [.inr none, .inr none, .inr none, .inr none, .inl 1, .inl 1, .inr none, .inr none, .inr none, .inl 0, .inl 0, .inl 0, .inl 0, .inl 0, .inr none, .inr none, .inr none, .inr none, .inl 0, .inl 0, .inl 0, .inl 0, .inl 0, .inr none, .inr none])) := ⟨by rw [eL]; simp, by rw [eσ]; exact va_up_self _ _ _⟩
  have mm_x_234_9 : M3 (x + 234) 9 = 0 := by rw [eM, va_up_self]
  have mm_x_234_10 : M3 (x + 234) 10 = 0 := by rw [eM, va_up_self]
  have mm_x_234_11 : M3 (x + 234) 11 = 0 := by rw [eM, va_up_self]
  have mm_x_234_12 : M3 (x + 234) 12 = 0 := by rw [eM, va_up_self]
  have mm_x_234_13 : M3 (x + 234) 13 = 0 := by rw [eM, va_up_self]
  have mm_x_234_18 : M3 (x + 234) 18 = 0 := by rw [eM, va_up_self]
  have mm_x_234_19 : M3 (x + 234) 19 = 0 := by rw [eM, va_up_self]
  have mm_x_234_20 : M3 (x + 234) 20 = 0 := by rw [eM, va_up_self]
  have mm_x_234_21 : M3 (x + 234) 21 = 0 := by rw [eM, va_up_self]
  have mm_x_234_22 : M3 (x + 234) 22 = 0 := by rw [eM, va_up_self]
  have mn_x_234_4 : N3 (x + 234) 4 = 0 := by rw [eN, va_up_self]
  have mn_x_234_5 : N3 (x + 234) 5 = 0 := by rw [eN, va_up_self]
  clear eL eσ eM eN
  refine lv_dup hx hb dL_law_11 rfl ?_
  refine W_end (fun hze => ?_)
  have hz := n_hz hw3 ho_x_234.1 hze (by omega)
  clear hze
  refine n_callI (na := 0) (As := []) (rest := [.ref (x + 234)]) hC hw3 hS3 hA (fun q h => Or.inr (by omega)) hB hz (kc_X12_init (y := x + 234) (by omega) ho_x_234 mm_x_234_18 mn_x_234_4 mn_x_234_5) ⟨q_151, q_5, by decide, by decide, by decide⟩ q_149 q_150 rfl ⟨by decide, by decide, by show _ ≤ (600000 : Nat); omega, by show _ ≤ (7302250 : Nat); omega⟩ rfl hl.1 rfl (Nat.le_of_ble_eq_true rfl) dL_law_12 (fun u H locs hpost hwp hS4 => ?_)
  refine W.widen (k := 248) (n := 9684) (by omega) (by omega) ?_
  obtain ⟨L4, σ4, M4, N4⟩ := u
  obtain ⟨⟨eL, hsn, hmn, hnn⟩, p0, p1⟩ := hpost
  simp only at eL hsn hmn hnn hwp
  have hLn : ∀ q ∈ L3, q ∈ L4 := fun q h => by rw [eL]; exact List.mem_append_left _ h
  replace hA : ∀ q ∈ L4, cA0 L (x) q := by rw [eL]; exact hA_app hA (fun q h => Or.inr (by omega))
  replace hLe : L4 = L ++ List.range' (x) 248 := by rw [eL]; exact (congrArg (fun t => t ++ _) hLe).trans (app_r (by omega))
  have hw4 : Wc g x L4 σ4 M4 N4 H := ⟨hwp, by rw [eL]; exact nd_app hw3.2.1 (fun q h => by have := wP_lt hw3.1 h; omega), by rw [eL]; exact ge_app hw3.2.2 (by omega)⟩
  clear hwp hz hw3 hS3
  clear ho_x_234 mm_x_234_9 mm_x_234_10 mm_x_234_11 mm_x_234_12 mm_x_234_13 mm_x_234_18 mm_x_234_19 mm_x_234_20 mm_x_234_21 mm_x_234_22 mn_x_234_4 mn_x_234_5
  replace hTp_x : oTop (gE g L4 σ4) (x) := oTop_mono hTp_x hLn (fun q h1 h2 => hsn q (by omega))
  replace mtI_x : tInit M4 N4 (x) := tInit_mono mtI_x (fun q h1 h2 => hmn q (by omega)) (fun q h1 h2 => hnn q (by omega))
  replace hσo : ∀ q, (q < x ∨ x + 248 ≤ q) → σ4 q = σ q := fun q h => (hsn q (by omega)).trans (hσo q h)
  replace hMo : ∀ q, (q < x ∨ x + 248 ≤ q) → M4 q = M q := fun q h => (hmn q (by omega)).trans (hMo q h)
  replace hNo : ∀ q, (q < x ∨ x + 248 ≤ q) → N4 q = N q := fun q h => (hnn q (by omega)).trans (hNo q h)
  clear hLn hsn hmn hnn
  have hMd_x_234 : oModel (gE g L4 σ4) (x + 234) := p0
  have mmI_x_234 : mInit M4 N4 (x + 234) := p1
  clear eL p0 p1
  refine lv_astore_n (lv' := [(2, .ref (x + 234)), (1, .ref x), (0, .ref b)]) hx hb dL_law_15 rfl hl (by decide) rfl (fun ls hl => ?_)
  refine lv_iconst (v := (0 : Int32)) hx hb dL_law_16 (by decide) ?_
  refine lv_istore_n (lv' := [(3, .int (0 : Int32)), (2, .ref (x + 234)), (1, .ref x), (0, .ref b)]) hx hb dL_law_17 rfl hl (by decide) rfl (fun ls hl => ?_)
  refine W.widen (k := 600000) (n := 7302250) (by omega) (by omega) ?_
  refine va_forget (fun q hq => ?_) ?_
  · have h9 := hS4.2.2 q hq
    rw [hL0] at h9
    rcases h9 with h9 | h9
    · cases h9
    · omega
  have hS9 : va_S (wA (gE g L4 σ4)) s.heap H [] := ⟨hS4.1, fun q h1 h2 => hS4.2.1 q h1 (fun z => by
    rw [hL0] at z
    rcases z with z | z
    · cases z
    · omega), fun l h => by cases h⟩
  have hge : ∀ q, wA (gE g L4 σ4) q → s.heap.size ≤ q := fun q h => by rw [hsz]; exact hw4.2.2 q h
  exact law_loop (Inv := Inv x (x + 234)) hn0 hw4.2.1 hTp_x hMd_x_234 ⟨hx, hb, hml, hown, hC.2.2.2.2.1, hFz.to hw4.2.2, hw4.2.1⟩ hr hlocks hX hbl (fun h => by have := hge b h; omega) hge (hSt x) 65 0 0 M4 N4 H [] ls rfl (by omega) (by omega) (hInit x _ _ mtI_x mmI_x_234) hw4.1 hS9 (lv_sub hl [3, 2, 1, 0] rfl)
