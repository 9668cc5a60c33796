set_option maxRecDepth 100000 in
set_option maxHeartbeats 4000000 in
theorem kc_X11_init {g : Ev} {l : Launch} {z0 : Nat} {x : Nat} {L : List Nat} {σ : Shp} {M : Mm} {N : Ml} (hz0 : z0 ≤ x) (ho_x : Ft L σ (x) (.inr (11, [.inr none, .inr none, .inr none, .inr none, .inr none, .inr none, .inr none, .inl 1, .inl 1]))) (mn_x_7 : N x 7 = 0) (mn_x_8 : N x 8 = 0) : KC g l yX11_init cX11_init 3 6 233 4468 z0 (x + 1) [.ref x] L σ M N (fun u => pOut L σ M N x (x + 234) (x + 1) 233 u ∧ oTop (gE g u.1 u.2.1) x ∧ tInit u.2.2.1 u.2.2.2 x) := by
  refine KC.mk (by decide) (Nat.le_of_ble_eq_true rfl) ?_
  intro p e s m below meth c ls hC hmn hr hlk hl hsz hw hS
  have hx := hC.1
  have hb := hC.2.1
  have hl : lv_has ls 3 [(0, .ref x)] := hl
  have hA : ∀ q ∈ L, cA0 L (x + 1) q := fun q h => Or.inl h
  have hB : ∀ q, q < s.heap.size → cA0 L (x + 1) q → z0 ≤ q := fun q h1 h2 => h2.elim (hw.2.2 q) (fun h => by omega)
  have hLe : L = L ++ List.range' (x + 1) 0 := (List.append_nil L).symm
  have hσo : ∀ q, (q < x ∨ x + 234 ≤ q) → σ q = σ q := fun _ _ => rfl
  have hMo : ∀ q, (q < x ∨ x + 234 ≤ q) → M q = M q := fun _ _ => rfl
  have hNo : ∀ q, (q < x ∨ x + 234 ≤ q) → N q = N q := fun _ _ => rfl
  refine lv_aload_n hx hb dX11_init_0 rfl (lv_at hl 0 rfl) ?_
  refine n_objI hC hl.1 q_10 q_11 q_12 ⟨by decide, by decide⟩ (Nat.le_of_ble_eq_true rfl) dX11_init_1 ?_
  refine lv_iconst (v := (5 : Int32)) hx hb dX11_init_4 (by decide) ?_
  refine W_end (fun hze => ?_)
  have hz := n_hz hw ho_x.1 hze (by omega)
  clear hze
  refine n_anew (t0 := 2) hC hw hS hz (by omega) (k := 5) rfl hC.2.2.2.2.2.2.2.2.1.1 q_13 (by decide) (by decide) (by decide) (by show _ ≤ (233 : Nat); omega) (by show _ ≤ (4468 : Nat); omega) dX11_init_5 (fun H hw1 hzf hS1 => ?_)
  clear hw hS
  clear hzf hz
  refine W.widen (k := 1) (n := 5) (by omega) (by omega) ?_
  have hwk := hw1.name
  clear hw1
  obtain ⟨L1, σ1, M1, N1, hw1, eL, eσ, eM, eN⟩ := hwk
  have hLn : ∀ q ∈ L, q ∈ L1 := fun q h => by rw [eL]; exact List.mem_append_left _ h
  have hsn : ∀ q, (q < x + 1 ∨ x + 1 + 1 ≤ q) → σ1 q = σ q := fun q h => by rw [eσ]; exact up_out q h
  have hmn : ∀ q, (q < x + 1 ∨ x + 1 + 1 ≤ q) → M1 q = M q := fun q h => by rw [eM]
  have hnn : ∀ q, (q < x + 1 ∨ x + 1 + 1 ≤ q) → N1 q = N q := fun q h => by rw [eN]
  replace hA : ∀ q ∈ L1, cA0 L (x + 1) q := by rw [eL]; exact hA_snoc hA (Or.inr (by omega))
  replace hLe : L1 = L ++ List.range' (x + 1) 1 := by rw [eL]; exact (congrArg (fun t => t ++ _) hLe).trans (snoc_r (by omega))
  replace ho_x : Ft L1 σ1 (x) (.inr (11, [.inr none, .inr none, .inr none, .inr none, .inr none, .inr none, .inr none, .inl 1, .inl 1])) := Ft.mono ho_x hLn (hsn _ (by omega))
  replace mn_x_7 : N1 x 7 = 0 := by rw [hnn _ (by omega)]; exact mn_x_7
  replace mn_x_8 : N1 x 8 = 0 := by rw [hnn _ (by omega)]; exact mn_x_8
  replace hσo : ∀ q, (q < x ∨ x + 234 ≤ q) → σ1 q = σ q := fun q h => (hsn q (by omega)).trans (hσo q h)
  replace hMo : ∀ q, (q < x ∨ x + 234 ≤ q) → M1 q = M q := fun q h => (hmn q (by omega)).trans (hMo q h)
  replace hNo : ∀ q, (q < x ∨ x + 234 ≤ q) → N1 q = N q := fun q h => (hnn q (by omega)).trans (hNo q h)
  clear hLn hsn hmn hnn
  have hr_x_1 : Ft L1 σ1 (x + 1) (.inl (eP g, 5, some (fun _ => none))) := ⟨by rw [eL]; simp, by rw [eσ]; exact va_up_self _ _ _⟩
  clear eL eσ eM eN
  refine lv_dup hx hb dX11_init_8 rfl ?_
  refine lv_iconst (v := (0 : Int32)) hx hb dX11_init_9 (by decide) ?_
  refine W_end (fun hze => ?_)
  have hz := n_hz hw1 hr_x_1.1 hze (by omega)
  clear hze
  refine n_new (ci := 3) (sl := []) hC hw1 hS1 hz (by omega) q_13 q_14 q_15 inX3 tyX3 tyX3_ok rfl (by decide) (by show _ ≤ (233 : Nat); omega) (by show _ ≤ (4468 : Nat); omega) dX11_init_10 (fun H hw2 hzf hS2 => ?_)
  clear hw1 hS1
  clear hzf hz
  refine W.widen (k := 2) (n := 5) (by omega) (by omega) ?_
  have hwk := hw2.name
  clear hw2
  obtain ⟨L2, σ2, M2, N2, hw2, eL, eσ, eM, eN⟩ := hwk
  have hLn : ∀ q ∈ L1, q ∈ L2 := fun q h => by rw [eL]; exact List.mem_append_left _ h
  have hsn : ∀ q, (q < x + 2 ∨ x + 2 + 1 ≤ q) → σ2 q = σ1 q := fun q h => by rw [eσ]; exact up_out q h
  have hmn : ∀ q, (q < x + 2 ∨ x + 2 + 1 ≤ q) → M2 q = M1 q := fun q h => by rw [eM]; exact up_out q h
  have hnn : ∀ q, (q < x + 2 ∨ x + 2 + 1 ≤ q) → N2 q = N1 q := fun q h => by rw [eN]; exact up_out q h
  replace hA : ∀ q ∈ L2, cA0 L (x + 1) q := by rw [eL]; exact hA_snoc hA (Or.inr (by omega))
  replace hLe : L2 = L ++ List.range' (x + 1) 2 := by rw [eL]; exact (congrArg (fun t => t ++ _) hLe).trans (snoc_r (by omega))
  replace ho_x : Ft L2 σ2 (x) (.inr (11, [.inr none, .inr none, .inr none, .inr none, .inr none, .inr none, .inr none, .inl 1, .inl 1])) := Ft.mono ho_x hLn (hsn _ (by omega))
  replace hr_x_1 : Ft L2 σ2 (x + 1) (.inl (eP g, 5, some (fun _ => none))) := Ft.mono hr_x_1 hLn (hsn _ (by omega))
  replace mn_x_7 : N2 x 7 = 0 := by rw [hnn _ (by omega)]; exact mn_x_7
  replace mn_x_8 : N2 x 8 = 0 := by rw [hnn _ (by omega)]; exact mn_x_8
  replace hσo : ∀ q, (q < x ∨ x + 234 ≤ q) → σ2 q = σ q := fun q h => (hsn q (by omega)).trans (hσo q h)
  replace hMo : ∀ q, (q < x ∨ x + 234 ≤ q) → M2 q = M q := fun q h => (hmn q (by omega)).trans (hMo q h)
  replace hNo : ∀ q, (q < x ∨ x + 234 ≤ q) → N2 q = N q := fun q h => (hnn q (by omega)).trans (hNo q h)
  clear hLn hsn hmn hnn
  have ho_x_2 : Ft L2 σ2 (x + 2) (.inr (3, [])) := ⟨by rw [eL]; simp, by rw [eσ]; exact va_up_self _ _ _⟩
  clear eL eσ eM eN
  refine lv_dup hx hb dX11_init_13 rfl ?_
  refine n_goV hS2 hA hw2 (n_runI (As := []) (rest := [.ref (x + 2), .int (0 : Int32), .ref (x + 1), .ref (x + 1)]) hC hw2 hS2 hB (k_X3_init hw2.2.1) ⟨q_57, q_15, by decide, by decide, by decide⟩ q_55 q_56 rfl ⟨by decide, by decide, by show _ ≤ (233 : Nat); omega, by show _ ≤ (4468 : Nat); omega⟩ rfl hl.1 rfl (Nat.le_of_ble_eq_true rfl) dX11_init_14) (fun H locs hw3 hS3 => ?_)
  clear hw2 hS2
  refine n_aast (t0 := 2) hC hw3 hS3 hA hr_x_1.1 hr_x_1.2 rfl ho_x_2.1 ho_x_2.2 rfl (Or.inl rfl) (vin_c 0 rfl) dX11_init_17 (fun H locs hw4 hS4 => ?_)
  clear hw3 hS3
  have hwk := hw4.name
  clear hw4
  obtain ⟨L3, σ3, M3, N3, hw4, eL, eσ, eM, eN⟩ := hwk
  have hLn : ∀ q ∈ L2, q ∈ L3 := fun q h => by rw [eL]; exact h
  have hsn : ∀ q, (q < x + 1 ∨ x + 1 + 1 ≤ q) → σ3 q = σ2 q := fun q h => by rw [eσ]; exact up_out q h
  have hmn : ∀ q, (q < 0 ∨ 0 ≤ q) → M3 q = M2 q := fun q h => by rw [eM]
  have hnn : ∀ q, (q < 0 ∨ 0 ≤ q) → N3 q = N2 q := fun q h => by rw [eN]
  replace hA : ∀ q ∈ L3, cA0 L (x + 1) q := by rw [eL]; exact hA
  replace hLe : L3 = L ++ List.range' (x + 1) 2 := eL.trans hLe
  have mem_o := hr_x_1.1
  clear hr_x_1
  replace ho_x : Ft L3 σ3 (x) (.inr (11, [.inr none, .inr none, .inr none, .inr none, .inr none, .inr none, .inr none, .inl 1, .inl 1])) := Ft.mono ho_x hLn (hsn _ (by omega))
  replace ho_x_2 : Ft L3 σ3 (x + 2) (.inr (3, [])) := Ft.mono ho_x_2 hLn (hsn _ (by omega))
  replace mn_x_7 : N3 x 7 = 0 := by rw [hnn _ (by omega)]; exact mn_x_7
  replace mn_x_8 : N3 x 8 = 0 := by rw [hnn _ (by omega)]; exact mn_x_8
  replace hσo : ∀ q, (q < x ∨ x + 234 ≤ q) → σ3 q = σ q := fun q h => (hsn q (by omega)).trans (hσo q h)
  replace hMo : ∀ q, (q < x ∨ x + 234 ≤ q) → M3 q = M q := fun q h => (hmn q (by omega)).trans (hMo q h)
  replace hNo : ∀ q, (q < x ∨ x + 234 ≤ q) → N3 q = N q := fun q h => (hnn q (by omega)).trans (hNo q h)
  clear hLn hsn hmn hnn
  have hr_x_1 : Ft L3 σ3 (x + 1) (.inl (eP g, 5, some (va_up (fun _ => none) (0 : Int32).toNatClampNeg (some (x + 2))))) := ⟨by rw [eL]; exact mem_o, by rw [eσ]; exact va_up_self _ _ _⟩
  clear mem_o eL eσ eM eN
  refine lv_dup hx hb dX11_init_18 rfl ?_
  refine lv_iconst (v := (1 : Int32)) hx hb dX11_init_19 (by decide) ?_
  refine W_end (fun hze => ?_)
  have hz := n_hz hw4 ho_x_2.1 hze (by omega)
  clear hze
  refine n_new (ci := 10) (sl := []) hC hw4 hS4 hz (by omega) q_16 q_17 q_18 inX10 tyX10 tyX10_ok rfl (by decide) (by show _ ≤ (233 : Nat); omega) (by show _ ≤ (4468 : Nat); omega) dX11_init_20 (fun H hw5 hzf hS5 => ?_)
  clear hw4 hS4
  clear hzf hz
  refine W.widen (k := 3) (n := 5) (by omega) (by omega) ?_
  have hwk := hw5.name
  clear hw5
  obtain ⟨L4, σ4, M4, N4, hw5, eL, eσ, eM, eN⟩ := hwk
  have hLn : ∀ q ∈ L3, q ∈ L4 := fun q h => by rw [eL]; exact List.mem_append_left _ h
  have hsn : ∀ q, (q < x + 3 ∨ x + 3 + 1 ≤ q) → σ4 q = σ3 q := fun q h => by rw [eσ]; exact up_out q h
  have hmn : ∀ q, (q < x + 3 ∨ x + 3 + 1 ≤ q) → M4 q = M3 q := fun q h => by rw [eM]; exact up_out q h
  have hnn : ∀ q, (q < x + 3 ∨ x + 3 + 1 ≤ q) → N4 q = N3 q := fun q h => by rw [eN]; exact up_out q h
  replace hA : ∀ q ∈ L4, cA0 L (x + 1) q := by rw [eL]; exact hA_snoc hA (Or.inr (by omega))
  replace hLe : L4 = L ++ List.range' (x + 1) 3 := by rw [eL]; exact (congrArg (fun t => t ++ _) hLe).trans (snoc_r (by omega))
  replace ho_x : Ft L4 σ4 (x) (.inr (11, [.inr none, .inr none, .inr none, .inr none, .inr none, .inr none, .inr none, .inl 1, .inl 1])) := Ft.mono ho_x hLn (hsn _ (by omega))
  replace ho_x_2 : Ft L4 σ4 (x + 2) (.inr (3, [])) := Ft.mono ho_x_2 hLn (hsn _ (by omega))
  replace hr_x_1 : Ft L4 σ4 (x + 1) (.inl (eP g, 5, some (va_up (fun _ => none) (0 : Int32).toNatClampNeg (some (x + 2))))) := Ft.mono hr_x_1 hLn (hsn _ (by omega))
  replace mn_x_7 : N4 x 7 = 0 := by rw [hnn _ (by omega)]; exact mn_x_7
  replace mn_x_8 : N4 x 8 = 0 := by rw [hnn _ (by omega)]; exact mn_x_8
  replace hσo : ∀ q, (q < x ∨ x + 234 ≤ q) → σ4 q = σ q := fun q h => (hsn q (by omega)).trans (hσo q h)
  replace hMo : ∀ q, (q < x ∨ x + 234 ≤ q) → M4 q = M q := fun q h => (hmn q (by omega)).trans (hMo q h)
  replace hNo : ∀ q, (q < x ∨ x + 234 ≤ q) → N4 q = N q := fun q h => (hnn q (by omega)).trans (hNo q h)
  clear hLn hsn hmn hnn
  have ho_x_3 : Ft L4 σ4 (x + 3) (.inr (10, [])) := ⟨by rw [eL]; simp, by rw [eσ]; exact va_up_self _ _ _⟩
  clear eL eσ eM eN
  refine lv_dup hx hb dX11_init_23 rfl ?_
  refine n_goV hS5 hA hw5 (n_runI (As := []) (rest := [.ref (x + 3), .int (1 : Int32), .ref (x + 1), .ref (x + 1)]) hC hw5 hS5 hB (k_X10_init hw5.2.1) ⟨q_61, q_18, by decide, by decide, by decide⟩ q_59 q_60 rfl ⟨by decide, by decide, by show _ ≤ (233 : Nat); omega, by show _ ≤ (4468 : Nat); omega⟩ rfl hl.1 rfl (Nat.le_of_ble_eq_true rfl) dX11_init_24) (fun H locs hw6 hS6 => ?_)
  clear hw5 hS5
  refine n_aast (t0 := 2) hC hw6 hS6 hA hr_x_1.1 hr_x_1.2 rfl ho_x_3.1 ho_x_3.2 rfl (Or.inr hC.2.2.2.2.2.2.2.2.2.1) (vin_c 1 rfl) dX11_init_27 (fun H locs hw7 hS7 => ?_)
  clear hw6 hS6
  have hwk := hw7.name
  clear hw7
  obtain ⟨L5, σ5, M5, N5, hw7, eL, eσ, eM, eN⟩ := hwk
  have hLn : ∀ q ∈ L4, q ∈ L5 := fun q h => by rw [eL]; exact h
  have hsn : ∀ q, (q < x + 1 ∨ x + 1 + 1 ≤ q) → σ5 q = σ4 q := fun q h => by rw [eσ]; exact up_out q h
  have hmn : ∀ q, (q < 0 ∨ 0 ≤ q) → M5 q = M4 q := fun q h => by rw [eM]
  have hnn : ∀ q, (q < 0 ∨ 0 ≤ q) → N5 q = N4 q := fun q h => by rw [eN]
  replace hA : ∀ q ∈ L5, cA0 L (x + 1) q := by rw [eL]; exact hA
  replace hLe : L5 = L ++ List.range' (x + 1) 3 := eL.trans hLe
  have mem_o := hr_x_1.1
  clear hr_x_1
  replace ho_x : Ft L5 σ5 (x) (.inr (11, [.inr none, .inr none, .inr none, .inr none, .inr none, .inr none, .inr none, .inl 1, .inl 1])) := Ft.mono ho_x hLn (hsn _ (by omega))
  replace ho_x_2 : Ft L5 σ5 (x + 2) (.inr (3, [])) := Ft.mono ho_x_2 hLn (hsn _ (by omega))
  replace ho_x_3 : Ft L5 σ5 (x + 3) (.inr (10, [])) := Ft.mono ho_x_3 hLn (hsn _ (by omega))
  replace mn_x_7 : N5 x 7 = 0 := by rw [hnn _ (by omega)]; exact mn_x_7
  replace mn_x_8 : N5 x 8 = 0 := by rw [hnn _ (by omega)]; exact mn_x_8
  replace hσo : ∀ q, (q < x ∨ x + 234 ≤ q) → σ5 q = σ q := fun q h => (hsn q (by omega)).trans (hσo q h)
  replace hMo : ∀ q, (q < x ∨ x + 234 ≤ q) → M5 q = M q := fun q h => (hmn q (by omega)).trans (hMo q h)
  replace hNo : ∀ q, (q < x ∨ x + 234 ≤ q) → N5 q = N q := fun q h => (hnn q (by omega)).trans (hNo q h)
  clear hLn hsn hmn hnn
  have hr_x_1 : Ft L5 σ5 (x + 1) (.inl (eP g, 5, some (va_up (va_up (fun _ => none) (0 : Int32).toNatClampNeg (some (x + 2))) (1 : Int32).toNatClampNeg (some (x + 3))))) := ⟨by rw [eL]; exact mem_o, by rw [eσ]; exact va_up_self _ _ _⟩
  clear mem_o eL eσ eM eN
  refine lv_dup hx hb dX11_init_28 rfl ?_
  refine lv_iconst (v := (2 : Int32)) hx hb dX11_init_29 (by decide) ?_
  refine W_end (fun hze => ?_)
  have hz := n_hz hw7 ho_x_3.1 hze (by omega)
  clear hze
  refine n_new (ci := 1) (sl := []) hC hw7 hS7 hz (by omega) q_19 q_20 q_21 inX1 tyX1 tyX1_ok rfl (by decide) (by show _ ≤ (233 : Nat); omega) (by show _ ≤ (4468 : Nat); omega) dX11_init_30 (fun H hw8 hzf hS8 => ?_)
  clear hw7 hS7
  clear hzf hz
  refine W.widen (k := 4) (n := 5) (by omega) (by omega) ?_
  have hwk := hw8.name
  clear hw8
  obtain ⟨L6, σ6, M6, N6, hw8, eL, eσ, eM, eN⟩ := hwk
  have hLn : ∀ q ∈ L5, q ∈ L6 := fun q h => by rw [eL]; exact List.mem_append_left _ h
  have hsn : ∀ q, (q < x + 4 ∨ x + 4 + 1 ≤ q) → σ6 q = σ5 q := fun q h => by rw [eσ]; exact up_out q h
  have hmn : ∀ q, (q < x + 4 ∨ x + 4 + 1 ≤ q) → M6 q = M5 q := fun q h => by rw [eM]; exact up_out q h
  have hnn : ∀ q, (q < x + 4 ∨ x + 4 + 1 ≤ q) → N6 q = N5 q := fun q h => by rw [eN]; exact up_out q h
  replace hA : ∀ q ∈ L6, cA0 L (x + 1) q := by rw [eL]; exact hA_snoc hA (Or.inr (by omega))
  replace hLe : L6 = L ++ List.range' (x + 1) 4 := by rw [eL]; exact (congrArg (fun t => t ++ _) hLe).trans (snoc_r (by omega))
  replace ho_x : Ft L6 σ6 (x) (.inr (11, [.inr none, .inr none, .inr none, .inr none, .inr none, .inr none, .inr none, .inl 1, .inl 1])) := Ft.mono ho_x hLn (hsn _ (by omega))
  replace ho_x_2 : Ft L6 σ6 (x + 2) (.inr (3, [])) := Ft.mono ho_x_2 hLn (hsn _ (by omega))
  replace ho_x_3 : Ft L6 σ6 (x + 3) (.inr (10, [])) := Ft.mono ho_x_3 hLn (hsn _ (by omega))
  replace hr_x_1 : Ft L6 σ6 (x + 1) (.inl (eP g, 5, some (va_up (va_up (fun _ => none) (0 : Int32).toNatClampNeg (some (x + 2))) (1 : Int32).toNatClampNeg (some (x + 3))))) := Ft.mono hr_x_1 hLn (hsn _ (by omega))
  replace mn_x_7 : N6 x 7 = 0 := by rw [hnn _ (by omega)]; exact mn_x_7
  replace mn_x_8 : N6 x 8 = 0 := by rw [hnn _ (by omega)]; exact mn_x_8
  replace hσo : ∀ q, (q < x ∨ x + 234 ≤ q) → σ6 q = σ q := fun q h => (hsn q (by omega)).trans (hσo q h)
  replace hMo : ∀ q, (q < x ∨ x + 234 ≤ q) → M6 q = M q := fun q h => (hmn q (by omega)).trans (hMo q h)
  replace hNo : ∀ q, (q < x ∨ x + 234 ≤ q) → N6 q = N q := fun q h => (hnn q (by omega)).trans (hNo q h)
  clear hLn hsn hmn hnn
  have ho_x_4 : Ft L6 σ6 (x + 4) (.inr (1, [])) := ⟨by rw [eL]; simp, by rw [eσ]; exact va_up_self _ _ _⟩
  clear eL eσ eM eN
  refine lv_dup hx hb dX11_init_33 rfl ?_
  refine n_goV hS8 hA hw8 (n_runI (As := []) (rest := [.ref (x + 4), .int (2 : Int32), .ref (x + 1), .ref (x + 1)]) hC hw8 hS8 hB (k_X1_init hw8.2.1) ⟨q_65, q_21, by decide, by decide, by decide⟩ q_63 q_64 rfl ⟨by decide, by decide, by show _ ≤ (233 : Nat); omega, by show _ ≤ (4468 : Nat); omega⟩ rfl hl.1 rfl (Nat.le_of_ble_eq_true rfl) dX11_init_34) (fun H locs hw9 hS9 => ?_)
  clear hw8 hS8
  refine n_aast (t0 := 2) hC hw9 hS9 hA hr_x_1.1 hr_x_1.2 rfl ho_x_4.1 ho_x_4.2 rfl (Or.inr hC.2.2.2.2.2.2.2.2.2.2.1) (vin_c 2 rfl) dX11_init_37 (fun H locs hw10 hS10 => ?_)
  clear hw9 hS9
  have hwk := hw10.name
  clear hw10
  obtain ⟨L7, σ7, M7, N7, hw10, eL, eσ, eM, eN⟩ := hwk
  have hLn : ∀ q ∈ L6, q ∈ L7 := fun q h => by rw [eL]; exact h
  have hsn : ∀ q, (q < x + 1 ∨ x + 1 + 1 ≤ q) → σ7 q = σ6 q := fun q h => by rw [eσ]; exact up_out q h
  have hmn : ∀ q, (q < 0 ∨ 0 ≤ q) → M7 q = M6 q := fun q h => by rw [eM]
  have hnn : ∀ q, (q < 0 ∨ 0 ≤ q) → N7 q = N6 q := fun q h => by rw [eN]
  replace hA : ∀ q ∈ L7, cA0 L (x + 1) q := by rw [eL]; exact hA
  replace hLe : L7 = L ++ List.range' (x + 1) 4 := eL.trans hLe
  have mem_o := hr_x_1.1
  clear hr_x_1
  replace ho_x : Ft L7 σ7 (x) (.inr (11, [.inr none, .inr none, .inr none, .inr none, .inr none, .inr none, .inr none, .inl 1, .inl 1])) := Ft.mono ho_x hLn (hsn _ (by omega))
  replace ho_x_2 : Ft L7 σ7 (x + 2) (.inr (3, [])) := Ft.mono ho_x_2 hLn (hsn _ (by omega))
  replace ho_x_3 : Ft L7 σ7 (x + 3) (.inr (10, [])) := Ft.mono ho_x_3 hLn (hsn _ (by omega))
  replace ho_x_4 : Ft L7 σ7 (x + 4) (.inr (1, [])) := Ft.mono ho_x_4 hLn (hsn _ (by omega))
  replace mn_x_7 : N7 x 7 = 0 := by rw [hnn _ (by omega)]; exact mn_x_7
  replace mn_x_8 : N7 x 8 = 0 := by rw [hnn _ (by omega)]; exact mn_x_8
  replace hσo : ∀ q, (q < x ∨ x + 234 ≤ q) → σ7 q = σ q := fun q h => (hsn q (by omega)).trans (hσo q h)
  replace hMo : ∀ q, (q < x ∨ x + 234 ≤ q) → M7 q = M q := fun q h => (hmn q (by omega)).trans (hMo q h)
  replace hNo : ∀ q, (q < x ∨ x + 234 ≤ q) → N7 q = N q := fun q h => (hnn q (by omega)).trans (hNo q h)
  clear hLn hsn hmn hnn
  have hr_x_1 : Ft L7 σ7 (x + 1) (.inl (eP g, 5, some (va_up (va_up (va_up (fun _ => none) (0 : Int32).toNatClampNeg (some (x + 2))) (1 : Int32).toNatClampNeg (some (x + 3))) (2 : Int32).toNatClampNeg (some (x + 4))))) := ⟨by rw [eL]; exact mem_o, by rw [eσ]; exact va_up_self _ _ _⟩
  clear mem_o eL eσ eM eN
  refine lv_dup hx hb dX11_init_38 rfl ?_
  refine lv_iconst (v := (3 : Int32)) hx hb dX11_init_39 (by decide) ?_
  refine W_end (fun hze => ?_)
  have hz := n_hz hw10 ho_x_4.1 hze (by omega)
  clear hze
  refine n_new (ci := 8) (sl := []) hC hw10 hS10 hz (by omega) q_22 q_23 q_24 inX8 tyX8 tyX8_ok rfl (by decide) (by show _ ≤ (233 : Nat); omega) (by show _ ≤ (4468 : Nat); omega) dX11_init_40 (fun H hw11 hzf hS11 => ?_)
  clear hw10 hS10
  clear hzf hz
  refine W.widen (k := 5) (n := 5) (by omega) (by omega) ?_
  have hwk := hw11.name
  clear hw11
  obtain ⟨L8, σ8, M8, N8, hw11, eL, eσ, eM, eN⟩ := hwk
  have hLn : ∀ q ∈ L7, q ∈ L8 := fun q h => by rw [eL]; exact List.mem_append_left _ h
  have hsn : ∀ q, (q < x + 5 ∨ x + 5 + 1 ≤ q) → σ8 q = σ7 q := fun q h => by rw [eσ]; exact up_out q h
  have hmn : ∀ q, (q < x + 5 ∨ x + 5 + 1 ≤ q) → M8 q = M7 q := fun q h => by rw [eM]; exact up_out q h
  have hnn : ∀ q, (q < x + 5 ∨ x + 5 + 1 ≤ q) → N8 q = N7 q := fun q h => by rw [eN]; exact up_out q h
  replace hA : ∀ q ∈ L8, cA0 L (x + 1) q := by rw [eL]; exact hA_snoc hA (Or.inr (by omega))
  replace hLe : L8 = L ++ List.range' (x + 1) 5 := by rw [eL]; exact (congrArg (fun t => t ++ _) hLe).trans (snoc_r (by omega))
  replace ho_x : Ft L8 σ8 (x) (.inr (11, [.inr none, .inr none, .inr none, .inr none, .inr none, .inr none, .inr none, .inl 1, .inl 1])) := Ft.mono ho_x hLn (hsn _ (by omega))
  replace ho_x_2 : Ft L8 σ8 (x + 2) (.inr (3, [])) := Ft.mono ho_x_2 hLn (hsn _ (by omega))
  replace ho_x_3 : Ft L8 σ8 (x + 3) (.inr (10, [])) := Ft.mono ho_x_3 hLn (hsn _ (by omega))
  replace ho_x_4 : Ft L8 σ8 (x + 4) (.inr (1, [])) := Ft.mono ho_x_4 hLn (hsn _ (by omega))
  replace hr_x_1 : Ft L8 σ8 (x + 1) (.inl (eP g, 5, some (va_up (va_up (va_up (fun _ => none) (0 : Int32).toNatClampNeg (some (x + 2))) (1 : Int32).toNatClampNeg (some (x + 3))) (2 : Int32).toNatClampNeg (some (x + 4))))) := Ft.mono hr_x_1 hLn (hsn _ (by omega))
  replace mn_x_7 : N8 x 7 = 0 := by rw [hnn _ (by omega)]; exact mn_x_7
  replace mn_x_8 : N8 x 8 = 0 := by rw [hnn _ (by omega)]; exact mn_x_8
  replace hσo : ∀ q, (q < x ∨ x + 234 ≤ q) → σ8 q = σ q := fun q h => (hsn q (by omega)).trans (hσo q h)
  replace hMo : ∀ q, (q < x ∨ x + 234 ≤ q) → M8 q = M q := fun q h => (hmn q (by omega)).trans (hMo q h)
  replace hNo : ∀ q, (q < x ∨ x + 234 ≤ q) → N8 q = N q := fun q h => (hnn q (by omega)).trans (hNo q h)
  clear hLn hsn hmn hnn
  have ho_x_5 : Ft L8 σ8 (x + 5) (.inr (8, [])) := ⟨by rw [eL]; simp, by rw [eσ]; exact va_up_self _ _ _⟩
  clear eL eσ eM eN
  refine lv_dup hx hb dX11_init_43 rfl ?_
  refine n_goV hS11 hA hw11 (n_runI (As := []) (rest := [.ref (x + 5), .int (3 : Int32), .ref (x + 1), .ref (x + 1)]) hC hw11 hS11 hB (k_X8_init hw11.2.1) ⟨q_69, q_24, by decide, by decide, by decide⟩ q_67 q_68 rfl ⟨by decide, by decide, by show _ ≤ (233 : Nat); omega, by show _ ≤ (4468 : Nat); omega⟩ rfl hl.1 rfl (Nat.le_of_ble_eq_true rfl) dX11_init_44) (fun H locs hw12 hS12 => ?_)
  clear hw11 hS11
  refine n_aast (t0 := 2) hC hw12 hS12 hA hr_x_1.1 hr_x_1.2 rfl ho_x_5.1 ho_x_5.2 rfl (Or.inr hC.2.2.2.2.2.2.2.2.2.2.2.1) (vin_c 3 rfl) dX11_init_47 (fun H locs hw13 hS13 => ?_)
  clear hw12 hS12
  have hwk := hw13.name
  clear hw13
  obtain ⟨L9, σ9, M9, N9, hw13, eL, eσ, eM, eN⟩ := hwk
  have hLn : ∀ q ∈ L8, q ∈ L9 := fun q h => by rw [eL]; exact h
  have hsn : ∀ q, (q < x + 1 ∨ x + 1 + 1 ≤ q) → σ9 q = σ8 q := fun q h => by rw [eσ]; exact up_out q h
  have hmn : ∀ q, (q < 0 ∨ 0 ≤ q) → M9 q = M8 q := fun q h => by rw [eM]
  have hnn : ∀ q, (q < 0 ∨ 0 ≤ q) → N9 q = N8 q := fun q h => by rw [eN]
  replace hA : ∀ q ∈ L9, cA0 L (x + 1) q := by rw [eL]; exact hA
  replace hLe : L9 = L ++ List.range' (x + 1) 5 := eL.trans hLe
  have mem_o := hr_x_1.1
  clear hr_x_1
  replace ho_x : Ft L9 σ9 (x) (.inr (11, [.inr none, .inr none, .inr none, .inr none, .inr none, .inr none, .inr none, .inl 1, .inl 1])) := Ft.mono ho_x hLn (hsn _ (by omega))
  replace ho_x_2 : Ft L9 σ9 (x + 2) (.inr (3, [])) := Ft.mono ho_x_2 hLn (hsn _ (by omega))
  replace ho_x_3 : Ft L9 σ9 (x + 3) (.inr (10, [])) := Ft.mono ho_x_3 hLn (hsn _ (by omega))
  replace ho_x_4 : Ft L9 σ9 (x + 4) (.inr (1, [])) := Ft.mono ho_x_4 hLn (hsn _ (by omega))
  replace ho_x_5 : Ft L9 σ9 (x + 5) (.inr (8, [])) := Ft.mono ho_x_5 hLn (hsn _ (by omega))
  replace mn_x_7 : N9 x 7 = 0 := by rw [hnn _ (by omega)]; exact mn_x_7
  replace mn_x_8 : N9 x 8 = 0 := by rw [hnn _ (by omega)]; exact mn_x_8
  replace hσo : ∀ q, (q < x ∨ x + 234 ≤ q) → σ9 q = σ q := fun q h => (hsn q (by omega)).trans (hσo q h)
  replace hMo : ∀ q, (q < x ∨ x + 234 ≤ q) → M9 q = M q := fun q h => (hmn q (by omega)).trans (hMo q h)
  replace hNo : ∀ q, (q < x ∨ x + 234 ≤ q) → N9 q = N q := fun q h => (hnn q (by omega)).trans (hNo q h)
  clear hLn hsn hmn hnn
  have hr_x_1 : Ft L9 σ9 (x + 1) (.inl (eP g, 5, some (va_up (va_up (va_up (va_up (fun _ => none) (0 : Int32).toNatClampNeg (some (x + 2))) (1 : Int32).toNatClampNeg (some (x + 3))) (2 : Int32).toNatClampNeg (some (x + 4))) (3 : Int32).toNatClampNeg (some (x + 5))))) := ⟨by rw [eL]; exact mem_o, by rw [eσ]; exact va_up_self _ _ _⟩
  clear mem_o eL eσ eM eN
  refine lv_dup hx hb dX11_init_48 rfl ?_
  refine lv_iconst (v := (4 : Int32)) hx hb dX11_init_49 (by decide) ?_
  refine W_end (fun hze => ?_)
  have hz := n_hz hw13 ho_x_5.1 hze (by omega)
  clear hze
  refine n_new (ci := 6) (sl := []) hC hw13 hS13 hz (by omega) q_25 q_26 q_27 inX6 tyX6 tyX6_ok rfl (by decide) (by show _ ≤ (233 : Nat); omega) (by show _ ≤ (4468 : Nat); omega) dX11_init_50 (fun H hw14 hzf hS14 => ?_)
  clear hw13 hS13
  clear hzf hz
  refine W.widen (k := 6) (n := 5) (by omega) (by omega) ?_
  have hwk := hw14.name
  clear hw14
  obtain ⟨L10, σ10, M10, N10, hw14, eL, eσ, eM, eN⟩ := hwk
  have hLn : ∀ q ∈ L9, q ∈ L10 := fun q h => by rw [eL]; exact List.mem_append_left _ h
  have hsn : ∀ q, (q < x + 6 ∨ x + 6 + 1 ≤ q) → σ10 q = σ9 q := fun q h => by rw [eσ]; exact up_out q h
  have hmn : ∀ q, (q < x + 6 ∨ x + 6 + 1 ≤ q) → M10 q = M9 q := fun q h => by rw [eM]; exact up_out q h
  have hnn : ∀ q, (q < x + 6 ∨ x + 6 + 1 ≤ q) → N10 q = N9 q := fun q h => by rw [eN]; exact up_out q h
  replace hA : ∀ q ∈ L10, cA0 L (x + 1) q := by rw [eL]; exact hA_snoc hA (Or.inr (by omega))
  replace hLe : L10 = L ++ List.range' (x + 1) 6 := by rw [eL]; exact (congrArg (fun t => t ++ _) hLe).trans (snoc_r (by omega))
  replace ho_x : Ft L10 σ10 (x) (.inr (11, [.inr none, .inr none, .inr none, .inr none, .inr none, .inr none, .inr none, .inl 1, .inl 1])) := Ft.mono ho_x hLn (hsn _ (by omega))
  replace ho_x_2 : Ft L10 σ10 (x + 2) (.inr (3, [])) := Ft.mono ho_x_2 hLn (hsn _ (by omega))
  replace ho_x_3 : Ft L10 σ10 (x + 3) (.inr (10, [])) := Ft.mono ho_x_3 hLn (hsn _ (by omega))
  replace ho_x_4 : Ft L10 σ10 (x + 4) (.inr (1, [])) := Ft.mono ho_x_4 hLn (hsn _ (by omega))
  replace ho_x_5 : Ft L10 σ10 (x + 5) (.inr (8, [])) := Ft.mono ho_x_5 hLn (hsn _ (by omega))
  replace hr_x_1 : Ft L10 σ10 (x + 1) (.inl (eP g, 5, some (va_up (va_up (va_up (va_up (fun _ => none) (0 : Int32).toNatClampNeg (some (x + 2))) (1 : Int32).toNatClampNeg (some (x + 3))) (2 : Int32).toNatClampNeg (some (x + 4))) (3 : Int32).toNatClampNeg (some (x + 5))))) := Ft.mono hr_x_1 hLn (hsn _ (by omega))
  replace mn_x_7 : N10 x 7 = 0 := by rw [hnn _ (by omega)]; exact mn_x_7
  replace mn_x_8 : N10 x 8 = 0 := by rw [hnn _ (by omega)]; exact mn_x_8
  replace hσo : ∀ q, (q < x ∨ x + 234 ≤ q) → σ10 q = σ q := fun q h => (hsn q (by omega)).trans (hσo q h)
  replace hMo : ∀ q, (q < x ∨ x + 234 ≤ q) → M10 q = M q := fun q h => (hmn q (by omega)).trans (hMo q h)
  replace hNo : ∀ q, (q < x ∨ x + 234 ≤ q) → N10 q = N q := fun q h => (hnn q (by omega)).trans (hNo q h)
  clear hLn hsn hmn hnn
  have ho_x_6 : Ft L10 σ10 (x + 6) (.inr (6, [])) := ⟨by rw [eL]; simp, by rw [eσ]; exact va_up_self _ _ _⟩
  clear eL eσ eM eN
  refine lv_dup hx hb dX11_init_53 rfl ?_
  refine n_goV hS14 hA hw14 (n_runI (As := []) (rest := [.ref (x + 6), .int (4 : Int32), .ref (x + 1), .ref (x + 1)]) hC hw14 hS14 hB (k_X6_init hw14.2.1) ⟨q_73, q_27, by decide, by decide, by decide⟩ q_71 q_72 rfl ⟨by decide, by decide, by show _ ≤ (233 : Nat); omega, by show _ ≤ (4468 : Nat); omega⟩ rfl hl.1 rfl (Nat.le_of_ble_eq_true rfl) dX11_init_54) (fun H locs hw15 hS15 => ?_)
  clear hw14 hS14
  refine n_aast (t0 := 2) hC hw15 hS15 hA hr_x_1.1 hr_x_1.2 rfl ho_x_6.1 ho_x_6.2 rfl (Or.inr hC.2.2.2.2.2.2.2.2.2.2.2.2) (vin_c 4 rfl) dX11_init_57 (fun H locs hw16 hS16 => ?_)
  clear hw15 hS15
  have hwk := hw16.name
  clear hw16
  obtain ⟨L11, σ11, M11, N11, hw16, eL, eσ, eM, eN⟩ := hwk
  have hLn : ∀ q ∈ L10, q ∈ L11 := fun q h => by rw [eL]; exact h
  have hsn : ∀ q, (q < x + 1 ∨ x + 1 + 1 ≤ q) → σ11 q = σ10 q := fun q h => by rw [eσ]; exact up_out q h
  have hmn : ∀ q, (q < 0 ∨ 0 ≤ q) → M11 q = M10 q := fun q h => by rw [eM]
  have hnn : ∀ q, (q < 0 ∨ 0 ≤ q) → N11 q = N10 q := fun q h => by rw [eN]
  replace hA : ∀ q ∈ L11, cA0 L (x + 1) q := by rw [eL]; exact hA
  replace hLe : L11 = L ++ List.range' (x + 1) 6 := eL.trans hLe
  have mem_o := hr_x_1.1
  clear hr_x_1
  replace ho_x : Ft L11 σ11 (x) (.inr (11, [.inr none, .inr none, .inr none, .inr none, .inr none, .inr none, .inr none, .inl 1, .inl 1])) := Ft.mono ho_x hLn (hsn _ (by omega))
  replace ho_x_2 : Ft L11 σ11 (x + 2) (.inr (3, [])) := Ft.mono ho_x_2 hLn (hsn _ (by omega))
  replace ho_x_3 : Ft L11 σ11 (x + 3) (.inr (10, [])) := Ft.mono ho_x_3 hLn (hsn _ (by omega))
  replace ho_x_4 : Ft L11 σ11 (x + 4) (.inr (1, [])) := Ft.mono ho_x_4 hLn (hsn _ (by omega))
  replace ho_x_5 : Ft L11 σ11 (x + 5) (.inr (8, [])) := Ft.mono ho_x_5 hLn (hsn _ (by omega))
  replace ho_x_6 : Ft L11 σ11 (x + 6) (.inr (6, [])) := Ft.mono ho_x_6 hLn (hsn _ (by omega))
  replace mn_x_7 : N11 x 7 = 0 := by rw [hnn _ (by omega)]; exact mn_x_7
  replace mn_x_8 : N11 x 8 = 0 := by rw [hnn _ (by omega)]; exact mn_x_8
  replace hσo : ∀ q, (q < x ∨ x + 234 ≤ q) → σ11 q = σ q := fun q h => (hsn q (by omega)).trans (hσo q h)
  replace hMo : ∀ q, (q < x ∨ x + 234 ≤ q) → M11 q = M q := fun q h => (hmn q (by omega)).trans (hMo q h)
  replace hNo : ∀ q, (q < x ∨ x + 234 ≤ q) → N11 q = N q := fun q h => (hnn q (by omega)).trans (hNo q h)
  clear hLn hsn hmn hnn
  have hr_x_1 : Ft L11 σ11 (x + 1) (.inl (eP g, 5, some (va_up (va_up (va_up (va_up (va_up (fun _ => none) (0 : Int32).toNatClampNeg (some (x + 2))) (1 : Int32).toNatClampNeg (some (x + 3))) (2 : Int32).toNatClampNeg (some (x + 4))) (3 : Int32).toNatClampNeg (some (x + 5))) (4 : Int32).toNatClampNeg (some (x + 6))))) := ⟨by rw [eL]; exact mem_o, by rw [eσ]; exact va_up_self _ _ _⟩
  clear mem_o eL eσ eM eN
  have hKd_x_1 : oKinds (gE g L11 σ11) (x + 1) := ⟨r_of5 hr_x_1 rfl rfl rfl rfl rfl, ho_x_2, ho_x_3, ho_x_4, ho_x_5, ho_x_6⟩
  clear hr_x_1 ho_x_2 ho_x_3 ho_x_4 ho_x_5 ho_x_6
  refine lv_astore_n (lv' := [(1, .ref (x + 1)), (0, .ref x)]) hx hb dX11_init_58 rfl hl (by decide) rfl (fun ls hl => ?_)
  refine lv_aload_n hx hb dX11_init_59 rfl (lv_at hl 1 rfl) ?_
  refine W_end (fun hze => ?_)
  have hz := n_hz hw16 hKd_x_1.2.2.2.2.2.1 hze (by omega)
  clear hze
  refine n_new (ci := 7) (sl := [.inr none, .inr none, .inl 0, .inl 0]) hC hw16 hS16 hz (by omega) q_28 q_29 q_30 inX7 tyX7 tyX7_ok rfl (by decide) (by show _ ≤ (233 : Nat); omega) (by show _ ≤ (4468 : Nat); omega) dX11_init_60 (fun H hw17 hzf hS17 => ?_)
  clear hw16 hS16
  clear hzf hz
  refine W.widen (k := 7) (n := 9) (by omega) (by omega) ?_
  have hwk := hw17.name
  clear hw17
  obtain ⟨L12, σ12, M12, N12, hw17, eL, eσ, eM, eN⟩ := hwk
  have hLn : ∀ q ∈ L11, q ∈ L12 := fun q h => by rw [eL]; exact List.mem_append_left _ h
  have hsn : ∀ q, (q < x + 7 ∨ x + 7 + 1 ≤ q) → σ12 q = σ11 q := fun q h => by rw [eσ]; exact up_out q h
  have hmn : ∀ q, (q < x + 7 ∨ x + 7 + 1 ≤ q) → M12 q = M11 q := fun q h => by rw [eM]; exact up_out q h
  have hnn : ∀ q, (q < x + 7 ∨ x + 7 + 1 ≤ q) → N12 q = N11 q := fun q h => by rw [eN]; exact up_out q h
  replace hA : ∀ q ∈ L12, cA0 L (x + 1) q := by rw [eL]; exact hA_snoc hA (Or.inr (by omega))
  replace hLe : L12 = L ++ List.range' (x + 1) 7 := by rw [eL]; exact (congrArg (fun t => t ++ _) hLe).trans (snoc_r (by omega))
  replace ho_x : Ft L12 σ12 (x) (.inr (11, [.inr none, .inr none, .inr none, .inr none, .inr none, .inr none, .inr none, .inl 1, .inl 1])) := Ft.mono ho_x hLn (hsn _ (by omega))
  replace hKd_x_1 : oKinds (gE g L12 σ12) (x + 1) := oKinds_mono hKd_x_1 hLn (fun q h1 h2 => hsn q (by omega))
  replace mn_x_7 : N12 x 7 = 0 := by rw [hnn _ (by omega)]; exact mn_x_7
  replace mn_x_8 : N12 x 8 = 0 := by rw [hnn _ (by omega)]; exact mn_x_8
  replace hσo : ∀ q, (q < x ∨ x + 234 ≤ q) → σ12 q = σ q := fun q h => (hsn q (by omega)).trans (hσo q h)
  replace hMo : ∀ q, (q < x ∨ x + 234 ≤ q) → M12 q = M q := fun q h => (hmn q (by omega)).trans (hMo q h)
  replace hNo : ∀ q, (q < x ∨ x + 234 ≤ q) → N12 q = N q := fun q h => (hnn q (by omega)).trans (hNo q h)
  clear hLn hsn hmn hnn
  have ho_x_7 : Ft L12 σ12 (x + 7) (.inr (7, [.inr none, .inr none, .inl 0, .inl 0])) := ⟨by rw [eL]; simp, by rw [eσ]; exact va_up_self _ _ _⟩
  have mm_x_7_2 : M12 (x + 7) 2 = 0 := by rw [eM, va_up_self]
  have mm_x_7_3 : M12 (x + 7) 3 = 0 := by rw [eM, va_up_self]
  clear eL eσ eM eN
  refine lv_dup hx hb dX11_init_63 rfl ?_
  refine lv_aload_n hx hb dX11_init_64 rfl (lv_at hl 0 rfl) ?_
  refine W_end (fun hze => ?_)
  have hz := n_hz hw17 ho_x_7.1 hze (by omega)
  clear hze
  refine n_callI (na := 1) (As := [.ref (x + 1)]) (rest := [.ref (x + 7), .ref x]) hC hw17 hS17 hA (fun q h => Or.inr (by omega)) hB hz (kc_X7_init (b := x + 7) (kd := x + 1) (by omega) (by omega) hKd_x_1 ho_x_7 mm_x_7_2 mm_x_7_3) ⟨q_77, q_30, by decide, by decide, by decide⟩ q_75 q_76 rfl ⟨by decide, by decide, by show _ ≤ (233 : Nat); omega, by show _ ≤ (4468 : Nat); omega⟩ rfl hl.1 rfl (Nat.le_of_ble_eq_true rfl) dX11_init_65 (fun u H locs hpost hwp hS18 => ?_)
  refine W.widen (k := 71) (n := 1163) (by omega) (by omega) ?_
  obtain ⟨L13, σ13, M13, N13⟩ := u
  obtain ⟨⟨eL, hsn, hmn, hnn⟩, p0, p1, p2, p3⟩ := hpost
  simp only at eL hsn hmn hnn hwp
  have hLn : ∀ q ∈ L12, q ∈ L13 := fun q h => by rw [eL]; exact List.mem_append_left _ h
  replace hA : ∀ q ∈ L13, cA0 L (x + 1) q := by rw [eL]; exact hA_app hA (fun q h => Or.inr (by omega))
  replace hLe : L13 = L ++ List.range' (x + 1) 71 := by rw [eL]; exact (congrArg (fun t => t ++ _) hLe).trans (app_r (by omega))
  have hw18 : Wc g z0 L13 σ13 M13 N13 H := ⟨hwp, by rw [eL]; exact nd_app hw17.2.1 (fun q h => by have := wP_lt hw17.1 h; omega), by rw [eL]; exact ge_app hw17.2.2 (by omega)⟩
  clear hwp hz hw17 hS17
  clear ho_x_7 mm_x_7_2 mm_x_7_3
  replace ho_x : Ft L13 σ13 (x) (.inr (11, [.inr none, .inr none, .inr none, .inr none, .inr none, .inr none, .inr none, .inl 1, .inl 1])) := Ft.mono ho_x hLn (hsn _ (by omega))
  replace hKd_x_1 : oKinds (gE g L13 σ13) (x + 1) := oKinds_mono hKd_x_1 hLn (fun q h1 h2 => hsn q (by omega))
  replace mn_x_7 : N13 x 7 = 0 := by rw [hnn _ (by omega)]; exact mn_x_7
  replace mn_x_8 : N13 x 8 = 0 := by rw [hnn _ (by omega)]; exact mn_x_8
  replace hσo : ∀ q, (q < x ∨ x + 234 ≤ q) → σ13 q = σ q := fun q h => (hsn q (by omega)).trans (hσo q h)
  replace hMo : ∀ q, (q < x ∨ x + 234 ≤ q) → M13 q = M q := fun q h => (hmn q (by omega)).trans (hMo q h)
  replace hNo : ∀ q, (q < x ∨ x + 234 ≤ q) → N13 q = N q := fun q h => (hnn q (by omega)).trans (hNo q h)
  clear hLn hsn hmn hnn
  have hSy_x_7 : oStory (gE g L13 σ13) (x + 1) (x + 7) := p0
  have mrI_x_7_1 : rInit M13 (x + 7 + 1) := p1
  have mm_x_7_2 : M13 (x + 7) 2 = 0 := p2
  have msI_x_7 : sInit M13 (x + 7) := p3
  clear eL p0 p1 p2 p3
  refine n_putR hC hmn hw18 hS18 hA ho_x.1 ho_x.2 fl_X11_27 tyX11 tyX11_ok nmX11 rfl rfl rfl rfl rfl dX11_init_68 (fun H locs hw19 hS19 => ?_)
  clear hw18 hS18
  have hwk := hw19.name
  clear hw19
  obtain ⟨L14, σ14, M14, N14, hw19, eL, eσ, eM, eN⟩ := hwk
  have hLn : ∀ q ∈ L13, q ∈ L14 := fun q h => by rw [eL]; exact h
  have hsn : ∀ q, (q < x ∨ x + 1 ≤ q) → σ14 q = σ13 q := fun q h => by rw [eσ]; exact up_out q h
  have hmn : ∀ q, (q < 0 ∨ 0 ≤ q) → M14 q = M13 q := fun q h => by rw [eM]
  have hnn : ∀ q, (q < 0 ∨ 0 ≤ q) → N14 q = N13 q := fun q h => by rw [eN]
  replace hA : ∀ q ∈ L14, cA0 L (x + 1) q := by rw [eL]; exact hA
  replace hLe : L14 = L ++ List.range' (x + 1) 71 := eL.trans hLe
  have mem_o := ho_x.1
  clear ho_x
  replace hKd_x_1 : oKinds (gE g L14 σ14) (x + 1) := oKinds_mono hKd_x_1 hLn (fun q h1 h2 => hsn q (by omega))
  replace hSy_x_7 : oStory (gE g L14 σ14) (x + 1) (x + 7) := oStory_mono hSy_x_7 hLn (fun q h1 h2 => hsn q (by omega)) (fun q h1 h2 => hsn q (by omega))
  replace mn_x_7 : N14 x 7 = 0 := by rw [hnn _ (by omega)]; exact mn_x_7
  replace mn_x_8 : N14 x 8 = 0 := by rw [hnn _ (by omega)]; exact mn_x_8
  replace mrI_x_7_1 : rInit M14 (x + 7 + 1) := rInit_mono mrI_x_7_1 (fun q h1 h2 => hmn q (by omega))
  replace mm_x_7_2 : M14 (x + 7) 2 = 0 := by rw [hmn _ (by omega)]; exact mm_x_7_2
  replace msI_x_7 : sInit M14 (x + 7) := sInit_mono msI_x_7 (fun q h1 h2 => hmn q (by omega))
  replace hσo : ∀ q, (q < x ∨ x + 234 ≤ q) → σ14 q = σ q := fun q h => (hsn q (by omega)).trans (hσo q h)
  replace hMo : ∀ q, (q < x ∨ x + 234 ≤ q) → M14 q = M q := fun q h => (hmn q (by omega)).trans (hMo q h)
  replace hNo : ∀ q, (q < x ∨ x + 234 ≤ q) → N14 q = N q := fun q h => (hnn q (by omega)).trans (hNo q h)
  clear hLn hsn hmn hnn
  have ho_x : Ft L14 σ14 (x) (.inr (11, [.inr (some (x + 7)), .inr none, .inr none, .inr none, .inr none, .inr none, .inr none, .inl 1, .inl 1])) := ⟨by rw [eL]; exact mem_o, by rw [eσ]; exact va_up_self _ _ _⟩
  clear mem_o eL eσ eM eN
  refine lv_aload_n hx hb dX11_init_71 rfl (lv_at hl 1 rfl) ?_
  refine lv_iconst (v := (2 : Int32)) hx hb dX11_init_72 (by decide) ?_
  refine W_end (fun hze => ?_)
  have hz := n_hz hw19 (hSy_x_7.2.2.2 5 (by omega)).2.2.2.2.2.2.2.2.1.1 hze (by omega)
  clear hze
  refine n_anew (t0 := 4) hC hw19 hS19 hz (by omega) (k := 2) rfl hC.2.2.2.2.2.2.2.2.1.2.2 q_28 (by decide) (by decide) (by decide) (by show _ ≤ (233 : Nat); omega) (by show _ ≤ (4468 : Nat); omega) dX11_init_73 (fun H hw20 hzf hS20 => ?_)
  clear hw19 hS19
  clear hzf hz
  refine W.widen (k := 72) (n := 1165) (by omega) (by omega) ?_
  have hwk := hw20.name
  clear hw20
  obtain ⟨L15, σ15, M15, N15, hw20, eL, eσ, eM, eN⟩ := hwk
  have hLn : ∀ q ∈ L14, q ∈ L15 := fun q h => by rw [eL]; exact List.mem_append_left _ h
  have hsn : ∀ q, (q < x + 72 ∨ x + 72 + 1 ≤ q) → σ15 q = σ14 q := fun q h => by rw [eσ]; exact up_out q h
  have hmn : ∀ q, (q < x + 72 ∨ x + 72 + 1 ≤ q) → M15 q = M14 q := fun q h => by rw [eM]
  have hnn : ∀ q, (q < x + 72 ∨ x + 72 + 1 ≤ q) → N15 q = N14 q := fun q h => by rw [eN]
  replace hA : ∀ q ∈ L15, cA0 L (x + 1) q := by rw [eL]; exact hA_snoc hA (Or.inr (by omega))
  replace hLe : L15 = L ++ List.range' (x + 1) 72 := by rw [eL]; exact (congrArg (fun t => t ++ _) hLe).trans (snoc_r (by omega))
  replace hKd_x_1 : oKinds (gE g L15 σ15) (x + 1) := oKinds_mono hKd_x_1 hLn (fun q h1 h2 => hsn q (by omega))
  replace hSy_x_7 : oStory (gE g L15 σ15) (x + 1) (x + 7) := oStory_mono hSy_x_7 hLn (fun q h1 h2 => hsn q (by omega)) (fun q h1 h2 => hsn q (by omega))
  replace ho_x : Ft L15 σ15 (x) (.inr (11, [.inr (some (x + 7)), .inr none, .inr none, .inr none, .inr none, .inr none, .inr none, .inl 1, .inl 1])) := Ft.mono ho_x hLn (hsn _ (by omega))
  replace mn_x_7 : N15 x 7 = 0 := by rw [hnn _ (by omega)]; exact mn_x_7
  replace mn_x_8 : N15 x 8 = 0 := by rw [hnn _ (by omega)]; exact mn_x_8
  replace mrI_x_7_1 : rInit M15 (x + 7 + 1) := rInit_mono mrI_x_7_1 (fun q h1 h2 => hmn q (by omega))
  replace mm_x_7_2 : M15 (x + 7) 2 = 0 := by rw [hmn _ (by omega)]; exact mm_x_7_2
  replace msI_x_7 : sInit M15 (x + 7) := sInit_mono msI_x_7 (fun q h1 h2 => hmn q (by omega))
  replace hσo : ∀ q, (q < x ∨ x + 234 ≤ q) → σ15 q = σ q := fun q h => (hsn q (by omega)).trans (hσo q h)
  replace hMo : ∀ q, (q < x ∨ x + 234 ≤ q) → M15 q = M q := fun q h => (hmn q (by omega)).trans (hMo q h)
  replace hNo : ∀ q, (q < x ∨ x + 234 ≤ q) → N15 q = N q := fun q h => (hnn q (by omega)).trans (hNo q h)
  clear hLn hsn hmn hnn
  have hr_x_72 : Ft L15 σ15 (x + 72) (.inl (eS g, 2, some (fun _ => none))) := ⟨by rw [eL]; simp, by rw [eσ]; exact va_up_self _ _ _⟩
  clear eL eσ eM eN
  refine n_putR hC hmn hw20 hS20 hA ho_x.1 ho_x.2 fl_X11_33 tyX11 tyX11_ok nmX11 rfl rfl rfl rfl rfl dX11_init_76 (fun H locs hw21 hS21 => ?_)
  clear hw20 hS20
  have hwk := hw21.name
  clear hw21
  obtain ⟨L16, σ16, M16, N16, hw21, eL, eσ, eM, eN⟩ := hwk
  have hLn : ∀ q ∈ L15, q ∈ L16 := fun q h => by rw [eL]; exact h
  have hsn : ∀ q, (q < x ∨ x + 1 ≤ q) → σ16 q = σ15 q := fun q h => by rw [eσ]; exact up_out q h
  have hmn : ∀ q, (q < 0 ∨ 0 ≤ q) → M16 q = M15 q := fun q h => by rw [eM]
  have hnn : ∀ q, (q < 0 ∨ 0 ≤ q) → N16 q = N15 q := fun q h => by rw [eN]
  replace hA : ∀ q ∈ L16, cA0 L (x + 1) q := by rw [eL]; exact hA
  replace hLe : L16 = L ++ List.range' (x + 1) 72 := eL.trans hLe
  have mem_o := ho_x.1
  clear ho_x
  replace hKd_x_1 : oKinds (gE g L16 σ16) (x + 1) := oKinds_mono hKd_x_1 hLn (fun q h1 h2 => hsn q (by omega))
  replace hSy_x_7 : oStory (gE g L16 σ16) (x + 1) (x + 7) := oStory_mono hSy_x_7 hLn (fun q h1 h2 => hsn q (by omega)) (fun q h1 h2 => hsn q (by omega))
  replace hr_x_72 : Ft L16 σ16 (x + 72) (.inl (eS g, 2, some (fun _ => none))) := Ft.mono hr_x_72 hLn (hsn _ (by omega))
  replace mn_x_7 : N16 x 7 = 0 := by rw [hnn _ (by omega)]; exact mn_x_7
  replace mn_x_8 : N16 x 8 = 0 := by rw [hnn _ (by omega)]; exact mn_x_8
  replace mrI_x_7_1 : rInit M16 (x + 7 + 1) := rInit_mono mrI_x_7_1 (fun q h1 h2 => hmn q (by omega))
  replace mm_x_7_2 : M16 (x + 7) 2 = 0 := by rw [hmn _ (by omega)]; exact mm_x_7_2
  replace msI_x_7 : sInit M16 (x + 7) := sInit_mono msI_x_7 (fun q h1 h2 => hmn q (by omega))
  replace hσo : ∀ q, (q < x ∨ x + 234 ≤ q) → σ16 q = σ q := fun q h => (hsn q (by omega)).trans (hσo q h)
  replace hMo : ∀ q, (q < x ∨ x + 234 ≤ q) → M16 q = M q := fun q h => (hmn q (by omega)).trans (hMo q h)
  replace hNo : ∀ q, (q < x ∨ x + 234 ≤ q) → N16 q = N q := fun q h => (hnn q (by omega)).trans (hNo q h)
  clear hLn hsn hmn hnn
  have ho_x : Ft L16 σ16 (x) (.inr (11, [.inr (some (x + 7)), .inr (some (x + 72)), .inr none, .inr none, .inr none, .inr none, .inr none, .inl 1, .inl 1])) := ⟨by rw [eL]; exact mem_o, by rw [eσ]; exact va_up_self _ _ _⟩
  clear mem_o eL eσ eM eN
  refine lv_iconst (v := (0 : Int32)) hx hb dX11_init_79 (by decide) ?_
  refine lv_istore_n (lv' := [(2, .int (0 : Int32)), (1, .ref (x + 1)), (0, .ref x)]) hx hb dX11_init_80 rfl hl (by decide) rfl (fun ls hl => ?_)
  refine lv_iload_n hx hb dX11_init_81 rfl (lv_at hl 0 rfl) ?_
  refine lv_iconst (v := (2 : Int32)) hx hb dX11_init_82 (by decide) ?_
  refine lv_icmp_ge (tgt := 106) hx hb dX11_init_83 (by decide) (fun hc => absurd hc (by decide)) (fun _ => ?_)
  refine lv_aload_n hx hb dX11_init_86 rfl (lv_at hl 2 rfl) ?_
  refine n_getR hC hw21 ho_x.1 ho_x.2 fl_X11_33 rfl dX11_init_87 ?_
  refine lv_iload_n hx hb dX11_init_90 rfl (lv_at hl 0 rfl) ?_
  refine W_end (fun hze => ?_)
  have hz := n_hz hw21 hr_x_72.1 hze (by omega)
  clear hze
  refine n_new (ci := 7) (sl := [.inr none, .inr none, .inl 0, .inl 0]) hC hw21 hS21 hz (by omega) q_28 q_29 q_30 inX7 tyX7 tyX7_ok rfl (by decide) (by show _ ≤ (233 : Nat); omega) (by show _ ≤ (4468 : Nat); omega) dX11_init_91 (fun H hw22 hzf hS22 => ?_)
  clear hw21 hS21
  clear hzf hz
  refine W.widen (k := 73) (n := 1169) (by omega) (by omega) ?_
  have hwk := hw22.name
  clear hw22
  obtain ⟨L17, σ17, M17, N17, hw22, eL, eσ, eM, eN⟩ := hwk
  have hLn : ∀ q ∈ L16, q ∈ L17 := fun q h => by rw [eL]; exact List.mem_append_left _ h
  have hsn : ∀ q, (q < x + 73 ∨ x + 73 + 1 ≤ q) → σ17 q = σ16 q := fun q h => by rw [eσ]; exact up_out q h
  have hmn : ∀ q, (q < x + 73 ∨ x + 73 + 1 ≤ q) → M17 q = M16 q := fun q h => by rw [eM]; exact up_out q h
  have hnn : ∀ q, (q < x + 73 ∨ x + 73 + 1 ≤ q) → N17 q = N16 q := fun q h => by rw [eN]; exact up_out q h
  replace hA : ∀ q ∈ L17, cA0 L (x + 1) q := by rw [eL]; exact hA_snoc hA (Or.inr (by omega))
  replace hLe : L17 = L ++ List.range' (x + 1) 73 := by rw [eL]; exact (congrArg (fun t => t ++ _) hLe).trans (snoc_r (by omega))
  replace hKd_x_1 : oKinds (gE g L17 σ17) (x + 1) := oKinds_mono hKd_x_1 hLn (fun q h1 h2 => hsn q (by omega))
  replace hSy_x_7 : oStory (gE g L17 σ17) (x + 1) (x + 7) := oStory_mono hSy_x_7 hLn (fun q h1 h2 => hsn q (by omega)) (fun q h1 h2 => hsn q (by omega))
  replace hr_x_72 : Ft L17 σ17 (x + 72) (.inl (eS g, 2, some (fun _ => none))) := Ft.mono hr_x_72 hLn (hsn _ (by omega))
  replace ho_x : Ft L17 σ17 (x) (.inr (11, [.inr (some (x + 7)), .inr (some (x + 72)), .inr none, .inr none, .inr none, .inr none, .inr none, .inl 1, .inl 1])) := Ft.mono ho_x hLn (hsn _ (by omega))
  replace mn_x_7 : N17 x 7 = 0 := by rw [hnn _ (by omega)]; exact mn_x_7
  replace mn_x_8 : N17 x 8 = 0 := by rw [hnn _ (by omega)]; exact mn_x_8
  replace mrI_x_7_1 : rInit M17 (x + 7 + 1) := rInit_mono mrI_x_7_1 (fun q h1 h2 => hmn q (by omega))
  replace mm_x_7_2 : M17 (x + 7) 2 = 0 := by rw [hmn _ (by omega)]; exact mm_x_7_2
  replace msI_x_7 : sInit M17 (x + 7) := sInit_mono msI_x_7 (fun q h1 h2 => hmn q (by omega))
  replace hσo : ∀ q, (q < x ∨ x + 234 ≤ q) → σ17 q = σ q := fun q h => (hsn q (by omega)).trans (hσo q h)
  replace hMo : ∀ q, (q < x ∨ x + 234 ≤ q) → M17 q = M q := fun q h => (hmn q (by omega)).trans (hMo q h)
  replace hNo : ∀ q, (q < x ∨ x + 234 ≤ q) → N17 q = N q := fun q h => (hnn q (by omega)).trans (hNo q h)
  clear hLn hsn hmn hnn
  have ho_x_73 : Ft L17 σ17 (x + 73) (.inr (7, [.inr none, .inr none, .inl 0, .inl 0])) := ⟨by rw [eL]; simp, by rw [eσ]; exact va_up_self _ _ _⟩
  have mm_x_73_2 : M17 (x + 73) 2 = 0 := by rw [eM, va_up_self]
  have mm_x_73_3 : M17 (x + 73) 3 = 0 := by rw [eM, va_up_self]
  clear eL eσ eM eN
  refine lv_dup hx hb dX11_init_94 rfl ?_
  refine lv_aload_n hx hb dX11_init_95 rfl (lv_at hl 1 rfl) ?_
  refine W_end (fun hze => ?_)
  have hz := n_hz hw22 ho_x_73.1 hze (by omega)
  clear hze
  refine n_callI (na := 1) (As := [.ref (x + 1)]) (rest := [.ref (x + 73), .int (0 : Int32), .ref (x + 72)]) hC hw22 hS22 hA (fun q h => Or.inr (by omega)) hB hz (kc_X7_init (b := x + 73) (kd := x + 1) (by omega) (by omega) hKd_x_1 ho_x_73 mm_x_73_2 mm_x_73_3) ⟨q_77, q_30, by decide, by decide, by decide⟩ q_75 q_76 rfl ⟨by decide, by decide, by show _ ≤ (233 : Nat); omega, by show _ ≤ (4468 : Nat); omega⟩ rfl hl.1 rfl (Nat.le_of_ble_eq_true rfl) dX11_init_96 (fun u H locs hpost hwp hS23 => ?_)
  refine W.widen (k := 137) (n := 2323) (by omega) (by omega) ?_
  obtain ⟨L18, σ18, M18, N18⟩ := u
  obtain ⟨⟨eL, hsn, hmn, hnn⟩, p0, p1, p2, p3⟩ := hpost
  simp only at eL hsn hmn hnn hwp
  have hLn : ∀ q ∈ L17, q ∈ L18 := fun q h => by rw [eL]; exact List.mem_append_left _ h
  replace hA : ∀ q ∈ L18, cA0 L (x + 1) q := by rw [eL]; exact hA_app hA (fun q h => Or.inr (by omega))
  replace hLe : L18 = L ++ List.range' (x + 1) 137 := by rw [eL]; exact (congrArg (fun t => t ++ _) hLe).trans (app_r (by omega))
  have hw23 : Wc g z0 L18 σ18 M18 N18 H := ⟨hwp, by rw [eL]; exact nd_app hw22.2.1 (fun q h => by have := wP_lt hw22.1 h; omega), by rw [eL]; exact ge_app hw22.2.2 (by omega)⟩
  clear hwp hz hw22 hS22
  clear ho_x_73 mm_x_73_2 mm_x_73_3
  replace hKd_x_1 : oKinds (gE g L18 σ18) (x + 1) := oKinds_mono hKd_x_1 hLn (fun q h1 h2 => hsn q (by omega))
  replace hSy_x_7 : oStory (gE g L18 σ18) (x + 1) (x + 7) := oStory_mono hSy_x_7 hLn (fun q h1 h2 => hsn q (by omega)) (fun q h1 h2 => hsn q (by omega))
  replace hr_x_72 : Ft L18 σ18 (x + 72) (.inl (eS g, 2, some (fun _ => none))) := Ft.mono hr_x_72 hLn (hsn _ (by omega))
  replace ho_x : Ft L18 σ18 (x) (.inr (11, [.inr (some (x + 7)), .inr (some (x + 72)), .inr none, .inr none, .inr none, .inr none, .inr none, .inl 1, .inl 1])) := Ft.mono ho_x hLn (hsn _ (by omega))
  replace mn_x_7 : N18 x 7 = 0 := by rw [hnn _ (by omega)]; exact mn_x_7
  replace mn_x_8 : N18 x 8 = 0 := by rw [hnn _ (by omega)]; exact mn_x_8
  replace mrI_x_7_1 : rInit M18 (x + 7 + 1) := rInit_mono mrI_x_7_1 (fun q h1 h2 => hmn q (by omega))
  replace mm_x_7_2 : M18 (x + 7) 2 = 0 := by rw [hmn _ (by omega)]; exact mm_x_7_2
  replace msI_x_7 : sInit M18 (x + 7) := sInit_mono msI_x_7 (fun q h1 h2 => hmn q (by omega))
  replace hσo : ∀ q, (q < x ∨ x + 234 ≤ q) → σ18 q = σ q := fun q h => (hsn q (by omega)).trans (hσo q h)
  replace hMo : ∀ q, (q < x ∨ x + 234 ≤ q) → M18 q = M q := fun q h => (hmn q (by omega)).trans (hMo q h)
  replace hNo : ∀ q, (q < x ∨ x + 234 ≤ q) → N18 q = N q := fun q h => (hnn q (by omega)).trans (hNo q h)
  clear hLn hsn hmn hnn
  have hSy_x_73 : oStory (gE g L18 σ18) (x + 1) (x + 73) := p0
  have mrI_x_73_1 : rInit M18 (x + 73 + 1) := p1
  have mm_x_73_2 : M18 (x + 73) 2 = 0 := p2
  have msI_x_73 : sInit M18 (x + 73) := p3
  clear eL p0 p1 p2 p3
  refine n_aast (t0 := 4) hC hw23 hS23 hA hr_x_72.1 hr_x_72.2 rfl hSy_x_73.1.1 hSy_x_73.1.2 rfl (Or.inl rfl) (vin_c 0 rfl) dX11_init_99 (fun H locs hw24 hS24 => ?_)
  clear hw23 hS23
  have hwk := hw24.name
  clear hw24
  obtain ⟨L19, σ19, M19, N19, hw24, eL, eσ, eM, eN⟩ := hwk
  have hLn : ∀ q ∈ L18, q ∈ L19 := fun q h => by rw [eL]; exact h
  have hsn : ∀ q, (q < x + 72 ∨ x + 72 + 1 ≤ q) → σ19 q = σ18 q := fun q h => by rw [eσ]; exact up_out q h
  have hmn : ∀ q, (q < 0 ∨ 0 ≤ q) → M19 q = M18 q := fun q h => by rw [eM]
  have hnn : ∀ q, (q < 0 ∨ 0 ≤ q) → N19 q = N18 q := fun q h => by rw [eN]
  replace hA : ∀ q ∈ L19, cA0 L (x + 1) q := by rw [eL]; exact hA
  replace hLe : L19 = L ++ List.range' (x + 1) 137 := eL.trans hLe
  have mem_o := hr_x_72.1
  clear hr_x_72
  replace hKd_x_1 : oKinds (gE g L19 σ19) (x + 1) := oKinds_mono hKd_x_1 hLn (fun q h1 h2 => hsn q (by omega))
  replace hSy_x_7 : oStory (gE g L19 σ19) (x + 1) (x + 7) := oStory_mono hSy_x_7 hLn (fun q h1 h2 => hsn q (by omega)) (fun q h1 h2 => hsn q (by omega))
  replace ho_x : Ft L19 σ19 (x) (.inr (11, [.inr (some (x + 7)), .inr (some (x + 72)), .inr none, .inr none, .inr none, .inr none, .inr none, .inl 1, .inl 1])) := Ft.mono ho_x hLn (hsn _ (by omega))
  replace hSy_x_73 : oStory (gE g L19 σ19) (x + 1) (x + 73) := oStory_mono hSy_x_73 hLn (fun q h1 h2 => hsn q (by omega)) (fun q h1 h2 => hsn q (by omega))
  replace mn_x_7 : N19 x 7 = 0 := by rw [hnn _ (by omega)]; exact mn_x_7
  replace mn_x_8 : N19 x 8 = 0 := by rw [hnn _ (by omega)]; exact mn_x_8
  replace mrI_x_7_1 : rInit M19 (x + 7 + 1) := rInit_mono mrI_x_7_1 (fun q h1 h2 => hmn q (by omega))
  replace mm_x_7_2 : M19 (x + 7) 2 = 0 := by rw [hmn _ (by omega)]; exact mm_x_7_2
  replace msI_x_7 : sInit M19 (x + 7) := sInit_mono msI_x_7 (fun q h1 h2 => hmn q (by omega))
  replace mrI_x_73_1 : rInit M19 (x + 73 + 1) := rInit_mono mrI_x_73_1 (fun q h1 h2 => hmn q (by omega))
  replace mm_x_73_2 : M19 (x + 73) 2 = 0 := by rw [hmn _ (by omega)]; exact mm_x_73_2
  replace msI_x_73 : sInit M19 (x + 73) := sInit_mono msI_x_73 (fun q h1 h2 => hmn q (by omega))
  replace hσo : ∀ q, (q < x ∨ x + 234 ≤ q) → σ19 q = σ q := fun q h => (hsn q (by omega)).trans (hσo q h)
  replace hMo : ∀ q, (q < x ∨ x + 234 ≤ q) → M19 q = M q := fun q h => (hmn q (by omega)).trans (hMo q h)
  replace hNo : ∀ q, (q < x ∨ x + 234 ≤ q) → N19 q = N q := fun q h => (hnn q (by omega)).trans (hNo q h)
  clear hLn hsn hmn hnn
  have hr_x_72 : Ft L19 σ19 (x + 72) (.inl (eS g, 2, some (va_up (fun _ => none) (0 : Int32).toNatClampNeg (some (x + 73))))) := ⟨by rw [eL]; exact mem_o, by rw [eσ]; exact va_up_self _ _ _⟩
  clear mem_o eL eσ eM eN
  refine lv_iinc (v := (1 : Int32)) (lv' := [(2, .int (1 : Int32)), (1, .ref (x + 1)), (0, .ref x)]) hx hb dX11_init_100 hl (k := 0) rfl (by decide) (by decide) rfl (fun ls hl => ?_)
  refine lv_goto (tgt := 81) hx hb dX11_init_103 (by decide) ?_
  refine lv_iload_n hx hb dX11_init_81 rfl (lv_at hl 0 rfl) ?_
  refine lv_iconst (v := (2 : Int32)) hx hb dX11_init_82 (by decide) ?_
  refine lv_icmp_ge (tgt := 106) hx hb dX11_init_83 (by decide) (fun hc => absurd hc (by decide)) (fun _ => ?_)
  refine lv_aload_n hx hb dX11_init_86 rfl (lv_at hl 2 rfl) ?_
  refine n_getR hC hw24 ho_x.1 ho_x.2 fl_X11_33 rfl dX11_init_87 ?_
  refine lv_iload_n hx hb dX11_init_90 rfl (lv_at hl 0 rfl) ?_
  refine W_end (fun hze => ?_)
  have hz := n_hz hw24 (hSy_x_73.2.2.2 5 (by omega)).2.2.2.2.2.2.2.2.1.1 hze (by omega)
  clear hze
  refine n_new (ci := 7) (sl := [.inr none, .inr none, .inl 0, .inl 0]) hC hw24 hS24 hz (by omega) q_28 q_29 q_30 inX7 tyX7 tyX7_ok rfl (by decide) (by show _ ≤ (233 : Nat); omega) (by show _ ≤ (4468 : Nat); omega) dX11_init_91 (fun H hw25 hzf hS25 => ?_)
  clear hw24 hS24
  clear hzf hz
  refine W.widen (k := 138) (n := 2327) (by omega) (by omega) ?_
  have hwk := hw25.name
  clear hw25
  obtain ⟨L20, σ20, M20, N20, hw25, eL, eσ, eM, eN⟩ := hwk
  have hLn : ∀ q ∈ L19, q ∈ L20 := fun q h => by rw [eL]; exact List.mem_append_left _ h
  have hsn : ∀ q, (q < x + 138 ∨ x + 138 + 1 ≤ q) → σ20 q = σ19 q := fun q h => by rw [eσ]; exact up_out q h
  have hmn : ∀ q, (q < x + 138 ∨ x + 138 + 1 ≤ q) → M20 q = M19 q := fun q h => by rw [eM]; exact up_out q h
  have hnn : ∀ q, (q < x + 138 ∨ x + 138 + 1 ≤ q) → N20 q = N19 q := fun q h => by rw [eN]; exact up_out q h
  replace hA : ∀ q ∈ L20, cA0 L (x + 1) q := by rw [eL]; exact hA_snoc hA (Or.inr (by omega))
  replace hLe : L20 = L ++ List.range' (x + 1) 138 := by rw [eL]; exact (congrArg (fun t => t ++ _) hLe).trans (snoc_r (by omega))
  replace hKd_x_1 : oKinds (gE g L20 σ20) (x + 1) := oKinds_mono hKd_x_1 hLn (fun q h1 h2 => hsn q (by omega))
  replace hSy_x_7 : oStory (gE g L20 σ20) (x + 1) (x + 7) := oStory_mono hSy_x_7 hLn (fun q h1 h2 => hsn q (by omega)) (fun q h1 h2 => hsn q (by omega))
  replace ho_x : Ft L20 σ20 (x) (.inr (11, [.inr (some (x + 7)), .inr (some (x + 72)), .inr none, .inr none, .inr none, .inr none, .inr none, .inl 1, .inl 1])) := Ft.mono ho_x hLn (hsn _ (by omega))
  replace hSy_x_73 : oStory (gE g L20 σ20) (x + 1) (x + 73) := oStory_mono hSy_x_73 hLn (fun q h1 h2 => hsn q (by omega)) (fun q h1 h2 => hsn q (by omega))
  replace hr_x_72 : Ft L20 σ20 (x + 72) (.inl (eS g, 2, some (va_up (fun _ => none) (0 : Int32).toNatClampNeg (some (x + 73))))) := Ft.mono hr_x_72 hLn (hsn _ (by omega))
  replace mn_x_7 : N20 x 7 = 0 := by rw [hnn _ (by omega)]; exact mn_x_7
  replace mn_x_8 : N20 x 8 = 0 := by rw [hnn _ (by omega)]; exact mn_x_8
  replace mrI_x_7_1 : rInit M20 (x + 7 + 1) := rInit_mono mrI_x_7_1 (fun q h1 h2 => hmn q (by omega))
  replace mm_x_7_2 : M20 (x + 7) 2 = 0 := by rw [hmn _ (by omega)]; exact mm_x_7_2
  replace msI_x_7 : sInit M20 (x + 7) := sInit_mono msI_x_7 (fun q h1 h2 => hmn q (by omega))
  replace mrI_x_73_1 : rInit M20 (x + 73 + 1) := rInit_mono mrI_x_73_1 (fun q h1 h2 => hmn q (by omega))
  replace mm_x_73_2 : M20 (x + 73) 2 = 0 := by rw [hmn _ (by omega)]; exact mm_x_73_2
  replace msI_x_73 : sInit M20 (x + 73) := sInit_mono msI_x_73 (fun q h1 h2 => hmn q (by omega))
  replace hσo : ∀ q, (q < x ∨ x + 234 ≤ q) → σ20 q = σ q := fun q h => (hsn q (by omega)).trans (hσo q h)
  replace hMo : ∀ q, (q < x ∨ x + 234 ≤ q) → M20 q = M q := fun q h => (hmn q (by omega)).trans (hMo q h)
  replace hNo : ∀ q, (q < x ∨ x + 234 ≤ q) → N20 q = N q := fun q h => (hnn q (by omega)).trans (hNo q h)
  clear hLn hsn hmn hnn
  have ho_x_138 : Ft L20 σ20 (x + 138) (.inr (7, [.inr none, .inr none, .inl 0, .inl 0])) := ⟨by rw [eL]; simp, by rw [eσ]; exact va_up_self _ _ _⟩
  have mm_x_138_2 : M20 (x + 138) 2 = 0 := by rw [eM, va_up_self]
  have mm_x_138_3 : M20 (x + 138) 3 = 0 := by rw [eM, va_up_self]
  clear eL eσ eM eN
  refine lv_dup hx hb dX11_init_94 rfl ?_
  refine lv_aload_n hx hb dX11_init_95 rfl (lv_at hl 1 rfl) ?_
  refine W_end (fun hze => ?_)
  have hz := n_hz hw25 ho_x_138.1 hze (by omega)
  clear hze
  refine n_callI (na := 1) (As := [.ref (x + 1)]) (rest := [.ref (x + 138), .int (1 : Int32), .ref (x + 72)]) hC hw25 hS25 hA (fun q h => Or.inr (by omega)) hB hz (kc_X7_init (b := x + 138) (kd := x + 1) (by omega) (by omega) hKd_x_1 ho_x_138 mm_x_138_2 mm_x_138_3) ⟨q_77, q_30, by decide, by decide, by decide⟩ q_75 q_76 rfl ⟨by decide, by decide, by show _ ≤ (233 : Nat); omega, by show _ ≤ (4468 : Nat); omega⟩ rfl hl.1 rfl (Nat.le_of_ble_eq_true rfl) dX11_init_96 (fun u H locs hpost hwp hS26 => ?_)
  refine W.widen (k := 202) (n := 3481) (by omega) (by omega) ?_
  obtain ⟨L21, σ21, M21, N21⟩ := u
  obtain ⟨⟨eL, hsn, hmn, hnn⟩, p0, p1, p2, p3⟩ := hpost
  simp only at eL hsn hmn hnn hwp
  have hLn : ∀ q ∈ L20, q ∈ L21 := fun q h => by rw [eL]; exact List.mem_append_left _ h
  replace hA : ∀ q ∈ L21, cA0 L (x + 1) q := by rw [eL]; exact hA_app hA (fun q h => Or.inr (by omega))
  replace hLe : L21 = L ++ List.range' (x + 1) 202 := by rw [eL]; exact (congrArg (fun t => t ++ _) hLe).trans (app_r (by omega))
  have hw26 : Wc g z0 L21 σ21 M21 N21 H := ⟨hwp, by rw [eL]; exact nd_app hw25.2.1 (fun q h => by have := wP_lt hw25.1 h; omega), by rw [eL]; exact ge_app hw25.2.2 (by omega)⟩
  clear hwp hz hw25 hS25
  clear ho_x_138 mm_x_138_2 mm_x_138_3
  replace hKd_x_1 : oKinds (gE g L21 σ21) (x + 1) := oKinds_mono hKd_x_1 hLn (fun q h1 h2 => hsn q (by omega))
  replace hSy_x_7 : oStory (gE g L21 σ21) (x + 1) (x + 7) := oStory_mono hSy_x_7 hLn (fun q h1 h2 => hsn q (by omega)) (fun q h1 h2 => hsn q (by omega))
  replace ho_x : Ft L21 σ21 (x) (.inr (11, [.inr (some (x + 7)), .inr (some (x + 72)), .inr none, .inr none, .inr none, .inr none, .inr none, .inl 1, .inl 1])) := Ft.mono ho_x hLn (hsn _ (by omega))
  replace hSy_x_73 : oStory (gE g L21 σ21) (x + 1) (x + 73) := oStory_mono hSy_x_73 hLn (fun q h1 h2 => hsn q (by omega)) (fun q h1 h2 => hsn q (by omega))
  replace hr_x_72 : Ft L21 σ21 (x + 72) (.inl (eS g, 2, some (va_up (fun _ => none) (0 : Int32).toNatClampNeg (some (x + 73))))) := Ft.mono hr_x_72 hLn (hsn _ (by omega))
  replace mn_x_7 : N21 x 7 = 0 := by rw [hnn _ (by omega)]; exact mn_x_7
  replace mn_x_8 : N21 x 8 = 0 := by rw [hnn _ (by omega)]; exact mn_x_8
  replace mrI_x_7_1 : rInit M21 (x + 7 + 1) := rInit_mono mrI_x_7_1 (fun q h1 h2 => hmn q (by omega))
  replace mm_x_7_2 : M21 (x + 7) 2 = 0 := by rw [hmn _ (by omega)]; exact mm_x_7_2
  replace msI_x_7 : sInit M21 (x + 7) := sInit_mono msI_x_7 (fun q h1 h2 => hmn q (by omega))
  replace mrI_x_73_1 : rInit M21 (x + 73 + 1) := rInit_mono mrI_x_73_1 (fun q h1 h2 => hmn q (by omega))
  replace mm_x_73_2 : M21 (x + 73) 2 = 0 := by rw [hmn _ (by omega)]; exact mm_x_73_2
  replace msI_x_73 : sInit M21 (x + 73) := sInit_mono msI_x_73 (fun q h1 h2 => hmn q (by omega))
  replace hσo : ∀ q, (q < x ∨ x + 234 ≤ q) → σ21 q = σ q := fun q h => (hsn q (by omega)).trans (hσo q h)
  replace hMo : ∀ q, (q < x ∨ x + 234 ≤ q) → M21 q = M q := fun q h => (hmn q (by omega)).trans (hMo q h)
  replace hNo : ∀ q, (q < x ∨ x + 234 ≤ q) → N21 q = N q := fun q h => (hnn q (by omega)).trans (hNo q h)
  clear hLn hsn hmn hnn
  have hSy_x_138 : oStory (gE g L21 σ21) (x + 1) (x + 138) := p0
  have mrI_x_138_1 : rInit M21 (x + 138 + 1) := p1
  have mm_x_138_2 : M21 (x + 138) 2 = 0 := p2
  have msI_x_138 : sInit M21 (x + 138) := p3
  clear eL p0 p1 p2 p3
  refine n_aast (t0 := 4) hC hw26 hS26 hA hr_x_72.1 hr_x_72.2 rfl hSy_x_138.1.1 hSy_x_138.1.2 rfl (Or.inl rfl) (vin_c 1 rfl) dX11_init_99 (fun H locs hw27 hS27 => ?_)
  clear hw26 hS26
  have hwk := hw27.name
  clear hw27
  obtain ⟨L22, σ22, M22, N22, hw27, eL, eσ, eM, eN⟩ := hwk
  have hLn : ∀ q ∈ L21, q ∈ L22 := fun q h => by rw [eL]; exact h
  have hsn : ∀ q, (q < x + 72 ∨ x + 72 + 1 ≤ q) → σ22 q = σ21 q := fun q h => by rw [eσ]; exact up_out q h
  have hmn : ∀ q, (q < 0 ∨ 0 ≤ q) → M22 q = M21 q := fun q h => by rw [eM]
  have hnn : ∀ q, (q < 0 ∨ 0 ≤ q) → N22 q = N21 q := fun q h => by rw [eN]
  replace hA : ∀ q ∈ L22, cA0 L (x + 1) q := by rw [eL]; exact hA
  replace hLe : L22 = L ++ List.range' (x + 1) 202 := eL.trans hLe
  have mem_o := hr_x_72.1
  clear hr_x_72
  replace hKd_x_1 : oKinds (gE g L22 σ22) (x + 1) := oKinds_mono hKd_x_1 hLn (fun q h1 h2 => hsn q (by omega))
  replace hSy_x_7 : oStory (gE g L22 σ22) (x + 1) (x + 7) := oStory_mono hSy_x_7 hLn (fun q h1 h2 => hsn q (by omega)) (fun q h1 h2 => hsn q (by omega))
  replace ho_x : Ft L22 σ22 (x) (.inr (11, [.inr (some (x + 7)), .inr (some (x + 72)), .inr none, .inr none, .inr none, .inr none, .inr none, .inl 1, .inl 1])) := Ft.mono ho_x hLn (hsn _ (by omega))
  replace hSy_x_73 : oStory (gE g L22 σ22) (x + 1) (x + 73) := oStory_mono hSy_x_73 hLn (fun q h1 h2 => hsn q (by omega)) (fun q h1 h2 => hsn q (by omega))
  replace hSy_x_138 : oStory (gE g L22 σ22) (x + 1) (x + 138) := oStory_mono hSy_x_138 hLn (fun q h1 h2 => hsn q (by omega)) (fun q h1 h2 => hsn q (by omega))
  replace mn_x_7 : N22 x 7 = 0 := by rw [hnn _ (by omega)]; exact mn_x_7
  replace mn_x_8 : N22 x 8 = 0 := by rw [hnn _ (by omega)]; exact mn_x_8
  replace mrI_x_7_1 : rInit M22 (x + 7 + 1) := rInit_mono mrI_x_7_1 (fun q h1 h2 => hmn q (by omega))
  replace mm_x_7_2 : M22 (x + 7) 2 = 0 := by rw [hmn _ (by omega)]; exact mm_x_7_2
  replace msI_x_7 : sInit M22 (x + 7) := sInit_mono msI_x_7 (fun q h1 h2 => hmn q (by omega))
  replace mrI_x_73_1 : rInit M22 (x + 73 + 1) := rInit_mono mrI_x_73_1 (fun q h1 h2 => hmn q (by omega))
  replace mm_x_73_2 : M22 (x + 73) 2 = 0 := by rw [hmn _ (by omega)]; exact mm_x_73_2
  replace msI_x_73 : sInit M22 (x + 73) := sInit_mono msI_x_73 (fun q h1 h2 => hmn q (by omega))
  replace mrI_x_138_1 : rInit M22 (x + 138 + 1) := rInit_mono mrI_x_138_1 (fun q h1 h2 => hmn q (by omega))
  replace mm_x_138_2 : M22 (x + 138) 2 = 0 := by rw [hmn _ (by omega)]; exact mm_x_138_2
  replace msI_x_138 : sInit M22 (x + 138) := sInit_mono msI_x_138 (fun q h1 h2 => hmn q (by omega))
  replace hσo : ∀ q, (q < x ∨ x + 234 ≤ q) → σ22 q = σ q := fun q h => (hsn q (by omega)).trans (hσo q h)
  replace hMo : ∀ q, (q < x ∨ x + 234 ≤ q) → M22 q = M q := fun q h => (hmn q (by omega)).trans (hMo q h)
  replace hNo : ∀ q, (q < x ∨ x + 234 ≤ q) → N22 q = N q := fun q h => (hnn q (by omega)).trans (hNo q h)
  clear hLn hsn hmn hnn
  have hr_x_72 : Ft L22 σ22 (x + 72) (.inl (eS g, 2, some (va_up (va_up (fun _ => none) (0 : Int32).toNatClampNeg (some (x + 73))) (1 : Int32).toNatClampNeg (some (x + 138))))) := ⟨by rw [eL]; exact mem_o, by rw [eσ]; exact va_up_self _ _ _⟩
  clear mem_o eL eσ eM eN
  refine lv_iinc (v := (2 : Int32)) (lv' := [(2, .int (2 : Int32)), (1, .ref (x + 1)), (0, .ref x)]) hx hb dX11_init_100 hl (k := 0) rfl (by decide) (by decide) rfl (fun ls hl => ?_)
  refine lv_goto (tgt := 81) hx hb dX11_init_103 (by decide) ?_
  refine lv_iload_n hx hb dX11_init_81 rfl (lv_at hl 0 rfl) ?_
  refine lv_iconst (v := (2 : Int32)) hx hb dX11_init_82 (by decide) ?_
  refine lv_icmp_ge (tgt := 106) hx hb dX11_init_83 (by decide) (fun _ => ?_) (fun hc => absurd (by decide) hc)
  refine lv_aload_n hx hb dX11_init_106 rfl (lv_at hl 2 rfl) ?_
  refine lv_iconst (v := (2 : Int32)) hx hb dX11_init_107 (by decide) ?_
  refine W_end (fun hze => ?_)
  have hz := n_hz hw27 (hSy_x_138.2.2.2 5 (by omega)).2.2.2.2.2.2.2.2.1.1 hze (by omega)
  clear hze
  refine n_newz hC hw27 hS27 hz (by omega) (k := 2) (by decide) (by decide) (by decide) (by show _ ≤ (233 : Nat); omega) (by show _ ≤ (4468 : Nat); omega) q_33 dX11_init_108 (fun H hw28 hzf hS28 => ?_)
  clear hw27 hS27
  clear hzf hz
  refine W.widen (k := 203) (n := 3483) (by omega) (by omega) ?_
  have hwk := hw28.name
  clear hw28
  obtain ⟨L23, σ23, M23, N23, hw28, eL, eσ, eM, eN⟩ := hwk
  have hLn : ∀ q ∈ L22, q ∈ L23 := fun q h => by rw [eL]; exact List.mem_append_left _ h
  have hsn : ∀ q, (q < x + 203 ∨ x + 203 + 1 ≤ q) → σ23 q = σ22 q := fun q h => by rw [eσ]; exact up_out q h
  have hmn : ∀ q, (q < x + 203 ∨ x + 203 + 1 ≤ q) → M23 q = M22 q := fun q h => by rw [eM]; exact up_out q h
  have hnn : ∀ q, (q < x + 203 ∨ x + 203 + 1 ≤ q) → N23 q = N22 q := fun q h => by rw [eN]
  replace hA : ∀ q ∈ L23, cA0 L (x + 1) q := by rw [eL]; exact hA_snoc hA (Or.inr (by omega))
  replace hLe : L23 = L ++ List.range' (x + 1) 203 := by rw [eL]; exact (congrArg (fun t => t ++ _) hLe).trans (snoc_r (by omega))
  replace hKd_x_1 : oKinds (gE g L23 σ23) (x + 1) := oKinds_mono hKd_x_1 hLn (fun q h1 h2 => hsn q (by omega))
  replace hSy_x_7 : oStory (gE g L23 σ23) (x + 1) (x + 7) := oStory_mono hSy_x_7 hLn (fun q h1 h2 => hsn q (by omega)) (fun q h1 h2 => hsn q (by omega))
  replace ho_x : Ft L23 σ23 (x) (.inr (11, [.inr (some (x + 7)), .inr (some (x + 72)), .inr none, .inr none, .inr none, .inr none, .inr none, .inl 1, .inl 1])) := Ft.mono ho_x hLn (hsn _ (by omega))
  replace hSy_x_73 : oStory (gE g L23 σ23) (x + 1) (x + 73) := oStory_mono hSy_x_73 hLn (fun q h1 h2 => hsn q (by omega)) (fun q h1 h2 => hsn q (by omega))
  replace hSy_x_138 : oStory (gE g L23 σ23) (x + 1) (x + 138) := oStory_mono hSy_x_138 hLn (fun q h1 h2 => hsn q (by omega)) (fun q h1 h2 => hsn q (by omega))
  replace hr_x_72 : Ft L23 σ23 (x + 72) (.inl (eS g, 2, some (va_up (va_up (fun _ => none) (0 : Int32).toNatClampNeg (some (x + 73))) (1 : Int32).toNatClampNeg (some (x + 138))))) := Ft.mono hr_x_72 hLn (hsn _ (by omega))
  replace mn_x_7 : N23 x 7 = 0 := by rw [hnn _ (by omega)]; exact mn_x_7
  replace mn_x_8 : N23 x 8 = 0 := by rw [hnn _ (by omega)]; exact mn_x_8
  replace mrI_x_7_1 : rInit M23 (x + 7 + 1) := rInit_mono mrI_x_7_1 (fun q h1 h2 => hmn q (by omega))
  replace mm_x_7_2 : M23 (x + 7) 2 = 0 := by rw [hmn _ (by omega)]; exact mm_x_7_2
  replace msI_x_7 : sInit M23 (x + 7) := sInit_mono msI_x_7 (fun q h1 h2 => hmn q (by omega))
  replace mrI_x_73_1 : rInit M23 (x + 73 + 1) := rInit_mono mrI_x_73_1 (fun q h1 h2 => hmn q (by omega))
  replace mm_x_73_2 : M23 (x + 73) 2 = 0 := by rw [hmn _ (by omega)]; exact mm_x_73_2
  replace msI_x_73 : sInit M23 (x + 73) := sInit_mono msI_x_73 (fun q h1 h2 => hmn q (by omega))
  replace mrI_x_138_1 : rInit M23 (x + 138 + 1) := rInit_mono mrI_x_138_1 (fun q h1 h2 => hmn q (by omega))
  replace mm_x_138_2 : M23 (x + 138) 2 = 0 := by rw [hmn _ (by omega)]; exact mm_x_138_2
  replace msI_x_138 : sInit M23 (x + 138) := sInit_mono msI_x_138 (fun q h1 h2 => hmn q (by omega))
  replace hσo : ∀ q, (q < x ∨ x + 234 ≤ q) → σ23 q = σ q := fun q h => (hsn q (by omega)).trans (hσo q h)
  replace hMo : ∀ q, (q < x ∨ x + 234 ≤ q) → M23 q = M q := fun q h => (hmn q (by omega)).trans (hMo q h)
  replace hNo : ∀ q, (q < x ∨ x + 234 ≤ q) → N23 q = N q := fun q h => (hnn q (by omega)).trans (hNo q h)
  clear hLn hsn hmn hnn
  have hz_x_203 : Ft L23 σ23 (x + 203) (.inl (eZ g, 2, none)) := ⟨by rw [eL]; simp, by rw [eσ]; exact va_up_self _ _ _⟩
  have mzz_x_203 : ∀ j, M23 (x + 203) j = 0 := fun j => by rw [eM, va_up_self]
  clear eL eσ eM eN
  refine n_putR hC hmn hw28 hS28 hA ho_x.1 ho_x.2 fl_X11_37 tyX11 tyX11_ok nmX11 rfl rfl rfl rfl rfl dX11_init_110 (fun H locs hw29 hS29 => ?_)
  clear hw28 hS28
  have hwk := hw29.name
  clear hw29
  obtain ⟨L24, σ24, M24, N24, hw29, eL, eσ, eM, eN⟩ := hwk
  have hLn : ∀ q ∈ L23, q ∈ L24 := fun q h => by rw [eL]; exact h
  have hsn : ∀ q, (q < x ∨ x + 1 ≤ q) → σ24 q = σ23 q := fun q h => by rw [eσ]; exact up_out q h
  have hmn : ∀ q, (q < 0 ∨ 0 ≤ q) → M24 q = M23 q := fun q h => by rw [eM]
  have hnn : ∀ q, (q < 0 ∨ 0 ≤ q) → N24 q = N23 q := fun q h => by rw [eN]
  replace hA : ∀ q ∈ L24, cA0 L (x + 1) q := by rw [eL]; exact hA
  replace hLe : L24 = L ++ List.range' (x + 1) 203 := eL.trans hLe
  have mem_o := ho_x.1
  clear ho_x
  replace hKd_x_1 : oKinds (gE g L24 σ24) (x + 1) := oKinds_mono hKd_x_1 hLn (fun q h1 h2 => hsn q (by omega))
  replace hSy_x_7 : oStory (gE g L24 σ24) (x + 1) (x + 7) := oStory_mono hSy_x_7 hLn (fun q h1 h2 => hsn q (by omega)) (fun q h1 h2 => hsn q (by omega))
  replace hSy_x_73 : oStory (gE g L24 σ24) (x + 1) (x + 73) := oStory_mono hSy_x_73 hLn (fun q h1 h2 => hsn q (by omega)) (fun q h1 h2 => hsn q (by omega))
  replace hSy_x_138 : oStory (gE g L24 σ24) (x + 1) (x + 138) := oStory_mono hSy_x_138 hLn (fun q h1 h2 => hsn q (by omega)) (fun q h1 h2 => hsn q (by omega))
  replace hr_x_72 : Ft L24 σ24 (x + 72) (.inl (eS g, 2, some (va_up (va_up (fun _ => none) (0 : Int32).toNatClampNeg (some (x + 73))) (1 : Int32).toNatClampNeg (some (x + 138))))) := Ft.mono hr_x_72 hLn (hsn _ (by omega))
  replace hz_x_203 : Ft L24 σ24 (x + 203) (.inl (eZ g, 2, none)) := Ft.mono hz_x_203 hLn (hsn _ (by omega))
  replace mn_x_7 : N24 x 7 = 0 := by rw [hnn _ (by omega)]; exact mn_x_7
  replace mn_x_8 : N24 x 8 = 0 := by rw [hnn _ (by omega)]; exact mn_x_8
  replace mrI_x_7_1 : rInit M24 (x + 7 + 1) := rInit_mono mrI_x_7_1 (fun q h1 h2 => hmn q (by omega))
  replace mm_x_7_2 : M24 (x + 7) 2 = 0 := by rw [hmn _ (by omega)]; exact mm_x_7_2
  replace msI_x_7 : sInit M24 (x + 7) := sInit_mono msI_x_7 (fun q h1 h2 => hmn q (by omega))
  replace mrI_x_73_1 : rInit M24 (x + 73 + 1) := rInit_mono mrI_x_73_1 (fun q h1 h2 => hmn q (by omega))
  replace mm_x_73_2 : M24 (x + 73) 2 = 0 := by rw [hmn _ (by omega)]; exact mm_x_73_2
  replace msI_x_73 : sInit M24 (x + 73) := sInit_mono msI_x_73 (fun q h1 h2 => hmn q (by omega))
  replace mrI_x_138_1 : rInit M24 (x + 138 + 1) := rInit_mono mrI_x_138_1 (fun q h1 h2 => hmn q (by omega))
  replace mm_x_138_2 : M24 (x + 138) 2 = 0 := by rw [hmn _ (by omega)]; exact mm_x_138_2
  replace msI_x_138 : sInit M24 (x + 138) := sInit_mono msI_x_138 (fun q h1 h2 => hmn q (by omega))
  replace mzz_x_203 : ∀ j, M24 (x + 203) j = 0 := by rw [hmn _ (by omega)]; exact mzz_x_203
  replace hσo : ∀ q, (q < x ∨ x + 234 ≤ q) → σ24 q = σ q := fun q h => (hsn q (by omega)).trans (hσo q h)
  replace hMo : ∀ q, (q < x ∨ x + 234 ≤ q) → M24 q = M q := fun q h => (hmn q (by omega)).trans (hMo q h)
  replace hNo : ∀ q, (q < x ∨ x + 234 ≤ q) → N24 q = N q := fun q h => (hnn q (by omega)).trans (hNo q h)
  clear hLn hsn hmn hnn
  have ho_x : Ft L24 σ24 (x) (.inr (11, [.inr (some (x + 7)), .inr (some (x + 72)), .inr (some (x + 203)), .inr none, .inr none, .inr none, .inr none, .inl 1, .inl 1])) := ⟨by rw [eL]; exact mem_o, by rw [eσ]; exact va_up_self _ _ _⟩
  clear mem_o eL eσ eM eN
  refine lv_aload_n hx hb dX11_init_113 rfl (lv_at hl 2 rfl) ?_
  refine W_end (fun hze => ?_)
  have hz := n_hz hw29 hz_x_203.1 hze (by omega)
  clear hze
  refine n_new (ci := 0) (sl := [.inr none, .inr none, .inr none, .inr none, .inr none, .inr none, .inr none, .inr none]) hC hw29 hS29 hz (by omega) q_35 q_36 q_37 inX0 tyX0 tyX0_ok rfl (by decide) (by show _ ≤ (233 : Nat); omega) (by show _ ≤ (4468 : Nat); omega) dX11_init_114 (fun H hw30 hzf hS30 => ?_)
  clear hw29 hS29
  clear hzf hz
  refine W.widen (k := 204) (n := 3491) (by omega) (by omega) ?_
  have hwk := hw30.name
  clear hw30
  obtain ⟨L25, σ25, M25, N25, hw30, eL, eσ, eM, eN⟩ := hwk
  have hLn : ∀ q ∈ L24, q ∈ L25 := fun q h => by rw [eL]; exact List.mem_append_left _ h
  have hsn : ∀ q, (q < x + 204 ∨ x + 204 + 1 ≤ q) → σ25 q = σ24 q := fun q h => by rw [eσ]; exact up_out q h
  have hmn : ∀ q, (q < x + 204 ∨ x + 204 + 1 ≤ q) → M25 q = M24 q := fun q h => by rw [eM]; exact up_out q h
  have hnn : ∀ q, (q < x + 204 ∨ x + 204 + 1 ≤ q) → N25 q = N24 q := fun q h => by rw [eN]; exact up_out q h
  replace hA : ∀ q ∈ L25, cA0 L (x + 1) q := by rw [eL]; exact hA_snoc hA (Or.inr (by omega))
  replace hLe : L25 = L ++ List.range' (x + 1) 204 := by rw [eL]; exact (congrArg (fun t => t ++ _) hLe).trans (snoc_r (by omega))
  replace hKd_x_1 : oKinds (gE g L25 σ25) (x + 1) := oKinds_mono hKd_x_1 hLn (fun q h1 h2 => hsn q (by omega))
  replace hSy_x_7 : oStory (gE g L25 σ25) (x + 1) (x + 7) := oStory_mono hSy_x_7 hLn (fun q h1 h2 => hsn q (by omega)) (fun q h1 h2 => hsn q (by omega))
  replace hSy_x_73 : oStory (gE g L25 σ25) (x + 1) (x + 73) := oStory_mono hSy_x_73 hLn (fun q h1 h2 => hsn q (by omega)) (fun q h1 h2 => hsn q (by omega))
  replace hSy_x_138 : oStory (gE g L25 σ25) (x + 1) (x + 138) := oStory_mono hSy_x_138 hLn (fun q h1 h2 => hsn q (by omega)) (fun q h1 h2 => hsn q (by omega))
  replace hr_x_72 : Ft L25 σ25 (x + 72) (.inl (eS g, 2, some (va_up (va_up (fun _ => none) (0 : Int32).toNatClampNeg (some (x + 73))) (1 : Int32).toNatClampNeg (some (x + 138))))) := Ft.mono hr_x_72 hLn (hsn _ (by omega))
  replace hz_x_203 : Ft L25 σ25 (x + 203) (.inl (eZ g, 2, none)) := Ft.mono hz_x_203 hLn (hsn _ (by omega))
  replace ho_x : Ft L25 σ25 (x) (.inr (11, [.inr (some (x + 7)), .inr (some (x + 72)), .inr (some (x + 203)), .inr none, .inr none, .inr none, .inr none, .inl 1, .inl 1])) := Ft.mono ho_x hLn (hsn _ (by omega))
  replace mn_x_7 : N25 x 7 = 0 := by rw [hnn _ (by omega)]; exact mn_x_7
  replace mn_x_8 : N25 x 8 = 0 := by rw [hnn _ (by omega)]; exact mn_x_8
  replace mrI_x_7_1 : rInit M25 (x + 7 + 1) := rInit_mono mrI_x_7_1 (fun q h1 h2 => hmn q (by omega))
  replace mm_x_7_2 : M25 (x + 7) 2 = 0 := by rw [hmn _ (by omega)]; exact mm_x_7_2
  replace msI_x_7 : sInit M25 (x + 7) := sInit_mono msI_x_7 (fun q h1 h2 => hmn q (by omega))
  replace mrI_x_73_1 : rInit M25 (x + 73 + 1) := rInit_mono mrI_x_73_1 (fun q h1 h2 => hmn q (by omega))
  replace mm_x_73_2 : M25 (x + 73) 2 = 0 := by rw [hmn _ (by omega)]; exact mm_x_73_2
  replace msI_x_73 : sInit M25 (x + 73) := sInit_mono msI_x_73 (fun q h1 h2 => hmn q (by omega))
  replace mrI_x_138_1 : rInit M25 (x + 138 + 1) := rInit_mono mrI_x_138_1 (fun q h1 h2 => hmn q (by omega))
  replace mm_x_138_2 : M25 (x + 138) 2 = 0 := by rw [hmn _ (by omega)]; exact mm_x_138_2
  replace msI_x_138 : sInit M25 (x + 138) := sInit_mono msI_x_138 (fun q h1 h2 => hmn q (by omega))
  replace mzz_x_203 : ∀ j, M25 (x + 203) j = 0 := by rw [hmn _ (by omega)]; exact mzz_x_203
  replace hσo : ∀ q, (q < x ∨ x + 234 ≤ q) → σ25 q = σ q := fun q h => (hsn q (by omega)).trans (hσo q h)
  replace hMo : ∀ q, (q < x ∨ x + 234 ≤ q) → M25 q = M q := fun q h => (hmn q (by omega)).trans (hMo q h)
  replace hNo : ∀ q, (q < x ∨ x + 234 ≤ q) → N25 q = N q := fun q h => (hnn q (by omega)).trans (hNo q h)
  clear hLn hsn hmn hnn
  have ho_x_204 : Ft L25 σ25 (x + 204) (.inr (0, [.inr none, .inr none, .inr none, .inr none, .inr none, .inr none, .inr none, .inr none])) := ⟨by rw [eL]; simp, by rw [eσ]; exact va_up_self _ _ _⟩
  clear eL eσ eM eN
  refine lv_dup hx hb dX11_init_117 rfl ?_
  refine lv_aload_n hx hb dX11_init_118 rfl (lv_at hl 2 rfl) ?_
  refine n_getR hC hw30 ho_x.1 ho_x.2 fl_X11_27 rfl dX11_init_119 ?_
  refine n_getR hC hw30 hSy_x_7.1.1 hSy_x_7.1.2 fl_X11_43 rfl dX11_init_122 ?_
  refine W_end (fun hze => ?_)
  have hz := n_hz hw30 ho_x_204.1 hze (by omega)
  clear hze
  refine n_new (ci := 5) (sl := [.inr none, .inr none, .inr none, .inr none, .inr none, .inr none, .inr none, .inr none, .inr none, .inl 0, .inl 0, .inl 0, .inl 0]) hC hw30 hS30 hz (by omega) q_39 q_40 q_41 inX5 tyX5 tyX5_ok rfl (by decide) (by show _ ≤ (233 : Nat); omega) (by show _ ≤ (4468 : Nat); omega) dX11_init_125 (fun H hw31 hzf hS31 => ?_)
  clear hw30 hS30
  clear hzf hz
  refine W.widen (k := 205) (n := 3504) (by omega) (by omega) ?_
  have hwk := hw31.name
  clear hw31
  obtain ⟨L26, σ26, M26, N26, hw31, eL, eσ, eM, eN⟩ := hwk
  have hLn : ∀ q ∈ L25, q ∈ L26 := fun q h => by rw [eL]; exact List.mem_append_left _ h
  have hsn : ∀ q, (q < x + 205 ∨ x + 205 + 1 ≤ q) → σ26 q = σ25 q := fun q h => by rw [eσ]; exact up_out q h
  have hmn : ∀ q, (q < x + 205 ∨ x + 205 + 1 ≤ q) → M26 q = M25 q := fun q h => by rw [eM]; exact up_out q h
  have hnn : ∀ q, (q < x + 205 ∨ x + 205 + 1 ≤ q) → N26 q = N25 q := fun q h => by rw [eN]; exact up_out q h
  replace hA : ∀ q ∈ L26, cA0 L (x + 1) q := by rw [eL]; exact hA_snoc hA (Or.inr (by omega))
  replace hLe : L26 = L ++ List.range' (x + 1) 205 := by rw [eL]; exact (congrArg (fun t => t ++ _) hLe).trans (snoc_r (by omega))
  replace hKd_x_1 : oKinds (gE g L26 σ26) (x + 1) := oKinds_mono hKd_x_1 hLn (fun q h1 h2 => hsn q (by omega))
  replace hSy_x_7 : oStory (gE g L26 σ26) (x + 1) (x + 7) := oStory_mono hSy_x_7 hLn (fun q h1 h2 => hsn q (by omega)) (fun q h1 h2 => hsn q (by omega))
  replace hSy_x_73 : oStory (gE g L26 σ26) (x + 1) (x + 73) := oStory_mono hSy_x_73 hLn (fun q h1 h2 => hsn q (by omega)) (fun q h1 h2 => hsn q (by omega))
  replace hSy_x_138 : oStory (gE g L26 σ26) (x + 1) (x + 138) := oStory_mono hSy_x_138 hLn (fun q h1 h2 => hsn q (by omega)) (fun q h1 h2 => hsn q (by omega))
  replace hr_x_72 : Ft L26 σ26 (x + 72) (.inl (eS g, 2, some (va_up (va_up (fun _ => none) (0 : Int32).toNatClampNeg (some (x + 73))) (1 : Int32).toNatClampNeg (some (x + 138))))) := Ft.mono hr_x_72 hLn (hsn _ (by omega))
  replace hz_x_203 : Ft L26 σ26 (x + 203) (.inl (eZ g, 2, none)) := Ft.mono hz_x_203 hLn (hsn _ (by omega))
  replace ho_x : Ft L26 σ26 (x) (.inr (11, [.inr (some (x + 7)), .inr (some (x + 72)), .inr (some (x + 203)), .inr none, .inr none, .inr none, .inr none, .inl 1, .inl 1])) := Ft.mono ho_x hLn (hsn _ (by omega))
  replace ho_x_204 : Ft L26 σ26 (x + 204) (.inr (0, [.inr none, .inr none, .inr none, .inr none, .inr none, .inr none, .inr none, .inr none])) := Ft.mono ho_x_204 hLn (hsn _ (by omega))
  replace mn_x_7 : N26 x 7 = 0 := by rw [hnn _ (by omega)]; exact mn_x_7
  replace mn_x_8 : N26 x 8 = 0 := by rw [hnn _ (by omega)]; exact mn_x_8
  replace mrI_x_7_1 : rInit M26 (x + 7 + 1) := rInit_mono mrI_x_7_1 (fun q h1 h2 => hmn q (by omega))
  replace mm_x_7_2 : M26 (x + 7) 2 = 0 := by rw [hmn _ (by omega)]; exact mm_x_7_2
  replace msI_x_7 : sInit M26 (x + 7) := sInit_mono msI_x_7 (fun q h1 h2 => hmn q (by omega))
  replace mrI_x_73_1 : rInit M26 (x + 73 + 1) := rInit_mono mrI_x_73_1 (fun q h1 h2 => hmn q (by omega))
  replace mm_x_73_2 : M26 (x + 73) 2 = 0 := by rw [hmn _ (by omega)]; exact mm_x_73_2
  replace msI_x_73 : sInit M26 (x + 73) := sInit_mono msI_x_73 (fun q h1 h2 => hmn q (by omega))
  replace mrI_x_138_1 : rInit M26 (x + 138 + 1) := rInit_mono mrI_x_138_1 (fun q h1 h2 => hmn q (by omega))
  replace mm_x_138_2 : M26 (x + 138) 2 = 0 := by rw [hmn _ (by omega)]; exact mm_x_138_2
  replace msI_x_138 : sInit M26 (x + 138) := sInit_mono msI_x_138 (fun q h1 h2 => hmn q (by omega))
  replace mzz_x_203 : ∀ j, M26 (x + 203) j = 0 := by rw [hmn _ (by omega)]; exact mzz_x_203
  replace hσo : ∀ q, (q < x ∨ x + 234 ≤ q) → σ26 q = σ q := fun q h => (hsn q (by omega)).trans (hσo q h)
  replace hMo : ∀ q, (q < x ∨ x + 234 ≤ q) → M26 q = M q := fun q h => (hmn q (by omega)).trans (hMo q h)
  replace hNo : ∀ q, (q < x ∨ x + 234 ≤ q) → N26 q = N q := fun q h => (hnn q (by omega)).trans (hNo q h)
  clear hLn hsn hmn hnn
  have ho_x_205 : Ft L26 σ26 (x + 205) (.inr (5, [.inr none, .inr none, .inr none, .inr none, .inr none, .inr none, .inr none, .inr none, .inr none, .inl 0, .inl 0, .inl 0, .inl 0])) := ⟨by rw [eL]; simp, by rw [eσ]; exact va_up_self _ _ _⟩
  clear eL eσ eM eN
  refine lv_dup hx hb dX11_init_128 rfl ?_
  refine lv_aload_n hx hb dX11_init_129 rfl (lv_at hl 1 rfl) ?_
  refine W_end (fun hze => ?_)
  have hz := n_hz hw31 ho_x_205.1 hze (by omega)
  clear hze
  refine n_callI (na := 1) (As := [.ref (x + 1)]) (rest := [.ref (x + 205), .ref (x + 7 + 1), .ref (x + 204), .ref (x + 204), .ref x]) hC hw31 hS31 hA (fun q h => Or.inr (by omega)) hB hz (kc_X5_init (a := x + 205) (kd := x + 1) (by omega) (by omega) hKd_x_1 ho_x_205) ⟨q_86, q_41, by decide, by decide, by decide⟩ q_109 q_85 rfl ⟨by decide, by decide, by show _ ≤ (233 : Nat); omega, by show _ ≤ (4468 : Nat); omega⟩ rfl hl.1 rfl (Nat.le_of_ble_eq_true rfl) dX11_init_130 (fun u H locs hpost hwp hS32 => ?_)
  refine W.widen (k := 213) (n := 3655) (by omega) (by omega) ?_
  obtain ⟨L27, σ27, M27, N27⟩ := u
  obtain ⟨⟨eL, hsn, hmn, hnn⟩, p0, p1⟩ := hpost
  simp only at eL hsn hmn hnn hwp
  have hLn : ∀ q ∈ L26, q ∈ L27 := fun q h => by rw [eL]; exact List.mem_append_left _ h
  replace hA : ∀ q ∈ L27, cA0 L (x + 1) q := by rw [eL]; exact hA_app hA (fun q h => Or.inr (by omega))
  replace hLe : L27 = L ++ List.range' (x + 1) 213 := by rw [eL]; exact (congrArg (fun t => t ++ _) hLe).trans (app_r (by omega))
  have hw32 : Wc g z0 L27 σ27 M27 N27 H := ⟨hwp, by rw [eL]; exact nd_app hw31.2.1 (fun q h => by have := wP_lt hw31.1 h; omega), by rw [eL]; exact ge_app hw31.2.2 (by omega)⟩
  clear hwp hz hw31 hS31
  clear ho_x_205
  replace hKd_x_1 : oKinds (gE g L27 σ27) (x + 1) := oKinds_mono hKd_x_1 hLn (fun q h1 h2 => hsn q (by omega))
  replace hSy_x_7 : oStory (gE g L27 σ27) (x + 1) (x + 7) := oStory_mono hSy_x_7 hLn (fun q h1 h2 => hsn q (by omega)) (fun q h1 h2 => hsn q (by omega))
  replace hSy_x_73 : oStory (gE g L27 σ27) (x + 1) (x + 73) := oStory_mono hSy_x_73 hLn (fun q h1 h2 => hsn q (by omega)) (fun q h1 h2 => hsn q (by omega))
  replace hSy_x_138 : oStory (gE g L27 σ27) (x + 1) (x + 138) := oStory_mono hSy_x_138 hLn (fun q h1 h2 => hsn q (by omega)) (fun q h1 h2 => hsn q (by omega))
  replace hr_x_72 : Ft L27 σ27 (x + 72) (.inl (eS g, 2, some (va_up (va_up (fun _ => none) (0 : Int32).toNatClampNeg (some (x + 73))) (1 : Int32).toNatClampNeg (some (x + 138))))) := Ft.mono hr_x_72 hLn (hsn _ (by omega))
  replace hz_x_203 : Ft L27 σ27 (x + 203) (.inl (eZ g, 2, none)) := Ft.mono hz_x_203 hLn (hsn _ (by omega))
  replace ho_x : Ft L27 σ27 (x) (.inr (11, [.inr (some (x + 7)), .inr (some (x + 72)), .inr (some (x + 203)), .inr none, .inr none, .inr none, .inr none, .inl 1, .inl 1])) := Ft.mono ho_x hLn (hsn _ (by omega))
  replace ho_x_204 : Ft L27 σ27 (x + 204) (.inr (0, [.inr none, .inr none, .inr none, .inr none, .inr none, .inr none, .inr none, .inr none])) := Ft.mono ho_x_204 hLn (hsn _ (by omega))
  replace mn_x_7 : N27 x 7 = 0 := by rw [hnn _ (by omega)]; exact mn_x_7
  replace mn_x_8 : N27 x 8 = 0 := by rw [hnn _ (by omega)]; exact mn_x_8
  replace mrI_x_7_1 : rInit M27 (x + 7 + 1) := rInit_mono mrI_x_7_1 (fun q h1 h2 => hmn q (by omega))
  replace mm_x_7_2 : M27 (x + 7) 2 = 0 := by rw [hmn _ (by omega)]; exact mm_x_7_2
  replace msI_x_7 : sInit M27 (x + 7) := sInit_mono msI_x_7 (fun q h1 h2 => hmn q (by omega))
  replace mrI_x_73_1 : rInit M27 (x + 73 + 1) := rInit_mono mrI_x_73_1 (fun q h1 h2 => hmn q (by omega))
  replace mm_x_73_2 : M27 (x + 73) 2 = 0 := by rw [hmn _ (by omega)]; exact mm_x_73_2
  replace msI_x_73 : sInit M27 (x + 73) := sInit_mono msI_x_73 (fun q h1 h2 => hmn q (by omega))
  replace mrI_x_138_1 : rInit M27 (x + 138 + 1) := rInit_mono mrI_x_138_1 (fun q h1 h2 => hmn q (by omega))
  replace mm_x_138_2 : M27 (x + 138) 2 = 0 := by rw [hmn _ (by omega)]; exact mm_x_138_2
  replace msI_x_138 : sInit M27 (x + 138) := sInit_mono msI_x_138 (fun q h1 h2 => hmn q (by omega))
  replace mzz_x_203 : ∀ j, M27 (x + 203) j = 0 := by rw [hmn _ (by omega)]; exact mzz_x_203
  replace hσo : ∀ q, (q < x ∨ x + 234 ≤ q) → σ27 q = σ q := fun q h => (hsn q (by omega)).trans (hσo q h)
  replace hMo : ∀ q, (q < x ∨ x + 234 ≤ q) → M27 q = M q := fun q h => (hmn q (by omega)).trans (hMo q h)
  replace hNo : ∀ q, (q < x ∨ x + 234 ≤ q) → N27 q = N q := fun q h => (hnn q (by omega)).trans (hNo q h)
  clear hLn hsn hmn hnn
  have hRg_x_205 : oRing (gE g L27 σ27) (x + 1) (x + 205) := p0
  have mrI_x_205 : rInit M27 (x + 205) := p1
  clear eL p0 p1
  refine W_end (fun hze => ?_)
  have hz := n_hz hw32 hRg_x_205.2.2.2.2.2.2.2.2.1.1 hze (by omega)
  clear hze
  refine n_callI (na := 2) (As := [.ref (x + 7 + 1), .ref (x + 205)]) (rest := [.ref (x + 204), .ref x]) hC hw32 hS32 hA (fun q h => Or.inr (by omega)) hB hz (kc_X0_init (cs := x + 204) (r := x + 7 + 1) (kd := x + 1) (by omega) (by omega) (by omega) hSy_x_7.2.1 hRg_x_205 ho_x_204) ⟨q_112, q_37, by decide, by decide, by decide⟩ q_110 q_111 rfl ⟨by decide, by decide, by show _ ≤ (233 : Nat); omega, by show _ ≤ (4468 : Nat); omega⟩ rfl hl.1 rfl (Nat.le_of_ble_eq_true rfl) dX11_init_133 (fun u H locs hpost hwp hS33 => ?_)
  refine W.widen (k := 219) (n := 4039) (by omega) (by omega) ?_
  obtain ⟨L28, σ28, M28, N28⟩ := u
  obtain ⟨⟨eL, hsn, hmn, hnn⟩, p0⟩ := hpost
  simp only at eL hsn hmn hnn hwp
  have hLn : ∀ q ∈ L27, q ∈ L28 := fun q h => by rw [eL]; exact List.mem_append_left _ h
  replace hA : ∀ q ∈ L28, cA0 L (x + 1) q := by rw [eL]; exact hA_app hA (fun q h => Or.inr (by omega))
  replace hLe : L28 = L ++ List.range' (x + 1) 219 := by rw [eL]; exact (congrArg (fun t => t ++ _) hLe).trans (app_r (by omega))
  have hw33 : Wc g z0 L28 σ28 M28 N28 H := ⟨hwp, by rw [eL]; exact nd_app hw32.2.1 (fun q h => by have := wP_lt hw32.1 h; omega), by rw [eL]; exact ge_app hw32.2.2 (by omega)⟩
  clear hwp hz hw32 hS32
  clear ho_x_204 hRg_x_205 mrI_x_205
  replace hKd_x_1 : oKinds (gE g L28 σ28) (x + 1) := oKinds_mono hKd_x_1 hLn (fun q h1 h2 => hsn q (by omega))
  replace hSy_x_7 : oStory (gE g L28 σ28) (x + 1) (x + 7) := oStory_mono hSy_x_7 hLn (fun q h1 h2 => hsn q (by omega)) (fun q h1 h2 => hsn q (by omega))
  replace hSy_x_73 : oStory (gE g L28 σ28) (x + 1) (x + 73) := oStory_mono hSy_x_73 hLn (fun q h1 h2 => hsn q (by omega)) (fun q h1 h2 => hsn q (by omega))
  replace hSy_x_138 : oStory (gE g L28 σ28) (x + 1) (x + 138) := oStory_mono hSy_x_138 hLn (fun q h1 h2 => hsn q (by omega)) (fun q h1 h2 => hsn q (by omega))
  replace hr_x_72 : Ft L28 σ28 (x + 72) (.inl (eS g, 2, some (va_up (va_up (fun _ => none) (0 : Int32).toNatClampNeg (some (x + 73))) (1 : Int32).toNatClampNeg (some (x + 138))))) := Ft.mono hr_x_72 hLn (hsn _ (by omega))
  replace hz_x_203 : Ft L28 σ28 (x + 203) (.inl (eZ g, 2, none)) := Ft.mono hz_x_203 hLn (hsn _ (by omega))
  replace ho_x : Ft L28 σ28 (x) (.inr (11, [.inr (some (x + 7)), .inr (some (x + 72)), .inr (some (x + 203)), .inr none, .inr none, .inr none, .inr none, .inl 1, .inl 1])) := Ft.mono ho_x hLn (hsn _ (by omega))
  replace mn_x_7 : N28 x 7 = 0 := by rw [hnn _ (by omega)]; exact mn_x_7
  replace mn_x_8 : N28 x 8 = 0 := by rw [hnn _ (by omega)]; exact mn_x_8
  replace mrI_x_7_1 : rInit M28 (x + 7 + 1) := rInit_mono mrI_x_7_1 (fun q h1 h2 => hmn q (by omega))
  replace mm_x_7_2 : M28 (x + 7) 2 = 0 := by rw [hmn _ (by omega)]; exact mm_x_7_2
  replace msI_x_7 : sInit M28 (x + 7) := sInit_mono msI_x_7 (fun q h1 h2 => hmn q (by omega))
  replace mrI_x_73_1 : rInit M28 (x + 73 + 1) := rInit_mono mrI_x_73_1 (fun q h1 h2 => hmn q (by omega))
  replace mm_x_73_2 : M28 (x + 73) 2 = 0 := by rw [hmn _ (by omega)]; exact mm_x_73_2
  replace msI_x_73 : sInit M28 (x + 73) := sInit_mono msI_x_73 (fun q h1 h2 => hmn q (by omega))
  replace mrI_x_138_1 : rInit M28 (x + 138 + 1) := rInit_mono mrI_x_138_1 (fun q h1 h2 => hmn q (by omega))
  replace mm_x_138_2 : M28 (x + 138) 2 = 0 := by rw [hmn _ (by omega)]; exact mm_x_138_2
  replace msI_x_138 : sInit M28 (x + 138) := sInit_mono msI_x_138 (fun q h1 h2 => hmn q (by omega))
  replace mzz_x_203 : ∀ j, M28 (x + 203) j = 0 := by rw [hmn _ (by omega)]; exact mzz_x_203
  replace hσo : ∀ q, (q < x ∨ x + 234 ≤ q) → σ28 q = σ q := fun q h => (hsn q (by omega)).trans (hσo q h)
  replace hMo : ∀ q, (q < x ∨ x + 234 ≤ q) → M28 q = M q := fun q h => (hmn q (by omega)).trans (hMo q h)
  replace hNo : ∀ q, (q < x ∨ x + 234 ≤ q) → N28 q = N q := fun q h => (hnn q (by omega)).trans (hNo q h)
  clear hLn hsn hmn hnn
  have hCs_x_204 : oCourse (gE g L28 σ28) (x + 1) (x + 7 + 1) (x + 204) := p0
  clear eL p0
  refine n_putR hC hmn hw33 hS33 hA ho_x.1 ho_x.2 fl_X11_53 tyX11 tyX11_ok nmX11 rfl rfl rfl rfl rfl dX11_init_136 (fun H locs hw34 hS34 => ?_)
  clear hw33 hS33
  have hwk := hw34.name
  clear hw34
  obtain ⟨L29, σ29, M29, N29, hw34, eL, eσ, eM, eN⟩ := hwk
  have hLn : ∀ q ∈ L28, q ∈ L29 := fun q h => by rw [eL]; exact h
  have hsn : ∀ q, (q < x ∨ x + 1 ≤ q) → σ29 q = σ28 q := fun q h => by rw [eσ]; exact up_out q h
  have hmn : ∀ q, (q < 0 ∨ 0 ≤ q) → M29 q = M28 q := fun q h => by rw [eM]
  have hnn : ∀ q, (q < 0 ∨ 0 ≤ q) → N29 q = N28 q := fun q h => by rw [eN]
  replace hA : ∀ q ∈ L29, cA0 L (x + 1) q := by rw [eL]; exact hA
  replace hLe : L29 = L ++ List.range' (x + 1) 219 := eL.trans hLe
  have mem_o := ho_x.1
  clear ho_x
  replace hKd_x_1 : oKinds (gE g L29 σ29) (x + 1) := oKinds_mono hKd_x_1 hLn (fun q h1 h2 => hsn q (by omega))
  replace hSy_x_7 : oStory (gE g L29 σ29) (x + 1) (x + 7) := oStory_mono hSy_x_7 hLn (fun q h1 h2 => hsn q (by omega)) (fun q h1 h2 => hsn q (by omega))
  replace hSy_x_73 : oStory (gE g L29 σ29) (x + 1) (x + 73) := oStory_mono hSy_x_73 hLn (fun q h1 h2 => hsn q (by omega)) (fun q h1 h2 => hsn q (by omega))
  replace hSy_x_138 : oStory (gE g L29 σ29) (x + 1) (x + 138) := oStory_mono hSy_x_138 hLn (fun q h1 h2 => hsn q (by omega)) (fun q h1 h2 => hsn q (by omega))
  replace hr_x_72 : Ft L29 σ29 (x + 72) (.inl (eS g, 2, some (va_up (va_up (fun _ => none) (0 : Int32).toNatClampNeg (some (x + 73))) (1 : Int32).toNatClampNeg (some (x + 138))))) := Ft.mono hr_x_72 hLn (hsn _ (by omega))
  replace hz_x_203 : Ft L29 σ29 (x + 203) (.inl (eZ g, 2, none)) := Ft.mono hz_x_203 hLn (hsn _ (by omega))
  replace hCs_x_204 : oCourse (gE g L29 σ29) (x + 1) (x + 7 + 1) (x + 204) := oCourse_mono hCs_x_204 hLn (fun q h1 h2 => hsn q (by omega)) (fun q h1 h2 => hsn q (by omega)) (fun q h1 h2 => hsn q (by omega))
  replace mn_x_7 : N29 x 7 = 0 := by rw [hnn _ (by omega)]; exact mn_x_7
  replace mn_x_8 : N29 x 8 = 0 := by rw [hnn _ (by omega)]; exact mn_x_8
  replace mrI_x_7_1 : rInit M29 (x + 7 + 1) := rInit_mono mrI_x_7_1 (fun q h1 h2 => hmn q (by omega))
  replace mm_x_7_2 : M29 (x + 7) 2 = 0 := by rw [hmn _ (by omega)]; exact mm_x_7_2
  replace msI_x_7 : sInit M29 (x + 7) := sInit_mono msI_x_7 (fun q h1 h2 => hmn q (by omega))
  replace mrI_x_73_1 : rInit M29 (x + 73 + 1) := rInit_mono mrI_x_73_1 (fun q h1 h2 => hmn q (by omega))
  replace mm_x_73_2 : M29 (x + 73) 2 = 0 := by rw [hmn _ (by omega)]; exact mm_x_73_2
  replace msI_x_73 : sInit M29 (x + 73) := sInit_mono msI_x_73 (fun q h1 h2 => hmn q (by omega))
  replace mrI_x_138_1 : rInit M29 (x + 138 + 1) := rInit_mono mrI_x_138_1 (fun q h1 h2 => hmn q (by omega))
  replace mm_x_138_2 : M29 (x + 138) 2 = 0 := by rw [hmn _ (by omega)]; exact mm_x_138_2
  replace msI_x_138 : sInit M29 (x + 138) := sInit_mono msI_x_138 (fun q h1 h2 => hmn q (by omega))
  replace mzz_x_203 : ∀ j, M29 (x + 203) j = 0 := by rw [hmn _ (by omega)]; exact mzz_x_203
  replace hσo : ∀ q, (q < x ∨ x + 234 ≤ q) → σ29 q = σ q := fun q h => (hsn q (by omega)).trans (hσo q h)
  replace hMo : ∀ q, (q < x ∨ x + 234 ≤ q) → M29 q = M q := fun q h => (hmn q (by omega)).trans (hMo q h)
  replace hNo : ∀ q, (q < x ∨ x + 234 ≤ q) → N29 q = N q := fun q h => (hnn q (by omega)).trans (hNo q h)
  clear hLn hsn hmn hnn
  have ho_x : Ft L29 σ29 (x) (.inr (11, [.inr (some (x + 7)), .inr (some (x + 72)), .inr (some (x + 203)), .inr (some (x + 204)), .inr none, .inr none, .inr none, .inl 1, .inl 1])) := ⟨by rw [eL]; exact mem_o, by rw [eσ]; exact va_up_self _ _ _⟩
  clear mem_o eL eσ eM eN
  refine lv_aload_n hx hb dX11_init_139 rfl (lv_at hl 2 rfl) ?_
  refine W_end (fun hze => ?_)
  have hz := n_hz hw34 hCs_x_204.2.2.2.2.2.2.2.2.1 hze (by omega)
  clear hze
  refine n_new (ci := 9) (sl := [.inr none, .inl 0, .inl 0, .inl 0, .inl 0]) hC hw34 hS34 hz (by omega) q_43 q_44 q_45 inX9 tyX9 tyX9_ok rfl (by decide) (by show _ ≤ (233 : Nat); omega) (by show _ ≤ (4468 : Nat); omega) dX11_init_140 (fun H hw35 hzf hS35 => ?_)
  clear hw34 hS34
  clear hzf hz
  refine W.widen (k := 220) (n := 4044) (by omega) (by omega) ?_
  have hwk := hw35.name
  clear hw35
  obtain ⟨L30, σ30, M30, N30, hw35, eL, eσ, eM, eN⟩ := hwk
  have hLn : ∀ q ∈ L29, q ∈ L30 := fun q h => by rw [eL]; exact List.mem_append_left _ h
  have hsn : ∀ q, (q < x + 220 ∨ x + 220 + 1 ≤ q) → σ30 q = σ29 q := fun q h => by rw [eσ]; exact up_out q h
  have hmn : ∀ q, (q < x + 220 ∨ x + 220 + 1 ≤ q) → M30 q = M29 q := fun q h => by rw [eM]; exact up_out q h
  have hnn : ∀ q, (q < x + 220 ∨ x + 220 + 1 ≤ q) → N30 q = N29 q := fun q h => by rw [eN]; exact up_out q h
  replace hA : ∀ q ∈ L30, cA0 L (x + 1) q := by rw [eL]; exact hA_snoc hA (Or.inr (by omega))
  replace hLe : L30 = L ++ List.range' (x + 1) 220 := by rw [eL]; exact (congrArg (fun t => t ++ _) hLe).trans (snoc_r (by omega))
  replace hKd_x_1 : oKinds (gE g L30 σ30) (x + 1) := oKinds_mono hKd_x_1 hLn (fun q h1 h2 => hsn q (by omega))
  replace hSy_x_7 : oStory (gE g L30 σ30) (x + 1) (x + 7) := oStory_mono hSy_x_7 hLn (fun q h1 h2 => hsn q (by omega)) (fun q h1 h2 => hsn q (by omega))
  replace hSy_x_73 : oStory (gE g L30 σ30) (x + 1) (x + 73) := oStory_mono hSy_x_73 hLn (fun q h1 h2 => hsn q (by omega)) (fun q h1 h2 => hsn q (by omega))
  replace hSy_x_138 : oStory (gE g L30 σ30) (x + 1) (x + 138) := oStory_mono hSy_x_138 hLn (fun q h1 h2 => hsn q (by omega)) (fun q h1 h2 => hsn q (by omega))
  replace hr_x_72 : Ft L30 σ30 (x + 72) (.inl (eS g, 2, some (va_up (va_up (fun _ => none) (0 : Int32).toNatClampNeg (some (x + 73))) (1 : Int32).toNatClampNeg (some (x + 138))))) := Ft.mono hr_x_72 hLn (hsn _ (by omega))
  replace hz_x_203 : Ft L30 σ30 (x + 203) (.inl (eZ g, 2, none)) := Ft.mono hz_x_203 hLn (hsn _ (by omega))
  replace hCs_x_204 : oCourse (gE g L30 σ30) (x + 1) (x + 7 + 1) (x + 204) := oCourse_mono hCs_x_204 hLn (fun q h1 h2 => hsn q (by omega)) (fun q h1 h2 => hsn q (by omega)) (fun q h1 h2 => hsn q (by omega))
  replace ho_x : Ft L30 σ30 (x) (.inr (11, [.inr (some (x + 7)), .inr (some (x + 72)), .inr (some (x + 203)), .inr (some (x + 204)), .inr none, .inr none, .inr none, .inl 1, .inl 1])) := Ft.mono ho_x hLn (hsn _ (by omega))
  replace mn_x_7 : N30 x 7 = 0 := by rw [hnn _ (by omega)]; exact mn_x_7
  replace mn_x_8 : N30 x 8 = 0 := by rw [hnn _ (by omega)]; exact mn_x_8
  replace mrI_x_7_1 : rInit M30 (x + 7 + 1) := rInit_mono mrI_x_7_1 (fun q h1 h2 => hmn q (by omega))
  replace mm_x_7_2 : M30 (x + 7) 2 = 0 := by rw [hmn _ (by omega)]; exact mm_x_7_2
  replace msI_x_7 : sInit M30 (x + 7) := sInit_mono msI_x_7 (fun q h1 h2 => hmn q (by omega))
  replace mrI_x_73_1 : rInit M30 (x + 73 + 1) := rInit_mono mrI_x_73_1 (fun q h1 h2 => hmn q (by omega))
  replace mm_x_73_2 : M30 (x + 73) 2 = 0 := by rw [hmn _ (by omega)]; exact mm_x_73_2
  replace msI_x_73 : sInit M30 (x + 73) := sInit_mono msI_x_73 (fun q h1 h2 => hmn q (by omega))
  replace mrI_x_138_1 : rInit M30 (x + 138 + 1) := rInit_mono mrI_x_138_1 (fun q h1 h2 => hmn q (by omega))
  replace mm_x_138_2 : M30 (x + 138) 2 = 0 := by rw [hmn _ (by omega)]; exact mm_x_138_2
  replace msI_x_138 : sInit M30 (x + 138) := sInit_mono msI_x_138 (fun q h1 h2 => hmn q (by omega))
  replace mzz_x_203 : ∀ j, M30 (x + 203) j = 0 := by rw [hmn _ (by omega)]; exact mzz_x_203
  replace hσo : ∀ q, (q < x ∨ x + 234 ≤ q) → σ30 q = σ q := fun q h => (hsn q (by omega)).trans (hσo q h)
  replace hMo : ∀ q, (q < x ∨ x + 234 ≤ q) → M30 q = M q := fun q h => (hmn q (by omega)).trans (hMo q h)
  replace hNo : ∀ q, (q < x ∨ x + 234 ≤ q) → N30 q = N q := fun q h => (hnn q (by omega)).trans (hNo q h)
  clear hLn hsn hmn hnn
  have ho_x_220 : Ft L30 σ30 (x + 220) (.inr (9, [.inr none, .inl 0, .inl 0, .inl 0, .inl 0])) := ⟨by rw [eL]; simp, by rw [eσ]; exact va_up_self _ _ _⟩
  have mm_x_220_1 : M30 (x + 220) 1 = 0 := by rw [eM, va_up_self]
  have mm_x_220_2 : M30 (x + 220) 2 = 0 := by rw [eM, va_up_self]
  have mm_x_220_3 : M30 (x + 220) 3 = 0 := by rw [eM, va_up_self]
  have mm_x_220_4 : M30 (x + 220) 4 = 0 := by rw [eM, va_up_self]
  clear eL eσ eM eN
  refine lv_dup hx hb dX11_init_143 rfl ?_
  refine W_end (fun hze => ?_)
  have hz := n_hz hw35 ho_x_220.1 hze (by omega)
  clear hze
  refine n_callI (na := 0) (As := []) (rest := [.ref (x + 220), .ref x]) hC hw35 hS35 hA (fun q h => Or.inr (by omega)) hB hz (kc_X9_init (t := x + 220) (by omega) ho_x_220 mm_x_220_1 mm_x_220_2 mm_x_220_3 mm_x_220_4) ⟨q_131, q_45, by decide, by decide, by decide⟩ q_129 q_130 rfl ⟨by decide, by decide, by show _ ≤ (233 : Nat); omega, by show _ ≤ (4468 : Nat); omega⟩ rfl hl.1 rfl (Nat.le_of_ble_eq_true rfl) dX11_init_144 (fun u H locs hpost hwp hS36 => ?_)
  refine W.widen (k := 221) (n := 4294) (by omega) (by omega) ?_
  obtain ⟨L31, σ31, M31, N31⟩ := u
  obtain ⟨⟨eL, hsn, hmn, hnn⟩, p0, p1⟩ := hpost
  simp only at eL hsn hmn hnn hwp
  have hLn : ∀ q ∈ L30, q ∈ L31 := fun q h => by rw [eL]; exact List.mem_append_left _ h
  replace hA : ∀ q ∈ L31, cA0 L (x + 1) q := by rw [eL]; exact hA_app hA (fun q h => Or.inr (by omega))
  replace hLe : L31 = L ++ List.range' (x + 1) 221 := by rw [eL]; exact (congrArg (fun t => t ++ _) hLe).trans (app_r (by omega))
  have hw36 : Wc g z0 L31 σ31 M31 N31 H := ⟨hwp, by rw [eL]; exact nd_app hw35.2.1 (fun q h => by have := wP_lt hw35.1 h; omega), by rw [eL]; exact ge_app hw35.2.2 (by omega)⟩
  clear hwp hz hw35 hS35
  clear ho_x_220 mm_x_220_1 mm_x_220_2 mm_x_220_3 mm_x_220_4
  replace hKd_x_1 : oKinds (gE g L31 σ31) (x + 1) := oKinds_mono hKd_x_1 hLn (fun q h1 h2 => hsn q (by omega))
  replace hSy_x_7 : oStory (gE g L31 σ31) (x + 1) (x + 7) := oStory_mono hSy_x_7 hLn (fun q h1 h2 => hsn q (by omega)) (fun q h1 h2 => hsn q (by omega))
  replace hSy_x_73 : oStory (gE g L31 σ31) (x + 1) (x + 73) := oStory_mono hSy_x_73 hLn (fun q h1 h2 => hsn q (by omega)) (fun q h1 h2 => hsn q (by omega))
  replace hSy_x_138 : oStory (gE g L31 σ31) (x + 1) (x + 138) := oStory_mono hSy_x_138 hLn (fun q h1 h2 => hsn q (by omega)) (fun q h1 h2 => hsn q (by omega))
  replace hr_x_72 : Ft L31 σ31 (x + 72) (.inl (eS g, 2, some (va_up (va_up (fun _ => none) (0 : Int32).toNatClampNeg (some (x + 73))) (1 : Int32).toNatClampNeg (some (x + 138))))) := Ft.mono hr_x_72 hLn (hsn _ (by omega))
  replace hz_x_203 : Ft L31 σ31 (x + 203) (.inl (eZ g, 2, none)) := Ft.mono hz_x_203 hLn (hsn _ (by omega))
  replace hCs_x_204 : oCourse (gE g L31 σ31) (x + 1) (x + 7 + 1) (x + 204) := oCourse_mono hCs_x_204 hLn (fun q h1 h2 => hsn q (by omega)) (fun q h1 h2 => hsn q (by omega)) (fun q h1 h2 => hsn q (by omega))
  replace ho_x : Ft L31 σ31 (x) (.inr (11, [.inr (some (x + 7)), .inr (some (x + 72)), .inr (some (x + 203)), .inr (some (x + 204)), .inr none, .inr none, .inr none, .inl 1, .inl 1])) := Ft.mono ho_x hLn (hsn _ (by omega))
  replace mn_x_7 : N31 x 7 = 0 := by rw [hnn _ (by omega)]; exact mn_x_7
  replace mn_x_8 : N31 x 8 = 0 := by rw [hnn _ (by omega)]; exact mn_x_8
  replace mrI_x_7_1 : rInit M31 (x + 7 + 1) := rInit_mono mrI_x_7_1 (fun q h1 h2 => hmn q (by omega))
  replace mm_x_7_2 : M31 (x + 7) 2 = 0 := by rw [hmn _ (by omega)]; exact mm_x_7_2
  replace msI_x_7 : sInit M31 (x + 7) := sInit_mono msI_x_7 (fun q h1 h2 => hmn q (by omega))
  replace mrI_x_73_1 : rInit M31 (x + 73 + 1) := rInit_mono mrI_x_73_1 (fun q h1 h2 => hmn q (by omega))
  replace mm_x_73_2 : M31 (x + 73) 2 = 0 := by rw [hmn _ (by omega)]; exact mm_x_73_2
  replace msI_x_73 : sInit M31 (x + 73) := sInit_mono msI_x_73 (fun q h1 h2 => hmn q (by omega))
  replace mrI_x_138_1 : rInit M31 (x + 138 + 1) := rInit_mono mrI_x_138_1 (fun q h1 h2 => hmn q (by omega))
  replace mm_x_138_2 : M31 (x + 138) 2 = 0 := by rw [hmn _ (by omega)]; exact mm_x_138_2
  replace msI_x_138 : sInit M31 (x + 138) := sInit_mono msI_x_138 (fun q h1 h2 => hmn q (by omega))
  replace mzz_x_203 : ∀ j, M31 (x + 203) j = 0 := by rw [hmn _ (by omega)]; exact mzz_x_203
  replace hσo : ∀ q, (q < x ∨ x + 234 ≤ q) → σ31 q = σ q := fun q h => (hsn q (by omega)).trans (hσo q h)
  replace hMo : ∀ q, (q < x ∨ x + 234 ≤ q) → M31 q = M q := fun q h => (hmn q (by omega)).trans (hMo q h)
  replace hNo : ∀ q, (q < x ∨ x + 234 ≤ q) → N31 q = N q := fun q h => (hnn q (by omega)).trans (hNo q h)
  clear hLn hsn hmn hnn
  have hTx_x_220 : oText (gE g L31 σ31) (x + 220) := p0
  have mm_x_220_1 : M31 (x + 220) 1 = 0 := p1
  clear eL p0 p1
  refine n_putR hC hmn hw36 hS36 hA ho_x.1 ho_x.2 fl_X11_60 tyX11 tyX11_ok nmX11 rfl rfl rfl rfl rfl dX11_init_147 (fun H locs hw37 hS37 => ?_)
  clear hw36 hS36
  have hwk := hw37.name
  clear hw37
  obtain ⟨L32, σ32, M32, N32, hw37, eL, eσ, eM, eN⟩ := hwk
  have hLn : ∀ q ∈ L31, q ∈ L32 := fun q h => by rw [eL]; exact h
  have hsn : ∀ q, (q < x ∨ x + 1 ≤ q) → σ32 q = σ31 q := fun q h => by rw [eσ]; exact up_out q h
  have hmn : ∀ q, (q < 0 ∨ 0 ≤ q) → M32 q = M31 q := fun q h => by rw [eM]
  have hnn : ∀ q, (q < 0 ∨ 0 ≤ q) → N32 q = N31 q := fun q h => by rw [eN]
  replace hA : ∀ q ∈ L32, cA0 L (x + 1) q := by rw [eL]; exact hA
  replace hLe : L32 = L ++ List.range' (x + 1) 221 := eL.trans hLe
  have mem_o := ho_x.1
  clear ho_x
  replace hKd_x_1 : oKinds (gE g L32 σ32) (x + 1) := oKinds_mono hKd_x_1 hLn (fun q h1 h2 => hsn q (by omega))
  replace hSy_x_7 : oStory (gE g L32 σ32) (x + 1) (x + 7) := oStory_mono hSy_x_7 hLn (fun q h1 h2 => hsn q (by omega)) (fun q h1 h2 => hsn q (by omega))
  replace hSy_x_73 : oStory (gE g L32 σ32) (x + 1) (x + 73) := oStory_mono hSy_x_73 hLn (fun q h1 h2 => hsn q (by omega)) (fun q h1 h2 => hsn q (by omega))
  replace hSy_x_138 : oStory (gE g L32 σ32) (x + 1) (x + 138) := oStory_mono hSy_x_138 hLn (fun q h1 h2 => hsn q (by omega)) (fun q h1 h2 => hsn q (by omega))
  replace hr_x_72 : Ft L32 σ32 (x + 72) (.inl (eS g, 2, some (va_up (va_up (fun _ => none) (0 : Int32).toNatClampNeg (some (x + 73))) (1 : Int32).toNatClampNeg (some (x + 138))))) := Ft.mono hr_x_72 hLn (hsn _ (by omega))
  replace hz_x_203 : Ft L32 σ32 (x + 203) (.inl (eZ g, 2, none)) := Ft.mono hz_x_203 hLn (hsn _ (by omega))
  replace hCs_x_204 : oCourse (gE g L32 σ32) (x + 1) (x + 7 + 1) (x + 204) := oCourse_mono hCs_x_204 hLn (fun q h1 h2 => hsn q (by omega)) (fun q h1 h2 => hsn q (by omega)) (fun q h1 h2 => hsn q (by omega))
  replace hTx_x_220 : oText (gE g L32 σ32) (x + 220) := oText_mono hTx_x_220 hLn (fun q h1 h2 => hsn q (by omega))
  replace mn_x_7 : N32 x 7 = 0 := by rw [hnn _ (by omega)]; exact mn_x_7
  replace mn_x_8 : N32 x 8 = 0 := by rw [hnn _ (by omega)]; exact mn_x_8
  replace mrI_x_7_1 : rInit M32 (x + 7 + 1) := rInit_mono mrI_x_7_1 (fun q h1 h2 => hmn q (by omega))
  replace mm_x_7_2 : M32 (x + 7) 2 = 0 := by rw [hmn _ (by omega)]; exact mm_x_7_2
  replace msI_x_7 : sInit M32 (x + 7) := sInit_mono msI_x_7 (fun q h1 h2 => hmn q (by omega))
  replace mrI_x_73_1 : rInit M32 (x + 73 + 1) := rInit_mono mrI_x_73_1 (fun q h1 h2 => hmn q (by omega))
  replace mm_x_73_2 : M32 (x + 73) 2 = 0 := by rw [hmn _ (by omega)]; exact mm_x_73_2
  replace msI_x_73 : sInit M32 (x + 73) := sInit_mono msI_x_73 (fun q h1 h2 => hmn q (by omega))
  replace mrI_x_138_1 : rInit M32 (x + 138 + 1) := rInit_mono mrI_x_138_1 (fun q h1 h2 => hmn q (by omega))
  replace mm_x_138_2 : M32 (x + 138) 2 = 0 := by rw [hmn _ (by omega)]; exact mm_x_138_2
  replace msI_x_138 : sInit M32 (x + 138) := sInit_mono msI_x_138 (fun q h1 h2 => hmn q (by omega))
  replace mzz_x_203 : ∀ j, M32 (x + 203) j = 0 := by rw [hmn _ (by omega)]; exact mzz_x_203
  replace mm_x_220_1 : M32 (x + 220) 1 = 0 := by rw [hmn _ (by omega)]; exact mm_x_220_1
  replace hσo : ∀ q, (q < x ∨ x + 234 ≤ q) → σ32 q = σ q := fun q h => (hsn q (by omega)).trans (hσo q h)
  replace hMo : ∀ q, (q < x ∨ x + 234 ≤ q) → M32 q = M q := fun q h => (hmn q (by omega)).trans (hMo q h)
  replace hNo : ∀ q, (q < x ∨ x + 234 ≤ q) → N32 q = N q := fun q h => (hnn q (by omega)).trans (hNo q h)
  clear hLn hsn hmn hnn
  have ho_x : Ft L32 σ32 (x) (.inr (11, [.inr (some (x + 7)), .inr (some (x + 72)), .inr (some (x + 203)), .inr (some (x + 204)), .inr (some (x + 220)), .inr none, .inr none, .inl 1, .inl 1])) := ⟨by rw [eL]; exact mem_o, by rw [eσ]; exact va_up_self _ _ _⟩
  clear mem_o eL eσ eM eN
  refine lv_aload_n hx hb dX11_init_150 rfl (lv_at hl 2 rfl) ?_
  refine W_end (fun hze => ?_)
  have hz := n_hz hw37 hTx_x_220.2.1 hze (by omega)
  clear hze
  refine n_new (ci := 4) (sl := [.inr none, .inr none, .inr none]) hC hw37 hS37 hz (by omega) q_47 q_48 q_49 inX4 tyX4 tyX4_ok rfl (by decide) (by show _ ≤ (233 : Nat); omega) (by show _ ≤ (4468 : Nat); omega) dX11_init_151 (fun H hw38 hzf hS38 => ?_)
  clear hw37 hS37
  clear hzf hz
  refine W.widen (k := 222) (n := 4297) (by omega) (by omega) ?_
  have hwk := hw38.name
  clear hw38
  obtain ⟨L33, σ33, M33, N33, hw38, eL, eσ, eM, eN⟩ := hwk
  have hLn : ∀ q ∈ L32, q ∈ L33 := fun q h => by rw [eL]; exact List.mem_append_left _ h
  have hsn : ∀ q, (q < x + 222 ∨ x + 222 + 1 ≤ q) → σ33 q = σ32 q := fun q h => by rw [eσ]; exact up_out q h
  have hmn : ∀ q, (q < x + 222 ∨ x + 222 + 1 ≤ q) → M33 q = M32 q := fun q h => by rw [eM]; exact up_out q h
  have hnn : ∀ q, (q < x + 222 ∨ x + 222 + 1 ≤ q) → N33 q = N32 q := fun q h => by rw [eN]; exact up_out q h
  replace hA : ∀ q ∈ L33, cA0 L (x + 1) q := by rw [eL]; exact hA_snoc hA (Or.inr (by omega))
  replace hLe : L33 = L ++ List.range' (x + 1) 222 := by rw [eL]; exact (congrArg (fun t => t ++ _) hLe).trans (snoc_r (by omega))
  replace hKd_x_1 : oKinds (gE g L33 σ33) (x + 1) := oKinds_mono hKd_x_1 hLn (fun q h1 h2 => hsn q (by omega))
  replace hSy_x_7 : oStory (gE g L33 σ33) (x + 1) (x + 7) := oStory_mono hSy_x_7 hLn (fun q h1 h2 => hsn q (by omega)) (fun q h1 h2 => hsn q (by omega))
  replace hSy_x_73 : oStory (gE g L33 σ33) (x + 1) (x + 73) := oStory_mono hSy_x_73 hLn (fun q h1 h2 => hsn q (by omega)) (fun q h1 h2 => hsn q (by omega))
  replace hSy_x_138 : oStory (gE g L33 σ33) (x + 1) (x + 138) := oStory_mono hSy_x_138 hLn (fun q h1 h2 => hsn q (by omega)) (fun q h1 h2 => hsn q (by omega))
  replace hr_x_72 : Ft L33 σ33 (x + 72) (.inl (eS g, 2, some (va_up (va_up (fun _ => none) (0 : Int32).toNatClampNeg (some (x + 73))) (1 : Int32).toNatClampNeg (some (x + 138))))) := Ft.mono hr_x_72 hLn (hsn _ (by omega))
  replace hz_x_203 : Ft L33 σ33 (x + 203) (.inl (eZ g, 2, none)) := Ft.mono hz_x_203 hLn (hsn _ (by omega))
  replace hCs_x_204 : oCourse (gE g L33 σ33) (x + 1) (x + 7 + 1) (x + 204) := oCourse_mono hCs_x_204 hLn (fun q h1 h2 => hsn q (by omega)) (fun q h1 h2 => hsn q (by omega)) (fun q h1 h2 => hsn q (by omega))
  replace hTx_x_220 : oText (gE g L33 σ33) (x + 220) := oText_mono hTx_x_220 hLn (fun q h1 h2 => hsn q (by omega))
  replace ho_x : Ft L33 σ33 (x) (.inr (11, [.inr (some (x + 7)), .inr (some (x + 72)), .inr (some (x + 203)), .inr (some (x + 204)), .inr (some (x + 220)), .inr none, .inr none, .inl 1, .inl 1])) := Ft.mono ho_x hLn (hsn _ (by omega))
  replace mn_x_7 : N33 x 7 = 0 := by rw [hnn _ (by omega)]; exact mn_x_7
  replace mn_x_8 : N33 x 8 = 0 := by rw [hnn _ (by omega)]; exact mn_x_8
  replace mrI_x_7_1 : rInit M33 (x + 7 + 1) := rInit_mono mrI_x_7_1 (fun q h1 h2 => hmn q (by omega))
  replace mm_x_7_2 : M33 (x + 7) 2 = 0 := by rw [hmn _ (by omega)]; exact mm_x_7_2
  replace msI_x_7 : sInit M33 (x + 7) := sInit_mono msI_x_7 (fun q h1 h2 => hmn q (by omega))
  replace mrI_x_73_1 : rInit M33 (x + 73 + 1) := rInit_mono mrI_x_73_1 (fun q h1 h2 => hmn q (by omega))
  replace mm_x_73_2 : M33 (x + 73) 2 = 0 := by rw [hmn _ (by omega)]; exact mm_x_73_2
  replace msI_x_73 : sInit M33 (x + 73) := sInit_mono msI_x_73 (fun q h1 h2 => hmn q (by omega))
  replace mrI_x_138_1 : rInit M33 (x + 138 + 1) := rInit_mono mrI_x_138_1 (fun q h1 h2 => hmn q (by omega))
  replace mm_x_138_2 : M33 (x + 138) 2 = 0 := by rw [hmn _ (by omega)]; exact mm_x_138_2
  replace msI_x_138 : sInit M33 (x + 138) := sInit_mono msI_x_138 (fun q h1 h2 => hmn q (by omega))
  replace mzz_x_203 : ∀ j, M33 (x + 203) j = 0 := by rw [hmn _ (by omega)]; exact mzz_x_203
  replace mm_x_220_1 : M33 (x + 220) 1 = 0 := by rw [hmn _ (by omega)]; exact mm_x_220_1
  replace hσo : ∀ q, (q < x ∨ x + 234 ≤ q) → σ33 q = σ q := fun q h => (hsn q (by omega)).trans (hσo q h)
  replace hMo : ∀ q, (q < x ∨ x + 234 ≤ q) → M33 q = M q := fun q h => (hmn q (by omega)).trans (hMo q h)
  replace hNo : ∀ q, (q < x ∨ x + 234 ≤ q) → N33 q = N q := fun q h => (hnn q (by omega)).trans (hNo q h)
  clear hLn hsn hmn hnn
  have ho_x_222 : Ft L33 σ33 (x + 222) (.inr (4, [.inr none, .inr none, .inr none])) := ⟨by rw [eL]; simp, by rw [eσ]; exact va_up_self _ _ _⟩
  clear eL eσ eM eN
  refine lv_dup hx hb dX11_init_154 rfl ?_
  refine lv_aload_n hx hb dX11_init_155 rfl (lv_at hl 2 rfl) ?_
  refine n_getR hC hw38 ho_x.1 ho_x.2 fl_X11_60 rfl dX11_init_156 ?_
  refine W_end (fun hze => ?_)
  have hz := n_hz hw38 ho_x_222.1 hze (by omega)
  clear hze
  refine n_new (ci := 5) (sl := [.inr none, .inr none, .inr none, .inr none, .inr none, .inr none, .inr none, .inr none, .inr none, .inl 0, .inl 0, .inl 0, .inl 0]) hC hw38 hS38 hz (by omega) q_39 q_40 q_41 inX5 tyX5 tyX5_ok rfl (by decide) (by show _ ≤ (233 : Nat); omega) (by show _ ≤ (4468 : Nat); omega) dX11_init_159 (fun H hw39 hzf hS39 => ?_)
  clear hw38 hS38
  clear hzf hz
  refine W.widen (k := 223) (n := 4310) (by omega) (by omega) ?_
  have hwk := hw39.name
  clear hw39
  obtain ⟨L34, σ34, M34, N34, hw39, eL, eσ, eM, eN⟩ := hwk
  have hLn : ∀ q ∈ L33, q ∈ L34 := fun q h => by rw [eL]; exact List.mem_append_left _ h
  have hsn : ∀ q, (q < x + 223 ∨ x + 223 + 1 ≤ q) → σ34 q = σ33 q := fun q h => by rw [eσ]; exact up_out q h
  have hmn : ∀ q, (q < x + 223 ∨ x + 223 + 1 ≤ q) → M34 q = M33 q := fun q h => by rw [eM]; exact up_out q h
  have hnn : ∀ q, (q < x + 223 ∨ x + 223 + 1 ≤ q) → N34 q = N33 q := fun q h => by rw [eN]; exact up_out q h
  replace hA : ∀ q ∈ L34, cA0 L (x + 1) q := by rw [eL]; exact hA_snoc hA (Or.inr (by omega))
  replace hLe : L34 = L ++ List.range' (x + 1) 223 := by rw [eL]; exact (congrArg (fun t => t ++ _) hLe).trans (snoc_r (by omega))
  replace hKd_x_1 : oKinds (gE g L34 σ34) (x + 1) := oKinds_mono hKd_x_1 hLn (fun q h1 h2 => hsn q (by omega))
  replace hSy_x_7 : oStory (gE g L34 σ34) (x + 1) (x + 7) := oStory_mono hSy_x_7 hLn (fun q h1 h2 => hsn q (by omega)) (fun q h1 h2 => hsn q (by omega))
  replace hSy_x_73 : oStory (gE g L34 σ34) (x + 1) (x + 73) := oStory_mono hSy_x_73 hLn (fun q h1 h2 => hsn q (by omega)) (fun q h1 h2 => hsn q (by omega))
  replace hSy_x_138 : oStory (gE g L34 σ34) (x + 1) (x + 138) := oStory_mono hSy_x_138 hLn (fun q h1 h2 => hsn q (by omega)) (fun q h1 h2 => hsn q (by omega))
  replace hr_x_72 : Ft L34 σ34 (x + 72) (.inl (eS g, 2, some (va_up (va_up (fun _ => none) (0 : Int32).toNatClampNeg (some (x + 73))) (1 : Int32).toNatClampNeg (some (x + 138))))) := Ft.mono hr_x_72 hLn (hsn _ (by omega))
  replace hz_x_203 : Ft L34 σ34 (x + 203) (.inl (eZ g, 2, none)) := Ft.mono hz_x_203 hLn (hsn _ (by omega))
  replace hCs_x_204 : oCourse (gE g L34 σ34) (x + 1) (x + 7 + 1) (x + 204) := oCourse_mono hCs_x_204 hLn (fun q h1 h2 => hsn q (by omega)) (fun q h1 h2 => hsn q (by omega)) (fun q h1 h2 => hsn q (by omega))
  replace hTx_x_220 : oText (gE g L34 σ34) (x + 220) := oText_mono hTx_x_220 hLn (fun q h1 h2 => hsn q (by omega))
  replace ho_x : Ft L34 σ34 (x) (.inr (11, [.inr (some (x + 7)), .inr (some (x + 72)), .inr (some (x + 203)), .inr (some (x + 204)), .inr (some (x + 220)), .inr none, .inr none, .inl 1, .inl 1])) := Ft.mono ho_x hLn (hsn _ (by omega))
  replace ho_x_222 : Ft L34 σ34 (x + 222) (.inr (4, [.inr none, .inr none, .inr none])) := Ft.mono ho_x_222 hLn (hsn _ (by omega))
  replace mn_x_7 : N34 x 7 = 0 := by rw [hnn _ (by omega)]; exact mn_x_7
  replace mn_x_8 : N34 x 8 = 0 := by rw [hnn _ (by omega)]; exact mn_x_8
  replace mrI_x_7_1 : rInit M34 (x + 7 + 1) := rInit_mono mrI_x_7_1 (fun q h1 h2 => hmn q (by omega))
  replace mm_x_7_2 : M34 (x + 7) 2 = 0 := by rw [hmn _ (by omega)]; exact mm_x_7_2
  replace msI_x_7 : sInit M34 (x + 7) := sInit_mono msI_x_7 (fun q h1 h2 => hmn q (by omega))
  replace mrI_x_73_1 : rInit M34 (x + 73 + 1) := rInit_mono mrI_x_73_1 (fun q h1 h2 => hmn q (by omega))
  replace mm_x_73_2 : M34 (x + 73) 2 = 0 := by rw [hmn _ (by omega)]; exact mm_x_73_2
  replace msI_x_73 : sInit M34 (x + 73) := sInit_mono msI_x_73 (fun q h1 h2 => hmn q (by omega))
  replace mrI_x_138_1 : rInit M34 (x + 138 + 1) := rInit_mono mrI_x_138_1 (fun q h1 h2 => hmn q (by omega))
  replace mm_x_138_2 : M34 (x + 138) 2 = 0 := by rw [hmn _ (by omega)]; exact mm_x_138_2
  replace msI_x_138 : sInit M34 (x + 138) := sInit_mono msI_x_138 (fun q h1 h2 => hmn q (by omega))
  replace mzz_x_203 : ∀ j, M34 (x + 203) j = 0 := by rw [hmn _ (by omega)]; exact mzz_x_203
  replace mm_x_220_1 : M34 (x + 220) 1 = 0 := by rw [hmn _ (by omega)]; exact mm_x_220_1
  replace hσo : ∀ q, (q < x ∨ x + 234 ≤ q) → σ34 q = σ q := fun q h => (hsn q (by omega)).trans (hσo q h)
  replace hMo : ∀ q, (q < x ∨ x + 234 ≤ q) → M34 q = M q := fun q h => (hmn q (by omega)).trans (hMo q h)
  replace hNo : ∀ q, (q < x ∨ x + 234 ≤ q) → N34 q = N q := fun q h => (hnn q (by omega)).trans (hNo q h)
  clear hLn hsn hmn hnn
  have ho_x_223 : Ft L34 σ34 (x + 223) (.inr (5, [.inr none, .inr none, .inr none, .inr none, .inr none, .inr none, .inr none, .inr none, .inr none, .inl 0, .inl 0, .inl 0, .inl 0])) := ⟨by rw [eL]; simp, by rw [eσ]; exact va_up_self _ _ _⟩
  clear eL eσ eM eN
  refine lv_dup hx hb dX11_init_162 rfl ?_
  refine lv_aload_n hx hb dX11_init_163 rfl (lv_at hl 1 rfl) ?_
  refine W_end (fun hze => ?_)
  have hz := n_hz hw39 ho_x_223.1 hze (by omega)
  clear hze
  refine n_callI (na := 1) (As := [.ref (x + 1)]) (rest := [.ref (x + 223), .ref (x + 220), .ref (x + 222), .ref (x + 222), .ref x]) hC hw39 hS39 hA (fun q h => Or.inr (by omega)) hB hz (kc_X5_init (a := x + 223) (kd := x + 1) (by omega) (by omega) hKd_x_1 ho_x_223) ⟨q_86, q_41, by decide, by decide, by decide⟩ q_109 q_85 rfl ⟨by decide, by decide, by show _ ≤ (233 : Nat); omega, by show _ ≤ (4468 : Nat); omega⟩ rfl hl.1 rfl (Nat.le_of_ble_eq_true rfl) dX11_init_164 (fun u H locs hpost hwp hS40 => ?_)
  refine W.widen (k := 231) (n := 4461) (by omega) (by omega) ?_
  obtain ⟨L35, σ35, M35, N35⟩ := u
  obtain ⟨⟨eL, hsn, hmn, hnn⟩, p0, p1⟩ := hpost
  simp only at eL hsn hmn hnn hwp
  have hLn : ∀ q ∈ L34, q ∈ L35 := fun q h => by rw [eL]; exact List.mem_append_left _ h
  replace hA : ∀ q ∈ L35, cA0 L (x + 1) q := by rw [eL]; exact hA_app hA (fun q h => Or.inr (by omega))
  replace hLe : L35 = L ++ List.range' (x + 1) 231 := by rw [eL]; exact (congrArg (fun t => t ++ _) hLe).trans (app_r (by omega))
  have hw40 : Wc g z0 L35 σ35 M35 N35 H := ⟨hwp, by rw [eL]; exact nd_app hw39.2.1 (fun q h => by have := wP_lt hw39.1 h; omega), by rw [eL]; exact ge_app hw39.2.2 (by omega)⟩
  clear hwp hz hw39 hS39
  clear ho_x_223
  replace hKd_x_1 : oKinds (gE g L35 σ35) (x + 1) := oKinds_mono hKd_x_1 hLn (fun q h1 h2 => hsn q (by omega))
  replace hSy_x_7 : oStory (gE g L35 σ35) (x + 1) (x + 7) := oStory_mono hSy_x_7 hLn (fun q h1 h2 => hsn q (by omega)) (fun q h1 h2 => hsn q (by omega))
  replace hSy_x_73 : oStory (gE g L35 σ35) (x + 1) (x + 73) := oStory_mono hSy_x_73 hLn (fun q h1 h2 => hsn q (by omega)) (fun q h1 h2 => hsn q (by omega))
  replace hSy_x_138 : oStory (gE g L35 σ35) (x + 1) (x + 138) := oStory_mono hSy_x_138 hLn (fun q h1 h2 => hsn q (by omega)) (fun q h1 h2 => hsn q (by omega))
  replace hr_x_72 : Ft L35 σ35 (x + 72) (.inl (eS g, 2, some (va_up (va_up (fun _ => none) (0 : Int32).toNatClampNeg (some (x + 73))) (1 : Int32).toNatClampNeg (some (x + 138))))) := Ft.mono hr_x_72 hLn (hsn _ (by omega))
  replace hz_x_203 : Ft L35 σ35 (x + 203) (.inl (eZ g, 2, none)) := Ft.mono hz_x_203 hLn (hsn _ (by omega))
  replace hCs_x_204 : oCourse (gE g L35 σ35) (x + 1) (x + 7 + 1) (x + 204) := oCourse_mono hCs_x_204 hLn (fun q h1 h2 => hsn q (by omega)) (fun q h1 h2 => hsn q (by omega)) (fun q h1 h2 => hsn q (by omega))
  replace hTx_x_220 : oText (gE g L35 σ35) (x + 220) := oText_mono hTx_x_220 hLn (fun q h1 h2 => hsn q (by omega))
  replace ho_x : Ft L35 σ35 (x) (.inr (11, [.inr (some (x + 7)), .inr (some (x + 72)), .inr (some (x + 203)), .inr (some (x + 204)), .inr (some (x + 220)), .inr none, .inr none, .inl 1, .inl 1])) := Ft.mono ho_x hLn (hsn _ (by omega))
  replace ho_x_222 : Ft L35 σ35 (x + 222) (.inr (4, [.inr none, .inr none, .inr none])) := Ft.mono ho_x_222 hLn (hsn _ (by omega))
  replace mn_x_7 : N35 x 7 = 0 := by rw [hnn _ (by omega)]; exact mn_x_7
  replace mn_x_8 : N35 x 8 = 0 := by rw [hnn _ (by omega)]; exact mn_x_8
  replace mrI_x_7_1 : rInit M35 (x + 7 + 1) := rInit_mono mrI_x_7_1 (fun q h1 h2 => hmn q (by omega))
  replace mm_x_7_2 : M35 (x + 7) 2 = 0 := by rw [hmn _ (by omega)]; exact mm_x_7_2
  replace msI_x_7 : sInit M35 (x + 7) := sInit_mono msI_x_7 (fun q h1 h2 => hmn q (by omega))
  replace mrI_x_73_1 : rInit M35 (x + 73 + 1) := rInit_mono mrI_x_73_1 (fun q h1 h2 => hmn q (by omega))
  replace mm_x_73_2 : M35 (x + 73) 2 = 0 := by rw [hmn _ (by omega)]; exact mm_x_73_2
  replace msI_x_73 : sInit M35 (x + 73) := sInit_mono msI_x_73 (fun q h1 h2 => hmn q (by omega))
  replace mrI_x_138_1 : rInit M35 (x + 138 + 1) := rInit_mono mrI_x_138_1 (fun q h1 h2 => hmn q (by omega))
  replace mm_x_138_2 : M35 (x + 138) 2 = 0 := by rw [hmn _ (by omega)]; exact mm_x_138_2
  replace msI_x_138 : sInit M35 (x + 138) := sInit_mono msI_x_138 (fun q h1 h2 => hmn q (by omega))
  replace mzz_x_203 : ∀ j, M35 (x + 203) j = 0 := by rw [hmn _ (by omega)]; exact mzz_x_203
  replace mm_x_220_1 : M35 (x + 220) 1 = 0 := by rw [hmn _ (by omega)]; exact mm_x_220_1
  replace hσo : ∀ q, (q < x ∨ x + 234 ≤ q) → σ35 q = σ q := fun q h => (hsn q (by omega)).trans (hσo q h)
  replace hMo : ∀ q, (q < x ∨ x + 234 ≤ q) → M35 q = M q := fun q h => (hmn q (by omega)).trans (hMo q h)
  replace hNo : ∀ q, (q < x ∨ x + 234 ≤ q) → N35 q = N q := fun q h => (hnn q (by omega)).trans (hNo q h)
  clear hLn hsn hmn hnn
  have hRg_x_223 : oRing (gE g L35 σ35) (x + 1) (x + 223) := p0
  have mrI_x_223 : rInit M35 (x + 223) := p1
  clear eL p0 p1
  refine W_end (fun hze => ?_)
  have hz := n_hz hw40 hRg_x_223.2.2.2.2.2.2.2.2.1.1 hze (by omega)
  clear hze
  refine n_callI (na := 2) (As := [.ref (x + 220), .ref (x + 223)]) (rest := [.ref (x + 222), .ref x]) hC hw40 hS40 hA (fun q h => Or.inr (by omega)) hB hz (kc_X4_init (rd := x + 222) (t := x + 220) (kd := x + 1) (by omega) (by omega) (by omega) hTx_x_220 hRg_x_223 ho_x_222) ⟨q_144, q_49, by decide, by decide, by decide⟩ q_142 q_143 rfl ⟨by decide, by decide, by show _ ≤ (233 : Nat); omega, by show _ ≤ (4468 : Nat); omega⟩ rfl hl.1 rfl (Nat.le_of_ble_eq_true rfl) dX11_init_167 (fun u H locs hpost hwp hS41 => ?_)
  refine W.widen (k := 232) (n := 4465) (by omega) (by omega) ?_
  obtain ⟨L36, σ36, M36, N36⟩ := u
  obtain ⟨⟨eL, hsn, hmn, hnn⟩, p0⟩ := hpost
  simp only at eL hsn hmn hnn hwp
  have hLn : ∀ q ∈ L35, q ∈ L36 := fun q h => by rw [eL]; exact List.mem_append_left _ h
  replace hA : ∀ q ∈ L36, cA0 L (x + 1) q := by rw [eL]; exact hA_app hA (fun q h => Or.inr (by omega))
  replace hLe : L36 = L ++ List.range' (x + 1) 232 := by rw [eL]; exact (congrArg (fun t => t ++ _) hLe).trans (app_r (by omega))
  have hw41 : Wc g z0 L36 σ36 M36 N36 H := ⟨hwp, by rw [eL]; exact nd_app hw40.2.1 (fun q h => by have := wP_lt hw40.1 h; omega), by rw [eL]; exact ge_app hw40.2.2 (by omega)⟩
  clear hwp hz hw40 hS40
  clear ho_x_222 hRg_x_223 mrI_x_223
  replace hKd_x_1 : oKinds (gE g L36 σ36) (x + 1) := oKinds_mono hKd_x_1 hLn (fun q h1 h2 => hsn q (by omega))
  replace hSy_x_7 : oStory (gE g L36 σ36) (x + 1) (x + 7) := oStory_mono hSy_x_7 hLn (fun q h1 h2 => hsn q (by omega)) (fun q h1 h2 => hsn q (by omega))
  replace hSy_x_73 : oStory (gE g L36 σ36) (x + 1) (x + 73) := oStory_mono hSy_x_73 hLn (fun q h1 h2 => hsn q (by omega)) (fun q h1 h2 => hsn q (by omega))
  replace hSy_x_138 : oStory (gE g L36 σ36) (x + 1) (x + 138) := oStory_mono hSy_x_138 hLn (fun q h1 h2 => hsn q (by omega)) (fun q h1 h2 => hsn q (by omega))
  replace hr_x_72 : Ft L36 σ36 (x + 72) (.inl (eS g, 2, some (va_up (va_up (fun _ => none) (0 : Int32).toNatClampNeg (some (x + 73))) (1 : Int32).toNatClampNeg (some (x + 138))))) := Ft.mono hr_x_72 hLn (hsn _ (by omega))
  replace hz_x_203 : Ft L36 σ36 (x + 203) (.inl (eZ g, 2, none)) := Ft.mono hz_x_203 hLn (hsn _ (by omega))
  replace hCs_x_204 : oCourse (gE g L36 σ36) (x + 1) (x + 7 + 1) (x + 204) := oCourse_mono hCs_x_204 hLn (fun q h1 h2 => hsn q (by omega)) (fun q h1 h2 => hsn q (by omega)) (fun q h1 h2 => hsn q (by omega))
  replace hTx_x_220 : oText (gE g L36 σ36) (x + 220) := oText_mono hTx_x_220 hLn (fun q h1 h2 => hsn q (by omega))
  replace ho_x : Ft L36 σ36 (x) (.inr (11, [.inr (some (x + 7)), .inr (some (x + 72)), .inr (some (x + 203)), .inr (some (x + 204)), .inr (some (x + 220)), .inr none, .inr none, .inl 1, .inl 1])) := Ft.mono ho_x hLn (hsn _ (by omega))
  replace mn_x_7 : N36 x 7 = 0 := by rw [hnn _ (by omega)]; exact mn_x_7
  replace mn_x_8 : N36 x 8 = 0 := by rw [hnn _ (by omega)]; exact mn_x_8
  replace mrI_x_7_1 : rInit M36 (x + 7 + 1) := rInit_mono mrI_x_7_1 (fun q h1 h2 => hmn q (by omega))
  replace mm_x_7_2 : M36 (x + 7) 2 = 0 := by rw [hmn _ (by omega)]; exact mm_x_7_2
  replace msI_x_7 : sInit M36 (x + 7) := sInit_mono msI_x_7 (fun q h1 h2 => hmn q (by omega))
  replace mrI_x_73_1 : rInit M36 (x + 73 + 1) := rInit_mono mrI_x_73_1 (fun q h1 h2 => hmn q (by omega))
  replace mm_x_73_2 : M36 (x + 73) 2 = 0 := by rw [hmn _ (by omega)]; exact mm_x_73_2
  replace msI_x_73 : sInit M36 (x + 73) := sInit_mono msI_x_73 (fun q h1 h2 => hmn q (by omega))
  replace mrI_x_138_1 : rInit M36 (x + 138 + 1) := rInit_mono mrI_x_138_1 (fun q h1 h2 => hmn q (by omega))
  replace mm_x_138_2 : M36 (x + 138) 2 = 0 := by rw [hmn _ (by omega)]; exact mm_x_138_2
  replace msI_x_138 : sInit M36 (x + 138) := sInit_mono msI_x_138 (fun q h1 h2 => hmn q (by omega))
  replace mzz_x_203 : ∀ j, M36 (x + 203) j = 0 := by rw [hmn _ (by omega)]; exact mzz_x_203
  replace mm_x_220_1 : M36 (x + 220) 1 = 0 := by rw [hmn _ (by omega)]; exact mm_x_220_1
  replace hσo : ∀ q, (q < x ∨ x + 234 ≤ q) → σ36 q = σ q := fun q h => (hsn q (by omega)).trans (hσo q h)
  replace hMo : ∀ q, (q < x ∨ x + 234 ≤ q) → M36 q = M q := fun q h => (hmn q (by omega)).trans (hMo q h)
  replace hNo : ∀ q, (q < x ∨ x + 234 ≤ q) → N36 q = N q := fun q h => (hnn q (by omega)).trans (hNo q h)
  clear hLn hsn hmn hnn
  have hRd_x_222 : oReader (gE g L36 σ36) (x + 1) (x + 220) (x + 222) := p0
  clear eL p0
  refine n_putR hC hmn hw41 hS41 hA ho_x.1 ho_x.2 fl_X11_69 tyX11 tyX11_ok nmX11 rfl rfl rfl rfl rfl dX11_init_170 (fun H locs hw42 hS42 => ?_)
  clear hw41 hS41
  have hwk := hw42.name
  clear hw42
  obtain ⟨L37, σ37, M37, N37, hw42, eL, eσ, eM, eN⟩ := hwk
  have hLn : ∀ q ∈ L36, q ∈ L37 := fun q h => by rw [eL]; exact h
  have hsn : ∀ q, (q < x ∨ x + 1 ≤ q) → σ37 q = σ36 q := fun q h => by rw [eσ]; exact up_out q h
  have hmn : ∀ q, (q < 0 ∨ 0 ≤ q) → M37 q = M36 q := fun q h => by rw [eM]
  have hnn : ∀ q, (q < 0 ∨ 0 ≤ q) → N37 q = N36 q := fun q h => by rw [eN]
  replace hA : ∀ q ∈ L37, cA0 L (x + 1) q := by rw [eL]; exact hA
  replace hLe : L37 = L ++ List.range' (x + 1) 232 := eL.trans hLe
  have mem_o := ho_x.1
  clear ho_x
  replace hKd_x_1 : oKinds (gE g L37 σ37) (x + 1) := oKinds_mono hKd_x_1 hLn (fun q h1 h2 => hsn q (by omega))
  replace hSy_x_7 : oStory (gE g L37 σ37) (x + 1) (x + 7) := oStory_mono hSy_x_7 hLn (fun q h1 h2 => hsn q (by omega)) (fun q h1 h2 => hsn q (by omega))
  replace hSy_x_73 : oStory (gE g L37 σ37) (x + 1) (x + 73) := oStory_mono hSy_x_73 hLn (fun q h1 h2 => hsn q (by omega)) (fun q h1 h2 => hsn q (by omega))
  replace hSy_x_138 : oStory (gE g L37 σ37) (x + 1) (x + 138) := oStory_mono hSy_x_138 hLn (fun q h1 h2 => hsn q (by omega)) (fun q h1 h2 => hsn q (by omega))
  replace hr_x_72 : Ft L37 σ37 (x + 72) (.inl (eS g, 2, some (va_up (va_up (fun _ => none) (0 : Int32).toNatClampNeg (some (x + 73))) (1 : Int32).toNatClampNeg (some (x + 138))))) := Ft.mono hr_x_72 hLn (hsn _ (by omega))
  replace hz_x_203 : Ft L37 σ37 (x + 203) (.inl (eZ g, 2, none)) := Ft.mono hz_x_203 hLn (hsn _ (by omega))
  replace hCs_x_204 : oCourse (gE g L37 σ37) (x + 1) (x + 7 + 1) (x + 204) := oCourse_mono hCs_x_204 hLn (fun q h1 h2 => hsn q (by omega)) (fun q h1 h2 => hsn q (by omega)) (fun q h1 h2 => hsn q (by omega))
  replace hTx_x_220 : oText (gE g L37 σ37) (x + 220) := oText_mono hTx_x_220 hLn (fun q h1 h2 => hsn q (by omega))
  replace hRd_x_222 : oReader (gE g L37 σ37) (x + 1) (x + 220) (x + 222) := oReader_mono hRd_x_222 hLn (fun q h1 h2 => hsn q (by omega)) (fun q h1 h2 => hsn q (by omega)) (fun q h1 h2 => hsn q (by omega))
  replace mn_x_7 : N37 x 7 = 0 := by rw [hnn _ (by omega)]; exact mn_x_7
  replace mn_x_8 : N37 x 8 = 0 := by rw [hnn _ (by omega)]; exact mn_x_8
  replace mrI_x_7_1 : rInit M37 (x + 7 + 1) := rInit_mono mrI_x_7_1 (fun q h1 h2 => hmn q (by omega))
  replace mm_x_7_2 : M37 (x + 7) 2 = 0 := by rw [hmn _ (by omega)]; exact mm_x_7_2
  replace msI_x_7 : sInit M37 (x + 7) := sInit_mono msI_x_7 (fun q h1 h2 => hmn q (by omega))
  replace mrI_x_73_1 : rInit M37 (x + 73 + 1) := rInit_mono mrI_x_73_1 (fun q h1 h2 => hmn q (by omega))
  replace mm_x_73_2 : M37 (x + 73) 2 = 0 := by rw [hmn _ (by omega)]; exact mm_x_73_2
  replace msI_x_73 : sInit M37 (x + 73) := sInit_mono msI_x_73 (fun q h1 h2 => hmn q (by omega))
  replace mrI_x_138_1 : rInit M37 (x + 138 + 1) := rInit_mono mrI_x_138_1 (fun q h1 h2 => hmn q (by omega))
  replace mm_x_138_2 : M37 (x + 138) 2 = 0 := by rw [hmn _ (by omega)]; exact mm_x_138_2
  replace msI_x_138 : sInit M37 (x + 138) := sInit_mono msI_x_138 (fun q h1 h2 => hmn q (by omega))
  replace mzz_x_203 : ∀ j, M37 (x + 203) j = 0 := by rw [hmn _ (by omega)]; exact mzz_x_203
  replace mm_x_220_1 : M37 (x + 220) 1 = 0 := by rw [hmn _ (by omega)]; exact mm_x_220_1
  replace hσo : ∀ q, (q < x ∨ x + 234 ≤ q) → σ37 q = σ q := fun q h => (hsn q (by omega)).trans (hσo q h)
  replace hMo : ∀ q, (q < x ∨ x + 234 ≤ q) → M37 q = M q := fun q h => (hmn q (by omega)).trans (hMo q h)
  replace hNo : ∀ q, (q < x ∨ x + 234 ≤ q) → N37 q = N q := fun q h => (hnn q (by omega)).trans (hNo q h)
  clear hLn hsn hmn hnn
  have ho_x : Ft L37 σ37 (x) (.inr (11, [.inr (some (x + 7)), .inr (some (x + 72)), .inr (some (x + 203)), .inr (some (x + 204)), .inr (some (x + 220)), .inr (some (x + 222)), .inr none, .inl 1, .inl 1])) := ⟨by rw [eL]; exact mem_o, by rw [eσ]; exact va_up_self _ _ _⟩
  clear mem_o eL eσ eM eN
  refine lv_aload_n hx hb dX11_init_173 rfl (lv_at hl 2 rfl) ?_
  refine lv_iconst (v := (3 : Int32)) hx hb dX11_init_174 (by decide) ?_
  refine W_end (fun hze => ?_)
  have hz := n_hz hw42 hRd_x_222.2.2.2.1 hze (by omega)
  clear hze
  refine n_newa hC hw42 hS42 hz (by omega) (k := 3) (by decide) (by decide) (by decide) (by show _ ≤ (233 : Nat); omega) (by show _ ≤ (4468 : Nat); omega) q_51 dX11_init_175 (fun H hw43 hzf hS43 => ?_)
  clear hw42 hS42
  clear hzf hz
  refine W.widen (k := 233) (n := 4468) (by omega) (by omega) ?_
  have hwk := hw43.name
  clear hw43
  obtain ⟨L38, σ38, M38, N38, hw43, eL, eσ, eM, eN⟩ := hwk
  have hLn : ∀ q ∈ L37, q ∈ L38 := fun q h => by rw [eL]; exact List.mem_append_left _ h
  have hsn : ∀ q, (q < x + 233 ∨ x + 233 + 1 ≤ q) → σ38 q = σ37 q := fun q h => by rw [eσ]; exact up_out q h
  have hmn : ∀ q, (q < x + 233 ∨ x + 233 + 1 ≤ q) → M38 q = M37 q := fun q h => by rw [eM]; exact up_out q h
  have hnn : ∀ q, (q < x + 233 ∨ x + 233 + 1 ≤ q) → N38 q = N37 q := fun q h => by rw [eN]
  replace hA : ∀ q ∈ L38, cA0 L (x + 1) q := by rw [eL]; exact hA_snoc hA (Or.inr (by omega))
  replace hLe : L38 = L ++ List.range' (x + 1) 233 := by rw [eL]; exact (congrArg (fun t => t ++ _) hLe).trans (snoc_r (by omega))
  replace hKd_x_1 : oKinds (gE g L38 σ38) (x + 1) := oKinds_mono hKd_x_1 hLn (fun q h1 h2 => hsn q (by omega))
  replace hSy_x_7 : oStory (gE g L38 σ38) (x + 1) (x + 7) := oStory_mono hSy_x_7 hLn (fun q h1 h2 => hsn q (by omega)) (fun q h1 h2 => hsn q (by omega))
  replace hSy_x_73 : oStory (gE g L38 σ38) (x + 1) (x + 73) := oStory_mono hSy_x_73 hLn (fun q h1 h2 => hsn q (by omega)) (fun q h1 h2 => hsn q (by omega))
  replace hSy_x_138 : oStory (gE g L38 σ38) (x + 1) (x + 138) := oStory_mono hSy_x_138 hLn (fun q h1 h2 => hsn q (by omega)) (fun q h1 h2 => hsn q (by omega))
  replace hr_x_72 : Ft L38 σ38 (x + 72) (.inl (eS g, 2, some (va_up (va_up (fun _ => none) (0 : Int32).toNatClampNeg (some (x + 73))) (1 : Int32).toNatClampNeg (some (x + 138))))) := Ft.mono hr_x_72 hLn (hsn _ (by omega))
  replace hz_x_203 : Ft L38 σ38 (x + 203) (.inl (eZ g, 2, none)) := Ft.mono hz_x_203 hLn (hsn _ (by omega))
  replace hCs_x_204 : oCourse (gE g L38 σ38) (x + 1) (x + 7 + 1) (x + 204) := oCourse_mono hCs_x_204 hLn (fun q h1 h2 => hsn q (by omega)) (fun q h1 h2 => hsn q (by omega)) (fun q h1 h2 => hsn q (by omega))
  replace hTx_x_220 : oText (gE g L38 σ38) (x + 220) := oText_mono hTx_x_220 hLn (fun q h1 h2 => hsn q (by omega))
  replace hRd_x_222 : oReader (gE g L38 σ38) (x + 1) (x + 220) (x + 222) := oReader_mono hRd_x_222 hLn (fun q h1 h2 => hsn q (by omega)) (fun q h1 h2 => hsn q (by omega)) (fun q h1 h2 => hsn q (by omega))
  replace ho_x : Ft L38 σ38 (x) (.inr (11, [.inr (some (x + 7)), .inr (some (x + 72)), .inr (some (x + 203)), .inr (some (x + 204)), .inr (some (x + 220)), .inr (some (x + 222)), .inr none, .inl 1, .inl 1])) := Ft.mono ho_x hLn (hsn _ (by omega))
  replace mn_x_7 : N38 x 7 = 0 := by rw [hnn _ (by omega)]; exact mn_x_7
  replace mn_x_8 : N38 x 8 = 0 := by rw [hnn _ (by omega)]; exact mn_x_8
  replace mrI_x_7_1 : rInit M38 (x + 7 + 1) := rInit_mono mrI_x_7_1 (fun q h1 h2 => hmn q (by omega))
  replace mm_x_7_2 : M38 (x + 7) 2 = 0 := by rw [hmn _ (by omega)]; exact mm_x_7_2
  replace msI_x_7 : sInit M38 (x + 7) := sInit_mono msI_x_7 (fun q h1 h2 => hmn q (by omega))
  replace mrI_x_73_1 : rInit M38 (x + 73 + 1) := rInit_mono mrI_x_73_1 (fun q h1 h2 => hmn q (by omega))
  replace mm_x_73_2 : M38 (x + 73) 2 = 0 := by rw [hmn _ (by omega)]; exact mm_x_73_2
  replace msI_x_73 : sInit M38 (x + 73) := sInit_mono msI_x_73 (fun q h1 h2 => hmn q (by omega))
  replace mrI_x_138_1 : rInit M38 (x + 138 + 1) := rInit_mono mrI_x_138_1 (fun q h1 h2 => hmn q (by omega))
  replace mm_x_138_2 : M38 (x + 138) 2 = 0 := by rw [hmn _ (by omega)]; exact mm_x_138_2
  replace msI_x_138 : sInit M38 (x + 138) := sInit_mono msI_x_138 (fun q h1 h2 => hmn q (by omega))
  replace mzz_x_203 : ∀ j, M38 (x + 203) j = 0 := by rw [hmn _ (by omega)]; exact mzz_x_203
  replace mm_x_220_1 : M38 (x + 220) 1 = 0 := by rw [hmn _ (by omega)]; exact mm_x_220_1
  replace hσo : ∀ q, (q < x ∨ x + 234 ≤ q) → σ38 q = σ q := fun q h => (hsn q (by omega)).trans (hσo q h)
  replace hMo : ∀ q, (q < x ∨ x + 234 ≤ q) → M38 q = M q := fun q h => (hmn q (by omega)).trans (hMo q h)
  replace hNo : ∀ q, (q < x ∨ x + 234 ≤ q) → N38 q = N q := fun q h => (hnn q (by omega)).trans (hNo q h)
  clear hLn hsn hmn hnn
  have hi_x_233 : Ft L38 σ38 (x + 233) (.inl (eI g, 3, none)) := ⟨by rw [eL]; simp, by rw [eσ]; exact va_up_self _ _ _⟩
  have mzz_x_233 : ∀ j, M38 (x + 233) j = 0 := fun j => by rw [eM, va_up_self]
  clear eL eσ eM eN
  refine n_putR hC hmn hw43 hS43 hA ho_x.1 ho_x.2 fl_X11_73 tyX11 tyX11_ok nmX11 rfl rfl rfl rfl rfl dX11_init_177 (fun H locs hw44 hS44 => ?_)
  clear hw43 hS43
  have hwk := hw44.name
  clear hw44
  obtain ⟨L39, σ39, M39, N39, hw44, eL, eσ, eM, eN⟩ := hwk
  have hLn : ∀ q ∈ L38, q ∈ L39 := fun q h => by rw [eL]; exact h
  have hsn : ∀ q, (q < x ∨ x + 1 ≤ q) → σ39 q = σ38 q := fun q h => by rw [eσ]; exact up_out q h
  have hmn : ∀ q, (q < 0 ∨ 0 ≤ q) → M39 q = M38 q := fun q h => by rw [eM]
  have hnn : ∀ q, (q < 0 ∨ 0 ≤ q) → N39 q = N38 q := fun q h => by rw [eN]
  replace hA : ∀ q ∈ L39, cA0 L (x + 1) q := by rw [eL]; exact hA
  replace hLe : L39 = L ++ List.range' (x + 1) 233 := eL.trans hLe
  have mem_o := ho_x.1
  clear ho_x
  replace hKd_x_1 : oKinds (gE g L39 σ39) (x + 1) := oKinds_mono hKd_x_1 hLn (fun q h1 h2 => hsn q (by omega))
  replace hSy_x_7 : oStory (gE g L39 σ39) (x + 1) (x + 7) := oStory_mono hSy_x_7 hLn (fun q h1 h2 => hsn q (by omega)) (fun q h1 h2 => hsn q (by omega))
  replace hSy_x_73 : oStory (gE g L39 σ39) (x + 1) (x + 73) := oStory_mono hSy_x_73 hLn (fun q h1 h2 => hsn q (by omega)) (fun q h1 h2 => hsn q (by omega))
  replace hSy_x_138 : oStory (gE g L39 σ39) (x + 1) (x + 138) := oStory_mono hSy_x_138 hLn (fun q h1 h2 => hsn q (by omega)) (fun q h1 h2 => hsn q (by omega))
  replace hr_x_72 : Ft L39 σ39 (x + 72) (.inl (eS g, 2, some (va_up (va_up (fun _ => none) (0 : Int32).toNatClampNeg (some (x + 73))) (1 : Int32).toNatClampNeg (some (x + 138))))) := Ft.mono hr_x_72 hLn (hsn _ (by omega))
  replace hz_x_203 : Ft L39 σ39 (x + 203) (.inl (eZ g, 2, none)) := Ft.mono hz_x_203 hLn (hsn _ (by omega))
  replace hCs_x_204 : oCourse (gE g L39 σ39) (x + 1) (x + 7 + 1) (x + 204) := oCourse_mono hCs_x_204 hLn (fun q h1 h2 => hsn q (by omega)) (fun q h1 h2 => hsn q (by omega)) (fun q h1 h2 => hsn q (by omega))
  replace hTx_x_220 : oText (gE g L39 σ39) (x + 220) := oText_mono hTx_x_220 hLn (fun q h1 h2 => hsn q (by omega))
  replace hRd_x_222 : oReader (gE g L39 σ39) (x + 1) (x + 220) (x + 222) := oReader_mono hRd_x_222 hLn (fun q h1 h2 => hsn q (by omega)) (fun q h1 h2 => hsn q (by omega)) (fun q h1 h2 => hsn q (by omega))
  replace hi_x_233 : Ft L39 σ39 (x + 233) (.inl (eI g, 3, none)) := Ft.mono hi_x_233 hLn (hsn _ (by omega))
  replace mn_x_7 : N39 x 7 = 0 := by rw [hnn _ (by omega)]; exact mn_x_7
  replace mn_x_8 : N39 x 8 = 0 := by rw [hnn _ (by omega)]; exact mn_x_8
  replace mrI_x_7_1 : rInit M39 (x + 7 + 1) := rInit_mono mrI_x_7_1 (fun q h1 h2 => hmn q (by omega))
  replace mm_x_7_2 : M39 (x + 7) 2 = 0 := by rw [hmn _ (by omega)]; exact mm_x_7_2
  replace msI_x_7 : sInit M39 (x + 7) := sInit_mono msI_x_7 (fun q h1 h2 => hmn q (by omega))
  replace mrI_x_73_1 : rInit M39 (x + 73 + 1) := rInit_mono mrI_x_73_1 (fun q h1 h2 => hmn q (by omega))
  replace mm_x_73_2 : M39 (x + 73) 2 = 0 := by rw [hmn _ (by omega)]; exact mm_x_73_2
  replace msI_x_73 : sInit M39 (x + 73) := sInit_mono msI_x_73 (fun q h1 h2 => hmn q (by omega))
  replace mrI_x_138_1 : rInit M39 (x + 138 + 1) := rInit_mono mrI_x_138_1 (fun q h1 h2 => hmn q (by omega))
  replace mm_x_138_2 : M39 (x + 138) 2 = 0 := by rw [hmn _ (by omega)]; exact mm_x_138_2
  replace msI_x_138 : sInit M39 (x + 138) := sInit_mono msI_x_138 (fun q h1 h2 => hmn q (by omega))
  replace mzz_x_203 : ∀ j, M39 (x + 203) j = 0 := by rw [hmn _ (by omega)]; exact mzz_x_203
  replace mm_x_220_1 : M39 (x + 220) 1 = 0 := by rw [hmn _ (by omega)]; exact mm_x_220_1
  replace mzz_x_233 : ∀ j, M39 (x + 233) j = 0 := by rw [hmn _ (by omega)]; exact mzz_x_233
  replace hσo : ∀ q, (q < x ∨ x + 234 ≤ q) → σ39 q = σ q := fun q h => (hsn q (by omega)).trans (hσo q h)
  replace hMo : ∀ q, (q < x ∨ x + 234 ≤ q) → M39 q = M q := fun q h => (hmn q (by omega)).trans (hMo q h)
  replace hNo : ∀ q, (q < x ∨ x + 234 ≤ q) → N39 q = N q := fun q h => (hnn q (by omega)).trans (hNo q h)
  clear hLn hsn hmn hnn
  have ho_x : Ft L39 σ39 (x) (.inr (11, [.inr (some (x + 7)), .inr (some (x + 72)), .inr (some (x + 203)), .inr (some (x + 204)), .inr (some (x + 220)), .inr (some (x + 222)), .inr (some (x + 233)), .inl 1, .inl 1])) := ⟨by rw [eL]; exact mem_o, by rw [eσ]; exact va_up_self _ _ _⟩
  clear mem_o eL eσ eM eN
  refine lv_aload_n hx hb dX11_init_180 rfl (lv_at hl 2 rfl) ?_
  refine lv_lconst (v := (0 : Int64)) hx hb dX11_init_181 (by decide) ?_
  refine n_putL hC hw44 hS44 hA ho_x.1 ho_x.2 fl_X11_77 tyX11 tyX11_ok nmX11 rfl rfl rfl dX11_init_182 (fun H locs hw45 hS45 => ?_)
  clear hw44 hS44
  have hwk := hw45.name
  clear hw45
  obtain ⟨L40, σ40, M40, N40, hw45, eL, eσ, eM, eN⟩ := hwk
  have hLn : ∀ q ∈ L39, q ∈ L40 := fun q h => by rw [eL]; exact h
  have hsn : ∀ q, (q < 0 ∨ 0 ≤ q) → σ40 q = σ39 q := fun q h => by rw [eσ]
  have hmn : ∀ q, (q < 0 ∨ 0 ≤ q) → M40 q = M39 q := fun q h => by rw [eM]
  have hnn : ∀ q, (q < x ∨ x + 1 ≤ q) → N40 q = N39 q := fun q h => by rw [eN]; exact va_up_ne _ _ (by omega)
  replace hA : ∀ q ∈ L40, cA0 L (x + 1) q := by rw [eL]; exact hA
  replace hLe : L40 = L ++ List.range' (x + 1) 233 := eL.trans hLe
  replace mn_x_7 : N40 x 7 = (0 : Int64) := by rw [eN]; simp [up2L, va_up, vp_updL]
  replace mn_x_8 : N40 x 8 = 0 := by rw [eN]; simp [up2L, va_up, vp_updL]; exact mn_x_8
  replace hKd_x_1 : oKinds (gE g L40 σ40) (x + 1) := oKinds_mono hKd_x_1 hLn (fun q h1 h2 => hsn q (by omega))
  replace hSy_x_7 : oStory (gE g L40 σ40) (x + 1) (x + 7) := oStory_mono hSy_x_7 hLn (fun q h1 h2 => hsn q (by omega)) (fun q h1 h2 => hsn q (by omega))
  replace hSy_x_73 : oStory (gE g L40 σ40) (x + 1) (x + 73) := oStory_mono hSy_x_73 hLn (fun q h1 h2 => hsn q (by omega)) (fun q h1 h2 => hsn q (by omega))
  replace hSy_x_138 : oStory (gE g L40 σ40) (x + 1) (x + 138) := oStory_mono hSy_x_138 hLn (fun q h1 h2 => hsn q (by omega)) (fun q h1 h2 => hsn q (by omega))
  replace hr_x_72 : Ft L40 σ40 (x + 72) (.inl (eS g, 2, some (va_up (va_up (fun _ => none) (0 : Int32).toNatClampNeg (some (x + 73))) (1 : Int32).toNatClampNeg (some (x + 138))))) := Ft.mono hr_x_72 hLn (hsn _ (by omega))
  replace hz_x_203 : Ft L40 σ40 (x + 203) (.inl (eZ g, 2, none)) := Ft.mono hz_x_203 hLn (hsn _ (by omega))
  replace hCs_x_204 : oCourse (gE g L40 σ40) (x + 1) (x + 7 + 1) (x + 204) := oCourse_mono hCs_x_204 hLn (fun q h1 h2 => hsn q (by omega)) (fun q h1 h2 => hsn q (by omega)) (fun q h1 h2 => hsn q (by omega))
  replace hTx_x_220 : oText (gE g L40 σ40) (x + 220) := oText_mono hTx_x_220 hLn (fun q h1 h2 => hsn q (by omega))
  replace hRd_x_222 : oReader (gE g L40 σ40) (x + 1) (x + 220) (x + 222) := oReader_mono hRd_x_222 hLn (fun q h1 h2 => hsn q (by omega)) (fun q h1 h2 => hsn q (by omega)) (fun q h1 h2 => hsn q (by omega))
  replace hi_x_233 : Ft L40 σ40 (x + 233) (.inl (eI g, 3, none)) := Ft.mono hi_x_233 hLn (hsn _ (by omega))
  replace ho_x : Ft L40 σ40 (x) (.inr (11, [.inr (some (x + 7)), .inr (some (x + 72)), .inr (some (x + 203)), .inr (some (x + 204)), .inr (some (x + 220)), .inr (some (x + 222)), .inr (some (x + 233)), .inl 1, .inl 1])) := Ft.mono ho_x hLn (hsn _ (by omega))
  replace mrI_x_7_1 : rInit M40 (x + 7 + 1) := rInit_mono mrI_x_7_1 (fun q h1 h2 => hmn q (by omega))
  replace mm_x_7_2 : M40 (x + 7) 2 = 0 := by rw [hmn _ (by omega)]; exact mm_x_7_2
  replace msI_x_7 : sInit M40 (x + 7) := sInit_mono msI_x_7 (fun q h1 h2 => hmn q (by omega))
  replace mrI_x_73_1 : rInit M40 (x + 73 + 1) := rInit_mono mrI_x_73_1 (fun q h1 h2 => hmn q (by omega))
  replace mm_x_73_2 : M40 (x + 73) 2 = 0 := by rw [hmn _ (by omega)]; exact mm_x_73_2
  replace msI_x_73 : sInit M40 (x + 73) := sInit_mono msI_x_73 (fun q h1 h2 => hmn q (by omega))
  replace mrI_x_138_1 : rInit M40 (x + 138 + 1) := rInit_mono mrI_x_138_1 (fun q h1 h2 => hmn q (by omega))
  replace mm_x_138_2 : M40 (x + 138) 2 = 0 := by rw [hmn _ (by omega)]; exact mm_x_138_2
  replace msI_x_138 : sInit M40 (x + 138) := sInit_mono msI_x_138 (fun q h1 h2 => hmn q (by omega))
  replace mzz_x_203 : ∀ j, M40 (x + 203) j = 0 := by rw [hmn _ (by omega)]; exact mzz_x_203
  replace mm_x_220_1 : M40 (x + 220) 1 = 0 := by rw [hmn _ (by omega)]; exact mm_x_220_1
  replace mzz_x_233 : ∀ j, M40 (x + 233) j = 0 := by rw [hmn _ (by omega)]; exact mzz_x_233
  replace hσo : ∀ q, (q < x ∨ x + 234 ≤ q) → σ40 q = σ q := fun q h => (hsn q (by omega)).trans (hσo q h)
  replace hMo : ∀ q, (q < x ∨ x + 234 ≤ q) → M40 q = M q := fun q h => (hmn q (by omega)).trans (hMo q h)
  replace hNo : ∀ q, (q < x ∨ x + 234 ≤ q) → N40 q = N q := fun q h => (hnn q (by omega)).trans (hNo q h)
  clear hLn hsn hmn hnn
  clear eL eσ eM eN
  refine lv_aload_n hx hb dX11_init_185 rfl (lv_at hl 2 rfl) ?_
  refine lv_lconst (v := (1 : Int64)) hx hb dX11_init_186 (by decide) ?_
  refine n_putL hC hw45 hS45 hA ho_x.1 ho_x.2 fl_X11_81 tyX11 tyX11_ok nmX11 rfl rfl rfl dX11_init_187 (fun H locs hw46 hS46 => ?_)
  clear hw45 hS45
  have hwk := hw46.name
  clear hw46
  obtain ⟨L41, σ41, M41, N41, hw46, eL, eσ, eM, eN⟩ := hwk
  have hLn : ∀ q ∈ L40, q ∈ L41 := fun q h => by rw [eL]; exact h
  have hsn : ∀ q, (q < 0 ∨ 0 ≤ q) → σ41 q = σ40 q := fun q h => by rw [eσ]
  have hmn : ∀ q, (q < 0 ∨ 0 ≤ q) → M41 q = M40 q := fun q h => by rw [eM]
  have hnn : ∀ q, (q < x ∨ x + 1 ≤ q) → N41 q = N40 q := fun q h => by rw [eN]; exact va_up_ne _ _ (by omega)
  replace hA : ∀ q ∈ L41, cA0 L (x + 1) q := by rw [eL]; exact hA
  replace hLe : L41 = L ++ List.range' (x + 1) 233 := eL.trans hLe
  replace mn_x_7 : N41 x 7 = (0 : Int64) := by rw [eN]; simp [up2L, va_up, vp_updL]; exact mn_x_7
  replace mn_x_8 : N41 x 8 = (1 : Int64) := by rw [eN]; simp [up2L, va_up, vp_updL]
  replace hKd_x_1 : oKinds (gE g L41 σ41) (x + 1) := oKinds_mono hKd_x_1 hLn (fun q h1 h2 => hsn q (by omega))
  replace hSy_x_7 : oStory (gE g L41 σ41) (x + 1) (x + 7) := oStory_mono hSy_x_7 hLn (fun q h1 h2 => hsn q (by omega)) (fun q h1 h2 => hsn q (by omega))
  replace hSy_x_73 : oStory (gE g L41 σ41) (x + 1) (x + 73) := oStory_mono hSy_x_73 hLn (fun q h1 h2 => hsn q (by omega)) (fun q h1 h2 => hsn q (by omega))
  replace hSy_x_138 : oStory (gE g L41 σ41) (x + 1) (x + 138) := oStory_mono hSy_x_138 hLn (fun q h1 h2 => hsn q (by omega)) (fun q h1 h2 => hsn q (by omega))
  replace hr_x_72 : Ft L41 σ41 (x + 72) (.inl (eS g, 2, some (va_up (va_up (fun _ => none) (0 : Int32).toNatClampNeg (some (x + 73))) (1 : Int32).toNatClampNeg (some (x + 138))))) := Ft.mono hr_x_72 hLn (hsn _ (by omega))
  replace hz_x_203 : Ft L41 σ41 (x + 203) (.inl (eZ g, 2, none)) := Ft.mono hz_x_203 hLn (hsn _ (by omega))
  replace hCs_x_204 : oCourse (gE g L41 σ41) (x + 1) (x + 7 + 1) (x + 204) := oCourse_mono hCs_x_204 hLn (fun q h1 h2 => hsn q (by omega)) (fun q h1 h2 => hsn q (by omega)) (fun q h1 h2 => hsn q (by omega))
  replace hTx_x_220 : oText (gE g L41 σ41) (x + 220) := oText_mono hTx_x_220 hLn (fun q h1 h2 => hsn q (by omega))
  replace hRd_x_222 : oReader (gE g L41 σ41) (x + 1) (x + 220) (x + 222) := oReader_mono hRd_x_222 hLn (fun q h1 h2 => hsn q (by omega)) (fun q h1 h2 => hsn q (by omega)) (fun q h1 h2 => hsn q (by omega))
  replace hi_x_233 : Ft L41 σ41 (x + 233) (.inl (eI g, 3, none)) := Ft.mono hi_x_233 hLn (hsn _ (by omega))
  replace ho_x : Ft L41 σ41 (x) (.inr (11, [.inr (some (x + 7)), .inr (some (x + 72)), .inr (some (x + 203)), .inr (some (x + 204)), .inr (some (x + 220)), .inr (some (x + 222)), .inr (some (x + 233)), .inl 1, .inl 1])) := Ft.mono ho_x hLn (hsn _ (by omega))
  replace mrI_x_7_1 : rInit M41 (x + 7 + 1) := rInit_mono mrI_x_7_1 (fun q h1 h2 => hmn q (by omega))
  replace mm_x_7_2 : M41 (x + 7) 2 = 0 := by rw [hmn _ (by omega)]; exact mm_x_7_2
  replace msI_x_7 : sInit M41 (x + 7) := sInit_mono msI_x_7 (fun q h1 h2 => hmn q (by omega))
  replace mrI_x_73_1 : rInit M41 (x + 73 + 1) := rInit_mono mrI_x_73_1 (fun q h1 h2 => hmn q (by omega))
  replace mm_x_73_2 : M41 (x + 73) 2 = 0 := by rw [hmn _ (by omega)]; exact mm_x_73_2
  replace msI_x_73 : sInit M41 (x + 73) := sInit_mono msI_x_73 (fun q h1 h2 => hmn q (by omega))
  replace mrI_x_138_1 : rInit M41 (x + 138 + 1) := rInit_mono mrI_x_138_1 (fun q h1 h2 => hmn q (by omega))
  replace mm_x_138_2 : M41 (x + 138) 2 = 0 := by rw [hmn _ (by omega)]; exact mm_x_138_2
  replace msI_x_138 : sInit M41 (x + 138) := sInit_mono msI_x_138 (fun q h1 h2 => hmn q (by omega))
  replace mzz_x_203 : ∀ j, M41 (x + 203) j = 0 := by rw [hmn _ (by omega)]; exact mzz_x_203
  replace mm_x_220_1 : M41 (x + 220) 1 = 0 := by rw [hmn _ (by omega)]; exact mm_x_220_1
  replace mzz_x_233 : ∀ j, M41 (x + 233) j = 0 := by rw [hmn _ (by omega)]; exact mzz_x_233
  replace hσo : ∀ q, (q < x ∨ x + 234 ≤ q) → σ41 q = σ q := fun q h => (hsn q (by omega)).trans (hσo q h)
  replace hMo : ∀ q, (q < x ∨ x + 234 ≤ q) → M41 q = M q := fun q h => (hmn q (by omega)).trans (hMo q h)
  replace hNo : ∀ q, (q < x ∨ x + 234 ≤ q) → N41 q = N q := fun q h => (hnn q (by omega)).trans (hNo q h)
  clear hLn hsn hmn hnn
  clear eL eσ eM eN
  exact e_C hC hr hlk hw46 hS46 (⟨⟨hLe, hσo, hMo, hNo⟩, ⟨ho_x, hSy_x_7, r_of2 hr_x_72 rfl rfl, two_stories hSy_x_73 hSy_x_138, hz_x_203, hCs_x_204, hTx_x_220, hRd_x_222, hi_x_233⟩, ⟨mrI_x_7_1, mm_x_7_2, msI_x_7, mzz_x_203, mm_x_220_1, mzz_x_233, mn_x_7, mn_x_8⟩⟩) dX11_init_190
