set_option maxRecDepth 100000 in
set_option maxHeartbeats 4000000 in
theorem kc_X12_init {g : Ev} {l : Launch} {z0 : Nat} {y : Nat} {L : List Nat} {σ : Shp} {M : Mm} {N : Ml} (hz0 : z0 ≤ y) (ho_y : Ft L σ (y) (.inr (12, [.inr none, .inr none, .inr none, .inr none, .inl 1, .inl 1, .inr none, .inr none, .inr none, .inl 0, .inl 0, .inl 0, .inl 0, .inl 0, .inr none, .inr none, .inr none, .inr none, .inl 0, .inl 0, .inl 0, .inl 0, .inl 0, .inr none, .inr none]))) (mm_y_18 : M y 18 = 0) (mn_y_4 : N y 4 = 0) (mn_y_5 : N y 5 = 0) : KC g l yX12_init cX12_init 1 2 13 5182 z0 (y + 1) [.ref y] L σ M N (fun u => pOut L σ M N y (y + 14) (y + 1) 13 u ∧ oModel (gE g u.1 u.2.1) y ∧ mInit u.2.2.1 u.2.2.2 y) := by
  refine KC.mk (by decide) (Nat.le_of_ble_eq_true rfl) ?_
  intro p e s m below meth c ls hC hmn hr hlk hl hsz hw hS
  have hx := hC.1
  have hb := hC.2.1
  have hl : lv_has ls 1 [(0, .ref y)] := hl
  have hA : ∀ q ∈ L, cA0 L (y + 1) q := fun q h => Or.inl h
  have hB : ∀ q, q < s.heap.size → cA0 L (y + 1) q → z0 ≤ q := fun q h1 h2 => h2.elim (hw.2.2 q) (fun h => by omega)
  have hLe : L = L ++ List.range' (y + 1) 0 := (List.append_nil L).symm
  have hσo : ∀ q, (q < y ∨ y + 14 ≤ q) → σ q = σ q := fun _ _ => rfl
  have hMo : ∀ q, (q < y ∨ y + 14 ≤ q) → M q = M q := fun _ _ => rfl
  have hNo : ∀ q, (q < y ∨ y + 14 ≤ q) → N q = N q := fun _ _ => rfl
  refine lv_aload_n hx hb dX12_init_0 rfl (lv_at hl 0 rfl) ?_
  refine n_objI hC hl.1 q_152 q_11 q_12 ⟨by decide, by decide⟩ (Nat.le_of_ble_eq_true rfl) dX12_init_1 ?_
  refine lv_aload_n hx hb dX12_init_4 rfl (lv_at hl 0 rfl) ?_
  refine lv_sipush (v := (913 : Int32)) hx hb dX12_init_5 (by decide) ?_
  refine W_end (fun hze => ?_)
  have hz := n_hz hw ho_y.1 hze (by omega)
  clear hze
  refine n_newa hC hw hS hz (by omega) (k := 913) (by decide) (by decide) (by decide) (by show _ ≤ (13 : Nat); omega) (by show _ ≤ (5182 : Nat); omega) q_51 dX12_init_8 (fun H hw1 hzf hS1 => ?_)
  clear hw hS
  clear hzf hz
  refine W.widen (k := 1) (n := 913) (by omega) (by omega) ?_
  have hwk := hw1.name
  clear hw1
  obtain ⟨L1, σ1, M1, N1, hw1, eL, eσ, eM, eN⟩ := hwk
  have hLn : ∀ q ∈ L, q ∈ L1 := fun q h => by rw [eL]; exact List.mem_append_left _ h
  have hsn : ∀ q, (q < y + 1 ∨ y + 1 + 1 ≤ q) → σ1 q = σ q := fun q h => by rw [eσ]; exact up_out q h
  have hmn : ∀ q, (q < y + 1 ∨ y + 1 + 1 ≤ q) → M1 q = M q := fun q h => by rw [eM]; exact up_out q h
  have hnn : ∀ q, (q < y + 1 ∨ y + 1 + 1 ≤ q) → N1 q = N q := fun q h => by rw [eN]
  replace hA : ∀ q ∈ L1, cA0 L (y + 1) q := by rw [eL]; exact hA_snoc hA (Or.inr (by omega))
  replace hLe : L1 = L ++ List.range' (y + 1) 1 := by rw [eL]; exact (congrArg (fun t => t ++ _) hLe).trans (snoc_r (by omega))
  replace ho_y : Ft L1 σ1 (y) (.inr (12, [.inr none, .inr none, .inr none, .inr none, .inl 1, .inl 1, .inr none, .inr none, .inr none, .inl 0, .inl 0, .inl 0, .inl 0, .inl 0, .inr none, .inr none, .inr none, .inr none, .inl 0, .inl 0, .inl 0, .inl 0, .inl 0, .inr none, .inr none])) := Ft.mono ho_y hLn (hsn _ (by omega))
  replace mm_y_18 : M1 y 18 = 0 := by rw [hmn _ (by omega)]; exact mm_y_18
  replace mn_y_4 : N1 y 4 = 0 := by rw [hnn _ (by omega)]; exact mn_y_4
  replace mn_y_5 : N1 y 5 = 0 := by rw [hnn _ (by omega)]; exact mn_y_5
  replace hσo : ∀ q, (q < y ∨ y + 14 ≤ q) → σ1 q = σ q := fun q h => (hsn q (by omega)).trans (hσo q h)
  replace hMo : ∀ q, (q < y ∨ y + 14 ≤ q) → M1 q = M q := fun q h => (hmn q (by omega)).trans (hMo q h)
  replace hNo : ∀ q, (q < y ∨ y + 14 ≤ q) → N1 q = N q := fun q h => (hnn q (by omega)).trans (hNo q h)
  clear hLn hsn hmn hnn
  have hi_y_1 : Ft L1 σ1 (y + 1) (.inl (eI g, 913, none)) := ⟨by rw [eL]; simp, by rw [eσ]; exact va_up_self _ _ _⟩
  have mzz_y_1 : ∀ j, M1 (y + 1) j = 0 := fun j => by rw [eM, va_up_self]
  clear eL eσ eM eN
  refine n_putR hC hmn hw1 hS1 hA ho_y.1 ho_y.2 fl_X12_7 tyX12 tyX12_ok nmX12 rfl rfl rfl rfl rfl dX12_init_10 (fun H locs hw2 hS2 => ?_)
  clear hw1 hS1
  have hwk := hw2.name
  clear hw2
  obtain ⟨L2, σ2, M2, N2, hw2, eL, eσ, eM, eN⟩ := hwk
  have hLn : ∀ q ∈ L1, q ∈ L2 := fun q h => by rw [eL]; exact h
  have hsn : ∀ q, (q < y ∨ y + 1 ≤ q) → σ2 q = σ1 q := fun q h => by rw [eσ]; exact up_out q h
  have hmn : ∀ q, (q < 0 ∨ 0 ≤ q) → M2 q = M1 q := fun q h => by rw [eM]
  have hnn : ∀ q, (q < 0 ∨ 0 ≤ q) → N2 q = N1 q := fun q h => by rw [eN]
  replace hA : ∀ q ∈ L2, cA0 L (y + 1) q := by rw [eL]; exact hA
  replace hLe : L2 = L ++ List.range' (y + 1) 1 := eL.trans hLe
  have mem_o := ho_y.1
  clear ho_y
  replace hi_y_1 : Ft L2 σ2 (y + 1) (.inl (eI g, 913, none)) := Ft.mono hi_y_1 hLn (hsn _ (by omega))
  replace mm_y_18 : M2 y 18 = 0 := by rw [hmn _ (by omega)]; exact mm_y_18
  replace mn_y_4 : N2 y 4 = 0 := by rw [hnn _ (by omega)]; exact mn_y_4
  replace mn_y_5 : N2 y 5 = 0 := by rw [hnn _ (by omega)]; exact mn_y_5
  replace mzz_y_1 : ∀ j, M2 (y + 1) j = 0 := by rw [hmn _ (by omega)]; exact mzz_y_1
  replace hσo : ∀ q, (q < y ∨ y + 14 ≤ q) → σ2 q = σ q := fun q h => (hsn q (by omega)).trans (hσo q h)
  replace hMo : ∀ q, (q < y ∨ y + 14 ≤ q) → M2 q = M q := fun q h => (hmn q (by omega)).trans (hMo q h)
  replace hNo : ∀ q, (q < y ∨ y + 14 ≤ q) → N2 q = N q := fun q h => (hnn q (by omega)).trans (hNo q h)
  clear hLn hsn hmn hnn
  have ho_y : Ft L2 σ2 (y) (.inr (12, [.inr (some (y + 1)), .inr none, .inr none, .inr none, .inl 1, .inl 1, .inr none, .inr none, .inr none, .inl 0, .inl 0, .inl 0, .inl 0, .inl 0, .inr none, .inr none, .inr none, .inr none, .inl 0, .inl 0, .inl 0, .inl 0, .inl 0, .inr none, .inr none])) := ⟨by rw [eL]; exact mem_o, by rw [eσ]; exact va_up_self _ _ _⟩
  clear mem_o eL eσ eM eN
  refine lv_aload_n hx hb dX12_init_13 rfl (lv_at hl 0 rfl) ?_
  refine lv_sipush (v := (1826 : Int32)) hx hb dX12_init_14 (by decide) ?_
  refine W_end (fun hze => ?_)
  have hz := n_hz hw2 hi_y_1.1 hze (by omega)
  clear hze
  refine n_newa hC hw2 hS2 hz (by omega) (k := 1826) (by decide) (by decide) (by decide) (by show _ ≤ (13 : Nat); omega) (by show _ ≤ (5182 : Nat); omega) q_51 dX12_init_17 (fun H hw3 hzf hS3 => ?_)
  clear hw2 hS2
  clear hzf hz
  refine W.widen (k := 2) (n := 2739) (by omega) (by omega) ?_
  have hwk := hw3.name
  clear hw3
  obtain ⟨L3, σ3, M3, N3, hw3, eL, eσ, eM, eN⟩ := hwk
  have hLn : ∀ q ∈ L2, q ∈ L3 := fun q h => by rw [eL]; exact List.mem_append_left _ h
  have hsn : ∀ q, (q < y + 2 ∨ y + 2 + 1 ≤ q) → σ3 q = σ2 q := fun q h => by rw [eσ]; exact up_out q h
  have hmn : ∀ q, (q < y + 2 ∨ y + 2 + 1 ≤ q) → M3 q = M2 q := fun q h => by rw [eM]; exact up_out q h
  have hnn : ∀ q, (q < y + 2 ∨ y + 2 + 1 ≤ q) → N3 q = N2 q := fun q h => by rw [eN]
  replace hA : ∀ q ∈ L3, cA0 L (y + 1) q := by rw [eL]; exact hA_snoc hA (Or.inr (by omega))
  replace hLe : L3 = L ++ List.range' (y + 1) 2 := by rw [eL]; exact (congrArg (fun t => t ++ _) hLe).trans (snoc_r (by omega))
  replace hi_y_1 : Ft L3 σ3 (y + 1) (.inl (eI g, 913, none)) := Ft.mono hi_y_1 hLn (hsn _ (by omega))
  replace ho_y : Ft L3 σ3 (y) (.inr (12, [.inr (some (y + 1)), .inr none, .inr none, .inr none, .inl 1, .inl 1, .inr none, .inr none, .inr none, .inl 0, .inl 0, .inl 0, .inl 0, .inl 0, .inr none, .inr none, .inr none, .inr none, .inl 0, .inl 0, .inl 0, .inl 0, .inl 0, .inr none, .inr none])) := Ft.mono ho_y hLn (hsn _ (by omega))
  replace mm_y_18 : M3 y 18 = 0 := by rw [hmn _ (by omega)]; exact mm_y_18
  replace mn_y_4 : N3 y 4 = 0 := by rw [hnn _ (by omega)]; exact mn_y_4
  replace mn_y_5 : N3 y 5 = 0 := by rw [hnn _ (by omega)]; exact mn_y_5
  replace mzz_y_1 : ∀ j, M3 (y + 1) j = 0 := by rw [hmn _ (by omega)]; exact mzz_y_1
  replace hσo : ∀ q, (q < y ∨ y + 14 ≤ q) → σ3 q = σ q := fun q h => (hsn q (by omega)).trans (hσo q h)
  replace hMo : ∀ q, (q < y ∨ y + 14 ≤ q) → M3 q = M q := fun q h => (hmn q (by omega)).trans (hMo q h)
  replace hNo : ∀ q, (q < y ∨ y + 14 ≤ q) → N3 q = N q := fun q h => (hnn q (by omega)).trans (hNo q h)
  clear hLn hsn hmn hnn
  have hi_y_2 : Ft L3 σ3 (y + 2) (.inl (eI g, 1826, none)) := ⟨by rw [eL]; simp, by rw [eσ]; exact va_up_self _ _ _⟩
  have mzz_y_2 : ∀ j, M3 (y + 2) j = 0 := fun j => by rw [eM, va_up_self]
  clear eL eσ eM eN
  refine n_putR hC hmn hw3 hS3 hA ho_y.1 ho_y.2 fl_X12_13 tyX12 tyX12_ok nmX12 rfl rfl rfl rfl rfl dX12_init_19 (fun H locs hw4 hS4 => ?_)
  clear hw3 hS3
  have hwk := hw4.name
  clear hw4
  obtain ⟨L4, σ4, M4, N4, hw4, eL, eσ, eM, eN⟩ := hwk
  have hLn : ∀ q ∈ L3, q ∈ L4 := fun q h => by rw [eL]; exact h
  have hsn : ∀ q, (q < y ∨ y + 1 ≤ q) → σ4 q = σ3 q := fun q h => by rw [eσ]; exact up_out q h
  have hmn : ∀ q, (q < 0 ∨ 0 ≤ q) → M4 q = M3 q := fun q h => by rw [eM]
  have hnn : ∀ q, (q < 0 ∨ 0 ≤ q) → N4 q = N3 q := fun q h => by rw [eN]
  replace hA : ∀ q ∈ L4, cA0 L (y + 1) q := by rw [eL]; exact hA
  replace hLe : L4 = L ++ List.range' (y + 1) 2 := eL.trans hLe
  have mem_o := ho_y.1
  clear ho_y
  replace hi_y_1 : Ft L4 σ4 (y + 1) (.inl (eI g, 913, none)) := Ft.mono hi_y_1 hLn (hsn _ (by omega))
  replace hi_y_2 : Ft L4 σ4 (y + 2) (.inl (eI g, 1826, none)) := Ft.mono hi_y_2 hLn (hsn _ (by omega))
  replace mm_y_18 : M4 y 18 = 0 := by rw [hmn _ (by omega)]; exact mm_y_18
  replace mn_y_4 : N4 y 4 = 0 := by rw [hnn _ (by omega)]; exact mn_y_4
  replace mn_y_5 : N4 y 5 = 0 := by rw [hnn _ (by omega)]; exact mn_y_5
  replace mzz_y_1 : ∀ j, M4 (y + 1) j = 0 := by rw [hmn _ (by omega)]; exact mzz_y_1
  replace mzz_y_2 : ∀ j, M4 (y + 2) j = 0 := by rw [hmn _ (by omega)]; exact mzz_y_2
  replace hσo : ∀ q, (q < y ∨ y + 14 ≤ q) → σ4 q = σ q := fun q h => (hsn q (by omega)).trans (hσo q h)
  replace hMo : ∀ q, (q < y ∨ y + 14 ≤ q) → M4 q = M q := fun q h => (hmn q (by omega)).trans (hMo q h)
  replace hNo : ∀ q, (q < y ∨ y + 14 ≤ q) → N4 q = N q := fun q h => (hnn q (by omega)).trans (hNo q h)
  clear hLn hsn hmn hnn
  have ho_y : Ft L4 σ4 (y) (.inr (12, [.inr (some (y + 1)), .inr (some (y + 2)), .inr none, .inr none, .inl 1, .inl 1, .inr none, .inr none, .inr none, .inl 0, .inl 0, .inl 0, .inl 0, .inl 0, .inr none, .inr none, .inr none, .inr none, .inl 0, .inl 0, .inl 0, .inl 0, .inl 0, .inr none, .inr none])) := ⟨by rw [eL]; exact mem_o, by rw [eσ]; exact va_up_self _ _ _⟩
  clear mem_o eL eσ eM eN
  refine lv_aload_n hx hb dX12_init_22 rfl (lv_at hl 0 rfl) ?_
  refine lv_iconst (v := (2 : Int32)) hx hb dX12_init_23 (by decide) ?_
  refine W_end (fun hze => ?_)
  have hz := n_hz hw4 hi_y_2.1 hze (by omega)
  clear hze
  refine n_newz hC hw4 hS4 hz (by omega) (k := 2) (by decide) (by decide) (by decide) (by show _ ≤ (13 : Nat); omega) (by show _ ≤ (5182 : Nat); omega) q_33 dX12_init_24 (fun H hw5 hzf hS5 => ?_)
  clear hw4 hS4
  clear hzf hz
  refine W.widen (k := 3) (n := 2741) (by omega) (by omega) ?_
  have hwk := hw5.name
  clear hw5
  obtain ⟨L5, σ5, M5, N5, hw5, eL, eσ, eM, eN⟩ := hwk
  have hLn : ∀ q ∈ L4, q ∈ L5 := fun q h => by rw [eL]; exact List.mem_append_left _ h
  have hsn : ∀ q, (q < y + 3 ∨ y + 3 + 1 ≤ q) → σ5 q = σ4 q := fun q h => by rw [eσ]; exact up_out q h
  have hmn : ∀ q, (q < y + 3 ∨ y + 3 + 1 ≤ q) → M5 q = M4 q := fun q h => by rw [eM]; exact up_out q h
  have hnn : ∀ q, (q < y + 3 ∨ y + 3 + 1 ≤ q) → N5 q = N4 q := fun q h => by rw [eN]
  replace hA : ∀ q ∈ L5, cA0 L (y + 1) q := by rw [eL]; exact hA_snoc hA (Or.inr (by omega))
  replace hLe : L5 = L ++ List.range' (y + 1) 3 := by rw [eL]; exact (congrArg (fun t => t ++ _) hLe).trans (snoc_r (by omega))
  replace hi_y_1 : Ft L5 σ5 (y + 1) (.inl (eI g, 913, none)) := Ft.mono hi_y_1 hLn (hsn _ (by omega))
  replace hi_y_2 : Ft L5 σ5 (y + 2) (.inl (eI g, 1826, none)) := Ft.mono hi_y_2 hLn (hsn _ (by omega))
  replace ho_y : Ft L5 σ5 (y) (.inr (12, [.inr (some (y + 1)), .inr (some (y + 2)), .inr none, .inr none, .inl 1, .inl 1, .inr none, .inr none, .inr none, .inl 0, .inl 0, .inl 0, .inl 0, .inl 0, .inr none, .inr none, .inr none, .inr none, .inl 0, .inl 0, .inl 0, .inl 0, .inl 0, .inr none, .inr none])) := Ft.mono ho_y hLn (hsn _ (by omega))
  replace mm_y_18 : M5 y 18 = 0 := by rw [hmn _ (by omega)]; exact mm_y_18
  replace mn_y_4 : N5 y 4 = 0 := by rw [hnn _ (by omega)]; exact mn_y_4
  replace mn_y_5 : N5 y 5 = 0 := by rw [hnn _ (by omega)]; exact mn_y_5
  replace mzz_y_1 : ∀ j, M5 (y + 1) j = 0 := by rw [hmn _ (by omega)]; exact mzz_y_1
  replace mzz_y_2 : ∀ j, M5 (y + 2) j = 0 := by rw [hmn _ (by omega)]; exact mzz_y_2
  replace hσo : ∀ q, (q < y ∨ y + 14 ≤ q) → σ5 q = σ q := fun q h => (hsn q (by omega)).trans (hσo q h)
  replace hMo : ∀ q, (q < y ∨ y + 14 ≤ q) → M5 q = M q := fun q h => (hmn q (by omega)).trans (hMo q h)
  replace hNo : ∀ q, (q < y ∨ y + 14 ≤ q) → N5 q = N q := fun q h => (hnn q (by omega)).trans (hNo q h)
  clear hLn hsn hmn hnn
  have hz_y_3 : Ft L5 σ5 (y + 3) (.inl (eZ g, 2, none)) := ⟨by rw [eL]; simp, by rw [eσ]; exact va_up_self _ _ _⟩
  have mzz_y_3 : ∀ j, M5 (y + 3) j = 0 := fun j => by rw [eM, va_up_self]
  clear eL eσ eM eN
  refine n_putR hC hmn hw5 hS5 hA ho_y.1 ho_y.2 fl_X12_16 tyX12 tyX12_ok nmX12 rfl rfl rfl rfl rfl dX12_init_26 (fun H locs hw6 hS6 => ?_)
  clear hw5 hS5
  have hwk := hw6.name
  clear hw6
  obtain ⟨L6, σ6, M6, N6, hw6, eL, eσ, eM, eN⟩ := hwk
  have hLn : ∀ q ∈ L5, q ∈ L6 := fun q h => by rw [eL]; exact h
  have hsn : ∀ q, (q < y ∨ y + 1 ≤ q) → σ6 q = σ5 q := fun q h => by rw [eσ]; exact up_out q h
  have hmn : ∀ q, (q < 0 ∨ 0 ≤ q) → M6 q = M5 q := fun q h => by rw [eM]
  have hnn : ∀ q, (q < 0 ∨ 0 ≤ q) → N6 q = N5 q := fun q h => by rw [eN]
  replace hA : ∀ q ∈ L6, cA0 L (y + 1) q := by rw [eL]; exact hA
  replace hLe : L6 = L ++ List.range' (y + 1) 3 := eL.trans hLe
  have mem_o := ho_y.1
  clear ho_y
  replace hi_y_1 : Ft L6 σ6 (y + 1) (.inl (eI g, 913, none)) := Ft.mono hi_y_1 hLn (hsn _ (by omega))
  replace hi_y_2 : Ft L6 σ6 (y + 2) (.inl (eI g, 1826, none)) := Ft.mono hi_y_2 hLn (hsn _ (by omega))
  replace hz_y_3 : Ft L6 σ6 (y + 3) (.inl (eZ g, 2, none)) := Ft.mono hz_y_3 hLn (hsn _ (by omega))
  replace mm_y_18 : M6 y 18 = 0 := by rw [hmn _ (by omega)]; exact mm_y_18
  replace mn_y_4 : N6 y 4 = 0 := by rw [hnn _ (by omega)]; exact mn_y_4
  replace mn_y_5 : N6 y 5 = 0 := by rw [hnn _ (by omega)]; exact mn_y_5
  replace mzz_y_1 : ∀ j, M6 (y + 1) j = 0 := by rw [hmn _ (by omega)]; exact mzz_y_1
  replace mzz_y_2 : ∀ j, M6 (y + 2) j = 0 := by rw [hmn _ (by omega)]; exact mzz_y_2
  replace mzz_y_3 : ∀ j, M6 (y + 3) j = 0 := by rw [hmn _ (by omega)]; exact mzz_y_3
  replace hσo : ∀ q, (q < y ∨ y + 14 ≤ q) → σ6 q = σ q := fun q h => (hsn q (by omega)).trans (hσo q h)
  replace hMo : ∀ q, (q < y ∨ y + 14 ≤ q) → M6 q = M q := fun q h => (hmn q (by omega)).trans (hMo q h)
  replace hNo : ∀ q, (q < y ∨ y + 14 ≤ q) → N6 q = N q := fun q h => (hnn q (by omega)).trans (hNo q h)
  clear hLn hsn hmn hnn
  have ho_y : Ft L6 σ6 (y) (.inr (12, [.inr (some (y + 1)), .inr (some (y + 2)), .inr (some (y + 3)), .inr none, .inl 1, .inl 1, .inr none, .inr none, .inr none, .inl 0, .inl 0, .inl 0, .inl 0, .inl 0, .inr none, .inr none, .inr none, .inr none, .inl 0, .inl 0, .inl 0, .inl 0, .inl 0, .inr none, .inr none])) := ⟨by rw [eL]; exact mem_o, by rw [eσ]; exact va_up_self _ _ _⟩
  clear mem_o eL eσ eM eN
  refine lv_aload_n hx hb dX12_init_29 rfl (lv_at hl 0 rfl) ?_
  refine lv_iconst (v := (3 : Int32)) hx hb dX12_init_30 (by decide) ?_
  refine W_end (fun hze => ?_)
  have hz := n_hz hw6 hz_y_3.1 hze (by omega)
  clear hze
  refine n_newa hC hw6 hS6 hz (by omega) (k := 3) (by decide) (by decide) (by decide) (by show _ ≤ (13 : Nat); omega) (by show _ ≤ (5182 : Nat); omega) q_51 dX12_init_31 (fun H hw7 hzf hS7 => ?_)
  clear hw6 hS6
  clear hzf hz
  refine W.widen (k := 4) (n := 2744) (by omega) (by omega) ?_
  have hwk := hw7.name
  clear hw7
  obtain ⟨L7, σ7, M7, N7, hw7, eL, eσ, eM, eN⟩ := hwk
  have hLn : ∀ q ∈ L6, q ∈ L7 := fun q h => by rw [eL]; exact List.mem_append_left _ h
  have hsn : ∀ q, (q < y + 4 ∨ y + 4 + 1 ≤ q) → σ7 q = σ6 q := fun q h => by rw [eσ]; exact up_out q h
  have hmn : ∀ q, (q < y + 4 ∨ y + 4 + 1 ≤ q) → M7 q = M6 q := fun q h => by rw [eM]; exact up_out q h
  have hnn : ∀ q, (q < y + 4 ∨ y + 4 + 1 ≤ q) → N7 q = N6 q := fun q h => by rw [eN]
  replace hA : ∀ q ∈ L7, cA0 L (y + 1) q := by rw [eL]; exact hA_snoc hA (Or.inr (by omega))
  replace hLe : L7 = L ++ List.range' (y + 1) 4 := by rw [eL]; exact (congrArg (fun t => t ++ _) hLe).trans (snoc_r (by omega))
  replace hi_y_1 : Ft L7 σ7 (y + 1) (.inl (eI g, 913, none)) := Ft.mono hi_y_1 hLn (hsn _ (by omega))
  replace hi_y_2 : Ft L7 σ7 (y + 2) (.inl (eI g, 1826, none)) := Ft.mono hi_y_2 hLn (hsn _ (by omega))
  replace hz_y_3 : Ft L7 σ7 (y + 3) (.inl (eZ g, 2, none)) := Ft.mono hz_y_3 hLn (hsn _ (by omega))
  replace ho_y : Ft L7 σ7 (y) (.inr (12, [.inr (some (y + 1)), .inr (some (y + 2)), .inr (some (y + 3)), .inr none, .inl 1, .inl 1, .inr none, .inr none, .inr none, .inl 0, .inl 0, .inl 0, .inl 0, .inl 0, .inr none, .inr none, .inr none, .inr none, .inl 0, .inl 0, .inl 0, .inl 0, .inl 0, .inr none, .inr none])) := Ft.mono ho_y hLn (hsn _ (by omega))
  replace mm_y_18 : M7 y 18 = 0 := by rw [hmn _ (by omega)]; exact mm_y_18
  replace mn_y_4 : N7 y 4 = 0 := by rw [hnn _ (by omega)]; exact mn_y_4
  replace mn_y_5 : N7 y 5 = 0 := by rw [hnn _ (by omega)]; exact mn_y_5
  replace mzz_y_1 : ∀ j, M7 (y + 1) j = 0 := by rw [hmn _ (by omega)]; exact mzz_y_1
  replace mzz_y_2 : ∀ j, M7 (y + 2) j = 0 := by rw [hmn _ (by omega)]; exact mzz_y_2
  replace mzz_y_3 : ∀ j, M7 (y + 3) j = 0 := by rw [hmn _ (by omega)]; exact mzz_y_3
  replace hσo : ∀ q, (q < y ∨ y + 14 ≤ q) → σ7 q = σ q := fun q h => (hsn q (by omega)).trans (hσo q h)
  replace hMo : ∀ q, (q < y ∨ y + 14 ≤ q) → M7 q = M q := fun q h => (hmn q (by omega)).trans (hMo q h)
  replace hNo : ∀ q, (q < y ∨ y + 14 ≤ q) → N7 q = N q := fun q h => (hnn q (by omega)).trans (hNo q h)
  clear hLn hsn hmn hnn
  have hi_y_4 : Ft L7 σ7 (y + 4) (.inl (eI g, 3, none)) := ⟨by rw [eL]; simp, by rw [eσ]; exact va_up_self _ _ _⟩
  have mzz_y_4 : ∀ j, M7 (y + 4) j = 0 := fun j => by rw [eM, va_up_self]
  clear eL eσ eM eN
  refine n_putR hC hmn hw7 hS7 hA ho_y.1 ho_y.2 fl_X12_20 tyX12 tyX12_ok nmX12 rfl rfl rfl rfl rfl dX12_init_33 (fun H locs hw8 hS8 => ?_)
  clear hw7 hS7
  have hwk := hw8.name
  clear hw8
  obtain ⟨L8, σ8, M8, N8, hw8, eL, eσ, eM, eN⟩ := hwk
  have hLn : ∀ q ∈ L7, q ∈ L8 := fun q h => by rw [eL]; exact h
  have hsn : ∀ q, (q < y ∨ y + 1 ≤ q) → σ8 q = σ7 q := fun q h => by rw [eσ]; exact up_out q h
  have hmn : ∀ q, (q < 0 ∨ 0 ≤ q) → M8 q = M7 q := fun q h => by rw [eM]
  have hnn : ∀ q, (q < 0 ∨ 0 ≤ q) → N8 q = N7 q := fun q h => by rw [eN]
  replace hA : ∀ q ∈ L8, cA0 L (y + 1) q := by rw [eL]; exact hA
  replace hLe : L8 = L ++ List.range' (y + 1) 4 := eL.trans hLe
  have mem_o := ho_y.1
  clear ho_y
  replace hi_y_1 : Ft L8 σ8 (y + 1) (.inl (eI g, 913, none)) := Ft.mono hi_y_1 hLn (hsn _ (by omega))
  replace hi_y_2 : Ft L8 σ8 (y + 2) (.inl (eI g, 1826, none)) := Ft.mono hi_y_2 hLn (hsn _ (by omega))
  replace hz_y_3 : Ft L8 σ8 (y + 3) (.inl (eZ g, 2, none)) := Ft.mono hz_y_3 hLn (hsn _ (by omega))
  replace hi_y_4 : Ft L8 σ8 (y + 4) (.inl (eI g, 3, none)) := Ft.mono hi_y_4 hLn (hsn _ (by omega))
  replace mm_y_18 : M8 y 18 = 0 := by rw [hmn _ (by omega)]; exact mm_y_18
  replace mn_y_4 : N8 y 4 = 0 := by rw [hnn _ (by omega)]; exact mn_y_4
  replace mn_y_5 : N8 y 5 = 0 := by rw [hnn _ (by omega)]; exact mn_y_5
  replace mzz_y_1 : ∀ j, M8 (y + 1) j = 0 := by rw [hmn _ (by omega)]; exact mzz_y_1
  replace mzz_y_2 : ∀ j, M8 (y + 2) j = 0 := by rw [hmn _ (by omega)]; exact mzz_y_2
  replace mzz_y_3 : ∀ j, M8 (y + 3) j = 0 := by rw [hmn _ (by omega)]; exact mzz_y_3
  replace mzz_y_4 : ∀ j, M8 (y + 4) j = 0 := by rw [hmn _ (by omega)]; exact mzz_y_4
  replace hσo : ∀ q, (q < y ∨ y + 14 ≤ q) → σ8 q = σ q := fun q h => (hsn q (by omega)).trans (hσo q h)
  replace hMo : ∀ q, (q < y ∨ y + 14 ≤ q) → M8 q = M q := fun q h => (hmn q (by omega)).trans (hMo q h)
  replace hNo : ∀ q, (q < y ∨ y + 14 ≤ q) → N8 q = N q := fun q h => (hnn q (by omega)).trans (hNo q h)
  clear hLn hsn hmn hnn
  have ho_y : Ft L8 σ8 (y) (.inr (12, [.inr (some (y + 1)), .inr (some (y + 2)), .inr (some (y + 3)), .inr (some (y + 4)), .inl 1, .inl 1, .inr none, .inr none, .inr none, .inl 0, .inl 0, .inl 0, .inl 0, .inl 0, .inr none, .inr none, .inr none, .inr none, .inl 0, .inl 0, .inl 0, .inl 0, .inl 0, .inr none, .inr none])) := ⟨by rw [eL]; exact mem_o, by rw [eσ]; exact va_up_self _ _ _⟩
  clear mem_o eL eσ eM eN
  refine lv_aload_n hx hb dX12_init_36 rfl (lv_at hl 0 rfl) ?_
  refine lv_lconst (v := (1 : Int64)) hx hb dX12_init_37 (by decide) ?_
  refine n_putL hC hw8 hS8 hA ho_y.1 ho_y.2 fl_X12_23 tyX12 tyX12_ok nmX12 rfl rfl rfl dX12_init_38 (fun H locs hw9 hS9 => ?_)
  clear hw8 hS8
  have hwk := hw9.name
  clear hw9
  obtain ⟨L9, σ9, M9, N9, hw9, eL, eσ, eM, eN⟩ := hwk
  have hLn : ∀ q ∈ L8, q ∈ L9 := fun q h => by rw [eL]; exact h
  have hsn : ∀ q, (q < 0 ∨ 0 ≤ q) → σ9 q = σ8 q := fun q h => by rw [eσ]
  have hmn : ∀ q, (q < 0 ∨ 0 ≤ q) → M9 q = M8 q := fun q h => by rw [eM]
  have hnn : ∀ q, (q < y ∨ y + 1 ≤ q) → N9 q = N8 q := fun q h => by rw [eN]; exact va_up_ne _ _ (by omega)
  replace hA : ∀ q ∈ L9, cA0 L (y + 1) q := by rw [eL]; exact hA
  replace hLe : L9 = L ++ List.range' (y + 1) 4 := eL.trans hLe
  replace mn_y_4 : N9 y 4 = 0 := by rw [eN]; simp [up2L, va_up, vp_updL]; exact mn_y_4
  replace mn_y_5 : N9 y 5 = (1 : Int64) := by rw [eN]; simp [up2L, va_up, vp_updL]
  replace hi_y_1 : Ft L9 σ9 (y + 1) (.inl (eI g, 913, none)) := Ft.mono hi_y_1 hLn (hsn _ (by omega))
  replace hi_y_2 : Ft L9 σ9 (y + 2) (.inl (eI g, 1826, none)) := Ft.mono hi_y_2 hLn (hsn _ (by omega))
  replace hz_y_3 : Ft L9 σ9 (y + 3) (.inl (eZ g, 2, none)) := Ft.mono hz_y_3 hLn (hsn _ (by omega))
  replace hi_y_4 : Ft L9 σ9 (y + 4) (.inl (eI g, 3, none)) := Ft.mono hi_y_4 hLn (hsn _ (by omega))
  replace ho_y : Ft L9 σ9 (y) (.inr (12, [.inr (some (y + 1)), .inr (some (y + 2)), .inr (some (y + 3)), .inr (some (y + 4)), .inl 1, .inl 1, .inr none, .inr none, .inr none, .inl 0, .inl 0, .inl 0, .inl 0, .inl 0, .inr none, .inr none, .inr none, .inr none, .inl 0, .inl 0, .inl 0, .inl 0, .inl 0, .inr none, .inr none])) := Ft.mono ho_y hLn (hsn _ (by omega))
  replace mm_y_18 : M9 y 18 = 0 := by rw [hmn _ (by omega)]; exact mm_y_18
  replace mzz_y_1 : ∀ j, M9 (y + 1) j = 0 := by rw [hmn _ (by omega)]; exact mzz_y_1
  replace mzz_y_2 : ∀ j, M9 (y + 2) j = 0 := by rw [hmn _ (by omega)]; exact mzz_y_2
  replace mzz_y_3 : ∀ j, M9 (y + 3) j = 0 := by rw [hmn _ (by omega)]; exact mzz_y_3
  replace mzz_y_4 : ∀ j, M9 (y + 4) j = 0 := by rw [hmn _ (by omega)]; exact mzz_y_4
  replace hσo : ∀ q, (q < y ∨ y + 14 ≤ q) → σ9 q = σ q := fun q h => (hsn q (by omega)).trans (hσo q h)
  replace hMo : ∀ q, (q < y ∨ y + 14 ≤ q) → M9 q = M q := fun q h => (hmn q (by omega)).trans (hMo q h)
  replace hNo : ∀ q, (q < y ∨ y + 14 ≤ q) → N9 q = N q := fun q h => (hnn q (by omega)).trans (hNo q h)
  clear hLn hsn hmn hnn
  clear eL eσ eM eN
  refine lv_aload_n hx hb dX12_init_41 rfl (lv_at hl 0 rfl) ?_
  refine lv_bipush (v := (120 : Int32)) hx hb dX12_init_42 (by decide) ?_
  refine W_end (fun hze => ?_)
  have hz := n_hz hw9 hi_y_4.1 hze (by omega)
  clear hze
  refine n_newa hC hw9 hS9 hz (by omega) (k := 120) (by decide) (by decide) (by decide) (by show _ ≤ (13 : Nat); omega) (by show _ ≤ (5182 : Nat); omega) q_51 dX12_init_44 (fun H hw10 hzf hS10 => ?_)
  clear hw9 hS9
  clear hzf hz
  refine W.widen (k := 5) (n := 2864) (by omega) (by omega) ?_
  have hwk := hw10.name
  clear hw10
  obtain ⟨L10, σ10, M10, N10, hw10, eL, eσ, eM, eN⟩ := hwk
  have hLn : ∀ q ∈ L9, q ∈ L10 := fun q h => by rw [eL]; exact List.mem_append_left _ h
  have hsn : ∀ q, (q < y + 5 ∨ y + 5 + 1 ≤ q) → σ10 q = σ9 q := fun q h => by rw [eσ]; exact up_out q h
  have hmn : ∀ q, (q < y + 5 ∨ y + 5 + 1 ≤ q) → M10 q = M9 q := fun q h => by rw [eM]; exact up_out q h
  have hnn : ∀ q, (q < y + 5 ∨ y + 5 + 1 ≤ q) → N10 q = N9 q := fun q h => by rw [eN]
  replace hA : ∀ q ∈ L10, cA0 L (y + 1) q := by rw [eL]; exact hA_snoc hA (Or.inr (by omega))
  replace hLe : L10 = L ++ List.range' (y + 1) 5 := by rw [eL]; exact (congrArg (fun t => t ++ _) hLe).trans (snoc_r (by omega))
  replace hi_y_1 : Ft L10 σ10 (y + 1) (.inl (eI g, 913, none)) := Ft.mono hi_y_1 hLn (hsn _ (by omega))
  replace hi_y_2 : Ft L10 σ10 (y + 2) (.inl (eI g, 1826, none)) := Ft.mono hi_y_2 hLn (hsn _ (by omega))
  replace hz_y_3 : Ft L10 σ10 (y + 3) (.inl (eZ g, 2, none)) := Ft.mono hz_y_3 hLn (hsn _ (by omega))
  replace hi_y_4 : Ft L10 σ10 (y + 4) (.inl (eI g, 3, none)) := Ft.mono hi_y_4 hLn (hsn _ (by omega))
  replace ho_y : Ft L10 σ10 (y) (.inr (12, [.inr (some (y + 1)), .inr (some (y + 2)), .inr (some (y + 3)), .inr (some (y + 4)), .inl 1, .inl 1, .inr none, .inr none, .inr none, .inl 0, .inl 0, .inl 0, .inl 0, .inl 0, .inr none, .inr none, .inr none, .inr none, .inl 0, .inl 0, .inl 0, .inl 0, .inl 0, .inr none, .inr none])) := Ft.mono ho_y hLn (hsn _ (by omega))
  replace mm_y_18 : M10 y 18 = 0 := by rw [hmn _ (by omega)]; exact mm_y_18
  replace mzz_y_1 : ∀ j, M10 (y + 1) j = 0 := by rw [hmn _ (by omega)]; exact mzz_y_1
  replace mzz_y_2 : ∀ j, M10 (y + 2) j = 0 := by rw [hmn _ (by omega)]; exact mzz_y_2
  replace mzz_y_3 : ∀ j, M10 (y + 3) j = 0 := by rw [hmn _ (by omega)]; exact mzz_y_3
  replace mzz_y_4 : ∀ j, M10 (y + 4) j = 0 := by rw [hmn _ (by omega)]; exact mzz_y_4
  replace mn_y_4 : N10 y 4 = 0 := by rw [hnn _ (by omega)]; exact mn_y_4
  replace mn_y_5 : N10 y 5 = (1 : Int64) := by rw [hnn _ (by omega)]; exact mn_y_5
  replace hσo : ∀ q, (q < y ∨ y + 14 ≤ q) → σ10 q = σ q := fun q h => (hsn q (by omega)).trans (hσo q h)
  replace hMo : ∀ q, (q < y ∨ y + 14 ≤ q) → M10 q = M q := fun q h => (hmn q (by omega)).trans (hMo q h)
  replace hNo : ∀ q, (q < y ∨ y + 14 ≤ q) → N10 q = N q := fun q h => (hnn q (by omega)).trans (hNo q h)
  clear hLn hsn hmn hnn
  have hi_y_5 : Ft L10 σ10 (y + 5) (.inl (eI g, 120, none)) := ⟨by rw [eL]; simp, by rw [eσ]; exact va_up_self _ _ _⟩
  have mzz_y_5 : ∀ j, M10 (y + 5) j = 0 := fun j => by rw [eM, va_up_self]
  clear eL eσ eM eN
  refine n_putR hC hmn hw10 hS10 hA ho_y.1 ho_y.2 fl_X12_27 tyX12 tyX12_ok nmX12 rfl rfl rfl rfl rfl dX12_init_46 (fun H locs hw11 hS11 => ?_)
  clear hw10 hS10
  have hwk := hw11.name
  clear hw11
  obtain ⟨L11, σ11, M11, N11, hw11, eL, eσ, eM, eN⟩ := hwk
  have hLn : ∀ q ∈ L10, q ∈ L11 := fun q h => by rw [eL]; exact h
  have hsn : ∀ q, (q < y ∨ y + 1 ≤ q) → σ11 q = σ10 q := fun q h => by rw [eσ]; exact up_out q h
  have hmn : ∀ q, (q < 0 ∨ 0 ≤ q) → M11 q = M10 q := fun q h => by rw [eM]
  have hnn : ∀ q, (q < 0 ∨ 0 ≤ q) → N11 q = N10 q := fun q h => by rw [eN]
  replace hA : ∀ q ∈ L11, cA0 L (y + 1) q := by rw [eL]; exact hA
  replace hLe : L11 = L ++ List.range' (y + 1) 5 := eL.trans hLe
  have mem_o := ho_y.1
  clear ho_y
  replace hi_y_1 : Ft L11 σ11 (y + 1) (.inl (eI g, 913, none)) := Ft.mono hi_y_1 hLn (hsn _ (by omega))
  replace hi_y_2 : Ft L11 σ11 (y + 2) (.inl (eI g, 1826, none)) := Ft.mono hi_y_2 hLn (hsn _ (by omega))
  replace hz_y_3 : Ft L11 σ11 (y + 3) (.inl (eZ g, 2, none)) := Ft.mono hz_y_3 hLn (hsn _ (by omega))
  replace hi_y_4 : Ft L11 σ11 (y + 4) (.inl (eI g, 3, none)) := Ft.mono hi_y_4 hLn (hsn _ (by omega))
  replace hi_y_5 : Ft L11 σ11 (y + 5) (.inl (eI g, 120, none)) := Ft.mono hi_y_5 hLn (hsn _ (by omega))
  replace mm_y_18 : M11 y 18 = 0 := by rw [hmn _ (by omega)]; exact mm_y_18
  replace mzz_y_1 : ∀ j, M11 (y + 1) j = 0 := by rw [hmn _ (by omega)]; exact mzz_y_1
  replace mzz_y_2 : ∀ j, M11 (y + 2) j = 0 := by rw [hmn _ (by omega)]; exact mzz_y_2
  replace mzz_y_3 : ∀ j, M11 (y + 3) j = 0 := by rw [hmn _ (by omega)]; exact mzz_y_3
  replace mzz_y_4 : ∀ j, M11 (y + 4) j = 0 := by rw [hmn _ (by omega)]; exact mzz_y_4
  replace mn_y_4 : N11 y 4 = 0 := by rw [hnn _ (by omega)]; exact mn_y_4
  replace mn_y_5 : N11 y 5 = (1 : Int64) := by rw [hnn _ (by omega)]; exact mn_y_5
  replace mzz_y_5 : ∀ j, M11 (y + 5) j = 0 := by rw [hmn _ (by omega)]; exact mzz_y_5
  replace hσo : ∀ q, (q < y ∨ y + 14 ≤ q) → σ11 q = σ q := fun q h => (hsn q (by omega)).trans (hσo q h)
  replace hMo : ∀ q, (q < y ∨ y + 14 ≤ q) → M11 q = M q := fun q h => (hmn q (by omega)).trans (hMo q h)
  replace hNo : ∀ q, (q < y ∨ y + 14 ≤ q) → N11 q = N q := fun q h => (hnn q (by omega)).trans (hNo q h)
  clear hLn hsn hmn hnn
  have ho_y : Ft L11 σ11 (y) (.inr (12, [.inr (some (y + 1)), .inr (some (y + 2)), .inr (some (y + 3)), .inr (some (y + 4)), .inl 1, .inl 1, .inr (some (y + 5)), .inr none, .inr none, .inl 0, .inl 0, .inl 0, .inl 0, .inl 0, .inr none, .inr none, .inr none, .inr none, .inl 0, .inl 0, .inl 0, .inl 0, .inl 0, .inr none, .inr none])) := ⟨by rw [eL]; exact mem_o, by rw [eσ]; exact va_up_self _ _ _⟩
  clear mem_o eL eσ eM eN
  refine lv_aload_n hx hb dX12_init_49 rfl (lv_at hl 0 rfl) ?_
  refine lv_bipush (v := (120 : Int32)) hx hb dX12_init_50 (by decide) ?_
  refine W_end (fun hze => ?_)
  have hz := n_hz hw11 hi_y_5.1 hze (by omega)
  clear hze
  refine n_newa hC hw11 hS11 hz (by omega) (k := 120) (by decide) (by decide) (by decide) (by show _ ≤ (13 : Nat); omega) (by show _ ≤ (5182 : Nat); omega) q_51 dX12_init_52 (fun H hw12 hzf hS12 => ?_)
  clear hw11 hS11
  clear hzf hz
  refine W.widen (k := 6) (n := 2984) (by omega) (by omega) ?_
  have hwk := hw12.name
  clear hw12
  obtain ⟨L12, σ12, M12, N12, hw12, eL, eσ, eM, eN⟩ := hwk
  have hLn : ∀ q ∈ L11, q ∈ L12 := fun q h => by rw [eL]; exact List.mem_append_left _ h
  have hsn : ∀ q, (q < y + 6 ∨ y + 6 + 1 ≤ q) → σ12 q = σ11 q := fun q h => by rw [eσ]; exact up_out q h
  have hmn : ∀ q, (q < y + 6 ∨ y + 6 + 1 ≤ q) → M12 q = M11 q := fun q h => by rw [eM]; exact up_out q h
  have hnn : ∀ q, (q < y + 6 ∨ y + 6 + 1 ≤ q) → N12 q = N11 q := fun q h => by rw [eN]
  replace hA : ∀ q ∈ L12, cA0 L (y + 1) q := by rw [eL]; exact hA_snoc hA (Or.inr (by omega))
  replace hLe : L12 = L ++ List.range' (y + 1) 6 := by rw [eL]; exact (congrArg (fun t => t ++ _) hLe).trans (snoc_r (by omega))
  replace hi_y_1 : Ft L12 σ12 (y + 1) (.inl (eI g, 913, none)) := Ft.mono hi_y_1 hLn (hsn _ (by omega))
  replace hi_y_2 : Ft L12 σ12 (y + 2) (.inl (eI g, 1826, none)) := Ft.mono hi_y_2 hLn (hsn _ (by omega))
  replace hz_y_3 : Ft L12 σ12 (y + 3) (.inl (eZ g, 2, none)) := Ft.mono hz_y_3 hLn (hsn _ (by omega))
  replace hi_y_4 : Ft L12 σ12 (y + 4) (.inl (eI g, 3, none)) := Ft.mono hi_y_4 hLn (hsn _ (by omega))
  replace hi_y_5 : Ft L12 σ12 (y + 5) (.inl (eI g, 120, none)) := Ft.mono hi_y_5 hLn (hsn _ (by omega))
  replace ho_y : Ft L12 σ12 (y) (.inr (12, [.inr (some (y + 1)), .inr (some (y + 2)), .inr (some (y + 3)), .inr (some (y + 4)), .inl 1, .inl 1, .inr (some (y + 5)), .inr none, .inr none, .inl 0, .inl 0, .inl 0, .inl 0, .inl 0, .inr none, .inr none, .inr none, .inr none, .inl 0, .inl 0, .inl 0, .inl 0, .inl 0, .inr none, .inr none])) := Ft.mono ho_y hLn (hsn _ (by omega))
  replace mm_y_18 : M12 y 18 = 0 := by rw [hmn _ (by omega)]; exact mm_y_18
  replace mzz_y_1 : ∀ j, M12 (y + 1) j = 0 := by rw [hmn _ (by omega)]; exact mzz_y_1
  replace mzz_y_2 : ∀ j, M12 (y + 2) j = 0 := by rw [hmn _ (by omega)]; exact mzz_y_2
  replace mzz_y_3 : ∀ j, M12 (y + 3) j = 0 := by rw [hmn _ (by omega)]; exact mzz_y_3
  replace mzz_y_4 : ∀ j, M12 (y + 4) j = 0 := by rw [hmn _ (by omega)]; exact mzz_y_4
  replace mn_y_4 : N12 y 4 = 0 := by rw [hnn _ (by omega)]; exact mn_y_4
  replace mn_y_5 : N12 y 5 = (1 : Int64) := by rw [hnn _ (by omega)]; exact mn_y_5
  replace mzz_y_5 : ∀ j, M12 (y + 5) j = 0 := by rw [hmn _ (by omega)]; exact mzz_y_5
  replace hσo : ∀ q, (q < y ∨ y + 14 ≤ q) → σ12 q = σ q := fun q h => (hsn q (by omega)).trans (hσo q h)
  replace hMo : ∀ q, (q < y ∨ y + 14 ≤ q) → M12 q = M q := fun q h => (hmn q (by omega)).trans (hMo q h)
  replace hNo : ∀ q, (q < y ∨ y + 14 ≤ q) → N12 q = N q := fun q h => (hnn q (by omega)).trans (hNo q h)
  clear hLn hsn hmn hnn
  have hi_y_6 : Ft L12 σ12 (y + 6) (.inl (eI g, 120, none)) := ⟨by rw [eL]; simp, by rw [eσ]; exact va_up_self _ _ _⟩
  have mzz_y_6 : ∀ j, M12 (y + 6) j = 0 := fun j => by rw [eM, va_up_self]
  clear eL eσ eM eN
  refine n_putR hC hmn hw12 hS12 hA ho_y.1 ho_y.2 fl_X12_30 tyX12 tyX12_ok nmX12 rfl rfl rfl rfl rfl dX12_init_54 (fun H locs hw13 hS13 => ?_)
  clear hw12 hS12
  have hwk := hw13.name
  clear hw13
  obtain ⟨L13, σ13, M13, N13, hw13, eL, eσ, eM, eN⟩ := hwk
  have hLn : ∀ q ∈ L12, q ∈ L13 := fun q h => by rw [eL]; exact h
  have hsn : ∀ q, (q < y ∨ y + 1 ≤ q) → σ13 q = σ12 q := fun q h => by rw [eσ]; exact up_out q h
  have hmn : ∀ q, (q < 0 ∨ 0 ≤ q) → M13 q = M12 q := fun q h => by rw [eM]
  have hnn : ∀ q, (q < 0 ∨ 0 ≤ q) → N13 q = N12 q := fun q h => by rw [eN]
  replace hA : ∀ q ∈ L13, cA0 L (y + 1) q := by rw [eL]; exact hA
  replace hLe : L13 = L ++ List.range' (y + 1) 6 := eL.trans hLe
  have mem_o := ho_y.1
  clear ho_y
  replace hi_y_1 : Ft L13 σ13 (y + 1) (.inl (eI g, 913, none)) := Ft.mono hi_y_1 hLn (hsn _ (by omega))
  replace hi_y_2 : Ft L13 σ13 (y + 2) (.inl (eI g, 1826, none)) := Ft.mono hi_y_2 hLn (hsn _ (by omega))
  replace hz_y_3 : Ft L13 σ13 (y + 3) (.inl (eZ g, 2, none)) := Ft.mono hz_y_3 hLn (hsn _ (by omega))
  replace hi_y_4 : Ft L13 σ13 (y + 4) (.inl (eI g, 3, none)) := Ft.mono hi_y_4 hLn (hsn _ (by omega))
  replace hi_y_5 : Ft L13 σ13 (y + 5) (.inl (eI g, 120, none)) := Ft.mono hi_y_5 hLn (hsn _ (by omega))
  replace hi_y_6 : Ft L13 σ13 (y + 6) (.inl (eI g, 120, none)) := Ft.mono hi_y_6 hLn (hsn _ (by omega))
  replace mm_y_18 : M13 y 18 = 0 := by rw [hmn _ (by omega)]; exact mm_y_18
  replace mzz_y_1 : ∀ j, M13 (y + 1) j = 0 := by rw [hmn _ (by omega)]; exact mzz_y_1
  replace mzz_y_2 : ∀ j, M13 (y + 2) j = 0 := by rw [hmn _ (by omega)]; exact mzz_y_2
  replace mzz_y_3 : ∀ j, M13 (y + 3) j = 0 := by rw [hmn _ (by omega)]; exact mzz_y_3
  replace mzz_y_4 : ∀ j, M13 (y + 4) j = 0 := by rw [hmn _ (by omega)]; exact mzz_y_4
  replace mn_y_4 : N13 y 4 = 0 := by rw [hnn _ (by omega)]; exact mn_y_4
  replace mn_y_5 : N13 y 5 = (1 : Int64) := by rw [hnn _ (by omega)]; exact mn_y_5
  replace mzz_y_5 : ∀ j, M13 (y + 5) j = 0 := by rw [hmn _ (by omega)]; exact mzz_y_5
  replace mzz_y_6 : ∀ j, M13 (y + 6) j = 0 := by rw [hmn _ (by omega)]; exact mzz_y_6
  replace hσo : ∀ q, (q < y ∨ y + 14 ≤ q) → σ13 q = σ q := fun q h => (hsn q (by omega)).trans (hσo q h)
  replace hMo : ∀ q, (q < y ∨ y + 14 ≤ q) → M13 q = M q := fun q h => (hmn q (by omega)).trans (hMo q h)
  replace hNo : ∀ q, (q < y ∨ y + 14 ≤ q) → N13 q = N q := fun q h => (hnn q (by omega)).trans (hNo q h)
  clear hLn hsn hmn hnn
  have ho_y : Ft L13 σ13 (y) (.inr (12, [.inr (some (y + 1)), .inr (some (y + 2)), .inr (some (y + 3)), .inr (some (y + 4)), .inl 1, .inl 1, .inr (some (y + 5)), .inr (some (y + 6)), .inr none, .inl 0, .inl 0, .inl 0, .inl 0, .inl 0, .inr none, .inr none, .inr none, .inr none, .inl 0, .inl 0, .inl 0, .inl 0, .inl 0, .inr none, .inr none])) := ⟨by rw [eL]; exact mem_o, by rw [eσ]; exact va_up_self _ _ _⟩
  clear mem_o eL eσ eM eN
  refine lv_aload_n hx hb dX12_init_57 rfl (lv_at hl 0 rfl) ?_
  refine lv_iconst (v := (4 : Int32)) hx hb dX12_init_58 (by decide) ?_
  refine W_end (fun hze => ?_)
  have hz := n_hz hw13 hi_y_6.1 hze (by omega)
  clear hze
  refine n_newa hC hw13 hS13 hz (by omega) (k := 4) (by decide) (by decide) (by decide) (by show _ ≤ (13 : Nat); omega) (by show _ ≤ (5182 : Nat); omega) q_51 dX12_init_59 (fun H hw14 hzf hS14 => ?_)
  clear hw13 hS13
  clear hzf hz
  refine W.widen (k := 7) (n := 2988) (by omega) (by omega) ?_
  have hwk := hw14.name
  clear hw14
  obtain ⟨L14, σ14, M14, N14, hw14, eL, eσ, eM, eN⟩ := hwk
  have hLn : ∀ q ∈ L13, q ∈ L14 := fun q h => by rw [eL]; exact List.mem_append_left _ h
  have hsn : ∀ q, (q < y + 7 ∨ y + 7 + 1 ≤ q) → σ14 q = σ13 q := fun q h => by rw [eσ]; exact up_out q h
  have hmn : ∀ q, (q < y + 7 ∨ y + 7 + 1 ≤ q) → M14 q = M13 q := fun q h => by rw [eM]; exact up_out q h
  have hnn : ∀ q, (q < y + 7 ∨ y + 7 + 1 ≤ q) → N14 q = N13 q := fun q h => by rw [eN]
  replace hA : ∀ q ∈ L14, cA0 L (y + 1) q := by rw [eL]; exact hA_snoc hA (Or.inr (by omega))
  replace hLe : L14 = L ++ List.range' (y + 1) 7 := by rw [eL]; exact (congrArg (fun t => t ++ _) hLe).trans (snoc_r (by omega))
  replace hi_y_1 : Ft L14 σ14 (y + 1) (.inl (eI g, 913, none)) := Ft.mono hi_y_1 hLn (hsn _ (by omega))
  replace hi_y_2 : Ft L14 σ14 (y + 2) (.inl (eI g, 1826, none)) := Ft.mono hi_y_2 hLn (hsn _ (by omega))
  replace hz_y_3 : Ft L14 σ14 (y + 3) (.inl (eZ g, 2, none)) := Ft.mono hz_y_3 hLn (hsn _ (by omega))
  replace hi_y_4 : Ft L14 σ14 (y + 4) (.inl (eI g, 3, none)) := Ft.mono hi_y_4 hLn (hsn _ (by omega))
  replace hi_y_5 : Ft L14 σ14 (y + 5) (.inl (eI g, 120, none)) := Ft.mono hi_y_5 hLn (hsn _ (by omega))
  replace hi_y_6 : Ft L14 σ14 (y + 6) (.inl (eI g, 120, none)) := Ft.mono hi_y_6 hLn (hsn _ (by omega))
  replace ho_y : Ft L14 σ14 (y) (.inr (12, [.inr (some (y + 1)), .inr (some (y + 2)), .inr (some (y + 3)), .inr (some (y + 4)), .inl 1, .inl 1, .inr (some (y + 5)), .inr (some (y + 6)), .inr none, .inl 0, .inl 0, .inl 0, .inl 0, .inl 0, .inr none, .inr none, .inr none, .inr none, .inl 0, .inl 0, .inl 0, .inl 0, .inl 0, .inr none, .inr none])) := Ft.mono ho_y hLn (hsn _ (by omega))
  replace mm_y_18 : M14 y 18 = 0 := by rw [hmn _ (by omega)]; exact mm_y_18
  replace mzz_y_1 : ∀ j, M14 (y + 1) j = 0 := by rw [hmn _ (by omega)]; exact mzz_y_1
  replace mzz_y_2 : ∀ j, M14 (y + 2) j = 0 := by rw [hmn _ (by omega)]; exact mzz_y_2
  replace mzz_y_3 : ∀ j, M14 (y + 3) j = 0 := by rw [hmn _ (by omega)]; exact mzz_y_3
  replace mzz_y_4 : ∀ j, M14 (y + 4) j = 0 := by rw [hmn _ (by omega)]; exact mzz_y_4
  replace mn_y_4 : N14 y 4 = 0 := by rw [hnn _ (by omega)]; exact mn_y_4
  replace mn_y_5 : N14 y 5 = (1 : Int64) := by rw [hnn _ (by omega)]; exact mn_y_5
  replace mzz_y_5 : ∀ j, M14 (y + 5) j = 0 := by rw [hmn _ (by omega)]; exact mzz_y_5
  replace mzz_y_6 : ∀ j, M14 (y + 6) j = 0 := by rw [hmn _ (by omega)]; exact mzz_y_6
  replace hσo : ∀ q, (q < y ∨ y + 14 ≤ q) → σ14 q = σ q := fun q h => (hsn q (by omega)).trans (hσo q h)
  replace hMo : ∀ q, (q < y ∨ y + 14 ≤ q) → M14 q = M q := fun q h => (hmn q (by omega)).trans (hMo q h)
  replace hNo : ∀ q, (q < y ∨ y + 14 ≤ q) → N14 q = N q := fun q h => (hnn q (by omega)).trans (hNo q h)
  clear hLn hsn hmn hnn
  have hi_y_7 : Ft L14 σ14 (y + 7) (.inl (eI g, 4, none)) := ⟨by rw [eL]; simp, by rw [eσ]; exact va_up_self _ _ _⟩
  have mzz_y_7 : ∀ j, M14 (y + 7) j = 0 := fun j => by rw [eM, va_up_self]
  clear eL eσ eM eN
  refine n_putR hC hmn hw14 hS14 hA ho_y.1 ho_y.2 fl_X12_33 tyX12 tyX12_ok nmX12 rfl rfl rfl rfl rfl dX12_init_61 (fun H locs hw15 hS15 => ?_)
  clear hw14 hS14
  have hwk := hw15.name
  clear hw15
  obtain ⟨L15, σ15, M15, N15, hw15, eL, eσ, eM, eN⟩ := hwk
  have hLn : ∀ q ∈ L14, q ∈ L15 := fun q h => by rw [eL]; exact h
  have hsn : ∀ q, (q < y ∨ y + 1 ≤ q) → σ15 q = σ14 q := fun q h => by rw [eσ]; exact up_out q h
  have hmn : ∀ q, (q < 0 ∨ 0 ≤ q) → M15 q = M14 q := fun q h => by rw [eM]
  have hnn : ∀ q, (q < 0 ∨ 0 ≤ q) → N15 q = N14 q := fun q h => by rw [eN]
  replace hA : ∀ q ∈ L15, cA0 L (y + 1) q := by rw [eL]; exact hA
  replace hLe : L15 = L ++ List.range' (y + 1) 7 := eL.trans hLe
  have mem_o := ho_y.1
  clear ho_y
  replace hi_y_1 : Ft L15 σ15 (y + 1) (.inl (eI g, 913, none)) := Ft.mono hi_y_1 hLn (hsn _ (by omega))
  replace hi_y_2 : Ft L15 σ15 (y + 2) (.inl (eI g, 1826, none)) := Ft.mono hi_y_2 hLn (hsn _ (by omega))
  replace hz_y_3 : Ft L15 σ15 (y + 3) (.inl (eZ g, 2, none)) := Ft.mono hz_y_3 hLn (hsn _ (by omega))
  replace hi_y_4 : Ft L15 σ15 (y + 4) (.inl (eI g, 3, none)) := Ft.mono hi_y_4 hLn (hsn _ (by omega))
  replace hi_y_5 : Ft L15 σ15 (y + 5) (.inl (eI g, 120, none)) := Ft.mono hi_y_5 hLn (hsn _ (by omega))
  replace hi_y_6 : Ft L15 σ15 (y + 6) (.inl (eI g, 120, none)) := Ft.mono hi_y_6 hLn (hsn _ (by omega))
  replace hi_y_7 : Ft L15 σ15 (y + 7) (.inl (eI g, 4, none)) := Ft.mono hi_y_7 hLn (hsn _ (by omega))
  replace mm_y_18 : M15 y 18 = 0 := by rw [hmn _ (by omega)]; exact mm_y_18
  replace mzz_y_1 : ∀ j, M15 (y + 1) j = 0 := by rw [hmn _ (by omega)]; exact mzz_y_1
  replace mzz_y_2 : ∀ j, M15 (y + 2) j = 0 := by rw [hmn _ (by omega)]; exact mzz_y_2
  replace mzz_y_3 : ∀ j, M15 (y + 3) j = 0 := by rw [hmn _ (by omega)]; exact mzz_y_3
  replace mzz_y_4 : ∀ j, M15 (y + 4) j = 0 := by rw [hmn _ (by omega)]; exact mzz_y_4
  replace mn_y_4 : N15 y 4 = 0 := by rw [hnn _ (by omega)]; exact mn_y_4
  replace mn_y_5 : N15 y 5 = (1 : Int64) := by rw [hnn _ (by omega)]; exact mn_y_5
  replace mzz_y_5 : ∀ j, M15 (y + 5) j = 0 := by rw [hmn _ (by omega)]; exact mzz_y_5
  replace mzz_y_6 : ∀ j, M15 (y + 6) j = 0 := by rw [hmn _ (by omega)]; exact mzz_y_6
  replace mzz_y_7 : ∀ j, M15 (y + 7) j = 0 := by rw [hmn _ (by omega)]; exact mzz_y_7
  replace hσo : ∀ q, (q < y ∨ y + 14 ≤ q) → σ15 q = σ q := fun q h => (hsn q (by omega)).trans (hσo q h)
  replace hMo : ∀ q, (q < y ∨ y + 14 ≤ q) → M15 q = M q := fun q h => (hmn q (by omega)).trans (hMo q h)
  replace hNo : ∀ q, (q < y ∨ y + 14 ≤ q) → N15 q = N q := fun q h => (hnn q (by omega)).trans (hNo q h)
  clear hLn hsn hmn hnn
  have ho_y : Ft L15 σ15 (y) (.inr (12, [.inr (some (y + 1)), .inr (some (y + 2)), .inr (some (y + 3)), .inr (some (y + 4)), .inl 1, .inl 1, .inr (some (y + 5)), .inr (some (y + 6)), .inr (some (y + 7)), .inl 0, .inl 0, .inl 0, .inl 0, .inl 0, .inr none, .inr none, .inr none, .inr none, .inl 0, .inl 0, .inl 0, .inl 0, .inl 0, .inr none, .inr none])) := ⟨by rw [eL]; exact mem_o, by rw [eσ]; exact va_up_self _ _ _⟩
  clear mem_o eL eσ eM eN
  refine lv_aload_n hx hb dX12_init_64 rfl (lv_at hl 0 rfl) ?_
  refine lv_sipush (v := (1560 : Int32)) hx hb dX12_init_65 (by decide) ?_
  refine W_end (fun hze => ?_)
  have hz := n_hz hw15 hi_y_7.1 hze (by omega)
  clear hze
  refine n_newa hC hw15 hS15 hz (by omega) (k := 1560) (by decide) (by decide) (by decide) (by show _ ≤ (13 : Nat); omega) (by show _ ≤ (5182 : Nat); omega) q_51 dX12_init_68 (fun H hw16 hzf hS16 => ?_)
  clear hw15 hS15
  clear hzf hz
  refine W.widen (k := 8) (n := 4548) (by omega) (by omega) ?_
  have hwk := hw16.name
  clear hw16
  obtain ⟨L16, σ16, M16, N16, hw16, eL, eσ, eM, eN⟩ := hwk
  have hLn : ∀ q ∈ L15, q ∈ L16 := fun q h => by rw [eL]; exact List.mem_append_left _ h
  have hsn : ∀ q, (q < y + 8 ∨ y + 8 + 1 ≤ q) → σ16 q = σ15 q := fun q h => by rw [eσ]; exact up_out q h
  have hmn : ∀ q, (q < y + 8 ∨ y + 8 + 1 ≤ q) → M16 q = M15 q := fun q h => by rw [eM]; exact up_out q h
  have hnn : ∀ q, (q < y + 8 ∨ y + 8 + 1 ≤ q) → N16 q = N15 q := fun q h => by rw [eN]
  replace hA : ∀ q ∈ L16, cA0 L (y + 1) q := by rw [eL]; exact hA_snoc hA (Or.inr (by omega))
  replace hLe : L16 = L ++ List.range' (y + 1) 8 := by rw [eL]; exact (congrArg (fun t => t ++ _) hLe).trans (snoc_r (by omega))
  replace hi_y_1 : Ft L16 σ16 (y + 1) (.inl (eI g, 913, none)) := Ft.mono hi_y_1 hLn (hsn _ (by omega))
  replace hi_y_2 : Ft L16 σ16 (y + 2) (.inl (eI g, 1826, none)) := Ft.mono hi_y_2 hLn (hsn _ (by omega))
  replace hz_y_3 : Ft L16 σ16 (y + 3) (.inl (eZ g, 2, none)) := Ft.mono hz_y_3 hLn (hsn _ (by omega))
  replace hi_y_4 : Ft L16 σ16 (y + 4) (.inl (eI g, 3, none)) := Ft.mono hi_y_4 hLn (hsn _ (by omega))
  replace hi_y_5 : Ft L16 σ16 (y + 5) (.inl (eI g, 120, none)) := Ft.mono hi_y_5 hLn (hsn _ (by omega))
  replace hi_y_6 : Ft L16 σ16 (y + 6) (.inl (eI g, 120, none)) := Ft.mono hi_y_6 hLn (hsn _ (by omega))
  replace hi_y_7 : Ft L16 σ16 (y + 7) (.inl (eI g, 4, none)) := Ft.mono hi_y_7 hLn (hsn _ (by omega))
  replace ho_y : Ft L16 σ16 (y) (.inr (12, [.inr (some (y + 1)), .inr (some (y + 2)), .inr (some (y + 3)), .inr (some (y + 4)), .inl 1, .inl 1, .inr (some (y + 5)), .inr (some (y + 6)), .inr (some (y + 7)), .inl 0, .inl 0, .inl 0, .inl 0, .inl 0, .inr none, .inr none, .inr none, .inr none, .inl 0, .inl 0, .inl 0, .inl 0, .inl 0, .inr none, .inr none])) := Ft.mono ho_y hLn (hsn _ (by omega))
  replace mm_y_18 : M16 y 18 = 0 := by rw [hmn _ (by omega)]; exact mm_y_18
  replace mzz_y_1 : ∀ j, M16 (y + 1) j = 0 := by rw [hmn _ (by omega)]; exact mzz_y_1
  replace mzz_y_2 : ∀ j, M16 (y + 2) j = 0 := by rw [hmn _ (by omega)]; exact mzz_y_2
  replace mzz_y_3 : ∀ j, M16 (y + 3) j = 0 := by rw [hmn _ (by omega)]; exact mzz_y_3
  replace mzz_y_4 : ∀ j, M16 (y + 4) j = 0 := by rw [hmn _ (by omega)]; exact mzz_y_4
  replace mn_y_4 : N16 y 4 = 0 := by rw [hnn _ (by omega)]; exact mn_y_4
  replace mn_y_5 : N16 y 5 = (1 : Int64) := by rw [hnn _ (by omega)]; exact mn_y_5
  replace mzz_y_5 : ∀ j, M16 (y + 5) j = 0 := by rw [hmn _ (by omega)]; exact mzz_y_5
  replace mzz_y_6 : ∀ j, M16 (y + 6) j = 0 := by rw [hmn _ (by omega)]; exact mzz_y_6
  replace mzz_y_7 : ∀ j, M16 (y + 7) j = 0 := by rw [hmn _ (by omega)]; exact mzz_y_7
  replace hσo : ∀ q, (q < y ∨ y + 14 ≤ q) → σ16 q = σ q := fun q h => (hsn q (by omega)).trans (hσo q h)
  replace hMo : ∀ q, (q < y ∨ y + 14 ≤ q) → M16 q = M q := fun q h => (hmn q (by omega)).trans (hMo q h)
  replace hNo : ∀ q, (q < y ∨ y + 14 ≤ q) → N16 q = N q := fun q h => (hnn q (by omega)).trans (hNo q h)
  clear hLn hsn hmn hnn
  have hi_y_8 : Ft L16 σ16 (y + 8) (.inl (eI g, 1560, none)) := ⟨by rw [eL]; simp, by rw [eσ]; exact va_up_self _ _ _⟩
  have mzz_y_8 : ∀ j, M16 (y + 8) j = 0 := fun j => by rw [eM, va_up_self]
  clear eL eσ eM eN
  refine n_putR hC hmn hw16 hS16 hA ho_y.1 ho_y.2 fl_X12_36 tyX12 tyX12_ok nmX12 rfl rfl rfl rfl rfl dX12_init_70 (fun H locs hw17 hS17 => ?_)
  clear hw16 hS16
  have hwk := hw17.name
  clear hw17
  obtain ⟨L17, σ17, M17, N17, hw17, eL, eσ, eM, eN⟩ := hwk
  have hLn : ∀ q ∈ L16, q ∈ L17 := fun q h => by rw [eL]; exact h
  have hsn : ∀ q, (q < y ∨ y + 1 ≤ q) → σ17 q = σ16 q := fun q h => by rw [eσ]; exact up_out q h
  have hmn : ∀ q, (q < 0 ∨ 0 ≤ q) → M17 q = M16 q := fun q h => by rw [eM]
  have hnn : ∀ q, (q < 0 ∨ 0 ≤ q) → N17 q = N16 q := fun q h => by rw [eN]
  replace hA : ∀ q ∈ L17, cA0 L (y + 1) q := by rw [eL]; exact hA
  replace hLe : L17 = L ++ List.range' (y + 1) 8 := eL.trans hLe
  have mem_o := ho_y.1
  clear ho_y
  replace hi_y_1 : Ft L17 σ17 (y + 1) (.inl (eI g, 913, none)) := Ft.mono hi_y_1 hLn (hsn _ (by omega))
  replace hi_y_2 : Ft L17 σ17 (y + 2) (.inl (eI g, 1826, none)) := Ft.mono hi_y_2 hLn (hsn _ (by omega))
  replace hz_y_3 : Ft L17 σ17 (y + 3) (.inl (eZ g, 2, none)) := Ft.mono hz_y_3 hLn (hsn _ (by omega))
  replace hi_y_4 : Ft L17 σ17 (y + 4) (.inl (eI g, 3, none)) := Ft.mono hi_y_4 hLn (hsn _ (by omega))
  replace hi_y_5 : Ft L17 σ17 (y + 5) (.inl (eI g, 120, none)) := Ft.mono hi_y_5 hLn (hsn _ (by omega))
  replace hi_y_6 : Ft L17 σ17 (y + 6) (.inl (eI g, 120, none)) := Ft.mono hi_y_6 hLn (hsn _ (by omega))
  replace hi_y_7 : Ft L17 σ17 (y + 7) (.inl (eI g, 4, none)) := Ft.mono hi_y_7 hLn (hsn _ (by omega))
  replace hi_y_8 : Ft L17 σ17 (y + 8) (.inl (eI g, 1560, none)) := Ft.mono hi_y_8 hLn (hsn _ (by omega))
  replace mm_y_18 : M17 y 18 = 0 := by rw [hmn _ (by omega)]; exact mm_y_18
  replace mzz_y_1 : ∀ j, M17 (y + 1) j = 0 := by rw [hmn _ (by omega)]; exact mzz_y_1
  replace mzz_y_2 : ∀ j, M17 (y + 2) j = 0 := by rw [hmn _ (by omega)]; exact mzz_y_2
  replace mzz_y_3 : ∀ j, M17 (y + 3) j = 0 := by rw [hmn _ (by omega)]; exact mzz_y_3
  replace mzz_y_4 : ∀ j, M17 (y + 4) j = 0 := by rw [hmn _ (by omega)]; exact mzz_y_4
  replace mn_y_4 : N17 y 4 = 0 := by rw [hnn _ (by omega)]; exact mn_y_4
  replace mn_y_5 : N17 y 5 = (1 : Int64) := by rw [hnn _ (by omega)]; exact mn_y_5
  replace mzz_y_5 : ∀ j, M17 (y + 5) j = 0 := by rw [hmn _ (by omega)]; exact mzz_y_5
  replace mzz_y_6 : ∀ j, M17 (y + 6) j = 0 := by rw [hmn _ (by omega)]; exact mzz_y_6
  replace mzz_y_7 : ∀ j, M17 (y + 7) j = 0 := by rw [hmn _ (by omega)]; exact mzz_y_7
  replace mzz_y_8 : ∀ j, M17 (y + 8) j = 0 := by rw [hmn _ (by omega)]; exact mzz_y_8
  replace hσo : ∀ q, (q < y ∨ y + 14 ≤ q) → σ17 q = σ q := fun q h => (hsn q (by omega)).trans (hσo q h)
  replace hMo : ∀ q, (q < y ∨ y + 14 ≤ q) → M17 q = M q := fun q h => (hmn q (by omega)).trans (hMo q h)
  replace hNo : ∀ q, (q < y ∨ y + 14 ≤ q) → N17 q = N q := fun q h => (hnn q (by omega)).trans (hNo q h)
  clear hLn hsn hmn hnn
  have ho_y : Ft L17 σ17 (y) (.inr (12, [.inr (some (y + 1)), .inr (some (y + 2)), .inr (some (y + 3)), .inr (some (y + 4)), .inl 1, .inl 1, .inr (some (y + 5)), .inr (some (y + 6)), .inr (some (y + 7)), .inl 0, .inl 0, .inl 0, .inl 0, .inl 0, .inr (some (y + 8)), .inr none, .inr none, .inr none, .inl 0, .inl 0, .inl 0, .inl 0, .inl 0, .inr none, .inr none])) := ⟨by rw [eL]; exact mem_o, by rw [eσ]; exact va_up_self _ _ _⟩
  clear mem_o eL eσ eM eN
  refine lv_aload_n hx hb dX12_init_73 rfl (lv_at hl 0 rfl) ?_
  refine lv_iconst (v := (5 : Int32)) hx hb dX12_init_74 (by decide) ?_
  refine W_end (fun hze => ?_)
  have hz := n_hz hw17 hi_y_8.1 hze (by omega)
  clear hze
  refine n_newa hC hw17 hS17 hz (by omega) (k := 5) (by decide) (by decide) (by decide) (by show _ ≤ (13 : Nat); omega) (by show _ ≤ (5182 : Nat); omega) q_51 dX12_init_75 (fun H hw18 hzf hS18 => ?_)
  clear hw17 hS17
  clear hzf hz
  refine W.widen (k := 9) (n := 4553) (by omega) (by omega) ?_
  have hwk := hw18.name
  clear hw18
  obtain ⟨L18, σ18, M18, N18, hw18, eL, eσ, eM, eN⟩ := hwk
  have hLn : ∀ q ∈ L17, q ∈ L18 := fun q h => by rw [eL]; exact List.mem_append_left _ h
  have hsn : ∀ q, (q < y + 9 ∨ y + 9 + 1 ≤ q) → σ18 q = σ17 q := fun q h => by rw [eσ]; exact up_out q h
  have hmn : ∀ q, (q < y + 9 ∨ y + 9 + 1 ≤ q) → M18 q = M17 q := fun q h => by rw [eM]; exact up_out q h
  have hnn : ∀ q, (q < y + 9 ∨ y + 9 + 1 ≤ q) → N18 q = N17 q := fun q h => by rw [eN]
  replace hA : ∀ q ∈ L18, cA0 L (y + 1) q := by rw [eL]; exact hA_snoc hA (Or.inr (by omega))
  replace hLe : L18 = L ++ List.range' (y + 1) 9 := by rw [eL]; exact (congrArg (fun t => t ++ _) hLe).trans (snoc_r (by omega))
  replace hi_y_1 : Ft L18 σ18 (y + 1) (.inl (eI g, 913, none)) := Ft.mono hi_y_1 hLn (hsn _ (by omega))
  replace hi_y_2 : Ft L18 σ18 (y + 2) (.inl (eI g, 1826, none)) := Ft.mono hi_y_2 hLn (hsn _ (by omega))
  replace hz_y_3 : Ft L18 σ18 (y + 3) (.inl (eZ g, 2, none)) := Ft.mono hz_y_3 hLn (hsn _ (by omega))
  replace hi_y_4 : Ft L18 σ18 (y + 4) (.inl (eI g, 3, none)) := Ft.mono hi_y_4 hLn (hsn _ (by omega))
  replace hi_y_5 : Ft L18 σ18 (y + 5) (.inl (eI g, 120, none)) := Ft.mono hi_y_5 hLn (hsn _ (by omega))
  replace hi_y_6 : Ft L18 σ18 (y + 6) (.inl (eI g, 120, none)) := Ft.mono hi_y_6 hLn (hsn _ (by omega))
  replace hi_y_7 : Ft L18 σ18 (y + 7) (.inl (eI g, 4, none)) := Ft.mono hi_y_7 hLn (hsn _ (by omega))
  replace hi_y_8 : Ft L18 σ18 (y + 8) (.inl (eI g, 1560, none)) := Ft.mono hi_y_8 hLn (hsn _ (by omega))
  replace ho_y : Ft L18 σ18 (y) (.inr (12, [.inr (some (y + 1)), .inr (some (y + 2)), .inr (some (y + 3)), .inr (some (y + 4)), .inl 1, .inl 1, .inr (some (y + 5)), .inr (some (y + 6)), .inr (some (y + 7)), .inl 0, .inl 0, .inl 0, .inl 0, .inl 0, .inr (some (y + 8)), .inr none, .inr none, .inr none, .inl 0, .inl 0, .inl 0, .inl 0, .inl 0, .inr none, .inr none])) := Ft.mono ho_y hLn (hsn _ (by omega))
  replace mm_y_18 : M18 y 18 = 0 := by rw [hmn _ (by omega)]; exact mm_y_18
  replace mzz_y_1 : ∀ j, M18 (y + 1) j = 0 := by rw [hmn _ (by omega)]; exact mzz_y_1
  replace mzz_y_2 : ∀ j, M18 (y + 2) j = 0 := by rw [hmn _ (by omega)]; exact mzz_y_2
  replace mzz_y_3 : ∀ j, M18 (y + 3) j = 0 := by rw [hmn _ (by omega)]; exact mzz_y_3
  replace mzz_y_4 : ∀ j, M18 (y + 4) j = 0 := by rw [hmn _ (by omega)]; exact mzz_y_4
  replace mn_y_4 : N18 y 4 = 0 := by rw [hnn _ (by omega)]; exact mn_y_4
  replace mn_y_5 : N18 y 5 = (1 : Int64) := by rw [hnn _ (by omega)]; exact mn_y_5
  replace mzz_y_5 : ∀ j, M18 (y + 5) j = 0 := by rw [hmn _ (by omega)]; exact mzz_y_5
  replace mzz_y_6 : ∀ j, M18 (y + 6) j = 0 := by rw [hmn _ (by omega)]; exact mzz_y_6
  replace mzz_y_7 : ∀ j, M18 (y + 7) j = 0 := by rw [hmn _ (by omega)]; exact mzz_y_7
  replace mzz_y_8 : ∀ j, M18 (y + 8) j = 0 := by rw [hmn _ (by omega)]; exact mzz_y_8
  replace hσo : ∀ q, (q < y ∨ y + 14 ≤ q) → σ18 q = σ q := fun q h => (hsn q (by omega)).trans (hσo q h)
  replace hMo : ∀ q, (q < y ∨ y + 14 ≤ q) → M18 q = M q := fun q h => (hmn q (by omega)).trans (hMo q h)
  replace hNo : ∀ q, (q < y ∨ y + 14 ≤ q) → N18 q = N q := fun q h => (hnn q (by omega)).trans (hNo q h)
  clear hLn hsn hmn hnn
  have hi_y_9 : Ft L18 σ18 (y + 9) (.inl (eI g, 5, none)) := ⟨by rw [eL]; simp, by rw [eσ]; exact va_up_self _ _ _⟩
  have mzz_y_9 : ∀ j, M18 (y + 9) j = 0 := fun j => by rw [eM, va_up_self]
  clear eL eσ eM eN
  refine n_putR hC hmn hw18 hS18 hA ho_y.1 ho_y.2 fl_X12_39 tyX12 tyX12_ok nmX12 rfl rfl rfl rfl rfl dX12_init_77 (fun H locs hw19 hS19 => ?_)
  clear hw18 hS18
  have hwk := hw19.name
  clear hw19
  obtain ⟨L19, σ19, M19, N19, hw19, eL, eσ, eM, eN⟩ := hwk
  have hLn : ∀ q ∈ L18, q ∈ L19 := fun q h => by rw [eL]; exact h
  have hsn : ∀ q, (q < y ∨ y + 1 ≤ q) → σ19 q = σ18 q := fun q h => by rw [eσ]; exact up_out q h
  have hmn : ∀ q, (q < 0 ∨ 0 ≤ q) → M19 q = M18 q := fun q h => by rw [eM]
  have hnn : ∀ q, (q < 0 ∨ 0 ≤ q) → N19 q = N18 q := fun q h => by rw [eN]
  replace hA : ∀ q ∈ L19, cA0 L (y + 1) q := by rw [eL]; exact hA
  replace hLe : L19 = L ++ List.range' (y + 1) 9 := eL.trans hLe
  have mem_o := ho_y.1
  clear ho_y
  replace hi_y_1 : Ft L19 σ19 (y + 1) (.inl (eI g, 913, none)) := Ft.mono hi_y_1 hLn (hsn _ (by omega))
  replace hi_y_2 : Ft L19 σ19 (y + 2) (.inl (eI g, 1826, none)) := Ft.mono hi_y_2 hLn (hsn _ (by omega))
  replace hz_y_3 : Ft L19 σ19 (y + 3) (.inl (eZ g, 2, none)) := Ft.mono hz_y_3 hLn (hsn _ (by omega))
  replace hi_y_4 : Ft L19 σ19 (y + 4) (.inl (eI g, 3, none)) := Ft.mono hi_y_4 hLn (hsn _ (by omega))
  replace hi_y_5 : Ft L19 σ19 (y + 5) (.inl (eI g, 120, none)) := Ft.mono hi_y_5 hLn (hsn _ (by omega))
  replace hi_y_6 : Ft L19 σ19 (y + 6) (.inl (eI g, 120, none)) := Ft.mono hi_y_6 hLn (hsn _ (by omega))
  replace hi_y_7 : Ft L19 σ19 (y + 7) (.inl (eI g, 4, none)) := Ft.mono hi_y_7 hLn (hsn _ (by omega))
  replace hi_y_8 : Ft L19 σ19 (y + 8) (.inl (eI g, 1560, none)) := Ft.mono hi_y_8 hLn (hsn _ (by omega))
  replace hi_y_9 : Ft L19 σ19 (y + 9) (.inl (eI g, 5, none)) := Ft.mono hi_y_9 hLn (hsn _ (by omega))
  replace mm_y_18 : M19 y 18 = 0 := by rw [hmn _ (by omega)]; exact mm_y_18
  replace mzz_y_1 : ∀ j, M19 (y + 1) j = 0 := by rw [hmn _ (by omega)]; exact mzz_y_1
  replace mzz_y_2 : ∀ j, M19 (y + 2) j = 0 := by rw [hmn _ (by omega)]; exact mzz_y_2
  replace mzz_y_3 : ∀ j, M19 (y + 3) j = 0 := by rw [hmn _ (by omega)]; exact mzz_y_3
  replace mzz_y_4 : ∀ j, M19 (y + 4) j = 0 := by rw [hmn _ (by omega)]; exact mzz_y_4
  replace mn_y_4 : N19 y 4 = 0 := by rw [hnn _ (by omega)]; exact mn_y_4
  replace mn_y_5 : N19 y 5 = (1 : Int64) := by rw [hnn _ (by omega)]; exact mn_y_5
  replace mzz_y_5 : ∀ j, M19 (y + 5) j = 0 := by rw [hmn _ (by omega)]; exact mzz_y_5
  replace mzz_y_6 : ∀ j, M19 (y + 6) j = 0 := by rw [hmn _ (by omega)]; exact mzz_y_6
  replace mzz_y_7 : ∀ j, M19 (y + 7) j = 0 := by rw [hmn _ (by omega)]; exact mzz_y_7
  replace mzz_y_8 : ∀ j, M19 (y + 8) j = 0 := by rw [hmn _ (by omega)]; exact mzz_y_8
  replace mzz_y_9 : ∀ j, M19 (y + 9) j = 0 := by rw [hmn _ (by omega)]; exact mzz_y_9
  replace hσo : ∀ q, (q < y ∨ y + 14 ≤ q) → σ19 q = σ q := fun q h => (hsn q (by omega)).trans (hσo q h)
  replace hMo : ∀ q, (q < y ∨ y + 14 ≤ q) → M19 q = M q := fun q h => (hmn q (by omega)).trans (hMo q h)
  replace hNo : ∀ q, (q < y ∨ y + 14 ≤ q) → N19 q = N q := fun q h => (hnn q (by omega)).trans (hNo q h)
  clear hLn hsn hmn hnn
  have ho_y : Ft L19 σ19 (y) (.inr (12, [.inr (some (y + 1)), .inr (some (y + 2)), .inr (some (y + 3)), .inr (some (y + 4)), .inl 1, .inl 1, .inr (some (y + 5)), .inr (some (y + 6)), .inr (some (y + 7)), .inl 0, .inl 0, .inl 0, .inl 0, .inl 0, .inr (some (y + 8)), .inr (some (y + 9)), .inr none, .inr none, .inl 0, .inl 0, .inl 0, .inl 0, .inl 0, .inr none, .inr none])) := ⟨by rw [eL]; exact mem_o, by rw [eσ]; exact va_up_self _ _ _⟩
  clear mem_o eL eσ eM eN
  refine lv_aload_n hx hb dX12_init_80 rfl (lv_at hl 0 rfl) ?_
  refine lv_sipush (v := (224 : Int32)) hx hb dX12_init_81 (by decide) ?_
  refine W_end (fun hze => ?_)
  have hz := n_hz hw19 hi_y_9.1 hze (by omega)
  clear hze
  refine n_newa hC hw19 hS19 hz (by omega) (k := 224) (by decide) (by decide) (by decide) (by show _ ≤ (13 : Nat); omega) (by show _ ≤ (5182 : Nat); omega) q_51 dX12_init_84 (fun H hw20 hzf hS20 => ?_)
  clear hw19 hS19
  clear hzf hz
  refine W.widen (k := 10) (n := 4777) (by omega) (by omega) ?_
  have hwk := hw20.name
  clear hw20
  obtain ⟨L20, σ20, M20, N20, hw20, eL, eσ, eM, eN⟩ := hwk
  have hLn : ∀ q ∈ L19, q ∈ L20 := fun q h => by rw [eL]; exact List.mem_append_left _ h
  have hsn : ∀ q, (q < y + 10 ∨ y + 10 + 1 ≤ q) → σ20 q = σ19 q := fun q h => by rw [eσ]; exact up_out q h
  have hmn : ∀ q, (q < y + 10 ∨ y + 10 + 1 ≤ q) → M20 q = M19 q := fun q h => by rw [eM]; exact up_out q h
  have hnn : ∀ q, (q < y + 10 ∨ y + 10 + 1 ≤ q) → N20 q = N19 q := fun q h => by rw [eN]
  replace hA : ∀ q ∈ L20, cA0 L (y + 1) q := by rw [eL]; exact hA_snoc hA (Or.inr (by omega))
  replace hLe : L20 = L ++ List.range' (y + 1) 10 := by rw [eL]; exact (congrArg (fun t => t ++ _) hLe).trans (snoc_r (by omega))
  replace hi_y_1 : Ft L20 σ20 (y + 1) (.inl (eI g, 913, none)) := Ft.mono hi_y_1 hLn (hsn _ (by omega))
  replace hi_y_2 : Ft L20 σ20 (y + 2) (.inl (eI g, 1826, none)) := Ft.mono hi_y_2 hLn (hsn _ (by omega))
  replace hz_y_3 : Ft L20 σ20 (y + 3) (.inl (eZ g, 2, none)) := Ft.mono hz_y_3 hLn (hsn _ (by omega))
  replace hi_y_4 : Ft L20 σ20 (y + 4) (.inl (eI g, 3, none)) := Ft.mono hi_y_4 hLn (hsn _ (by omega))
  replace hi_y_5 : Ft L20 σ20 (y + 5) (.inl (eI g, 120, none)) := Ft.mono hi_y_5 hLn (hsn _ (by omega))
  replace hi_y_6 : Ft L20 σ20 (y + 6) (.inl (eI g, 120, none)) := Ft.mono hi_y_6 hLn (hsn _ (by omega))
  replace hi_y_7 : Ft L20 σ20 (y + 7) (.inl (eI g, 4, none)) := Ft.mono hi_y_7 hLn (hsn _ (by omega))
  replace hi_y_8 : Ft L20 σ20 (y + 8) (.inl (eI g, 1560, none)) := Ft.mono hi_y_8 hLn (hsn _ (by omega))
  replace hi_y_9 : Ft L20 σ20 (y + 9) (.inl (eI g, 5, none)) := Ft.mono hi_y_9 hLn (hsn _ (by omega))
  replace ho_y : Ft L20 σ20 (y) (.inr (12, [.inr (some (y + 1)), .inr (some (y + 2)), .inr (some (y + 3)), .inr (some (y + 4)), .inl 1, .inl 1, .inr (some (y + 5)), .inr (some (y + 6)), .inr (some (y + 7)), .inl 0, .inl 0, .inl 0, .inl 0, .inl 0, .inr (some (y + 8)), .inr (some (y + 9)), .inr none, .inr none, .inl 0, .inl 0, .inl 0, .inl 0, .inl 0, .inr none, .inr none])) := Ft.mono ho_y hLn (hsn _ (by omega))
  replace mm_y_18 : M20 y 18 = 0 := by rw [hmn _ (by omega)]; exact mm_y_18
  replace mzz_y_1 : ∀ j, M20 (y + 1) j = 0 := by rw [hmn _ (by omega)]; exact mzz_y_1
  replace mzz_y_2 : ∀ j, M20 (y + 2) j = 0 := by rw [hmn _ (by omega)]; exact mzz_y_2
  replace mzz_y_3 : ∀ j, M20 (y + 3) j = 0 := by rw [hmn _ (by omega)]; exact mzz_y_3
  replace mzz_y_4 : ∀ j, M20 (y + 4) j = 0 := by rw [hmn _ (by omega)]; exact mzz_y_4
  replace mn_y_4 : N20 y 4 = 0 := by rw [hnn _ (by omega)]; exact mn_y_4
  replace mn_y_5 : N20 y 5 = (1 : Int64) := by rw [hnn _ (by omega)]; exact mn_y_5
  replace mzz_y_5 : ∀ j, M20 (y + 5) j = 0 := by rw [hmn _ (by omega)]; exact mzz_y_5
  replace mzz_y_6 : ∀ j, M20 (y + 6) j = 0 := by rw [hmn _ (by omega)]; exact mzz_y_6
  replace mzz_y_7 : ∀ j, M20 (y + 7) j = 0 := by rw [hmn _ (by omega)]; exact mzz_y_7
  replace mzz_y_8 : ∀ j, M20 (y + 8) j = 0 := by rw [hmn _ (by omega)]; exact mzz_y_8
  replace mzz_y_9 : ∀ j, M20 (y + 9) j = 0 := by rw [hmn _ (by omega)]; exact mzz_y_9
  replace hσo : ∀ q, (q < y ∨ y + 14 ≤ q) → σ20 q = σ q := fun q h => (hsn q (by omega)).trans (hσo q h)
  replace hMo : ∀ q, (q < y ∨ y + 14 ≤ q) → M20 q = M q := fun q h => (hmn q (by omega)).trans (hMo q h)
  replace hNo : ∀ q, (q < y ∨ y + 14 ≤ q) → N20 q = N q := fun q h => (hnn q (by omega)).trans (hNo q h)
  clear hLn hsn hmn hnn
  have hi_y_10 : Ft L20 σ20 (y + 10) (.inl (eI g, 224, none)) := ⟨by rw [eL]; simp, by rw [eσ]; exact va_up_self _ _ _⟩
  have mzz_y_10 : ∀ j, M20 (y + 10) j = 0 := fun j => by rw [eM, va_up_self]
  clear eL eσ eM eN
  refine n_putR hC hmn hw20 hS20 hA ho_y.1 ho_y.2 fl_X12_42 tyX12 tyX12_ok nmX12 rfl rfl rfl rfl rfl dX12_init_86 (fun H locs hw21 hS21 => ?_)
  clear hw20 hS20
  have hwk := hw21.name
  clear hw21
  obtain ⟨L21, σ21, M21, N21, hw21, eL, eσ, eM, eN⟩ := hwk
  have hLn : ∀ q ∈ L20, q ∈ L21 := fun q h => by rw [eL]; exact h
  have hsn : ∀ q, (q < y ∨ y + 1 ≤ q) → σ21 q = σ20 q := fun q h => by rw [eσ]; exact up_out q h
  have hmn : ∀ q, (q < 0 ∨ 0 ≤ q) → M21 q = M20 q := fun q h => by rw [eM]
  have hnn : ∀ q, (q < 0 ∨ 0 ≤ q) → N21 q = N20 q := fun q h => by rw [eN]
  replace hA : ∀ q ∈ L21, cA0 L (y + 1) q := by rw [eL]; exact hA
  replace hLe : L21 = L ++ List.range' (y + 1) 10 := eL.trans hLe
  have mem_o := ho_y.1
  clear ho_y
  replace hi_y_1 : Ft L21 σ21 (y + 1) (.inl (eI g, 913, none)) := Ft.mono hi_y_1 hLn (hsn _ (by omega))
  replace hi_y_2 : Ft L21 σ21 (y + 2) (.inl (eI g, 1826, none)) := Ft.mono hi_y_2 hLn (hsn _ (by omega))
  replace hz_y_3 : Ft L21 σ21 (y + 3) (.inl (eZ g, 2, none)) := Ft.mono hz_y_3 hLn (hsn _ (by omega))
  replace hi_y_4 : Ft L21 σ21 (y + 4) (.inl (eI g, 3, none)) := Ft.mono hi_y_4 hLn (hsn _ (by omega))
  replace hi_y_5 : Ft L21 σ21 (y + 5) (.inl (eI g, 120, none)) := Ft.mono hi_y_5 hLn (hsn _ (by omega))
  replace hi_y_6 : Ft L21 σ21 (y + 6) (.inl (eI g, 120, none)) := Ft.mono hi_y_6 hLn (hsn _ (by omega))
  replace hi_y_7 : Ft L21 σ21 (y + 7) (.inl (eI g, 4, none)) := Ft.mono hi_y_7 hLn (hsn _ (by omega))
  replace hi_y_8 : Ft L21 σ21 (y + 8) (.inl (eI g, 1560, none)) := Ft.mono hi_y_8 hLn (hsn _ (by omega))
  replace hi_y_9 : Ft L21 σ21 (y + 9) (.inl (eI g, 5, none)) := Ft.mono hi_y_9 hLn (hsn _ (by omega))
  replace hi_y_10 : Ft L21 σ21 (y + 10) (.inl (eI g, 224, none)) := Ft.mono hi_y_10 hLn (hsn _ (by omega))
  replace mm_y_18 : M21 y 18 = 0 := by rw [hmn _ (by omega)]; exact mm_y_18
  replace mzz_y_1 : ∀ j, M21 (y + 1) j = 0 := by rw [hmn _ (by omega)]; exact mzz_y_1
  replace mzz_y_2 : ∀ j, M21 (y + 2) j = 0 := by rw [hmn _ (by omega)]; exact mzz_y_2
  replace mzz_y_3 : ∀ j, M21 (y + 3) j = 0 := by rw [hmn _ (by omega)]; exact mzz_y_3
  replace mzz_y_4 : ∀ j, M21 (y + 4) j = 0 := by rw [hmn _ (by omega)]; exact mzz_y_4
  replace mn_y_4 : N21 y 4 = 0 := by rw [hnn _ (by omega)]; exact mn_y_4
  replace mn_y_5 : N21 y 5 = (1 : Int64) := by rw [hnn _ (by omega)]; exact mn_y_5
  replace mzz_y_5 : ∀ j, M21 (y + 5) j = 0 := by rw [hmn _ (by omega)]; exact mzz_y_5
  replace mzz_y_6 : ∀ j, M21 (y + 6) j = 0 := by rw [hmn _ (by omega)]; exact mzz_y_6
  replace mzz_y_7 : ∀ j, M21 (y + 7) j = 0 := by rw [hmn _ (by omega)]; exact mzz_y_7
  replace mzz_y_8 : ∀ j, M21 (y + 8) j = 0 := by rw [hmn _ (by omega)]; exact mzz_y_8
  replace mzz_y_9 : ∀ j, M21 (y + 9) j = 0 := by rw [hmn _ (by omega)]; exact mzz_y_9
  replace mzz_y_10 : ∀ j, M21 (y + 10) j = 0 := by rw [hmn _ (by omega)]; exact mzz_y_10
  replace hσo : ∀ q, (q < y ∨ y + 14 ≤ q) → σ21 q = σ q := fun q h => (hsn q (by omega)).trans (hσo q h)
  replace hMo : ∀ q, (q < y ∨ y + 14 ≤ q) → M21 q = M q := fun q h => (hmn q (by omega)).trans (hMo q h)
  replace hNo : ∀ q, (q < y ∨ y + 14 ≤ q) → N21 q = N q := fun q h => (hnn q (by omega)).trans (hNo q h)
  clear hLn hsn hmn hnn
  have ho_y : Ft L21 σ21 (y) (.inr (12, [.inr (some (y + 1)), .inr (some (y + 2)), .inr (some (y + 3)), .inr (some (y + 4)), .inl 1, .inl 1, .inr (some (y + 5)), .inr (some (y + 6)), .inr (some (y + 7)), .inl 0, .inl 0, .inl 0, .inl 0, .inl 0, .inr (some (y + 8)), .inr (some (y + 9)), .inr (some (y + 10)), .inr none, .inl 0, .inl 0, .inl 0, .inl 0, .inl 0, .inr none, .inr none])) := ⟨by rw [eL]; exact mem_o, by rw [eσ]; exact va_up_self _ _ _⟩
  clear mem_o eL eσ eM eN
  refine lv_aload_n hx hb dX12_init_89 rfl (lv_at hl 0 rfl) ?_
  refine lv_sipush (v := (250 : Int32)) hx hb dX12_init_90 (by decide) ?_
  refine W_end (fun hze => ?_)
  have hz := n_hz hw21 hi_y_10.1 hze (by omega)
  clear hze
  refine n_newa hC hw21 hS21 hz (by omega) (k := 250) (by decide) (by decide) (by decide) (by show _ ≤ (13 : Nat); omega) (by show _ ≤ (5182 : Nat); omega) q_51 dX12_init_93 (fun H hw22 hzf hS22 => ?_)
  clear hw21 hS21
  clear hzf hz
  refine W.widen (k := 11) (n := 5027) (by omega) (by omega) ?_
  have hwk := hw22.name
  clear hw22
  obtain ⟨L22, σ22, M22, N22, hw22, eL, eσ, eM, eN⟩ := hwk
  have hLn : ∀ q ∈ L21, q ∈ L22 := fun q h => by rw [eL]; exact List.mem_append_left _ h
  have hsn : ∀ q, (q < y + 11 ∨ y + 11 + 1 ≤ q) → σ22 q = σ21 q := fun q h => by rw [eσ]; exact up_out q h
  have hmn : ∀ q, (q < y + 11 ∨ y + 11 + 1 ≤ q) → M22 q = M21 q := fun q h => by rw [eM]; exact up_out q h
  have hnn : ∀ q, (q < y + 11 ∨ y + 11 + 1 ≤ q) → N22 q = N21 q := fun q h => by rw [eN]
  replace hA : ∀ q ∈ L22, cA0 L (y + 1) q := by rw [eL]; exact hA_snoc hA (Or.inr (by omega))
  replace hLe : L22 = L ++ List.range' (y + 1) 11 := by rw [eL]; exact (congrArg (fun t => t ++ _) hLe).trans (snoc_r (by omega))
  replace hi_y_1 : Ft L22 σ22 (y + 1) (.inl (eI g, 913, none)) := Ft.mono hi_y_1 hLn (hsn _ (by omega))
  replace hi_y_2 : Ft L22 σ22 (y + 2) (.inl (eI g, 1826, none)) := Ft.mono hi_y_2 hLn (hsn _ (by omega))
  replace hz_y_3 : Ft L22 σ22 (y + 3) (.inl (eZ g, 2, none)) := Ft.mono hz_y_3 hLn (hsn _ (by omega))
  replace hi_y_4 : Ft L22 σ22 (y + 4) (.inl (eI g, 3, none)) := Ft.mono hi_y_4 hLn (hsn _ (by omega))
  replace hi_y_5 : Ft L22 σ22 (y + 5) (.inl (eI g, 120, none)) := Ft.mono hi_y_5 hLn (hsn _ (by omega))
  replace hi_y_6 : Ft L22 σ22 (y + 6) (.inl (eI g, 120, none)) := Ft.mono hi_y_6 hLn (hsn _ (by omega))
  replace hi_y_7 : Ft L22 σ22 (y + 7) (.inl (eI g, 4, none)) := Ft.mono hi_y_7 hLn (hsn _ (by omega))
  replace hi_y_8 : Ft L22 σ22 (y + 8) (.inl (eI g, 1560, none)) := Ft.mono hi_y_8 hLn (hsn _ (by omega))
  replace hi_y_9 : Ft L22 σ22 (y + 9) (.inl (eI g, 5, none)) := Ft.mono hi_y_9 hLn (hsn _ (by omega))
  replace hi_y_10 : Ft L22 σ22 (y + 10) (.inl (eI g, 224, none)) := Ft.mono hi_y_10 hLn (hsn _ (by omega))
  replace ho_y : Ft L22 σ22 (y) (.inr (12, [.inr (some (y + 1)), .inr (some (y + 2)), .inr (some (y + 3)), .inr (some (y + 4)), .inl 1, .inl 1, .inr (some (y + 5)), .inr (some (y + 6)), .inr (some (y + 7)), .inl 0, .inl 0, .inl 0, .inl 0, .inl 0, .inr (some (y + 8)), .inr (some (y + 9)), .inr (some (y + 10)), .inr none, .inl 0, .inl 0, .inl 0, .inl 0, .inl 0, .inr none, .inr none])) := Ft.mono ho_y hLn (hsn _ (by omega))
  replace mm_y_18 : M22 y 18 = 0 := by rw [hmn _ (by omega)]; exact mm_y_18
  replace mzz_y_1 : ∀ j, M22 (y + 1) j = 0 := by rw [hmn _ (by omega)]; exact mzz_y_1
  replace mzz_y_2 : ∀ j, M22 (y + 2) j = 0 := by rw [hmn _ (by omega)]; exact mzz_y_2
  replace mzz_y_3 : ∀ j, M22 (y + 3) j = 0 := by rw [hmn _ (by omega)]; exact mzz_y_3
  replace mzz_y_4 : ∀ j, M22 (y + 4) j = 0 := by rw [hmn _ (by omega)]; exact mzz_y_4
  replace mn_y_4 : N22 y 4 = 0 := by rw [hnn _ (by omega)]; exact mn_y_4
  replace mn_y_5 : N22 y 5 = (1 : Int64) := by rw [hnn _ (by omega)]; exact mn_y_5
  replace mzz_y_5 : ∀ j, M22 (y + 5) j = 0 := by rw [hmn _ (by omega)]; exact mzz_y_5
  replace mzz_y_6 : ∀ j, M22 (y + 6) j = 0 := by rw [hmn _ (by omega)]; exact mzz_y_6
  replace mzz_y_7 : ∀ j, M22 (y + 7) j = 0 := by rw [hmn _ (by omega)]; exact mzz_y_7
  replace mzz_y_8 : ∀ j, M22 (y + 8) j = 0 := by rw [hmn _ (by omega)]; exact mzz_y_8
  replace mzz_y_9 : ∀ j, M22 (y + 9) j = 0 := by rw [hmn _ (by omega)]; exact mzz_y_9
  replace mzz_y_10 : ∀ j, M22 (y + 10) j = 0 := by rw [hmn _ (by omega)]; exact mzz_y_10
  replace hσo : ∀ q, (q < y ∨ y + 14 ≤ q) → σ22 q = σ q := fun q h => (hsn q (by omega)).trans (hσo q h)
  replace hMo : ∀ q, (q < y ∨ y + 14 ≤ q) → M22 q = M q := fun q h => (hmn q (by omega)).trans (hMo q h)
  replace hNo : ∀ q, (q < y ∨ y + 14 ≤ q) → N22 q = N q := fun q h => (hnn q (by omega)).trans (hNo q h)
  clear hLn hsn hmn hnn
  have hi_y_11 : Ft L22 σ22 (y + 11) (.inl (eI g, 250, none)) := ⟨by rw [eL]; simp, by rw [eσ]; exact va_up_self _ _ _⟩
  have mzz_y_11 : ∀ j, M22 (y + 11) j = 0 := fun j => by rw [eM, va_up_self]
  clear eL eσ eM eN
  refine n_putR hC hmn hw22 hS22 hA ho_y.1 ho_y.2 fl_X12_45 tyX12 tyX12_ok nmX12 rfl rfl rfl rfl rfl dX12_init_95 (fun H locs hw23 hS23 => ?_)
  clear hw22 hS22
  have hwk := hw23.name
  clear hw23
  obtain ⟨L23, σ23, M23, N23, hw23, eL, eσ, eM, eN⟩ := hwk
  have hLn : ∀ q ∈ L22, q ∈ L23 := fun q h => by rw [eL]; exact h
  have hsn : ∀ q, (q < y ∨ y + 1 ≤ q) → σ23 q = σ22 q := fun q h => by rw [eσ]; exact up_out q h
  have hmn : ∀ q, (q < 0 ∨ 0 ≤ q) → M23 q = M22 q := fun q h => by rw [eM]
  have hnn : ∀ q, (q < 0 ∨ 0 ≤ q) → N23 q = N22 q := fun q h => by rw [eN]
  replace hA : ∀ q ∈ L23, cA0 L (y + 1) q := by rw [eL]; exact hA
  replace hLe : L23 = L ++ List.range' (y + 1) 11 := eL.trans hLe
  have mem_o := ho_y.1
  clear ho_y
  replace hi_y_1 : Ft L23 σ23 (y + 1) (.inl (eI g, 913, none)) := Ft.mono hi_y_1 hLn (hsn _ (by omega))
  replace hi_y_2 : Ft L23 σ23 (y + 2) (.inl (eI g, 1826, none)) := Ft.mono hi_y_2 hLn (hsn _ (by omega))
  replace hz_y_3 : Ft L23 σ23 (y + 3) (.inl (eZ g, 2, none)) := Ft.mono hz_y_3 hLn (hsn _ (by omega))
  replace hi_y_4 : Ft L23 σ23 (y + 4) (.inl (eI g, 3, none)) := Ft.mono hi_y_4 hLn (hsn _ (by omega))
  replace hi_y_5 : Ft L23 σ23 (y + 5) (.inl (eI g, 120, none)) := Ft.mono hi_y_5 hLn (hsn _ (by omega))
  replace hi_y_6 : Ft L23 σ23 (y + 6) (.inl (eI g, 120, none)) := Ft.mono hi_y_6 hLn (hsn _ (by omega))
  replace hi_y_7 : Ft L23 σ23 (y + 7) (.inl (eI g, 4, none)) := Ft.mono hi_y_7 hLn (hsn _ (by omega))
  replace hi_y_8 : Ft L23 σ23 (y + 8) (.inl (eI g, 1560, none)) := Ft.mono hi_y_8 hLn (hsn _ (by omega))
  replace hi_y_9 : Ft L23 σ23 (y + 9) (.inl (eI g, 5, none)) := Ft.mono hi_y_9 hLn (hsn _ (by omega))
  replace hi_y_10 : Ft L23 σ23 (y + 10) (.inl (eI g, 224, none)) := Ft.mono hi_y_10 hLn (hsn _ (by omega))
  replace hi_y_11 : Ft L23 σ23 (y + 11) (.inl (eI g, 250, none)) := Ft.mono hi_y_11 hLn (hsn _ (by omega))
  replace mm_y_18 : M23 y 18 = 0 := by rw [hmn _ (by omega)]; exact mm_y_18
  replace mzz_y_1 : ∀ j, M23 (y + 1) j = 0 := by rw [hmn _ (by omega)]; exact mzz_y_1
  replace mzz_y_2 : ∀ j, M23 (y + 2) j = 0 := by rw [hmn _ (by omega)]; exact mzz_y_2
  replace mzz_y_3 : ∀ j, M23 (y + 3) j = 0 := by rw [hmn _ (by omega)]; exact mzz_y_3
  replace mzz_y_4 : ∀ j, M23 (y + 4) j = 0 := by rw [hmn _ (by omega)]; exact mzz_y_4
  replace mn_y_4 : N23 y 4 = 0 := by rw [hnn _ (by omega)]; exact mn_y_4
  replace mn_y_5 : N23 y 5 = (1 : Int64) := by rw [hnn _ (by omega)]; exact mn_y_5
  replace mzz_y_5 : ∀ j, M23 (y + 5) j = 0 := by rw [hmn _ (by omega)]; exact mzz_y_5
  replace mzz_y_6 : ∀ j, M23 (y + 6) j = 0 := by rw [hmn _ (by omega)]; exact mzz_y_6
  replace mzz_y_7 : ∀ j, M23 (y + 7) j = 0 := by rw [hmn _ (by omega)]; exact mzz_y_7
  replace mzz_y_8 : ∀ j, M23 (y + 8) j = 0 := by rw [hmn _ (by omega)]; exact mzz_y_8
  replace mzz_y_9 : ∀ j, M23 (y + 9) j = 0 := by rw [hmn _ (by omega)]; exact mzz_y_9
  replace mzz_y_10 : ∀ j, M23 (y + 10) j = 0 := by rw [hmn _ (by omega)]; exact mzz_y_10
  replace mzz_y_11 : ∀ j, M23 (y + 11) j = 0 := by rw [hmn _ (by omega)]; exact mzz_y_11
  replace hσo : ∀ q, (q < y ∨ y + 14 ≤ q) → σ23 q = σ q := fun q h => (hsn q (by omega)).trans (hσo q h)
  replace hMo : ∀ q, (q < y ∨ y + 14 ≤ q) → M23 q = M q := fun q h => (hmn q (by omega)).trans (hMo q h)
  replace hNo : ∀ q, (q < y ∨ y + 14 ≤ q) → N23 q = N q := fun q h => (hnn q (by omega)).trans (hNo q h)
  clear hLn hsn hmn hnn
  have ho_y : Ft L23 σ23 (y) (.inr (12, [.inr (some (y + 1)), .inr (some (y + 2)), .inr (some (y + 3)), .inr (some (y + 4)), .inl 1, .inl 1, .inr (some (y + 5)), .inr (some (y + 6)), .inr (some (y + 7)), .inl 0, .inl 0, .inl 0, .inl 0, .inl 0, .inr (some (y + 8)), .inr (some (y + 9)), .inr (some (y + 10)), .inr (some (y + 11)), .inl 0, .inl 0, .inl 0, .inl 0, .inl 0, .inr none, .inr none])) := ⟨by rw [eL]; exact mem_o, by rw [eσ]; exact va_up_self _ _ _⟩
  clear mem_o eL eσ eM eN
  refine lv_aload_n hx hb dX12_init_98 rfl (lv_at hl 0 rfl) ?_
  refine lv_sipush (v := (151 : Int32)) hx hb dX12_init_99 (by decide) ?_
  refine W_end (fun hze => ?_)
  have hz := n_hz hw23 hi_y_11.1 hze (by omega)
  clear hze
  refine n_newa hC hw23 hS23 hz (by omega) (k := 151) (by decide) (by decide) (by decide) (by show _ ≤ (13 : Nat); omega) (by show _ ≤ (5182 : Nat); omega) q_51 dX12_init_102 (fun H hw24 hzf hS24 => ?_)
  clear hw23 hS23
  clear hzf hz
  refine W.widen (k := 12) (n := 5178) (by omega) (by omega) ?_
  have hwk := hw24.name
  clear hw24
  obtain ⟨L24, σ24, M24, N24, hw24, eL, eσ, eM, eN⟩ := hwk
  have hLn : ∀ q ∈ L23, q ∈ L24 := fun q h => by rw [eL]; exact List.mem_append_left _ h
  have hsn : ∀ q, (q < y + 12 ∨ y + 12 + 1 ≤ q) → σ24 q = σ23 q := fun q h => by rw [eσ]; exact up_out q h
  have hmn : ∀ q, (q < y + 12 ∨ y + 12 + 1 ≤ q) → M24 q = M23 q := fun q h => by rw [eM]; exact up_out q h
  have hnn : ∀ q, (q < y + 12 ∨ y + 12 + 1 ≤ q) → N24 q = N23 q := fun q h => by rw [eN]
  replace hA : ∀ q ∈ L24, cA0 L (y + 1) q := by rw [eL]; exact hA_snoc hA (Or.inr (by omega))
  replace hLe : L24 = L ++ List.range' (y + 1) 12 := by rw [eL]; exact (congrArg (fun t => t ++ _) hLe).trans (snoc_r (by omega))
  replace hi_y_1 : Ft L24 σ24 (y + 1) (.inl (eI g, 913, none)) := Ft.mono hi_y_1 hLn (hsn _ (by omega))
  replace hi_y_2 : Ft L24 σ24 (y + 2) (.inl (eI g, 1826, none)) := Ft.mono hi_y_2 hLn (hsn _ (by omega))
  replace hz_y_3 : Ft L24 σ24 (y + 3) (.inl (eZ g, 2, none)) := Ft.mono hz_y_3 hLn (hsn _ (by omega))
  replace hi_y_4 : Ft L24 σ24 (y + 4) (.inl (eI g, 3, none)) := Ft.mono hi_y_4 hLn (hsn _ (by omega))
  replace hi_y_5 : Ft L24 σ24 (y + 5) (.inl (eI g, 120, none)) := Ft.mono hi_y_5 hLn (hsn _ (by omega))
  replace hi_y_6 : Ft L24 σ24 (y + 6) (.inl (eI g, 120, none)) := Ft.mono hi_y_6 hLn (hsn _ (by omega))
  replace hi_y_7 : Ft L24 σ24 (y + 7) (.inl (eI g, 4, none)) := Ft.mono hi_y_7 hLn (hsn _ (by omega))
  replace hi_y_8 : Ft L24 σ24 (y + 8) (.inl (eI g, 1560, none)) := Ft.mono hi_y_8 hLn (hsn _ (by omega))
  replace hi_y_9 : Ft L24 σ24 (y + 9) (.inl (eI g, 5, none)) := Ft.mono hi_y_9 hLn (hsn _ (by omega))
  replace hi_y_10 : Ft L24 σ24 (y + 10) (.inl (eI g, 224, none)) := Ft.mono hi_y_10 hLn (hsn _ (by omega))
  replace hi_y_11 : Ft L24 σ24 (y + 11) (.inl (eI g, 250, none)) := Ft.mono hi_y_11 hLn (hsn _ (by omega))
  replace ho_y : Ft L24 σ24 (y) (.inr (12, [.inr (some (y + 1)), .inr (some (y + 2)), .inr (some (y + 3)), .inr (some (y + 4)), .inl 1, .inl 1, .inr (some (y + 5)), .inr (some (y + 6)), .inr (some (y + 7)), .inl 0, .inl 0, .inl 0, .inl 0, .inl 0, .inr (some (y + 8)), .inr (some (y + 9)), .inr (some (y + 10)), .inr (some (y + 11)), .inl 0, .inl 0, .inl 0, .inl 0, .inl 0, .inr none, .inr none])) := Ft.mono ho_y hLn (hsn _ (by omega))
  replace mm_y_18 : M24 y 18 = 0 := by rw [hmn _ (by omega)]; exact mm_y_18
  replace mzz_y_1 : ∀ j, M24 (y + 1) j = 0 := by rw [hmn _ (by omega)]; exact mzz_y_1
  replace mzz_y_2 : ∀ j, M24 (y + 2) j = 0 := by rw [hmn _ (by omega)]; exact mzz_y_2
  replace mzz_y_3 : ∀ j, M24 (y + 3) j = 0 := by rw [hmn _ (by omega)]; exact mzz_y_3
  replace mzz_y_4 : ∀ j, M24 (y + 4) j = 0 := by rw [hmn _ (by omega)]; exact mzz_y_4
  replace mn_y_4 : N24 y 4 = 0 := by rw [hnn _ (by omega)]; exact mn_y_4
  replace mn_y_5 : N24 y 5 = (1 : Int64) := by rw [hnn _ (by omega)]; exact mn_y_5
  replace mzz_y_5 : ∀ j, M24 (y + 5) j = 0 := by rw [hmn _ (by omega)]; exact mzz_y_5
  replace mzz_y_6 : ∀ j, M24 (y + 6) j = 0 := by rw [hmn _ (by omega)]; exact mzz_y_6
  replace mzz_y_7 : ∀ j, M24 (y + 7) j = 0 := by rw [hmn _ (by omega)]; exact mzz_y_7
  replace mzz_y_8 : ∀ j, M24 (y + 8) j = 0 := by rw [hmn _ (by omega)]; exact mzz_y_8
  replace mzz_y_9 : ∀ j, M24 (y + 9) j = 0 := by rw [hmn _ (by omega)]; exact mzz_y_9
  replace mzz_y_10 : ∀ j, M24 (y + 10) j = 0 := by rw [hmn _ (by omega)]; exact mzz_y_10
  replace mzz_y_11 : ∀ j, M24 (y + 11) j = 0 := by rw [hmn _ (by omega)]; exact mzz_y_11
  replace hσo : ∀ q, (q < y ∨ y + 14 ≤ q) → σ24 q = σ q := fun q h => (hsn q (by omega)).trans (hσo q h)
  replace hMo : ∀ q, (q < y ∨ y + 14 ≤ q) → M24 q = M q := fun q h => (hmn q (by omega)).trans (hMo q h)
  replace hNo : ∀ q, (q < y ∨ y + 14 ≤ q) → N24 q = N q := fun q h => (hnn q (by omega)).trans (hNo q h)
  clear hLn hsn hmn hnn
  have hi_y_12 : Ft L24 σ24 (y + 12) (.inl (eI g, 151, none)) := ⟨by rw [eL]; simp, by rw [eσ]; exact va_up_self _ _ _⟩
  have mzz_y_12 : ∀ j, M24 (y + 12) j = 0 := fun j => by rw [eM, va_up_self]
  clear eL eσ eM eN
  refine n_putR hC hmn hw24 hS24 hA ho_y.1 ho_y.2 fl_X12_48 tyX12 tyX12_ok nmX12 rfl rfl rfl rfl rfl dX12_init_104 (fun H locs hw25 hS25 => ?_)
  clear hw24 hS24
  have hwk := hw25.name
  clear hw25
  obtain ⟨L25, σ25, M25, N25, hw25, eL, eσ, eM, eN⟩ := hwk
  have hLn : ∀ q ∈ L24, q ∈ L25 := fun q h => by rw [eL]; exact h
  have hsn : ∀ q, (q < y ∨ y + 1 ≤ q) → σ25 q = σ24 q := fun q h => by rw [eσ]; exact up_out q h
  have hmn : ∀ q, (q < 0 ∨ 0 ≤ q) → M25 q = M24 q := fun q h => by rw [eM]
  have hnn : ∀ q, (q < 0 ∨ 0 ≤ q) → N25 q = N24 q := fun q h => by rw [eN]
  replace hA : ∀ q ∈ L25, cA0 L (y + 1) q := by rw [eL]; exact hA
  replace hLe : L25 = L ++ List.range' (y + 1) 12 := eL.trans hLe
  have mem_o := ho_y.1
  clear ho_y
  replace hi_y_1 : Ft L25 σ25 (y + 1) (.inl (eI g, 913, none)) := Ft.mono hi_y_1 hLn (hsn _ (by omega))
  replace hi_y_2 : Ft L25 σ25 (y + 2) (.inl (eI g, 1826, none)) := Ft.mono hi_y_2 hLn (hsn _ (by omega))
  replace hz_y_3 : Ft L25 σ25 (y + 3) (.inl (eZ g, 2, none)) := Ft.mono hz_y_3 hLn (hsn _ (by omega))
  replace hi_y_4 : Ft L25 σ25 (y + 4) (.inl (eI g, 3, none)) := Ft.mono hi_y_4 hLn (hsn _ (by omega))
  replace hi_y_5 : Ft L25 σ25 (y + 5) (.inl (eI g, 120, none)) := Ft.mono hi_y_5 hLn (hsn _ (by omega))
  replace hi_y_6 : Ft L25 σ25 (y + 6) (.inl (eI g, 120, none)) := Ft.mono hi_y_6 hLn (hsn _ (by omega))
  replace hi_y_7 : Ft L25 σ25 (y + 7) (.inl (eI g, 4, none)) := Ft.mono hi_y_7 hLn (hsn _ (by omega))
  replace hi_y_8 : Ft L25 σ25 (y + 8) (.inl (eI g, 1560, none)) := Ft.mono hi_y_8 hLn (hsn _ (by omega))
  replace hi_y_9 : Ft L25 σ25 (y + 9) (.inl (eI g, 5, none)) := Ft.mono hi_y_9 hLn (hsn _ (by omega))
  replace hi_y_10 : Ft L25 σ25 (y + 10) (.inl (eI g, 224, none)) := Ft.mono hi_y_10 hLn (hsn _ (by omega))
  replace hi_y_11 : Ft L25 σ25 (y + 11) (.inl (eI g, 250, none)) := Ft.mono hi_y_11 hLn (hsn _ (by omega))
  replace hi_y_12 : Ft L25 σ25 (y + 12) (.inl (eI g, 151, none)) := Ft.mono hi_y_12 hLn (hsn _ (by omega))
  replace mm_y_18 : M25 y 18 = 0 := by rw [hmn _ (by omega)]; exact mm_y_18
  replace mzz_y_1 : ∀ j, M25 (y + 1) j = 0 := by rw [hmn _ (by omega)]; exact mzz_y_1
  replace mzz_y_2 : ∀ j, M25 (y + 2) j = 0 := by rw [hmn _ (by omega)]; exact mzz_y_2
  replace mzz_y_3 : ∀ j, M25 (y + 3) j = 0 := by rw [hmn _ (by omega)]; exact mzz_y_3
  replace mzz_y_4 : ∀ j, M25 (y + 4) j = 0 := by rw [hmn _ (by omega)]; exact mzz_y_4
  replace mn_y_4 : N25 y 4 = 0 := by rw [hnn _ (by omega)]; exact mn_y_4
  replace mn_y_5 : N25 y 5 = (1 : Int64) := by rw [hnn _ (by omega)]; exact mn_y_5
  replace mzz_y_5 : ∀ j, M25 (y + 5) j = 0 := by rw [hmn _ (by omega)]; exact mzz_y_5
  replace mzz_y_6 : ∀ j, M25 (y + 6) j = 0 := by rw [hmn _ (by omega)]; exact mzz_y_6
  replace mzz_y_7 : ∀ j, M25 (y + 7) j = 0 := by rw [hmn _ (by omega)]; exact mzz_y_7
  replace mzz_y_8 : ∀ j, M25 (y + 8) j = 0 := by rw [hmn _ (by omega)]; exact mzz_y_8
  replace mzz_y_9 : ∀ j, M25 (y + 9) j = 0 := by rw [hmn _ (by omega)]; exact mzz_y_9
  replace mzz_y_10 : ∀ j, M25 (y + 10) j = 0 := by rw [hmn _ (by omega)]; exact mzz_y_10
  replace mzz_y_11 : ∀ j, M25 (y + 11) j = 0 := by rw [hmn _ (by omega)]; exact mzz_y_11
  replace mzz_y_12 : ∀ j, M25 (y + 12) j = 0 := by rw [hmn _ (by omega)]; exact mzz_y_12
  replace hσo : ∀ q, (q < y ∨ y + 14 ≤ q) → σ25 q = σ q := fun q h => (hsn q (by omega)).trans (hσo q h)
  replace hMo : ∀ q, (q < y ∨ y + 14 ≤ q) → M25 q = M q := fun q h => (hmn q (by omega)).trans (hMo q h)
  replace hNo : ∀ q, (q < y ∨ y + 14 ≤ q) → N25 q = N q := fun q h => (hnn q (by omega)).trans (hNo q h)
  clear hLn hsn hmn hnn
  have ho_y : Ft L25 σ25 (y) (.inr (12, [.inr (some (y + 1)), .inr (some (y + 2)), .inr (some (y + 3)), .inr (some (y + 4)), .inl 1, .inl 1, .inr (some (y + 5)), .inr (some (y + 6)), .inr (some (y + 7)), .inl 0, .inl 0, .inl 0, .inl 0, .inl 0, .inr (some (y + 8)), .inr (some (y + 9)), .inr (some (y + 10)), .inr (some (y + 11)), .inl 0, .inl 0, .inl 0, .inl 0, .inl 0, .inr (some (y + 12)), .inr none])) := ⟨by rw [eL]; exact mem_o, by rw [eσ]; exact va_up_self _ _ _⟩
  clear mem_o eL eσ eM eN
  refine lv_aload_n hx hb dX12_init_107 rfl (lv_at hl 0 rfl) ?_
  refine lv_iconst (v := (4 : Int32)) hx hb dX12_init_108 (by decide) ?_
  refine W_end (fun hze => ?_)
  have hz := n_hz hw25 hi_y_12.1 hze (by omega)
  clear hze
  refine n_newa hC hw25 hS25 hz (by omega) (k := 4) (by decide) (by decide) (by decide) (by show _ ≤ (13 : Nat); omega) (by show _ ≤ (5182 : Nat); omega) q_51 dX12_init_109 (fun H hw26 hzf hS26 => ?_)
  clear hw25 hS25
  clear hzf hz
  refine W.widen (k := 13) (n := 5182) (by omega) (by omega) ?_
  have hwk := hw26.name
  clear hw26
  obtain ⟨L26, σ26, M26, N26, hw26, eL, eσ, eM, eN⟩ := hwk
  have hLn : ∀ q ∈ L25, q ∈ L26 := fun q h => by rw [eL]; exact List.mem_append_left _ h
  have hsn : ∀ q, (q < y + 13 ∨ y + 13 + 1 ≤ q) → σ26 q = σ25 q := fun q h => by rw [eσ]; exact up_out q h
  have hmn : ∀ q, (q < y + 13 ∨ y + 13 + 1 ≤ q) → M26 q = M25 q := fun q h => by rw [eM]; exact up_out q h
  have hnn : ∀ q, (q < y + 13 ∨ y + 13 + 1 ≤ q) → N26 q = N25 q := fun q h => by rw [eN]
  replace hA : ∀ q ∈ L26, cA0 L (y + 1) q := by rw [eL]; exact hA_snoc hA (Or.inr (by omega))
  replace hLe : L26 = L ++ List.range' (y + 1) 13 := by rw [eL]; exact (congrArg (fun t => t ++ _) hLe).trans (snoc_r (by omega))
  replace hi_y_1 : Ft L26 σ26 (y + 1) (.inl (eI g, 913, none)) := Ft.mono hi_y_1 hLn (hsn _ (by omega))
  replace hi_y_2 : Ft L26 σ26 (y + 2) (.inl (eI g, 1826, none)) := Ft.mono hi_y_2 hLn (hsn _ (by omega))
  replace hz_y_3 : Ft L26 σ26 (y + 3) (.inl (eZ g, 2, none)) := Ft.mono hz_y_3 hLn (hsn _ (by omega))
  replace hi_y_4 : Ft L26 σ26 (y + 4) (.inl (eI g, 3, none)) := Ft.mono hi_y_4 hLn (hsn _ (by omega))
  replace hi_y_5 : Ft L26 σ26 (y + 5) (.inl (eI g, 120, none)) := Ft.mono hi_y_5 hLn (hsn _ (by omega))
  replace hi_y_6 : Ft L26 σ26 (y + 6) (.inl (eI g, 120, none)) := Ft.mono hi_y_6 hLn (hsn _ (by omega))
  replace hi_y_7 : Ft L26 σ26 (y + 7) (.inl (eI g, 4, none)) := Ft.mono hi_y_7 hLn (hsn _ (by omega))
  replace hi_y_8 : Ft L26 σ26 (y + 8) (.inl (eI g, 1560, none)) := Ft.mono hi_y_8 hLn (hsn _ (by omega))
  replace hi_y_9 : Ft L26 σ26 (y + 9) (.inl (eI g, 5, none)) := Ft.mono hi_y_9 hLn (hsn _ (by omega))
  replace hi_y_10 : Ft L26 σ26 (y + 10) (.inl (eI g, 224, none)) := Ft.mono hi_y_10 hLn (hsn _ (by omega))
  replace hi_y_11 : Ft L26 σ26 (y + 11) (.inl (eI g, 250, none)) := Ft.mono hi_y_11 hLn (hsn _ (by omega))
  replace hi_y_12 : Ft L26 σ26 (y + 12) (.inl (eI g, 151, none)) := Ft.mono hi_y_12 hLn (hsn _ (by omega))
  replace ho_y : Ft L26 σ26 (y) (.inr (12, [.inr (some (y + 1)), .inr (some (y + 2)), .inr (some (y + 3)), .inr (some (y + 4)), .inl 1, .inl 1, .inr (some (y + 5)), .inr (some (y + 6)), .inr (some (y + 7)), .inl 0, .inl 0, .inl 0, .inl 0, .inl 0, .inr (some (y + 8)), .inr (some (y + 9)), .inr (some (y + 10)), .inr (some (y + 11)), .inl 0, .inl 0, .inl 0, .inl 0, .inl 0, .inr (some (y + 12)), .inr none])) := Ft.mono ho_y hLn (hsn _ (by omega))
  replace mm_y_18 : M26 y 18 = 0 := by rw [hmn _ (by omega)]; exact mm_y_18
  replace mzz_y_1 : ∀ j, M26 (y + 1) j = 0 := by rw [hmn _ (by omega)]; exact mzz_y_1
  replace mzz_y_2 : ∀ j, M26 (y + 2) j = 0 := by rw [hmn _ (by omega)]; exact mzz_y_2
  replace mzz_y_3 : ∀ j, M26 (y + 3) j = 0 := by rw [hmn _ (by omega)]; exact mzz_y_3
  replace mzz_y_4 : ∀ j, M26 (y + 4) j = 0 := by rw [hmn _ (by omega)]; exact mzz_y_4
  replace mn_y_4 : N26 y 4 = 0 := by rw [hnn _ (by omega)]; exact mn_y_4
  replace mn_y_5 : N26 y 5 = (1 : Int64) := by rw [hnn _ (by omega)]; exact mn_y_5
  replace mzz_y_5 : ∀ j, M26 (y + 5) j = 0 := by rw [hmn _ (by omega)]; exact mzz_y_5
  replace mzz_y_6 : ∀ j, M26 (y + 6) j = 0 := by rw [hmn _ (by omega)]; exact mzz_y_6
  replace mzz_y_7 : ∀ j, M26 (y + 7) j = 0 := by rw [hmn _ (by omega)]; exact mzz_y_7
  replace mzz_y_8 : ∀ j, M26 (y + 8) j = 0 := by rw [hmn _ (by omega)]; exact mzz_y_8
  replace mzz_y_9 : ∀ j, M26 (y + 9) j = 0 := by rw [hmn _ (by omega)]; exact mzz_y_9
  replace mzz_y_10 : ∀ j, M26 (y + 10) j = 0 := by rw [hmn _ (by omega)]; exact mzz_y_10
  replace mzz_y_11 : ∀ j, M26 (y + 11) j = 0 := by rw [hmn _ (by omega)]; exact mzz_y_11
  replace mzz_y_12 : ∀ j, M26 (y + 12) j = 0 := by rw [hmn _ (by omega)]; exact mzz_y_12
  replace hσo : ∀ q, (q < y ∨ y + 14 ≤ q) → σ26 q = σ q := fun q h => (hsn q (by omega)).trans (hσo q h)
  replace hMo : ∀ q, (q < y ∨ y + 14 ≤ q) → M26 q = M q := fun q h => (hmn q (by omega)).trans (hMo q h)
  replace hNo : ∀ q, (q < y ∨ y + 14 ≤ q) → N26 q = N q := fun q h => (hnn q (by omega)).trans (hNo q h)
  clear hLn hsn hmn hnn
  have hi_y_13 : Ft L26 σ26 (y + 13) (.inl (eI g, 4, none)) := ⟨by rw [eL]; simp, by rw [eσ]; exact va_up_self _ _ _⟩
  have mzz_y_13 : ∀ j, M26 (y + 13) j = 0 := fun j => by rw [eM, va_up_self]
  clear eL eσ eM eN
  refine n_putR hC hmn hw26 hS26 hA ho_y.1 ho_y.2 fl_X12_51 tyX12 tyX12_ok nmX12 rfl rfl rfl rfl rfl dX12_init_111 (fun H locs hw27 hS27 => ?_)
  clear hw26 hS26
  have hwk := hw27.name
  clear hw27
  obtain ⟨L27, σ27, M27, N27, hw27, eL, eσ, eM, eN⟩ := hwk
  have hLn : ∀ q ∈ L26, q ∈ L27 := fun q h => by rw [eL]; exact h
  have hsn : ∀ q, (q < y ∨ y + 1 ≤ q) → σ27 q = σ26 q := fun q h => by rw [eσ]; exact up_out q h
  have hmn : ∀ q, (q < 0 ∨ 0 ≤ q) → M27 q = M26 q := fun q h => by rw [eM]
  have hnn : ∀ q, (q < 0 ∨ 0 ≤ q) → N27 q = N26 q := fun q h => by rw [eN]
  replace hA : ∀ q ∈ L27, cA0 L (y + 1) q := by rw [eL]; exact hA
  replace hLe : L27 = L ++ List.range' (y + 1) 13 := eL.trans hLe
  have mem_o := ho_y.1
  clear ho_y
  replace hi_y_1 : Ft L27 σ27 (y + 1) (.inl (eI g, 913, none)) := Ft.mono hi_y_1 hLn (hsn _ (by omega))
  replace hi_y_2 : Ft L27 σ27 (y + 2) (.inl (eI g, 1826, none)) := Ft.mono hi_y_2 hLn (hsn _ (by omega))
  replace hz_y_3 : Ft L27 σ27 (y + 3) (.inl (eZ g, 2, none)) := Ft.mono hz_y_3 hLn (hsn _ (by omega))
  replace hi_y_4 : Ft L27 σ27 (y + 4) (.inl (eI g, 3, none)) := Ft.mono hi_y_4 hLn (hsn _ (by omega))
  replace hi_y_5 : Ft L27 σ27 (y + 5) (.inl (eI g, 120, none)) := Ft.mono hi_y_5 hLn (hsn _ (by omega))
  replace hi_y_6 : Ft L27 σ27 (y + 6) (.inl (eI g, 120, none)) := Ft.mono hi_y_6 hLn (hsn _ (by omega))
  replace hi_y_7 : Ft L27 σ27 (y + 7) (.inl (eI g, 4, none)) := Ft.mono hi_y_7 hLn (hsn _ (by omega))
  replace hi_y_8 : Ft L27 σ27 (y + 8) (.inl (eI g, 1560, none)) := Ft.mono hi_y_8 hLn (hsn _ (by omega))
  replace hi_y_9 : Ft L27 σ27 (y + 9) (.inl (eI g, 5, none)) := Ft.mono hi_y_9 hLn (hsn _ (by omega))
  replace hi_y_10 : Ft L27 σ27 (y + 10) (.inl (eI g, 224, none)) := Ft.mono hi_y_10 hLn (hsn _ (by omega))
  replace hi_y_11 : Ft L27 σ27 (y + 11) (.inl (eI g, 250, none)) := Ft.mono hi_y_11 hLn (hsn _ (by omega))
  replace hi_y_12 : Ft L27 σ27 (y + 12) (.inl (eI g, 151, none)) := Ft.mono hi_y_12 hLn (hsn _ (by omega))
  replace hi_y_13 : Ft L27 σ27 (y + 13) (.inl (eI g, 4, none)) := Ft.mono hi_y_13 hLn (hsn _ (by omega))
  replace mm_y_18 : M27 y 18 = 0 := by rw [hmn _ (by omega)]; exact mm_y_18
  replace mzz_y_1 : ∀ j, M27 (y + 1) j = 0 := by rw [hmn _ (by omega)]; exact mzz_y_1
  replace mzz_y_2 : ∀ j, M27 (y + 2) j = 0 := by rw [hmn _ (by omega)]; exact mzz_y_2
  replace mzz_y_3 : ∀ j, M27 (y + 3) j = 0 := by rw [hmn _ (by omega)]; exact mzz_y_3
  replace mzz_y_4 : ∀ j, M27 (y + 4) j = 0 := by rw [hmn _ (by omega)]; exact mzz_y_4
  replace mn_y_4 : N27 y 4 = 0 := by rw [hnn _ (by omega)]; exact mn_y_4
  replace mn_y_5 : N27 y 5 = (1 : Int64) := by rw [hnn _ (by omega)]; exact mn_y_5
  replace mzz_y_5 : ∀ j, M27 (y + 5) j = 0 := by rw [hmn _ (by omega)]; exact mzz_y_5
  replace mzz_y_6 : ∀ j, M27 (y + 6) j = 0 := by rw [hmn _ (by omega)]; exact mzz_y_6
  replace mzz_y_7 : ∀ j, M27 (y + 7) j = 0 := by rw [hmn _ (by omega)]; exact mzz_y_7
  replace mzz_y_8 : ∀ j, M27 (y + 8) j = 0 := by rw [hmn _ (by omega)]; exact mzz_y_8
  replace mzz_y_9 : ∀ j, M27 (y + 9) j = 0 := by rw [hmn _ (by omega)]; exact mzz_y_9
  replace mzz_y_10 : ∀ j, M27 (y + 10) j = 0 := by rw [hmn _ (by omega)]; exact mzz_y_10
  replace mzz_y_11 : ∀ j, M27 (y + 11) j = 0 := by rw [hmn _ (by omega)]; exact mzz_y_11
  replace mzz_y_12 : ∀ j, M27 (y + 12) j = 0 := by rw [hmn _ (by omega)]; exact mzz_y_12
  replace mzz_y_13 : ∀ j, M27 (y + 13) j = 0 := by rw [hmn _ (by omega)]; exact mzz_y_13
  replace hσo : ∀ q, (q < y ∨ y + 14 ≤ q) → σ27 q = σ q := fun q h => (hsn q (by omega)).trans (hσo q h)
  replace hMo : ∀ q, (q < y ∨ y + 14 ≤ q) → M27 q = M q := fun q h => (hmn q (by omega)).trans (hMo q h)
  replace hNo : ∀ q, (q < y ∨ y + 14 ≤ q) → N27 q = N q := fun q h => (hnn q (by omega)).trans (hNo q h)
  clear hLn hsn hmn hnn
  have ho_y : Ft L27 σ27 (y) (.inr (12, [.inr (some (y + 1)), .inr (some (y + 2)), .inr (some (y + 3)), .inr (some (y + 4)), .inl 1, .inl 1, .inr (some (y + 5)), .inr (some (y + 6)), .inr (some (y + 7)), .inl 0, .inl 0, .inl 0, .inl 0, .inl 0, .inr (some (y + 8)), .inr (some (y + 9)), .inr (some (y + 10)), .inr (some (y + 11)), .inl 0, .inl 0, .inl 0, .inl 0, .inl 0, .inr (some (y + 12)), .inr (some (y + 13))])) := ⟨by rw [eL]; exact mem_o, by rw [eσ]; exact va_up_self _ _ _⟩
  clear mem_o eL eσ eM eN
  refine lv_aload_n hx hb dX12_init_114 rfl (lv_at hl 0 rfl) ?_
  refine n_getR hC hw27 ho_y.1 ho_y.2 fl_X12_7 rfl dX12_init_115 ?_
  refine lv_bipush (v := (12 : Int32)) hx hb dX12_init_118 (by decide) ?_
  have hm := mbegin_ok (y + 1) 913 12 M27 (by omega) (by omega)
  have hk := k_X12_begin (g := gE g L27 σ27) (l := l) (N := N27) hw27.2.1 hi_y_1 hm
  have hrr := n_runS (p := p) (e := e) (m := m) (below := below) (meth := meth) (c := c) (cells := 13) (slots := 5182) (R := rmC 2 13 5182) (pc := 120) (ls := ls) (As := [.ref (y + 1), .int (12 : Int32)]) (rest := []) hC hw27 hS27 hB hk cw_X12_54 q_167 q_168 ⟨by decide, by decide, by decide, by decide⟩ rfl hl.1 rfl (Nat.le_of_ble_eq_true rfl) dX12_init_120
  refine n_goV hS27 hA hw27 (hrr) (fun H locs hw28 hS28 => ?_)
  clear hw27 hS27
  exact e_C hC hr hlk hw28 hS28 (⟨⟨hLe, hσo, fun q h => (mbeg_o _ _ (by omega)).trans (hMo q h), hNo⟩, ⟨ho_y, hi_y_1, hi_y_2, hz_y_3, hi_y_4, hi_y_5, hi_y_6, hi_y_7, hi_y_8, hi_y_9, hi_y_10, hi_y_11, hi_y_12, hi_y_13⟩, ⟨⟨_, rfl⟩, fun j => by show mbegM _ (y + 1) _ (y + 3) j = 0; rw [mbeg_o _ _ (by omega)]; exact mzz_y_3 j, fun j => by show mbegM _ (y + 1) _ (y + 4) j = 0; rw [mbeg_o _ _ (by omega)]; exact mzz_y_4 j, by show mbegM _ (y + 1) _ y 18 = 0; rw [mbeg_o _ _ (by omega)]; exact mm_y_18, mn_y_4, mn_y_5⟩⟩) dX12_init_123
