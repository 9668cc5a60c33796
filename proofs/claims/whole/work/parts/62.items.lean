/-! items -/
abbrev okN (c : Nat → Nat) (n p lo hi : Nat) : Prop := kdT c n p = 2 ∧ lo ≤ vlT c n p ∧ vlT c n p ≤ hi
abbrev RdO : Type := Nat ⊕ (Rg × Nat)
def smc (c : Nat → Nat) (n p : Nat) (R : Rg) : RdO := if kdT c n p = 3 then .inr (R, enT c n p) else .inl (stT c n p)
def rStep (c : Nat → Nat) (n : Nat) (R : Rg) (p : Nat) : RdO := if okN c n p 0 4 then (if okN c n (enT c n p) 0 9 then smc c n (enT c n (enT c n p)) (updR R 1 (vlT c n p) (vlT c n (enT c n p))) else .inl (stT c n (enT c n p))) else .inl (stT c n p)
def rLump (c : Nat → Nat) (n : Nat) (R : Rg) (p : Nat) : RdO := if okN c n p 0 4 then (if okN c n (enT c n p) 0 (R 0 0 - 1) then (if okN c n (enT c n (enT c n p)) 0 999 then smc c n (enT c n (enT c n (enT c n p))) (updR R (10 + vlT c n p) (vlT c n (enT c n p)) (vlT c n (enT c n (enT c n p)))) else .inl (stT c n (enT c n (enT c n p)))) else .inl (stT c n (enT c n p))) else .inl (stT c n p)
def rMoon (c : Nat → Nat) (n : Nat) (R : Rg) (p : Nat) : RdO := if okN c n p 0 4 then (if okN c n (enT c n p) 0 5 then (if okN c n (enT c n (enT c n p)) 0 (R 0 0 - 1) then (if okN c n (enT c n (enT c n (enT c n p))) 0 9 then smc c n (enT c n (enT c n (enT c n (enT c n p)))) (addR R (vlT c n p) (vlT c n (enT c n p)) (vlT c n (enT c n (enT c n p))) (vlT c n (enT c n (enT c n (enT c n p))))) else .inl (stT c n (enT c n (enT c n (enT c n p))))) else .inl (stT c n (enT c n (enT c n p)))) else .inl (stT c n (enT c n p))) else .inl (stT c n p)
def rItem (c : Nat → Nat) (n : Nat) (R : Rg) (p : Nat) : RdO := if wdT c n p 1 then rStep c n R (enT c n p) else if wdT c n p 2 then rLump c n R (enT c n p) else if wdT c n p 3 then (if 4 ≤ R 0 1 then .inl (stT c n p) else rMoon c n R (enT c n p)) else .inl (stT c n p)
def rRing (c : Nat → Nat) (n p : Nat) : RdO := if wdT c n p 0 then (if okN c n (enT c n p) 4 24 then smc c n (enT c n (enT c n p)) (R0p (vlT c n (enT c n p))) else .inl (stT c n (enT c n p))) else .inl (stT c n p)
def DOk (R : Rg) (e : Nat) : Prop := (4 ≤ R 0 0 ∧ R 0 0 ≤ 24) ∧ R 0 1 ≤ 4 ∧ R 0 2 = 0 ∧ R 0 3 = 0 ∧ (∀ l, l < 5 → R 1 l ≤ 9 ∧ R 2 l ≤ 9999) ∧ (∀ j, j < R 0 1 → R 3 j ≤ 4 ∧ R 4 j ≤ 5 ∧ R 5 j < R 0 0 ∧ R 6 j ≤ 9) ∧ 9 * tot (R 0 0) R ≤ 999 * e
theorem DOk.up {R : Rg} {e e' : Nat} (h : DOk R e) (he : e ≤ e') : DOk R e' := ⟨h.1, h.2.1, h.2.2.1, h.2.2.2.1, h.2.2.2.2.1, h.2.2.2.2.2.1, by have := h.2.2.2.2.2.2; omega⟩
theorem DOk.rok {R : Rg} {e : Nat} (h : DOk R e) (he : e ≤ 250) (k : Nat) : ROk k R := ⟨h.1, h.2.1, by rw [h.2.2.1]; omega, by rw [h.2.2.2.1]; omega, h.2.2.2.2.1, h.2.2.2.2.2.1, by have := h.2.2.2.2.2.2; omega⟩
theorem smc_in {c : Nat → Nat} {n p : Nat} {R : Rg} {r : Rg × Nat} (hp : p ≤ n) (h : smc c n p R = .inr r) : r.1 = R ∧ r.2 = enT c n p ∧ p < r.2 ∧ r.2 ≤ n := by
  have h1 := stT_le c hp
  have h2 := enT_le c hp
  unfold smc at h
  by_cases q : kdT c n p = 3
  · rw [if_pos q] at h
    have e := Sum.inr.inj h
    subst e
    have := h2.2.2 (by omega)
    exact ⟨rfl, rfl, by show p < enT c n p; omega, h2.2.1⟩
  · rw [if_neg q] at h
    cases h
theorem okN_en {c : Nat → Nat} {n p lo hi : Nat} (hp : p ≤ n) (h : okN c n p lo hi) : p < enT c n p ∧ enT c n p ≤ n := by
  have h1 := stT_le c hp
  have h2 := enT_le c hp
  have := h2.2.2 (by have := h.1; omega)
  omega
theorem wdT_en {c : Nat → Nat} {n p w : Nat} (hp : p ≤ n) (h : wdT c n p w = true) : p + wN w ≤ enT c n p ∧ enT c n p ≤ n := by
  have h1 := stT_le c hp
  have h2 := enT_le c hp
  unfold wdT at h
  simp at h
  omega
theorem rItem_in {c : Nat → Nat} {n p : Nat} {R : Rg} {r : Rg × Nat} (hp : p ≤ n) (h : rItem c n R p = .inr r) (hD : DOk R p) : DOk r.1 r.2 ∧ p < r.2 ∧ r.2 ≤ n := by
  obtain ⟨d1, d2, d3, d4, d5, d6, d7⟩ := hD
  unfold rItem at h
  by_cases w1 : wdT c n p 1 = true
  · obtain ⟨a1, a2⟩ := wdT_en hp w1
    have hw : wN 1 = 4 := rfl
    rw [if_pos w1] at h
    unfold rStep at h
    by_cases o1 : okN c n (enT c n p) 0 4
    · obtain ⟨b1, b2⟩ := okN_en a2 o1
      rw [if_pos o1] at h
      by_cases o2 : okN c n (enT c n (enT c n p)) 0 9
      · obtain ⟨b3, b4⟩ := okN_en b2 o2
        rw [if_pos o2] at h
        obtain ⟨e1, e2, e3, e4⟩ := smc_in b4 h
        rw [e1]
        have u : ∀ b j, b ≠ 1 → updR R 1 (vlT c n (enT c n p)) (vlT c n (enT c n (enT c n p))) b j = R b j := fun b j hb => by rw [updR_at, if_neg (by omega)]
        refine ⟨⟨?_, ?_, ?_, ?_, fun l hl => ⟨?_, ?_⟩, fun j hj => ?_, ?_⟩, by omega, e4⟩
        · rw [u 0 0 (by omega)]; exact d1
        · rw [u 0 1 (by omega)]; exact d2
        · rw [u 0 2 (by omega)]; exact d3
        · rw [u 0 3 (by omega)]; exact d4
        · rw [updR_at]
          split
          · exact o2.2.2
          · exact (d5 l hl).1
        · rw [u 2 l (by omega)]; exact (d5 l hl).2
        · rw [u 0 1 (by omega)] at hj
          rw [u 3 j (by omega), u 4 j (by omega), u 5 j (by omega), u 6 j (by omega), u 0 0 (by omega)]; exact d6 j hj
        · rw [u 0 0 (by omega), tot_cong (R' := R) (fun l p _ _ => u _ _ (by omega))]; omega
      · rw [if_neg o2] at h; cases h
    · rw [if_neg o1] at h; cases h
  · rw [if_neg w1] at h
    by_cases w2 : wdT c n p 2 = true
    · obtain ⟨a1, a2⟩ := wdT_en hp w2
      have hw : wN 2 = 5 := rfl
      rw [if_pos w2] at h
      unfold rLump at h
      by_cases o1 : okN c n (enT c n p) 0 4
      · obtain ⟨b1, b2⟩ := okN_en a2 o1
        rw [if_pos o1] at h
        by_cases o2 : okN c n (enT c n (enT c n p)) 0 (R 0 0 - 1)
        · obtain ⟨b3, b4⟩ := okN_en b2 o2
          rw [if_pos o2] at h
          by_cases o3 : okN c n (enT c n (enT c n (enT c n p))) 0 999
          · obtain ⟨b5, b6⟩ := okN_en b4 o3
            rw [if_pos o3] at h
            obtain ⟨e1, e2, e3, e4⟩ := smc_in b6 h
            rw [e1]
            have hv1 := o1.2.2
            have hv2 := o2.2.2
            have hv3 := o3.2.2
            generalize vlT c n (enT c n p) = v1 at *
            generalize vlT c n (enT c n (enT c n p)) = v2 at *
            generalize vlT c n (enT c n (enT c n (enT c n p))) = v3 at *
            have u : ∀ b j, b < 10 → updR R (10 + v1) v2 v3 b j = R b j := fun b j hb => by rw [updR_at, if_neg (by omega)]
            have ht := tot_upd (R 0 0) R v3 (show v1 < 5 by omega) (show v2 < R 0 0 by omega)
            refine ⟨⟨?_, ?_, ?_, ?_, fun l hl => ⟨?_, ?_⟩, fun j hj => ?_, ?_⟩, by omega, e4⟩
            · rw [u 0 0 (by omega)]; exact d1
            · rw [u 0 1 (by omega)]; exact d2
            · rw [u 0 2 (by omega)]; exact d3
            · rw [u 0 3 (by omega)]; exact d4
            · rw [u 1 l (by omega)]; exact (d5 l hl).1
            · rw [u 2 l (by omega)]; exact (d5 l hl).2
            · rw [u 0 1 (by omega)] at hj
              rw [u 3 j (by omega), u 4 j (by omega), u 5 j (by omega), u 6 j (by omega), u 0 0 (by omega)]; exact d6 j hj
            · rw [u 0 0 (by omega)]; omega
          · rw [if_neg o3] at h; cases h
        · rw [if_neg o2] at h; cases h
      · rw [if_neg o1] at h; cases h
    · rw [if_neg w2] at h
      by_cases w3 : wdT c n p 3 = true
      · obtain ⟨a1, a2⟩ := wdT_en hp w3
        have hw : wN 3 = 4 := rfl
        rw [if_pos w3] at h
        by_cases hm : 4 ≤ R 0 1
        · rw [if_pos hm] at h; cases h
        · rw [if_neg hm] at h
          unfold rMoon at h
          by_cases o1 : okN c n (enT c n p) 0 4
          · obtain ⟨b1, b2⟩ := okN_en a2 o1
            rw [if_pos o1] at h
            by_cases o2 : okN c n (enT c n (enT c n p)) 0 5
            · obtain ⟨b3, b4⟩ := okN_en b2 o2
              rw [if_pos o2] at h
              by_cases o3 : okN c n (enT c n (enT c n (enT c n p))) 0 (R 0 0 - 1)
              · obtain ⟨b5, b6⟩ := okN_en b4 o3
                rw [if_pos o3] at h
                by_cases o4 : okN c n (enT c n (enT c n (enT c n (enT c n p)))) 0 9
                · obtain ⟨b7, b8⟩ := okN_en b6 o4
                  rw [if_pos o4] at h
                  obtain ⟨e1, e2, e3, e4⟩ := smc_in b8 h
                  rw [e1]
                  have hv1 := o1.2.2
                  have hv2 := o2.2.2
                  have hv3 := o3.2.2
                  have hv4 := o4.2.2
                  generalize vlT c n (enT c n (enT c n (enT c n (enT c n p)))) = v4 at *
                  generalize vlT c n (enT c n (enT c n (enT c n p))) = v3 at *
                  generalize vlT c n (enT c n (enT c n p)) = v2 at *
                  generalize vlT c n (enT c n p) = v1 at *
                  have u : ∀ b j, (b < 3 ∨ 7 ≤ b) → ¬ (b = 0 ∧ j = 1) → addR R v1 v2 v3 v4 b j = R b j := fun b j hb hj => addR_o _ _ _ _ _ hj (by omega)
                  have hv3' : v3 < R 0 0 := by omega
                  refine ⟨⟨?_, ?_, ?_, ?_, fun l hl => ⟨?_, ?_⟩, fun j hj => ?_, ?_⟩, by omega, e4⟩
                  · rw [u 0 0 (by omega) (by omega)]; exact d1
                  · rw [addR_01]; omega
                  · rw [u 0 2 (by omega) (by omega)]; exact d3
                  · rw [u 0 3 (by omega) (by omega)]; exact d4
                  · rw [u 1 l (by omega) (by omega)]; exact (d5 l hl).1
                  · rw [u 2 l (by omega) (by omega)]; exact (d5 l hl).2
                  · rw [addR_01] at hj
                    rw [u 0 0 (by omega) (by omega)]
                    by_cases hj2 : j = R 0 1
                    · subst hj2
                      rw [addR_m _ _ _ _ _ (by omega), addR_m _ _ _ _ _ (by omega), addR_m _ _ _ _ _ (by omega), addR_m _ _ _ _ _ (by omega)]
                      exact ⟨hv1, hv2, hv3', hv4⟩
                    · rw [addR_o _ _ _ _ _ (by omega) (by omega), addR_o _ _ _ _ _ (by omega) (by omega), addR_o _ _ _ _ _ (by omega) (by omega), addR_o _ _ _ _ _ (by omega) (by omega)]
                      exact d6 j (by omega)
                  · rw [u 0 0 (by omega) (by omega), tot_cong (R' := R) (fun l p _ _ => u _ _ (by omega) (by omega))]; omega
                · rw [if_neg o4] at h; cases h
              · rw [if_neg o3] at h; cases h
            · rw [if_neg o2] at h; cases h
          · rw [if_neg o1] at h; cases h
      · rw [if_neg w3] at h; cases h
theorem rRing_in {c : Nat → Nat} {n : Nat} {r : Rg × Nat} (h : rRing c n 0 = .inr r) : DOk r.1 r.2 ∧ 1 ≤ r.2 ∧ r.2 ≤ n := by
  unfold rRing at h
  by_cases w1 : wdT c n 0 0 = true
  · obtain ⟨a1, a2⟩ := wdT_en (Nat.zero_le n) w1
    have hw : wN 0 = 4 := rfl
    rw [if_pos w1] at h
    by_cases o1 : okN c n (enT c n 0) 4 24
    · obtain ⟨b1, b2⟩ := okN_en a2 o1
      rw [if_pos o1] at h
      obtain ⟨e1, e2, e3, e4⟩ := smc_in b2 h
      rw [e1]
      have k0 := R0p_ok 0 (vlT c n (enT c n 0)) ⟨o1.2.1, o1.2.2⟩
      have ht : 9 * tot (R0p (vlT c n (enT c n 0)) 0 0) (R0p (vlT c n (enT c n 0))) ≤ 999 * r.2 := by rw [R0p_tot]; omega
      exact ⟨⟨k0.1, k0.2.1, by have := k0.2.2.1; omega, by have := k0.2.2.2.1; omega, k0.2.2.2.2.1, k0.2.2.2.2.2.1, ht⟩, by omega, e4⟩
    · rw [if_neg o1] at h; cases h
  · rw [if_neg w1] at h; cases h
/-! the class's side -/
theorem CRing.setStep {M : Mm} {a l v : Nat} {tu : Nat → Nat} {R : Rg} (h : CRing M a tu R) : CRing (up2 M (a + 1) l (nI v)) a tu (updR R 1 l v) := by
  obtain ⟨a1, a2, a3, a4, a5, a6, a7⟩ := h
  have e0 : ∀ b j, b ≠ 1 → updR R 1 l v b j = R b j := fun b j hb => by rw [updR_at, if_neg (by omega)]
  refine ⟨?_, ?_, ?_, ?_, fun l' hl' => ⟨?_, ?_⟩, ?_, fun j hj => ?_⟩
  · rw [up2_o _ _ _ (by omega), e0 _ _ (by omega)]; exact a1
  · rw [up2_o _ _ _ (by omega), e0 _ _ (by omega)]; exact a2
  · rw [up2_o _ _ _ (by omega), e0 _ _ (by omega)]; exact a3
  · rw [up2_o _ _ _ (by omega), e0 _ _ (by omega)]; exact a4
  · rw [up2_at, updR_at]
    by_cases e : l' = l
    · rw [if_pos ⟨rfl, e⟩, if_pos ⟨rfl, e⟩]
    · rw [if_neg (by omega), if_neg (by omega)]; exact (a5 l' hl').1
  · rw [up2_o _ _ _ (by omega), e0 _ _ (by omega)]; exact (a5 l' hl').2
  · rw [e0 0 0 (by omega)]
    refine CLum.mono (M := M) ⟨a6.1, fun l' p hl' hp => ?_⟩ (up2_o _ _ _ (by omega)) (up2_o _ _ _ (by omega))
    rw [e0 _ _ (by omega)]; exact a6.2 l' p hl' hp
  · rw [e0 _ _ (by omega)] at hj
    rw [up2_o _ _ _ (by omega), up2_o _ _ _ (by omega), up2_o _ _ _ (by omega), up2_o _ _ _ (by omega), e0 _ _ (by omega), e0 _ _ (by omega), e0 _ _ (by omega), e0 _ _ (by omega)]
    exact a7 j hj
section CIT
variable {rd t n : Nat} {c : Nat → Nat}
theorem ctn {M : Mm} {p i lo hi : Nat} (hT : TX M t n c) (h4 : M t 4 = nI p) (hp : p ≤ n) (ht : t + 1 < rd) (hi4 : i < 4) (hlo : lo < 1000) (hhi : hi < 1000) : ∃ M', f_X4_takeNumber rd t (nI i) (nI lo) (nI hi) M = some (b01 (okN c n p lo hi), M') ∧ M' t 3 = nI (stT c n p) ∧ M' t 4 = nI (enT c n p) ∧ (okN c n p lo hi → M' (rd + 10) i = nI (vlT c n p)) ∧ (∀ j, j ≠ i → M' (rd + 10) j = M (rd + 10) j) ∧ M' t 1 = M t 1 ∧ ∀ q, q ≠ t → q ≠ rd + 10 → M' q = M q := by
  obtain ⟨M1, e1, a1, a2, a3⟩ := ntok hT h4 hp
  have hT1 : TX M1 t n c := hT.mono a2 (a3 _ (by omega))
  have en := numb_ok hT1 a1 hp
  refine ⟨up2 M1 (rd + 10) i (if kdT c n p = 2 then nI (vlT c n p) else -1), ?_, ?_, ?_, fun hok => ?_, fun j hj => ?_, ?_, fun q q1 q2 => by rw [up2_o _ _ _ q2, a3 q q1]⟩
  · unfold f_X4_takeNumber
    rw [e1, Option.bind_some, en, Option.bind_some, ck_nI hi4 (by omega), bnd_e, ck_nI hi4 (by omega), cl_nI (by omega), up2_at, if_pos ⟨rfl, rfl⟩, within_ok, Option.bind_some, cb_b01]
    congr 2
    apply b01_iff
    unfold okN
    by_cases h : kdT c n p = 2
    · have hv := vlT_lt c h
      rw [if_pos h, nI_leI (by omega) (by omega), nI_leI (by omega) (by omega)]
      exact ⟨fun q => ⟨h, q⟩, fun q => q.2⟩
    · rw [if_neg h]
      refine ⟨fun q => ?_, fun q => absurd q.1 h⟩
      have h0 : (0 : Int32) ≤ nI lo := nI_pos' (by omega)
      have h1 := Int32.le_trans h0 q.1
      exact absurd h1 (by decide)
  · rw [up2_o _ _ _ (by omega)]; exact a1.2.1
  · rw [up2_o _ _ _ (by omega)]; exact a1.2.2
  · rw [up2_at, if_pos ⟨rfl, rfl⟩, if_pos hok.1]
  · rw [up2_at, if_neg (by omega), a3 _ (by omega)]
  · rw [up2_o _ _ _ (by omega)]; exact a2
theorem cts {M : Mm} {p : Nat} (hT : TX M t n c) (h4 : M t 4 = nI p) (hp : p ≤ n) : ∃ M', f_X4_takeSemicolon rd t M = some (b01 (kdT c n p = 3), M') ∧ M' t 3 = nI (stT c n p) ∧ M' t 4 = nI (enT c n p) ∧ M' t 1 = M t 1 ∧ ∀ q, q ≠ t → M' q = M q := by
  obtain ⟨M1, e1, a1, a2, a3⟩ := ntok hT h4 hp
  have hk := kdT_le c n p
  refine ⟨M1, ?_, a1.2.1, a1.2.2, a2, a3⟩
  unfold f_X4_takeSemicolon b01
  rw [e1, Option.bind_some, a1.1, nlit 3, ifeq (by omega) (by omega)]
  split <;> rfl
def cFr (rd t : Nat) (M M' : Mm) : Prop := M' t 1 = M t 1 ∧ ∀ q, q ≠ t → (q < rd + 1 ∨ rd + 11 ≤ q) → M' q = M q
theorem cFr.trans {M M' M'' : Mm} (h : cFr rd t M M') (h' : cFr rd t M' M'') : cFr rd t M M'' := ⟨h'.1.trans h.1, fun q q1 q2 => (h'.2 q q1 q2).trans (h.2 q q1 q2)⟩
theorem cFr.tx {M M' : Mm} (h : cFr rd t M M') (ht : t + 1 < rd) (hT : TX M t n c) : TX M' t n c := hT.mono h.1 (h.2 _ (by omega) (by omega))
def cOut (rd t : Nat) (M' : Mm) (f : Option (Int32 × Mm)) : RdO → Prop
  | .inl q => f = some (0, M') ∧ M' t 3 = nI q
  | .inr r => f = some (1, M') ∧ M' t 4 = nI r.2 ∧ ∃ tu, CRing M' (rd + 1) tu r.1
theorem crStep {M : Mm} {p : Nat} {tu : Nat → Nat} {R : Rg} (hT : TX M t n c) (h4 : M t 4 = nI p) (hp : p ≤ n) (ht : t + 1 < rd) (hC : CRing M (rd + 1) tu R) : ∃ M', cOut rd t M' (f_X4_readStep rd t M) (rStep c n R p) ∧ cFr rd t M M' := by
  obtain ⟨M1, e1, a1, a2, a3, a4, a5, a6⟩ := ctn (rd := rd) (i := 0) (lo := 0) (hi := 4) hT h4 hp ht (by omega) (by omega) (by omega)
  have f1 : cFr rd t M M1 := ⟨a5, fun q q1 q2 => a6 q q1 (by omega)⟩
  unfold f_X4_readStep rStep
  rw [show (0 : Int32) = nI 0 from rfl, nlit 4, e1, bd2_some, show nI 0 = (0 : Int32) from rfl, ite_b01]
  by_cases o1 : okN c n p 0 4
  · obtain ⟨-, p1⟩ := okN_en hp o1
    rw [if_pos o1, if_pos o1]
    obtain ⟨M2, e2, b1, b2, b3, b4, b5, b6⟩ := ctn (rd := rd) (i := 1) (lo := 0) (hi := 9) (f1.tx ht hT) a2 p1 ht (by omega) (by omega) (by omega)
    have f2 : cFr rd t M M2 := f1.trans ⟨b5, fun q q1 q2 => b6 q q1 (by omega)⟩
    rw [show (1 : Int32) = nI 1 from rfl, show (0 : Int32) = nI 0 from rfl, nlit 9, e2, bd2_some, show nI 0 = (0 : Int32) from rfl, ite_b01]
    by_cases o2 : okN c n (enT c n p) 0 9
    · obtain ⟨-, p2⟩ := okN_en p1 o2
      rw [if_pos o2, if_pos o2]
      obtain ⟨M3, e3, d1, d2, d3, d4⟩ := cts (rd := rd) (f2.tx ht hT) b2 p2
      have f3 : cFr rd t M M3 := f2.trans ⟨d3, fun q q1 q2 => d4 q q1⟩
      unfold smc
      rw [e3, bd2_some, ite_b01]
      by_cases o3 : kdT c n (enT c n (enT c n p)) = 3
      · have v0 : M3 (rd + 10) 0 = nI (vlT c n p) := by rw [d4 _ (by omega), b4 0 (by omega)]; exact a3 o1
        have v1 : M3 (rd + 10) 1 = nI (vlT c n (enT c n p)) := by rw [d4 _ (by omega)]; exact b3 o2
        have hv0 := o1.2.2
        have cl0 : (0 : Int32).toNatClampNeg = 0 := by decide
        have hC3 : CRing M3 (rd + 1) tu R := hC.mono (fun q q1 q2 => by rw [d4 q (by omega), b6 q (by omega) (by omega), a6 q (by omega) (by omega)])
        rw [if_pos o3, if_pos o3, show (0 : Int32) = nI 0 from rfl, ck_nI (by omega) (by omega), ck_nI (by omega) (by omega), cl_nI (by omega), cl_nI (by omega), v0, v1, ck_nI (by omega) (by omega), cl_nI (by omega), bnd_e]
        exact ⟨_, ⟨rfl, by rw [up2_o _ _ _ (by omega)]; exact d2, tu, hC3.setStep⟩, by rw [up2_o _ _ _ (by omega)]; exact f3.1, fun q q1 q2 => by rw [up2_o _ _ _ (by omega)]; exact f3.2 q q1 q2⟩
      · rw [if_neg o3, if_neg o3]
        exact ⟨M3, ⟨rfl, d1⟩, f3⟩
    · rw [if_neg o2, if_neg o2]
      exact ⟨M2, ⟨rfl, b1⟩, f2⟩
  · rw [if_neg o1, if_neg o1]
    exact ⟨M1, ⟨rfl, a1⟩, f1⟩
theorem crLump {M : Mm} {p : Nat} {tu : Nat → Nat} {R : Rg} (hT : TX M t n c) (h4 : M t 4 = nI p) (hp : p ≤ n) (ht : t + 1 < rd) (hC : CRing M (rd + 1) tu R) (hP : 4 ≤ R 0 0 ∧ R 0 0 ≤ 24) : ∃ M', cOut rd t M' (f_X4_readLumps rd t M) (rLump c n R p) ∧ cFr rd t M M' := by
  obtain ⟨M1, e1, a1, a2, a3, a4, a5, a6⟩ := ctn (rd := rd) (i := 0) (lo := 0) (hi := 4) hT h4 hp ht (by omega) (by omega) (by omega)
  have f1 : cFr rd t M M1 := ⟨a5, fun q q1 q2 => a6 q q1 (by omega)⟩
  unfold f_X4_readLumps rLump
  rw [show (0 : Int32) = nI 0 from rfl, nlit 4, e1, bd2_some, show nI 0 = (0 : Int32) from rfl, ite_b01]
  by_cases o1 : okN c n p 0 4
  · obtain ⟨-, p1⟩ := okN_en hp o1
    rw [if_pos o1, if_pos o1]
    have hC1 : CRing M1 (rd + 1) tu R := hC.mono (fun q q1 q2 => a6 q (by omega) (by omega))
    have eP : M1 (rd + 1) 9 - (1 : Int32) = nI (R 0 0 - 1) := by rw [hC1.1, show (1 : Int32) = nI 1 from rfl, pk_sub (by omega)]
    obtain ⟨M2, e2, b1, b2, b3, b4, b5, b6⟩ := ctn (rd := rd) (i := 1) (lo := 0) (hi := R 0 0 - 1) (f1.tx ht hT) a2 p1 ht (by omega) (by omega) (by omega)
    have f2 : cFr rd t M M2 := f1.trans ⟨b5, fun q q1 q2 => b6 q q1 (by omega)⟩
    rw [eP, show (1 : Int32) = nI 1 from rfl, show (0 : Int32) = nI 0 from rfl, e2, bd2_some, show nI 0 = (0 : Int32) from rfl, ite_b01]
    by_cases o2 : okN c n (enT c n p) 0 (R 0 0 - 1)
    · obtain ⟨-, p2⟩ := okN_en p1 o2
      rw [if_pos o2, if_pos o2]
      obtain ⟨M3, e3, d1, d2, d3, d4, d5, d6⟩ := ctn (rd := rd) (i := 2) (lo := 0) (hi := 999) (f2.tx ht hT) b2 p2 ht (by omega) (by omega) (by omega)
      have f3 : cFr rd t M M3 := f2.trans ⟨d5, fun q q1 q2 => d6 q q1 (by omega)⟩
      rw [nlit 2, show (0 : Int32) = nI 0 from rfl, nlit 999, e3, bd2_some, show nI 0 = (0 : Int32) from rfl, ite_b01]
      by_cases o3 : okN c n (enT c n (enT c n p)) 0 999
      · obtain ⟨-, p3⟩ := okN_en p2 o3
        rw [if_pos o3, if_pos o3]
        obtain ⟨M4, e4, g1, g2, g3, g4⟩ := cts (rd := rd) (f3.tx ht hT) d2 p3
        have f4 : cFr rd t M M4 := f3.trans ⟨g3, fun q q1 q2 => g4 q q1⟩
        unfold smc
        rw [e4, bd2_some, ite_b01]
        by_cases o4 : kdT c n (enT c n (enT c n (enT c n p))) = 3
        · have v0 : M4 (rd + 10) 0 = nI (vlT c n p) := by rw [g4 _ (by omega), d4 0 (by omega), b4 0 (by omega)]; exact a3 o1
          have v1 : M4 (rd + 10) 1 = nI (vlT c n (enT c n p)) := by rw [g4 _ (by omega), d4 1 (by omega)]; exact b3 o2
          have v2 : M4 (rd + 10) 2 = nI (vlT c n (enT c n (enT c n p))) := by rw [g4 _ (by omega)]; exact d3 o3
          have hv0 := o1.2.2
          have hv1 := o2.2.2
          have hC4 : CRing M4 (rd + 1) tu R := hC.mono (fun q q1 q2 => by rw [g4 q (by omega), d6 q (by omega) (by omega), b6 q (by omega) (by omega), a6 q (by omega) (by omega)])
          rw [if_pos o4, if_pos o4, show (0 : Int32) = nI 0 from rfl, ck_nI (by omega) (by omega), ck_nI (by omega) (by omega), ck_nI (by omega) (by omega), cl_nI (by omega), cl_nI (by omega), cl_nI (by omega), v0, v1, v2, setLumps_ok hC4 (by omega) (by omega) hP.2, Option.bind_some]
          exact ⟨_, ⟨rfl, by rw [up2_o _ _ _ (by omega)]; exact g2, tu, hC4.setLumps (by omega) (by omega) hP.2 _⟩, by rw [up2_o _ _ _ (by omega)]; exact f4.1, fun q q1 q2 => by rw [up2_o _ _ _ (by omega)]; exact f4.2 q q1 q2⟩
        · rw [if_neg o4, if_neg o4]
          exact ⟨M4, ⟨rfl, g1⟩, f4⟩
      · rw [if_neg o3, if_neg o3]
        exact ⟨M3, ⟨rfl, d1⟩, f3⟩
    · rw [if_neg o2, if_neg o2]
      exact ⟨M2, ⟨rfl, b1⟩, f2⟩
  · rw [if_neg o1, if_neg o1]
    exact ⟨M1, ⟨rfl, a1⟩, f1⟩
theorem crMoon {M : Mm} {p : Nat} {tu : Nat → Nat} {R : Rg} (hT : TX M t n c) (h4 : M t 4 = nI p) (hp : p ≤ n) (ht : t + 1 < rd) (hC : CRing M (rd + 1) tu R) (hP : 4 ≤ R 0 0 ∧ R 0 0 ≤ 24) (hm : R 0 1 < 4) : ∃ M', cOut rd t M' (f_X4_readMoon rd t M) (rMoon c n R p) ∧ cFr rd t M M' := by
  obtain ⟨M1, e1, a1, a2, a3, a4, a5, a6⟩ := ctn (rd := rd) (i := 0) (lo := 0) (hi := 4) hT h4 hp ht (by omega) (by omega) (by omega)
  have f1 : cFr rd t M M1 := ⟨a5, fun q q1 q2 => a6 q q1 (by omega)⟩
  unfold f_X4_readMoon rMoon
  rw [show (0 : Int32) = nI 0 from rfl, nlit 4, e1, bd2_some, show nI 0 = (0 : Int32) from rfl, ite_b01]
  by_cases o1 : okN c n p 0 4
  · obtain ⟨-, p1⟩ := okN_en hp o1
    rw [if_pos o1, if_pos o1]
    obtain ⟨M2, e2, b1, b2, b3, b4, b5, b6⟩ := ctn (rd := rd) (i := 1) (lo := 0) (hi := 5) (f1.tx ht hT) a2 p1 ht (by omega) (by omega) (by omega)
    have f2 : cFr rd t M M2 := f1.trans ⟨b5, fun q q1 q2 => b6 q q1 (by omega)⟩
    rw [nlit 5, show (1 : Int32) = nI 1 from rfl, show (0 : Int32) = nI 0 from rfl, e2, bd2_some, show nI 0 = (0 : Int32) from rfl, show nI 1 = (1 : Int32) from rfl, ite_b01]
    by_cases o2 : okN c n (enT c n p) 0 5
    · obtain ⟨-, p2⟩ := okN_en p1 o2
      rw [if_pos o2, if_pos o2]
      have hC2 : CRing M2 (rd + 1) tu R := hC.mono (fun q q1 q2 => by rw [b6 q (by omega) (by omega), a6 q (by omega) (by omega)])
      have eP : M2 (rd + 1) 9 - (1 : Int32) = nI (R 0 0 - 1) := by rw [hC2.1, show (1 : Int32) = nI 1 from rfl, pk_sub (by omega)]
      obtain ⟨M3, e3, d1, d2, d3, d4, d5, d6⟩ := ctn (rd := rd) (i := 2) (lo := 0) (hi := R 0 0 - 1) (f2.tx ht hT) b2 p2 ht (by omega) (by omega) (by omega)
      have f3 : cFr rd t M M3 := f2.trans ⟨d5, fun q q1 q2 => d6 q q1 (by omega)⟩
      rw [eP, nlit 2, show (0 : Int32) = nI 0 from rfl, e3, bd2_some, show nI 0 = (0 : Int32) from rfl, ite_b01]
      by_cases o3 : okN c n (enT c n (enT c n p)) 0 (R 0 0 - 1)
      · obtain ⟨-, p3⟩ := okN_en p2 o3
        rw [if_pos o3, if_pos o3]
        obtain ⟨M4, e4, g1, g2, g3, g4, g5, g6⟩ := ctn (rd := rd) (i := 3) (lo := 0) (hi := 9) (f3.tx ht hT) d2 p3 ht (by omega) (by omega) (by omega)
        have f4 : cFr rd t M M4 := f3.trans ⟨g5, fun q q1 q2 => g6 q q1 (by omega)⟩
        rw [nlit 3, show (0 : Int32) = nI 0 from rfl, nlit 9, e4, bd2_some, show nI 0 = (0 : Int32) from rfl, ite_b01]
        by_cases o4 : okN c n (enT c n (enT c n (enT c n p))) 0 9
        · obtain ⟨-, p4⟩ := okN_en p3 o4
          rw [if_pos o4, if_pos o4]
          obtain ⟨M5, e5, i1, i2, i3, i4⟩ := cts (rd := rd) (f4.tx ht hT) g2 p4
          have f5 : cFr rd t M M5 := f4.trans ⟨i3, fun q q1 q2 => i4 q q1⟩
          unfold smc
          rw [e5, bd2_some, ite_b01]
          by_cases o5 : kdT c n (enT c n (enT c n (enT c n (enT c n p)))) = 3
          · have v0 : M5 (rd + 10) 0 = nI (vlT c n p) := by rw [i4 _ (by omega), g4 0 (by omega), d4 0 (by omega), b4 0 (by omega)]; exact a3 o1
            have v1 : M5 (rd + 10) 1 = nI (vlT c n (enT c n p)) := by rw [i4 _ (by omega), g4 1 (by omega), d4 1 (by omega)]; exact b3 o2
            have v2 : M5 (rd + 10) 2 = nI (vlT c n (enT c n (enT c n p))) := by rw [i4 _ (by omega), g4 2 (by omega)]; exact d3 o3
            have v3 : M5 (rd + 10) 3 = nI (vlT c n (enT c n (enT c n (enT c n p)))) := by rw [i4 _ (by omega)]; exact g3 o4
            have hC5 : CRing M5 (rd + 1) tu R := hC.mono (fun q q1 q2 => by rw [i4 q (by omega), g6 q (by omega) (by omega), d6 q (by omega) (by omega), b6 q (by omega) (by omega), a6 q (by omega) (by omega)])
            obtain ⟨M6, e6, l1, l2, -⟩ := addMoon_ok (kd := vlT c n p) (ed := vlT c n (enT c n p)) (pl := vlT c n (enT c n (enT c n p))) (st := vlT c n (enT c n (enT c n (enT c n p)))) hC5 hm
            rw [if_pos o5, if_pos o5, show (1 : Int32) = nI 1 from rfl, show (0 : Int32) = nI 0 from rfl, ck_nI (by omega) (by omega), ck_nI (by omega) (by omega), ck_nI (by omega) (by omega), ck_nI (by omega) (by omega), cl_nI (by omega), cl_nI (by omega), cl_nI (by omega), cl_nI (by omega), v0, v1, v2, v3, e6, bd2_some]
            exact ⟨M6, ⟨rfl, by rw [l2 _ (by omega) (by omega)]; exact i2, tu, l1⟩, by rw [l2 _ (by omega) (by omega)]; exact f5.1, fun q q1 q2 => by rw [l2 _ (by omega) (by omega)]; exact f5.2 q q1 q2⟩
          · rw [if_neg o5, if_neg o5]
            exact ⟨M5, ⟨rfl, i1⟩, f5⟩
        · rw [if_neg o4, if_neg o4]
          exact ⟨M4, ⟨rfl, g1⟩, f4⟩
      · rw [if_neg o3, if_neg o3]
        exact ⟨M3, ⟨rfl, d1⟩, f3⟩
    · rw [if_neg o2, if_neg o2]
      exact ⟨M2, ⟨rfl, b1⟩, f2⟩
  · rw [if_neg o1, if_neg o1]
    exact ⟨M1, ⟨rfl, a1⟩, f1⟩
theorem cOut.cb {M' : Mm} {f : Option (Int32 × Mm)} {o : RdO} (h : cOut rd t M' f o) : cOut rd t M' (bd2 f fun r M => cb r (some (r, M))) o := by
  cases o with
  | inl q =>
    obtain ⟨h1, h2⟩ := h
    refine ⟨?_, h2⟩
    rw [h1, bd2_some]
    rfl
  | inr r =>
    obtain ⟨h1, h2⟩ := h
    refine ⟨?_, h2⟩
    rw [h1, bd2_some]
    rfl
theorem cOut.ifs {M' : Mm} {f : Option (Int32 × Mm)} {o : RdO} (h : cOut rd t M' f o) : cOut rd t M' (bd2 f fun r M => if r = 0 then some ((0 : Int32), M) else some ((1 : Int32), M)) o := by
  cases o with
  | inl q =>
    obtain ⟨h1, h2⟩ := h
    refine ⟨?_, h2⟩
    rw [h1, bd2_some]
    rfl
  | inr r =>
    obtain ⟨h1, h2⟩ := h
    refine ⟨?_, h2⟩
    rw [h1, bd2_some]
    rfl
theorem crItem {M : Mm} {p : Nat} {tu : Nat → Nat} {R : Rg} (hT : TX M t n c) (hK : TK M t n c p) (hp : p ≤ n) (ht : t + 1 < rd) (hC : CRing M (rd + 1) tu R) (hP : 4 ≤ R 0 0 ∧ R 0 0 ≤ 24) (hm : R 0 1 ≤ 4) : ∃ M', cOut rd t M' (f_X4_readItem rd t M) (rItem c n R p) ∧ cFr rd t M M' := by
  have he := (enT_le c hp).2.1
  unfold f_X4_readItem rItem
  rw [iword_ok hT hK hp (show 1 < 4 by omega), Option.bind_some, boolI]
  by_cases w1 : wdT c n p 1 = true
  · rw [if_pos w1, if_pos w1]
    obtain ⟨M', h, f⟩ := crStep hT hK.2.2 he ht hC
    exact ⟨M', h.cb, f⟩
  · rw [if_neg w1, if_neg w1, iword_ok hT hK hp (show 2 < 4 by omega), Option.bind_some, boolI]
    by_cases w2 : wdT c n p 2 = true
    · rw [if_pos w2, if_pos w2]
      obtain ⟨M', h, f⟩ := crLump hT hK.2.2 he ht hC hP
      exact ⟨M', h.cb, f⟩
    · rw [if_neg w2, if_neg w2, iword_ok hT hK hp (show 3 < 4 by omega), Option.bind_some, boolI]
      by_cases w3 : wdT c n p 3 = true
      · rw [if_pos w3, if_pos w3, hC.2.1, nlit 4, ifle (by omega) (by omega)]
        by_cases h4 : 4 ≤ R 0 1
        · rw [if_pos h4, if_pos h4]
          exact ⟨M, ⟨rfl, hK.2.1⟩, rfl, fun _ _ _ => rfl⟩
        · rw [if_neg h4, if_neg h4]
          obtain ⟨M', h, f⟩ := crMoon hT hK.2.2 he ht hC hP (by omega)
          exact ⟨M', h.ifs, f⟩
      · rw [if_neg w3, if_neg w3]
        exact ⟨M, ⟨rfl, hK.2.1⟩, rfl, fun _ _ _ => rfl⟩
theorem crRing {M : Mm} {p : Nat} (hT : TX M t n c) (hK : TK M t n c p) (hp : p ≤ n) (ht : t + 1 < rd) : ∃ M', cOut rd t M' (f_X4_readRing rd t M) (rRing c n p) ∧ cFr rd t M M' := by
  have he := (enT_le c hp).2.1
  unfold f_X4_readRing rRing
  rw [iword_ok hT hK hp (show 0 < 4 by omega), Option.bind_some, boolI]
  by_cases w1 : wdT c n p 0 = true
  · rw [if_pos w1, if_pos w1]
    obtain ⟨M1, e1, a1, a2, a3, a4, a5, a6⟩ := ctn (rd := rd) (i := 0) (lo := 4) (hi := 24) hT hK.2.2 he ht (by omega) (by omega) (by omega)
    have f1 : cFr rd t M M1 := ⟨a5, fun q q1 q2 => a6 q q1 (by omega)⟩
    rw [show (0 : Int32) = nI 0 from rfl, nlit 4, nlit 24, e1, bd2_some, show nI 0 = (0 : Int32) from rfl, ite_b01]
    by_cases o1 : okN c n (enT c n p) 4 24
    · obtain ⟨-, p1⟩ := okN_en he o1
      rw [if_pos o1, if_pos o1]
      obtain ⟨M2, e2, d1, d2, d3, d4⟩ := cts (rd := rd) (f1.tx ht hT) a2 p1
      have f2 : cFr rd t M M2 := f1.trans ⟨d3, fun q q1 q2 => d4 q q1⟩
      unfold smc
      rw [e2, bd2_some, ite_b01]
      by_cases o2 : kdT c n (enT c n (enT c n p)) = 3
      · have v0 : M2 (rd + 10) 0 = nI (vlT c n (enT c n p)) := by rw [d4 _ (by omega)]; exact a3 o1
        have k : ∀ q, (q < rd + 1 ∨ rd + 6 ≤ q) → begM M2 (rd + 1) (nI (vlT c n (enT c n p))) q = M2 q := fun q hq => begM_o _ _ _ (by omega)
        rw [if_pos o2, if_pos o2, show (0 : Int32) = nI 0 from rfl, ck_nI (by omega) (by omega), cl_nI (by omega), v0, begin_ok, Option.bind_some]
        exact ⟨_, ⟨rfl, by rw [k _ (by omega)]; exact d2, _, beg_ring M2 (rd + 1) _ o1.2⟩, by rw [k _ (by omega)]; exact f2.1, fun q q1 q2 => by rw [k _ (by omega)]; exact f2.2 q q1 q2⟩
      · rw [if_neg o2, if_neg o2]
        exact ⟨M2, ⟨rfl, d1⟩, f2⟩
    · rw [if_neg o1, if_neg o1]
      exact ⟨M1, ⟨rfl, a1⟩, f1⟩
  · rw [if_neg w1, if_neg w1]
    exact ⟨M, ⟨rfl, hK.2.1⟩, rfl, fun _ _ _ => rfl⟩
end CIT
def rdF (c : Nat → Nat) (n : Nat) (R : Rg) (p i : Nat) : Nat → Int32 × Option Rg
  | 0 => (0, none)
  | f + 1 => if kdT c n p = 0 then (nI i, some R) else (match rItem c n R p with
    | .inl q => ((-10 : Int32) - nI q, none)
    | .inr r => rdF c n r.1 r.2 (i + 1) f)
def rAll (c : Nat → Nat) (n : Nat) : Int32 × Option Rg := match rRing c n 0 with
  | .inl q => ((-10 : Int32) - nI q, none)
  | .inr r => rdF c n r.1 r.2 1 300
