section CRD
variable {rd t n : Nat} {c : Nat → Nat}
theorem neg10 {q : Nat} (hq : q ≤ 250) : ((-10 : Int32) - nI q) < 0 := by
  have e : (-10 : Int32) - nI q = wI (-10 - (q : Int)) := by
    have e1 : (-10 : Int32) = wI (-10) := by decide
    rw [wI_n, e1, wI_sub]
  rw [e, Int32.lt_iff_toInt_lt]
  unfold wI
  rw [Int32.toInt_ofInt_of_le (by omega) (by omega)]
  have e0 : (0 : Int32).toInt = 0 := by decide
  omega
theorem smc_st {p : Nat} {R : Rg} {q : Nat} (hp : p ≤ n) (h : smc c n p R = .inl q) : q ≤ n := by
  unfold smc at h
  have := stT_le c hp
  split at h
  · cases h
  · have e := Sum.inl.inj h
    omega
theorem rItem_st {p : Nat} {R : Rg} {q : Nat} (hp : p ≤ n) (h : rItem c n R p = .inl q) : q ≤ n := by
  have s0 := stT_le c hp
  have p1 := (enT_le c hp).2.1
  have s1 := stT_le c p1
  have p2 := (enT_le c p1).2.1
  have s2 := stT_le c p2
  have p3 := (enT_le c p2).2.1
  have s3 := stT_le c p3
  have p4 := (enT_le c p3).2.1
  have s4 := stT_le c p4
  have p5 := (enT_le c p4).2.1
  unfold rItem at h
  split at h
  · unfold rStep at h
    split at h
    · split at h
      · exact smc_st p3 h
      · have e := Sum.inl.inj h; omega
    · have e := Sum.inl.inj h; omega
  · split at h
    · unfold rLump at h
      split at h
      · split at h
        · split at h
          · exact smc_st p4 h
          · have e := Sum.inl.inj h; omega
        · have e := Sum.inl.inj h; omega
      · have e := Sum.inl.inj h; omega
    · split at h
      · split at h
        · have e := Sum.inl.inj h; omega
        · unfold rMoon at h
          split at h
          · split at h
            · split at h
              · split at h
                · exact smc_st p5 h
                · have e := Sum.inl.inj h; omega
              · have e := Sum.inl.inj h; omega
            · have e := Sum.inl.inj h; omega
          · have e := Sum.inl.inj h; omega
      · have e := Sum.inl.inj h; omega
theorem rRing_st {q : Nat} (h : rRing c n 0 = .inl q) : q ≤ n := by
  have s0 := stT_le c (Nat.zero_le n)
  have p1 := (enT_le c (Nat.zero_le n)).2.1
  have s1 := stT_le c p1
  have p2 := (enT_le c p1).2.1
  unfold rRing at h
  split at h
  · split at h
    · exact smc_st p2 h
    · have e := Sum.inl.inj h; omega
  · have e := Sum.inl.inj h; omega
theorem rdF_sg (hn : n ≤ 250) : ∀ (f p i : Nat) (R : Rg), n < p + f → p ≤ n → i + f ≤ 1000 → DOk R p → ((rdF c n R p i f).2 = none ∧ (rdF c n R p i f).1 < 0) ∨ ∃ R', (rdF c n R p i f).2 = some R' ∧ ¬ (rdF c n R p i f).1 < 0 ∧ DOk R' n := by
  intro f
  induction f with
  | zero => intro p i R h1 h2; omega
  | succ f ih =>
    intro p i R h1 h2 h3 hD
    rw [rdF]
    by_cases hk : kdT c n p = 0
    · rw [if_pos hk]
      exact Or.inr ⟨R, rfl, nI_pos (by omega), hD.up h2⟩
    · rw [if_neg hk]
      cases ho : rItem c n R p with
      | inl q =>
        have := rItem_st h2 ho
        exact Or.inl ⟨rfl, neg10 (by omega)⟩
      | inr r =>
        obtain ⟨d1, d2, d3⟩ := rItem_in h2 ho hD
        exact ih r.2 (i + 1) r.1 (by omega) d3 (by omega) d1
theorem cL41 (ht : t + 1 < rd) : ∀ (f p i fuel : Nat) (R : Rg) (M : Mm), n < p + f → f < fuel → p ≤ n → i ≤ p → TX M t n c → TK M t n c p → (∃ tu, CRing M (rd + 1) tu R) → DOk R p → ∃ M', f_X4_readAll_L41 rd t fuel (nI i) M = some ((rdF c n R p i f).1, M') ∧ (∀ R', (rdF c n R p i f).2 = some R' → ∃ tu, CRing M' (rd + 1) tu R') ∧ cFr rd t M M' := by
  intro f
  induction f with
  | zero => intro p i fuel R M h1 h2 h3; omega
  | succ f ih =>
    intro p i fuel R M h1 hf h2 hi hT hK hC hD
    obtain ⟨fuel, rfl⟩ : ∃ m, fuel = m + 1 := ⟨fuel - 1, by omega⟩
    have hn := hT.1
    have hk4 := kdT_le c n p
    rw [f_X4_readAll_L41, nlit 250, ifle (by omega) (by omega), hK.1, show (0 : Int32) = nI 0 from rfl, ifeq (by omega) (by omega), rdF]
    by_cases hk : kdT c n p = 0
    · refine ⟨M, ?_, fun R' hR => ?_, rfl, fun _ _ _ => rfl⟩
      · rw [if_pos hk, if_pos hk]
        split <;> rfl
      · rw [if_pos hk] at hR
        have e := Option.some.inj hR
        rw [← e]
        exact hC
    · have hs : stT c n p < enT c n p := (enT_le c h2).2.2 hk
      have h3 := stT_le c h2
      have h4 := (enT_le c h2).2.1
      obtain ⟨tu, hC⟩ := hC
      obtain ⟨M1, o1, fr1⟩ := crItem hT hK h2 ht hC hD.1 hD.2.1
      rw [if_neg (show ¬ 250 ≤ i by omega), if_neg hk, if_neg hk]
      cases ho : rItem c n R p with
      | inl q =>
        rw [ho] at o1
        obtain ⟨e1, e2⟩ := o1
        refine ⟨M1, ?_, fun R' hR => (by cases hR), fr1⟩
        rw [e1, bd2_some, if_pos (show (0 : Int32) = nI 0 from rfl), e2]
      | inr r =>
        rw [ho] at o1
        obtain ⟨e1, e2, e3⟩ := o1
        obtain ⟨d1, d2, d3⟩ := rItem_in h2 ho hD
        have hT1 := fr1.tx ht hT
        obtain ⟨M2, e4, a1, a2, a3⟩ := ntok hT1 e2 d3
        obtain ⟨tu3, e3⟩ := e3
        obtain ⟨M3, e5, b1, b2⟩ := ih r.2 (i + 1) fuel r.1 M2 (by omega) (by omega) d3 (by omega) (hT1.mono a2 (a3 _ (by omega))) a1 ⟨tu3, e3.mono (fun q q1 q2 => a3 q (by omega))⟩ d1
        refine ⟨M3, ?_, b1, fr1.trans (cFr.trans ⟨a2, fun q q1 q2 => a3 q q1⟩ b2)⟩
        rw [e1, bd2_some, if_neg (show ¬ (1 : Int32) = nI 0 by decide), bnd_e, nI_1, e4, Option.bind_some]
        exact e5
theorem cAll {M : Mm} (ht : t + 1 < rd) (hT : TX M t n c) : ∃ M', f_X4_readAll rd t M = some ((rAll c n).1, M') ∧ (∀ R', (rAll c n).2 = some R' → ∃ tu, CRing M' (rd + 1) tu R') ∧ cFr rd t M M' := by
  have hn := hT.1
  generalize hM3 : up2 (up2 (up2 M t 2 0) t 3 0) t 4 (nI 0) = M3
  have f3 : cFr rd t M M3 := ⟨by rw [← hM3, up2_at, if_neg (by omega), up2_at, if_neg (by omega), up2_at, if_neg (by omega)], fun q q1 q2 => by rw [← hM3, up2_o _ _ _ q1, up2_o _ _ _ q1, up2_o _ _ _ q1]⟩
  have hT3 := f3.tx ht hT
  obtain ⟨M6, e6, a1, a2, a3⟩ := ntok (p := 0) hT3 (by rw [← hM3, up2_at, if_pos ⟨rfl, rfl⟩]) (Nat.zero_le n)
  have f6 : cFr rd t M M6 := f3.trans ⟨a2, fun q q1 q2 => a3 q q1⟩
  obtain ⟨M9, o9, f9⟩ := crRing (rd := rd) (f6.tx ht hT) a1 (Nat.zero_le n) ht
  have er : f_X9_rewind t M = some M3 := by
    unfold f_X9_rewind
    rw [bnd_e, bnd_e, bnd_e, ← hM3]
    rfl
  unfold f_X4_readAll rAll
  rw [er, Option.bind_some, e6, Option.bind_some]
  cases ho : rRing c n 0 with
  | inl q =>
    rw [ho] at o9
    obtain ⟨e1, e2⟩ := o9
    refine ⟨M9, ?_, fun R' hR => (by cases hR), f6.trans f9⟩
    rw [e1, bd2_some, if_pos rfl, e2]
  | inr r =>
    rw [ho] at o9
    obtain ⟨e1, e2, tu3, e3⟩ := o9
    obtain ⟨d1, d2, d3⟩ := rRing_in ho
    have f69 := f6.trans f9
    have hT9 := f69.tx ht hT
    obtain ⟨M10, e10, b1, b2, b3⟩ := ntok hT9 e2 d3
    obtain ⟨M11, e11, g1, g2⟩ := cL41 (rd := rd) ht 300 r.2 1 2000 r.1 M10 (by omega) (by omega) d3 (by omega) (hT9.mono b2 (b3 _ (by omega))) b1 ⟨tu3, e3.mono (fun q q1 q2 => b3 q (by omega))⟩ d1
    refine ⟨M11, ?_, g1, f69.trans (cFr.trans ⟨b2, fun q q1 q2 => b3 q q1⟩ g2)⟩
    rw [e1, bd2_some, if_neg (by decide), e10, Option.bind_some]
    exact e11
theorem rAll_sg (hn : n ≤ 250) : ((rAll c n).2 = none ∧ (rAll c n).1 < 0) ∨ ∃ R', (rAll c n).2 = some R' ∧ ¬ (rAll c n).1 < 0 ∧ DOk R' n := by
  unfold rAll
  cases ho : rRing c n 0 with
  | inl q =>
    have := rRing_st ho
    exact Or.inl ⟨rfl, neg10 (by omega)⟩
  | inr r =>
    obtain ⟨d1, d2, d3⟩ := rRing_in ho
    exact rdF_sg hn 300 r.2 1 r.1 (by omega) d3 (by omega) d1
end CRD
/-! the reference's items -/
theorem MRing.setStep {M : Mm} {b l v : Nat} {R : Rg} (h : MRing M b 0 R) (hl : l < 5) (h4 : R 0 1 ≤ 4) : MRing (up2 M b (1 + l) (nI v)) b 0 (updR R 1 l v) := by
  obtain ⟨b1, b2, b3, b4, b5, b6, b7⟩ := h
  have e0 : ∀ b j, b ≠ 1 → updR R 1 l v b j = R b j := fun b j hb => by rw [updR_at, if_neg (by omega)]
  refine ⟨?_, fun l' hl' => ⟨?_, ?_⟩, fun l' p hl' hp => ?_, ?_, fun j w hj hw => ?_, ?_, ?_⟩
  · rw [up2_at, if_neg (by omega), e0 _ _ (by omega)]; exact b1
  · rw [up2_at, updR_at]
    by_cases e : l' = l
    · rw [if_pos (by omega), if_pos (by omega)]
    · rw [if_neg (by omega), if_neg (by omega)]; exact (b2 l' hl').1
  · rw [up2_at, if_neg (by omega), e0 _ _ (by omega)]; exact (b2 l' hl').2
  · rw [up2_at, if_neg (by omega), e0 0 0 (by omega), e0 (10 + l') p (by omega)]; exact b3 l' p hl' hp
  · rw [up2_at, if_neg (by omega), e0 _ _ (by omega)]; exact b4
  · rw [e0 _ _ (by omega)] at hj
    rw [up2_at, if_neg (by omega), e0 _ _ (by omega)]; exact b5 j w hj hw
  · rw [up2_at, if_neg (by omega), e0 _ _ (by omega)]; exact b6
  · rw [up2_at, if_neg (by omega), e0 _ _ (by omega)]; exact b7
theorem MRing.setLum {M : Mm} {b l p v : Nat} {R : Rg} (h : MRing M b 0 R) (hl : l < 5) (hp : p < R 0 0) (hP : R 0 0 ≤ 24) (h4 : R 0 1 ≤ 4) : MRing (up2 M b (6 + 24 * l + p) (nI v)) b 0 (updR R (10 + l) p v) := by
  obtain ⟨b1, b2, b3, b4, b5, b6, b7⟩ := h
  have e0 : ∀ b j, b < 10 → updR R (10 + l) p v b j = R b j := fun b j hb => by rw [updR_at, if_neg (by omega)]
  refine ⟨?_, fun l' hl' => ⟨?_, ?_⟩, fun l' p' hl' hp' => ?_, ?_, fun j w hj hw => ?_, ?_, ?_⟩
  · rw [up2_at, if_neg (by omega), e0 _ _ (by omega)]; exact b1
  · rw [up2_at, if_neg (by omega), e0 _ _ (by omega)]; exact (b2 l' hl').1
  · rw [up2_at, if_neg (by omega), e0 _ _ (by omega)]; exact (b2 l' hl').2
  · rw [up2_at, e0 _ _ (by omega)]
    by_cases e : l' = l ∧ p' = p
    · obtain ⟨rfl, rfl⟩ := e
      rw [if_pos (by omega), if_pos (by omega), updR_at, if_pos (by omega)]
    · have e1 : updR R (10 + l) p v (10 + l') p' = R (10 + l') p' := by rw [updR_at, if_neg (by omega)]
      rw [if_neg (by omega), b3 l' p' hl' hp', e1]
  · rw [up2_at, if_neg (by omega), e0 _ _ (by omega)]; exact b4
  · rw [e0 _ _ (by omega)] at hj
    rw [up2_at, if_neg (by omega), e0 _ _ (by omega)]; exact b5 j w hj hw
  · rw [up2_at, if_neg (by omega), e0 _ _ (by omega)]; exact b6
  · rw [up2_at, if_neg (by omega), e0 _ _ (by omega)]; exact b7
section MIT
variable {y n : Nat} {c : Nat → Nat}
def mFr (y : Nat) (M M' : Mm) : Prop := M' y 18 = M y 18 ∧ ∀ q, q ≠ y → q ≠ y + 12 → q ≠ y + 13 → M' q = M q
theorem mFr.trans {M M' M'' : Mm} (h : mFr y M M') (h' : mFr y M' M'') : mFr y M M'' := ⟨h'.1.trans h.1, fun q q1 q2 q3 => (h'.2 q q1 q2 q3).trans (h.2 q q1 q2 q3)⟩
theorem mFr.ty {M M' : Mm} (h : mFr y M M') (hT : TY M y n c) : TY M' y n c := hT.mono h.1 (h.2 _ (by omega) (by omega) (by omega))
theorem mtk_no {M : Mm} {p lo hi : Nat} (i : Int32) (hK : TKY M y n c p) (hlo : lo < 1000) (hhi : hi < 1000) (h : ¬ okN c n p lo hi) : f_X12_takes y i (nI lo) (nI hi) M = some ((0 : Int32), M) := by
  have hk := kdT_le c n p
  unfold f_X12_takes
  rw [hK.2.2.1, nlit 2, ifeq (by omega) (by omega)]
  by_cases h2 : kdT c n p = 2
  · have hv := vlT_lt c h2
    rw [if_pos h2, hK.2.2.2 h2, in_ok, Option.bind_some, ite_b01, if_neg]
    rw [nI_leI (by omega) (by omega), nI_leI (by omega) (by omega)]
    exact fun q => h ⟨h2, q⟩
  · rw [if_neg h2]
theorem mtk {M : Mm} {p i lo hi : Nat} (hT : TY M y n c) (hK : TKY M y n c p) (hp : p ≤ n) (hi4 : i < 4) (hlo : lo < 1000) (hhi : hi < 1000) (h : okN c n p lo hi) : ∃ M', f_X12_takes y (nI i) (nI lo) (nI hi) M = some ((1 : Int32), M') ∧ TKY M' y n c (enT c n p) ∧ M' (y + 13) i = nI (vlT c n p) ∧ (∀ j, j ≠ i → M' (y + 13) j = M (y + 13) j) ∧ M' y 18 = M y 18 ∧ ∀ q, q ≠ y → q ≠ y + 13 → M' q = M q := by
  have hv := vlT_lt c h.1
  have k1 : ∀ q, q ≠ y + 13 → up2 M (y + 13) i (nI (vlT c n p)) q = M q := fun q hq => up2_o _ _ _ hq
  obtain ⟨M1, e1, a1, a2, a3⟩ := mgoOn_ok (M := up2 M (y + 13) i (nI (vlT c n p))) (hT.mono (by rw [k1 _ (by omega)]) (k1 _ (by omega))) ⟨by rw [k1 _ (by omega)]; exact hK.1, by rw [k1 _ (by omega)]; exact hK.2.1, by rw [k1 _ (by omega)]; exact hK.2.2.1, by rw [k1 _ (by omega)]; exact hK.2.2.2⟩ hp
  refine ⟨M1, ?_, a1, ?_, fun j hj => ?_, ?_, fun q q1 q2 => by rw [a3 q q1, k1 q q2]⟩
  · unfold f_X12_takes
    rw [hK.2.2.1, h.1, if_pos (show nI 2 = (2 : Int32) from rfl), hK.2.2.2 h.1, in_ok, Option.bind_some, ite_b01, if_pos, ck_nI hi4 (by omega), bnd_e, cl_nI (by omega), e1, Option.bind_some]
    rw [nI_leI (by omega) (by omega), nI_leI (by omega) (by omega)]
    exact h.2
  · rw [a3 _ (by omega), up2_at, if_pos ⟨rfl, rfl⟩]
  · rw [a3 _ (by omega), up2_at, if_neg (by omega)]
  · rw [a2 _ (by omega) (by omega) (by omega) (by omega), k1 _ (by omega)]
def mOut (y n : Nat) (c : Nat → Nat) (M' : Mm) (f : Option (Int32 × Mm)) : RdO → Prop
  | .inl q => (f = some ((0 : Int32), M') ∨ (f = some ((1 : Int32), M') ∧ ¬ M' y 21 = (3 : Int32))) ∧ M' y 19 = nI q
  | .inr r => f = some ((1 : Int32), M') ∧ M' y 21 = (3 : Int32) ∧ (∃ pp, pp ≤ n ∧ TKY M' y n c pp ∧ enT c n pp = r.2) ∧ MRing M' (y + 12) 0 r.1 ∧ M' (y + 12) 150 = nI 0 ∧ ∃ v, v ≤ 24 ∧ M' (y + 13) 0 = nI v
/-- the end of an item: its effect has been laid, the current token decides -/
theorem mOut.fin {M' : Mm} {f : Option (Int32 × Mm)} {p : Nat} {R : Rg} (hf : f = some ((1 : Int32), M')) (hK : TKY M' y n c p) (hp : p ≤ n) (hM : MRing M' (y + 12) 0 R) (h150 : M' (y + 12) 150 = nI 0) (hv : ∃ v, v ≤ 24 ∧ M' (y + 13) 0 = nI v) : mOut y n c M' f (smc c n p R) := by
  have hk := kdT_le c n p
  unfold smc
  by_cases h : kdT c n p = 3
  · rw [if_pos h]
    exact ⟨hf, by rw [hK.2.2.1, h]; rfl, ⟨p, hp, hK, rfl⟩, hM, h150, hv⟩
  · rw [if_neg h]
    refine ⟨Or.inr ⟨hf, fun q => h ?_⟩, hK.1⟩
    rw [hK.2.2.1, nlit 3] at q
    exact (nI_eq (by omega) (by omega)).mp q
theorem mrStep {M : Mm} {p : Nat} {R : Rg} (hT : TY M y n c) (hK : TKY M y n c p) (hp : p ≤ n) (hM : MRing M (y + 12) 0 R) (h4 : R 0 1 ≤ 4) (h150 : M (y + 12) 150 = nI 0) (hv : ∃ v, v ≤ 24 ∧ M (y + 13) 0 = nI v) : ∃ M', mOut y n c M' (bd2 (f_X12_takes y (0 : Int32) (0 : Int32) (4 : Int32) M) fun r73 M75 => if r73 = 0 then f_X12_readsItem_J45 y M75 else bd2 (f_X12_takes y (1 : Int32) (0 : Int32) (9 : Int32) M75) fun r83 M85 => if r83 = 0 then f_X12_readsItem_J45 y M85 else f_X12_readsItem_J46 y (1 : Int32) M85) (rStep c n R p) ∧ mFr y M M' := by
  have c0 : (0 : Int32).toNatClampNeg = 0 := by decide
  have c1 : (1 : Int32).toNatClampNeg = 1 := by decide
  have fail : ∀ (M1 : Mm) (v : Nat), v ≤ 24 → M1 (y + 13) 0 = nI v → f_X12_readsItem_J45 y M1 = some ((0 : Int32), up2 M1 (y + 12) (1 + v) 0) := fun M1 v hv he => by
    unfold f_X12_readsItem_J45 f_X12_readsItem_J46 f_X12_readsItem_J73
    rw [show ck (0 : Int32) 4 = ck (nI 0) 4 from rfl, ck_nI (by omega) (by omega), if_pos rfl, c0, he, show (1 : Int32) = nI 1 from rfl, nI_add, ck_nI (by omega) (by omega), bnd_e, cl_nI (by omega)]
    rfl
  unfold rStep
  by_cases o1 : okN c n p 0 4
  · obtain ⟨M1, e1, a1, a2, a3, a4, a5⟩ := mtk (i := 0) (lo := 0) (hi := 4) hT hK hp (by omega) (by omega) (by omega) o1
    obtain ⟨-, p1⟩ := okN_en hp o1
    have e1' : f_X12_takes y (0 : Int32) (0 : Int32) (4 : Int32) M = some ((1 : Int32), M1) := e1
    have f1 : mFr y M M1 := ⟨a4, fun q q1 q2 q3 => a5 q q1 q3⟩
    have hv0 := o1.2.2
    rw [e1', bd2_some, if_neg (by decide), if_pos o1]
    by_cases o2 : okN c n (enT c n p) 0 9
    · obtain ⟨M2, e2, b1, b2, b3, b4, b5⟩ := mtk (i := 1) (lo := 0) (hi := 9) (f1.ty hT) a1 p1 (by omega) (by omega) (by omega) o2
      obtain ⟨-, p2⟩ := okN_en p1 o2
      have e2' : f_X12_takes y (1 : Int32) (0 : Int32) (9 : Int32) M1 = some ((1 : Int32), M2) := e2
      have f2 : mFr y M M2 := f1.trans ⟨b4, fun q q1 q2 q3 => b5 q q1 q3⟩
      have v0 : M2 (y + 13) 0 = nI (vlT c n p) := by rw [b3 0 (by omega)]; exact a2
      have v1 : M2 (y + 13) 1 = nI (vlT c n (enT c n p)) := b2
      rw [e2', bd2_some, if_neg (by decide), if_pos o2]
      have e3 : f_X12_readsItem_J46 y (1 : Int32) M2 = some ((1 : Int32), up2 M2 (y + 12) (1 + vlT c n p) (nI (vlT c n (enT c n p)))) := by
        unfold f_X12_readsItem_J46 f_X12_readsItem_J73
        rw [show ck (0 : Int32) 4 = ck (nI 0) 4 from rfl, ck_nI (by omega) (by omega), if_neg (by decide), show ck (1 : Int32) 4 = ck (nI 1) 4 from rfl, ck_nI (by omega) (by omega), c0, c1, v0, v1, show (1 : Int32) + nI (vlT c n p) = nI (1 + vlT c n p) from nI_add 1 _, ck_nI (by omega) (by omega), bnd_e, cl_nI (by omega)]
        rfl
      have k3 : ∀ q, q ≠ y + 12 → up2 M2 (y + 12) (1 + vlT c n p) (nI (vlT c n (enT c n p))) q = M2 q := fun q hq => up2_o _ _ _ hq
      have hM2 : MRing M2 (y + 12) 0 R := by
        unfold MRing MLum at hM ⊢
        rw [b5 _ (by omega) (by omega), a5 _ (by omega) (by omega)]
        exact hM
      refine ⟨_, mOut.fin e3 ⟨by rw [k3 _ (by omega)]; exact b1.1, by rw [k3 _ (by omega)]; exact b1.2.1, by rw [k3 _ (by omega)]; exact b1.2.2.1, by rw [k3 _ (by omega)]; exact b1.2.2.2⟩ p2 (hM2.setStep (by omega) h4) (by rw [up2_at, if_neg (by omega), b5 _ (by omega) (by omega), a5 _ (by omega) (by omega)]; exact h150) ⟨vlT c n p, by omega, by rw [k3 _ (by omega)]; exact v0⟩, by rw [k3 _ (by omega)]; exact f2.1, fun q q1 q2 q3 => by rw [k3 _ q2]; exact f2.2 q q1 q2 q3⟩
    · have e2' : f_X12_takes y (1 : Int32) (0 : Int32) (9 : Int32) M1 = some ((0 : Int32), M1) := mtk_no (lo := 0) (hi := 9) _ a1 (by omega) (by omega) o2
      rw [e2', bd2_some, if_pos rfl, if_neg o2]
      refine ⟨_, ⟨Or.inl (fail M1 (vlT c n p) (by omega) a2), by rw [up2_o _ _ _ (by omega)]; exact a1.1⟩, by rw [up2_o _ _ _ (by omega)]; exact f1.1, fun q q1 q2 q3 => by rw [up2_o _ _ _ q2]; exact f1.2 q q1 q2 q3⟩
  · obtain ⟨v, hv1, hv2⟩ := hv
    have e1' : f_X12_takes y (0 : Int32) (0 : Int32) (4 : Int32) M = some ((0 : Int32), M) := mtk_no (lo := 0) (hi := 4) _ hK (by omega) (by omega) o1
    rw [e1', bd2_some, if_pos rfl, if_neg o1]
    exact ⟨_, ⟨Or.inl (fail M v hv1 hv2), by rw [up2_o _ _ _ (by omega)]; exact hK.1⟩, by rw [up2_o _ _ _ (by omega)], fun q q1 q2 q3 => up2_o _ _ _ q2⟩
theorem mlast {M : Mm} {P : Nat} (h : M (y + 12) 0 = nI P) (hP : 1 ≤ P) : f_X12_lastPlace y M = some (nI (P - 1)) := by
  have c0 : (0 : Int32).toNatClampNeg = 0 := by decide
  unfold f_X12_lastPlace
  rw [show ck (0 : Int32) 151 = ck (nI 0) 151 from rfl, ck_nI (by omega) (by omega), c0, h, show (1 : Int32) = nI 1 from rfl, pk_sub hP]
theorem mrLump {M : Mm} {p : Nat} {R : Rg} (hT : TY M y n c) (hK : TKY M y n c p) (hp : p ≤ n) (hM : MRing M (y + 12) 0 R) (hP : 4 ≤ R 0 0 ∧ R 0 0 ≤ 24) (h4 : R 0 1 ≤ 4) (h150 : M (y + 12) 150 = nI 0) (hv : ∃ v, v ≤ 24 ∧ M (y + 13) 0 = nI v) : ∃ M', mOut y n c M' (bd2 (f_X12_takes y (0 : Int32) (0 : Int32) (4 : Int32) M) fun r47 M49 => if r47 = 0 then f_X12_readsItem_J136 y M49 else Option.bind (f_X12_lastPlace y M49) fun r59 => bd2 (f_X12_takes y (1 : Int32) (0 : Int32) r59 M49) fun r62 M64 => if r62 = 0 then f_X12_readsItem_J136 y M64 else bd2 (f_X12_takes y (2 : Int32) (0 : Int32) (999 : Int32) M64) fun r66 M68 => if r66 = 0 then f_X12_readsItem_J136 y M68 else f_X12_readsItem_J137 y (1 : Int32) M68) (rLump c n R p) ∧ mFr y M M' := by
  have c0 : (0 : Int32).toNatClampNeg = 0 := by decide
  have c1 : (1 : Int32).toNatClampNeg = 1 := by decide
  have c2 : (2 : Int32).toNatClampNeg = 2 := by decide
  have fail : ∀ M1 : Mm, f_X12_readsItem_J136 y M1 = some ((0 : Int32), M1) := fun M1 => by
    unfold f_X12_readsItem_J136 f_X12_readsItem_J137
    rw [if_pos rfl]
    rfl
  unfold rLump
  by_cases o1 : okN c n p 0 4
  · obtain ⟨M1, e1, a1, a2, a3, a4, a5⟩ := mtk (i := 0) (lo := 0) (hi := 4) hT hK hp (by omega) (by omega) (by omega) o1
    obtain ⟨-, p1⟩ := okN_en hp o1
    have e1' : f_X12_takes y (0 : Int32) (0 : Int32) (4 : Int32) M = some ((1 : Int32), M1) := e1
    have f1 : mFr y M M1 := ⟨a4, fun q q1 q2 q3 => a5 q q1 q3⟩
    have hv0 := o1.2.2
    have hl1 := mlast (y := y) (M := M1) (P := R 0 0) (by rw [a5 _ (by omega) (by omega)]; exact hM.1) (by omega)
    rw [e1', bd2_some, if_neg (by decide), if_pos o1, hl1, Option.bind_some]
    by_cases o2 : okN c n (enT c n p) 0 (R 0 0 - 1)
    · obtain ⟨M2, e2, b1, b2, b3, b4, b5⟩ := mtk (i := 1) (lo := 0) (hi := R 0 0 - 1) (f1.ty hT) a1 p1 (by omega) (by omega) (by omega) o2
      obtain ⟨-, p2⟩ := okN_en p1 o2
      have e2' : f_X12_takes y (1 : Int32) (0 : Int32) (nI (R 0 0 - 1)) M1 = some ((1 : Int32), M2) := e2
      have f2 : mFr y M M2 := f1.trans ⟨b4, fun q q1 q2 q3 => b5 q q1 q3⟩
      have hv1 := o2.2.2
      rw [e2', bd2_some, if_neg (by decide), if_pos o2]
      by_cases o3 : okN c n (enT c n (enT c n p)) 0 999
      · obtain ⟨M3, e3, d1, d2, d3, d4, d5⟩ := mtk (i := 2) (lo := 0) (hi := 999) (f2.ty hT) b1 p2 (by omega) (by omega) (by omega) o3
        obtain ⟨-, p3⟩ := okN_en p2 o3
        have e3' : f_X12_takes y (2 : Int32) (0 : Int32) (999 : Int32) M2 = some ((1 : Int32), M3) := e3
        have f3 : mFr y M M3 := f2.trans ⟨d4, fun q q1 q2 q3 => d5 q q1 q3⟩
        have v0 : M3 (y + 13) 0 = nI (vlT c n p) := by rw [d3 0 (by omega), b3 0 (by omega)]; exact a2
        have v1 : M3 (y + 13) 1 = nI (vlT c n (enT c n p)) := by rw [d3 1 (by omega)]; exact b2
        have v2 : M3 (y + 13) 2 = nI (vlT c n (enT c n (enT c n p))) := d2
        rw [e3', bd2_some, if_neg (by decide), if_pos o3]
        have e4 : f_X12_readsItem_J137 y (1 : Int32) M3 = some ((1 : Int32), up2 M3 (y + 12) (6 + 24 * vlT c n p + vlT c n (enT c n p)) (nI (vlT c n (enT c n (enT c n p))))) := by
          unfold f_X12_readsItem_J137
          rw [if_neg (by decide), show ck (0 : Int32) 4 = ck (nI 0) 4 from rfl, ck_nI (by omega) (by omega), show ck (1 : Int32) 4 = ck (nI 1) 4 from rfl, ck_nI (by omega) (by omega), show ck (2 : Int32) 4 = ck (nI 2) 4 from rfl, ck_nI (by omega) (by omega), c0, c1, c2, v0, v1, v2, nlit 6, nlit 24, pk_mul, nI_add, nI_add, ck_nI (by omega) (by omega), bnd_e, cl_nI (by omega)]
          rfl
        have k4 : ∀ q, q ≠ y + 12 → up2 M3 (y + 12) (6 + 24 * vlT c n p + vlT c n (enT c n p)) (nI (vlT c n (enT c n (enT c n p)))) q = M3 q := fun q hq => up2_o _ _ _ hq
        have hM3 : MRing M3 (y + 12) 0 R := by
          unfold MRing MLum at hM ⊢
          rw [d5 _ (by omega) (by omega), b5 _ (by omega) (by omega), a5 _ (by omega) (by omega)]
          exact hM
        refine ⟨_, mOut.fin e4 ⟨by rw [k4 _ (by omega)]; exact d1.1, by rw [k4 _ (by omega)]; exact d1.2.1, by rw [k4 _ (by omega)]; exact d1.2.2.1, by rw [k4 _ (by omega)]; exact d1.2.2.2⟩ p3 (hM3.setLum (by omega) (by omega) hP.2 h4) (by rw [up2_at, if_neg (by omega), d5 _ (by omega) (by omega), b5 _ (by omega) (by omega), a5 _ (by omega) (by omega)]; exact h150) ⟨vlT c n p, by omega, by rw [k4 _ (by omega)]; exact v0⟩, by rw [k4 _ (by omega)]; exact f3.1, fun q q1 q2 q3 => by rw [k4 _ q2]; exact f3.2 q q1 q2 q3⟩
      · have e3' : f_X12_takes y (2 : Int32) (0 : Int32) (999 : Int32) M2 = some ((0 : Int32), M2) := mtk_no (lo := 0) (hi := 999) _ b1 (by omega) (by omega) o3
        rw [e3', bd2_some, if_pos rfl, if_neg o3]
        exact ⟨M2, ⟨Or.inl (fail M2), b1.1⟩, f2⟩
    · have e2' : f_X12_takes y (1 : Int32) (0 : Int32) (nI (R 0 0 - 1)) M1 = some ((0 : Int32), M1) := mtk_no (lo := 0) (hi := R 0 0 - 1) _ a1 (by omega) (by omega) o2
      rw [e2', bd2_some, if_pos rfl, if_neg o2]
      exact ⟨M1, ⟨Or.inl (fail M1), a1.1⟩, f1⟩
  · have e1' : f_X12_takes y (0 : Int32) (0 : Int32) (4 : Int32) M = some ((0 : Int32), M) := mtk_no (lo := 0) (hi := 4) _ hK (by omega) (by omega) o1
    rw [e1', bd2_some, if_pos rfl, if_neg o1]
    exact ⟨M, ⟨Or.inl (fail M), hK.1⟩, rfl, fun _ _ _ _ => rfl⟩
theorem mrMoon {M : Mm} {p : Nat} {R : Rg} (hT : TY M y n c) (hK : TKY M y n c p) (hp : p ≤ n) (hM : MRing M (y + 12) 0 R) (hP : 4 ≤ R 0 0 ∧ R 0 0 ≤ 24) (h4 : R 0 1 < 4) (h150 : M (y + 12) 150 = nI 0) : ∃ M', mOut y n c M' (bd2 (f_X12_takes y (0 : Int32) (0 : Int32) (4 : Int32) M) fun r18 M20 => if r18 = 0 then some ((0 : Int32), M20) else bd2 (f_X12_takes y (1 : Int32) (0 : Int32) (5 : Int32) M20) fun r22 M24 => if r22 = 0 then some ((0 : Int32), M24) else Option.bind (f_X12_lastPlace y M24) fun r26 => bd2 (f_X12_takes y (2 : Int32) (0 : Int32) r26 M24) fun r29 M31 => if r29 = 0 then some ((0 : Int32), M31) else bd2 (f_X12_takes y (3 : Int32) (0 : Int32) (9 : Int32) M31) fun r33 M35 => if r33 = 0 then some ((0 : Int32), M35) else ck (0 : Int32) 4 <| ck (1 : Int32) 4 <| ck (2 : Int32) 4 <| ck (3 : Int32) 4 <| Option.bind (f_X12_layMoon (y + 12) 151 (M35 (y + 13) (0 : Int32).toNatClampNeg) (M35 (y + 13) (1 : Int32).toNatClampNeg) (M35 (y + 13) (2 : Int32).toNatClampNeg) (M35 (y + 13) (3 : Int32).toNatClampNeg) M35) fun M43 => some ((1 : Int32), M43)) (rMoon c n R p) ∧ mFr y M M' := by
  have c0 : (0 : Int32).toNatClampNeg = 0 := by decide
  have c1 : (1 : Int32).toNatClampNeg = 1 := by decide
  have c2 : (2 : Int32).toNatClampNeg = 2 := by decide
  have c3 : (3 : Int32).toNatClampNeg = 3 := by decide
  unfold rMoon
  by_cases o1 : okN c n p 0 4
  · obtain ⟨M1, e1, a1, a2, a3, a4, a5⟩ := mtk (i := 0) (lo := 0) (hi := 4) hT hK hp (by omega) (by omega) (by omega) o1
    obtain ⟨-, p1⟩ := okN_en hp o1
    have e1' : f_X12_takes y (0 : Int32) (0 : Int32) (4 : Int32) M = some ((1 : Int32), M1) := e1
    have f1 : mFr y M M1 := ⟨a4, fun q q1 q2 q3 => a5 q q1 q3⟩
    rw [e1', bd2_some, if_neg (by decide), if_pos o1]
    by_cases o2 : okN c n (enT c n p) 0 5
    · obtain ⟨M2, e2, b1, b2, b3, b4, b5⟩ := mtk (i := 1) (lo := 0) (hi := 5) (f1.ty hT) a1 p1 (by omega) (by omega) (by omega) o2
      obtain ⟨-, p2⟩ := okN_en p1 o2
      have e2' : f_X12_takes y (1 : Int32) (0 : Int32) (5 : Int32) M1 = some ((1 : Int32), M2) := e2
      have f2 : mFr y M M2 := f1.trans ⟨b4, fun q q1 q2 q3 => b5 q q1 q3⟩
      have hl2 := mlast (y := y) (M := M2) (P := R 0 0) (by rw [b5 _ (by omega) (by omega), a5 _ (by omega) (by omega)]; exact hM.1) (by omega)
      rw [e2', bd2_some, if_neg (by decide), if_pos o2, hl2, Option.bind_some]
      by_cases o3 : okN c n (enT c n (enT c n p)) 0 (R 0 0 - 1)
      · obtain ⟨M3, e3, d1, d2, d3, d4, d5⟩ := mtk (i := 2) (lo := 0) (hi := R 0 0 - 1) (f2.ty hT) b1 p2 (by omega) (by omega) (by omega) o3
        obtain ⟨-, p3⟩ := okN_en p2 o3
        have e3' : f_X12_takes y (2 : Int32) (0 : Int32) (nI (R 0 0 - 1)) M2 = some ((1 : Int32), M3) := e3
        have f3 : mFr y M M3 := f2.trans ⟨d4, fun q q1 q2 q3 => d5 q q1 q3⟩
        rw [e3', bd2_some, if_neg (by decide), if_pos o3]
        by_cases o4 : okN c n (enT c n (enT c n (enT c n p))) 0 9
        · obtain ⟨M4, e4, g1, g2, g3, g4, g5⟩ := mtk (i := 3) (lo := 0) (hi := 9) (f3.ty hT) d1 p3 (by omega) (by omega) (by omega) o4
          obtain ⟨-, p4⟩ := okN_en p3 o4
          have e4' : f_X12_takes y (3 : Int32) (0 : Int32) (9 : Int32) M3 = some ((1 : Int32), M4) := e4
          have f4 : mFr y M M4 := f3.trans ⟨g4, fun q q1 q2 q3 => g5 q q1 q3⟩
          have v0 : M4 (y + 13) 0 = nI (vlT c n p) := by rw [g3 0 (by omega), d3 0 (by omega), b3 0 (by omega)]; exact a2
          have v1 : M4 (y + 13) 1 = nI (vlT c n (enT c n p)) := by rw [g3 1 (by omega), d3 1 (by omega)]; exact b2
          have v2 : M4 (y + 13) 2 = nI (vlT c n (enT c n (enT c n p))) := by rw [g3 2 (by omega)]; exact d2
          have v3 : M4 (y + 13) 3 = nI (vlT c n (enT c n (enT c n (enT c n p)))) := g2
          have hv0 := o1.2.2
          have hM4 : MRing M4 (y + 12) 0 R := by
            unfold MRing MLum at hM ⊢
            rw [g5 _ (by omega) (by omega), d5 _ (by omega) (by omega), b5 _ (by omega) (by omega), a5 _ (by omega) (by omega)]
            exact hM
          have l5 := layMoon_ok (b := y + 12) (nn := 151) (M := M4) (m := R 0 1) (nI (vlT c n p)) (nI (vlT c n (enT c n p))) (nI (vlT c n (enT c n (enT c n p)))) (nI (vlT c n (enT c n (enT c n (enT c n p))))) hM4.2.2.2.1 h4 (by omega) (by omega)
          have k5 : ∀ q, q ≠ y + 12 → layM M4 (y + 12) (R 0 1) (nI (vlT c n p)) (nI (vlT c n (enT c n p))) (nI (vlT c n (enT c n (enT c n p)))) (nI (vlT c n (enT c n (enT c n (enT c n p))))) q = M4 q := fun q hq => by
            funext j
            unfold layM
            rw [if_neg hq]
          have h5 : layM M4 (y + 12) (R 0 1) (nI (vlT c n p)) (nI (vlT c n (enT c n p))) (nI (vlT c n (enT c n (enT c n p)))) (nI (vlT c n (enT c n (enT c n (enT c n p))))) (y + 12) 150 = nI 0 := by
            unfold layM
            rw [if_pos rfl, if_neg (by omega), if_neg (by omega), if_neg (by omega), if_neg (by omega), if_neg (by omega), g5 _ (by omega) (by omega), d5 _ (by omega) (by omega), b5 _ (by omega) (by omega), a5 _ (by omega) (by omega)]
            exact h150
          rw [e4', bd2_some, if_neg (by decide), if_pos o4, show ck (0 : Int32) 4 = ck (nI 0) 4 from rfl, ck_nI (by omega) (by omega), show ck (1 : Int32) 4 = ck (nI 1) 4 from rfl, ck_nI (by omega) (by omega), show ck (2 : Int32) 4 = ck (nI 2) 4 from rfl, ck_nI (by omega) (by omega), show ck (3 : Int32) 4 = ck (nI 3) 4 from rfl, ck_nI (by omega) (by omega), c0, c1, c2, c3, v0, v1, v2, v3, l5, Option.bind_some]
          refine ⟨_, mOut.fin rfl ⟨by rw [k5 _ (by omega)]; exact g1.1, by rw [k5 _ (by omega)]; exact g1.2.1, by rw [k5 _ (by omega)]; exact g1.2.2.1, by rw [k5 _ (by omega)]; exact g1.2.2.2⟩ p4 (hM4.lay h4) h5 ⟨vlT c n p, by omega, by rw [k5 _ (by omega)]; exact v0⟩, by rw [k5 _ (by omega)]; exact f4.1, fun q q1 q2 q3 => by rw [k5 _ q2]; exact f4.2 q q1 q2 q3⟩
        · have e4' : f_X12_takes y (3 : Int32) (0 : Int32) (9 : Int32) M3 = some ((0 : Int32), M3) := mtk_no (lo := 0) (hi := 9) _ d1 (by omega) (by omega) o4
          rw [e4', bd2_some, if_pos rfl, if_neg o4]
          exact ⟨M3, ⟨Or.inl rfl, d1.1⟩, f3⟩
      · have e3' : f_X12_takes y (2 : Int32) (0 : Int32) (nI (R 0 0 - 1)) M2 = some ((0 : Int32), M2) := mtk_no (lo := 0) (hi := R 0 0 - 1) _ b1 (by omega) (by omega) o3
        rw [e3', bd2_some, if_pos rfl, if_neg o3]
        exact ⟨M2, ⟨Or.inl rfl, b1.1⟩, f2⟩
    · have e2' : f_X12_takes y (1 : Int32) (0 : Int32) (5 : Int32) M1 = some ((0 : Int32), M1) := mtk_no (lo := 0) (hi := 5) _ a1 (by omega) (by omega) o2
      rw [e2', bd2_some, if_pos rfl, if_neg o2]
      exact ⟨M1, ⟨Or.inl rfl, a1.1⟩, f1⟩
  · have e1' : f_X12_takes y (0 : Int32) (0 : Int32) (4 : Int32) M = some ((0 : Int32), M) := mtk_no (lo := 0) (hi := 4) _ hK (by omega) (by omega) o1
    rw [e1', bd2_some, if_pos rfl, if_neg o1]
    exact ⟨M, ⟨Or.inl rfl, hK.1⟩, rfl, fun _ _ _ _ => rfl⟩
end MIT
