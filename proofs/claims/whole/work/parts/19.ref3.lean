theorem rR_row3 {c : mx_M} {i t n m nd : Nat} {R : Nat → Nat → Nat} {kd : Nat → Option Nat} {sz : Nat → Nat} (hV : rV c 3 t n m R kd sz nd) (hi : i < m) : ∀ p, p < n → R i p < n ∧ c 3 (6 * i + p) = nI (R i p) := fun p hp => ⟨(hV.2.2.1 i hi).1 p hp, hV.2.2.2.1 i p hi hp⟩
theorem lp_Mo_votesFirst3 {Q : Option Value → mx_M → Prop} {c : mx_M} {n m t k nd : Nat} {R : Nat → Nat → Nat} {kd : Nat → Option Nat} {sz : Nat → Nat} (hV : rV c 3 t n m R kd sz nd) (hS : ∀ j, j < nd → c 12 j = nI (mset kd sz nd j)) (hk : k < nd) (e : kd k = none) (hq : Q (some (.int (nI (mvf t m n R (mset kd sz nd (k + 1)) (mset kd sz nd (k + 1 + sz (k + 1))))))) c) :
    ∀ (u p : Nat), p + u = m → mx_E 1 3 m_Mo_votesFirst Q 4 [.ref 0, .ref 3, .int (nI k), .int (nI (mvf t p n R (mset kd sz nd (k + 1)) (mset kd sz nd (k + 1 + sz (k + 1))))), .int (nI p)] [] c
  | 0, p, h => by
    have e : p = m := by omega
    subst e
    obtain ⟨⟨h8, h9, h23⟩, ⟨hn, hm, ht⟩, -⟩ := hV
    refine mR 3 rfl trivial ?_
    rw [h9]
    refine mbGe p p rfl (by omega) (by omega) (fun _ => ?_) (fun h => by omega)
    refine mR 1 rfl trivial ?_
    exact mx_E_iret rfl rfl hq
  | u + 1, p, h => by
    have hV0 := hV
    obtain ⟨⟨h8, h9, h23⟩, ⟨hn, hm, ht⟩, hpm, hR, hM, hT⟩ := hV0
    have hs : mvf t (p + 1) n R (mset kd sz nd (k + 1)) (mset kd sz nd (k + 1 + sz (k + 1))) = mvf t p n R (mset kd sz nd (k + 1)) (mset kd sz nd (k + 1 + sz (k + 1))) + (if (t.testBit p && mlk (R p) n (mset kd sz nd (k + 1)) (mset kd sz nd (k + 1 + sz (k + 1)))) then 1 else 0) := rfl
    obtain ⟨g1, g2, g3, g4, g5, g6⟩ := mtree_vote hM hk e
    have h63 := hM.2.1
    have h6 := hn.2
    refine mR 3 rfl trivial ?_
    rw [h9]
    refine mbGe p m rfl (by omega) (by omega) (fun h => by omega) (fun _ => ?_)
    refine mR 4 rfl trivial ?_
    rw [h23]
    refine mx_E_callS (sp_Mo_has _ t p (by omega) (by omega)) rfl rfl rfl (fun r c1 h => ?_)
    obtain ⟨rfl, h⟩ := h
    subst h
    refine mbT rfl (fun hb => ?_) (fun hb => ?_)
    · refine mR 5 rfl trivial ?_
      refine mS (lp_Mo_votesFirst3 hV hS hk e hq u (p + 1) (by omega)) ?_ rfl rfl
      rw [hs, hb, nI_1]
      simp
    · have on := rd_on3 hT h63 hk e
      have tw := rd_tw3 hT h63 hk e
      have l1 := mset_lt h6 hM g5
      have l2 := mset_lt h6 hM g6
      refine mR 21 rfl (mA4 (by rw [ixA 118 rfl]; exact mI (by omega)) (by rw [on]; exact mI (by omega)) (by rw [ixA 181 rfl]; exact mI (by omega)) (by rw [tw]; exact mI (by omega))) ?_
      rw [on, tw, nI_cl (by omega), nI_cl (by omega), hS (k + 1) g5, hS (k + 1 + sz (k + 1)) g6, show (6 : Int32) = nI 6 from rfl, pk_mul]
      refine mx_E_callV (sp_Mo_branchOf3 _ h8 h6 (show 6 * p + n ≤ 244 by omega) (by omega) (by omega) (rR_row3 hV (show p < m by omega))) rfl rfl rfl (fun r c1 h => ?_)
      obtain ⟨rfl, h⟩ := h
      subst h
      refine mbF rfl (fun hc => ?_) (fun hc => ?_)
      · refine mR 5 rfl trivial ?_
        refine mS (lp_Mo_votesFirst3 hV hS hk e hq u (p + 1) (by omega)) ?_ rfl rfl
        rw [hs, hb, show mlk (R p) n (mset kd sz nd (k + 1)) (mset kd sz nd (k + 1 + sz (k + 1))) = false by simpa using hc, nI_1]
        simp
      · refine mR 6 rfl trivial ?_
        refine mS (lp_Mo_votesFirst3 hV hS hk e hq u (p + 1) (by omega)) ?_ rfl rfl
        rw [hs, hb, show mlk (R p) n (mset kd sz nd (k + 1)) (mset kd sz nd (k + 1 + sz (k + 1))) = true by simpa using hc, nI_1, nI_1]
        simp
theorem sp_Mo_votesFirst3 (c : mx_M) {n m t k nd : Nat} {R : Nat → Nat → Nat} {kd : Nat → Option Nat} {sz : Nat → Nat} (hV : rV c 3 t n m R kd sz nd) (hS : ∀ j, j < nd → c 12 j = nI (mset kd sz nd j)) (hk : k < nd) (e : kd k = none) : mx_Spec 1 3 m_Mo_votesFirst [.ref 0, .ref 3, .int (nI k)] c (fun r c' => r = some (.int (nI (mvf t m n R (mset kd sz nd (k + 1)) (mset kd sz nd (k + 1 + sz (k + 1)))))) ∧ c' = c) := by
  refine mx_Spec_E rfl rfl rfl ?_
  refine mR 4 rfl trivial ?_
  exact lp_Mo_votesFirst3 hV hS hk e ⟨rfl, rfl⟩ m 0 (by omega)
theorem lp_Mo_sincere3 {Q : Option Value → mx_M → Prop} {c : mx_M} {n m t nd x : Nat} {R : Nat → Nat → Nat} {kd : Nat → Option Nat} {sz : Nat → Nat} (hV : rV c 3 t n m R kd sz nd) (hS : ∀ j, j < nd → c 12 j = nI (mset kd sz nd j)) {y : Nat} (hq : Q (some (.int (nI y))) c) :
    ∀ (u k : Nat), nd - k ≤ u → k < nd → msin t m n R kd sz nd k = y → mx_E 1 4 m_Mo_sincere Q 5 [.ref 0, .ref 3, .int (nI x), .int (nI k), .null] [] c
  | 0, k, h, hk, hy => by omega
  | u + 1, k, h, hk, hy => by
    have hV0 := hV
    obtain ⟨⟨h8, h9, h23⟩, ⟨hn, hm, ht⟩, hpm, hR, hM, hT⟩ := hV0
    have h63 := hM.2.1
    have h6 := hn.2
    have hkd := rd_kd3 hT h63 hk
    refine mR 6 rfl (mA1 (by rw [ixA 55 rfl]; exact mI (by omega))) ?_
    rw [hkd]
    cases e : kd k with
    | some q =>
      obtain ⟨hq6, -⟩ := mtree_leaf hM hk e
      refine mx_E_br rfl rfl (fun _ => ?_) (fun h => absurd h (fun w => w (kI_ne (by omega))))
      rw [e] at hkd
      refine mR 5 rfl (mA1 (by rw [ixA 55 rfl]; exact mI (by omega))) ?_
      rw [hkd]
      have ey : y = q := by rw [← hy]; exact mF_leaf _ _ hk e
      rw [ey] at hq
      exact mx_E_iret rfl rfl hq
    | none =>
      obtain ⟨g1, g2, g3, g4, g5, g6⟩ := mtree_vote hM hk e
      have hyv : (if mpop t ≤ 2 * mvf t m n R (mset kd sz nd (k + 1)) (mset kd sz nd (k + 1 + sz (k + 1))) then msin t m n R kd sz nd (k + 1) else msin t m n R kd sz nd (k + 1 + sz (k + 1))) = y := by rw [← hy]; exact (mF_vote _ _ hM hk e).symm
      refine mx_E_br rfl rfl (fun h => absurd rfl h) (fun _ => ?_)
      refine mR 3 rfl trivial ?_
      refine mx_E_callV (sp_Mo_votesFirst3 _ hV hS hk e) rfl rfl rfl (fun r c1 h => ?_)
      obtain ⟨rfl, h⟩ := h
      subst h
      have hle : mvf t m n R (mset kd sz nd (k + 1)) (mset kd sz nd (k + 1 + sz (k + 1))) ≤ m := fb_ct_le _ _
      have hpo := mpop_le t
      have on := rd_on3 hT h63 hk e
      have tw := rd_tw3 hT h63 hk e
      refine mR 6 rfl trivial ?_
      rw [h23, show (2 : Int32) = nI 2 from rfl, pk_mul]
      refine mx_E_callS (sp_Mo_ones _ t ht) rfl rfl rfl (fun r c1 h => ?_)
      obtain ⟨rfl, h⟩ := h
      subst h
      refine mbLt _ _ rfl (by omega) (by omega) (fun hc => ?_) (fun hc => ?_)
      · rw [if_neg (by omega)] at hyv
        refine mR 7 rfl (mA1 (by rw [ixA 181 rfl]; exact mI (by omega))) ?_
        rw [tw]
        exact mW (lp_Mo_sincere3 (x := x) hV hS hq u (k + 1 + sz (k + 1)) (by omega) g6 hyv) ⟨Or.inr rfl, Or.inr rfl, Or.inr rfl, Or.inr rfl, Or.inl rfl, trivial⟩ rfl rfl
      · rw [if_pos hc] at hyv
        refine mR 8 rfl (mA1 (by rw [ixA 118 rfl]; exact mI (by omega))) ?_
        rw [on]
        exact mW (lp_Mo_sincere3 (x := x) hV hS hq u (k + 1) (by omega) g5 hyv) ⟨Or.inr rfl, Or.inr rfl, Or.inr rfl, Or.inr rfl, Or.inl rfl, trivial⟩ rfl rfl
theorem sp_Mo_sincere3 (c : mx_M) {n m t k nd : Nat} {R : Nat → Nat → Nat} {kd : Nat → Option Nat} {sz : Nat → Nat} (hV : rV c 3 t n m R kd sz nd) (hk : k < nd) : mx_Spec 1 4 m_Mo_sincere [.ref 0, .ref 3, .int (nI k)] c (fun r c' => r = some (.int (nI (msin t m n R kd sz nd k))) ∧ mfr [12] c c') := by
  refine mx_Spec_E rfl rfl rfl ?_
  refine mR 2 rfl trivial ?_
  refine mx_E_callV (sp_Mo_setsOf3 _ hV) rfl rfl rfl (fun r c1 h => ?_)
  obtain ⟨rfl, hf, hS⟩ := h
  refine mR 2 rfl trivial ?_
  exact lp_Mo_sincere3 (x := k) (rV_of hV (hf 0 (by decide)) (hf 3 (by decide))) hS ⟨rfl, hf⟩ nd k (by omega) hk rfl
theorem rR_row4 {c : mx_M} {i t n m nd : Nat} {R : Nat → Nat → Nat} {kd : Nat → Option Nat} {sz : Nat → Nat} (hV : rV c 4 t n m R kd sz nd) (hi : i < m) : ∀ p, p < n → R i p < n ∧ c 4 (6 * i + p) = nI (R i p) := fun p hp => ⟨(hV.2.2.1 i hi).1 p hp, hV.2.2.2.1 i p hi hp⟩
theorem lp_Mo_votesFirst4 {Q : Option Value → mx_M → Prop} {c : mx_M} {n m t k nd : Nat} {R : Nat → Nat → Nat} {kd : Nat → Option Nat} {sz : Nat → Nat} (hV : rV c 4 t n m R kd sz nd) (hS : ∀ j, j < nd → c 12 j = nI (mset kd sz nd j)) (hk : k < nd) (e : kd k = none) (hq : Q (some (.int (nI (mvf t m n R (mset kd sz nd (k + 1)) (mset kd sz nd (k + 1 + sz (k + 1))))))) c) :
    ∀ (u p : Nat), p + u = m → mx_E 1 3 m_Mo_votesFirst Q 4 [.ref 0, .ref 4, .int (nI k), .int (nI (mvf t p n R (mset kd sz nd (k + 1)) (mset kd sz nd (k + 1 + sz (k + 1))))), .int (nI p)] [] c
  | 0, p, h => by
    have e : p = m := by omega
    subst e
    obtain ⟨⟨h8, h9, h23⟩, ⟨hn, hm, ht⟩, -⟩ := hV
    refine mR 3 rfl trivial ?_
    rw [h9]
    refine mbGe p p rfl (by omega) (by omega) (fun _ => ?_) (fun h => by omega)
    refine mR 1 rfl trivial ?_
    exact mx_E_iret rfl rfl hq
  | u + 1, p, h => by
    have hV0 := hV
    obtain ⟨⟨h8, h9, h23⟩, ⟨hn, hm, ht⟩, hpm, hR, hM, hT⟩ := hV0
    have hs : mvf t (p + 1) n R (mset kd sz nd (k + 1)) (mset kd sz nd (k + 1 + sz (k + 1))) = mvf t p n R (mset kd sz nd (k + 1)) (mset kd sz nd (k + 1 + sz (k + 1))) + (if (t.testBit p && mlk (R p) n (mset kd sz nd (k + 1)) (mset kd sz nd (k + 1 + sz (k + 1)))) then 1 else 0) := rfl
    obtain ⟨g1, g2, g3, g4, g5, g6⟩ := mtree_vote hM hk e
    have h63 := hM.2.1
    have h6 := hn.2
    refine mR 3 rfl trivial ?_
    rw [h9]
    refine mbGe p m rfl (by omega) (by omega) (fun h => by omega) (fun _ => ?_)
    refine mR 4 rfl trivial ?_
    rw [h23]
    refine mx_E_callS (sp_Mo_has _ t p (by omega) (by omega)) rfl rfl rfl (fun r c1 h => ?_)
    obtain ⟨rfl, h⟩ := h
    subst h
    refine mbT rfl (fun hb => ?_) (fun hb => ?_)
    · refine mR 5 rfl trivial ?_
      refine mS (lp_Mo_votesFirst4 hV hS hk e hq u (p + 1) (by omega)) ?_ rfl rfl
      rw [hs, hb, nI_1]
      simp
    · have on := rd_on4 hT h63 hk e
      have tw := rd_tw4 hT h63 hk e
      have l1 := mset_lt h6 hM g5
      have l2 := mset_lt h6 hM g6
      refine mR 21 rfl (mA4 (by rw [ixA 118 rfl]; exact mI (by omega)) (by rw [on]; exact mI (by omega)) (by rw [ixA 181 rfl]; exact mI (by omega)) (by rw [tw]; exact mI (by omega))) ?_
      rw [on, tw, nI_cl (by omega), nI_cl (by omega), hS (k + 1) g5, hS (k + 1 + sz (k + 1)) g6, show (6 : Int32) = nI 6 from rfl, pk_mul]
      refine mx_E_callV (sp_Mo_branchOf4 _ h8 h6 (show 6 * p + n ≤ 244 by omega) (by omega) (by omega) (rR_row4 hV (show p < m by omega))) rfl rfl rfl (fun r c1 h => ?_)
      obtain ⟨rfl, h⟩ := h
      subst h
      refine mbF rfl (fun hc => ?_) (fun hc => ?_)
      · refine mR 5 rfl trivial ?_
        refine mS (lp_Mo_votesFirst4 hV hS hk e hq u (p + 1) (by omega)) ?_ rfl rfl
        rw [hs, hb, show mlk (R p) n (mset kd sz nd (k + 1)) (mset kd sz nd (k + 1 + sz (k + 1))) = false by simpa using hc, nI_1]
        simp
      · refine mR 6 rfl trivial ?_
        refine mS (lp_Mo_votesFirst4 hV hS hk e hq u (p + 1) (by omega)) ?_ rfl rfl
        rw [hs, hb, show mlk (R p) n (mset kd sz nd (k + 1)) (mset kd sz nd (k + 1 + sz (k + 1))) = true by simpa using hc, nI_1, nI_1]
        simp
theorem sp_Mo_votesFirst4 (c : mx_M) {n m t k nd : Nat} {R : Nat → Nat → Nat} {kd : Nat → Option Nat} {sz : Nat → Nat} (hV : rV c 4 t n m R kd sz nd) (hS : ∀ j, j < nd → c 12 j = nI (mset kd sz nd j)) (hk : k < nd) (e : kd k = none) : mx_Spec 1 3 m_Mo_votesFirst [.ref 0, .ref 4, .int (nI k)] c (fun r c' => r = some (.int (nI (mvf t m n R (mset kd sz nd (k + 1)) (mset kd sz nd (k + 1 + sz (k + 1)))))) ∧ c' = c) := by
  refine mx_Spec_E rfl rfl rfl ?_
  refine mR 4 rfl trivial ?_
  exact lp_Mo_votesFirst4 hV hS hk e ⟨rfl, rfl⟩ m 0 (by omega)
theorem lp_Mo_sincere4 {Q : Option Value → mx_M → Prop} {c : mx_M} {n m t nd x : Nat} {R : Nat → Nat → Nat} {kd : Nat → Option Nat} {sz : Nat → Nat} (hV : rV c 4 t n m R kd sz nd) (hS : ∀ j, j < nd → c 12 j = nI (mset kd sz nd j)) {y : Nat} (hq : Q (some (.int (nI y))) c) :
    ∀ (u k : Nat), nd - k ≤ u → k < nd → msin t m n R kd sz nd k = y → mx_E 1 4 m_Mo_sincere Q 5 [.ref 0, .ref 4, .int (nI x), .int (nI k), .null] [] c
  | 0, k, h, hk, hy => by omega
  | u + 1, k, h, hk, hy => by
    have hV0 := hV
    obtain ⟨⟨h8, h9, h23⟩, ⟨hn, hm, ht⟩, hpm, hR, hM, hT⟩ := hV0
    have h63 := hM.2.1
    have h6 := hn.2
    have hkd := rd_kd4 hT h63 hk
    refine mR 6 rfl (mA1 (by rw [ixA 55 rfl]; exact mI (by omega))) ?_
    rw [hkd]
    cases e : kd k with
    | some q =>
      obtain ⟨hq6, -⟩ := mtree_leaf hM hk e
      refine mx_E_br rfl rfl (fun _ => ?_) (fun h => absurd h (fun w => w (kI_ne (by omega))))
      rw [e] at hkd
      refine mR 5 rfl (mA1 (by rw [ixA 55 rfl]; exact mI (by omega))) ?_
      rw [hkd]
      have ey : y = q := by rw [← hy]; exact mF_leaf _ _ hk e
      rw [ey] at hq
      exact mx_E_iret rfl rfl hq
    | none =>
      obtain ⟨g1, g2, g3, g4, g5, g6⟩ := mtree_vote hM hk e
      have hyv : (if mpop t ≤ 2 * mvf t m n R (mset kd sz nd (k + 1)) (mset kd sz nd (k + 1 + sz (k + 1))) then msin t m n R kd sz nd (k + 1) else msin t m n R kd sz nd (k + 1 + sz (k + 1))) = y := by rw [← hy]; exact (mF_vote _ _ hM hk e).symm
      refine mx_E_br rfl rfl (fun h => absurd rfl h) (fun _ => ?_)
      refine mR 3 rfl trivial ?_
      refine mx_E_callV (sp_Mo_votesFirst4 _ hV hS hk e) rfl rfl rfl (fun r c1 h => ?_)
      obtain ⟨rfl, h⟩ := h
      subst h
      have hle : mvf t m n R (mset kd sz nd (k + 1)) (mset kd sz nd (k + 1 + sz (k + 1))) ≤ m := fb_ct_le _ _
      have hpo := mpop_le t
      have on := rd_on4 hT h63 hk e
      have tw := rd_tw4 hT h63 hk e
      refine mR 6 rfl trivial ?_
      rw [h23, show (2 : Int32) = nI 2 from rfl, pk_mul]
      refine mx_E_callS (sp_Mo_ones _ t ht) rfl rfl rfl (fun r c1 h => ?_)
      obtain ⟨rfl, h⟩ := h
      subst h
      refine mbLt _ _ rfl (by omega) (by omega) (fun hc => ?_) (fun hc => ?_)
      · rw [if_neg (by omega)] at hyv
        refine mR 7 rfl (mA1 (by rw [ixA 181 rfl]; exact mI (by omega))) ?_
        rw [tw]
        exact mW (lp_Mo_sincere4 (x := x) hV hS hq u (k + 1 + sz (k + 1)) (by omega) g6 hyv) ⟨Or.inr rfl, Or.inr rfl, Or.inr rfl, Or.inr rfl, Or.inl rfl, trivial⟩ rfl rfl
      · rw [if_pos hc] at hyv
        refine mR 8 rfl (mA1 (by rw [ixA 118 rfl]; exact mI (by omega))) ?_
        rw [on]
        exact mW (lp_Mo_sincere4 (x := x) hV hS hq u (k + 1) (by omega) g5 hyv) ⟨Or.inr rfl, Or.inr rfl, Or.inr rfl, Or.inr rfl, Or.inl rfl, trivial⟩ rfl rfl
theorem sp_Mo_sincere4 (c : mx_M) {n m t k nd : Nat} {R : Nat → Nat → Nat} {kd : Nat → Option Nat} {sz : Nat → Nat} (hV : rV c 4 t n m R kd sz nd) (hk : k < nd) : mx_Spec 1 4 m_Mo_sincere [.ref 0, .ref 4, .int (nI k)] c (fun r c' => r = some (.int (nI (msin t m n R kd sz nd k))) ∧ mfr [12] c c') := by
  refine mx_Spec_E rfl rfl rfl ?_
  refine mR 2 rfl trivial ?_
  refine mx_E_callV (sp_Mo_setsOf4 _ hV) rfl rfl rfl (fun r c1 h => ?_)
  obtain ⟨rfl, hf, hS⟩ := h
  refine mR 2 rfl trivial ?_
  exact lp_Mo_sincere4 (x := k) (rV_of hV (hf 0 (by decide)) (hf 4 (by decide))) hS ⟨rfl, hf⟩ nd k (by omega) hk rfl
