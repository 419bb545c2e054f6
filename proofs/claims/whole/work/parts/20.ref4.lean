theorem d_pos {a b : Nat} (ha : a < 1000) (hb : b < 1000) : (0 : Int32) < nI a - nI b ↔ b < a := by
  rw [fa_lt, pk_sub_toInt (by omega) (by omega)]
  show (0 : Int) < _ ↔ _
  omega
theorem d_eq {a b : Nat} (ha : a < 1000) (hb : b < 1000) : nI a - nI b = 0 ↔ a = b := by
  rw [fa_eq, pk_sub_toInt (by omega) (by omega)]
  show (_ : Int) = 0 ↔ _
  omega
theorem mvt_le (t m n : Nat) (R : Nat → Nat → Nat) (x y : Nat) : mvt t m n R x y ≤ m := fb_ct_le _ _
def rBt (c1 : mx_M) (t m n : Nat) (R : Nat → Nat → Nat) (x y : Nat) : Prop := ∀ x' y', x' < n → y' < n → x' ≠ y' → (x' < x ∨ (x' = x ∧ y' < y)) → c1 11 (6 * x' + y') = mz (mbeat t m n R x' y')
theorem rBt_up {c1 : mx_M} {t m n : Nat} {R : Nat → Nat → Nat} {x y : Nat} {v : Int32} (hn : n ≤ 6) (hy : y < n) (h : rBt c1 t m n R x y) (hv : v = mz (mbeat t m n R x y)) : rBt (mx_up c1 11 (6 * x + y) v) t m n R x (y + 1) := by
  intro x' y' h1 h2 h3 h4
  by_cases e : x' = x ∧ y' = y
  · rw [e.1, e.2, mx_up_same, hv]
  · rw [mx_up_ix _ _ _ _ _ _ (by omega)]
    exact h x' y' h1 h2 h3 (by omega)
theorem rBt_sk {c1 : mx_M} {t m n : Nat} {R : Nat → Nat → Nat} {x : Nat} (h : rBt c1 t m n R x x) : rBt c1 t m n R x (x + 1) := by
  intro x' y' h1 h2 h3 h4
  exact h x' y' h1 h2 h3 (by omega)
theorem rBt_nx {c1 : mx_M} {t m n : Nat} {R : Nat → Nat → Nat} {x : Nat} (h : rBt c1 t m n R x n) : rBt c1 t m n R (x + 1) 0 := by
  intro x' y' h1 h2 h3 h4
  exact h x' y' h1 h2 h3 (by omega)
theorem lp_Mo_beatsBy_in3 {Q : Option Value → mx_M → Prop} {c : mx_M} {n m t x nd : Nat} {R : Nat → Nat → Nat} {kd : Nat → Option Nat} {sz : Nat → Nat} (hV : rV c 3 t n m R kd sz nd) (hx : x < n) (hk : ∀ c2, mfr [11] c c2 → rBt c2 t m n R (x + 1) 0 → mx_E 1 3 m_Mo_beatsBy Q 2 [.ref 0, .ref 3, .int (nI (x + 1)), .null, .null] [] c2) :
    ∀ (u y : Nat) (c1 : mx_M), y + u = n → mfr [11] c c1 → rBt c1 t m n R x y → mx_E 1 3 m_Mo_beatsBy Q 8 [.ref 0, .ref 3, .int (nI x), .int (nI y), .null] [] c1
  | 0, y, c1, h, hf, hb => by
    have e : y = n := by omega
    subst e
    have hV1 := rV_of hV (hf 0 (by decide)) (hf 3 (by decide))
    obtain ⟨⟨h8, h9, h23⟩, ⟨hn, hm, ht⟩, -⟩ := hV1
    have h6 := hn.2
    refine mR 3 rfl trivial ?_
    rw [h8]
    refine mbGe y y rfl (by omega) (by omega) (fun _ => ?_) (fun h => by omega)
    refine mR 2 rfl trivial ?_
    exact mW (hk c1 hf (rBt_nx hb)) ⟨Or.inr rfl, Or.inr rfl, Or.inr (by rw [nI_1]), Or.inl rfl, Or.inl rfl, trivial⟩ rfl rfl
  | u + 1, y, c1, h, hf, hb => by
    have hV1 := rV_of hV (hf 0 (by decide)) (hf 3 (by decide))
    have hV0 := hV1
    obtain ⟨⟨h8, h9, h23⟩, ⟨hn, hm, ht⟩, -⟩ := hV0
    have h6 := hn.2
    have hy : y < n := by omega
    refine mR 3 rfl trivial ?_
    rw [h8]
    refine mbGe y n rfl (by omega) (by omega) (fun h => by omega) (fun _ => ?_)
    refine mR 2 rfl trivial ?_
    refine mbEq x y rfl (by omega) (by omega) (fun e => ?_) (fun e => ?_)
    · subst e
      refine mR 2 rfl trivial ?_
      exact mS (lp_Mo_beatsBy_in3 hV hx hk u (x + 1) c1 (by omega) hf (rBt_sk hb)) (by rw [nI_1]) rfl rfl
    · refine mR 4 rfl trivial ?_
      refine mx_E_callV (sp_Mo_votesOf3 _ hV1 hx hy) rfl rfl rfl (fun r c2 h => ?_)
      obtain ⟨rfl, h⟩ := h
      subst h
      refine mR 4 rfl trivial ?_
      refine mx_E_callV (sp_Mo_votesOf3 _ hV1 hy hx) rfl rfl rfl (fun r c3 h => ?_)
      obtain ⟨rfl, h⟩ := h
      subst h
      have ha := mvt_le t m n R x y
      have hb2 := mvt_le t m n R y x
      have ix : ((6 : Int32) * nI x + nI y).toNatClampNeg = 6 * x + y := by rw [ix6, nI_cl (by omega)]
      have ixv : vp_in ((6 : Int32) * nI x + nI y) 36 := by rw [ix6]; exact mI (by omega)
      refine mR 10 rfl trivial ?_
      refine mx_E_br rfl rfl (fun hc => ?_) (fun hc => ?_)
      · rw [d_pos (by omega) (by omega)] at hc
        refine mR 5 rfl (mA1 ixv) ?_
        rw [ix]
        exact mW (lp_Mo_beatsBy_in3 hV hx hk u (y + 1) _ (by omega) (mfr_up hf (by decide)) (rBt_up h6 hy hb (by rw [show mbeat t m n R x y = true from decide_eq_true (Or.inl hc)]; rfl))) ⟨Or.inr rfl, Or.inr rfl, Or.inr rfl, Or.inr (by rw [nI_1]), Or.inl rfl, trivial⟩ rfl rfl
      · rw [d_pos (by omega) (by omega)] at hc
        refine mR 1 rfl trivial ?_
        refine mx_E_br rfl rfl (fun hd => ?_) (fun hd => ?_)
        · rw [d_eq (by omega) (by omega)] at hd
          refine mR 4 rfl (mA1 ixv) ?_
          rw [ix]
          exact mW (lp_Mo_beatsBy_in3 hV hx hk u (y + 1) _ (by omega) (mfr_up hf (by decide)) (rBt_up h6 hy hb (by rw [show mbeat t m n R x y = false from decide_eq_false (by omega)]; rfl))) ⟨Or.inr rfl, Or.inr rfl, Or.inr rfl, Or.inr (by rw [nI_1]), Or.inl rfl, trivial⟩ rfl rfl
        · rw [d_eq (by omega) (by omega)] at hd
          refine mR 2 rfl trivial ?_
          refine mbGe x y rfl (by omega) (by omega) (fun he => ?_) (fun he => ?_)
          · refine mR 4 rfl (mA1 ixv) ?_
            rw [ix]
            exact mW (lp_Mo_beatsBy_in3 hV hx hk u (y + 1) _ (by omega) (mfr_up hf (by decide)) (rBt_up h6 hy hb (by rw [show mbeat t m n R x y = false from decide_eq_false (by omega)]; rfl))) ⟨Or.inr rfl, Or.inr rfl, Or.inr rfl, Or.inr (by rw [nI_1]), Or.inl rfl, trivial⟩ rfl rfl
          · refine mR 5 rfl (mA1 ixv) ?_
            rw [ix]
            exact mW (lp_Mo_beatsBy_in3 hV hx hk u (y + 1) _ (by omega) (mfr_up hf (by decide)) (rBt_up h6 hy hb (by rw [show mbeat t m n R x y = true from decide_eq_true (by omega)]; rfl))) ⟨Or.inr rfl, Or.inr rfl, Or.inr rfl, Or.inr (by rw [nI_1]), Or.inl rfl, trivial⟩ rfl rfl
theorem lp_Mo_beatsBy3 {Q : Option Value → mx_M → Prop} {c : mx_M} {n m t nd : Nat} {R : Nat → Nat → Nat} {kd : Nat → Option Nat} {sz : Nat → Nat} (hV : rV c 3 t n m R kd sz nd) (hq : ∀ c', mfr [11] c c' → rBt c' t m n R n 0 → Q none c') :
    ∀ (u x : Nat) (c1 : mx_M), x + u = n → mfr [11] c c1 → rBt c1 t m n R x 0 → mx_E 1 3 m_Mo_beatsBy Q 2 [.ref 0, .ref 3, .int (nI x), .null, .null] [] c1
  | 0, x, c1, h, hf, hb => by
    have e : x = n := by omega
    subst e
    have hV1 := rV_of hV (hf 0 (by decide)) (hf 3 (by decide))
    obtain ⟨⟨h8, h9, h23⟩, ⟨hn, hm, ht⟩, -⟩ := hV1
    have h6 := hn.2
    refine mR 3 rfl trivial ?_
    rw [h8]
    refine mbGe x x rfl (by omega) (by omega) (fun _ => ?_) (fun h => by omega)
    exact mx_E_vret rfl rfl (hq c1 hf hb)
  | u + 1, x, c1, h, hf, hb => by
    have hV1 := rV_of hV (hf 0 (by decide)) (hf 3 (by decide))
    obtain ⟨⟨h8, h9, h23⟩, ⟨hn, hm, ht⟩, -⟩ := hV1
    have h6 := hn.2
    refine mR 3 rfl trivial ?_
    rw [h8]
    refine mbGe x n rfl (by omega) (by omega) (fun h => by omega) (fun _ => ?_)
    refine mR 2 rfl trivial ?_
    exact lp_Mo_beatsBy_in3 hV (by omega) (fun c2 hf2 hb2 => lp_Mo_beatsBy3 hV hq u (x + 1) c2 (by omega) hf2 hb2) n 0 c1 (by omega) hf hb
theorem sp_Mo_beatsBy3 (c : mx_M) {n m t nd : Nat} {R : Nat → Nat → Nat} {kd : Nat → Option Nat} {sz : Nat → Nat} (hV : rV c 3 t n m R kd sz nd) : mx_Spec 1 3 m_Mo_beatsBy [.ref 0, .ref 3] c (fun r c' => r = none ∧ mfr [11] c c' ∧ ∀ x y, x < n → y < n → x ≠ y → c' 11 (6 * x + y) = mz (mbeat t m n R x y)) := by
  refine mx_Spec_E rfl rfl rfl ?_
  refine mR 2 rfl trivial ?_
  exact lp_Mo_beatsBy3 hV (fun c' h1 h2 => ⟨rfl, h1, fun x y hx hy hxy => h2 x y hx hy hxy (Or.inl hx)⟩) n 0 c (by omega) (mfr_rf _ _) (fun x' y' _ _ _ h => by omega)
theorem lp_Mo_foreseen3 {Q : Option Value → mx_M → Prop} {c : mx_M} {n m t nd z : Nat} {R : Nat → Nat → Nat} {kd : Nat → Option Nat} {sz : Nat → Nat} (hV : rV c 3 t n m R kd sz nd) (hB : ∀ x y, x < n → y < n → x ≠ y → c 11 (6 * x + y) = mz (mbeat t m n R x y)) (hz : z < nd) (hq : ∀ c', mfr [13] c c' → Q (some (.int (nI (mfor t m n R kd sz nd z)))) c') :
    ∀ (k : Nat) (c1 : mx_M), k ≤ nd → mfr [13] c c1 → (∀ j, k ≤ j → j < nd → c1 13 j = nI (mfor t m n R kd sz nd j)) → mx_E 1 4 m_Mo_foreseen Q 9 [.ref 0, .ref 3, .int (nI z), .int (nI k - 1), .null, .null] [] c1
  | 0, c1, hk, hfr, hi => by
    have h63 := hV.2.2.2.2.1.2.1
    refine mR 1 rfl trivial ?_
    refine mx_E_br rfl rfl (fun _ => ?_) (fun h => absurd (by decide) h)
    refine mR 4 rfl (mA1 (mI (by omega))) ?_
    rw [nI_cl (by omega), hi z (Nat.zero_le z) hz]
    exact mx_E_iret rfl rfl (hq c1 hfr)
  | k + 1, c1, hk, hfr, hi => by
    have hV1 := rV_of hV (hfr 0 (by decide)) (hfr 3 (by decide))
    obtain ⟨-, ⟨hn, -, -⟩, -, -, hM, hT⟩ := hV1
    have hB1 : ∀ x y, x < n → y < n → x ≠ y → c1 11 (6 * x + y) = mz (mbeat t m n R x y) := by rw [hfr 11 (by decide)]; exact hB
    have h63 := hM.2.1
    have h6 := hn.2
    have hk1 : k < nd := by omega
    have hkd := rd_kd3 hT h63 hk1
    have nxt : ∀ (v : Int32) (x4 x5 : Value), v = nI (mfor t m n R kd sz nd k) → mx_E 1 4 m_Mo_foreseen Q 9 [.ref 0, .ref 3, .int (nI z), .int (nI k - 1), .null, .null] [] (mx_up c1 13 k v) := by
      intro v x4 x5 hv
      refine lp_Mo_foreseen3 hV hB hz hq k _ (by omega) (mfr_up hfr (by decide)) (fun j h1 h2 => ?_)
      rcases Nat.lt_or_ge k j with h3 | h3
      · rw [mx_up_ix _ _ _ _ _ _ (by omega)]
        exact hi j (by omega) h2
      · have e2 : j = k := by omega
        rw [e2, mx_up_same, hv]
    rw [nI_p1]
    refine mR 1 rfl trivial ?_
    refine mx_E_br rfl rfl (fun h => absurd h (nI_pos (by omega))) (fun _ => ?_)
    refine mR 6 rfl (mA1 (by rw [ixA 55 rfl]; exact mI (by omega))) ?_
    rw [hkd]
    cases e : kd k with
    | some q =>
      obtain ⟨hq6, -⟩ := mtree_leaf hM hk1 e
      refine mx_E_br rfl rfl (fun h => absurd h (kI_ne (by omega))) (fun _ => ?_)
      rw [e] at hkd
      refine mR 12 rfl (mA2 (by rw [ixA 55 rfl]; exact mI (by omega)) (mI (by omega))) ?_
      rw [hkd, nI_cl (by omega), nI_m1]
      exact nxt _ .null .null (by rw [show mfor t m n R kd sz nd k = q from mF_leaf _ _ hk1 e]; rfl)
    | none =>
      obtain ⟨g1, g2, g3, g4, g5, g6⟩ := mtree_vote hM hk1 e
      have on := rd_on3 hT h63 hk1 e
      have tw := rd_tw3 hT h63 hk1 e
      have i1 := hi (k + 1) (by omega) g5
      have i2 := hi (k + 1 + sz (k + 1)) (by omega) g6
      have l1 : mfor t m n R kd sz nd (k + 1) < n := mfor_lt hM g5
      have l2 : mfor t m n R kd sz nd (k + 1 + sz (k + 1)) < n := mfor_lt hM g6
      have hv : mfor t m n R kd sz nd k = if mfor t m n R kd sz nd (k + 1) = mfor t m n R kd sz nd (k + 1 + sz (k + 1)) ∨ mbeat t m n R (mfor t m n R kd sz nd (k + 1)) (mfor t m n R kd sz nd (k + 1 + sz (k + 1))) = true then mfor t m n R kd sz nd (k + 1) else mfor t m n R kd sz nd (k + 1 + sz (k + 1)) := mF_vote _ _ hM hk1 e
      refine mx_E_br rfl rfl (fun _ => ?_) (fun h => absurd rfl h)
      refine mR 23 rfl (mA4 (by rw [ixA 118 rfl]; exact mI (by omega)) (by rw [on]; exact mI (by omega)) (by rw [ixA 181 rfl]; exact mI (by omega)) (by rw [tw]; exact mI (by omega))) ?_
      rw [on, tw, nI_cl (by omega), nI_cl (by omega), i1, i2]
      refine mbEq _ _ rfl (by omega) (by omega) (fun hc => ?_) (fun hc => ?_)
      · refine mR 5 rfl (mA1 (mI (by omega))) ?_
        rw [nI_cl (by omega), nI_m1]
        refine mW (nxt _ .null .null ?_) ⟨Or.inr rfl, Or.inr rfl, Or.inr rfl, Or.inr rfl, Or.inl rfl, Or.inl rfl, trivial⟩ rfl rfl
        rw [hv, if_pos (Or.inl hc)]
      · refine mR 8 rfl (mA1 (by rw [ix6]; exact mI (by omega))) ?_
        rw [ix6, nI_cl (by omega), hB1 _ _ l1 l2 hc]
        refine mbT rfl (fun hb => ?_) (fun hb => ?_)
        · refine mR 4 rfl (mA1 (mI (by omega))) ?_
          rw [nI_cl (by omega), nI_m1]
          refine mW (nxt _ .null .null ?_) ⟨Or.inr rfl, Or.inr rfl, Or.inr rfl, Or.inr rfl, Or.inl rfl, Or.inl rfl, trivial⟩ rfl rfl
          rw [hv, if_neg (by rw [hb]; simp [hc])]
        · refine mR 5 rfl (mA1 (mI (by omega))) ?_
          rw [nI_cl (by omega), nI_m1]
          refine mW (nxt _ .null .null ?_) ⟨Or.inr rfl, Or.inr rfl, Or.inr rfl, Or.inr rfl, Or.inl rfl, Or.inl rfl, trivial⟩ rfl rfl
          rw [hv, if_pos (Or.inr hb)]
theorem sp_Mo_foreseen3 (c : mx_M) {n m t k nd : Nat} {R : Nat → Nat → Nat} {kd : Nat → Option Nat} {sz : Nat → Nat} (hV : rV c 3 t n m R kd sz nd) (hk : k < nd) : mx_Spec 1 4 m_Mo_foreseen [.ref 0, .ref 3, .int (nI k)] c (fun r c' => r = some (.int (nI (mfor t m n R kd sz nd k))) ∧ mfr [11, 13] c c') := by
  refine mx_Spec_E rfl rfl rfl ?_
  refine mR 2 rfl trivial ?_
  refine mx_E_callV (sp_Mo_beatsBy3 _ hV) rfl rfl rfl (fun r c1 h => ?_)
  obtain ⟨rfl, hf, hB⟩ := h
  have hV1 := rV_of hV (hf 0 (by decide)) (hf 3 (by decide))
  refine mR 6 rfl (mA1 (mI (n := 54) (by decide))) ?_
  refine mS (lp_Mo_foreseen3 hV1 hB hk (fun c' h1 => ⟨rfl, mfr_tr (mfr_mo hf (fun r hr => by simp at hr; simp [hr])) (mfr_mo h1 (fun r hr => by simp at hr; simp [hr]))⟩) nd c1 (Nat.le_refl nd) (mfr_rf _ _) (fun j h1 h2 => by omega)) ?_ rfl rfl
  rw [show ((54 : Int32)).toNatClampNeg = 54 by decide, hV1.2.2.2.2.2.1]
theorem sp_Mo_outcome3 (c : mx_M) {n m t w nd : Nat} {R : Nat → Nat → Nat} {kd : Nat → Option Nat} {sz : Nat → Nat} (hV : rV c 3 t n m R kd sz nd) (hw : w < 2) : mx_Spec 1 5 m_Mo_outcome [.ref 0, .ref 3, .int (nI w)] c (fun r c' => r = some (.int (nI (mout w t m n R kd sz nd))) ∧ mfr [11, 12, 13] c c') := by
  have h1 := hV.2.2.2.2.1.1
  refine mx_Spec_E rfl rfl rfl ?_
  refine mR 1 rfl trivial ?_
  rcases (show w = 0 ∨ w = 1 by omega) with rfl | rfl
  · refine mx_E_br rfl rfl (fun h => absurd rfl h) (fun _ => ?_)
    refine mR 3 rfl trivial ?_
    refine mx_E_callV (sp_Mo_sincere3 (k := 0) _ hV (by omega)) rfl rfl rfl (fun r c1 h => ?_)
    obtain ⟨rfl, hf⟩ := h
    refine mR 1 rfl trivial ?_
    exact mx_E_iret rfl rfl ⟨rfl, mfr_mo hf (fun r hr => by simp at hr; simp [hr])⟩
  · refine mx_E_br rfl rfl (fun _ => ?_) (fun h => absurd (by decide) h)
    refine mR 3 rfl trivial ?_
    refine mx_E_callV (sp_Mo_foreseen3 (k := 0) _ hV (by omega)) rfl rfl rfl (fun r c1 h => ?_)
    obtain ⟨rfl, hf⟩ := h
    exact mx_E_iret rfl rfl ⟨rfl, mfr_mo hf (fun r hr => by simp at hr; rcases hr with hr | hr <;> simp [hr])⟩
theorem lp_Mo_beatsBy_in4 {Q : Option Value → mx_M → Prop} {c : mx_M} {n m t x nd : Nat} {R : Nat → Nat → Nat} {kd : Nat → Option Nat} {sz : Nat → Nat} (hV : rV c 4 t n m R kd sz nd) (hx : x < n) (hk : ∀ c2, mfr [11] c c2 → rBt c2 t m n R (x + 1) 0 → mx_E 1 3 m_Mo_beatsBy Q 2 [.ref 0, .ref 4, .int (nI (x + 1)), .null, .null] [] c2) :
    ∀ (u y : Nat) (c1 : mx_M), y + u = n → mfr [11] c c1 → rBt c1 t m n R x y → mx_E 1 3 m_Mo_beatsBy Q 8 [.ref 0, .ref 4, .int (nI x), .int (nI y), .null] [] c1
  | 0, y, c1, h, hf, hb => by
    have e : y = n := by omega
    subst e
    have hV1 := rV_of hV (hf 0 (by decide)) (hf 4 (by decide))
    obtain ⟨⟨h8, h9, h23⟩, ⟨hn, hm, ht⟩, -⟩ := hV1
    have h6 := hn.2
    refine mR 3 rfl trivial ?_
    rw [h8]
    refine mbGe y y rfl (by omega) (by omega) (fun _ => ?_) (fun h => by omega)
    refine mR 2 rfl trivial ?_
    exact mW (hk c1 hf (rBt_nx hb)) ⟨Or.inr rfl, Or.inr rfl, Or.inr (by rw [nI_1]), Or.inl rfl, Or.inl rfl, trivial⟩ rfl rfl
  | u + 1, y, c1, h, hf, hb => by
    have hV1 := rV_of hV (hf 0 (by decide)) (hf 4 (by decide))
    have hV0 := hV1
    obtain ⟨⟨h8, h9, h23⟩, ⟨hn, hm, ht⟩, -⟩ := hV0
    have h6 := hn.2
    have hy : y < n := by omega
    refine mR 3 rfl trivial ?_
    rw [h8]
    refine mbGe y n rfl (by omega) (by omega) (fun h => by omega) (fun _ => ?_)
    refine mR 2 rfl trivial ?_
    refine mbEq x y rfl (by omega) (by omega) (fun e => ?_) (fun e => ?_)
    · subst e
      refine mR 2 rfl trivial ?_
      exact mS (lp_Mo_beatsBy_in4 hV hx hk u (x + 1) c1 (by omega) hf (rBt_sk hb)) (by rw [nI_1]) rfl rfl
    · refine mR 4 rfl trivial ?_
      refine mx_E_callV (sp_Mo_votesOf4 _ hV1 hx hy) rfl rfl rfl (fun r c2 h => ?_)
      obtain ⟨rfl, h⟩ := h
      subst h
      refine mR 4 rfl trivial ?_
      refine mx_E_callV (sp_Mo_votesOf4 _ hV1 hy hx) rfl rfl rfl (fun r c3 h => ?_)
      obtain ⟨rfl, h⟩ := h
      subst h
      have ha := mvt_le t m n R x y
      have hb2 := mvt_le t m n R y x
      have ix : ((6 : Int32) * nI x + nI y).toNatClampNeg = 6 * x + y := by rw [ix6, nI_cl (by omega)]
      have ixv : vp_in ((6 : Int32) * nI x + nI y) 36 := by rw [ix6]; exact mI (by omega)
      refine mR 10 rfl trivial ?_
      refine mx_E_br rfl rfl (fun hc => ?_) (fun hc => ?_)
      · rw [d_pos (by omega) (by omega)] at hc
        refine mR 5 rfl (mA1 ixv) ?_
        rw [ix]
        exact mW (lp_Mo_beatsBy_in4 hV hx hk u (y + 1) _ (by omega) (mfr_up hf (by decide)) (rBt_up h6 hy hb (by rw [show mbeat t m n R x y = true from decide_eq_true (Or.inl hc)]; rfl))) ⟨Or.inr rfl, Or.inr rfl, Or.inr rfl, Or.inr (by rw [nI_1]), Or.inl rfl, trivial⟩ rfl rfl
      · rw [d_pos (by omega) (by omega)] at hc
        refine mR 1 rfl trivial ?_
        refine mx_E_br rfl rfl (fun hd => ?_) (fun hd => ?_)
        · rw [d_eq (by omega) (by omega)] at hd
          refine mR 4 rfl (mA1 ixv) ?_
          rw [ix]
          exact mW (lp_Mo_beatsBy_in4 hV hx hk u (y + 1) _ (by omega) (mfr_up hf (by decide)) (rBt_up h6 hy hb (by rw [show mbeat t m n R x y = false from decide_eq_false (by omega)]; rfl))) ⟨Or.inr rfl, Or.inr rfl, Or.inr rfl, Or.inr (by rw [nI_1]), Or.inl rfl, trivial⟩ rfl rfl
        · rw [d_eq (by omega) (by omega)] at hd
          refine mR 2 rfl trivial ?_
          refine mbGe x y rfl (by omega) (by omega) (fun he => ?_) (fun he => ?_)
          · refine mR 4 rfl (mA1 ixv) ?_
            rw [ix]
            exact mW (lp_Mo_beatsBy_in4 hV hx hk u (y + 1) _ (by omega) (mfr_up hf (by decide)) (rBt_up h6 hy hb (by rw [show mbeat t m n R x y = false from decide_eq_false (by omega)]; rfl))) ⟨Or.inr rfl, Or.inr rfl, Or.inr rfl, Or.inr (by rw [nI_1]), Or.inl rfl, trivial⟩ rfl rfl
          · refine mR 5 rfl (mA1 ixv) ?_
            rw [ix]
            exact mW (lp_Mo_beatsBy_in4 hV hx hk u (y + 1) _ (by omega) (mfr_up hf (by decide)) (rBt_up h6 hy hb (by rw [show mbeat t m n R x y = true from decide_eq_true (by omega)]; rfl))) ⟨Or.inr rfl, Or.inr rfl, Or.inr rfl, Or.inr (by rw [nI_1]), Or.inl rfl, trivial⟩ rfl rfl
theorem lp_Mo_beatsBy4 {Q : Option Value → mx_M → Prop} {c : mx_M} {n m t nd : Nat} {R : Nat → Nat → Nat} {kd : Nat → Option Nat} {sz : Nat → Nat} (hV : rV c 4 t n m R kd sz nd) (hq : ∀ c', mfr [11] c c' → rBt c' t m n R n 0 → Q none c') :
    ∀ (u x : Nat) (c1 : mx_M), x + u = n → mfr [11] c c1 → rBt c1 t m n R x 0 → mx_E 1 3 m_Mo_beatsBy Q 2 [.ref 0, .ref 4, .int (nI x), .null, .null] [] c1
  | 0, x, c1, h, hf, hb => by
    have e : x = n := by omega
    subst e
    have hV1 := rV_of hV (hf 0 (by decide)) (hf 4 (by decide))
    obtain ⟨⟨h8, h9, h23⟩, ⟨hn, hm, ht⟩, -⟩ := hV1
    have h6 := hn.2
    refine mR 3 rfl trivial ?_
    rw [h8]
    refine mbGe x x rfl (by omega) (by omega) (fun _ => ?_) (fun h => by omega)
    exact mx_E_vret rfl rfl (hq c1 hf hb)
  | u + 1, x, c1, h, hf, hb => by
    have hV1 := rV_of hV (hf 0 (by decide)) (hf 4 (by decide))
    obtain ⟨⟨h8, h9, h23⟩, ⟨hn, hm, ht⟩, -⟩ := hV1
    have h6 := hn.2
    refine mR 3 rfl trivial ?_
    rw [h8]
    refine mbGe x n rfl (by omega) (by omega) (fun h => by omega) (fun _ => ?_)
    refine mR 2 rfl trivial ?_
    exact lp_Mo_beatsBy_in4 hV (by omega) (fun c2 hf2 hb2 => lp_Mo_beatsBy4 hV hq u (x + 1) c2 (by omega) hf2 hb2) n 0 c1 (by omega) hf hb
theorem sp_Mo_beatsBy4 (c : mx_M) {n m t nd : Nat} {R : Nat → Nat → Nat} {kd : Nat → Option Nat} {sz : Nat → Nat} (hV : rV c 4 t n m R kd sz nd) : mx_Spec 1 3 m_Mo_beatsBy [.ref 0, .ref 4] c (fun r c' => r = none ∧ mfr [11] c c' ∧ ∀ x y, x < n → y < n → x ≠ y → c' 11 (6 * x + y) = mz (mbeat t m n R x y)) := by
  refine mx_Spec_E rfl rfl rfl ?_
  refine mR 2 rfl trivial ?_
  exact lp_Mo_beatsBy4 hV (fun c' h1 h2 => ⟨rfl, h1, fun x y hx hy hxy => h2 x y hx hy hxy (Or.inl hx)⟩) n 0 c (by omega) (mfr_rf _ _) (fun x' y' _ _ _ h => by omega)
theorem lp_Mo_foreseen4 {Q : Option Value → mx_M → Prop} {c : mx_M} {n m t nd z : Nat} {R : Nat → Nat → Nat} {kd : Nat → Option Nat} {sz : Nat → Nat} (hV : rV c 4 t n m R kd sz nd) (hB : ∀ x y, x < n → y < n → x ≠ y → c 11 (6 * x + y) = mz (mbeat t m n R x y)) (hz : z < nd) (hq : ∀ c', mfr [13] c c' → Q (some (.int (nI (mfor t m n R kd sz nd z)))) c') :
    ∀ (k : Nat) (c1 : mx_M), k ≤ nd → mfr [13] c c1 → (∀ j, k ≤ j → j < nd → c1 13 j = nI (mfor t m n R kd sz nd j)) → mx_E 1 4 m_Mo_foreseen Q 9 [.ref 0, .ref 4, .int (nI z), .int (nI k - 1), .null, .null] [] c1
  | 0, c1, hk, hfr, hi => by
    have h63 := hV.2.2.2.2.1.2.1
    refine mR 1 rfl trivial ?_
    refine mx_E_br rfl rfl (fun _ => ?_) (fun h => absurd (by decide) h)
    refine mR 4 rfl (mA1 (mI (by omega))) ?_
    rw [nI_cl (by omega), hi z (Nat.zero_le z) hz]
    exact mx_E_iret rfl rfl (hq c1 hfr)
  | k + 1, c1, hk, hfr, hi => by
    have hV1 := rV_of hV (hfr 0 (by decide)) (hfr 4 (by decide))
    obtain ⟨-, ⟨hn, -, -⟩, -, -, hM, hT⟩ := hV1
    have hB1 : ∀ x y, x < n → y < n → x ≠ y → c1 11 (6 * x + y) = mz (mbeat t m n R x y) := by rw [hfr 11 (by decide)]; exact hB
    have h63 := hM.2.1
    have h6 := hn.2
    have hk1 : k < nd := by omega
    have hkd := rd_kd4 hT h63 hk1
    have nxt : ∀ (v : Int32) (x4 x5 : Value), v = nI (mfor t m n R kd sz nd k) → mx_E 1 4 m_Mo_foreseen Q 9 [.ref 0, .ref 4, .int (nI z), .int (nI k - 1), .null, .null] [] (mx_up c1 13 k v) := by
      intro v x4 x5 hv
      refine lp_Mo_foreseen4 hV hB hz hq k _ (by omega) (mfr_up hfr (by decide)) (fun j h1 h2 => ?_)
      rcases Nat.lt_or_ge k j with h3 | h3
      · rw [mx_up_ix _ _ _ _ _ _ (by omega)]
        exact hi j (by omega) h2
      · have e2 : j = k := by omega
        rw [e2, mx_up_same, hv]
    rw [nI_p1]
    refine mR 1 rfl trivial ?_
    refine mx_E_br rfl rfl (fun h => absurd h (nI_pos (by omega))) (fun _ => ?_)
    refine mR 6 rfl (mA1 (by rw [ixA 55 rfl]; exact mI (by omega))) ?_
    rw [hkd]
    cases e : kd k with
    | some q =>
      obtain ⟨hq6, -⟩ := mtree_leaf hM hk1 e
      refine mx_E_br rfl rfl (fun h => absurd h (kI_ne (by omega))) (fun _ => ?_)
      rw [e] at hkd
      refine mR 12 rfl (mA2 (by rw [ixA 55 rfl]; exact mI (by omega)) (mI (by omega))) ?_
      rw [hkd, nI_cl (by omega), nI_m1]
      exact nxt _ .null .null (by rw [show mfor t m n R kd sz nd k = q from mF_leaf _ _ hk1 e]; rfl)
    | none =>
      obtain ⟨g1, g2, g3, g4, g5, g6⟩ := mtree_vote hM hk1 e
      have on := rd_on4 hT h63 hk1 e
      have tw := rd_tw4 hT h63 hk1 e
      have i1 := hi (k + 1) (by omega) g5
      have i2 := hi (k + 1 + sz (k + 1)) (by omega) g6
      have l1 : mfor t m n R kd sz nd (k + 1) < n := mfor_lt hM g5
      have l2 : mfor t m n R kd sz nd (k + 1 + sz (k + 1)) < n := mfor_lt hM g6
      have hv : mfor t m n R kd sz nd k = if mfor t m n R kd sz nd (k + 1) = mfor t m n R kd sz nd (k + 1 + sz (k + 1)) ∨ mbeat t m n R (mfor t m n R kd sz nd (k + 1)) (mfor t m n R kd sz nd (k + 1 + sz (k + 1))) = true then mfor t m n R kd sz nd (k + 1) else mfor t m n R kd sz nd (k + 1 + sz (k + 1)) := mF_vote _ _ hM hk1 e
      refine mx_E_br rfl rfl (fun _ => ?_) (fun h => absurd rfl h)
      refine mR 23 rfl (mA4 (by rw [ixA 118 rfl]; exact mI (by omega)) (by rw [on]; exact mI (by omega)) (by rw [ixA 181 rfl]; exact mI (by omega)) (by rw [tw]; exact mI (by omega))) ?_
      rw [on, tw, nI_cl (by omega), nI_cl (by omega), i1, i2]
      refine mbEq _ _ rfl (by omega) (by omega) (fun hc => ?_) (fun hc => ?_)
      · refine mR 5 rfl (mA1 (mI (by omega))) ?_
        rw [nI_cl (by omega), nI_m1]
        refine mW (nxt _ .null .null ?_) ⟨Or.inr rfl, Or.inr rfl, Or.inr rfl, Or.inr rfl, Or.inl rfl, Or.inl rfl, trivial⟩ rfl rfl
        rw [hv, if_pos (Or.inl hc)]
      · refine mR 8 rfl (mA1 (by rw [ix6]; exact mI (by omega))) ?_
        rw [ix6, nI_cl (by omega), hB1 _ _ l1 l2 hc]
        refine mbT rfl (fun hb => ?_) (fun hb => ?_)
        · refine mR 4 rfl (mA1 (mI (by omega))) ?_
          rw [nI_cl (by omega), nI_m1]
          refine mW (nxt _ .null .null ?_) ⟨Or.inr rfl, Or.inr rfl, Or.inr rfl, Or.inr rfl, Or.inl rfl, Or.inl rfl, trivial⟩ rfl rfl
          rw [hv, if_neg (by rw [hb]; simp [hc])]
        · refine mR 5 rfl (mA1 (mI (by omega))) ?_
          rw [nI_cl (by omega), nI_m1]
          refine mW (nxt _ .null .null ?_) ⟨Or.inr rfl, Or.inr rfl, Or.inr rfl, Or.inr rfl, Or.inl rfl, Or.inl rfl, trivial⟩ rfl rfl
          rw [hv, if_pos (Or.inr hb)]
theorem sp_Mo_foreseen4 (c : mx_M) {n m t k nd : Nat} {R : Nat → Nat → Nat} {kd : Nat → Option Nat} {sz : Nat → Nat} (hV : rV c 4 t n m R kd sz nd) (hk : k < nd) : mx_Spec 1 4 m_Mo_foreseen [.ref 0, .ref 4, .int (nI k)] c (fun r c' => r = some (.int (nI (mfor t m n R kd sz nd k))) ∧ mfr [11, 13] c c') := by
  refine mx_Spec_E rfl rfl rfl ?_
  refine mR 2 rfl trivial ?_
  refine mx_E_callV (sp_Mo_beatsBy4 _ hV) rfl rfl rfl (fun r c1 h => ?_)
  obtain ⟨rfl, hf, hB⟩ := h
  have hV1 := rV_of hV (hf 0 (by decide)) (hf 4 (by decide))
  refine mR 6 rfl (mA1 (mI (n := 54) (by decide))) ?_
  refine mS (lp_Mo_foreseen4 hV1 hB hk (fun c' h1 => ⟨rfl, mfr_tr (mfr_mo hf (fun r hr => by simp at hr; simp [hr])) (mfr_mo h1 (fun r hr => by simp at hr; simp [hr]))⟩) nd c1 (Nat.le_refl nd) (mfr_rf _ _) (fun j h1 h2 => by omega)) ?_ rfl rfl
  rw [show ((54 : Int32)).toNatClampNeg = 54 by decide, hV1.2.2.2.2.2.1]
theorem sp_Mo_outcome4 (c : mx_M) {n m t w nd : Nat} {R : Nat → Nat → Nat} {kd : Nat → Option Nat} {sz : Nat → Nat} (hV : rV c 4 t n m R kd sz nd) (hw : w < 2) : mx_Spec 1 5 m_Mo_outcome [.ref 0, .ref 4, .int (nI w)] c (fun r c' => r = some (.int (nI (mout w t m n R kd sz nd))) ∧ mfr [11, 12, 13] c c') := by
  have h1 := hV.2.2.2.2.1.1
  refine mx_Spec_E rfl rfl rfl ?_
  refine mR 1 rfl trivial ?_
  rcases (show w = 0 ∨ w = 1 by omega) with rfl | rfl
  · refine mx_E_br rfl rfl (fun h => absurd rfl h) (fun _ => ?_)
    refine mR 3 rfl trivial ?_
    refine mx_E_callV (sp_Mo_sincere4 (k := 0) _ hV (by omega)) rfl rfl rfl (fun r c1 h => ?_)
    obtain ⟨rfl, hf⟩ := h
    refine mR 1 rfl trivial ?_
    exact mx_E_iret rfl rfl ⟨rfl, mfr_mo hf (fun r hr => by simp at hr; simp [hr])⟩
  · refine mx_E_br rfl rfl (fun _ => ?_) (fun h => absurd (by decide) h)
    refine mR 3 rfl trivial ?_
    refine mx_E_callV (sp_Mo_foreseen4 (k := 0) _ hV (by omega)) rfl rfl rfl (fun r c1 h => ?_)
    obtain ⟨rfl, hf⟩ := h
    exact mx_E_iret rfl rfl ⟨rfl, mfr_mo hf (fun r hr => by simp at hr; rcases hr with hr | hr <;> simp [hr])⟩
