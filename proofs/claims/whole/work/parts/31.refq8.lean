theorem lp_Mo_setsOfW {Q : Option Value → mx_M → Prop} {c : mx_M} {n nd : Nat} {kd : Nat → Option Nat} {sz : Nat → Nat} (hV : n ≤ 6 ∧ mtree n kd sz nd ∧ rTb (c 3) kd sz nd) (hq : ∀ c', mfr [12] c c' → (∀ j, j < nd → c' 12 j = nI (mset kd sz nd j)) → Q none c') :
    ∀ (k : Nat) (c1 : mx_M), k ≤ nd → mfr [12] c c1 → (∀ j, k ≤ j → j < nd → c1 12 j = nI (mset kd sz nd j)) → mx_E 1 1 m_Mo_setsOf Q 6 [.ref 0, .ref 3, .int (nI k - 1)] [] c1
  | 0, c1, hk, hfr, hi => by
    refine mR 1 rfl trivial ?_
    refine mx_E_br rfl rfl (fun _ => ?_) (fun h => absurd (by decide) h)
    exact mx_E_vret rfl rfl (hq c1 hfr (fun j hj => hi j (Nat.zero_le j) hj))
  | k + 1, c1, hk, hfr, hi => by
    have hV0 := hV
    obtain ⟨h6, hM, hT0⟩ := hV0
    have hT : rTb (c1 3) kd sz nd := by rw [hfr 3 (by decide)]; exact hT0
    have h63 := hM.2.1
    have hkd := rd_kd3 hT h63 (show k < nd by omega)
    rw [nI_p1]
    refine mR 1 rfl trivial ?_
    refine mx_E_br rfl rfl (fun h => absurd h (nI_pos (by omega))) (fun _ => ?_)
    refine mR 9 rfl (mA1 (by rw [ixA 55 rfl]; exact mI (by omega))) ?_
    rw [hkd]
    cases e : kd k with
    | some q =>
      obtain ⟨hq6, -⟩ := mtree_leaf hM (show k < nd by omega) e
      refine mx_E_br rfl rfl (fun h => absurd h (kI_ne (by omega))) (fun _ => ?_)
      rw [e] at hkd
      refine mR 11 rfl (mA2 (by rw [ixA 55 rfl]; exact mI (by omega)) (mI (by omega))) ?_
      rw [hkd]
      have ev : (1 : Int32) <<< (kI (some q) &&& 31) = nI (mset kd sz nd k) := by
        rw [show mset kd sz nd k = 2 ^ q from mF_leaf _ _ (by omega) e]
        exact nI_shl1 (by omega)
      rw [ev, nI_cl (by omega), nI_m1]
      refine lp_Mo_setsOfW (c := c) hV hq k _ (by omega) (mfr_up hfr (by decide)) (fun j h1 h2 => ?_)
      · rcases Nat.lt_or_ge k j with h3 | h3
        · rw [mx_up_ix _ _ _ _ _ _ (by omega)]
          exact hi j (by omega) h2
        · have e2 : j = k := by omega
          rw [e2, mx_up_same]
    | none =>
      obtain ⟨g1, g2, g3, g4, g5, g6⟩ := mtree_vote hM (show k < nd by omega) e
      refine mx_E_br rfl rfl (fun _ => ?_) (fun h => absurd rfl h)
      have on := rd_on3 hT h63 (show k < nd by omega) e
      have tw := rd_tw3 hT h63 (show k < nd by omega) e
      refine mR 20 rfl (mA5 (by rw [ixA 118 rfl]; exact mI (by omega)) (by rw [on]; exact mI (by omega)) (by rw [ixA 181 rfl]; exact mI (by omega)) (by rw [tw]; exact mI (by omega)) (mI (by omega))) ?_
      rw [on, tw, nI_cl (by omega), nI_cl (by omega), nI_cl (by omega), hi (k + 1) (by omega) (by omega), hi (k + 1 + sz (k + 1)) (by omega) (by omega), fa_or, nI_m1]
      refine lp_Mo_setsOfW (c := c) hV hq k _ (by omega) (mfr_up hfr (by decide)) (fun j h1 h2 => ?_)
      · rcases Nat.lt_or_ge k j with h3 | h3
        · rw [mx_up_ix _ _ _ _ _ _ (by omega)]
          exact hi j (by omega) h2
        · have e2 : j = k := by omega
          rw [e2, mx_up_same, show mset kd sz nd k = mset kd sz nd (k + 1) ||| mset kd sz nd (k + 1 + sz (k + 1)) from mF_vote _ _ hM (by omega) e]
theorem sp_Mo_setsOfW (c : mx_M) {n nd : Nat} {kd : Nat → Option Nat} {sz : Nat → Nat} (hV : n ≤ 6 ∧ mtree n kd sz nd ∧ rTb (c 3) kd sz nd) : mx_Spec 1 1 m_Mo_setsOf [.ref 0, .ref 3] c (fun r c' => r = none ∧ mfr [12] c c' ∧ ∀ j, j < nd → c' 12 j = nI (mset kd sz nd j)) := by
  refine mx_Spec_E rfl rfl rfl ?_
  refine mR 6 rfl (mA1 (mI (n := 54) (by decide))) ?_
  refine mS (lp_Mo_setsOfW hV (fun c' h1 h2 => ⟨rfl, h1, h2⟩) nd c (Nat.le_refl nd) (mfr_rf _ _) (fun j h1 h2 => by omega)) ?_ rfl rfl
  rw [show ((54 : Int32)).toNatClampNeg = 54 by decide, hV.2.2.1]
abbrev aK (a : mSt) : Nat → Option Nat := a.2.1.2.1
abbrev aZ (a : mSt) : Nat → Nat := a.2.1.2.2.1
abbrev aD (a : mSt) : Nat := a.2.1.2.2.2
/-- the motions of a node -/
def aS (a : mSt) (k : Nat) : Nat := mset (aK a) (aZ a) (aD a) k
theorem rI_W {c : mx_M} {a : mSt} (h : rI c a) : a.1.1 ≤ 6 ∧ mtree a.1.1 (aK a) (aZ a) (aD a) ∧ rTb (c 3) (aK a) (aZ a) (aD a) := ⟨h.1.2.2.1.2, h.2.1.2.2.1, h.2.1.2.2.2⟩
def aSees (a : mSt) (x y : Int32) : Int32 × mSt := if mi x (aD a) && mi y 2 then (match aK a x.toNatClampNeg with
  | some _ => (-2, a)
  | none => if a.2.2.2.1.1 = 6 then (-3, a) else (nI (a.2.2.2.1.1 + 1), (a.1, a.2.1, a.2.2.1, (a.2.2.2.1.1 + 1, fun i => if i = a.2.2.2.1.1 then (aS a (x.toNatClampNeg + 1), aS a (x.toNatClampNeg + 1 + aZ a (x.toNatClampNeg + 1)), y.toNatClampNeg) else a.2.2.2.1.2 i), a.2.2.2.2))) else mBAD a
theorem qr_sees {c : mx_M} {a : mSt} (x y : Int32) (h : rI c a) : mx_Spec 1 3 m_Mo_sees [.ref 0, .int x, .int y] c (fun r c' => r = some (.int (aSees a x y).1) ∧ rI c' (aSees a x y).2) := by
  have h0 := rI_0 0 h
  obtain ⟨h6, hM, hT⟩ := rI_W h0
  have h63 := hM.2.1
  refine mx_Spec_E rfl rfl rfl ?_
  refine mR 5 rfl trivial ?_
  refine mx_E_callV (sp_Mo_isNode _ x (aD a) hT.1 (by omega)) rfl rfl rfl (fun r c1 hr => ?_)
  obtain ⟨rfl, hz⟩ := hr
  rw [hz]
  unfold aSees
  refine mbT rfl (fun hb => ?_) (fun hb => ?_)
  · rw [hb]
    refine mR 1 rfl trivial ?_
    exact mx_E_iret rfl rfl ⟨rfl, h0⟩
  · refine mR 3 rfl trivial ?_
    refine mx_E_callS (sp_Mo_in _ _ _ _) rfl rfl rfl (fun r c1 hr => ?_)
    obtain ⟨rfl, hz⟩ := hr
    rw [hz, show decide ((0 : Int32) ≤ y ∧ y ≤ 1) = mi y 2 from in_mk y 1 (by decide)]
    refine mbF rfl (fun hb2 => ?_) (fun hb2 => ?_)
    · rw [hb, hb2]
      obtain ⟨i, hi, rfl⟩ := mi_of (by omega) hb
      obtain ⟨j, hj, rfl⟩ := mi_of (by omega) hb2
      rw [nI_cl (a := i) (by omega), nI_cl (a := j) (by omega)]
      refine mR 7 rfl (mA1 (by rw [ixA 55 rfl]; exact mI (by omega))) ?_
      rw [rd_kd3 hT h63 hi]
      cases e : aK a i with
      | some q =>
        obtain ⟨hq6, -⟩ := mtree_leaf hM hi e
        refine mx_E_br rfl rfl (fun h => absurd h (kI_ne (by omega))) (fun _ => ?_)
        refine mR 1 rfl trivial ?_
        exact mx_E_iret rfl rfl ⟨rfl, h0⟩
      | none =>
        obtain ⟨g1, g2, g3, g4, g5, g6⟩ := mtree_vote hM hi e
        obtain ⟨s22, s6, sS⟩ := h0.2.2.2.1
        refine mx_E_br rfl rfl (fun _ => ?_) (fun h => absurd rfl h)
        refine mR 3 rfl trivial ?_
        rw [s22, show (6 : Int32) = nI 6 from rfl]
        refine mbNe _ _ rfl (by omega) (by decide) (fun hc => ?_) (fun hc => ?_)
        · refine mR 3 rfl trivial ?_
          refine mx_E_callV (sp_Mo_setsOfW _ (rI_W h0)) rfl rfl rfl (fun r c1 hr => ?_)
          obtain ⟨rfl, hf, hS⟩ := hr
          have h1 := rI_fr h0 (mfr_mo hf (by decide))
          obtain ⟨t22, t6, tS⟩ := h1.2.2.2.1
          obtain ⟨-, -, hT1⟩ := rI_W h1
          have on := rd_on3 hT1 h63 hi e
          have tw := rd_tw3 hT1 h63 hi e
          rw [show ((if a.2.2.2.1.1 = 6 then ((-3 : Int32), a) else (nI (a.2.2.2.1.1 + 1), (a.1, a.2.1, a.2.2.1, (a.2.2.2.1.1 + 1, fun u => if u = a.2.2.2.1.1 then (aS a (i + 1), aS a (i + 1 + aZ a (i + 1)), j) else a.2.2.2.1.2 u), a.2.2.2.2)))) = (nI (a.2.2.2.1.1 + 1), (a.1, a.2.1, a.2.2.1, (a.2.2.2.1.1 + 1, fun u => if u = a.2.2.2.1.1 then (aS a (i + 1), aS a (i + 1 + aZ a (i + 1)), j) else a.2.2.2.1.2 u), a.2.2.2.2)) from if_neg hc]
          obtain ⟨w, hw⟩ : ∃ w, w = a.2.2.2.1.1 := ⟨_, rfl⟩
          have ec : (nI w).toNatClampNeg = w := nI_cl (by omega)
          rw [← hw] at t22 hc t6 tS
          refine mR 14 rfl (mA3 (by rw [ixA 118 rfl]; exact mI (by omega)) (by rw [on]; exact mI (by omega)) (by rw [t22]; exact mI (by omega))) ?_
          rw [on, t22, ec, nI_cl (a := i + 1) (by omega), hS (i + 1) g5]
          obtain ⟨c2, hc2⟩ : ∃ c2, c2 = mx_up c1 8 w (nI (mset (aK a) (aZ a) (aD a) (i + 1))) := ⟨_, rfl⟩
          rw [← hc2]
          have k3 : c2 3 = c1 3 := by rw [hc2, mx_up_rid _ _ _ _ _ (by decide)]
          have k12 : c2 12 = c1 12 := by rw [hc2, mx_up_rid _ _ _ _ _ (by decide)]
          have k22 : c2 0 22 = nI w := by rw [hc2, mx_up_id _ _ _ _ _ _ (by decide)]; exact t22
          refine mR 14 rfl (mA3 (by rw [ixA 181 rfl]; exact mI (by omega)) (by rw [k3, tw]; exact mI (by omega)) (by rw [k22]; exact mI (by omega))) ?_
          rw [k3, tw, k22, ec, nI_cl (a := i + 1 + aZ a (i + 1)) (by omega), k12, hS (i + 1 + aZ a (i + 1)) g6]
          obtain ⟨c3, hc3⟩ : ∃ c3, c3 = mx_up c2 9 w (nI (mset (aK a) (aZ a) (aD a) (i + 1 + aZ a (i + 1)))) := ⟨_, rfl⟩
          rw [← hc3]
          have l22 : c3 0 22 = nI w := by rw [hc3, mx_up_id _ _ _ _ _ _ (by decide)]; exact k22
          refine mR 6 rfl (mA1 (by rw [l22]; exact mI (by omega))) ?_
          rw [l22, ec]
          obtain ⟨c4, hc4⟩ : ∃ c4, c4 = mx_up c3 10 w (nI j) := ⟨_, rfl⟩
          rw [← hc4]
          have m22 : c4 0 22 = nI w := by rw [hc4, mx_up_id _ _ _ _ _ _ (by decide)]; exact l22
          refine mR 8 rfl trivial ?_
          rw [m22, nI_1, mx_up_same]
          refine mx_E_iret rfl rfl ⟨by rw [hw]; rfl, ?_⟩
          have f4 : mfr [8, 9, 10] c1 c4 := by
            rw [hc4, hc3, hc2]
            exact mfr_up (mfr_up (mfr_up (mfr_rf _ _) (by decide)) (by decide)) (by decide)
          have r8 : ∀ u, c4 8 u = if u = w then nI (mset (aK a) (aZ a) (aD a) (i + 1)) else c1 8 u := fun u => by
            rw [hc4, mx_up_id _ _ _ _ _ _ (by decide), hc3, mx_up_id _ _ _ _ _ _ (by decide), hc2]
            by_cases q : u = w
            · rw [q, mx_up_same, if_pos rfl]
            · rw [mx_up_ix _ _ _ _ _ _ q, if_neg q]
          have r9 : ∀ u, c4 9 u = if u = w then nI (mset (aK a) (aZ a) (aD a) (i + 1 + aZ a (i + 1))) else c1 9 u := fun u => by
            rw [hc4, mx_up_id _ _ _ _ _ _ (by decide), hc3]
            by_cases q : u = w
            · rw [q, mx_up_same, if_pos rfl]
            · rw [mx_up_ix _ _ _ _ _ _ q, if_neg q, hc2, mx_up_id _ _ _ _ _ _ (by decide)]
          have r10 : ∀ u, c4 10 u = if u = w then nI j else c1 10 u := fun u => by
            rw [hc4]
            by_cases q : u = w
            · rw [q, mx_up_same, if_pos rfl]
            · rw [mx_up_ix _ _ _ _ _ _ q, if_neg q, hc3, mx_up_id _ _ _ _ _ _ (by decide), hc2, mx_up_id _ _ _ _ _ _ (by decide)]
          obtain ⟨q1, q2, q3, q4, q5, q6⟩ := h1
          refine ⟨?_, ?_, ?_, ⟨?_, by show a.2.2.2.1.1 + 1 ≤ 6; omega, fun u hu => ?_⟩, ?_, ?_⟩
          · rw [mx_up_ix _ _ _ _ 0 8 (by decide), mx_up_ix _ _ _ _ 0 9 (by decide), f4 0 (by decide)]; exact q1
          · rw [mx_up_rid _ _ _ _ 3 (by decide), f4 3 (by decide)]; exact q2
          · rw [mx_up_ix _ _ _ _ 0 2 (by decide), f4 0 (by decide), mx_up_rid _ _ _ _ 1 (by decide), f4 1 (by decide)]; exact q3
          · rw [mx_up_same, hw]; rfl
          · have hu2 : u < w + 1 := by rw [hw]; exact hu
            rw [mx_up_rid _ _ _ _ 8 (by decide), mx_up_rid _ _ _ _ 9 (by decide), mx_up_rid _ _ _ _ 10 (by decide), r8, r9, r10]
            show _ = nI ((if u = a.2.2.2.1.1 then (aS a (i + 1), aS a (i + 1 + aZ a (i + 1)), j) else a.2.2.2.1.2 u).1) ∧ _ = nI ((if u = a.2.2.2.1.1 then (aS a (i + 1), aS a (i + 1 + aZ a (i + 1)), j) else a.2.2.2.1.2 u).2.1) ∧ _ = nI ((if u = a.2.2.2.1.1 then (aS a (i + 1), aS a (i + 1 + aZ a (i + 1)), j) else a.2.2.2.1.2 u).2.2) ∧ (if u = a.2.2.2.1.1 then (aS a (i + 1), aS a (i + 1 + aZ a (i + 1)), j) else a.2.2.2.1.2 u).1 < 64 ∧ (if u = a.2.2.2.1.1 then (aS a (i + 1), aS a (i + 1 + aZ a (i + 1)), j) else a.2.2.2.1.2 u).2.1 < 64 ∧ (if u = a.2.2.2.1.1 then (aS a (i + 1), aS a (i + 1 + aZ a (i + 1)), j) else a.2.2.2.1.2 u).2.2 < 2
            rw [← hw]
            by_cases q : u = w
            · rw [if_pos q, if_pos q, if_pos q, if_pos q]
              exact ⟨rfl, rfl, rfl, mset_lt h6 hM g5, mset_lt h6 hM g6, hj⟩
            · rw [if_neg q, if_neg q, if_neg q, if_neg q]
              exact tS u (by omega)
          · rw [mx_up_ix _ _ _ _ 0 16 (by decide), f4 0 (by decide), mx_up_rid _ _ _ _ 5 (by decide), f4 5 (by decide)]; exact q5
          · rw [mx_up_rid _ _ _ _ 7 (by decide), f4 7 (by decide), mx_up_rid _ _ _ _ 6 (by decide), f4 6 (by decide)]; exact q6
        · refine mR 1 rfl trivial ?_
          refine mx_E_iret rfl rfl ?_
          rw [if_pos hc]
          exact ⟨rfl, h0⟩
    · rw [hb2, Bool.and_false]
      refine mR 1 rfl trivial ?_
      exact mx_E_iret rfl rfl ⟨rfl, h0⟩
theorem sp_Mo_isVote (c : mx_M) {a : mSt} {k : Nat} (h : rI c a) (hk : k < aD a) : mx_Spec 1 3 m_Mo_isVote [.ref 0, .int (nI k)] c (fun r c' => r = some (.int (mz (aK a k).isNone)) ∧ c' = c) := by
  obtain ⟨h6, hM, hT⟩ := rI_W h
  have h63 := hM.2.1
  refine mx_Spec_E rfl rfl rfl ?_
  refine mR 2 rfl trivial ?_
  refine mx_E_callV (sp_Mo_isNode _ (nI k) (aD a) hT.1 (by omega)) rfl rfl rfl (fun r c1 hr => ?_)
  obtain ⟨rfl, hz⟩ := hr
  rw [hz, mi_t hk (by omega)]
  refine mbT rfl (fun hb => (by cases hb)) (fun _ => ?_)
  refine mR 7 rfl (mA1 (by rw [ixA 55 rfl]; exact mI (by omega))) ?_
  rw [rd_kd3 hT h63 hk]
  cases e : aK a k with
  | some q =>
    obtain ⟨hq6, -⟩ := mtree_leaf hM hk e
    refine mx_E_br rfl rfl (fun _ => ?_) (fun h => absurd (kI_ne (by omega)) h)
    refine mR 1 rfl trivial ?_
    exact mx_E_zret rfl rfl (Or.inl rfl) ⟨rfl, rfl⟩
  | none =>
    refine mx_E_br rfl rfl (fun h => absurd rfl h) (fun _ => ?_)
    refine mR 2 rfl trivial ?_
    exact mx_E_zret rfl rfl (Or.inr rfl) ⟨rfl, rfl⟩
theorem sp_Mo_branchAt (c : mx_M) {a : mSt} {k : Nat} {f : Nat → Nat} (h : rI c a) (hk : k < aD a) (e : aK a k = none) (hS : ∀ j, j < aD a → c 12 j = nI (aS a j)) (hf : ∀ p, p < a.1.1 → f p < a.1.1 ∧ c 14 p = nI (f p)) : mx_Spec 1 3 m_Mo_branchAt [.ref 0, .int (nI k)] c (fun r c' => r = some (.int (mz (!(mlk f a.1.1 (aS a (k + 1)) (aS a (k + 1 + aZ a (k + 1))))))) ∧ c' = c) := by
  obtain ⟨h6, hM, hT⟩ := rI_W h
  have h63 := hM.2.1
  obtain ⟨g1, g2, g3, g4, g5, g6⟩ := mtree_vote hM hk e
  have on := rd_on3 hT h63 hk e
  have tw := rd_tw3 hT h63 hk e
  have l1 := mset_lt h6 hM g5
  have l2 := mset_lt h6 hM g6
  refine mx_Spec_E rfl rfl rfl ?_
  refine mR 22 rfl (mA4 (by rw [ixA 118 rfl]; exact mI (by omega)) (by rw [on]; exact mI (by omega)) (by rw [ixA 181 rfl]; exact mI (by omega)) (by rw [tw]; exact mI (by omega))) ?_
  rw [on, tw, nI_cl (a := k + 1) (by omega), nI_cl (a := k + 1 + aZ a (k + 1)) (by omega), hS _ g5, hS _ g6]
  refine mx_E_callV (sp_Mo_branchOf14 (at0 := 0) _ h.1.1 h6 (by omega) (show aS a (k + 1) < 2147483648 from Nat.lt_of_lt_of_le l1 (by decide)) (show aS a (k + 1 + aZ a (k + 1)) < 2147483648 from Nat.lt_of_lt_of_le l2 (by decide)) (fun p hp => by rw [Nat.zero_add]; exact hf p hp)) rfl rfl rfl (fun r c1 hr => ?_)
  obtain ⟨rfl, hz⟩ := hr
  exact mx_E_iret rfl rfl ⟨rfl, hz⟩
/-- whether a ranking votes as was seen -/
def aAs (a : mSt) (f : Nat → Nat) : Nat → Bool
  | 0 => true
  | e + 1 => aAs a f e && (mlk f a.1.1 (a.2.2.2.1.2 e).1 (a.2.2.2.1.2 e).2.1 == decide ((a.2.2.2.1.2 e).2.2 = 0))
theorem lp_Mo_isAsSeen {Q : Option Value → mx_M → Prop} {c : mx_M} {a : mSt} {f : Nat → Nat} (h : rI c a) (hf : ∀ p, p < a.1.1 → f p < a.1.1 ∧ c 14 p = nI (f p)) (hq : Q (some (.int (mz (aAs a f a.2.2.2.1.1)))) c) :
    ∀ (u e : Nat), e + u = a.2.2.2.1.1 → mx_E 1 3 m_Mo_isAsSeen Q 4 [.ref 0, .int (mz (aAs a f e)), .int (nI e)] [] c
  | 0, e, he => by
    obtain ⟨s22, s6, sS⟩ := h.2.2.2.1
    have ee : e = a.2.2.2.1.1 := by omega
    rw [ee]
    refine mR 3 rfl trivial ?_
    rw [s22]
    refine mbGe _ _ rfl (by omega) (by omega) (fun _ => ?_) (fun h => by omega)
    refine mR 1 rfl trivial ?_
    exact mx_E_zret rfl rfl (mz_01 _) hq
  | u + 1, e, he => by
    obtain ⟨s22, s6, sS⟩ := h.2.2.2.1
    obtain ⟨e8, e9, e10, l1, l2, l3⟩ := sS e (by omega)
    have hs : aAs a f (e + 1) = (aAs a f e && (mlk f a.1.1 (a.2.2.2.1.2 e).1 (a.2.2.2.1.2 e).2.1 == decide ((a.2.2.2.1.2 e).2.2 = 0))) := rfl
    refine mR 3 rfl trivial ?_
    rw [s22]
    refine mbGe _ _ rfl (by omega) (by omega) (fun h => by omega) (fun _ => ?_)
    refine mR 1 rfl trivial ?_
    refine mbT rfl (fun hb => ?_) (fun hb => ?_)
    · refine mR 4 rfl trivial ?_
      refine mS (lp_Mo_isAsSeen h hf hq u (e + 1) (by omega)) ?_ rfl rfl
      rw [hs, hb, nI_1]
      rfl
    · refine mR 12 rfl (mA2 (mI (by omega)) (mI (by omega))) ?_
      rw [nI_cl (a := e) (by omega), e8, e9]
      refine mx_E_callV (sp_Mo_branchOf14 (at0 := 0) _ h.1.1 h.1.2.2.1.2 (by have := h.1.2.2.1.2; omega) (by omega) (by omega) (fun p hp => by rw [Nat.zero_add]; exact hf p hp)) rfl rfl rfl (fun r c1 hr => ?_)
      obtain ⟨rfl, hz⟩ := hr
      rw [hz]
      refine mR 4 rfl (mA1 (mI (by omega))) ?_
      rw [nI_cl (a := e) (by omega), e10]
      have key : (mz (!(mlk f a.1.1 (a.2.2.2.1.2 e).1 (a.2.2.2.1.2 e).2.1)) = nI (a.2.2.2.1.2 e).2.2) ↔ (mlk f a.1.1 (a.2.2.2.1.2 e).1 (a.2.2.2.1.2 e).2.1 == decide ((a.2.2.2.1.2 e).2.2 = 0)) = true := by
        rcases (show (a.2.2.2.1.2 e).2.2 = 0 ∨ (a.2.2.2.1.2 e).2.2 = 1 by omega) with q | q <;> rw [q] <;> cases mlk f a.1.1 (a.2.2.2.1.2 e).1 (a.2.2.2.1.2 e).2.1 <;> decide
      refine mx_E_br rfl rfl (fun hc => ?_) (fun hc => ?_)
      · refine mR 4 rfl trivial ?_
        refine mS (lp_Mo_isAsSeen h hf hq u (e + 1) (by omega)) ?_ rfl rfl
        rw [hs, hb, show (mlk f a.1.1 (a.2.2.2.1.2 e).1 (a.2.2.2.1.2 e).2.1 == decide ((a.2.2.2.1.2 e).2.2 = 0)) = false from by
          rw [Bool.eq_false_iff]
          exact fun z => hc (key.mpr z), nI_1]
        rfl
      · refine mR 5 rfl trivial ?_
        refine mS (lp_Mo_isAsSeen h hf hq u (e + 1) (by omega)) ?_ rfl rfl
        rw [hs, hb, key.mp (Decidable.not_not.mp hc), nI_1]
        rfl
theorem sp_Mo_isAsSeen (c : mx_M) {a : mSt} {f : Nat → Nat} (h : rI c a) (hf : ∀ p, p < a.1.1 → f p < a.1.1 ∧ c 14 p = nI (f p)) : mx_Spec 1 3 m_Mo_isAsSeen [.ref 0] c (fun r c' => r = some (.int (mz (aAs a f a.2.2.2.1.1))) ∧ c' = c) := by
  refine mx_Spec_E rfl rfl rfl ?_
  refine mR 4 rfl trivial ?_
  exact lp_Mo_isAsSeen h hf ⟨rfl, rfl⟩ a.2.2.2.1.1 0 (by omega)
