theorem lp_Mo_tells {Q : Option Value → mx_M → Prop} {c : mx_M} {n i k : Nat} {f : Nat → Nat} (hn : n ≤ 6) (hi : i < 9) (h8 : c 0 8 = nI n) (h14 : ∀ p, p < n → c 14 p = nI (f p)) (hk : mx_E 1 3 m_Mo_tells Q 24 [.ref 0, .ref 4, .int (nI i), .int (nI k), .int (nI n)] [] (mx_upR c 4 (fb_put (c 4) (fun p => nI (f p)) (6 * i) n))) :
    ∀ (u p : Nat), p + u = n → mx_E 1 3 m_Mo_tells Q 7 [.ref 0, .ref 4, .int (nI i), .int (nI k), .int (nI p)] [] (mx_upR c 4 (fb_put (c 4) (fun p => nI (f p)) (6 * i) p))
  | 0, p, h => by
    have e : p = n := by omega
    subst e
    refine mR 3 rfl trivial ?_
    rw [mx_upR_rid _ _ _ 0 (by decide), h8]
    refine mbGe p p rfl (by omega) (by omega) (fun _ => ?_) (fun h => by omega)
    exact hk
  | u + 1, p, h => by
    refine mR 3 rfl trivial ?_
    rw [mx_upR_rid _ _ _ 0 (by decide), h8]
    refine mbGe p n rfl (by omega) (by omega) (fun h => by omega) (fun _ => ?_)
    refine mR 13 rfl (mA2 (mI (by omega)) (by rw [ix6]; exact mI (by omega))) ?_
    rw [ix6, mx_upR_rid _ _ _ 14 (by decide), nI_cl (a := p) (by omega), nI_cl (a := 6 * i + p) (by omega), h14 p (by omega), mx_up_put, fb_put_succ (c 4) (fun p => nI (f p)), nI_1]
    exact lp_Mo_tells hn hi h8 h14 hk u (p + 1) (by omega)
theorem sp_Mo_tells (c : mx_M) {n i k : Nat} (hn : mn n) (hi : i < 9) (hk : k < mfact n) (h8 : c 0 8 = nI n) : mx_Spec 1 3 m_Mo_tells [.ref 0, .ref 4, .int (nI i), .int (nI k)] c (fun r c' => r = none ∧ mfr [4, 14] c c' ∧ (∀ p, p < n → c' 4 (6 * i + p) = nI (mo n k p)) ∧ ∀ z, (z < 6 * i ∨ 6 * i + n ≤ z) → c' 4 z = c 4 z) := by
  refine mx_Spec_E rfl rfl rfl ?_
  refine mR 4 rfl trivial ?_
  rw [h8]
  refine mx_E_callV (sp_Mo_orderOf _ n k hn hk) rfl rfl rfl (fun r c1 hr => ?_)
  obtain ⟨rfl, hc1⟩ := hr
  refine mR 2 rfl trivial ?_
  have f14 : mfr [14] c c1 := fun r hr => by rw [hc1]; exact mx_upR_rid _ _ _ _ (fun e => hr (by rw [e]; decide))
  refine mS (lp_Mo_tells (c := c1) (f := mo n k) hn.2 hi (by rw [f14 0 (by decide)]; exact h8) (fun p hp => by rw [hc1, mx_upR_row, fa_fill_in hp]) ?_ n 0 (by omega)) rfl rfl (by rw [fb_put_0, mx_upR_self])
  refine mx_E_vret rfl rfl ⟨rfl, ?_, ?_, ?_⟩
  · intro r hr
    have hr2 := hr
    simp only [List.mem_cons, List.not_mem_nil, or_false, not_or] at hr
    rw [mx_upR_rid _ _ _ _ hr.1, f14 r (by simp [hr.2])]
  · intro p hp
    rw [mx_upR_row, fb_put_in (by omega) (by omega), Nat.add_sub_cancel_left]
  · intro z hz
    rw [mx_upR_row, fb_put_out hz, f14 4 (by decide)]
theorem rP_rr {g g' : Nat → Int32} {n m i : Nat} {p : mPic} {f : Nat → Nat} (hn : n ≤ 6) (hm : m ≤ 9) (hi : i < m) (hf : mperm n f) (h : rP g n m p) (e1 : ∀ q, q < n → g' (6 * i + q) = nI (f q)) (e2 : ∀ z, z < 244 → (z < 6 * i ∨ 6 * i + n ≤ z) → g' z = g z) : rP g' n m (pRr p i f) := by
  obtain ⟨h1, h2, h3, h4, h5⟩ := h
  have h63 := h3.2.1
  refine ⟨fun j hj => ?_, fun j q hj hq => ?_, h3, by rw [e2 _ (by omega) (by omega)]; exact h4, fun k hk => ?_⟩
  · show mperm n (if j = i then f else p.1 j)
    split
    · exact hf
    · exact h1 j hj
  · show _ = nI ((if j = i then f else p.1 j) q)
    by_cases e : j = i
    · rw [if_pos e, e]
      exact e1 q hq
    · rw [if_neg e, e2 _ (by omega) (by omega)]
      exact h2 j q hj hq
  · have hk2 : k < p.2.2.2 := hk
    rw [e2 _ (by omega) (by omega), e2 _ (by omega) (by omega), e2 _ (by omega) (by omega)]
    exact h5 k hk
def bOut (a : mSt) (w i k : Nat) : Nat := aOut a w (pRr a.2.1 i (mo a.1.1 k))
def bPl (a : mSt) (w i k : Nat) : Nat := mpos (a.2.1.1 i) a.1.1 (bOut a w i k)
def bNow (a : mSt) (w i : Nat) : Nat := mpos (a.2.1.1 i) a.1.1 (aOut a w a.2.1)
def bIx (a : mSt) (w i : Nat) : Nat → Nat
  | 0 => 0
  | k + 1 => if bPl a w i (k + 1) < bPl a w i (bIx a w i k) then k + 1 else bIx a w i k
theorem bIx_le (a : mSt) (w i : Nat) : ∀ k, bIx a w i k ≤ k
  | 0 => Nat.le_refl 0
  | k + 1 => by
    have := bIx_le a w i k
    unfold bIx
    split <;> omega
def bB (a : mSt) (w i k : Nat) : Bool := decide (bPl a w i k < bNow a w i)
def aBetter (a : mSt) (x w y : Int32) : Int32 × mSt := if mi x a.1.2 && mi w 2 && mi y 3 then ((if y = 0 then nI (fb_ct (bB a w.toNatClampNeg x.toNatClampNeg) (mfact a.1.1)) else if y = 1 then nI (bOut a w.toNatClampNeg x.toNatClampNeg (bIx a w.toNatClampNeg x.toNatClampNeg (mfact a.1.1 - 1))) else nI (bIx a w.toNatClampNeg x.toNatClampNeg (mfact a.1.1 - 1))), a) else mBAD a
def bIts (a : mSt) (w i : Nat) (k : Nat) : Int32 := match k with
  | 0 => -9
  | k + 1 => nI (bOut a w i (bIx a w i k))
def bFst (a : mSt) (w i : Nat) (k : Nat) : Int32 := match k with
  | 0 => -9
  | k + 1 => nI (bIx a w i k)
theorem lp_Mo_better {Q : Option Value → mx_M → Prop} {a : mSt} {x w y : Nat} (hx : x < a.1.2) (hw : w < 2) (hy : y < 3) (hnl : aOut a w a.2.1 < a.1.1) (hbl : ∀ k, k < mfact a.1.1 → bOut a w x k < a.1.1) (hq : ∀ c', rI c' a → Q (some (.int (if nI y = 0 then nI (fb_ct (bB a w x) (mfact a.1.1)) else if nI y = 1 then nI (bOut a w x (bIx a w x (mfact a.1.1 - 1))) else nI (bIx a w x (mfact a.1.1 - 1))))) c') :
    ∀ (u k : Nat) (c1 : mx_M), k + u = mfact a.1.1 → rI c1 a → c1 0 23 = nI (mall a) → (∀ z, z < 244 → (z < 6 * x ∨ 6 * x + a.1.1 ≤ z) → c1 4 z = c1 3 z) → mx_E 1 6 m_Mo_better Q 38 [.ref 0, .int (nI x), .int (nI w), .int (nI y), .int (nI (aOut a w a.2.1)), .int (nI (fb_ct (bB a w x) k)), .int (bIts a w x k), .int (bFst a w x k), .int (nI k), .null] [] c1
  | 0, k, c1, h, hI, h23, h4 => by
    obtain ⟨h8, h9, hn, hm⟩ := hI.1
    have h6 := hn.2
    have hfl := mfact_le a.1.1 (by omega)
    have e : k = mfact a.1.1 := by omega
    rw [e]
    refine mR 3 rfl trivial ?_
    rw [h8]
    refine mx_E_callS (sp_Mo_orders _ a.1.1 (by omega)) rfl rfl rfl (fun r c2 hr => ?_)
    obtain ⟨rfl, hz⟩ := hr
    rw [hz]
    refine mbGe _ _ rfl (by omega) (by omega) (fun _ => ?_) (fun h => by omega)
    refine mR 1 rfl trivial ?_
    have hq2 := hq _ hI
    obtain ⟨N, hN⟩ : ∃ N, mfact a.1.1 = N + 1 := ⟨mfact a.1.1 - 1, by omega⟩
    rw [hN] at hq2
    rw [hN]
    rcases (show y = 0 ∨ y = 1 ∨ y = 2 by omega) with rfl | rfl | rfl
    · refine mx_E_br rfl rfl (fun h => absurd rfl h) (fun _ => ?_)
      refine mR 2 rfl trivial ?_
      exact mx_E_iret rfl rfl hq2
    · refine mx_E_br rfl rfl (fun _ => ?_) (fun h => absurd (by decide) h)
      refine mR 2 rfl trivial ?_
      refine mx_E_br rfl rfl (fun h => absurd (by decide) h) (fun _ => ?_)
      refine mR 2 rfl trivial ?_
      exact mx_E_iret rfl rfl hq2
    · refine mx_E_br rfl rfl (fun _ => ?_) (fun h => absurd (by decide) h)
      refine mR 2 rfl trivial ?_
      refine mx_E_br rfl rfl (fun _ => ?_) (fun h => absurd (by decide) h)
      refine mR 1 rfl trivial ?_
      exact mx_E_iret rfl rfl hq2
  | u + 1, k, c1, h, hI, h23, h4 => by
    obtain ⟨h8, h9, hn, hm⟩ := hI.1
    have h6 := hn.2
    have hfl := mfact_le a.1.1 (by omega)
    have hk : k < mfact a.1.1 := by omega
    have hct := fb_ct_le (bB a w x) k
    have hbk := hbl k hk
    have hpx := hI.2.1.1 x hx
    refine mR 3 rfl trivial ?_
    rw [h8]
    refine mx_E_callS (sp_Mo_orders _ a.1.1 (by omega)) rfl rfl rfl (fun r c2 hr => ?_)
    obtain ⟨rfl, hz⟩ := hr
    rw [hz]
    refine mbGe _ _ rfl (by omega) (by omega) (fun h => by omega) (fun _ => ?_)
    refine mR 5 rfl trivial ?_
    refine mx_E_callV (sp_Mo_tells (n := a.1.1) (i := x) (k := k) _ hn (by omega) hk h8) rfl rfl rfl (fun r c3 hr => ?_)
    obtain ⟨rfl, f1, f2, f3⟩ := hr
    have hI3 := rI_fS hI (mfS_of f1 (by decide))
    have e3 : c3 3 = c1 3 := f1 3 (by decide)
    have out3 : ∀ z, z < 244 → (z < 6 * x ∨ 6 * x + a.1.1 ≤ z) → c3 4 z = c3 3 z := fun z hz1 hz2 => by rw [f3 z hz2, e3]; exact h4 z hz1 hz2
    have hP : rP (c3 4) a.1.1 a.1.2 (pRr a.2.1 x (mo a.1.1 k)) := rP_rr h6 hm hx (mperm_mo hn hk) hI3.2.1 f2 out3
    have g23 : c3 0 23 = nI (mall a) := by rw [f1 0 (by decide)]; exact h23
    have hV : rV c3 4 (mall a) a.1.1 a.1.2 (pRr a.2.1 x (mo a.1.1 k)).1 a.2.1.2.1 a.2.1.2.2.1 a.2.1.2.2.2 := ⟨⟨hI3.1.1, hI3.1.2.1, g23⟩, ⟨hn, hm, pw_lt hm⟩, hP.1, hP.2.1, hP.2.2.1, hP.2.2.2⟩
    refine mR 4 rfl trivial ?_
    refine mx_E_callV (sp_Mo_outcome4 (w := w) _ hV hw) rfl rfl rfl (fun r c4 hr => ?_)
    obtain ⟨rfl, hf4⟩ := hr
    have hI4 := rI_fS hI3 (mfS_of hf4 (by decide))
    have k23 : c4 0 23 = nI (mall a) := by rw [hf4 0 (by decide)]; exact g23
    have k4 : ∀ z, z < 244 → (z < 6 * x ∨ 6 * x + a.1.1 ≤ z) → c4 4 z = c4 3 z := fun z hz1 hz2 => by rw [hf4 4 (by decide), hf4 3 (by decide)]; exact out3 z hz1 hz2
    have eo : mout w (mall a) a.1.2 a.1.1 (pRr a.2.1 x (mo a.1.1 k)).1 a.2.1.2.1 a.2.1.2.2.1 a.2.1.2.2.2 = bOut a w x k := rfl
    rw [eo]
    have hs : fb_ct (bB a w x) (k + 1) = fb_ct (bB a w x) k + (if bB a w x k then 1 else 0) := rfl
    have pl1 : mpos (a.2.1.1 x) a.1.1 (bOut a w x k) < a.1.1 := (mpos_lt hpx hbk).1
    have pl2 : mpos (a.2.1.1 x) a.1.1 (aOut a w a.2.1) < a.1.1 := (mpos_lt hpx hnl).1
    have R4 := hI4.2.1.2.1
    -- behind the count: the best so far
    have tail : mx_E 1 6 m_Mo_better Q 76 [.ref 0, .int (nI x), .int (nI w), .int (nI y), .int (nI (aOut a w a.2.1)), .int (nI (fb_ct (bB a w x) (k + 1))), .int (bIts a w x k), .int (bFst a w x k), .int (nI k), .int (nI (bOut a w x k))] [.int (-9), .int (bIts a w x k)] c4 := by
      match k, hk, h with
      | 0, hk, h =>
        refine mx_E_br rfl rfl (fun _ => ?_) (fun h => absurd rfl h)
        refine mR 6 rfl trivial ?_
        exact mW (lp_Mo_better hx hw hy hnl hbl hq u 1 c4 (by omega) hI4 k23 k4) ⟨Or.inr rfl, Or.inr rfl, Or.inr rfl, Or.inr rfl, Or.inr rfl, Or.inr rfl, Or.inr rfl, Or.inr rfl, Or.inr rfl, Or.inl rfl, trivial⟩ rfl rfl
      | j + 1, hk, h =>
        have hle := bIx_le a w x j
        have hbj := hbl (bIx a w x j) (by omega)
        have hbk2 := hbl (j + 1) hk
        have p1 := (mpos_lt hpx hbj).1
        have p2 := (mpos_lt hpx hbk2).1
        refine mx_E_br rfl rfl (fun h => absurd h (kI_ne (by omega))) (fun _ => ?_)
        refine mR 5 rfl trivial ?_
        refine mx_E_callV (sp_Mo_placeOf3 (w := x) _ h6 hx hm R4 hpx hbk2) rfl rfl rfl (fun r c5 hr => ?_)
        obtain ⟨rfl, hz5⟩ := hr
        rw [hz5]
        refine mR 5 rfl trivial ?_
        refine mx_E_callV (sp_Mo_placeOf3 (w := x) _ h6 hx hm R4 hpx hbj) rfl rfl rfl (fun r c6 hr => ?_)
        obtain ⟨rfl, hz6⟩ := hr
        rw [hz6]
        have eb : bIx a w x (j + 1) = if bPl a w x (j + 1) < bPl a w x (bIx a w x j) then j + 1 else bIx a w x j := rfl
        refine mbGe _ _ rfl (by omega) (by omega) (fun hc => ?_) (fun hc => ?_)
        · rw [if_neg (show ¬ bPl a w x (j + 1) < bPl a w x (bIx a w x j) from Nat.not_lt.mpr hc)] at eb
          refine mR 2 rfl trivial ?_
          refine mW (lp_Mo_better hx hw hy hnl hbl hq u (j + 1 + 1) c4 (by omega) hI4 k23 k4) ⟨Or.inr rfl, Or.inr rfl, Or.inr rfl, Or.inr rfl, Or.inr rfl, Or.inr rfl, Or.inr ?_, Or.inr ?_, Or.inr (by rw [nI_1]), Or.inl rfl, trivial⟩ rfl rfl
          · show Value.int (nI (bOut a w x (bIx a w x j))) = Value.int (nI (bOut a w x (bIx a w x (j + 1))))
            rw [eb]
          · show Value.int (nI (bIx a w x j)) = Value.int (nI (bIx a w x (j + 1)))
            rw [eb]
        · rw [if_pos (show bPl a w x (j + 1) < bPl a w x (bIx a w x j) from hc)] at eb
          refine mR 6 rfl trivial ?_
          refine mW (lp_Mo_better hx hw hy hnl hbl hq u (j + 1 + 1) c4 (by omega) hI4 k23 k4) ⟨Or.inr rfl, Or.inr rfl, Or.inr rfl, Or.inr rfl, Or.inr rfl, Or.inr rfl, Or.inr ?_, Or.inr ?_, Or.inr (by rw [nI_1]), Or.inl rfl, trivial⟩ rfl rfl
          · show Value.int (nI (bOut a w x (j + 1))) = Value.int (nI (bOut a w x (bIx a w x (j + 1))))
            rw [eb]
          · show Value.int (nI (j + 1)) = Value.int (nI (bIx a w x (j + 1)))
            rw [eb]
    refine mR 7 rfl trivial ?_
    refine mx_E_callV (sp_Mo_placeOf3 (w := x) _ h6 hx hm R4 hpx hbk) rfl rfl rfl (fun r c5 hr => ?_)
    obtain ⟨rfl, hz5⟩ := hr
    rw [hz5]
    refine mR 5 rfl trivial ?_
    refine mx_E_callV (sp_Mo_placeOf3 (w := x) _ h6 hx hm R4 hpx hnl) rfl rfl rfl (fun r c6 hr => ?_)
    obtain ⟨rfl, hz6⟩ := hr
    rw [hz6]
    refine mbGe _ _ rfl (by omega) (by omega) (fun hc => ?_) (fun hc => ?_)
    · have hh : bB a w x k = false := decide_eq_false (Nat.not_lt.mpr hc)
      refine mR 5 rfl trivial ?_
      refine mS tail ?_ rfl rfl
      rw [hs, hh]
      simp
    · have hh : bB a w x k = true := decide_eq_true hc
      refine mR 6 rfl trivial ?_
      refine mS tail ?_ rfl rfl
      rw [hs, hh, nI_1]
      simp
theorem qr_better {c : mx_M} {a : mSt} (x w y : Int32) (h : rI c a) : mx_Spec 1 6 m_Mo_better [.ref 0, .int x, .int w, .int y] c (fun r c' => r = some (.int (aBetter a x w y).1) ∧ rI c' (aBetter a x w y).2) := by
  have h0 := rI_0 0 h
  obtain ⟨h8, h9, hn, hm⟩ := h0.1
  have h6 := hn.2
  refine mx_Spec_E rfl rfl rfl ?_
  refine mR 5 rfl trivial ?_
  refine mx_E_callV (sp_Mo_isMember _ x _ h9 (by omega)) rfl rfl rfl (fun r c1 hr => ?_)
  obtain ⟨rfl, hz⟩ := hr
  rw [hz]
  unfold aBetter
  refine mbT rfl (fun hb => ?_) (fun hb => ?_)
  · rw [hb]
    refine mR 1 rfl trivial ?_
    exact mx_E_iret rfl rfl ⟨rfl, h0⟩
  · refine mR 1 rfl trivial ?_
    refine mx_E_callS (sp_Mo_isWay _ w) rfl rfl rfl (fun r c1 hr => ?_)
    obtain ⟨rfl, hz⟩ := hr
    rw [hz]
    refine mbT rfl (fun hb2 => ?_) (fun hb2 => ?_)
    · rw [hb2, Bool.and_false]
      refine mR 1 rfl trivial ?_
      exact mx_E_iret rfl rfl ⟨rfl, h0⟩
    · refine mR 3 rfl trivial ?_
      refine mx_E_callS (sp_Mo_in _ _ _ _) rfl rfl rfl (fun r c1 hr => ?_)
      obtain ⟨rfl, hz⟩ := hr
      rw [hz, show decide ((0 : Int32) ≤ y ∧ y ≤ 2) = mi y 3 from in_mk y 2 (by decide)]
      refine mbF rfl (fun hb3 => ?_) (fun hb3 => ?_)
      · rw [hb, hb2, hb3]
        obtain ⟨i, hi, rfl⟩ := mi_of (by omega) hb
        obtain ⟨j, hj, rfl⟩ := mi_of (by omega) hb2
        obtain ⟨l, hl, rfl⟩ := mi_of (by omega) hb3
        rw [nI_cl (a := i) (by omega), nI_cl (a := j) (by omega)]
        refine mR 1 rfl trivial ?_
        refine mx_E_callV (sp_Mo_all _ _ h9 hm) rfl rfl rfl (fun r c2 hr => ?_)
        obtain ⟨rfl, hc2⟩ := hr
        have hI2 : rI c2 a := by rw [hc2]; exact rI_all h0
        have g23 : c2 0 23 = nI (mall a) := by rw [hc2, mx_up_same]; rfl
        refine mR 4 rfl trivial ?_
        refine mx_E_callV (sp_Mo_outcome3 (w := j) _ (rI_V hI2 g23 (pw_lt hm)) hj) rfl rfl rfl (fun r c3 hr => ?_)
        obtain ⟨rfl, hf3⟩ := hr
        have hI3 := rI_fS hI2 (mfS_of hf3 (by decide))
        refine mR 5 rfl trivial ?_
        refine mx_E_callS (sp_Mo_copies3 _) rfl rfl rfl (fun r c4 hr => ?_)
        obtain ⟨rfl, hc4⟩ := hr
        refine mR 8 rfl trivial ?_
        have hI4 : rI c4 a := rI_fr hI3 (fun r hr => by rw [hc4]; exact mx_upR_rid _ _ _ _ (fun e => hr (by rw [e]; decide)))
        refine mW (lp_Mo_better hi hj hl (mout_lt hI4.2.1.2.2.1) (fun k hk => mout_lt hI4.2.1.2.2.1) (fun c' hI => ⟨rfl, hI⟩) (mfact a.1.1) 0 c4 (by omega) hI4 ?_ (fun z hz1 hz2 => ?_)) ⟨Or.inr rfl, Or.inr rfl, Or.inr rfl, Or.inr rfl, Or.inr rfl, Or.inr rfl, Or.inr rfl, Or.inr rfl, Or.inr rfl, Or.inl rfl, trivial⟩ rfl rfl
        · rw [hc4, mx_upR_rid _ _ _ 0 (by decide), hf3 0 (by decide)]
          exact g23
        · rw [hc4, mx_upR_row, mx_upR_rid _ _ _ 3 (by decide), fb_put_in (by omega) (by omega)]
          rfl
      · rw [hb3, Bool.and_false]
        refine mR 1 rfl trivial ?_
        exact mx_E_iret rfl rfl ⟨rfl, h0⟩
