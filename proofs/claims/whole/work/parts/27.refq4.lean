/-- only what is used and left has changed, and how much the pile holds -/
def mfS (c c' : mx_M) : Prop := mfr (0 :: rSc) c c' ∧ ∀ k, k ≠ 29 → c' 0 k = c 0 k
theorem mfS_tr {c c1 c2 : mx_M} (h : mfS c c1) (h2 : mfS c1 c2) : mfS c c2 := ⟨mfr_tr h.1 h2.1, fun k hk => (h2.2 k hk).trans (h.2 k hk)⟩
theorem mfS_of {S : List Nat} {c c' : mx_M} (h : mfr S c c') (hs : ∀ r, r ∈ S → r ∈ rSc) : mfS c c' := ⟨mfr_mo h (fun r hr => List.mem_cons_of_mem _ (hs r hr)), fun k _ => by rw [h 0 (fun z => absurd (hs 0 z) (by decide))]⟩
theorem rI_fS {c c' : mx_M} {a : mSt} (h : rI c a) (hf : mfS c c') : rI c' a := by
  obtain ⟨g1, g2, g3, g4, g5, g6⟩ := h
  obtain ⟨f1, f2⟩ := hf
  refine ⟨?_, ?_, ?_, ?_, ?_, ?_⟩
  · rw [f2 8 (by decide), f2 9 (by decide)]; exact g1
  · rw [f1 3 (by decide)]; exact g2
  · rw [f2 2 (by decide), f1 1 (by decide)]; exact g3
  · rw [f2 22 (by decide), f1 8 (by decide), f1 9 (by decide), f1 10 (by decide)]; exact g4
  · rw [f2 16 (by decide), f1 5 (by decide)]; exact g5
  · rw [f1 7 (by decide), f1 6 (by decide)]; exact g6
/-- the first of which p holds -/
def mfst (p : Nat → Bool) (N : Nat) : Int32 := if fa_first p N < N then nI (fa_first p N) else -9
theorem ff_ct {p : Nat → Bool} {k : Nat} (h : fb_ct p k = 0) : fa_first p k = k := ff_none (fun j hj => fb_ct_zero.mp h j hj)
theorem ff_ct2 {p : Nat → Bool} {k : Nat} (h : fb_ct p k ≠ 0) : fa_first p k < k := by
  rcases Nat.lt_or_ge (fa_first p k) k with h1 | h1
  · exact h1
  · exfalso
    apply h
    rw [fb_ct_zero]
    intro j hj
    exact fa_first_no p k j (by omega)
theorem mfst_no {p : Nat → Bool} {k : Nat} (h : p k = false) : mfst p (k + 1) = mfst p k := by
  unfold mfst
  have e : fa_first p (k + 1) = if fa_first p k < k then fa_first p k else if p k then k else k + 1 := rfl
  by_cases h1 : fa_first p k < k
  · rw [if_pos h1] at e
    rw [e, if_pos (by omega), if_pos h1]
  · rw [if_neg h1, if_neg (by rw [h]; decide)] at e
    rw [e, if_neg (by omega), if_neg h1]
theorem mfst_0 {p : Nat → Bool} {k : Nat} (h : p k = true) (hc : fb_ct p k = 0) : mfst p (k + 1) = nI k := by
  unfold mfst
  have e : fa_first p (k + 1) = if fa_first p k < k then fa_first p k else if p k then k else k + 1 := rfl
  rw [if_neg (by rw [ff_ct hc]; omega), if_pos h] at e
  rw [e, if_pos (by omega)]
theorem mfst_s {p : Nat → Bool} {k : Nat} (hc : fb_ct p k ≠ 0) : mfst p (k + 1) = mfst p k := by
  unfold mfst
  have h1 := ff_ct2 hc
  have e : fa_first p (k + 1) = if fa_first p k < k then fa_first p k else if p k then k else k + 1 := rfl
  rw [if_pos h1] at e
  rw [e, if_pos (by omega), if_pos h1]
def aHit (a : mSt) (w x k : Nat) : Bool := aOut a w (pOrd a.1.1 a.2.1.1 (mo a.1.1 k)) == x
def aReach (a : mSt) (x w y : Int32) : Int32 × mSt := if mi x a.1.1 && mi w 2 && mi y 2 then ((if y = 0 then nI (fb_ct (aHit a w.toNatClampNeg x.toNatClampNeg) (mfact a.1.1)) else mfst (aHit a w.toNatClampNeg x.toNatClampNeg) (mfact a.1.1)), a) else mBAD a
theorem lp_Mo_reach {Q : Option Value → mx_M → Prop} {a : mSt} {x w y : Nat} (hx : x < a.1.1) (hw : w < 2) (hy : y < 2) (hq : ∀ c', rI c' a → Q (some (.int (if nI y = 0 then nI (fb_ct (aHit a w x) (mfact a.1.1)) else mfst (aHit a w x) (mfact a.1.1)))) c') :
    ∀ (u k : Nat) (c1 : mx_M), k + u = mfact a.1.1 → rI c1 a → c1 0 23 = nI (mall a) → (∀ z, z < 54 → c1 4 z = c1 3 z) → mx_E 1 6 m_Mo_reach Q 30 [.ref 0, .int (nI x), .int (nI w), .int (nI y), .int (nI (fb_ct (aHit a w x) k)), .int (mfst (aHit a w x) k), .int (nI k)] [] c1
  | 0, k, c1, h, hI, h23, h4 => by
    obtain ⟨h8, h9, hn, hm⟩ := hI.1
    have h6 := hn.2
    have hfl := mfact_le a.1.1 (by omega)
    have e : k = mfact a.1.1 := by omega
    rw [e]
    refine mR 3 rfl trivial ?_
    rw [h8]
    refine mx_E_callS (sp_Mo_orders _ a.1.1 (by omega)) rfl rfl rfl (fun r c2 hr => ?_)
    obtain ⟨rfl, hz⟩ := hr
    rw [hz]
    refine mbGe _ _ rfl (by omega) (by omega) (fun _ => ?_) (fun h => by omega)
    refine mR 1 rfl trivial ?_
    have hq2 := hq _ hI
    rcases (show y = 0 ∨ y = 1 by omega) with rfl | rfl
    · refine mx_E_br rfl rfl (fun h => absurd rfl h) (fun _ => ?_)
      refine mR 2 rfl trivial ?_
      exact mx_E_iret rfl rfl hq2
    · refine mx_E_br rfl rfl (fun _ => ?_) (fun h => absurd (by decide) h)
      refine mR 1 rfl trivial ?_
      exact mx_E_iret rfl rfl hq2
  | u + 1, k, c1, h, hI, h23, h4 => by
    obtain ⟨h8, h9, hn, hm⟩ := hI.1
    have h6 := hn.2
    have hfl := mfact_le a.1.1 (by omega)
    have hk : k < mfact a.1.1 := by omega
    have hct := fb_ct_le (aHit a w x) k
    refine mR 3 rfl trivial ?_
    rw [h8]
    refine mx_E_callS (sp_Mo_orders _ a.1.1 (by omega)) rfl rfl rfl (fun r c2 hr => ?_)
    obtain ⟨rfl, hz⟩ := hr
    rw [hz]
    refine mbGe _ _ rfl (by omega) (by omega) (fun h => by omega) (fun _ => ?_)
    refine mR 4 rfl trivial ?_
    rw [h8]
    refine mx_E_callV (sp_Mo_orderOf _ a.1.1 k hn hk) rfl rfl rfl (fun r c2 hr => ?_)
    obtain ⟨rfl, hc2⟩ := hr
    have fS2 : mfS c1 c2 := mfS_of (S := [14]) (fun r hr => by rw [hc2]; exact mx_upR_rid _ _ _ _ (fun e => hr (by rw [e]; decide))) (by decide)
    have h14 : ∀ p, p < a.1.1 → c2 14 p = nI (mo a.1.1 k p) := fun p hp => by rw [hc2, mx_upR_row, fa_fill_in hp]
    have hI2 := rI_fS hI fS2
    refine mR 5 rfl trivial ?_
    rw [hI2.1.1]
    refine mx_E_callV (sp_Mo_lays4 _ hn (fun p hp => mo_lt hn hk hp) h14) rfl rfl rfl (fun r c3 hr => ?_)
    obtain ⟨rfl, f1, f2, f3, f4⟩ := hr
    have fS3 : mfS c2 c3 := ⟨mfr_mo f1 (by decide), f2⟩
    have hI3 := rI_fS hI2 fS3
    have e3 : c3 3 = c1 3 := by rw [f1 3 (by decide), fS2.1 3 (by decide)]
    have e4 : ∀ z, z < 54 → c3 4 z = c3 3 z := fun z hz => by rw [f3 z hz, e3, hc2, mx_upR_rid _ _ _ 4 (by decide)]; exact h4 z hz
    have g23 : c3 0 23 = nI (mall a) := by rw [f2 23 (by decide), fS2.2 23 (by decide)]; exact h23
    have hP := rP_ord (m := a.1.2) (R := a.2.1.1) hn (fun p hp => mo_lt hn hk hp) hI3.2.1.1 (fun j p hj hp => by rw [e4 _ (by omega)]; exact hI3.2.1.2.1 j p hj hp) f4
    have hV : rV c3 4 (mall a) a.1.1 a.1.2 a.2.1.1 (tK (mo a.1.1 k) a.1.1 (a.1.1 - 1) (mo a.1.1 k 0)) (tZ (a.1.1 - 1)) (tL (a.1.1 - 1)) := ⟨⟨hI3.1.1, hI3.1.2.1, g23⟩, ⟨hn, hm, pw_lt hm⟩, hP.1, hP.2.1, hP.2.2.1, hP.2.2.2⟩
    refine mR 4 rfl trivial ?_
    refine mx_E_callV (sp_Mo_outcome4 (w := w) _ hV hw) rfl rfl rfl (fun r c4 hr => ?_)
    obtain ⟨rfl, hf4⟩ := hr
    have hI4 := rI_fS hI3 (mfS_of hf4 (by decide))
    have k23 : c4 0 23 = nI (mall a) := by rw [hf4 0 (by decide)]; exact g23
    have k4 : ∀ z, z < 54 → c4 4 z = c4 3 z := fun z hz => by rw [hf4 4 (by decide), hf4 3 (by decide)]; exact e4 z hz
    have hol : mout w (mall a) a.1.2 a.1.1 a.2.1.1 (tK (mo a.1.1 k) a.1.1 (a.1.1 - 1) (mo a.1.1 k 0)) (tZ (a.1.1 - 1)) (tL (a.1.1 - 1)) < a.1.1 := mout_lt hP.2.2.1
    have hs : fb_ct (aHit a w x) (k + 1) = fb_ct (aHit a w x) k + (if aHit a w x k then 1 else 0) := rfl
    refine mR 1 rfl trivial ?_
    refine mbNe _ _ rfl (by omega) (by omega) (fun hne => ?_) (fun heq => ?_)
    · have hh : aHit a w x k = false := beq_eq_false_iff_ne.mpr hne
      refine mR 2 rfl trivial ?_
      refine mS (lp_Mo_reach hx hw hy hq u (k + 1) c4 (by omega) hI4 k23 k4) ?_ rfl rfl
      rw [hs, hh, mfst_no hh, nI_1]
      rfl
    · have hh : aHit a w x k = true := beq_iff_eq.mpr heq
      refine mR 1 rfl trivial ?_
      by_cases hz : fb_ct (aHit a w x) k = 0
      · rw [hz]
        refine mx_E_br rfl rfl (fun h => absurd rfl h) (fun _ => ?_)
        refine mR 6 rfl trivial ?_
        refine mS (lp_Mo_reach hx hw hy hq u (k + 1) c4 (by omega) hI4 k23 k4) ?_ rfl rfl
        rw [hs, hh, hz, mfst_0 hh hz, nI_1, nI_1]
        rfl
      · refine mx_E_br rfl rfl (fun _ => ?_) (fun h => absurd (nI_ne0 (by omega) (by omega)) h)
        refine mR 5 rfl trivial ?_
        refine mS (lp_Mo_reach hx hw hy hq u (k + 1) c4 (by omega) hI4 k23 k4) ?_ rfl rfl
        rw [hs, hh, mfst_s hz, nI_1, nI_1]
        rfl
theorem rI_all {c : mx_M} {a : mSt} (h : rI c a) : rI (mx_up c 0 23 (nI (2 ^ a.1.2 - 1))) a := rI_up h (by decide) (by decide) (by decide) (by decide) (by decide)
theorem qr_reach {c : mx_M} {a : mSt} (x w y : Int32) (h : rI c a) : mx_Spec 1 6 m_Mo_reach [.ref 0, .int x, .int w, .int y] c (fun r c' => r = some (.int (aReach a x w y).1) ∧ rI c' (aReach a x w y).2) := by
  have h0 := rI_0 0 h
  obtain ⟨h8, h9, hn, hm⟩ := h0.1
  have h6 := hn.2
  refine mx_Spec_E rfl rfl rfl ?_
  refine mR 5 rfl trivial ?_
  refine mx_E_callV (sp_Mo_isMotion _ x _ h8 (by omega)) rfl rfl rfl (fun r c1 hr => ?_)
  obtain ⟨rfl, rfl⟩ := hr
  unfold aReach
  refine mbT rfl (fun hb => ?_) (fun hb => ?_)
  · rw [hb]
    refine mR 1 rfl trivial ?_
    exact mx_E_iret rfl rfl ⟨rfl, h0⟩
  · refine mR 1 rfl trivial ?_
    refine mx_E_callS (sp_Mo_isWay _ w) rfl rfl rfl (fun r c1 hr => ?_)
    obtain ⟨rfl, rfl⟩ := hr
    refine mbT rfl (fun hb2 => ?_) (fun hb2 => ?_)
    · rw [hb2, Bool.and_false]
      refine mR 1 rfl trivial ?_
      exact mx_E_iret rfl rfl ⟨rfl, h0⟩
    · refine mR 3 rfl trivial ?_
      refine mx_E_callS (sp_Mo_in _ _ _ _) rfl rfl rfl (fun r c1 hr => ?_)
      obtain ⟨rfl, rfl⟩ := hr
      rw [show decide ((0 : Int32) ≤ y ∧ y ≤ 1) = mi y 2 from in_mk y 1 (by decide)]
      refine mbF rfl (fun hb3 => ?_) (fun hb3 => ?_)
      · rw [hb, hb2, hb3]
        obtain ⟨i, hi, rfl⟩ := mi_of (by omega) hb
        obtain ⟨j, hj, rfl⟩ := mi_of (by omega) hb2
        obtain ⟨l, hl, rfl⟩ := mi_of (by omega) hb3
        rw [nI_cl (a := i) (by omega), nI_cl (a := j) (by omega)]
        refine mR 1 rfl trivial ?_
        refine mx_E_callV (sp_Mo_all _ _ h9 hm) rfl rfl rfl (fun r c1 hr => ?_)
        obtain ⟨rfl, hc1⟩ := hr
        have hI1 : rI c1 a := by rw [hc1]; exact rI_all h0
        refine mR 4 rfl trivial ?_
        refine mx_E_callS (sp_Mo_copies3 _) rfl rfl rfl (fun r c2 hr => ?_)
        obtain ⟨rfl, hc2⟩ := hr
        refine mR 6 rfl trivial ?_
        refine lp_Mo_reach hi hj hl (fun c' hI => ⟨rfl, hI⟩) (mfact a.1.1) 0 c2 (by omega) (rI_fr hI1 (fun r hr => by rw [hc2]; exact mx_upR_rid _ _ _ _ (fun e => hr (by rw [e]; decide)))) ?_ (fun z hz => ?_)
        · rw [hc2, mx_upR_rid _ _ _ 0 (by decide), hc1, mx_up_same]
          rfl
        · rw [hc2, mx_upR_row, mx_upR_rid _ _ _ 3 (by decide), fb_put_in (by omega) (by omega)]
          rfl
      · rw [hb3, Bool.and_false]
        refine mR 1 rfl trivial ?_
        exact mx_E_iret rfl rfl ⟨rfl, h0⟩
