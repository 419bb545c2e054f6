def aCount (a : mSt) (x : Int32) : Int32 × mSt := ((if x = 0 then nI a.1.1 else if x = 1 then nI a.1.2 else if x = 2 then nI (mfact a.1.1) else if x = 3 then nI a.2.2.2.1.1 else if x = 4 then nI a.2.2.1.1 else -1), a)
theorem qr_count {c : mx_M} {a : mSt} (x : Int32) (h : rI c a) : mx_Spec 1 2 m_Mo_count [.ref 0, .int x] c (fun r c' => r = some (.int (aCount a x).1) ∧ rI c' (aCount a x).2) := by
  have h0 := rI_0 0 h
  obtain ⟨h8, h9, hn, hm⟩ := h0.1
  have h6 := hn.2
  refine mx_Spec_E rfl rfl rfl ?_
  refine mR 5 rfl trivial ?_
  unfold aCount
  refine mx_E_br rfl rfl (fun hc => ?_) (fun hc => ?_)
  · have n0 : ¬ x = 0 := fun e => by rw [e] at hc; exact absurd hc (by decide)
    have n1 : ¬ x = 1 := fun e => by rw [e] at hc; exact absurd hc (by decide)
    rw [if_neg n0, if_neg n1]
    refine mR 2 rfl trivial ?_
    refine mx_E_br rfl rfl (fun hd => ?_) (fun hd => ?_)
    · rw [if_neg hd]
      refine mR 2 rfl trivial ?_
      refine mx_E_br rfl rfl (fun he => ?_) (fun he => ?_)
      · rw [if_neg he]
        refine mR 2 rfl trivial ?_
        refine mx_E_br rfl rfl (fun hf => ?_) (fun hf => ?_)
        · rw [if_neg hf]
          refine mR 1 rfl trivial ?_
          exact mx_E_iret rfl rfl ⟨rfl, h0⟩
        · rw [if_pos (Decidable.not_not.mp hf)]
          refine mR 3 rfl trivial ?_
          rw [h0.2.2.1.1]
          exact mx_E_iret rfl rfl ⟨rfl, h0⟩
      · rw [if_pos (Decidable.not_not.mp he)]
        refine mR 3 rfl trivial ?_
        rw [h0.2.2.2.1.1]
        exact mx_E_iret rfl rfl ⟨rfl, h0⟩
    · rw [if_pos (Decidable.not_not.mp hd)]
      refine mR 2 rfl trivial ?_
      rw [h8]
      refine mx_E_callS (sp_Mo_orders _ a.1.1 (by omega)) rfl rfl rfl (fun r c1 hr => ?_)
      obtain ⟨rfl, hz⟩ := hr
      rw [hz]
      refine mR 1 rfl trivial ?_
      exact mx_E_iret rfl rfl ⟨rfl, h0⟩
  · have n2 : ¬ x = 2 := fun e => hc (by rw [e]; decide)
    have n3 : ¬ x = 3 := fun e => hc (by rw [e]; decide)
    have n4 : ¬ x = 4 := fun e => hc (by rw [e]; decide)
    rw [if_neg n2, if_neg n3, if_neg n4]
    refine mR 1 rfl trivial ?_
    refine mx_E_br rfl rfl (fun hd => ?_) (fun hd => ?_)
    · rw [if_neg hd]
      refine mR 2 rfl trivial ?_
      refine mx_E_br rfl rfl (fun he => ?_) (fun he => ?_)
      · rw [if_neg he]
        refine mR 1 rfl trivial ?_
        exact mx_E_iret rfl rfl ⟨rfl, h0⟩
      · rw [if_pos (Decidable.not_not.mp he)]
        refine mR 3 rfl trivial ?_
        rw [h9]
        exact mx_E_iret rfl rfl ⟨rfl, h0⟩
    · rw [if_pos (Decidable.not_not.mp hd)]
      refine mR 3 rfl trivial ?_
      rw [h8]
      exact mx_E_iret rfl rfl ⟨rfl, h0⟩
/-- what is told of a node -/
def aNd (a : mSt) (k y : Nat) : Int32 := if y = 0 then kI (aK a k) else if y = 1 then (if (aK a k).isNone then nI (k + 1) else -9) else if y = 2 then (if (aK a k).isNone then nI (k + 1 + aZ a (k + 1)) else -9) else if y = 3 then nI (aS a k) else if y = 4 then nI (msin (mall a) a.1.2 a.1.1 a.2.1.1 (aK a) (aZ a) (aD a) k) else if y = 5 then nI (mfor (mall a) a.1.2 a.1.1 a.2.1.1 (aK a) (aZ a) (aD a) k) else if (aK a k).isNone then nI (mvf (mall a) a.1.2 a.1.1 a.2.1.1 (aS a (k + 1)) (aS a (k + 1 + aZ a (k + 1)))) else 0
def aNode (a : mSt) (x y : Int32) : Int32 × mSt := if mi x (aD a) && mi y 7 then (aNd a x.toNatClampNeg y.toNatClampNeg, a) else mBAD a
theorem qr_node {c : mx_M} {a : mSt} (x y : Int32) (h : rI c a) : mx_Spec 1 5 m_Mo_node [.ref 0, .int x, .int y] c (fun r c' => r = some (.int (aNode a x y).1) ∧ rI c' (aNode a x y).2) := by
  have h0 := rI_0 0 h
  obtain ⟨h6, hM, hT⟩ := rI_W h0
  have h63 := hM.2.1
  have hm := h0.1.2.2.2
  refine mx_Spec_E rfl rfl rfl ?_
  refine mR 5 rfl trivial ?_
  refine mx_E_callV (sp_Mo_isNode _ x (aD a) hT.1 (by omega)) rfl rfl rfl (fun r c1 hr => ?_)
  obtain ⟨rfl, hz⟩ := hr
  rw [hz]
  unfold aNode
  refine mbT rfl (fun hb => ?_) (fun hb => ?_)
  · rw [hb]
    refine mR 1 rfl trivial ?_
    exact mx_E_iret rfl rfl ⟨rfl, h0⟩
  · refine mR 3 rfl trivial ?_
    refine mx_E_callS (sp_Mo_in _ _ _ _) rfl rfl rfl (fun r c1 hr => ?_)
    obtain ⟨rfl, hz⟩ := hr
    rw [hz, show decide ((0 : Int32) ≤ y ∧ y ≤ 6) = mi y 7 from in_mk y 6 (by decide)]
    refine mbF rfl (fun hb2 => ?_) (fun hb2 => ?_)
    · rw [hb, hb2]
      obtain ⟨k, hk, rfl⟩ := mi_of (by omega) hb
      obtain ⟨j, hj, rfl⟩ := mi_of (by omega) hb2
      rw [nI_cl (a := k) (by omega), nI_cl (a := j) (by omega)]
      refine mR 1 rfl trivial ?_
      refine mx_E_callV (sp_Mo_all _ _ h0.1.2.1 hm) rfl rfl rfl (fun r c1 hr => ?_)
      obtain ⟨rfl, hc1⟩ := hr
      have hI1 : rI c1 a := by rw [hc1]; exact rI_all h0
      have g23 : c1 0 23 = nI (mall a) := by rw [hc1, mx_up_same]; rfl
      refine mR 3 rfl trivial ?_
      refine mx_E_callV (sp_Mo_setsOfW _ (rI_W hI1)) rfl rfl rfl (fun r c2 hr => ?_)
      obtain ⟨rfl, hf, hS⟩ := hr
      have hI2 := rI_fr hI1 (mfr_mo hf (by decide))
      have hV := rI_V hI2 (show c2 0 23 = nI (mall a) by rw [hf 0 (by decide)]; exact g23) (pw_lt hm)
      obtain ⟨-, -, hT2⟩ := rI_W hI2
      have ekd := rd_kd3 hT2 h63 hk
      have eon : c2 3 ((118 : Int32) + nI k).toNatClampNeg = (if (aK a k).isNone then nI (k + 1) else -9) := by
        rw [ixA 118 rfl, nI_cl (by omega)]
        cases e : aK a k with
        | none => exact ((hT2.2 k hk).2.1 e).1
        | some q => exact ((hT2.2 k hk).2.2 (by rw [e]; exact fun z => by cases z)).1
      have etw : c2 3 ((181 : Int32) + nI k).toNatClampNeg = (if (aK a k).isNone then nI (k + 1 + aZ a (k + 1)) else -9) := by
        rw [ixA 181 rfl, nI_cl (by omega)]
        cases e : aK a k with
        | none => exact ((hT2.2 k hk).2.1 e).2
        | some q => exact ((hT2.2 k hk).2.2 (by rw [e]; exact fun z => by cases z)).2
      refine mR 2 rfl trivial ?_
      rw [show (4 : Int32) = nI 4 from rfl]
      refine mbGe _ _ rfl (by omega) (by omega) (fun hc => ?_) (fun hc => ?_)
      · refine mR 2 rfl trivial ?_
        rw [show (4 : Int32) = nI 4 from rfl]
        refine mbNe _ _ rfl (by omega) (by omega) (fun h4 => ?_) (fun h4 => ?_)
        · refine mR 2 rfl trivial ?_
          rw [show (5 : Int32) = nI 5 from rfl]
          refine mbNe _ _ rfl (by omega) (by omega) (fun h5 => ?_) (fun h5 => ?_)
          · have e6 : j = 6 := by omega
            subst e6
            refine mR 7 rfl (mA1 (by rw [ixA 55 rfl]; exact mI (by omega))) ?_
            rw [ekd]
            cases e : aK a k with
            | some q =>
              obtain ⟨hq6, -⟩ := mtree_leaf hM hk e
              refine mx_E_br rfl rfl (fun _ => ?_) (fun h => absurd (kI_ne (by omega)) h)
              refine mR 1 rfl trivial ?_
              refine mx_E_iret rfl rfl ⟨?_, hI2⟩
              show _ = some (Value.int (aNd a k 6))
              unfold aNd
              rw [e]
              rfl
            | none =>
              refine mx_E_br rfl rfl (fun h => absurd rfl h) (fun _ => ?_)
              refine mR 4 rfl trivial ?_
              refine mx_E_callV (sp_Mo_votesFirst3 _ hV hS hk e) rfl rfl rfl (fun r c3 hr => ?_)
              obtain ⟨rfl, hz⟩ := hr
              rw [hz]
              refine mR 1 rfl trivial ?_
              refine mx_E_iret rfl rfl ⟨?_, hI2⟩
              show _ = some (Value.int (aNd a k 6))
              unfold aNd
              rw [e]
              rfl
          · subst h5
            refine mR 4 rfl trivial ?_
            refine mx_E_callV (sp_Mo_foreseen3 _ hV hk) rfl rfl rfl (fun r c3 hr => ?_)
            obtain ⟨rfl, hz⟩ := hr
            refine mR 1 rfl trivial ?_
            exact mx_E_iret rfl rfl ⟨rfl, rI_fr hI2 (mfr_mo hz (by decide))⟩
        · subst h4
          refine mR 4 rfl trivial ?_
          refine mx_E_callV (sp_Mo_sincere3 _ hV hk) rfl rfl rfl (fun r c3 hr => ?_)
          obtain ⟨rfl, hz⟩ := hr
          refine mR 1 rfl trivial ?_
          exact mx_E_iret rfl rfl ⟨rfl, rI_fr hI2 (mfr_mo hz (by decide))⟩
      · refine mR 1 rfl trivial ?_
        rcases (show j = 0 ∨ j = 1 ∨ j = 2 ∨ j = 3 by omega) with rfl | rfl | rfl | rfl
        · refine mx_E_br rfl rfl (fun h => absurd rfl h) (fun _ => ?_)
          refine mR 7 rfl (mA1 (by rw [ixA 55 rfl]; exact mI (by omega))) ?_
          rw [ekd]
          exact mx_E_iret rfl rfl ⟨rfl, hI2⟩
        · refine mx_E_br rfl rfl (fun _ => ?_) (fun h => absurd (by decide) h)
          refine mR 2 rfl trivial ?_
          refine mx_E_br rfl rfl (fun h => absurd rfl h) (fun _ => ?_)
          refine mR 7 rfl (mA1 (by rw [ixA 118 rfl]; exact mI (by omega))) ?_
          rw [eon]
          exact mx_E_iret rfl rfl ⟨rfl, hI2⟩
        · refine mx_E_br rfl rfl (fun _ => ?_) (fun h => absurd (by decide) h)
          refine mR 2 rfl trivial ?_
          refine mx_E_br rfl rfl (fun _ => ?_) (fun h => absurd (by decide) h)
          refine mR 2 rfl trivial ?_
          refine mx_E_br rfl rfl (fun h => absurd rfl h) (fun _ => ?_)
          refine mR 7 rfl (mA1 (by rw [ixA 181 rfl]; exact mI (by omega))) ?_
          rw [etw]
          exact mx_E_iret rfl rfl ⟨rfl, hI2⟩
        · refine mx_E_br rfl rfl (fun _ => ?_) (fun h => absurd (by decide) h)
          refine mR 2 rfl trivial ?_
          refine mx_E_br rfl rfl (fun _ => ?_) (fun h => absurd (by decide) h)
          refine mR 2 rfl trivial ?_
          refine mx_E_br rfl rfl (fun _ => ?_) (fun h => absurd (by decide) h)
          refine mR 4 rfl (mA1 (mI (by omega))) ?_
          rw [nI_cl (a := k) (by omega), hS k hk]
          exact mx_E_iret rfl rfl ⟨rfl, hI2⟩
    · rw [hb2, Bool.and_false]
      refine mR 1 rfl trivial ?_
      exact mx_E_iret rfl rfl ⟨rfl, h0⟩
