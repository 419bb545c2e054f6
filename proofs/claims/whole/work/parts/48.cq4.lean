/-! the class: which rankings can be, which vote to watch -/
theorem aAs_no {a : mSt} {f : Nat → Nat} {e : Nat} (h : aAs a f e = false) : ∀ t, aAs a f (e + t) = false
  | 0 => h
  | t + 1 => by
    show (aAs a f (e + t) && _) = false
    rw [aAs_no h t]
    rfl
theorem lp_Si_agree {Q : Option Value → mx_M → Prop} {c : mx_M} {a : mSt} {f : Nat → Nat} (h : cI c a) (hf : ∀ p, p < a.1.1 → f p < a.1.1 ∧ c 31 p = nI (f p)) (hq : Q (some (.int (mz (aAs a f a.2.2.2.1.1)))) c) :
    ∀ (u e : Nat), e + u = a.2.2.2.1.1 → aAs a f e = true → mx_E 0 2 m_Si_agree Q 2 [.ref 27, .ref 31, .int (nI a.1.1), .int (nI e)] [] c
  | 0, e, he, hA => by
    obtain ⟨s1, s6, s3⟩ := h.1.2.2.2.1
    have ee : e = a.2.2.2.1.1 := by omega
    rw [ee] at hA ⊢
    refine mR 3 rfl trivial ?_
    rw [s1]
    refine mbGe _ _ rfl (by omega) (by omega) (fun _ => ?_) (fun h => by omega)
    refine mR 1 rfl trivial ?_
    rw [hA] at hq
    exact mx_E_zret rfl rfl (Or.inr rfl) hq
  | u + 1, e, he, hA => by
    obtain ⟨s1, s6, s3⟩ := h.1.2.2.2.1
    have n6 := (cI_nm h).1.2
    obtain ⟨e8, e9, e10, l1, l2, l3⟩ := s3 e (by omega)
    have hs : aAs a f (e + 1) = (aAs a f e && (mlk f a.1.1 (a.2.2.2.1.2 e).1 (a.2.2.2.1.2 e).2.1 == decide ((a.2.2.2.1.2 e).2.2 = 0))) := rfl
    rw [hA, Bool.true_and] at hs
    have yes : aAs a f (e + 1) = true → mx_E 0 2 m_Si_agree Q 29 [.ref 27, .ref 31, .int (nI a.1.1), .int (nI e)] [] c := by
      intro z
      refine mR 2 rfl trivial ?_
      refine mS (lp_Si_agree h hf hq u (e + 1) (by omega) z) ?_ rfl rfl
      rw [nI_1]
    have no : aAs a f (e + 1) = false → mx_E 0 2 m_Si_agree Q 27 [.ref 27, .ref 31, .int (nI a.1.1), .int (nI e)] [] c := by
      intro z
      refine mR 1 rfl trivial ?_
      have z2 := aAs_no z u
      rw [show e + 1 + u = a.2.2.2.1.1 by omega] at z2
      rw [z2] at hq
      exact mx_E_zret rfl rfl (Or.inl rfl) hq
    refine mR 3 rfl trivial ?_
    rw [s1]
    refine mbGe _ _ rfl (by omega) (by omega) (fun h => by omega) (fun _ => ?_)
    refine mR 11 rfl (mA2 (mI (by omega)) (mI (by omega))) ?_
    rw [nI_cl (a := e) (by omega), e8, e9]
    refine mx_E_callS (sp_De_likesFirst31 (at0 := 0) _ n6 (by omega) l1 l2 (fun p hp => by rw [Nat.zero_add]; exact hf p hp)) rfl rfl rfl (fun r c1 hr => ?_)
    obtain ⟨rfl, hz⟩ := hr
    rw [hz]
    refine mR 4 rfl (mA1 (mI (by omega))) ?_
    rw [nI_cl (a := e) (by omega), e10]
    rcases (show (a.2.2.2.1.2 e).2.2 = 0 ∨ (a.2.2.2.1.2 e).2.2 = 1 by omega) with q | q
    · rw [q] at hs ⊢
      refine mx_E_br rfl rfl (fun z => absurd (show nI 0 = 0 from rfl) z) (fun _ => ?_)
      refine mR 2 rfl trivial ?_
      cases hl : mlk f a.1.1 (a.2.2.2.1.2 e).1 (a.2.2.2.1.2 e).2.1 with
      | true =>
        rw [hl] at hs
        exact mx_E_br rfl rfl (fun _ => yes hs) (fun z => absurd (show mz true = 1 from rfl) z)
      | false =>
        rw [hl] at hs
        exact mx_E_br rfl rfl (fun z => absurd z (by decide)) (fun _ => no hs)
    · rw [q] at hs ⊢
      refine mx_E_br rfl rfl (fun _ => ?_) (fun z => absurd (show ¬ nI 1 = 0 by decide) z)
      refine mR 1 rfl trivial ?_
      cases hl : mlk f a.1.1 (a.2.2.2.1.2 e).1 (a.2.2.2.1.2 e).2.1 with
      | true =>
        rw [hl] at hs
        exact mx_E_br rfl rfl (fun z => absurd z (by decide)) (fun _ => no hs)
      | false =>
        rw [hl] at hs
        exact mx_E_br rfl rfl (fun _ => yes hs) (fun z => absurd (show mz false = 0 from rfl) z)
theorem sp_Si_agree (c : mx_M) {a : mSt} {f : Nat → Nat} (h : cI c a) (hf : ∀ p, p < a.1.1 → f p < a.1.1 ∧ c 31 p = nI (f p)) : mx_Spec 0 2 m_Si_agree [.ref 27, .ref 31, .int (nI a.1.1)] c (fun r c' => r = some (.int (mz (aAs a f a.2.2.2.1.1))) ∧ c' = c) := by
  refine mx_Spec_E rfl rfl rfl ?_
  refine mR 2 rfl trivial ?_
  exact lp_Si_agree h hf ⟨rfl, rfl⟩ a.2.2.2.1.1 0 (by omega) rfl
theorem mfst_9 {p : Nat → Bool} {k : Nat} (h : p k = true) : mfst p (k + 1) = if fb_ct p k = 0 then nI k else mfst p k := by
  by_cases e : fb_ct p k = 0
  · rw [if_pos e]; exact mfst_0 h e
  · rw [if_neg e]; exact mfst_s e
theorem mfst_n9 {p : Nat → Bool} {k : Nat} (hk : k < 100000) : mfst p k = -9 ↔ fb_ct p k = 0 := by
  constructor
  · intro h
    rcases Nat.eq_zero_or_pos (fb_ct p k) with e | e
    · exact e
    · have h1 := ff_ct2 (p := p) (k := k) (by omega)
      unfold mfst at h
      rw [if_pos h1] at h
      exact absurd h (kI_ne (by omega))
  · intro h
    unfold mfst
    rw [if_neg (by rw [ff_ct h]; omega)]
/-- an order is laid out: nothing that is told of changes -/
theorem cI_lay {c : mx_M} {a : mSt} {g : Nat → Int32} (h : cI c a) : cI (mx_upR c 31 g) a := cI_fr h (fun r hr => mx_upR_rid _ _ _ _ (fun e => hr (by rw [e]; decide)))
theorem lp_De_rankings {Q : Option Value → mx_M → Prop} {a : mSt} {y : Nat} (hy : y < 2) (hq : ∀ c', cI c' a → Q (some (.int (if nI y = 0 then nI (fb_ct (aHp a) (mfact a.1.1)) else mfst (aHp a) (mfact a.1.1)))) c') :
    ∀ (u k : Nat) (c : mx_M), k + u = mfact a.1.1 → cI c a → mx_E 0 3 m_De_rankings Q 12 [.ref 0, .int (nI y), .int (nI (fb_ct (aHp a) k)), .int (mfst (aHp a) k), .int (nI k)] [] c
  | 0, k, c, hk, h => by
    have hn := (cI_nm h).1
    have n6 := hn.2
    have hfl := mfact_le a.1.1 (by omega)
    have e : k = mfact a.1.1 := by omega
    rw [e]
    refine mR 2 rfl trivial ?_
    refine mx_E_callV (sp_De_orders _ n6 (cI_2 h)) rfl rfl rfl (fun r c1 hr => ?_)
    obtain ⟨rfl, hz⟩ := hr
    rw [hz]
    refine mbGe _ _ rfl (by omega) (by omega) (fun _ => ?_) (fun z => by omega)
    refine mR 1 rfl trivial ?_
    refine mx_E_br rfl rfl (fun z => ?_) (fun z => ?_)
    · refine mR 1 rfl trivial ?_
      refine mx_E_iret rfl rfl ?_
      have q := hq c h
      rw [if_neg z] at q
      exact q
    · refine mR 2 rfl trivial ?_
      refine mx_E_iret rfl rfl ?_
      have q := hq c h
      rw [if_pos (Decidable.not_not.mp z)] at q
      exact q
  | u + 1, k, c, hk, h => by
    have hn := (cI_nm h).1
    have n6 := hn.2
    have hfl := mfact_le a.1.1 (by omega)
    have hcl := fb_ct_le (aHp a) k
    refine mR 2 rfl trivial ?_
    refine mx_E_callV (sp_De_orders _ n6 (cI_2 h)) rfl rfl rfl (fun r c1 hr => ?_)
    obtain ⟨rfl, hz⟩ := hr
    rw [hz]
    refine mbGe _ _ rfl (by omega) (by omega) (fun z => by omega) (fun _ => ?_)
    refine mR 6 rfl trivial ?_
    rw [cI_2 h]
    refine mx_E_callS (sp_De_layOrder _ a.1.1 k hn (by omega)) rfl rfl rfl (fun r c1 hr => ?_)
    obtain ⟨rfl, hc1⟩ := hr
    have h1 : cI c1 a := by rw [hc1]; exact cI_lay h
    have hf1 : ∀ p, p < a.1.1 → mo a.1.1 k p < a.1.1 ∧ c1 31 p = nI (mo a.1.1 k p) := fun p hp => ⟨mo_lt hn (by omega) hp, by rw [hc1, mx_upR_row, fa_fill_in hp]⟩
    refine mR 7 rfl trivial ?_
    rw [cI_2 h1]
    refine mx_E_callV (sp_Si_agree _ h1 hf1) rfl rfl rfl (fun r c2 hr => ?_)
    obtain ⟨rfl, hz⟩ := hr
    rw [hz]
    have nxt : ∀ v w, v = fb_ct (aHp a) (k + 1) → w = mfst (aHp a) (k + 1) → mx_E 0 3 m_De_rankings Q 38 [.ref 0, .int (nI y), .int (nI v), .int w, .int (nI k)] [] c1 := by
      intro v w hv hw
      refine mR 2 rfl trivial ?_
      refine mS (lp_De_rankings hy hq u (k + 1) c1 (by omega) h1) ?_ rfl rfl
      rw [hv, hw, nI_1]
    refine mbT rfl (fun hb => ?_) (fun hb => ?_)
    · have hb2 : aHp a k = false := hb
      exact nxt _ _ (by rw [fb_ct_succ, hb2]; rfl) (by rw [mfst_no hb2])
    · have hb2 : aHp a k = true := hb
      have hc2 : fb_ct (aHp a) (k + 1) = fb_ct (aHp a) k + 1 := by rw [fb_ct_succ, hb2]; rfl
      refine mR 3 rfl trivial ?_
      rw [nI_1]
      refine mx_E_br rfl rfl (fun z => ?_) (fun z => ?_)
      · exact nxt _ _ hc2.symm (by rw [mfst_9 hb2, if_neg (fun q => z ((mfst_n9 (by omega)).mpr q))])
      · refine mR 2 rfl trivial ?_
        exact nxt _ _ hc2.symm (by rw [mfst_9 hb2, if_pos ((mfst_n9 (by omega)).mp (Decidable.not_not.mp z))])
theorem qc_rankings {c : mx_M} {a : mSt} (y : Int32) (h : cI c a) : mx_Spec 0 3 m_De_rankings [.ref 0, .int y] c (fun r c' => r = some (.int (aRankings a y).1) ∧ cI c' (aRankings a y).2) := by
  refine mx_Spec_E rfl rfl rfl ?_
  refine mR 2 rfl trivial ?_
  refine mx_E_callS (sp_De_within _ y 2) rfl rfl rfl (fun r c1 hr => ?_)
  obtain ⟨rfl, hz⟩ := hr
  rw [hz]
  unfold aRankings
  refine mbF rfl (fun hb => ?_) (fun hb => ?_)
  · rw [hb]
    obtain ⟨j, hj, rfl⟩ := mi_of (by decide) hb
    refine mR 6 rfl trivial ?_
    exact lp_De_rankings hj (fun c' hI => ⟨rfl, hI⟩) (mfact a.1.1) 0 c (by omega) h
  · rw [hb]
    refine mR 1 rfl trivial ?_
    exact mx_E_iret rfl rfl ⟨rfl, h⟩
theorem cI_34 {c : mx_M} {a : mSt} {k : Nat} {v : Int32} (h : cI c a) : cI (mx_up c 34 k v) a := cI_fr h (mfr_up (mfr_rf _ _) (by decide))
theorem lp_De_cf_in {Q : Option Value → mx_M → Prop} {a : mSt} {i cnt : Nat} (hi : i < mfact a.1.1) (hp : aHp a i = true)
    (hk : ∀ c2, cI c2 a → (∀ j, j < aD a → c2 34 j = nI (fb_ct (aHf a j) (i + 1))) → mx_E 0 4 m_De_countFirsts Q 63 [.ref 0, .int (nI cnt), .int (nI i), .null] [] c2) :
    ∀ (u j : Nat) (c : mx_M), j + u = aD a → cI c a → (∀ p, p < a.1.1 → c 31 p = nI (mo a.1.1 i p)) → (∀ e, e < j → c 34 e = nI (fb_ct (aHf a e) (i + 1))) → (∀ e, j ≤ e → e < aD a → c 34 e = nI (fb_ct (aHf a e) i)) → mx_E 0 4 m_De_countFirsts Q 32 [.ref 0, .int (nI cnt), .int (nI i), .int (nI j)] [] c
  | 0, j, c, hj, h, h31, d1, d2 => by
    have hT := cI_T h
    have h63 : aD a ≤ 63 := hT.2.1.2.1
    have e : j = aD a := by omega
    refine mR 4 rfl trivial ?_
    rw [hT.1]
    refine mbGe _ _ rfl (by omega) (by omega) (fun _ => ?_) (fun z => by omega)
    exact mW (hk c h (fun x hx => d1 x (by omega))) ⟨Or.inr rfl, Or.inr rfl, Or.inr rfl, Or.inl rfl, trivial⟩ rfl rfl
  | u + 1, j, c, hj, h, h31, d1, d2 => by
    have hT := cI_T h
    have hn := (cI_nm h).1
    have n6 := hn.2
    have hfl := mfact_le a.1.1 (by omega)
    have h63 : aD a ≤ 63 := hT.2.1.2.1
    have hj2 : j < aD a := by omega
    have hs : ∀ e, fb_ct (aHf a e) (i + 1) = fb_ct (aHf a e) i + (if aHf a e i then 1 else 0) := fun e => rfl
    have no : aHf a j i = false → mx_E 0 4 m_De_countFirsts Q 61 [.ref 0, .int (nI cnt), .int (nI i), .int (nI j)] [] c := by
      intro z
      refine mR 2 rfl trivial ?_
      refine mS (lp_De_cf_in hi hp hk u (j + 1) c (by omega) h h31 (fun e he => ?_) (fun e h1 h2 => d2 e (by omega) h2)) ?_ rfl rfl
      · rcases Nat.lt_or_eq_of_le (Nat.le_of_lt_succ he) with q | q
        · exact d1 e q
        · rw [q, hs, z, d2 j (Nat.le_refl _) hj2]; rfl
      · rw [nI_1]
    refine mR 4 rfl trivial ?_
    rw [hT.1]
    refine mbGe _ _ rfl (by omega) (by omega) (fun z => by omega) (fun _ => ?_)
    refine mR 3 rfl trivial ?_
    refine mx_E_callV (sp_isV _ hT n6 hj2) rfl rfl rfl (fun r c1 hr => ?_)
    obtain ⟨rfl, hz⟩ := hr
    rw [hz]
    refine mbT rfl (fun hb => ?_) (fun hb => ?_)
    · exact no (by unfold aHf; rw [show (aK a j).isNone = false from hb, Bool.false_and, Bool.and_false])
    · refine mR 9 rfl trivial ?_
      rw [cI_2 h]
      refine mx_E_callV (sp_Tr_votesFirst31 (at0 := 0) (f := mo a.1.1 i) _ hT n6 hj2 (Option.isNone_iff_eq_none.mp hb) (by omega) (fun p hp => ⟨mo_lt hn hi hp, by rw [Nat.zero_add]; exact h31 p hp⟩)) rfl rfl rfl (fun r c1 hr => ?_)
      obtain ⟨rfl, hz⟩ := hr
      rw [hz]
      refine mbT rfl (fun hb2 => ?_) (fun hb2 => ?_)
      · exact no (by
          unfold aHf
          rw [hp, show (aK a j).isNone = true from hb, Bool.true_and, Bool.true_and]
          exact hb2)
      · have z : aHf a j i = true := by
          unfold aHf
          rw [hp, show (aK a j).isNone = true from hb, Bool.true_and, Bool.true_and]
          exact hb2
        refine mR 8 rfl (mA2 (mI (by omega)) (mI (by omega))) ?_
        rw [nI_cl (a := j) (by omega), d2 j (Nat.le_refl _) hj2, nI_1]
        refine mR 2 rfl trivial ?_
        refine mS (lp_De_cf_in hi hp hk u (j + 1) (mx_up c 34 j (nI (fb_ct (aHf a j) i + 1))) (by omega) (cI_34 h) (fun p hp => by rw [mx_up_id _ _ _ _ _ _ (by decide)]; exact h31 p hp) (fun e he => ?_) (fun e h1 h2 => by rw [mx_up_ix _ _ _ _ _ _ (by omega)]; exact d2 e (by omega) h2)) ?_ rfl rfl
        · rcases Nat.lt_or_eq_of_le (Nat.le_of_lt_succ he) with q | q
          · rw [mx_up_ix _ _ _ _ _ _ (by omega)]; exact d1 e q
          · rw [q, mx_up_same, hs, z]; rfl
        · rw [nI_1]
theorem lp_De_cf {Q : Option Value → mx_M → Prop} {a : mSt} (hq : ∀ c', cI c' a → (∀ j, j < aD a → c' 34 j = nI (fb_ct (aHf a j) (mfact a.1.1))) → Q (some (.int (nI (fb_ct (aHp a) (mfact a.1.1))))) c') :
    ∀ (u i : Nat) (c : mx_M), i + u = mfact a.1.1 → cI c a → (∀ j, j < aD a → c 34 j = nI (fb_ct (aHf a j) i)) → mx_E 0 4 m_De_countFirsts Q 8 [.ref 0, .int (nI (fb_ct (aHp a) i)), .int (nI i), .null] [] c
  | 0, i, c, hi, h, d => by
    have hn := (cI_nm h).1
    have n6 := hn.2
    have hfl := mfact_le a.1.1 (by omega)
    have e : i = mfact a.1.1 := by omega
    rw [e] at d ⊢
    refine mR 2 rfl trivial ?_
    refine mx_E_callV (sp_De_orders _ n6 (cI_2 h)) rfl rfl rfl (fun r c1 hr => ?_)
    obtain ⟨rfl, hz⟩ := hr
    rw [hz]
    refine mbGe _ _ rfl (by omega) (by omega) (fun _ => ?_) (fun z => by omega)
    refine mR 1 rfl trivial ?_
    exact mx_E_iret rfl rfl (hq c h d)
  | u + 1, i, c, hi, h, d => by
    have hn := (cI_nm h).1
    have n6 := hn.2
    have hfl := mfact_le a.1.1 (by omega)
    refine mR 2 rfl trivial ?_
    refine mx_E_callV (sp_De_orders _ n6 (cI_2 h)) rfl rfl rfl (fun r c1 hr => ?_)
    obtain ⟨rfl, hz⟩ := hr
    rw [hz]
    refine mbGe _ _ rfl (by omega) (by omega) (fun z => by omega) (fun _ => ?_)
    refine mR 6 rfl trivial ?_
    rw [cI_2 h]
    refine mx_E_callS (sp_De_layOrder _ a.1.1 i hn (by omega)) rfl rfl rfl (fun r c1 hr => ?_)
    obtain ⟨rfl, hc1⟩ := hr
    have h1 : cI c1 a := by rw [hc1]; exact cI_lay h
    have h31 : ∀ p, p < a.1.1 → c1 31 p = nI (mo a.1.1 i p) := fun p hp => by rw [hc1, mx_upR_row, fa_fill_in hp]
    have d1 : ∀ j, j < aD a → c1 34 j = nI (fb_ct (aHf a j) i) := fun j hj => by rw [hc1, mx_upR_rid _ _ _ _ (by decide)]; exact d j hj
    refine mR 7 rfl trivial ?_
    rw [cI_2 h1]
    refine mx_E_callV (sp_Si_agree _ h1 (fun p hp => ⟨mo_lt hn (show i < mfact a.1.1 by omega) hp, h31 p hp⟩)) rfl rfl rfl (fun r c2 hr => ?_)
    obtain ⟨rfl, hz⟩ := hr
    rw [hz]
    refine mbF rfl (fun hb => ?_) (fun hb => ?_)
    · have hb2 : aHp a i = true := hb
      refine mR 3 rfl trivial ?_
      rw [nI_1]
      refine lp_De_cf_in (cnt := fb_ct (aHp a) i + 1) (show i < mfact a.1.1 by omega) hb2 (fun c2 h2 d2 => ?_) (aD a) 0 c1 (by omega) h1 h31 (fun e he => absurd he (Nat.not_lt_zero e)) (fun e _ he => d1 e he)
      refine mR 2 rfl trivial ?_
      refine mS (lp_De_cf hq u (i + 1) c2 (by omega) h2 d2) ?_ rfl rfl
      rw [nI_1, fb_ct_succ, hb2]
      rfl
    · have hb2 : aHp a i = false := hb
      refine mR 3 rfl trivial ?_
      refine mS (lp_De_cf hq u (i + 1) c1 (by omega) h1 (fun j hj => ?_)) ?_ rfl rfl
      · rw [d1 j hj, fb_ct_succ, show aHf a j i = false by unfold aHf; rw [hb2]; rfl]
        rfl
      · rw [nI_1, fb_ct_succ, hb2]
        rfl
theorem sp_De_countFirsts (c : mx_M) {a : mSt} (h : cI c a) : mx_Spec 0 4 m_De_countFirsts [.ref 0] c (fun r c' => r = some (.int (nI (fb_ct (aHp a) (mfact a.1.1)))) ∧ cI c' a ∧ ∀ j, j < aD a → c' 34 j = nI (fb_ct (aHf a j) (mfact a.1.1))) := by
  have h63 : aD a ≤ 63 := (cI_T h).2.1.2.1
  refine mx_Spec_E rfl rfl rfl ?_
  refine mR 3 rfl trivial ?_
  refine mx_E_callS (sp_Ar_fill34 _ 0) rfl rfl rfl (fun r c1 hr => ?_)
  obtain ⟨rfl, hc1⟩ := hr
  have h1 : cI c1 a := cI_fr h (fun r hr => by rw [hc1]; exact mx_upR_rid _ _ _ _ (fun e => hr (by rw [e]; decide)))
  refine mR 4 rfl trivial ?_
  exact lp_De_cf (fun c' hI d => ⟨rfl, hI, d⟩) (mfact a.1.1) 0 c1 (by omega) h1 (fun j hj => by rw [hc1, mx_upR_row, fa_fill_in (by omega)]; rfl)
theorem mx_max {F G : Nat} (hF : F < 100000) (hG : G < 100000) : (if nI F < nI G then nI G else nI F) = nI (if F < G then G else F) := by
  by_cases e : F < G
  · rw [if_pos e, if_pos (nI_lt e (by omega))]
  · rw [if_neg e, if_neg (nI_nlt (by omega) (by omega))]
theorem aGr_le {a : mSt} {N e : Nat} (hN : N = fb_ct (aHp a) (mfact a.1.1)) : aGr a N e ≤ N ∧ aGr a N e = if fb_ct (aHf a e) (mfact a.1.1) < N - fb_ct (aHf a e) (mfact a.1.1) then N - fb_ct (aHf a e) (mfact a.1.1) else fb_ct (aHf a e) (mfact a.1.1) := by
  have := aHf_le a e (mfact a.1.1)
  unfold aGr
  constructor
  · split <;> omega
  · split <;> split <;> omega
theorem lp_De_watch {Q : Option Value → mx_M → Prop} {c : mx_M} {a : mSt} {N : Nat} (hI : cI c a) (hN : N = fb_ct (aHp a) (mfact a.1.1)) (d : ∀ j, j < aD a → c 34 j = nI (fb_ct (aHf a j) (mfact a.1.1))) (hq : Q (some (.int (aWt a N (aD a)).1)) c) :
    ∀ (u e : Nat), e + u = aD a → mx_E 0 5 m_De_watch Q 16 [.ref 0, .int (nI N), .int (aWt a N e).1, .int (nI (min (aWt a N e).2 (N + 1))), .int (nI e), .null] [] c
  | 0, e, h => by
    have hT := cI_T hI
    have h63 : aD a ≤ 63 := hT.2.1.2.1
    have ee : e = aD a := by omega
    rw [ee]
    refine mR 4 rfl trivial ?_
    rw [hT.1]
    refine mbGe _ _ rfl (by omega) (by omega) (fun _ => ?_) (fun z => by omega)
    refine mR 1 rfl trivial ?_
    exact mx_E_iret rfl rfl hq
  | u + 1, e, h => by
    have hT := cI_T hI
    have n6 := (cI_nm hI).1.2
    have h63 : aD a ≤ 63 := hT.2.1.2.1
    have hfl := mfact_le a.1.1 (by omega)
    have hcl := fb_ct_le (aHp a) (mfact a.1.1)
    have hle := aHf_le a e (mfact a.1.1)
    obtain ⟨g1, g2⟩ := aGr_le (a := a) (e := e) hN
    have he : e < aD a := by omega
    have hs : aWt a N (e + 1) = if (aK a e).isNone = true ∧ aGr a N e < (aWt a N e).2 then (nI e, aGr a N e) else aWt a N e := rfl
    have hw := aWt_le a N e
    have nxt : ∀ (v1 : Int32) (v2 : Nat) (g : Int32), v1 = (aWt a N (e + 1)).1 → v2 = min (aWt a N (e + 1)).2 (N + 1) → mx_E 0 5 m_De_watch Q 45 [.ref 0, .int (nI N), .int v1, .int (nI v2), .int (nI e), .int g] [] c := by
      intro v1 v2 g h1 h2
      refine mR 2 rfl trivial ?_
      refine mW (lp_De_watch hI hN d hq u (e + 1) (by omega)) ⟨Or.inr rfl, Or.inr rfl, Or.inr (by rw [h1]), Or.inr (by rw [h2]), Or.inr (by rw [nI_1]), Or.inl rfl, trivial⟩ rfl rfl
    refine mR 4 rfl trivial ?_
    rw [hT.1]
    refine mbGe _ _ rfl (by omega) (by omega) (fun z => by omega) (fun _ => ?_)
    refine mR 10 rfl (mA2 (mI (by omega)) (mI (by omega))) ?_
    rw [nI_cl (a := e) (by omega), d e he, pk_sub (by omega)]
    refine mR 2 rfl trivial ?_
    have mxe := mx_max (F := fb_ct (aHf a e) (mfact a.1.1)) (G := N - fb_ct (aHf a e) (mfact a.1.1)) (by omega) (by omega)
    rw [← g2] at mxe
    refine mS (ls' := [.ref 0, .int (nI N), .int (aWt a N e).1, .int (nI (min (aWt a N e).2 (N + 1))), .int (nI e), .int (nI (aGr a N e))]) ?_ (congrArg (fun z => ([Value.ref 0, Value.int (nI N), Value.int (aWt a N e).1, Value.int (nI (min (aWt a N e).2 (N + 1))), Value.int (nI e), Value.int z] : List Value)) mxe) rfl rfl
    refine mR 3 rfl trivial ?_
    refine mx_E_callV (sp_isV _ hT n6 he) rfl rfl rfl (fun r c1 hr => ?_)
    obtain ⟨rfl, hz⟩ := hr
    rw [hz]
    refine mbT rfl (fun hb => ?_) (fun hb => ?_)
    · have hno : aWt a N (e + 1) = aWt a N e := by rw [hs, if_neg (fun q => by rw [show (aK a e).isNone = false from hb] at q; cases q.1)]
      exact nxt _ _ _ (by rw [hno]) (by rw [hno])
    · refine mR 2 rfl trivial ?_
      refine mbGe _ _ rfl (by omega) (by omega) (fun z => ?_) (fun z => ?_)
      · have hno : aWt a N (e + 1) = aWt a N e := by rw [hs, if_neg (fun q => by have := q.2; omega)]
        exact nxt _ _ _ (by rw [hno]) (by rw [hno])
      · have hye : aWt a N (e + 1) = (nI e, aGr a N e) := by rw [hs, if_pos ⟨hb, by omega⟩]
        refine mR 4 rfl trivial ?_
        exact nxt _ _ _ (by rw [hye]) (by rw [hye]; show aGr a N e = min (aGr a N e) (N + 1); omega)
theorem qc_watch {c : mx_M} {a : mSt} (h : cI c a) : mx_Spec 0 5 m_De_watch [.ref 0] c (fun r c' => r = some (.int (aWatch a).1) ∧ cI c' (aWatch a).2) := by
  have n6 := (cI_nm h).1.2
  have hfl := mfact_le a.1.1 (by omega)
  have hcl := fb_ct_le (aHp a) (mfact a.1.1)
  refine mx_Spec_E rfl rfl rfl ?_
  refine mR 1 rfl trivial ?_
  refine mx_E_callV (sp_De_countFirsts _ h) rfl rfl rfl (fun r c1 hr => ?_)
  obtain ⟨rfl, hI, d⟩ := hr
  refine mR 3 rfl trivial ?_
  rw [show (1 : Int32) = nI 1 from rfl]
  unfold aWatch
  refine mbGt _ _ rfl (by omega) (by decide) (fun z => ?_) (fun z => ?_)
  · rw [if_pos z]
    refine mR 8 rfl trivial ?_
    refine mS (lp_De_watch hI rfl d ⟨rfl, hI⟩ (aD a) 0 (by omega)) ?_ rfl rfl
    rw [nI_1]
    show _ = [Value.ref 0, _, Value.int (-9), Value.int (nI (min 9999 (fb_ct (aHp a) (mfact a.1.1) + 1))), _, _]
    rw [Nat.min_eq_right (by omega)]
    rfl
  · rw [if_neg (by omega)]
    refine mR 1 rfl trivial ?_
    exact mx_E_iret rfl rfl ⟨rfl, hI⟩
