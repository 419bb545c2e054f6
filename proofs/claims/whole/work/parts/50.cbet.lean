/-! the class: whether a member does better, how few must be won over -/
theorem lp_Pi_placeOf {Q : Option Value → mx_M → Prop} {c : mx_M} {n m w x : Nat} {R : Nat → Nat → Nat} (hn : n ≤ 6) (hw : w < m) (hm : m ≤ 9) (h2 : c 6 2 = nI n) (hR : rRk (c 7) n m R) (hp : mperm n (R w)) (hx : x < n) (hq : Q (some (.int (nI (mpos (R w) n x)))) c) :
    ∀ (u p : Nat), p + u = n → (∀ j, j < p → R w j ≠ x) → mx_E 0 1 m_Pi_placeOf Q 2 [.ref 6, .int (nI w), .int (nI x), .int (nI p)] [] c
  | 0, p, h, hj => by
    obtain ⟨g1, g2⟩ := mpos_lt hp hx
    exact absurd g2 (hj _ (by omega))
  | u + 1, p, h, hj => by
    have e1 : nI w * 6 + nI p = nI (6 * w + p) := by rw [show (6 : Int32) = nI 6 from rfl, pk_mul, nI_add, Nat.mul_comm]
    have l1 := hp.1 p (by omega)
    refine mR 3 rfl trivial ?_
    rw [h2]
    refine mbGe _ _ rfl (by omega) (by omega) (fun z => by omega) (fun _ => ?_)
    refine mR 9 rfl (mA1 (by rw [e1]; exact mI (by omega))) ?_
    rw [e1, nI_cl (a := 6 * w + p) (by omega), hR w p hw (by omega)]
    refine mbNe _ _ rfl (by omega) (by omega) (fun z => ?_) (fun z => ?_)
    · refine mR 2 rfl trivial ?_
      refine mS (lp_Pi_placeOf hn hw hm h2 hR hp hx hq u (p + 1) (by omega) (fun j hj2 => ?_)) ?_ rfl rfl
      · rcases Nat.lt_or_eq_of_le (Nat.le_of_lt_succ hj2) with q | q
        · exact hj j q
        · rw [q]; exact z
      · rw [nI_1]
    · refine mR 1 rfl trivial ?_
      refine mx_E_iret rfl rfl ?_
      have e : mpos (R w) n x = p := by rw [← z]; exact mpos_at hp (by omega)
      rw [e] at hq
      exact hq
theorem sp_Pi_placeOf (c : mx_M) {n m w x : Nat} {R : Nat → Nat → Nat} (hn : n ≤ 6) (hw : w < m) (hm : m ≤ 9) (h2 : c 6 2 = nI n) (hR : rRk (c 7) n m R) (hp : mperm n (R w)) (hx : x < n) : mx_Spec 0 1 m_Pi_placeOf [.ref 6, .int (nI w), .int (nI x)] c (fun r c' => r = some (.int (nI (mpos (R w) n x))) ∧ c' = c) := by
  refine mx_Spec_E rfl rfl rfl ?_
  refine mR 2 rfl trivial ?_
  exact lp_Pi_placeOf hn hw hm h2 hR hp hx ⟨rfl, rfl⟩ n 0 (by omega) (fun j hj => absurd hj (Nat.not_lt_zero j))
/-- the best place so far, and by which ranking -/
def bBs (a : mSt) (w i : Nat) (k : Nat) : Nat := match k with
  | 0 => a.1.1
  | k + 1 => bPl a w i (bIx a w i k)
def bFs (a : mSt) (w i : Nat) (k : Nat) : Nat := match k with
  | 0 => 0
  | k + 1 => bIx a w i k
theorem bBs_s {a : mSt} {w i k : Nat} (h0 : bPl a w i 0 < a.1.1) : bBs a w i (k + 1) = (if bPl a w i k < bBs a w i k then bPl a w i k else bBs a w i k) ∧ bFs a w i (k + 1) = (if bPl a w i k < bBs a w i k then k else bFs a w i k) := by
  cases k with
  | zero =>
    show bPl a w i 0 = (if bPl a w i 0 < a.1.1 then _ else _) ∧ 0 = (if bPl a w i 0 < a.1.1 then _ else _)
    rw [if_pos h0, if_pos h0]
    exact ⟨rfl, rfl⟩
  | succ k =>
    show bPl a w i (bIx a w i (k + 1)) = (if bPl a w i (k + 1) < bPl a w i (bIx a w i k) then _ else _) ∧ bIx a w i (k + 1) = (if bPl a w i (k + 1) < bPl a w i (bIx a w i k) then _ else _)
    have e : bIx a w i (k + 1) = if bPl a w i (k + 1) < bPl a w i (bIx a w i k) then k + 1 else bIx a w i k := rfl
    rw [e]
    by_cases z : bPl a w i (k + 1) < bPl a w i (bIx a w i k)
    · rw [if_pos z, if_pos z, if_pos z]; exact ⟨rfl, rfl⟩
    · rw [if_neg z, if_neg z, if_neg z]; exact ⟨rfl, rfl⟩
theorem mRr_perm {n m x : Nat} {R : Nat → Nat → Nat} {f : Nat → Nat} (h : ∀ i, i < m → mperm n (R i)) (hf : mperm n f) : ∀ i, i < m → mperm n (mRr R x f i) := by
  intro i hi
  unfold mRr
  split
  · exact hf
  · exact h i hi
theorem mRr_id (R : Nat → Nat → Nat) (x : Nat) : mRr R x (R x) = R := by
  funext j
  unfold mRr
  split
  · rename_i e; rw [e]
  · rfl
theorem bH_fr {S : List Nat} {c c' : mx_M} {w m n : Nat} {K : Nat → Option Nat} {Z : Nat → Nat} {nd : Nat} {R : Nat → Nat → Nat} (h : bH c w m n K Z nd R) (hf : mfr S c c') (h1 : 18 ∉ S) (h2 : 19 ∉ S) : bH c' w m n K Z nd R := by
  unfold bH at h ⊢
  rw [hf 18 h1, hf 19 h2]
  exact h
theorem ife_app {q : Nat → Bool} {i j : Nat} {G : (Nat → Nat) → Bool} {R : Nat → Nat → Nat} {f f2 : Nat → Nat} : (if j = i then G f2 else G (mRr R i f j)) = G (mRr R i f2 j) := by
  unfold mRr
  split
  · rfl
  · rfl
theorem lp_De_better {Q : Option Value → mx_M → Prop} {a : mSt} {x w y : Nat} (hx : x < a.1.2) (hw : w < 2) (hy : y < 3) (hbl : ∀ k, k < mfact a.1.1 → bOut a w x k < a.1.1) (hnl : bNow a w x < a.1.1) (hq : ∀ c', cI c' a → Q (some (.int (if nI y = 0 then nI (fb_ct (bB a w x) (mfact a.1.1)) else if nI y = 1 then nI (bOut a w x (bIx a w x (mfact a.1.1 - 1))) else nI (bIx a w x (mfact a.1.1 - 1))))) c') :
    ∀ (u k : Nat) (c : mx_M), k + u = mfact a.1.1 → cI c a → (∃ f, bH c w a.1.2 a.1.1 (aK a) (aZ a) (aD a) (mRr a.2.1.1 x f)) → mx_E 0 6 m_De_better Q 42 [.ref 0, .int (nI x), .int (nI w), .int (nI y), .int (nI (bNow a w x)), .int (nI (fb_ct (bB a w x) k)), .int (nI (bBs a w x k)), .int (nI (bFs a w x k)), .int (nI k), .null] [] c
  | 0, k, c, hk, h, hH => by
    obtain ⟨hn, hm⟩ := cI_nm h
    have n6 := hn.2
    have hfl := mfact_le a.1.1 (by omega)
    have e : k = mfact a.1.1 := by omega
    obtain ⟨k0, hk0⟩ : ∃ k0, mfact a.1.1 = k0 + 1 := ⟨mfact a.1.1 - 1, by omega⟩
    have hix := bIx_le a w x k0
    have hbo := hbl (bIx a w x k0) (by omega)
    have hpl := mpos_lt (cI_R h x hx) hbo
    have fin := hq c h
    rw [show mfact a.1.1 - 1 = k0 by omega] at fin
    refine mR 2 rfl trivial ?_
    refine mx_E_callV (sp_De_orders _ n6 (cI_2 h)) rfl rfl rfl (fun r c1 hr => ?_)
    obtain ⟨rfl, hz⟩ := hr
    rw [hz]
    refine mbGe _ _ rfl (by omega) (by omega) (fun _ => ?_) (fun z => by omega)
    rw [e]
    rw [show bBs a w x (mfact a.1.1) = bPl a w x (bIx a w x k0) by rw [hk0]; rfl, show bFs a w x (mfact a.1.1) = bIx a w x k0 by rw [hk0]; rfl]
    refine mR 1 rfl trivial ?_
    refine mx_E_br rfl rfl (fun z => ?_) (fun z => ?_)
    · rw [if_neg z] at fin
      refine mR 2 rfl trivial ?_
      refine mx_E_br rfl rfl (fun z2 => ?_) (fun z2 => ?_)
      · rw [if_neg z2] at fin
        refine mR 1 rfl trivial ?_
        exact mx_E_iret rfl rfl fin
      · rw [if_pos (Decidable.not_not.mp z2)] at fin
        refine mR 3 rfl trivial ?_
        refine mx_E_callV (qc_ranking (nI x) (nI (bPl a w x (bIx a w x k0))) h) rfl rfl rfl (fun r c1 hr => ?_)
        obtain ⟨rfl, hz⟩ := hr
        refine mR 1 rfl trivial ?_
        refine mx_E_iret rfl rfl ?_
        unfold aRanking at hz ⊢
        rw [mi_t hx (by omega), mi_t (show bPl a w x (bIx a w x k0) < a.1.1 from hpl.1) (by omega)] at hz ⊢
        have hI2 : cI c1 a := hz
        show Q (some (Value.int (nI (a.2.1.1 (nI x).toNatClampNeg (nI (bPl a w x (bIx a w x k0))).toNatClampNeg)))) c1
        have l2 : bPl a w x (bIx a w x k0) < a.1.1 := hpl.1
        rw [nI_cl (a := x) (by omega), nI_cl (a := bPl a w x (bIx a w x k0)) (by omega)]
        have fin2 := hq c1 hI2
        rw [show mfact a.1.1 - 1 = k0 by omega, if_neg z, if_pos (Decidable.not_not.mp z2)] at fin2
        rw [show a.2.1.1 x (bPl a w x (bIx a w x k0)) = bOut a w x (bIx a w x k0) from hpl.2]
        exact fin2
    · rw [if_pos (Decidable.not_not.mp z)] at fin
      refine mR 1 rfl trivial ?_
      exact mx_E_iret rfl rfl fin
  | u + 1, k, c, hk, h, hH => by
    obtain ⟨hn, hm⟩ := cI_nm h
    have n6 := hn.2
    have hfl := mfact_le a.1.1 (by omega)
    have hcl := fb_ct_le (bB a w x) k
    have hkn : k < mfact a.1.1 := by omega
    have hb0 : bPl a w x 0 < a.1.1 := (mpos_lt (cI_R h x hx) (hbl 0 (by omega))).1
    have hpl : bPl a w x k < a.1.1 := (mpos_lt (cI_R h x hx) (hbl k hkn)).1
    have hbs : bBs a w x k ≤ a.1.1 := by
      cases k with
      | zero => exact Nat.le_refl _
      | succ k =>
        have := bIx_le a w x k
        exact Nat.le_of_lt (mpos_lt (cI_R h x hx) (hbl (bIx a w x k) (by omega))).1
    obtain ⟨s1, s2⟩ := bBs_s (k := k) hb0
    refine mR 2 rfl trivial ?_
    refine mx_E_callV (sp_De_orders _ n6 (cI_2 h)) rfl rfl rfl (fun r c1 hr => ?_)
    obtain ⟨rfl, hz⟩ := hr
    rw [hz]
    refine mbGe _ _ rfl (by omega) (by omega) (fun z => by omega) (fun _ => ?_)
    refine mR 6 rfl trivial ?_
    rw [cI_2 h]
    refine mx_E_callS (sp_De_layOrder _ a.1.1 k hn hkn) rfl rfl rfl (fun r c1 hr => ?_)
    obtain ⟨rfl, hc1⟩ := hr
    have f1 : mfr [31] c c1 := fun r hr => by rw [hc1]; exact mx_upR_rid _ _ _ _ (fun e => hr (by rw [e]; decide))
    have h1 : cI c1 a := cI_fr h (mfr_mo f1 (by decide))
    have h31 : ∀ p, p < a.1.1 → c1 31 (0 + p) = nI (mo a.1.1 k p) := fun p hp => by rw [Nat.zero_add, hc1, mx_upR_row, fa_fill_in hp]
    obtain ⟨f0, hH0⟩ := hH
    have hH1 := bH_fr hH0 f1 (by decide) (by decide)
    have hT1 := cI_T h1
    have hperm := mperm_mo hn hkn
    have go : ∀ c2, mfr [18, 19] c1 c2 → bH c2 w a.1.2 a.1.1 (aK a) (aZ a) (aD a) (mRr a.2.1.1 x (mo a.1.1 k)) → mx_E 0 6 m_De_better Q 82 [.ref 0, .int (nI x), .int (nI w), .int (nI y), .int (nI (bNow a w x)), .int (nI (fb_ct (bB a w x) k)), .int (nI (bBs a w x k)), .int (nI (bFs a w x k)), .int (nI k), .null] [] c2 := by
      intro c2 f2 hH2
      have h2 : cI c2 a := cI_fr h1 (mfr_mo f2 (by decide))
      refine mR 9 rfl trivial ?_
      refine mx_E_callV (sp_De_everyone _ hm (cI_3 h2)) rfl rfl rfl (fun r c3 hr => ?_)
      obtain ⟨rfl, hz⟩ := hr
      rw [hz]
      refine mx_E_callV (sp_Ba_outcomeH17 _ (cI_T h2) n6 hm hH2 (mRr_perm (cI_R h2) hperm) (pwt _) hw) rfl rfl rfl (fun r c3 hr => ?_)
      obtain ⟨rfl, f3⟩ := hr
      have h3 : cI c3 a := cI_fr h2 (mfr_mo f3 (by decide))
      have hH3 := bH_fr hH2 f3 (by decide) (by decide)
      refine mx_E_callV (sp_Pi_placeOf _ (x := bOut a w x k) n6 hx hm (cI_2 h3) h3.1.2.1.2.2.2.2.1 (cI_R h3 x hx) (hbl k hkn)) rfl rfl rfl (fun r c4 hr => ?_)
      obtain ⟨rfl, hz⟩ := hr
      rw [hz]
      have hs : fb_ct (bB a w x) (k + 1) = fb_ct (bB a w x) k + (if bB a w x k then 1 else 0) := rfl
      have nxt : ∀ v1 v2 v3 : Nat, v1 = fb_ct (bB a w x) (k + 1) → v2 = bBs a w x (k + 1) → v3 = bFs a w x (k + 1) → mx_E 0 6 m_De_better Q 106 [.ref 0, .int (nI x), .int (nI w), .int (nI y), .int (nI (bNow a w x)), .int (nI v1), .int (nI v2), .int (nI v3), .int (nI k), .int (nI (bPl a w x k))] [] c3 := by
        intro v1 v2 v3 e1 e2 e3
        refine mR 2 rfl trivial ?_
        refine mW (lp_De_better hx hw hy hbl hnl hq u (k + 1) c3 (by omega) h3 ⟨_, hH3⟩) ⟨Or.inr rfl, Or.inr rfl, Or.inr rfl, Or.inr rfl, Or.inr rfl, Or.inr (by rw [e1]), Or.inr (by rw [e2]), Or.inr (by rw [e3]), Or.inr (by rw [nI_1]), Or.inl rfl, trivial⟩ rfl rfl
      have snd : ∀ v1 : Nat, v1 = fb_ct (bB a w x) (k + 1) → mx_E 0 6 m_De_better Q 99 [.ref 0, .int (nI x), .int (nI w), .int (nI y), .int (nI (bNow a w x)), .int (nI v1), .int (nI (bBs a w x k)), .int (nI (bFs a w x k)), .int (nI k), .int (nI (bPl a w x k))] [] c3 := by
        intro v1 e1
        refine mR 2 rfl trivial ?_
        refine mbGe _ _ rfl (by omega) (by omega) (fun z => ?_) (fun z => ?_)
        · exact nxt _ _ _ e1 (by rw [s1, if_neg (by omega)]) (by rw [s2, if_neg (by omega)])
        · refine mR 4 rfl trivial ?_
          exact nxt _ _ _ e1 (by rw [s1, if_pos z]) (by rw [s2, if_pos z])
      refine mR 3 rfl trivial ?_
      refine mbGe (bPl a w x k) (bNow a w x) rfl (by omega) (by omega) (fun z => ?_) (fun z => ?_)
      · exact snd _ (by rw [hs, show bB a w x k = false from decide_eq_false (by omega)]; rfl)
      · refine mR 1 rfl trivial ?_
        rw [nI_1]
        exact snd _ (by rw [hs, show bB a w x k = true from decide_eq_true z]; rfl)
    refine mR 1 rfl trivial ?_
    rcases (show w = 0 ∨ w = 1 by omega) with rfl | rfl
    · refine mx_E_br rfl rfl (fun z => absurd (show nI 0 = 0 from rfl) z) (fun _ => ?_)
      refine mR 13 rfl trivial ?_
      rw [cI_2 h1, nI_shl1 (by omega)]
      refine mx_E_callV (sp_Ba_castSincere17_31 (at0 := 0) _ (S := fun k' => bS (fun i => gG (aK a) (aZ a) (aD a) a.1.1 (mRr a.2.1.1 x f0 i) k') a.1.2) hT1 n6 (show x < 9 by omega) (by omega) (fun p hp => ⟨mo_lt hn hkn hp, h31 p hp⟩) (fun k' hk' => ⟨hH1.1 rfl k' hk', bS_512 _ hm⟩)) rfl rfl rfl (fun r c2 hr => ?_)
      obtain ⟨rfl, f2, w2⟩ := hr
      refine mR 1 rfl trivial ?_
      refine go c2 (mfr_mo f2 (by decide)) ⟨fun _ k' hk' => ?_, fun z => absurd rfl z⟩
      rw [w2 k' hk', bW_in hm hx]
      exact congrArg nI (bS_congr (fun j _ => ife_app (q := fun _ => true) (G := fun g => gG (aK a) (aZ a) (aD a) a.1.1 g k')))
    · refine mx_E_br rfl rfl (fun _ => ?_) (fun z => absurd (show ¬ nI 1 = 0 by decide) z)
      refine mR 11 rfl trivial ?_
      rw [cI_2 h1, nI_shl1 (by omega)]
      refine mx_E_callV (sp_Ba_castAbove17_31 (at0 := 0) _ (S := fun x' y' => bS (fun i => gV a.1.1 (mRr a.2.1.1 x f0 i) x' y') a.1.2) n6 (show x < 9 by omega) (by omega) hperm h31 (fun x' y' hx' hy' hxy' => ⟨hH1.2 (by decide) x' y' hx' hy' hxy', bS_512 _ hm⟩)) rfl rfl rfl (fun r c2 hr => ?_)
      obtain ⟨rfl, f2, w2⟩ := hr
      refine go c2 (mfr_mo f2 (by decide)) ⟨fun z => absurd z (by decide), fun _ x' y' hx' hy' hxy' => ?_⟩
      rw [w2 x' y' hx' hy' hxy', bW_in hm hx]
      exact congrArg nI (bS_congr (fun j _ => ife_app (q := fun _ => true) (G := fun g => gV a.1.1 g x' y')))
theorem qc_better {c : mx_M} {a : mSt} (x w y : Int32) (h : cI c a) : mx_Spec 0 6 m_De_better [.ref 0, .int x, .int w, .int y] c (fun r c' => r = some (.int (aBetter a x w y).1) ∧ cI c' (aBetter a x w y).2) := by
  obtain ⟨hn, hm⟩ := cI_nm h
  have n6 := hn.2
  have hT := cI_T h
  refine mx_Spec_E rfl rfl rfl ?_
  refine mR 2 rfl trivial ?_
  refine mx_E_callV (sp_De_isMember _ x _ (cI_3 h)) rfl rfl rfl (fun r c1 hr => ?_)
  obtain ⟨rfl, hz⟩ := hr
  rw [hz]
  unfold aBetter
  refine mbT rfl (fun hb => ?_) (fun hb => ?_)
  · rw [hb]
    refine mR 1 rfl trivial ?_
    exact mx_E_iret rfl rfl ⟨rfl, h⟩
  · refine mR 2 rfl trivial ?_
    refine mx_E_callV (sp_De_isWay _ w) rfl rfl rfl (fun r c1 hr => ?_)
    obtain ⟨rfl, hz⟩ := hr
    rw [hz]
    refine mbT rfl (fun hb2 => ?_) (fun hb2 => ?_)
    · rw [hb2, Bool.and_false]
      refine mR 1 rfl trivial ?_
      exact mx_E_iret rfl rfl ⟨rfl, h⟩
    · refine mR 2 rfl trivial ?_
      refine mx_E_callS (sp_De_within _ y 3) rfl rfl rfl (fun r c1 hr => ?_)
      obtain ⟨rfl, hz⟩ := hr
      rw [hz]
      refine mbF rfl (fun hb3 => ?_) (fun hb3 => ?_)
      · rw [hb, hb2, hb3]
        obtain ⟨i, hi, rfl⟩ := mi_of (by omega) hb
        obtain ⟨v, hv, rfl⟩ := mi_of (by decide) hb2
        obtain ⟨j, hj, rfl⟩ := mi_of (by decide) hb3
        rw [nI_cl (a := i) (by omega), nI_cl (a := v) (by omega)]
        have l0 : aOut a v a.2.1 < a.1.1 := mout_lt hT.2.1
        refine mR 9 rfl trivial ?_
        refine mx_E_callV (sp_De_everyone _ hm (cI_3 h)) rfl rfl rfl (fun r c1 hr => ?_)
        obtain ⟨rfl, hz⟩ := hr
        rw [hz]
        refine mx_E_callV (sp_Ba_outcome13 _ hT n6 hm (cI_b h) (cI_R h) (pwt _) hv) rfl rfl rfl (fun r c1 hr => ?_)
        obtain ⟨rfl, f1⟩ := hr
        have h1 : cI c1 a := cI_fr h (mfr_mo f1 (by decide))
        refine mx_E_callV (sp_Pi_placeOf _ (x := aOut a v a.2.1) n6 hi hm (cI_2 h1) h1.1.2.1.2.2.2.2.1 (cI_R h1 i hi) l0) rfl rfl rfl (fun r c2 hr => ?_)
        obtain ⟨rfl, hz⟩ := hr
        rw [hz]
        refine mR 9 rfl trivial ?_
        rw [cI_2 h1]
        refine mR 4 rfl trivial ?_
        refine mx_E_callV (sp_Ba_copy _) rfl rfl rfl (fun r c2 hr => ?_)
        obtain ⟨rfl, f2, w1, w2⟩ := hr
        have h2 : cI c2 a := cI_fr h1 (mfr_mo f2 (by decide))
        have h63 : aD a ≤ 63 := hT.2.1.2.1
        refine mR 2 rfl trivial ?_
        refine lp_De_better hi hv hj (fun k hk => mout_lt hT.2.1) (mpos_lt (cI_R h i hi) l0).1 (fun c' hI => ⟨rfl, hI⟩) (mfact a.1.1) 0 c2 (by omega) h2 ⟨a.2.1.1 i, ?_⟩
        rw [mRr_id]
        exact ⟨fun _ k hk => by rw [w1 k (by omega)]; exact (cI_b h1).1 k hk, fun _ x' y' hx' hy' hxy' => by rw [w2 _ (by omega)]; exact (cI_b h1).2 x' y' hx' hy' hxy'⟩
      · rw [hb3, Bool.and_false]
        refine mR 1 rfl trivial ?_
        exact mx_E_iret rfl rfl ⟨rfl, h⟩
-- how few must be won over
theorem lp_Pi_lwf {Q : Option Value → mx_M → Prop} {n m i x : Nat} {R : Nat → Nat → Nat} (hn : n ≤ 6) (hm : m ≤ 9) (hi : i < m) (hx : x < n) (hp : mperm n (R i)) :
    ∀ (u p q : Nat) (c : mx_M), p + u = n → q = (if p ≤ mpos (R i) n x then p + 1 else p) → c 6 2 = nI n → rRk (c 7) n m R → (∀ j, j < q → c 31 j = nI (mpf (R i) n x j)) → (∀ c', mfr [31] c c' → (∀ j, j < n → c' 31 j = nI (mpf (R i) n x j)) → Q none c') → mx_E 0 1 m_Pi_layWithFirst Q 8 [.ref 6, .int (nI i), .int (nI x), .ref 31, .int (nI q), .int (nI p), .null] [] c
  | 0, p, q, c, h, eq, h2, hR, hj, hq => by
    obtain ⟨g1, g2⟩ := mpos_lt hp hx
    refine mR 3 rfl trivial ?_
    rw [h2]
    refine mbGe _ _ rfl (by omega) (by omega) (fun _ => ?_) (fun z => by omega)
    refine mx_E_vret rfl rfl (hq c (mfr_rf _ _) (fun j hj2 => hj j ?_))
    rw [eq, if_neg (by omega)]
    omega
  | u + 1, p, q, c, h, eq, h2, hR, hj, hq => by
    obtain ⟨g1, g2⟩ := mpos_lt hp hx
    have e1 : nI i * 6 + nI p = nI (6 * i + p) := by rw [show (6 : Int32) = nI 6 from rfl, pk_mul, nI_add, Nat.mul_comm]
    have l1 := hp.1 p (by omega)
    have hql : q ≤ p + 1 := by rw [eq]; split <;> omega
    refine mR 3 rfl trivial ?_
    rw [h2]
    refine mbGe _ _ rfl (by omega) (by omega) (fun z => by omega) (fun _ => ?_)
    refine mR 8 rfl (mA1 (by rw [e1]; exact mI (by omega))) ?_
    rw [e1, nI_cl (a := 6 * i + p) (by omega), hR i p hi (by omega)]
    refine mR 3 rfl trivial ?_
    refine mbEq _ _ rfl (by omega) (by omega) (fun z => ?_) (fun z => ?_)
    · have ep : mpos (R i) n x = p := by rw [← z]; exact mpos_at hp (by omega)
      refine mR 2 rfl trivial ?_
      refine mW (lp_Pi_lwf hn hm hi hx hp u (p + 1) q c (by omega) (by rw [eq, ep, if_pos (Nat.le_refl _), if_neg (by omega)]) h2 hR hj hq) ⟨Or.inr rfl, Or.inr rfl, Or.inr rfl, Or.inr rfl, Or.inr rfl, Or.inr (by rw [nI_1]), Or.inl rfl, trivial⟩ rfl rfl
    · have hne : mpos (R i) n x ≠ p := fun q => z (by rw [← q]; exact g2)
      have hqn : q < n := by rw [eq]; split <;> omega
      refine mR 3 rfl trivial ?_
      rw [h2]
      refine mbGe _ _ rfl (by omega) (by omega) (fun z => by omega) (fun _ => ?_)
      refine mR 4 rfl (mA1 (mI (by omega))) ?_
      rw [nI_cl (a := q) (by omega)]
      refine mR 3 rfl trivial ?_
      refine mW (lp_Pi_lwf hn hm hi hx hp u (p + 1) (q + 1) (mx_up c 31 q (nI (R i p))) (by omega) (by rw [eq]; split <;> split <;> omega) (by rw [mx_up_id _ _ _ _ _ _ (by decide)]; exact h2) (by rw [mx_up_rid _ _ _ _ _ (by decide)]; exact hR) (fun j hj2 => ?_) (fun c' hf hc => hq c' (mfr_tr (mfr_up (mfr_rf _ _) (by decide)) hf) hc)) ⟨Or.inr rfl, Or.inr rfl, Or.inr rfl, Or.inr rfl, Or.inr (by rw [nI_1]), Or.inr (by rw [nI_1]), Or.inl rfl, trivial⟩ rfl rfl
      rcases Nat.lt_or_eq_of_le (Nat.le_of_lt_succ hj2) with w | w
      · rw [mx_up_ix _ _ _ _ _ _ (by omega)]
        exact hj j w
      · rw [w, mx_up_same]
        congr 1
        unfold mpf
        by_cases e2 : p ≤ mpos (R i) n x
        · rw [if_pos e2] at eq
          rw [if_neg (by omega), if_pos (by omega), eq, Nat.add_sub_cancel]
        · rw [if_neg e2] at eq
          rw [if_neg (by omega), if_neg (by omega), eq]
theorem sp_Pi_layWithFirst (c : mx_M) {n m i x : Nat} {R : Nat → Nat → Nat} (hn : n ≤ 6) (hm : m ≤ 9) (hi : i < m) (hx : x < n) (hp : mperm n (R i)) (h2 : c 6 2 = nI n) (hR : rRk (c 7) n m R) : mx_Spec 0 1 m_Pi_layWithFirst [.ref 6, .int (nI i), .int (nI x), .ref 31] c (fun r c' => r = none ∧ mfr [31] c c' ∧ ∀ j, j < n → c' 31 j = nI (mpf (R i) n x j)) := by
  refine mx_Spec_E rfl rfl rfl ?_
  refine mR 8 rfl (mA1 (mI (n := 0) (by decide))) ?_
  rw [show ((0 : Int32)).toNatClampNeg = 0 by decide]
  refine lp_Pi_lwf hn hm hi hx hp n 0 1 (mx_up c 31 0 (nI x)) (by omega) (by rw [if_pos (Nat.zero_le _)]) (by rw [mx_up_id _ _ _ _ _ _ (by decide)]; exact h2) (by rw [mx_up_rid _ _ _ _ _ (by decide)]; exact hR) (fun j hj => ?_) (fun c' hf hc => ⟨rfl, mfr_tr (mfr_up (mfr_rf _ _) (by decide)) hf, hc⟩)
  have e : j = 0 := by omega
  rw [e, mx_up_same]
  rfl
/-- those who were asked so far vote, in the supposed ballots, with a motion put first -/
def wB (c : mx_M) (a : mSt) (x k : Nat) : Prop := (∀ e, e < aD a → ∀ i, i < k → ib (c 22 e) i = gG (aK a) (aZ a) (aD a) a.1.1 (mpf (a.2.1.1 i) a.1.1 x) e) ∧ ∀ x' y', x' < a.1.1 → y' < a.1.1 → x' ≠ y' → ∀ i, i < k → ib (c 23 (6 * x' + y')) i = gV a.1.1 (mpf (a.2.1.1 i) a.1.1 x) x' y'
theorem lp_De_won1 {Q : Option Value → mx_M → Prop} {a : mSt} {x w y : Nat} (hx : x < a.1.1) (hk : ∀ c2, cI c2 a → wB c2 a x a.1.2 → mx_E 0 6 m_De_won Q 44 [.ref 0, .int (nI x), .int (nI w), .int (nI y), .int (nI a.1.2), .null, .null, .null] [] c2) :
    ∀ (u i : Nat) (c : mx_M), i + u = a.1.2 → cI c a → wB c a x i → mx_E 0 6 m_De_won Q 16 [.ref 0, .int (nI x), .int (nI w), .int (nI y), .int (nI i), .null, .null, .null] [] c
  | 0, i, c, hi, h, hB => by
    obtain ⟨hn, hm⟩ := cI_nm h
    have e : i = a.1.2 := by omega
    rw [e] at hB ⊢
    refine mR 4 rfl trivial ?_
    rw [cI_3 h]
    exact mbGe _ _ rfl (by omega) (by omega) (fun _ => hk c h hB) (fun z => absurd z (Nat.lt_irrefl _))
  | u + 1, i, c, hi, h, hB => by
    obtain ⟨hn, hm⟩ := cI_nm h
    have n6 := hn.2
    have him : i < a.1.2 := by omega
    have hpm := mpf_perm (cI_R h i him) hx
    refine mR 4 rfl trivial ?_
    rw [cI_3 h]
    refine mbGe _ _ rfl (by omega) (by omega) (fun z => by omega) (fun _ => ?_)
    refine mR 6 rfl trivial ?_
    refine mx_E_callV (sp_Pi_layWithFirst _ n6 hm him hx (cI_R h i him) (cI_2 h) h.1.2.1.2.2.2.2.1) rfl rfl rfl (fun r c1 hr => ?_)
    obtain ⟨rfl, f1, w1⟩ := hr
    have h1 : cI c1 a := cI_fr h (mfr_mo f1 (by decide))
    refine mR 13 rfl trivial ?_
    rw [cI_2 h1, nI_shl1 (by omega)]
    refine mx_E_callV (sp_Ba_castII _ (cI_T h1) n6 (show i < 9 by omega) hpm (fun p hp => by rw [Nat.zero_add]; exact w1 p hp)) rfl rfl rfl (fun r c2 hr => ?_)
    obtain ⟨rfl, f2, w2, w3⟩ := hr
    have h2 : cI c2 a := cI_fr h1 (mfr_mo f2 (by decide))
    refine mR 2 rfl trivial ?_
    refine mS (lp_De_won1 hx hk u (i + 1) c2 (by omega) h2 ⟨fun e he j hj => ?_, fun x' y' hx' hy' hxy' j hj => ?_⟩) ?_ rfl rfl
    · rw [w2 e he, iW_ib (by omega)]
      by_cases q : j = i
      · rw [if_pos q, q]
      · rw [if_neg q, f1 22 (by decide)]
        exact hB.1 e he j (by omega)
    · rw [w3 x' y' hx' hy' hxy', iW_ib (by omega)]
      by_cases q : j = i
      · rw [if_pos q, q]
      · rw [if_neg q, f1 23 (by decide)]
        exact hB.2 x' y' hx' hy' hxy' j (by omega)
    · rw [nI_1]
/-- how few so far -/
def wF (q : Option Nat) : Nat := match q with
  | none => 10
  | some z => mpop z
theorem mMx_mRs {R : Nat → Nat → Nat} {n x s m : Nat} (hs : s < 2 ^ m) : mMx R (fun i => mpf (R i) n x) s = mRs R n x s m := by
  funext j
  unfold mMx mRs
  by_cases e : s.testBit j = true
  · have hj : j < m := by
      rcases Nat.lt_or_ge j m with q | q
      · exact q
      · rw [Nat.testBit_lt_two_pow (Nat.lt_of_lt_of_le hs (Nat.pow_le_pow_right (show 0 < 2 by decide) q))] at e
        cases e
    rw [if_pos e, if_pos ⟨hj, e⟩]
  · rw [if_neg e, if_neg (fun z => e z.2)]
theorem mRs_perm {R : Nat → Nat → Nat} {n x s m : Nat} (hx : x < n) (h : ∀ i, i < m → mperm n (R i)) : ∀ i, i < m → mperm n (mRs R n x s m i) := by
  intro i hi
  unfold mRs
  split
  · exact mpf_perm (h i hi) hx
  · exact h i hi
theorem lp_De_won2 {Q : Option Value → mx_M → Prop} {a : mSt} {x w y : Nat} (hx : x < a.1.1) (hw : w < 2) (hy : y < 2) (hq : ∀ c', cI c' a → Q (some (.int (match wW a w x (2 ^ a.1.2) with
    | none => -9
    | some z => if nI y = 0 then nI (mpop z) else nI z))) c') :
    ∀ (u s : Nat) (c : mx_M), s + u = 2 ^ a.1.2 → cI c a → wB c a x a.1.2 → mx_E 0 6 m_De_won Q 50 [.ref 0, .int (nI x), .int (nI w), .int (nI y), .int (nI (wF (wW a w x s))), .int (wI (wW a w x s)), .int (nI s), .null] [] c
  | 0, s, c, hs, h, hB => by
    obtain ⟨hn, hm⟩ := cI_nm h
    have h5 := pw_le hm
    have hpp := Nat.two_pow_pos a.1.2
    have e : s = 2 ^ a.1.2 := by omega
    have fin := hq c h
    rw [e]
    refine mR 2 rfl trivial ?_
    refine mx_E_callV (sp_De_everyone _ hm (cI_3 h)) rfl rfl rfl (fun r c1 hr => ?_)
    obtain ⟨rfl, hz⟩ := hr
    rw [hz]
    refine mbGt _ _ rfl (by omega) (by omega) (fun _ => ?_) (fun z => by omega)
    refine mR 1 rfl trivial ?_
    cases hW : wW a w x (2 ^ a.1.2) with
    | none =>
      rw [hW] at fin
      refine mx_E_br rfl rfl (fun _ => ?_) (fun _ => ?_)
      · refine mR 1 rfl trivial ?_
        exact mx_E_iret rfl rfl fin
      · refine mR 2 rfl trivial ?_
        refine mx_E_br rfl rfl (fun _ => ?_) (fun z => absurd rfl z)
        refine mR 1 rfl trivial ?_
        exact mx_E_iret rfl rfl fin
    | some z =>
      rw [hW] at fin
      have hzl := wW_lt a w x _ z hW
      refine mx_E_br rfl rfl (fun q => ?_) (fun q => ?_)
      · refine mR 1 rfl trivial ?_
        have fin2 : Q (some (Value.int (if nI y = 0 then nI (mpop z) else nI z))) c := fin
        rw [if_neg q] at fin2
        exact mx_E_iret rfl rfl fin2
      · refine mR 2 rfl trivial ?_
        refine mx_E_br rfl rfl (fun v => absurd (show nI z = -9 from v) (kI_ne (by omega))) (fun _ => ?_)
        refine mR 2 rfl trivial ?_
        have fin2 : Q (some (Value.int (if nI y = 0 then nI (mpop z) else nI z))) c := fin
        rw [if_pos (Decidable.not_not.mp q)] at fin2
        exact mx_E_iret rfl rfl fin2
  | u + 1, s, c, hs, h, hB => by
    obtain ⟨hn, hm⟩ := cI_nm h
    have n6 := hn.2
    have h5 := pw_le hm
    have hT := cI_T h
    have h63 : aD a ≤ 63 := hT.2.1.2.1
    have hps := mpop_le s
    have hs2 : s < 2 ^ a.1.2 := by omega
    have hwf : wF (wW a w x s) ≤ 10 := by
      cases wW a w x s with
      | none => exact Nat.le_refl _
      | some z => exact Nat.le_trans (mpop_le z) (by decide)
    refine mR 2 rfl trivial ?_
    refine mx_E_callV (sp_De_everyone _ hm (cI_3 h)) rfl rfl rfl (fun r c1 hr => ?_)
    obtain ⟨rfl, hz⟩ := hr
    rw [hz]
    refine mbGt _ _ rfl (by omega) (by omega) (fun z => by omega) (fun _ => ?_)
    refine mR 1 rfl trivial ?_
    refine mx_E_callS (sp_In_bitCount _ s (by omega)) rfl rfl rfl (fun r c1 hr => ?_)
    obtain ⟨rfl, hz⟩ := hr
    rw [hz]
    have nxt : ∀ c2, cI c2 a → wB c2 a x a.1.2 → ∀ (v1 : Nat) (v2 : Int32), v1 = wF (wW a w x (s + 1)) → v2 = wI (wW a w x (s + 1)) → mx_E 0 6 m_De_won Q 82 [.ref 0, .int (nI x), .int (nI w), .int (nI y), .int (nI v1), .int v2, .int (nI s), .int (nI (mpop s))] [] c2 := by
      intro c2 h2 hB2 v1 v2 e1 e2
      refine mR 2 rfl trivial ?_
      refine mW (lp_De_won2 hx hw hy hq u (s + 1) c2 (by omega) h2 hB2) ⟨Or.inr rfl, Or.inr rfl, Or.inr rfl, Or.inr rfl, Or.inr (by rw [e1]), Or.inr (by rw [e2]), Or.inr (by rw [nI_1]), Or.inl rfl, trivial⟩ rfl rfl
    have hss : wW a w x (s + 1) = if mpop s < wF (wW a w x s) ∧ wOut a w x s = x then some s else wW a w x s := by
      have e0 : wW a w x (s + 1) = match wW a w x s with
        | none => if wOut a w x s = x then some s else none
        | some z => if mpop s < mpop z ∧ wOut a w x s = x then some s else some z := rfl
      rw [e0]
      cases wW a w x s with
      | none =>
        show (if wOut a w x s = x then some s else none) = if mpop s < 10 ∧ wOut a w x s = x then some s else none
        by_cases q : wOut a w x s = x
        · rw [if_pos q, if_pos ⟨by omega, q⟩]
        · rw [if_neg q, if_neg (fun z => q z.2)]
      | some z => rfl
    refine mR 3 rfl trivial ?_
    refine mbGe _ _ rfl (by omega) (by omega) (fun z => ?_) (fun z => ?_)
    · exact nxt c h hB _ _ (by rw [hss, if_neg (fun q => by have := q.1; omega)]) (by rw [hss, if_neg (fun q => by have := q.1; omega)])
    · refine mR 7 rfl trivial ?_
      refine mx_E_callV (sp_Ba_mixI _ (R' := fun i => mpf (a.2.1.1 i) a.1.1 x) hm hs2 n6 h63 (cI_b h) hB.1 hB.2) rfl rfl rfl (fun r c1 hr => ?_)
      obtain ⟨rfl, f1, hb1⟩ := hr
      have h1 : cI c1 a := cI_fr h (mfr_mo f1 (by decide))
      have hb2 : bQ c1 18 19 a.1.2 a.1.1 (aK a) (aZ a) (aD a) (mRs a.2.1.1 a.1.1 x s a.1.2) := by rw [← mMx_mRs hs2]; exact hb1
      refine mR 6 rfl trivial ?_
      refine mx_E_callV (sp_De_everyone _ hm (cI_3 h1)) rfl rfl rfl (fun r c2 hr => ?_)
      obtain ⟨rfl, hz⟩ := hr
      rw [hz]
      refine mx_E_callV (sp_Ba_outcome17 _ (cI_T h1) n6 hm hb2 (mRs_perm hx (cI_R h1)) (pwt _) hw) rfl rfl rfl (fun r c2 hr => ?_)
      obtain ⟨rfl, f2⟩ := hr
      have h2 : cI c2 a := cI_fr h1 (mfr_mo f2 (by decide))
      have hB2 : wB c2 a x a.1.2 := by
        unfold wB
        rw [f2 22 (by decide), f2 23 (by decide), f1 22 (by decide), f1 23 (by decide)]
        exact hB
      have lo : wOut a w x s < a.1.1 := mout_lt hT.2.1
      refine mR 1 rfl trivial ?_
      refine mbNe (wOut a w x s) x rfl (by omega) (by omega) (fun q => ?_) (fun q => ?_)
      · exact nxt c2 h2 hB2 _ _ (by rw [hss, if_neg (fun v => q v.2)]) (by rw [hss, if_neg (fun v => q v.2)])
      · refine mR 4 rfl trivial ?_
        exact nxt c2 h2 hB2 _ _ (by rw [hss, if_pos ⟨z, q⟩]; rfl) (by rw [hss, if_pos ⟨z, q⟩]; rfl)
theorem qc_won {c : mx_M} {a : mSt} (x w y : Int32) (h : cI c a) : mx_Spec 0 6 m_De_won [.ref 0, .int x, .int w, .int y] c (fun r c' => r = some (.int (aWon a x w y).1) ∧ cI c' (aWon a x w y).2) := by
  obtain ⟨hn, hm⟩ := cI_nm h
  have n6 := hn.2
  refine mx_Spec_E rfl rfl rfl ?_
  refine mR 2 rfl trivial ?_
  refine mx_E_callV (sp_De_isMotion _ x _ (cI_2 h)) rfl rfl rfl (fun r c1 hr => ?_)
  obtain ⟨rfl, hz⟩ := hr
  rw [hz]
  unfold aWon
  refine mbT rfl (fun hb => ?_) (fun hb => ?_)
  · rw [hb]
    refine mR 1 rfl trivial ?_
    exact mx_E_iret rfl rfl ⟨rfl, h⟩
  · refine mR 2 rfl trivial ?_
    refine mx_E_callV (sp_De_isWay _ w) rfl rfl rfl (fun r c1 hr => ?_)
    obtain ⟨rfl, hz⟩ := hr
    rw [hz]
    refine mbT rfl (fun hb2 => ?_) (fun hb2 => ?_)
    · rw [hb2, Bool.and_false]
      refine mR 1 rfl trivial ?_
      exact mx_E_iret rfl rfl ⟨rfl, h⟩
    · refine mR 2 rfl trivial ?_
      refine mx_E_callS (sp_De_within _ y 2) rfl rfl rfl (fun r c1 hr => ?_)
      obtain ⟨rfl, hz⟩ := hr
      rw [hz]
      refine mbF rfl (fun hb3 => ?_) (fun hb3 => ?_)
      · rw [hb, hb2, hb3]
        obtain ⟨i, hi, rfl⟩ := mi_of (by omega) hb
        obtain ⟨v, hv, rfl⟩ := mi_of (by decide) hb2
        obtain ⟨j, hj, rfl⟩ := mi_of (by decide) hb3
        rw [nI_cl (a := i) (by omega), nI_cl (a := v) (by omega)]
        refine mR 2 rfl trivial ?_
        refine lp_De_won1 (w := v) (y := j) hi (fun c2 h2 hB2 => ?_) a.1.2 0 c (by omega) h ⟨fun _ _ i hi => absurd hi (Nat.not_lt_zero i), fun _ _ _ _ _ i hi => absurd hi (Nat.not_lt_zero i)⟩
        refine mR 6 rfl trivial ?_
        exact lp_De_won2 hi hv hj (fun c' hI => ⟨rfl, hI⟩) (2 ^ a.1.2) 0 c2 (by omega) h2 hB2
      · rw [hb3, Bool.and_false]
        refine mR 1 rfl trivial ?_
        exact mx_E_iret rfl rfl ⟨rfl, h⟩
