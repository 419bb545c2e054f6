/-! the class: the desk told anew -/
theorem sp_Te_readMotions (c : mx_M) {x : pX} {q : Nat} (hx : cTx c x) (hq : q ≤ x.1) (h3 : c 1 3 = nI q) : mx_Spec 0 4 m_Te_readMotions [.ref 1] c (fun r c' => r = some (.int (mz (decide (dgt (tC x q) = true ∧ 2 ≤ tN x q ∧ tN x q ≤ 6)))) ∧ cFr c c' ∧ (∀ k, k ≠ 2 → c' 3 k = c 3 k) ∧ c' 4 = c 4 ∧ c' 5 = c 5 ∧ c' 1 5 = nI (tS x q) ∧ (dgt (tC x q) = true ∧ 2 ≤ tN x q ∧ tN x q ≤ 6 → c' 3 2 = nI (tN x q) ∧ c' 1 3 = nI (tE x q))) := by
  have hN := tN_le x q
  refine mx_Spec_E rfl rfl rfl ?_
  refine mR 1 rfl trivial ?_
  refine mx_E_callV (sp_Te_take _ hx hq h3) rfl rfl rfl (fun r1 c1 hr1 => ?_)
  obtain ⟨rfl, f1, ht⟩ := hr1
  have no : ¬ (dgt (tC x q) = true ∧ 2 ≤ tN x q ∧ tN x q ≤ 6) → mx_E 0 4 m_Te_readMotions (fun r c' => r = some (.int (mz (decide (dgt (tC x q) = true ∧ 2 ≤ tN x q ∧ tN x q ≤ 6)))) ∧ cFr c c' ∧ (∀ k, k ≠ 2 → c' 3 k = c 3 k) ∧ c' 4 = c 4 ∧ c' 5 = c 5 ∧ c' 1 5 = nI (tS x q) ∧ (dgt (tC x q) = true ∧ 2 ≤ tN x q ∧ tN x q ≤ 6 → c' 3 2 = nI (tN x q) ∧ c' 1 3 = nI (tE x q))) 14 [.ref 1] [] c1 := by
    intro z
    refine mR 1 rfl trivial ?_
    refine mx_E_zret rfl rfl (Or.inl rfl) ⟨?_, cFr_1 f1, fun k _ => by rw [f1.1 3 (by decide)], f1.1 4 (by decide), f1.1 5 (by decide), ht.2.1, fun w => absurd w z⟩
    rw [decide_eq_false z]
    rfl
  refine mR 3 rfl trivial ?_
  rw [ht.2.2.1]
  refine mx_E_br rfl rfl (fun z => no (fun w => z (sg_48.mpr w.1))) (fun z => ?_)
  have hd : dgt (tC x q) = true := sg_48.mp (Decidable.not_not.mp z)
  have h6 := ht.2.2.2 hd
  refine mR 3 rfl trivial ?_
  rw [h6, show (2 : Int32) = nI 2 from rfl]
  refine mbLt _ _ rfl (by omega) (by decide) (fun w => no (fun v => by have := v.2.1; omega)) (fun w => ?_)
  refine mR 3 rfl trivial ?_
  rw [h6, show (6 : Int32) = nI 6 from rfl]
  refine mbLe _ _ rfl (by omega) (by decide) (fun w2 => ?_) (fun w2 => no (fun v => by have := v.2.2; omega))
  refine mR 6 rfl trivial ?_
  rw [h6]
  refine mx_E_zret rfl rfl (Or.inr rfl) ⟨?_, cFr_up (cFr_1 f1) (by decide), fun k hk => by rw [mx_up_ix _ _ _ _ _ _ hk, f1.1 3 (by decide)], by rw [mx_up_rid _ _ _ _ _ (by decide)]; exact f1.1 4 (by decide), by rw [mx_up_rid _ _ _ _ _ (by decide)]; exact f1.1 5 (by decide), by rw [mx_up_id _ _ _ _ _ _ (by decide)]; exact ht.2.1, fun _ => ⟨mx_up_same _ _ _ _, by rw [mx_up_id _ _ _ _ _ _ (by decide)]; exact ht.1⟩⟩
  rw [decide_eq_true ⟨hd, w, w2⟩]
  rfl
/-- what is told so far -/
def cD (c : mx_M) (s : pS) : Prop := c 3 2 = nI s.1 ∧ c 3 3 = nI s.2.1 ∧ mn s.1 ∧ s.2.1 ≤ 9 ∧ (∀ j, j < s.2.1 → mperm s.1 (s.2.2.1 j)) ∧ rRk (c 4) s.1 s.2.1 s.2.2.1 ∧ (s.2.2.2 = none → c 3 4 = nI 0) ∧ (∀ t, s.2.2.2 = some t → mtree s.1 t.1 t.2.1 t.2.2 ∧ c 3 4 = nI t.2.2 ∧ ∀ k, k < t.2.2 → c 5 k = kC (t.1 k))
theorem cD_1 {c c' : mx_M} {s : pS} (h : cD c s) (hf : cF1 c c') : cD c' s := by
  unfold cD at h ⊢
  rw [hf.1 3 (by decide), hf.1 4 (by decide), hf.1 5 (by decide)]
  exact h
def cRes (c : mx_M) (x : pX) (q : Nat) (r : Except Nat (Nat × pS)) : Prop := match r with
  | .error e => c 1 5 = nI e
  | .ok v => c 1 3 = nI v.1 ∧ q ≤ v.1 ∧ v.1 ≤ x.1 ∧ cD c v.2
theorem dc_item : decode (mx_code m_Te_readItem) (mx_pc m_Te_readItem 2) = .ok (.lookupswitch 101 #[(103, 78), (110, 36), (114, 53)], 36) := by decide +kernel
theorem sp_Te_readItem (c : mx_M) {x : pX} {q it : Nat} {s : pS} (hx : cTx c x) (hq : q ≤ x.1) (hit : it ≤ 1000) (ht : cTok c x q) (hD : cD c s) (h0 : it = 0 → s.2.1 = 0 ∧ s.2.2.2 = none) : mx_Spec 0 36 m_Te_readItem [.ref 1, .int (nI it)] c (fun r c' => r = some (.int (mz (eOk (pIm x it q s)))) ∧ cFr c c' ∧ cRes c' x q (pIm x it q s)) := by
  have hE := tE_le hq
  obtain ⟨d2, d3, hn, hm, dP, dR, dN, dA⟩ := id hD
  have g110 : tSg x q = 110 ↔ tC x q = 110 := sg_eq (by decide) (by decide)
  have g114 : tSg x q = 114 ↔ tC x q = 114 := sg_eq (by decide) (by decide)
  have g103 : tSg x q = 103 ↔ tC x q = 103 := sg_eq (by decide) (by decide)
  refine mx_Spec_E rfl rfl rfl ?_
  refine mR 2 rfl trivial ?_
  rw [ht.2.2.1]
  unfold pIm
  by_cases c110 : tC x q = 110
  · rw [if_pos c110, g110.mpr c110]
    refine mx_E_lsw (t := 3) (off := 36) dc_item (by decide) (by decide) (by decide +kernel) ?_
    refine mR 1 rfl trivial ?_
    by_cases ei : it = 0
    · rw [if_pos ei, ei]
      obtain ⟨z1, z2⟩ := h0 ei
      refine mx_E_br rfl rfl (fun z => absurd (show nI 0 = 0 from rfl) z) (fun _ => ?_)
      refine mR 1 rfl trivial ?_
      refine mx_E_callV (sp_Te_readMotions _ hx hE.2.1 ht.1) rfl rfl rfl (fun r1 c1 hr1 => ?_)
      obtain ⟨rfl, f1, k3, k4, k5, k15, kk⟩ := hr1
      refine mbT rfl (fun z => ?_) (fun z => ?_)
      · refine mR 1 rfl trivial ?_
        rw [if_neg (of_decide_eq_false z)]
        exact mx_E_zret rfl rfl (Or.inl rfl) ⟨rfl, f1, k15⟩
      · have z3 := of_decide_eq_true z
        obtain ⟨w1, w2⟩ := kk z3
        have hE2 := tE_le hE.2.1
        refine mR 2 rfl trivial ?_
        rw [if_pos z3]
        refine mx_E_zret rfl rfl (Or.inr rfl) ⟨rfl, f1, w2, by show q ≤ tE x (tE x q); omega, hE2.2.1, w1, by rw [k3 3 (by decide)]; exact d3, z3.2, hm, fun j hj => absurd hj (by show ¬ j < s.2.1; omega), fun i p hi _ => absurd hi (by show ¬ i < s.2.1; omega), fun w => by rw [k3 4 (by decide)]; exact dN w, fun t w => ?_⟩
        have w5 : s.2.2.2 = some t := w
        rw [z2] at w5
        cases w5
    · rw [if_neg ei]
      refine mx_E_br rfl rfl (fun _ => ?_) (fun z => absurd (nI_ne0 (by omega) (by omega)) z)
      refine mR 1 rfl trivial ?_
      exact mx_E_zret rfl rfl (Or.inl rfl) ⟨rfl, cFr_rf c, ht.2.1⟩
  · rw [if_neg c110]
    by_cases c114 : tC x q = 114
    · rw [if_pos c114, g114.mpr c114]
      refine mx_E_lsw (t := 12) (off := 53) dc_item (by decide) (by decide) (by decide +kernel) ?_
      refine mR 4 rfl trivial ?_
      rw [d3, show (9 : Int32) = nI 9 from rfl]
      refine mbGe _ _ rfl (by omega) (by decide) (fun z => ?_) (fun z => ?_)
      · rw [if_neg (by omega)]
        refine mR 1 rfl trivial ?_
        exact mx_E_zret rfl rfl (Or.inl rfl) ⟨rfl, cFr_rf c, ht.2.1⟩
      · rw [if_pos z]
        refine mR 1 rfl trivial ?_
        refine mx_E_callV (sp_Te_readRanking _ hn.2 z hx d2 d3 hE.2.1 ht.1) rfl rfl rfl (fun r1 c1 hr1 => ?_)
        obtain ⟨rfl, f1, k3, k5, k4, kk⟩ := hr1
        cases hR : pRk x s.1 s.1 0 0 (tE x q) (fun _ => 0) with
        | error e =>
          rw [hR] at kk
          refine mbT rfl (fun _ => ?_) (fun z => by cases z)
          refine mR 1 rfl trivial ?_
          exact mx_E_zret rfl rfl (Or.inl rfl) ⟨rfl, f1, kk⟩
        | ok v =>
          rw [hR] at kk
          obtain ⟨w1, w2, w3⟩ := kk
          obtain ⟨l1, l2⟩ := pRk_le s.1 0 0 _ _ v hE.2.1 hR
          have hp := pRk_perm hn.2 s.1 0 0 _ _ v (by omega) (by decide) (fun i hi => absurd hi (Nat.not_lt_zero i)) (fun i j hi => absurd hi (Nat.not_lt_zero i)) hR
          have n6 := hn.2
          refine mbT rfl (fun z => by cases z) (fun _ => ?_)
          refine mR 2 rfl trivial ?_
          refine mx_E_zret rfl rfl (Or.inr rfl) ⟨rfl, f1, w1, by show q ≤ v.1; omega, l2, by rw [k3 2 (by decide)]; exact d2, w2, hn, by show s.2.1 + 1 ≤ 9; omega, fun j hj => ?_, fun i p hi hp2 => ?_, fun w => by rw [k3 4 (by decide)]; exact dN w, fun t w => ?_⟩
          · show mperm s.1 (mRr s.2.2.1 s.2.1 v.2 j)
            have hj2 : j < s.2.1 + 1 := hj
            unfold mRr
            by_cases e : j = s.2.1
            · rw [if_pos e]; exact hp
            · rw [if_neg e]; exact dP j (by omega)
          · show _ = nI (mRr s.2.2.1 s.2.1 v.2 i p)
            have hi2 : i < s.2.1 + 1 := hi
            have hp3 : p < s.1 := hp2
            unfold mRr
            by_cases e : i = s.2.1
            · rw [if_pos e, e]; exact w3 p hp3
            · rw [if_neg e, k4 _ (by omega)]; exact dR i p (by omega) hp3
          · rw [k3 4 (by decide), k5]
            exact dA t w
    · rw [if_neg c114]
      by_cases c103 : tC x q = 103
      · rw [if_pos c103, g103.mpr c103]
        refine mx_E_lsw (t := 24) (off := 78) dc_item (by decide) (by decide) (by decide +kernel) ?_
        refine mR 3 rfl trivial ?_
        cases hA : s.2.2.2 with
        | some t =>
          obtain ⟨a1, a2, a3⟩ := dA t hA
          have p1 := a1.1
          have p2 := a1.2.1
          rw [a2, if_neg (show ¬ (some t).isNone = true from fun z => by cases z)]
          refine mx_E_br rfl rfl (fun _ => ?_) (fun z => absurd (nI_ne0 (by omega) (by omega)) z)
          refine mR 1 rfl trivial ?_
          exact mx_E_zret rfl rfl (Or.inl rfl) ⟨rfl, cFr_rf c, ht.2.1⟩
        | none =>
          have a0 := dN hA
          rw [a0, if_pos (show (none : Option pA).isNone = true from rfl)]
          refine mx_E_br rfl rfl (fun z => absurd (show nI 0 = 0 from rfl) z) (fun _ => ?_)
          refine mR 1 rfl trivial ?_
          refine mx_E_callV (sp_Te_readBranch hn.2 31 (tE x q) 0 c (by decide) (by decide) hx hE.2.1 ht.1 d2 a0) rfl rfl rfl (fun r1 c1 hr1 => ?_)
          obtain ⟨rfl, f1, k3, k4, k5, kk⟩ := hr1
          cases hR : pAg x s.1 31 (tE x q) 0 with
          | error e =>
            rw [hR] at kk
            refine mbT rfl (fun _ => ?_) (fun z => by cases z)
            refine mR 1 rfl trivial ?_
            exact mx_E_zret rfl rfl (Or.inl rfl) ⟨rfl, f1, kk⟩
          | ok v =>
            rw [hR] at kk
            obtain ⟨w1, w2, w3⟩ := kk
            have n6 := hn.2
            obtain ⟨l1, l2, l3, l4⟩ := pAg_le (by omega) 31 (tE x q) 0 v hE.2.1 hR
            refine mbT rfl (fun z => by cases z) (fun _ => ?_)
            refine mR 2 rfl trivial ?_
            refine mx_E_zret rfl rfl (Or.inr rfl) ⟨rfl, f1, w1, by show q ≤ v.1; omega, l2, by rw [k3 2 (by decide)]; exact d2, by rw [k3 3 (by decide)]; exact d3, hn, hm, dP, by rw [k4]; exact dR, (fun w => by cases w), fun t w => ?_⟩
            have w5 : some v.2 = some t := w
            cases w5
            refine ⟨mT_tree.mpr ⟨l3, by omega⟩, by rw [w2, Nat.zero_add], fun k hk => ?_⟩
            have := w3 k hk
            rw [Nat.zero_add] at this
            exact this
      · rw [if_neg c103]
        have o1 : ¬ tSg x q = 110 := fun z => c110 (g110.mp z)
        have o2 : ¬ tSg x q = 114 := fun z => c114 (g114.mp z)
        have o3 : ¬ tSg x q = 103 := fun z => c103 (g103.mp z)
        have toI : ∀ (v : Int32) (k : Int), v.toInt = k → ¬ tSg x q = v → ¬ k = (tSg x q).toInt := fun v k hk h z => h (Int32.toInt_inj.mp (by rw [hk]; exact z.symm))
        refine mx_E_lsw (t := 35) (off := 101) dc_item (by decide) ?_ (by decide +kernel) ?_
        · show (if (103 : Int) = (tSg x q).toInt then (78 : Int) else if (110 : Int) = (tSg x q).toInt then 36 else if (114 : Int) = (tSg x q).toInt then 53 else 101) = 101
          rw [if_neg (toI 103 103 (by decide) o3), if_neg (toI 110 110 (by decide) o1), if_neg (toI 114 114 (by decide) o2)]
        · refine mR 1 rfl trivial ?_
          exact mx_E_zret rfl rfl (Or.inl rfl) ⟨rfl, cFr_rf c, ht.2.1⟩
theorem lp_Te_read {Q : Option Value → mx_M → Prop} {c0 : mx_M} {x : pX} {r : Except Nat (Nat × pS)} (hx : cTx c0 x)
    (hq : ∀ c', cFr c0 c' → (match r with
      | .error e => c' 1 5 = nI e
      | .ok v => v.1 ≤ 120 ∧ cD c' v.2) → Q (some (.int (match r with
      | .error _ => -1
      | .ok v => nI v.1))) c') :
    ∀ (f it q : Nat) (s : pS) (c : mx_M), x.1 - q < f → q ≤ x.1 → it ≤ q → cFr c0 c → c 1 3 = nI q → cD c s → (it = 0 → s.2.1 = 0 ∧ s.2.2.2 = none) → pIt x f it q s = r → mx_E 0 37 m_Te_read Q 9 [.ref 1, .int (nI it)] [] c
  | 0, it, q, s, c, hf, _, _, _, _, _, _, _ => by omega
  | f + 1, it, q, s, c, hf, hql, hit, hF, h3, hD, h0, hr => by
    have h120 := hx.2.1
    have hE := tE_le hql
    unfold pIt at hr
    refine mR 2 rfl trivial ?_
    rw [show (120 : Int32) = nI 120 from rfl]
    refine mbGt _ _ rfl (by omega) (by decide) (fun z => by omega) (fun _ => ?_)
    refine mR 1 rfl trivial ?_
    refine mx_E_callV (sp_Te_take _ (cTx_fr hx hF) hql h3) rfl rfl rfl (fun r1 c1 hr1 => ?_)
    obtain ⟨rfl, f1, ht⟩ := hr1
    have hF1 := cFr_tr hF (cFr_1 f1)
    have hD1 := cD_1 hD f1
    refine mR 3 rfl trivial ?_
    rw [ht.2.2.1]
    have gE := sg_end (x := x) (q := q) hx.2.2.2
    refine mx_E_br rfl rfl (fun z => ?_) (fun z => ?_)
    · rw [if_neg (fun w => z (gE.mpr w))] at hr
      refine mR 2 rfl trivial ?_
      refine mx_E_callV (sp_Te_readItem _ (cTx_fr hx hF1) hql (by omega) ht hD1 h0) rfl rfl rfl (fun r2 c2 hr2 => ?_)
      obtain ⟨rfl, f2, hR2⟩ := hr2
      have hF2 := cFr_tr hF1 f2
      cases hI : pIm x it q s with
      | error e =>
        rw [hI] at hR2 hr
        refine mbF rfl (fun w => by cases w) (fun _ => ?_)
        refine mR 1 rfl trivial ?_
        refine mx_E_iret rfl rfl ?_
        have w := hq c2 hF2
        rw [← hr] at w
        exact w hR2
      | ok v =>
        rw [hI] at hR2 hr
        dsimp only at hr
        obtain ⟨g1, g2, g3, g4⟩ := hR2
        have hE2 := tE_le g3
        refine mbF rfl (fun _ => ?_) (fun w => by cases w)
        refine mR 1 rfl trivial ?_
        refine mx_E_callV (sp_Te_take _ (cTx_fr hx hF2) g3 g1) rfl rfl rfl (fun r3 c3 hr3 => ?_)
        obtain ⟨rfl, f3, ht3⟩ := hr3
        have hF3 := cFr_tr hF2 (cFr_1 f3)
        have g59 : tSg x v.1 = 59 ↔ tC x v.1 = 59 := sg_eq (by decide) (by decide)
        refine mR 3 rfl trivial ?_
        rw [ht3.2.2.1]
        refine mx_E_br rfl rfl (fun w => ?_) (fun w => ?_)
        · have e59 := g59.mp w
          rw [if_pos e59] at hr
          have adv := hE2.2.2 (by rw [e59]; decide)
          refine mR 2 rfl trivial ?_
          refine mS (lp_Te_read hx hq f (it + 1) (tE x v.1) v.2 c3 (by omega) hE2.2.1 (by omega) hF3 ht3.1 (cD_1 g4 f3) (fun w => by omega) hr) ?_ rfl rfl
          rw [nI_1]
        · rw [if_neg (fun w2 => w (g59.mpr w2))] at hr
          refine mR 1 rfl trivial ?_
          refine mx_E_iret rfl rfl ?_
          have w := hq c3 hF3
          rw [← hr] at w
          exact w ht3.2.1
    · rw [if_pos (gE.mp (Decidable.not_not.mp z))] at hr
      refine mR 1 rfl trivial ?_
      refine mx_E_iret rfl rfl ?_
      have w := hq c1 hF1
      rw [← hr] at w
      exact w ⟨by show it ≤ 120; omega, hD1⟩
theorem sp_Pi_empty (c : mx_M) (v : Int32) : mx_Spec 0 1 m_Pi_empty [.ref 3, .int v] c (fun r c' => r = none ∧ c' = mx_up (mx_up (mx_up c 3 2 v) 3 3 0) 3 4 0) := by
  refine mx_Spec_E rfl rfl rfl ?_
  refine mR 9 rfl trivial ?_
  exact mx_E_vret rfl rfl ⟨rfl, rfl⟩
theorem sp_Te_read (c : mx_M) {x : pX} (hx : cTx c x) : mx_Spec 0 37 m_Te_read [.ref 1] c (fun r c' => r = some (.int (match pDesk x with
      | .error _ => -1
      | .ok v => nI v.1)) ∧ cFr c c' ∧ (match pDesk x with
      | .error e => c' 1 5 = nI e
      | .ok v => v.1 ≤ 120 ∧ cD c' v.2)) := by
  have h120 := hx.2.1
  refine mx_Spec_E rfl rfl rfl ?_
  refine mR 6 rfl trivial ?_
  refine mx_E_callV (sp_Pi_empty _ 3) rfl rfl rfl (fun r1 c1 hr1 => ?_)
  obtain ⟨rfl, hc1⟩ := hr1
  have f0 : cF1 c (mx_up c 1 3 0) := cF1_up (cF1_rf c) (by decide)
  have f1 : cFr c c1 := by rw [hc1]; exact cFr_up (cFr_up (cFr_up (cFr_1 f0) (by decide)) (by decide)) (by decide)
  refine mR 2 rfl trivial ?_
  refine lp_Te_read (r := pDesk x) hx (fun c' h1 h2 => ⟨rfl, h1, h2⟩) 121 0 0 (3, 0, (fun _ _ => 0), none) c1 (by omega) (Nat.zero_le _) (Nat.le_refl _) f1 ?_ ⟨?_, ?_, by decide, by decide, fun j hj => absurd hj (Nat.not_lt_zero j), fun i p hi => absurd hi (Nat.not_lt_zero i), fun _ => ?_, fun t w => by cases w⟩ (fun _ => ⟨rfl, rfl⟩) rfl
  · rw [hc1, mx_up_id _ _ _ _ _ _ (by decide), mx_up_id _ _ _ _ _ _ (by decide), mx_up_id _ _ _ _ _ _ (by decide), mx_up_same]; rfl
  · rw [hc1, mx_up_ix _ _ _ _ _ _ (by decide), mx_up_ix _ _ _ _ _ _ (by decide), mx_up_same]; rfl
  · rw [hc1, mx_up_ix _ _ _ _ _ _ (by decide), mx_up_same]; rfl
  · rw [hc1, mx_up_same]; rfl
theorem cI_Fr {c c' : mx_M} {a : mSt} (h : cI c a) (hf : cFr c c') : cI c' a := by
  obtain ⟨⟨g0, g1, g2, g3, g4, g5⟩, g6⟩ := h
  have z : ∀ r, r = 0 ∨ r = 2 ∨ 6 ≤ r → c' r = c r := fun r hr => hf.1 r (by simp; omega)
  exact ⟨⟨g0, cP_fr g1 (z 6 (by omega)) (z 7 (by omega)) (z 8 (by omega)), cX_fr g2 (hf.2 2 (by decide)) (z 2 (by omega)), cS_fr g3 (z 27 (by omega)) (z 28 (by omega)) (z 29 (by omega)) (z 30 (by omega)), cU_fr g4 (by rw [z 0 (by omega)]) (z 25 (by omega)) (fun r hr _ => z r (by omega)), cM_fr g5 (by rw [z 0 (by omega)]) (z 26 (by omega)) (fun r hr _ => z r (by omega))⟩, cB_fr g6 (z 9 (by omega)) (z 10 (by omega)) (z 11 (by omega)) (z 12 (by omega)) (z 14 (by omega)) (z 15 (by omega))⟩
/-- behind the reading: the picture told stands, all else is as at the start -/
theorem dk_end {Q : Option Value → mx_M → Prop} {c : mx_M} {a : mSt} {n m it : Nat} {p : mPic} (hn : mn n) (hm : m ≤ 9) (hp : cP c 6 7 8 n m p) (h25 : ∃ σ : Nat → Nat, (∀ i, i < 10 → σ i < 10 ∧ c 25 i = nI (35 + 3 * σ i)) ∧ (∀ i j, i < 10 → j < 10 → σ i = σ j → i = j)) (h26 : ∀ i, i < 2 → c 26 i = nI (65 + 3 * i)) (hq : ∀ c', cI c' ((n, m), p, (0, a.2.2.1.2), (0, a.2.2.2.1.2), (0, a.2.2.2.2.1.2), fun _ => none) → Q (some (.int (nI it))) c') : mx_E 0 38 m_De_desk Q 34 [.ref 0, .int (nI it)] [] c := by
  refine mR 14 rfl trivial ?_
  obtain ⟨c1, hc1⟩ : ∃ c1, c1 = mx_up (mx_up (mx_up (mx_up c 1 2 0) 0 7 0) 0 9 0) 27 3 0 := ⟨_, rfl⟩
  rw [← hc1]
  have z : ∀ r, r ≠ 0 → r ≠ 1 → r ≠ 27 → c1 r = c r := fun r h1 h2 h3 => by rw [hc1, mx_up_rid _ _ _ _ _ h3, mx_up_rid _ _ _ _ _ h1, mx_up_rid _ _ _ _ _ h1, mx_up_rid _ _ _ _ _ h2]
  have hJ : cJ c1 ((n, m), p, (0, a.2.2.1.2), (0, a.2.2.2.1.2), (0, a.2.2.2.2.1.2), fun _ => none) := by
    obtain ⟨σ, u3, u4⟩ := h25
    refine ⟨⟨hn, hm⟩, cP_fr hp (z 6 (by decide) (by decide) (by decide)) (z 7 (by decide) (by decide) (by decide)) (z 8 (by decide) (by decide) (by decide)), ⟨?_, Nat.zero_le _, fun i hi => absurd hi (Nat.not_lt_zero i)⟩, ⟨?_, Nat.zero_le _, fun i hi => absurd hi (Nat.not_lt_zero i)⟩, ⟨?_, Nat.zero_le _, σ, fun i hi => by rw [z 25 (by decide) (by decide) (by decide)]; exact u3 i hi, u4, fun i hi => absurd hi (Nat.not_lt_zero i)⟩, ⟨fun i hi => by rw [z 26 (by decide) (by decide) (by decide)]; exact h26 i hi, 0, ?_, by decide, fun i hi => ⟨by rw [Nat.zero_testBit]; rfl, fun p w => by cases w⟩⟩⟩
    · rw [hc1, mx_up_id _ _ _ _ _ _ (by decide), mx_up_id _ _ _ _ _ _ (by decide), mx_up_id _ _ _ _ _ _ (by decide), mx_up_same]; rfl
    · rw [hc1, mx_up_same]; rfl
    · rw [hc1, mx_up_id _ _ _ _ _ _ (by decide), mx_up_ix _ _ _ _ _ _ (by decide), mx_up_same]; rfl
    · rw [hc1, mx_up_id _ _ _ _ _ _ (by decide), mx_up_same]; rfl
  refine mR 1 rfl trivial ?_
  refine mx_E_callV (sp_De_settle _ hn hm hJ.2.1) rfl rfl rfl (fun r c2 hr => ?_)
  obtain ⟨rfl, f2, hB⟩ := hr
  refine mR 1 rfl trivial ?_
  exact mx_E_iret rfl rfl (hq c2 (cI_set hJ f2 hB))
theorem qc_desk {c : mx_M} {a : mSt} (h : cI c a) (hv : pVal a.2.2.1) : mx_Spec 0 38 m_De_desk [.ref 0] c (fun r c' => r = some (.int (aDesk a).1) ∧ cI c' (aDesk a).2) := by
  have hx : cTx c a.2.2.1 := ⟨h.1.2.2.1.1, h.1.2.2.1.2.1, h.1.2.2.1.2.2, hv⟩
  refine mx_Spec_E rfl rfl rfl ?_
  refine mR 2 rfl trivial ?_
  refine mx_E_callV (sp_Te_read _ hx) rfl rfl rfl (fun r1 c1 hr1 => ?_)
  obtain ⟨rfl, f1, kk⟩ := hr1
  have h1 := cI_Fr h f1
  refine mR 2 rfl trivial ?_
  unfold aDesk
  cases hR : pDesk a.2.2.1 with
  | error e =>
    rw [hR] at kk
    refine mx_E_br rfl rfl (fun z => absurd (show (0 : Int32) ≤ -1 from z) (by decide)) (fun _ => ?_)
    refine mR 5 rfl trivial ?_
    rw [show c1 1 5 = nI e from kk]
    exact mx_E_iret rfl rfl ⟨rfl, h1⟩
  | ok v =>
    rw [hR] at kk
    obtain ⟨v120, d2, d3, hn, hm, dP, dR, dN, dA⟩ := kk
    have n6 := hn.2
    refine mx_E_br rfl rfl (fun _ => ?_) (fun z => absurd (show (0 : Int32) ≤ nI v.1 from nI_pos' (by omega)) z)
    refine mR 5 rfl trivial ?_
    refine mx_E_callV (sp_Pi_copy_6_3 _) rfl rfl rfl (fun r2 c2 hr2 => ?_)
    obtain ⟨rfl, f2, ⟨e2, e3, e4⟩, e7, e8⟩ := hr2
    have z2 : ∀ r, 9 ≤ r → c2 r = c1 r := fun r hr => f2 r (by simp; omega)
    obtain ⟨u1, u2, σ, u3, u4, u5⟩ := h1.1.2.2.2.2.1
    obtain ⟨m1, -⟩ := h1.1.2.2.2.2.2
    have rr : rRk (c2 7) v.2.1 v.2.2.1 v.2.2.2.1 := fun i p hi hp => by rw [e7 _ (by omega)]; exact dR i p hi hp
    refine mR 3 rfl trivial ?_
    rw [e4]
    cases hA : v.2.2.2.2 with
    | none =>
      rw [dN hA]
      refine mx_E_br rfl rfl (fun z => absurd (show nI 0 = 0 from rfl) z) (fun _ => ?_)
      refine mR 6 rfl trivial ?_
      rw [e2, d2]
      have hk0 : 0 < mfact v.2.1 := by have := mfact_le v.2.1 (by omega); omega
      refine mx_E_callS (sp_De_layOrder _ v.2.1 0 hn hk0) rfl rfl rfl (fun r3 c3 hr3 => ?_)
      obtain ⟨rfl, hc3⟩ := hr3
      have f3 : mfr [31] c2 c3 := fun r hr => by rw [hc3]; exact mx_upR_rid _ _ _ _ (fun e => hr (by rw [e]; decide))
      have hfl : ∀ p, p < v.2.1 → mo v.2.1 0 p < v.2.1 := fun p hp => mo_lt hn hk0 hp
      refine mR 4 rfl trivial ?_
      refine mx_E_callV (sp_Pi_plant _ (f := mo v.2.1 0) hn hfl (by rw [f3 6 (by decide), e2]; exact d2) (fun p hp => by rw [hc3, mx_upR_row, fa_fill_in hp])) rfl rfl rfl (fun r4 c4 hr4 => ?_)
      obtain ⟨rfl, f4, k4, n4, w4⟩ := hr4
      have p4 : cP c4 6 7 8 v.2.1 v.2.2.1 (pOrd v.2.1 v.2.2.2.1 (mo v.2.1 0)) := ⟨by rw [k4 2 (by decide), f3 6 (by decide), e2]; exact d2, by rw [k4 3 (by decide), f3 6 (by decide), e3]; exact d3, n4, dP, by rw [f4 7 (by decide), f3 7 (by decide)]; exact rr, mT_tree.mpr ⟨tT hfl (v.2.1 - 1) (mo v.2.1 0 0) (by have := hn.1; omega) (hfl 0 (by have := hn.1; omega)), tL_63 hn⟩, w4⟩
      refine dk_end (a := a) hn hm p4 ⟨σ, fun i hi => by rw [f4 25 (by decide), f3 25 (by decide), z2 25 (by decide)]; exact u3 i hi, u4⟩ (fun i hi => by rw [f4 26 (by decide), f3 26 (by decide), z2 26 (by decide)]; exact m1 i hi) (fun c' hI => ⟨rfl, ?_⟩)
      show cI c' ((v.2.1, v.2.2.1), pPic v.2, _)
      unfold pPic
      rw [hA]
      exact hI
    | some t =>
      obtain ⟨a1, a2, a3⟩ := dA t hA
      have q1 := a1.1
      have q2 := a1.2.1
      rw [a2]
      refine mx_E_br rfl rfl (fun _ => ?_) (fun z => absurd (nI_ne0 (by omega) (by omega)) z)
      have p2 : cP c2 6 7 8 v.2.1 v.2.2.1 (v.2.2.2.1, t) := ⟨by rw [e2]; exact d2, by rw [e3]; exact d3, by rw [e4]; exact a2, dP, rr, a1, fun k hk => by
        have hk2 : k < t.2.2 := hk
        rw [e8 k (by omega)]
        exact a3 k hk⟩
      refine dk_end (a := a) hn hm p2 ⟨σ, fun i hi => by rw [z2 25 (by decide)]; exact u3 i hi, u4⟩ (fun i hi => by rw [z2 26 (by decide)]; exact m1 i hi) (fun c' hI => ⟨rfl, ?_⟩)
      show cI c' ((v.2.1, v.2.2.1), pPic v.2, _)
      unfold pPic
      rw [hA]
      exact hI
