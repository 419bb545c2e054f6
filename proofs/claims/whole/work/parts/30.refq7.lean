theorem lc_0 : lg_cmp (lN 0) (lN 0) = 0 := by decide
theorem lc_p {a : Nat} (h0 : 0 < a) (h : a < 9223372036854775808) : lg_cmp (lN a) (lN 0) = 1 := by
  unfold lg_cmp
  rw [if_pos ((pk_lLT (by decide) h).mpr h0)]
theorem lp_Mo_gcd {Q : Option Value → mx_M → Prop} {c : mx_M} {a b g : Nat} (hq : Q (some (.long (lN g))) c) :
    ∀ (k x y : Nat), y ≤ k → x < 1000000000000 → y < 1000000000000 → Nat.gcd x y = g → mx_E 1 1 m_Mo_gcd Q 4 [.long (lN a), .null, .long (lN b), .null, .long (lN x), .null, .long (lN y), .null, .null, .null] [] c
  | 0, x, y, hk, hx, hy, he => by
    have e : y = 0 := by omega
    subst e
    rw [Nat.gcd_zero_right] at he
    subst he
    refine mR 3 rfl trivial ?_
    rw [show lg_cmp (lN 0) (Int64.ofNat 0) = 0 from lc_0]
    refine mx_E_br rfl rfl (fun _ => ?_) (fun h => absurd rfl h)
    refine mR 1 rfl trivial ?_
    exact mx_E_lret rfl rfl hq
  | k + 1, x, y, hk, hx, hy, he => by
    refine mR 3 rfl trivial ?_
    by_cases e : y = 0
    · subst e
      rw [Nat.gcd_zero_right] at he
      subst he
      rw [show lg_cmp (lN 0) (Int64.ofNat 0) = 0 from lc_0]
      refine mx_E_br rfl rfl (fun _ => ?_) (fun h => absurd rfl h)
      refine mR 1 rfl trivial ?_
      exact mx_E_lret rfl rfl hq
    · rw [show lg_cmp (lN y) (Int64.ofNat 0) = 1 from lc_p (by omega) (by omega)]
      refine mx_E_br rfl rfl (fun h => absurd h (by decide)) (fun _ => ?_)
      have hy0 : ¬ lN y = 0 := fun z => e ((pk_lEQ (b := 0) (by omega) (by decide)).mp z)
      refine mR 9 rfl (mA1 hy0) ?_
      rw [pk_lRem (by omega) (by omega) (by omega)]
      have hm := Nat.mod_lt x (show y > 0 by omega)
      exact mW (lp_Mo_gcd (a := a) (b := b) hq k y (x % y) (by omega) hy (by omega) (by rw [← he, Nat.gcd_comm x y, Nat.gcd_rec y x, Nat.gcd_comm])) ⟨Or.inr rfl, Or.inl rfl, Or.inr rfl, Or.inl rfl, Or.inr rfl, Or.inl rfl, Or.inr rfl, Or.inl rfl, Or.inl rfl, Or.inl rfl, trivial⟩ rfl rfl
theorem sp_Mo_gcd (c : mx_M) (a b : Nat) (ha : a < 1000000000000) (hb : b < 1000000000000) : mx_Spec 1 1 m_Mo_gcd [.long (lN a), .long (lN b)] c (fun r c' => r = some (.long (lN (Nat.gcd a b))) ∧ c' = c) := by
  refine mx_Spec_E rfl rfl rfl ?_
  refine mR 4 rfl trivial ?_
  exact lp_Mo_gcd (a := a) (b := b) ⟨rfl, rfl⟩ b a b (Nat.le_refl b) ha hb rfl
/-- the share of a set of those who are there -/
def oP (x s : Nat) : Nat → Nat
  | 0 => 1
  | k + 1 => oP x s k * (if s.testBit k then 10 - x else x)
theorem oP_le {x : Nat} (hx : x ≤ 10) (s : Nat) : ∀ k, oP x s k ≤ 10 ^ k
  | 0 => Nat.le_refl 1
  | k + 1 => by
    have ih := oP_le hx s k
    show oP x s k * (if s.testBit k then 10 - x else x) ≤ 10 ^ (k + 1)
    rw [Nat.pow_succ]
    exact Nat.mul_le_mul ih (by split <;> omega)
theorem p10_le {m : Nat} (hm : m ≤ 9) : 10 ^ m ≤ 1000000000 := Nat.pow_le_pow_right (show 0 < 10 by decide) hm
/-- what comes of it with those there -/
def oOut (a : mSt) (w s : Nat) : Nat := mout w s a.1.2 a.1.1 a.2.1.1 a.2.1.2.1 a.2.1.2.2.1 a.2.1.2.2.2
def oT (a : mSt) (x y w s : Nat) : Nat := if 0 < oP x s a.1.2 ∧ oOut a w s = y then oP x s a.1.2 else 0
def oU (a : mSt) (x y w s : Nat) : Nat := fb_sm (oT a x y w) s
theorem oU_le {a : mSt} {x y w : Nat} (hx : x ≤ 10) (hm : a.1.2 ≤ 9) (s : Nat) : oU a x y w s ≤ s * 1000000000 := fb_sm_bound (fun k _ => by
  unfold oT
  split
  · exact Nat.le_trans (oP_le hx k a.1.2) (p10_le hm)
  · exact Nat.zero_le _)
def aOdds (a : mSt) (x y w z : Int32) : Int32 × mSt := if mi x 11 && mi y a.1.1 && mi w 2 && mi z 2 then ((if z = 0 then nI (oU a x.toNatClampNeg y.toNatClampNeg w.toNatClampNeg (2 ^ a.1.2) / Nat.gcd (oU a x.toNatClampNeg y.toNatClampNeg w.toNatClampNeg (2 ^ a.1.2)) (10 ^ a.1.2)) else nI (10 ^ a.1.2 / Nat.gcd (oU a x.toNatClampNeg y.toNatClampNeg w.toNatClampNeg (2 ^ a.1.2)) (10 ^ a.1.2))), a) else mBAD a
theorem lp_Mo_odds_in {Q : Option Value → mx_M → Prop} {c : mx_M} {m x y w z s U : Nat} (hx : x ≤ 10) (hs : s < 512) (hm : m ≤ 9) (h9 : c 0 9 = nI m) (hk : mx_E 1 6 m_Mo_odds Q 64 [.ref 0, .int (nI x), .int (nI y), .int (nI w), .int (nI z), .long (lN U), .null, .long (lN (10 ^ m)), .null, .int (nI s), .long (lN (oP x s m)), .null, .int (nI m)] [] c) :
    ∀ (u p : Nat), p + u = m → mx_E 1 6 m_Mo_odds Q 40 [.ref 0, .int (nI x), .int (nI y), .int (nI w), .int (nI z), .long (lN U), .null, .long (lN (10 ^ p)), .null, .int (nI s), .long (lN (oP x s p)), .null, .int (nI p)] [] c
  | 0, p, h => by
    have e : p = m := by omega
    subst e
    refine mR 3 rfl trivial ?_
    rw [h9]
    refine mbGe _ _ rfl (by omega) (by omega) (fun _ => ?_) (fun h => by omega)
    exact hk
  | u + 1, p, h => by
    refine mR 3 rfl trivial ?_
    rw [h9]
    refine mbGe _ _ rfl (by omega) (by omega) (fun h => by omega) (fun _ => ?_)
    refine mR 3 rfl trivial ?_
    refine mx_E_callS (sp_Mo_has _ s p (by omega) (by omega)) rfl rfl rfl (fun r c2 hr => ?_)
    obtain ⟨rfl, hz⟩ := hr
    rw [hz]
    have hs1 : oP x s (p + 1) = oP x s p * (if s.testBit p then 10 - x else x) := rfl
    refine mbT rfl (fun hb => ?_) (fun hb => ?_)
    · refine mR 10 rfl trivial ?_
      refine mS (lp_Mo_odds_in hx hs hm h9 hk u (p + 1) (by omega)) ?_ rfl rfl
      rw [hs1, hb, nI_l (by omega), lN_mul, show (Int64.ofNat 10) = lN 10 from rfl, lN_mul, nI_1, Nat.pow_succ]
      rfl
    · refine mR 13 rfl trivial ?_
      refine mS (lp_Mo_odds_in hx hs hm h9 hk u (p + 1) (by omega)) ?_ rfl rfl
      rw [hs1, hb, show (10 : Int32) = nI 10 from rfl, pk_sub (by omega), nI_l (by omega), lN_mul, show (Int64.ofNat 10) = lN 10 from rfl, lN_mul, nI_1, Nat.pow_succ]
      rfl
def oW (m s : Nat) : Nat := if s = 0 then 1 else 10 ^ m
theorem lp_Mo_odds {Q : Option Value → mx_M → Prop} {a : mSt} {x y w z : Nat} (hx : x ≤ 10) (hy : y < a.1.1) (hw : w < 2) (hz : z < 2) (hq : ∀ c', rI c' a → Q (some (.int (if nI z = 0 then nI (oU a x y w (2 ^ a.1.2) / Nat.gcd (oU a x y w (2 ^ a.1.2)) (10 ^ a.1.2)) else nI (10 ^ a.1.2 / Nat.gcd (oU a x y w (2 ^ a.1.2)) (10 ^ a.1.2))))) c') :
    ∀ (u s : Nat) (c1 : mx_M), s + u = 2 ^ a.1.2 → rI c1 a → mx_E 1 6 m_Mo_odds Q 28 [.ref 0, .int (nI x), .int (nI y), .int (nI w), .int (nI z), .long (lN (oU a x y w s)), .null, .long (lN (oW a.1.2 s)), .null, .int (nI s), .null, .null, .null] [] c1
  | 0, s, c1, h, hI => by
    obtain ⟨h8, h9, hn, hm⟩ := hI.1
    have hp5 := pw_le hm
    have hp0 := Nat.two_pow_pos a.1.2
    have e : s = 2 ^ a.1.2 := by omega
    have hU := oU_le (a := a) (x := x) (y := y) (w := w) hx hm (2 ^ a.1.2)
    have h10 := p10_le hm
    have h10p := Nat.pow_pos (n := a.1.2) (show 0 < 10 by decide)
    rw [e]
    refine mR 5 rfl trivial ?_
    rw [h9, nI_shm hm]
    refine mbGe _ _ rfl (by omega) (by omega) (fun _ => ?_) (fun h => by omega)
    have hW : oW a.1.2 (2 ^ a.1.2) = 10 ^ a.1.2 := if_neg (by omega)
    rw [hW]
    have hg0 : 0 < Nat.gcd (oU a x y w (2 ^ a.1.2)) (10 ^ a.1.2) := Nat.gcd_pos_of_pos_right _ h10p
    have hgl : Nat.gcd (oU a x y w (2 ^ a.1.2)) (10 ^ a.1.2) ≤ 10 ^ a.1.2 := Nat.gcd_le_right _ h10p
    refine mR 2 rfl trivial ?_
    refine mx_E_callS (sp_Mo_gcd _ (oU a x y w (2 ^ a.1.2)) (10 ^ a.1.2) (by omega) (by omega)) rfl rfl rfl (fun r c2 hr => ?_)
    obtain ⟨rfl, hz2⟩ := hr
    rw [hz2]
    have hg1 : ¬ lN (Nat.gcd (oU a x y w (2 ^ a.1.2)) (10 ^ a.1.2)) = 0 := fun q => by
      have := (pk_lEQ (b := 0) (show Nat.gcd (oU a x y w (2 ^ a.1.2)) (10 ^ a.1.2) < 2 ^ 63 by omega) (by decide)).mp q
      omega
    have hq2 := hq _ hI
    refine mR 2 rfl trivial ?_
    rcases (show z = 0 ∨ z = 1 by omega) with rfl | rfl
    · refine mx_E_br rfl rfl (fun h => absurd rfl h) (fun _ => ?_)
      refine mR 5 rfl (mA1 hg1) ?_
      rw [pk_lDiv (by omega) hg0 (by omega), lN_i]
      exact mx_E_iret rfl rfl hq2
    · refine mx_E_br rfl rfl (fun _ => ?_) (fun h => absurd (by decide) h)
      refine mR 4 rfl (mA1 hg1) ?_
      rw [pk_lDiv (by omega) hg0 (by omega), lN_i]
      exact mx_E_iret rfl rfl hq2
  | u + 1, s, c1, h, hI => by
    obtain ⟨h8, h9, hn, hm⟩ := hI.1
    have hp5 := pw_le hm
    have hs5 : s < 512 := by omega
    have h6 := hn.2
    have h10 := p10_le hm
    have hPl := oP_le hx s a.1.2
    refine mR 5 rfl trivial ?_
    rw [h9, nI_shm hm]
    refine mbGe _ _ rfl (by omega) (by omega) (fun h => by omega) (fun _ => ?_)
    refine mR 6 rfl trivial ?_
    refine mS (lp_Mo_odds_in (x := x) (y := y) (w := w) (z := z) (s := s) (U := oU a x y w s) hx hs5 hm h9 ?_ a.1.2 0 (by omega)) rfl rfl rfl
    have hsu : oU a x y w (s + 1) = oU a x y w s + oT a x y w s := rfl
    have hI2 : rI (mx_up c1 0 23 (nI s)) a := rI_up hI (by decide) (by decide) (by decide) (by decide) (by decide)
    have hWs : oW a.1.2 (s + 1) = 10 ^ a.1.2 := if_neg (by omega)
    have none0 : oT a x y w s = 0 → ∀ c2, rI c2 a → mx_E 1 6 m_Mo_odds Q 81 [.ref 0, .int (nI x), .int (nI y), .int (nI w), .int (nI z), .long (lN (oU a x y w s)), .null, .long (lN (10 ^ a.1.2)), .null, .int (nI s), .long (lN (oP x s a.1.2)), .null, .int (nI a.1.2)] [.long (lN (oU a x y w s))] c2 := by
      intro ht c2 hc2
      refine mR 5 rfl trivial ?_
      refine mW (lp_Mo_odds hx hy hw hz hq u (s + 1) c2 (by omega) hc2) ⟨Or.inr rfl, Or.inr rfl, Or.inr rfl, Or.inr rfl, Or.inr rfl, Or.inr ?_, Or.inl rfl, Or.inr (by rw [hWs]), Or.inl rfl, Or.inr (by rw [nI_1]), Or.inl rfl, Or.inl rfl, Or.inl rfl, trivial⟩ rfl rfl
      rw [hsu, ht, show (Int64.ofNat 0) = lN 0 from rfl, lN_add]
    refine mR 7 rfl trivial ?_
    by_cases hp : oP x s a.1.2 = 0
    · rw [hp, show lg_cmp (lN 0) (Int64.ofNat 0) = 0 from lc_0]
      refine mx_E_br rfl rfl (fun _ => ?_) (fun h => absurd (by decide) h)
      have z0 := none0 (by unfold oT; rw [if_neg (by omega)]) _ hI2
      rw [hp] at z0
      exact z0
    · rw [show lg_cmp (lN (oP x s a.1.2)) (Int64.ofNat 0) = 1 from lc_p (by omega) (by omega)]
      refine mx_E_br rfl rfl (fun h => absurd h (by decide)) (fun _ => ?_)
      refine mR 4 rfl trivial ?_
      refine mx_E_callV (sp_Mo_outcome3 (w := w) _ (rI_V hI2 (mx_up_same _ _ _ _) hs5) hw) rfl rfl rfl (fun r c3 hr => ?_)
      obtain ⟨rfl, hf3⟩ := hr
      have hI3 := rI_fS hI2 (mfS_of hf3 (by decide))
      have hol : oOut a w s < a.1.1 := mout_lt hI3.2.1.2.2.1
      refine mR 1 rfl trivial ?_
      refine mbNe (oOut a w s) y rfl (by omega) (by omega) (fun hne => ?_) (fun heq => ?_)
      · exact none0 (by unfold oT; rw [if_neg (fun q => hne q.2)]) _ hI3
      · refine mR 6 rfl trivial ?_
        refine mW (lp_Mo_odds hx hy hw hz hq u (s + 1) c3 (by omega) hI3) ⟨Or.inr rfl, Or.inr rfl, Or.inr rfl, Or.inr rfl, Or.inr rfl, Or.inr ?_, Or.inl rfl, Or.inr (by rw [hWs]), Or.inl rfl, Or.inr (by rw [nI_1]), Or.inl rfl, Or.inl rfl, Or.inl rfl, trivial⟩ rfl rfl
        rw [hsu, show oT a x y w s = oP x s a.1.2 from if_pos ⟨by omega, heq⟩, lN_add]
theorem qr_odds {c : mx_M} {a : mSt} (x y w z : Int32) (h : rI c a) : mx_Spec 1 6 m_Mo_odds [.ref 0, .int x, .int y, .int w, .int z] c (fun r c' => r = some (.int (aOdds a x y w z).1) ∧ rI c' (aOdds a x y w z).2) := by
  have h0 := rI_0 0 h
  obtain ⟨h8, h9, hn, hm⟩ := h0.1
  have h6 := hn.2
  refine mx_Spec_E rfl rfl rfl ?_
  refine mR 6 rfl trivial ?_
  refine mx_E_callS (sp_Mo_in _ _ _ _) rfl rfl rfl (fun r c1 hr => ?_)
  obtain ⟨rfl, hz⟩ := hr
  rw [hz, show decide ((0 : Int32) ≤ x ∧ x ≤ 10) = mi x 11 from in_mk x 10 (by decide)]
  unfold aOdds
  refine mbT rfl (fun hb => ?_) (fun hb => ?_)
  · rw [hb]
    refine mR 1 rfl trivial ?_
    exact mx_E_iret rfl rfl ⟨rfl, h0⟩
  · refine mR 2 rfl trivial ?_
    refine mx_E_callV (sp_Mo_isMotion _ y _ h8 (by omega)) rfl rfl rfl (fun r c1 hr => ?_)
    obtain ⟨rfl, hz⟩ := hr
    rw [hz]
    refine mbT rfl (fun hb1 => ?_) (fun hb1 => ?_)
    · rw [hb1, Bool.and_false]
      refine mR 1 rfl trivial ?_
      exact mx_E_iret rfl rfl ⟨rfl, h0⟩
    · refine mR 1 rfl trivial ?_
      refine mx_E_callS (sp_Mo_isWay _ w) rfl rfl rfl (fun r c1 hr => ?_)
      obtain ⟨rfl, hz⟩ := hr
      rw [hz]
      refine mbT rfl (fun hb2 => ?_) (fun hb2 => ?_)
      · rw [hb2, Bool.and_false]
        refine mR 1 rfl trivial ?_
        exact mx_E_iret rfl rfl ⟨rfl, h0⟩
      · refine mR 3 rfl trivial ?_
        refine mx_E_callS (sp_Mo_in _ _ _ _) rfl rfl rfl (fun r c1 hr => ?_)
        obtain ⟨rfl, hz⟩ := hr
        rw [hz, show decide ((0 : Int32) ≤ z ∧ z ≤ 1) = mi z 2 from in_mk z 1 (by decide)]
        refine mbF rfl (fun hb3 => ?_) (fun hb3 => ?_)
        · rw [hb, hb1, hb2, hb3]
          obtain ⟨k, hk, rfl⟩ := mi_of (by omega) hb
          obtain ⟨i, hi, rfl⟩ := mi_of (by omega) hb1
          obtain ⟨j, hj, rfl⟩ := mi_of (by omega) hb2
          obtain ⟨l, hl, rfl⟩ := mi_of (by omega) hb3
          rw [nI_cl (a := i) (by omega), nI_cl (a := j) (by omega), nI_cl (a := k) (by omega)]
          refine mR 6 rfl trivial ?_
          exact mS (lp_Mo_odds (by omega) hi hj hl (fun c' hI => ⟨rfl, hI⟩) (2 ^ a.1.2) 0 _ (by omega) h0) rfl rfl rfl
        · rw [hb3, Bool.and_false]
          refine mR 1 rfl trivial ?_
          exact mx_E_iret rfl rfl ⟨rfl, h0⟩
