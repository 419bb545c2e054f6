/-! the class: the odds when members are away -/
theorem lp_De_power {Q : Option Value → mx_M → Prop} {c : mx_M} {b k : Nat} (hb : b ≤ 10) (hk : k ≤ 9) (hq : Q (some (.long (lN (b ^ k)))) c) :
    ∀ (u i : Nat), i + u = k → mx_E 0 1 m_De_power Q 4 [.int (nI b), .int (nI k), .long (lN (b ^ i)), .null, .int (nI i)] [] c
  | 0, i, h => by
    have e : i = k := by omega
    subst e
    refine mR 2 rfl trivial ?_
    refine mbGe _ _ rfl (by omega) (by omega) (fun _ => ?_) (fun z => by omega)
    refine mR 1 rfl trivial ?_
    exact mx_E_lret rfl rfl hq
  | u + 1, i, h => by
    refine mR 2 rfl trivial ?_
    refine mbGe _ _ rfl (by omega) (by omega) (fun z => by omega) (fun _ => ?_)
    refine mR 7 rfl trivial ?_
    refine mS (lp_De_power hb hk hq u (i + 1) (by omega)) ?_ rfl rfl
    rw [nI_l (by omega), lN_mul, nI_1, Nat.pow_succ]
theorem sp_De_power (c : mx_M) (b k : Nat) (hb : b ≤ 10) (hk : k ≤ 9) : mx_Spec 0 1 m_De_power [.int (nI b), .int (nI k)] c (fun r c' => r = some (.long (lN (b ^ k))) ∧ c' = c) := by
  refine mx_Spec_E rfl rfl rfl ?_
  refine mR 4 rfl trivial ?_
  exact lp_De_power hb hk ⟨rfl, rfl⟩ k 0 (by omega)
theorem cd_step {Q : Option Value → mx_M → Prop} {c : mx_M} {a b x y st : Nat} (hx : x < 1000000000000) (hy : y < 1000000000000) (hs : st < 1000) (h0 : y = 0 → Q (some (.long (lN x))) c) (hk : y ≠ 0 → mx_E 0 1 m_De_commonDivisor Q 6 [.long (lN a), .null, .long (lN b), .null, .long (lN y), .null, .long (lN (x % y)), .null, .int (nI (st + 1)), .null, .null] [] c) : mx_E 0 1 m_De_commonDivisor Q 6 [.long (lN a), .null, .long (lN b), .null, .long (lN x), .null, .long (lN y), .null, .int (nI st), .null, .null] [] c := by
  refine mR 2 rfl trivial ?_
  rw [show (1000 : Int32) = nI 1000 from rfl]
  refine mbGe _ _ rfl (by omega) (by decide) (fun z => by omega) (fun _ => ?_)
  refine mR 3 rfl trivial ?_
  by_cases e : y = 0
  · have q := h0 e
    subst e
    rw [show lg_cmp (lN 0) (Int64.ofNat 0) = 0 from lc_0]
    refine mx_E_br rfl rfl (fun _ => ?_) (fun h => absurd rfl h)
    refine mR 1 rfl trivial ?_
    exact mx_E_lret rfl rfl q
  · rw [show lg_cmp (lN y) (Int64.ofNat 0) = 1 from lc_p (by omega) (by omega)]
    refine mx_E_br rfl rfl (fun h => absurd h (by decide)) (fun _ => ?_)
    have hy0 : ¬ lN y = 0 := fun z => e ((pk_lEQ (b := 0) (by omega) (by decide)).mp z)
    refine mR 10 rfl (mA1 hy0) ?_
    rw [pk_lRem (by omega) (by omega) (by omega), nI_1]
    exact mW (hk e) ⟨Or.inr rfl, Or.inl rfl, Or.inr rfl, Or.inl rfl, Or.inr rfl, Or.inl rfl, Or.inr rfl, Or.inl rfl, Or.inr rfl, Or.inl rfl, Or.inl rfl, trivial⟩ rfl rfl
theorem gcd_st (x y : Nat) : Nat.gcd y (x % y) = Nat.gcd x y := by rw [Nat.gcd_comm x y, Nat.gcd_rec y x, Nat.gcd_comm]
theorem lp_De_cd {Q : Option Value → mx_M → Prop} {c : mx_M} {a b g : Nat} (hq : Q (some (.long (lN g))) c) :
    ∀ (k x y st : Nat), y < 2 ^ k → st + 2 * k < 1000 → x < 1000000000000 → y < 1000000000000 → Nat.gcd x y = g → mx_E 0 1 m_De_commonDivisor Q 6 [.long (lN a), .null, .long (lN b), .null, .long (lN x), .null, .long (lN y), .null, .int (nI st), .null, .null] [] c
  | 0, x, y, st, h, hs, hx, hy, he => by
    have e : y = 0 := by have h2 : y < 1 := h; omega
    refine cd_step hx hy (by omega) (fun _ => ?_) (fun z => absurd e z)
    rw [e, Nat.gcd_zero_right] at he
    rw [he]
    exact hq
  | k + 1, x, y, st, h, hs, hx, hy, he => by
    refine cd_step hx hy (by omega) (fun e => ?_) (fun e => ?_)
    · rw [e, Nat.gcd_zero_right] at he
      rw [he]
      exact hq
    · have hm := Nat.mod_lt x (show y > 0 by omega)
      refine cd_step hy (by omega) (by omega) (fun e2 => ?_) (fun e2 => ?_)
      · rw [← gcd_st, e2, Nat.gcd_zero_right] at he
        rw [he]
        exact hq
      · have hr := Nat.mod_lt y (show x % y > 0 by omega)
        have hd := Nat.div_add_mod y (x % y)
        have hd1 : 1 ≤ y / (x % y) := Nat.div_pos (by omega) (by omega)
        have hd2 : x % y * 1 ≤ x % y * (y / (x % y)) := Nat.mul_le_mul_left _ hd1
        have hpw : 2 ^ (k + 1) = 2 ^ k * 2 := Nat.pow_succ 2 k
        exact lp_De_cd (a := a) (b := b) hq k (x % y) (y % (x % y)) (st + 1 + 1) (by omega) (by omega) (by omega) (by omega) (by rw [gcd_st, gcd_st]; exact he)
theorem sp_De_commonDivisor (c : mx_M) (a b : Nat) (ha : a < 1000000000000) (hb : b < 2 ^ 30) : mx_Spec 0 1 m_De_commonDivisor [.long (lN a), .long (lN b)] c (fun r c' => r = some (.long (lN (Nat.gcd a b))) ∧ c' = c) := by
  refine mx_Spec_E rfl rfl rfl ?_
  refine mR 6 rfl trivial ?_
  exact lp_De_cd (a := a) (b := b) ⟨rfl, rfl⟩ 30 a b 0 hb (by decide) ha (Nat.lt_of_lt_of_le hb (by decide)) rfl
-- sets counted by how many they are
def oG (x m z : Nat) : Nat := (10 - x) ^ z * x ^ (m - z)
theorem oP_ct (x s : Nat) : ∀ k, oP x s k = (10 - x) ^ fb_ct (fun i => s.testBit i) k * x ^ (k - fb_ct (fun i => s.testBit i) k)
  | 0 => rfl
  | k + 1 => by
    have hl := fb_ct_le (fun i => s.testBit i) k
    show oP x s k * (if s.testBit k then 10 - x else x) = _
    rw [oP_ct x s k, fb_ct_succ]
    by_cases e : s.testBit k = true
    · rw [if_pos e, if_pos e, show k + 1 - (fb_ct (fun i => s.testBit i) k + 1) = k - fb_ct (fun i => s.testBit i) k by omega, Nat.pow_succ, Nat.mul_right_comm]
    · rw [if_neg e, if_neg e, Nat.add_zero, show k + 1 - fb_ct (fun i => s.testBit i) k = k - fb_ct (fun i => s.testBit i) k + 1 by omega, Nat.pow_succ, Nat.mul_assoc]
theorem oP_g {x s m : Nat} (hm : m ≤ 9) (hs : s < 2 ^ m) : oP x s m = oG x m (mpop s) := by
  unfold oG
  rw [oP_ct, pop_all hm hs]
/-- how many of the first s sets come to y and are of z members -/
def oN (a : mSt) (y w s z : Nat) : Nat := fb_ct (fun s' => decide (oOut a w s' = y ∧ mpop s' = z)) s
theorem sm_one (p v : Nat) : ∀ n, fb_sm (fun z => if z = p then v else 0) n = if p < n then v else 0
  | 0 => rfl
  | n + 1 => by
    rw [fb_sm_succ, sm_one p v n]
    by_cases e : n = p
    · rw [if_pos e, if_neg (by omega), if_pos (by omega), Nat.zero_add]
    · rw [if_neg e, Nat.add_zero]
      by_cases e2 : p < n
      · rw [if_pos e2, if_pos (by omega)]
      · rw [if_neg e2, if_neg (by omega)]
theorem oU_n {a : mSt} {x y w : Nat} (hm : a.1.2 ≤ 9) : ∀ s, s ≤ 2 ^ a.1.2 → oU a x y w s = fb_sm (fun z => oN a y w s z * oG x a.1.2 z) (a.1.2 + 1)
  | 0, _ => by
    show 0 = _
    rw [fb_sm_cong (g := fun _ => 0) (fun z _ => by show 0 * _ = 0; rw [Nat.zero_mul]), fb_sm_const, Nat.mul_zero]
  | s + 1, hs => by
    have ih := oU_n (x := x) (y := y) (w := w) hm s (by omega)
    show oU a x y w s + oT a x y w s = _
    rw [ih]
    have hp : mpop s ≤ a.1.2 := by rw [pop_all hm (show s < 2 ^ a.1.2 by omega)]; exact fb_ct_le _ _
    have e1 : ∀ z, z < a.1.2 + 1 → oN a y w (s + 1) z * oG x a.1.2 z = oN a y w s z * oG x a.1.2 z + (if z = mpop s then (if oOut a w s = y then oG x a.1.2 (mpop s) else 0) else 0) := by
      intro z _
      show (oN a y w s z + (if decide (oOut a w s = y ∧ mpop s = z) then 1 else 0)) * _ = _
      rw [Nat.add_mul]
      congr 1
      by_cases q : z = mpop s
      · rw [if_pos q, q]
        by_cases q2 : oOut a w s = y
        · rw [if_pos q2, decide_eq_true ⟨q2, rfl⟩, if_pos rfl, Nat.one_mul]
        · rw [if_neg q2, decide_eq_false (fun v => q2 v.1), if_neg (by decide), Nat.zero_mul]
      · rw [if_neg q, decide_eq_false (fun v => q v.2.symm), if_neg (by decide), Nat.zero_mul]
    rw [fb_sm_cong e1, fb_sm_add, sm_one, if_pos (by omega)]
    congr 1
    unfold oT
    rw [oP_g hm (show s < 2 ^ a.1.2 by omega)]
    by_cases q2 : oOut a w s = y
    · rw [if_pos q2]
      by_cases q3 : 0 < oG x a.1.2 (mpop s)
      · rw [if_pos ⟨q3, q2⟩]
      · rw [if_neg (fun v => q3 v.1)]
        omega
    · rw [if_neg q2, if_neg (fun v => q2 v.2)]
theorem lp_De_odds2 {Q : Option Value → mx_M → Prop} {c : mx_M} {a : mSt} {x y w v : Nat} (hx : x ≤ 10) (h : cI c a) (h33 : ∀ z, z < 10 → c 33 z = nI (oN a y w (2 ^ a.1.2) z)) (hk : mx_E 0 6 m_De_odds Q 81 [.ref 0, .int (nI x), .int (nI y), .int (nI w), .int (nI v), .long (lN (oU a x y w (2 ^ a.1.2))), .null, .int (nI (a.1.2 + 1)), .null, .null, .null] [] c) :
    ∀ (u z : Nat), z + u = a.1.2 + 1 → mx_E 0 6 m_De_odds Q 52 [.ref 0, .int (nI x), .int (nI y), .int (nI w), .int (nI v), .long (lN (fb_sm (fun z => oN a y w (2 ^ a.1.2) z * oG x a.1.2 z) z)), .null, .int (nI z), .null, .null, .null] [] c
  | 0, z, hz => by
    have hm := (cI_nm h).2
    have e : z = a.1.2 + 1 := by omega
    rw [e, ← oU_n hm _ (Nat.le_refl _)]
    refine mR 4 rfl trivial ?_
    rw [cI_3 h]
    exact mbGt _ _ rfl (by omega) (by omega) (fun _ => hk) (fun q => by omega)
  | u + 1, z, hz => by
    have hm := (cI_nm h).2
    have h5 := pw_le hm
    have hnl := fb_ct_le (fun s' => decide (oOut a w s' = y ∧ mpop s' = z)) (2 ^ a.1.2)
    have hnl2 : oN a y w (2 ^ a.1.2) z ≤ 2 ^ a.1.2 := hnl
    refine mR 4 rfl trivial ?_
    rw [cI_3 h]
    refine mbGt _ _ rfl (by omega) (by omega) (fun q => by omega) (fun _ => ?_)
    refine mR 10 rfl (mA1 (mI (by omega))) ?_
    rw [nI_cl (a := z) (by omega), h33 z (by omega), nI_l (by omega), show (10 : Int32) = nI 10 from rfl, pk_sub hx]
    refine mx_E_callS (sp_De_power _ (10 - x) z (by omega) (by omega)) rfl rfl rfl (fun r c1 hr => ?_)
    obtain ⟨rfl, hz1⟩ := hr
    rw [hz1]
    refine mR 7 rfl trivial ?_
    rw [cI_3 h, pk_sub (show z ≤ a.1.2 by omega), lN_mul]
    refine mx_E_callS (sp_De_power _ x (a.1.2 - z) hx (by omega)) rfl rfl rfl (fun r c1 hr => ?_)
    obtain ⟨rfl, hz1⟩ := hr
    rw [hz1]
    refine mR 5 rfl trivial ?_
    refine mS (lp_De_odds2 hx h h33 hk u (z + 1) (by omega)) ?_ rfl rfl
    rw [lN_mul, lN_add, nI_1, fb_sm_succ]
    unfold oG
    rw [Nat.mul_assoc]
theorem cI_33 {c : mx_M} {a : mSt} {k : Nat} {v : Int32} (h : cI c a) : cI (mx_up c 33 k v) a := cI_fr h (mfr_up (mfr_rf _ _) (by decide))
theorem lp_De_odds1 {Q : Option Value → mx_M → Prop} {a : mSt} {x y w v : Nat} (hy : y < a.1.1) (hw : w < 2) (hk : ∀ c2, cI c2 a → (∀ z, z < 10 → c2 33 z = nI (oN a y w (2 ^ a.1.2) z)) → mx_E 0 6 m_De_odds Q 48 [.ref 0, .int (nI x), .int (nI y), .int (nI w), .int (nI v), .int (nI (2 ^ a.1.2)), .null, .null, .null, .null, .null] [] c2) :
    ∀ (u s : Nat) (c : mx_M), s + u = 2 ^ a.1.2 → cI c a → (∀ z, z < 10 → c 33 z = nI (oN a y w s z)) → mx_E 0 6 m_De_odds Q 24 [.ref 0, .int (nI x), .int (nI y), .int (nI w), .int (nI v), .int (nI s), .null, .null, .null, .null, .null] [] c
  | 0, s, c, hs, h, d => by
    obtain ⟨hn, hm⟩ := cI_nm h
    have h5 := pw_le hm
    have hpp := Nat.two_pow_pos a.1.2
    have e : s = 2 ^ a.1.2 := by omega
    rw [e] at d ⊢
    refine mR 2 rfl trivial ?_
    refine mx_E_callV (sp_De_everyone _ hm (cI_3 h)) rfl rfl rfl (fun r c1 hr => ?_)
    obtain ⟨rfl, hz⟩ := hr
    rw [hz]
    exact mbGt _ _ rfl (by omega) (by omega) (fun _ => hk c h d) (fun z => by omega)
  | u + 1, s, c, hs, h, d => by
    obtain ⟨hn, hm⟩ := cI_nm h
    have n6 := hn.2
    have h5 := pw_le hm
    have hs2 : s < 2 ^ a.1.2 := by omega
    have hT := cI_T h
    have lo : oOut a w s < a.1.1 := mout_lt hT.2.1
    have hps := mpop_le s
    have hss : ∀ z, oN a y w (s + 1) z = oN a y w s z + (if decide (oOut a w s = y ∧ mpop s = z) then 1 else 0) := fun z => rfl
    refine mR 2 rfl trivial ?_
    refine mx_E_callV (sp_De_everyone _ hm (cI_3 h)) rfl rfl rfl (fun r c1 hr => ?_)
    obtain ⟨rfl, hz⟩ := hr
    rw [hz]
    refine mbGt _ _ rfl (by omega) (by omega) (fun z => by omega) (fun _ => ?_)
    refine mR 6 rfl trivial ?_
    refine mx_E_callV (sp_Ba_outcome13 _ hT n6 hm (cI_b h) (cI_R h) hs2 hw) rfl rfl rfl (fun r c1 hr => ?_)
    obtain ⟨rfl, f1⟩ := hr
    have h1 : cI c1 a := cI_fr h (mfr_mo f1 (by decide))
    have d1 : ∀ z, z < 10 → c1 33 z = nI (oN a y w s z) := fun z hz => by rw [f1 33 (by decide)]; exact d z hz
    refine mR 1 rfl trivial ?_
    refine mbNe (oOut a w s) y rfl (by omega) (by omega) (fun q => ?_) (fun q => ?_)
    · refine mR 2 rfl trivial ?_
      refine mS (lp_De_odds1 hy hw hk u (s + 1) c1 (by omega) h1 (fun z hz => ?_)) ?_ rfl rfl
      · rw [hss, decide_eq_false (fun v => q v.1), d1 z hz]
        rfl
      · rw [nI_1]
    · refine mR 3 rfl trivial ?_
      refine mx_E_callS (sp_In_bitCount _ s (by omega)) rfl rfl rfl (fun r c2 hr => ?_)
      obtain ⟨rfl, hz⟩ := hr
      rw [hz]
      refine mR 5 rfl (mA2 (mI (by omega)) (mI (by omega))) ?_
      rw [nI_cl (a := mpop s) (by omega), d1 (mpop s) (by omega), nI_1]
      refine mR 2 rfl trivial ?_
      refine mS (lp_De_odds1 hy hw hk u (s + 1) _ (by omega) (cI_33 h1) (fun z hz => ?_)) ?_ rfl rfl
      · rw [hss]
        by_cases e : z = mpop s
        · rw [e, mx_up_same, decide_eq_true ⟨q, rfl⟩]
          rfl
        · rw [mx_up_ix _ _ _ _ _ _ e, d1 z hz, decide_eq_false (fun v => e v.2.symm)]
          rfl
      · rw [nI_1]
theorem qc_odds {c : mx_M} {a : mSt} (x y w z : Int32) (h : cI c a) : mx_Spec 0 6 m_De_odds [.ref 0, .int x, .int y, .int w, .int z] c (fun r c' => r = some (.int (aOdds a x y w z).1) ∧ cI c' (aOdds a x y w z).2) := by
  obtain ⟨hn, hm⟩ := cI_nm h
  have n6 := hn.2
  refine mx_Spec_E rfl rfl rfl ?_
  refine mR 2 rfl trivial ?_
  refine mx_E_callS (sp_De_within _ x 11) rfl rfl rfl (fun r c1 hr => ?_)
  obtain ⟨rfl, hz⟩ := hr
  rw [hz]
  unfold aOdds
  refine mbT rfl (fun hb => ?_) (fun hb => ?_)
  · rw [hb]
    refine mR 1 rfl trivial ?_
    exact mx_E_iret rfl rfl ⟨rfl, h⟩
  · refine mR 2 rfl trivial ?_
    refine mx_E_callV (sp_De_isMotion _ y _ (cI_2 h)) rfl rfl rfl (fun r c1 hr => ?_)
    obtain ⟨rfl, hz⟩ := hr
    rw [hz]
    refine mbT rfl (fun hb2 => ?_) (fun hb2 => ?_)
    · rw [hb2, Bool.and_false]
      refine mR 1 rfl trivial ?_
      exact mx_E_iret rfl rfl ⟨rfl, h⟩
    · refine mR 2 rfl trivial ?_
      refine mx_E_callV (sp_De_isWay _ w) rfl rfl rfl (fun r c1 hr => ?_)
      obtain ⟨rfl, hz⟩ := hr
      rw [hz]
      refine mbT rfl (fun hb3 => ?_) (fun hb3 => ?_)
      · rw [hb3, Bool.and_false]
        refine mR 1 rfl trivial ?_
        exact mx_E_iret rfl rfl ⟨rfl, h⟩
      · refine mR 2 rfl trivial ?_
        refine mx_E_callS (sp_De_within _ z 2) rfl rfl rfl (fun r c1 hr => ?_)
        obtain ⟨rfl, hz⟩ := hr
        rw [hz]
        refine mbF rfl (fun hb4 => ?_) (fun hb4 => ?_)
        · rw [hb, hb2, hb3, hb4]
          obtain ⟨x0, hx0, rfl⟩ := mi_of (by decide) hb
          obtain ⟨y0, hy0, rfl⟩ := mi_of (by omega) hb2
          obtain ⟨w0, hw0, rfl⟩ := mi_of (by decide) hb3
          obtain ⟨z0, hz0, rfl⟩ := mi_of (by decide) hb4
          rw [nI_cl (a := x0) (by omega), nI_cl (a := y0) (by omega), nI_cl (a := w0) (by omega)]
          refine mR 3 rfl trivial ?_
          refine mx_E_callS (sp_Ar_fill33 _ 0) rfl rfl rfl (fun r c1 hr => ?_)
          obtain ⟨rfl, hc1⟩ := hr
          have h1 : cI c1 a := cI_fr h (fun r hr => by rw [hc1]; exact mx_upR_rid _ _ _ _ (fun e => hr (by rw [e]; decide)))
          refine mR 2 rfl trivial ?_
          refine lp_De_odds1 hy0 hw0 (fun c2 h2 d2 => ?_) (2 ^ a.1.2) 0 c1 (by omega) h1 (fun z hz => by rw [hc1, mx_upR_row, fa_fill_in hz]; rfl)
          refine mR 4 rfl trivial ?_
          refine lp_De_odds2 (by omega) h2 d2 ?_ (a.1.2 + 1) 0 (by omega)
          have hp10 := p10_le hm
          have h5 := pw_le hm
          have hul := oU_le (a := a) (x := x0) (y := y0) (w := w0) (by omega) hm (2 ^ a.1.2)
          have hul2 : oU a x0 y0 w0 (2 ^ a.1.2) ≤ 512 * 1000000000 := Nat.le_trans hul (Nat.mul_le_mul_right _ h5)
          have hpos : 0 < 10 ^ a.1.2 := Nat.pow_pos (by decide)
          have hg0 : 0 < Nat.gcd (oU a x0 y0 w0 (2 ^ a.1.2)) (10 ^ a.1.2) := Nat.gcd_pos_of_pos_right _ hpos
          have hg1 : Nat.gcd (oU a x0 y0 w0 (2 ^ a.1.2)) (10 ^ a.1.2) ≤ 10 ^ a.1.2 := Nat.gcd_le_right _ hpos
          refine mR 4 rfl trivial ?_
          rw [cI_3 h2]
          refine mx_E_callS (sp_De_power _ 10 a.1.2 (by decide) hm) rfl rfl rfl (fun r c3 hr => ?_)
          obtain ⟨rfl, hz⟩ := hr
          rw [hz]
          refine mR 3 rfl trivial ?_
          refine mx_E_callS (sp_De_commonDivisor _ (oU a x0 y0 w0 (2 ^ a.1.2)) (10 ^ a.1.2) (by omega) (by omega)) rfl rfl rfl (fun r c3 hr => ?_)
          obtain ⟨rfl, hz⟩ := hr
          rw [hz]
          obtain ⟨G, hG⟩ : ∃ G, G = Nat.gcd (oU a x0 y0 w0 (2 ^ a.1.2)) (10 ^ a.1.2) := ⟨_, rfl⟩
          rw [← hG] at hg0 hg1 ⊢
          refine mR 4 rfl trivial ?_
          rw [show lg_cmp (lN G) (Int64.ofNat 0) = 1 from lc_p hg0 (by omega)]
          refine mx_E_br rfl rfl (fun _ => ?_) (fun q => absurd (by decide) q)
          refine mR 1 rfl trivial ?_
          have hG0 : ¬ lN G = 0 := fun q => by
            have := (pk_lEQ (b := 0) (show G < 2 ^ 63 by omega) (by decide)).mp q
            omega
          refine mx_E_br rfl rfl (fun q => ?_) (fun q => ?_)
          · refine mR 4 rfl (mA1 hG0) ?_
            rw [pk_lDiv (by omega) hg0 (by omega), lN_i]
            refine mx_E_iret rfl rfl ?_
            rw [if_neg q]
            exact ⟨rfl, h2⟩
          · refine mR 5 rfl (mA1 hG0) ?_
            rw [pk_lDiv (by omega) hg0 (by omega), lN_i]
            refine mx_E_iret rfl rfl ?_
            rw [if_pos (Decidable.not_not.mp q)]
            exact ⟨rfl, h2⟩
        · rw [hb4, Bool.and_false]
          refine mR 1 rfl trivial ?_
          exact mx_E_iret rfl rfl ⟨rfl, h⟩
