theorem lp_Mo_ones {Q : Option Value → mx_M → Prop} {c : mx_M} {x : Int32} : ∀ (k l cnt : Nat), l ≤ k → l < 512 → cnt + mpop l ≤ 9 → Q (some (.int (nI (cnt + mpop l)))) c → mx_E 1 1 m_Mo_ones Q 4 [.int x, .int (nI cnt), .int (nI l)] [] c
  | 0, l, cnt, h, _, _, hq => by
    have e : l = 0 := by omega
    subst e
    refine mR 1 rfl trivial ?_
    refine mx_E_br rfl rfl (fun h => ?_) (fun h => absurd rfl h)
    refine mR 1 rfl trivial ?_
    rw [mpop_0] at hq
    exact mx_E_iret rfl rfl hq
  | k + 1, l, cnt, h, hl, hc, hq => by
    refine mR 1 rfl trivial ?_
    by_cases e : l = 0
    · subst e
      refine mx_E_br rfl rfl (fun h => ?_) (fun h => absurd rfl h)
      refine mR 1 rfl trivial ?_
      rw [mpop_0] at hq
      exact mx_E_iret rfl rfl hq
    · refine mx_E_br rfl rfl (fun h => absurd h (nI_ne0 (by omega) (by omega))) (fun h => ?_)
      obtain ⟨h1, h2⟩ := mpop_step l hl e
      refine mR 8 rfl trivial ?_
      refine mS (lp_Mo_ones (x := x) k (l &&& (l - 1)) (cnt + 1) (by omega) (by omega) (by omega) (by rw [show cnt + 1 + mpop (l &&& (l - 1)) = cnt + mpop l by omega]; exact hq)) ?_ rfl rfl
      rw [nI_1, show (1 : Int32) = nI 1 from rfl, pk_sub (by omega), fa_and]
theorem sp_Mo_ones (c : mx_M) (s : Nat) (hs : s < 512) : mx_Spec 1 1 m_Mo_ones [.int (nI s)] c (fun r c' => r = some (.int (nI (mpop s))) ∧ c' = c) := by
  refine mx_Spec_E rfl rfl rfl ?_
  refine mR 4 rfl trivial ?_
  have := mpop_le s
  exact lp_Mo_ones s s 0 (Nat.le_refl s) hs (by omega) ⟨by rw [Nat.zero_add], rfl⟩
theorem lp_Mo_orders {Q : Option Value → mx_M → Prop} {c : mx_M} {n : Nat} (hn : n < 7) (hq : Q (some (.int (nI (mfact n)))) c) : ∀ (t k : Nat), k + t = n → mx_E 1 1 m_Mo_orders Q 4 [.int (nI n), .int (nI (mfact k)), .int (nI (k + 1))] [] c
  | 0, k, h => by
    have e : k = n := by omega
    subst e
    refine mR 2 rfl trivial ?_
    refine mbGt (k + 1) k rfl (by omega) (by omega) (fun h => ?_) (fun h => by omega)
    refine mR 1 rfl trivial ?_
    exact mx_E_iret rfl rfl hq
  | t + 1, k, h => by
    refine mR 2 rfl trivial ?_
    refine mbGt (k + 1) n rfl (by omega) (by omega) (fun h => by omega) (fun h => ?_)
    refine mR 6 rfl trivial ?_
    refine mS (lp_Mo_orders hn hq t (k + 1) (by omega)) ?_ rfl rfl
    rw [pk_mul, nI_1, Nat.mul_comm]
    rfl
theorem sp_Mo_orders (c : mx_M) (n : Nat) (hn : n < 7) : mx_Spec 1 1 m_Mo_orders [.int (nI n)] c (fun r c' => r = some (.int (nI (mfact n))) ∧ c' = c) := by
  refine mx_Spec_E rfl rfl rfl ?_
  refine mR 4 rfl trivial ?_
  by_cases h0 : n = 0
  · subst h0
    refine mR 2 rfl trivial ?_
    refine mx_E_br rfl rfl (fun h => ?_) (fun h => absurd (by decide) h)
    refine mR 1 rfl trivial ?_
    exact mx_E_iret rfl rfl ⟨rfl, rfl⟩
  · exact lp_Mo_orders hn ⟨rfl, rfl⟩ (n - 1) 1 (by omega)
theorem lp_Mo_orderOf_in {Q : Option Value → mx_M → Prop} {c : mx_M} {k n left met p u : Nat} (hm : met < 64) (hk : ∀ (its : Nat) (z : Int32), its < 9 → its = mpick 8 met 0 (left / u) → mx_E 1 2 m_Mo_orderOf Q 44 [.ref 0, .int (nI k), .int (nI n), .int (nI (left % u)), .int (nI met), .int (nI p), .int (nI u), .int z, .int (nI its)] [] c) :
    ∀ (f i s : Nat), f + i = 8 → s ≤ 720 → (∃ j, j < 8 ∧ mpick f met i s = j ∧ met.testBit j = false) → mpick f met i s = mpick 8 met 0 (left / u) → mx_E 1 2 m_Mo_orderOf Q 26 [.ref 0, .int (nI k), .int (nI n), .int (nI (left % u)), .int (nI met), .int (nI p), .int (nI u), .int (nI s), .int (nI i)] [] c
  | 0, i, s, hf, hs, hj, he => by
    obtain ⟨j, h1, h2, -⟩ := hj
    have : i = j := h2
    omega
  | f + 1, i, s, hf, hs, hj, he => by
    refine mR 2 rfl trivial ?_
    refine mx_E_callS (sp_Mo_has _ met i (by omega) (by omega)) rfl rfl rfl (fun r c1 h => ?_)
    obtain ⟨rfl, rfl⟩ := h
    unfold mpick at hj he
    refine mbF rfl (fun ht => ?_) (fun ht => ?_)
    · rw [if_pos ht] at hj he
      refine mR 3 rfl trivial ?_
      refine mx_E_callS (sp_Mo_has _ met i (by omega) (by omega)) rfl rfl rfl (fun r c1 h => ?_)
      obtain ⟨rfl, rfl⟩ := h
      rw [ht]
      refine mbT rfl (fun h => by cases h) (fun _ => ?_)
      refine mR 6 rfl trivial ?_
      refine mS (lp_Mo_orderOf_in hm hk f (i + 1) s (by omega) hs hj he) ?_ rfl rfl
      rw [nI_1, show nI s - 0 = nI s by simp]
    · rw [if_neg (by rw [ht]; decide)] at hj he
      refine mR 1 rfl trivial ?_
      by_cases hz : s = 0
      · subst hz
        rw [if_pos rfl] at hj he
        refine mx_E_br rfl rfl (fun _ => ?_) (fun h => absurd (by decide) h)
        exact hk i (nI 0) (by omega) he
      · rw [if_neg hz] at hj he
        refine mx_E_br rfl rfl (fun h => absurd h (nI_nle (by omega) (by omega))) (fun _ => ?_)
        refine mR 3 rfl trivial ?_
        refine mx_E_callS (sp_Mo_has _ met i (by omega) (by omega)) rfl rfl rfl (fun r c1 h => ?_)
        obtain ⟨rfl, rfl⟩ := h
        rw [ht]
        refine mbT rfl (fun _ => ?_) (fun h => by cases h)
        refine mR 5 rfl trivial ?_
        refine mS (lp_Mo_orderOf_in hm hk f (i + 1) (s - 1) (by omega) (by omega) hj he) ?_ rfl rfl
        rw [nI_1, show (1 : Int32) = nI 1 from rfl, pk_sub (by omega)]
theorem mst_div {n k p : Nat} (hn : mn n) (hk : k < mfact n) (hp : p < n) : (mst n k p).1 < mfact (n - p) ∧ mfact (n - p) ≤ 720 ∧ 1 ≤ mfact (n - 1 - p) ∧ mfact (n - 1 - p) ≤ 720 := by
  obtain ⟨h1, h2⟩ := hn
  exact ⟨(mo_all ⟨h1, h2⟩ hk hp).2.1, (mfact_le (n - p) (by omega)).2, mfact_le (n - 1 - p) (by omega)⟩
theorem lp_Mo_orderOf {Q : Option Value → mx_M → Prop} {c : mx_M} {n k : Nat} (hn : mn n) (hk : k < mfact n) (hq : Q none (mx_upR c 14 (fa_fill (fun p => nI (mo n k p)) (c 14) n))) :
    ∀ (t p : Nat), p + t = n → mx_E 1 2 m_Mo_orderOf Q 6 [.ref 0, .int (nI k), .int (nI n), .int (nI (mst n k p).1), .int (nI (mst n k p).2), .int (nI p), .null, .null, .null] [] (mx_upR c 14 (fa_fill (fun p => nI (mo n k p)) (c 14) p))
  | 0, p, h => by
    have e : p = n := by omega
    subst e
    have := hn.2
    refine mR 2 rfl trivial ?_
    refine mbGe p p rfl (by omega) (by omega) (fun _ => ?_) (fun h => by omega)
    exact mx_E_vret rfl rfl hq
  | t + 1, p, h => by
    have hp : p < n := by omega
    have h6 := hn.2
    obtain ⟨ho, -, hm, hb, -⟩ := mo_all hn hk hp
    obtain ⟨d1, d2, d3, d4⟩ := mst_div hn hk hp
    refine mR 2 rfl trivial ?_
    refine mbGe p n rfl (by omega) (by omega) (fun h => by omega) (fun _ => ?_)
    refine mR 5 rfl trivial ?_
    rw [show (1 : Int32) = nI 1 from rfl, pk_sub (by omega), pk_sub (by omega)]
    refine mx_E_callS (sp_Mo_orders _ (n - 1 - p) (by omega)) rfl rfl rfl (fun r c1 h => ?_)
    obtain ⟨rfl, rfl⟩ := h
    have hu0 : ¬ nI (mfact (n - 1 - p)) = 0 := nI_ne0 (by omega) (by omega)
    have hdv : (mst n k p).1 / mfact (n - 1 - p) ≤ 720 := Nat.le_trans (Nat.div_le_self _ _) (by omega)
    refine mR 11 rfl (mA2 hu0 hu0) ?_
    rw [pk_rem (by omega) (by omega) (by omega), pk_div (by omega) (by omega) (by omega)]
    refine lp_Mo_orderOf_in (left := (mst n k p).1) (u := mfact (n - 1 - p)) hm (fun its z hi he => ?_) 8 0 _ rfl hdv ⟨mo n k p, by omega, rfl, hb⟩ rfl
    refine mR 13 rfl (mA1 (mI (by omega))) ?_
    have he2 : its = mo n k p := he
    refine mW (lp_Mo_orderOf hn hk hq t (p + 1) (by omega)) ⟨Or.inr rfl, Or.inr rfl, Or.inr rfl, Or.inr rfl, Or.inr ?_, Or.inr ?_, Or.inl rfl, Or.inl rfl, Or.inl rfl, trivial⟩ rfl ?_
    · rw [nI_shl1 (by omega), fa_or, he]
      rfl
    · rw [nI_1]
    · rw [mx_up_R, mx_upR_row, mx_upR_two, nI_clamp (by omega), he2]
      rw [fa_fill_succ (fun p => nI (mo n k p))]
theorem sp_Mo_orderOf (c : mx_M) (n k : Nat) (hn : mn n) (hk : k < mfact n) : mx_Spec 1 2 m_Mo_orderOf [.ref 0, .int (nI k), .int (nI n)] c (fun r c' => r = none ∧ c' = mx_upR c 14 (fa_fill (fun p => nI (mo n k p)) (c 14) n)) := by
  refine mx_Spec_E rfl rfl rfl ?_
  refine mR 6 rfl trivial ?_
  refine mS (lp_Mo_orderOf hn hk ⟨rfl, rfl⟩ n 0 (by omega)) rfl rfl ?_
  rw [fa_fill_0, mx_upR_self]
