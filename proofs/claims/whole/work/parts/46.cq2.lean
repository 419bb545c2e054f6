/-! the class: nodes, what stands now -/
theorem pwt (m : Nat) : 2 ^ m - 1 < 2 ^ m := Nat.sub_lt (Nat.two_pow_pos m) (by decide)
theorem dc_node : decode (mx_code m_De_node) (mx_pc m_De_node 18) = .ok (.tableswitch 136 0 5 #[37, 56, 74, 92, 102, 119], 37) := by decide +kernel
theorem qc_node {c : mx_M} {a : mSt} (x y : Int32) (h : cI c a) : mx_Spec 0 5 m_De_node [.ref 0, .int x, .int y] c (fun r c' => r = some (.int (aNode a x y).1) ∧ cI c' (aNode a x y).2) := by
  obtain ⟨hn, hm⟩ := cI_nm h
  have h6 := hn.2
  have hT := cI_T h
  have h63 : aD a ≤ 63 := hT.2.1.2.1
  refine mx_Spec_E rfl rfl rfl ?_
  refine mR 4 rfl trivial ?_
  rw [hT.1]
  refine mx_E_callS (sp_De_within _ x (aD a)) rfl rfl rfl (fun r c1 hr => ?_)
  obtain ⟨rfl, hz⟩ := hr
  rw [hz]
  unfold aNode
  refine mbT rfl (fun hb => ?_) (fun hb => ?_)
  · rw [hb]
    refine mR 1 rfl trivial ?_
    exact mx_E_iret rfl rfl ⟨rfl, h⟩
  · refine mR 2 rfl trivial ?_
    refine mx_E_callS (sp_De_within _ y 7) rfl rfl rfl (fun r c1 hr => ?_)
    obtain ⟨rfl, hz⟩ := hr
    rw [hz]
    refine mbF rfl (fun hb2 => ?_) (fun hb2 => ?_)
    · rw [hb, hb2]
      obtain ⟨k, hk, rfl⟩ := mi_of (by omega) hb
      obtain ⟨j, hj, rfl⟩ := mi_of (by decide) hb2
      rw [nI_cl (a := k) (by omega), nI_cl (a := j) (by omega)]
      refine mR 3 rfl trivial ?_
      refine mx_E_callV (sp_isV _ hT h6 hk) rfl rfl rfl (fun r c1 hr => ?_)
      obtain ⟨rfl, hz⟩ := hr
      rw [hz]
      refine mR 2 rfl trivial ?_
      rcases (show j = 0 ∨ j = 1 ∨ j = 2 ∨ j = 3 ∨ j = 4 ∨ j = 5 ∨ j = 6 by omega) with rfl | rfl | rfl | rfl | rfl | rfl | rfl
      · refine mx_E_tin (t := 19) (off := 37) dc_node (by decide) (by decide) (by decide +kernel) (by decide +kernel) ?_
        refine mR 1 rfl trivial ?_
        refine mbT rfl (fun e => ?_) (fun e => ?_)
        · refine mR 5 rfl (mA1 (mI (by omega))) ?_
          rw [nI_cl (a := k) (by omega), (hT.2.2 k hk).1]
          refine mx_E_iret rfl rfl ⟨?_, h⟩
          show some (Value.int (kC (aK a k))) = some (Value.int (kI (aK a k)))
          cases hK : aK a k with
          | none => rw [hK] at e; cases e
          | some q => rfl
        · refine mR 2 rfl trivial ?_
          refine mx_E_iret rfl rfl ⟨?_, h⟩
          show some (Value.int (-9)) = some (Value.int (kI (aK a k)))
          rw [Option.isNone_iff_eq_none.mp e]
          rfl
      · refine mx_E_tin (t := 29) (off := 56) dc_node (by decide) (by decide) (by decide +kernel) (by decide +kernel) ?_
        refine mR 1 rfl trivial ?_
        refine mbT rfl (fun e => ?_) (fun e => ?_)
        · refine mR 1 rfl trivial ?_
          refine mx_E_iret rfl rfl ⟨?_, h⟩
          show some (Value.int (-9)) = some (Value.int (if (aK a k).isNone = true then nI (k + 1) else -9))
          rw [e]
          rfl
        · refine mR 3 rfl trivial ?_
          refine mx_E_callV (sp_Tr_first _ k) rfl rfl rfl (fun r c1 hr => ?_)
          obtain ⟨rfl, hz⟩ := hr
          rw [hz]
          refine mR 1 rfl trivial ?_
          refine mx_E_iret rfl rfl ⟨?_, h⟩
          show some (Value.int (nI (k + 1))) = some (Value.int (if (aK a k).isNone = true then nI (k + 1) else -9))
          rw [e]
          rfl
      · refine mx_E_tin (t := 38) (off := 74) dc_node (by decide) (by decide) (by decide +kernel) (by decide +kernel) ?_
        refine mR 1 rfl trivial ?_
        refine mbT rfl (fun e => ?_) (fun e => ?_)
        · refine mR 1 rfl trivial ?_
          refine mx_E_iret rfl rfl ⟨?_, h⟩
          show some (Value.int (-9)) = some (Value.int (if (aK a k).isNone = true then nI (k + 1 + aZ a (k + 1)) else -9))
          rw [e]
          rfl
        · refine mR 3 rfl trivial ?_
          refine mx_E_callV (sp_sec _ hT hk (Option.isNone_iff_eq_none.mp e)) rfl rfl rfl (fun r c1 hr => ?_)
          obtain ⟨rfl, hz⟩ := hr
          rw [hz]
          refine mR 1 rfl trivial ?_
          refine mx_E_iret rfl rfl ⟨?_, h⟩
          show some (Value.int (nI (k + 1 + aZ a (k + 1)))) = some (Value.int (if (aK a k).isNone = true then nI (k + 1 + aZ a (k + 1)) else -9))
          rw [e]
          rfl
      · refine mx_E_tin (t := 47) (off := 92) dc_node (by decide) (by decide) (by decide +kernel) (by decide +kernel) ?_
        refine mR 5 rfl (mA1 (mI (by omega))) ?_
        rw [nI_cl (a := k) (by omega), (hT.2.2 k hk).2.2]
        exact mx_E_iret rfl rfl ⟨rfl, h⟩
      · refine mx_E_tin (t := 53) (off := 102) dc_node (by decide) (by decide) (by decide +kernel) (by decide +kernel) ?_
        refine mR 6 rfl trivial ?_
        refine mx_E_callV (sp_De_everyone _ hm (cI_3 h)) rfl rfl rfl (fun r c1 hr => ?_)
        obtain ⟨rfl, hz⟩ := hr
        rw [hz]
        refine mx_E_callV (sp_Ba_sincere13 _ hT h6 hm (cI_b h) (pw_lt hm) hk) rfl rfl rfl (fun r c1 hr => ?_)
        obtain ⟨rfl, hz⟩ := hr
        rw [hz]
        exact mx_E_iret rfl rfl ⟨rfl, h⟩
      · refine mx_E_tin (t := 62) (off := 119) dc_node (by decide) (by decide) (by decide +kernel) (by decide +kernel) ?_
        refine mR 6 rfl trivial ?_
        refine mx_E_callV (sp_De_everyone _ hm (cI_3 h)) rfl rfl rfl (fun r c1 hr => ?_)
        obtain ⟨rfl, hz⟩ := hr
        rw [hz]
        refine mx_E_callV (sp_Ba_foreseen13 _ hT h6 hm (cI_b h) (cI_R h) (pwt _) hk) rfl rfl rfl (fun r c1 hr => ?_)
        obtain ⟨rfl, hz⟩ := hr
        exact mx_E_iret rfl rfl ⟨rfl, cI_fr h (mfr_mo hz (by decide))⟩
      · refine mx_E_tout (t := 71) dc_node (Or.inr (by decide)) (by decide +kernel) ?_
        refine mR 5 rfl (mA1 (mI (by omega))) ?_
        rw [nI_cl (a := k) (by omega), (cI_b h).1 k hk]
        refine mx_E_callS (sp_In_bitCount _ _ (bS_512 _ hm)) rfl rfl rfl (fun r c1 hr => ?_)
        obtain ⟨rfl, hz⟩ := hr
        rw [hz]
        refine mx_E_iret rfl rfl ⟨?_, h⟩
        show some (Value.int (nI (mpop _))) = some (Value.int (if (aK a k).isNone = true then nI (mvf (mall a) a.1.2 a.1.1 a.2.1.1 (aS a (k + 1)) (aS a (k + 1 + aZ a (k + 1)))) else 0))
        rw [pop_self hm]
        by_cases e : (aK a k).isNone = true
        · rw [if_pos e]
          congr 3
          show fb_ct _ _ = fb_ct _ _
          refine fb_ct_cong (fun i hi => ?_)
          show ((2 ^ a.1.2 - 1).testBit i && ((aK a k).isNone && _)) = _
          rw [e, Bool.true_and]
          rfl
        · rw [if_neg e, fb_ct_zero.mpr (fun i hi => by
            show ((2 ^ a.1.2 - 1).testBit i && ((aK a k).isNone && _)) = false
            rw [show (aK a k).isNone = false from eq_false_of_ne_true e, Bool.false_and, Bool.and_false])]
          rfl
    · rw [hb2, Bool.and_false]
      refine mR 1 rfl trivial ?_
      exact mx_E_iret rfl rfl ⟨rfl, h⟩
/-- who beats all that are not of a set -/
theorem lp_De_bR_in {Q : Option Value → mx_M → Prop} {c : mx_M} {a : mSt} {s x : Nat} (h : cI c a) (hs : s < 64) (hx : x < a.1.1) (hno : tpIs (aB a) a.1.1 s = false → Q (some (.int 0)) c) (hk : (∀ j, j < a.1.1 → tpC (aB a) s x j = true) → mx_E 0 3 m_De_beatsTheRest Q 45 [.ref 0, .int (nI s), .int (nI x), .int (nI a.1.1), .null] [] c) :
    ∀ (t y : Nat), y + t = a.1.1 → (∀ j, j < y → tpC (aB a) s x j = true) → mx_E 0 3 m_De_beatsTheRest Q 9 [.ref 0, .int (nI s), .int (nI x), .int (nI y), .null] [] c
  | 0, y, e, hy => by
    have h6 := (cI_nm h).1.2
    have e1 : y = a.1.1 := by omega
    subst e1
    refine mR 4 rfl trivial ?_
    rw [cI_2 h]
    exact mbGe _ _ rfl (by omega) (by omega) (fun _ => hk hy) (fun z => absurd z (Nat.lt_irrefl _))
  | t + 1, y, e, hy => by
    have hm := (cI_nm h).2
    have h6 := (cI_nm h).1.2
    have nxt : tpC (aB a) s x y = true → ∀ v : Int32, mx_E 0 3 m_De_beatsTheRest Q 43 [.ref 0, .int (nI s), .int (nI x), .int (nI y), .int v] [] c := by
      intro ht v
      refine mR 2 rfl trivial ?_
      refine mW (lp_De_bR_in h hs hx hno hk t (y + 1) (by omega) (fun j hj => ?_)) ⟨Or.inr rfl, Or.inr rfl, Or.inr rfl, Or.inr (by rw [nI_1]), Or.inl rfl, trivial⟩ rfl rfl
      rcases Nat.lt_or_eq_of_le (Nat.le_of_lt_succ hj) with q | q
      · exact hy j q
      · rw [q]; exact ht
    have skip : tpC (aB a) s x y = true → mx_E 0 3 m_De_beatsTheRest Q 29 [.ref 0, .int (nI s), .int (nI x), .int (nI y), .null] [] c := by
      intro ht
      refine mR 3 rfl trivial ?_
      exact mx_E_br rfl rfl (fun _ => nxt ht 0) (fun z => absurd rfl z)
    refine mR 4 rfl trivial ?_
    rw [cI_2 h]
    refine mbGe _ _ rfl (by omega) (by omega) (fun z => by omega) (fun _ => ?_)
    refine mR 6 rfl trivial ?_
    rw [nb_1 (by omega) (by omega)]
    cases hx1 : s.testBit x with
    | false =>
      refine mx_E_br rfl rfl (fun _ => skip (by unfold tpC; rw [hx1]; rfl)) (fun z => absurd (show ¬ nI 0 = 1 by decide) z)
    | true =>
      refine mx_E_br rfl rfl (fun z => absurd (show nI 1 = 1 from rfl) z) (fun _ => ?_)
      refine mR 5 rfl trivial ?_
      rw [nb_1 (by omega) (by omega)]
      cases hy1 : s.testBit y with
      | true =>
        refine mx_E_br rfl rfl (fun _ => skip (by unfold tpC; rw [hx1, hy1]; rfl)) (fun z => absurd (show ¬ nI 1 = 0 by decide) z)
      | false =>
        refine mx_E_br rfl rfl (fun z => absurd (show nI 0 = 0 from rfl) z) (fun _ => ?_)
        refine mR 4 rfl trivial ?_
        refine mx_E_br rfl rfl (fun z => absurd z (by decide)) (fun _ => ?_)
        refine mR 5 rfl trivial ?_
        refine mx_E_callV (sp_De_everyone _ hm (cI_3 h)) rfl rfl rfl (fun r c1 hr => ?_)
        obtain ⟨rfl, hz⟩ := hr
        rw [hz]
        have hne : x ≠ y := fun q => by rw [q, hy1] at hx1; cases hx1
        refine mx_E_callV (sp_Ba_beats13 _ h6 hm (cI_b h) (cI_R h) hx (show y < a.1.1 by omega) hne (pwt _)) rfl rfl rfl (fun r c1 hr => ?_)
        obtain ⟨rfl, hz⟩ := hr
        rw [hz]
        refine mbF rfl (fun hb => ?_) (fun hb => ?_)
        · exact nxt (by unfold tpC; rw [hx1, hy1]; exact hb) 1
        · refine mR 1 rfl trivial ?_
          refine mx_E_zret rfl rfl (Or.inl rfl) (hno ?_)
          cases hT : tpIs (aB a) a.1.1 s with
          | false => rfl
          | true =>
            have z := mAll_iff.mp (mAll_iff.mp hT x hx) y (by omega)
            have z2 : tpC (aB a) s x y = true := z
            unfold tpC at z2
            rw [hx1, hy1] at z2
            have z3 : aB a x y = true := z2
            rw [show aB a x y = false from hb] at z3
            cases z3
theorem lp_De_bR {Q : Option Value → mx_M → Prop} {c : mx_M} {a : mSt} {s : Nat} (h : cI c a) (hs : s < 64) (hq : Q (some (.int (mz (tpIs (aB a) a.1.1 s)))) c) :
    ∀ (t x : Nat), x + t = a.1.1 → (∀ i, i < x → ∀ j, j < a.1.1 → tpC (aB a) s i j = true) → mx_E 0 3 m_De_beatsTheRest Q 2 [.ref 0, .int (nI s), .int (nI x), .null, .null] [] c
  | 0, x, e, hx => by
    have h6 := (cI_nm h).1.2
    have e1 : x = a.1.1 := by omega
    subst e1
    refine mR 4 rfl trivial ?_
    rw [cI_2 h]
    refine mbGe _ _ rfl (by omega) (by omega) (fun _ => ?_) (fun z => absurd z (Nat.lt_irrefl _))
    refine mR 1 rfl trivial ?_
    refine mx_E_zret rfl rfl (Or.inr rfl) ?_
    have z : tpIs (aB a) a.1.1 s = true := mAll_iff.mpr (fun i hi => mAll_iff.mpr (hx i hi))
    rw [z] at hq
    exact hq
  | t + 1, x, e, hx => by
    have h6 := (cI_nm h).1.2
    refine mR 4 rfl trivial ?_
    rw [cI_2 h]
    refine mbGe _ _ rfl (by omega) (by omega) (fun z => by omega) (fun _ => ?_)
    refine mR 2 rfl trivial ?_
    refine lp_De_bR_in h hs (show x < a.1.1 by omega) (fun z => by rw [z] at hq; exact hq) (fun hall => ?_) a.1.1 0 (by omega) (fun j hj => absurd hj (Nat.not_lt_zero j))
    refine mR 2 rfl trivial ?_
    refine mW (lp_De_bR h hs hq t (x + 1) (by omega) (fun i hi => ?_)) ⟨Or.inr rfl, Or.inr rfl, Or.inr (by rw [nI_1]), Or.inl rfl, Or.inl rfl, trivial⟩ rfl rfl
    rcases Nat.lt_or_eq_of_le (Nat.le_of_lt_succ hi) with q | q
    · exact hx i q
    · rw [q]; exact hall
theorem sp_De_beatsTheRest (c : mx_M) {a : mSt} {s : Nat} (h : cI c a) (hs : s < 64) : mx_Spec 0 3 m_De_beatsTheRest [.ref 0, .int (nI s)] c (fun r c' => r = some (.int (mz (tpIs (aB a) a.1.1 s))) ∧ c' = c) := by
  refine mx_Spec_E rfl rfl rfl ?_
  refine mR 2 rfl trivial ?_
  exact lp_De_bR h hs ⟨rfl, rfl⟩ a.1.1 0 (by omega) (fun i hi => absurd hi (Nat.not_lt_zero i))
theorem tpS_pop (B : Nat → Nat → Bool) (n : Nat) : ∀ k, mpop (tpS B n k) ≤ mpop (2 ^ n - 1)
  | 0 => Nat.le_refl _
  | k + 1 => by
    have ih := tpS_pop B n k
    show mpop (if 0 < k ∧ tpIs B n k = true ∧ mpop k < mpop (tpS B n k) then k else tpS B n k) ≤ _
    split
    · rename_i z
      have := z.2.2
      omega
    · exact ih
theorem tpS_last {B : Nat → Nat → Bool} {n : Nat} : tpS B n (2 ^ n) = tpS B n (2 ^ n - 1) := by
  have hp := Nat.two_pow_pos n
  obtain ⟨k, hk⟩ : ∃ k, 2 ^ n = k + 1 := ⟨2 ^ n - 1, by omega⟩
  have hp := tpS_pop B n k
  rw [hk, Nat.add_sub_cancel] at *
  show (if 0 < k ∧ tpIs B n k = true ∧ mpop k < mpop (tpS B n k) then k else tpS B n k) = _
  rw [if_neg (fun z => absurd z.2.2 (by omega))]
theorem pw1n {n : Nat} (h : mn n) : ((1 : Int32) <<< (nI n &&& 31)) - 1 = nI (2 ^ n - 1) := pw1 (by have := h.2; omega)
theorem lp_De_top {Q : Option Value → mx_M → Prop} {c : mx_M} {a : mSt} (h : cI c a) (hq : Q (some (.int (nI (aTop a)))) c) :
    ∀ (t k : Nat), k + t = 2 ^ a.1.1 - 1 → 1 ≤ k → mx_E 0 4 m_De_top Q 12 [.ref 0, .int (nI (2 ^ a.1.1 - 1)), .int (nI (tpS (aB a) a.1.1 k)), .int (nI k)] [] c
  | 0, k, e, h1 => by
    have hn := (cI_nm h).1
    have h64 : 2 ^ a.1.1 ≤ 64 := Nat.pow_le_pow_right (show 0 < 2 by decide) hn.2
    have e1 : k = 2 ^ a.1.1 - 1 := by omega
    refine mR 2 rfl trivial ?_
    refine mbGe _ _ rfl (by omega) (by omega) (fun _ => ?_) (fun z => by omega)
    refine mR 1 rfl trivial ?_
    refine mx_E_iret rfl rfl ?_
    rw [e1, ← tpS_last]
    exact hq
  | t + 1, k, e, h1 => by
    have hn := (cI_nm h).1
    have h64 : 2 ^ a.1.1 ≤ 64 := Nat.pow_le_pow_right (show 0 < 2 by decide) hn.2
    have hb := tpS_lt (B := aB a) hn k (by omega)
    have p1 := mpop_le k
    have p2 := mpop_le (tpS (aB a) a.1.1 k)
    have nxt : ∀ v : Nat, v = tpS (aB a) a.1.1 (k + 1) → mx_E 0 4 m_De_top Q 26 [.ref 0, .int (nI (2 ^ a.1.1 - 1)), .int (nI v), .int (nI k)] [] c := by
      intro v hv
      refine mR 2 rfl trivial ?_
      refine mS (lp_De_top h hq t (k + 1) (by omega) (by omega)) ?_ rfl rfl
      rw [hv, nI_1]
    have hs : tpS (aB a) a.1.1 (k + 1) = if 0 < k ∧ tpIs (aB a) a.1.1 k = true ∧ mpop k < mpop (tpS (aB a) a.1.1 k) then k else tpS (aB a) a.1.1 k := rfl
    refine mR 2 rfl trivial ?_
    refine mbGe _ _ rfl (by omega) (by omega) (fun z => by omega) (fun _ => ?_)
    refine mR 1 rfl trivial ?_
    refine mx_E_callS (sp_In_bitCount _ k (by omega)) rfl rfl rfl (fun r c1 hr => ?_)
    obtain ⟨rfl, hz⟩ := hr
    rw [hz]
    refine mR 1 rfl trivial ?_
    refine mx_E_callS (sp_In_bitCount _ _ (show tpS (aB a) a.1.1 k < 512 by omega)) rfl rfl rfl (fun r c1 hr => ?_)
    obtain ⟨rfl, hz⟩ := hr
    rw [hz]
    refine mbGe _ _ rfl (by omega) (by omega) (fun z => ?_) (fun z => ?_)
    · exact nxt _ (by rw [hs, if_neg (fun q => absurd q.2.2 (by omega))])
    · refine mR 2 rfl trivial ?_
      refine mx_E_callV (sp_De_beatsTheRest _ h (show k < 64 by omega)) rfl rfl rfl (fun r c1 hr => ?_)
      obtain ⟨rfl, hz⟩ := hr
      rw [hz]
      refine mbT rfl (fun hb => ?_) (fun hb => ?_)
      · exact nxt _ (by rw [hs, if_neg (fun q => by rw [hb] at q; cases q.2.1)])
      · refine mR 2 rfl trivial ?_
        exact nxt _ (by rw [hs, if_pos ⟨h1, hb, z⟩])
theorem sp_De_top (c : mx_M) {a : mSt} (h : cI c a) : mx_Spec 0 4 m_De_top [.ref 0] c (fun r c' => r = some (.int (nI (aTop a))) ∧ c' = c) := by
  have hn := (cI_nm h).1
  have h4 : 2 ^ 2 ≤ 2 ^ a.1.1 := Nat.pow_le_pow_right (show 0 < 2 by decide) hn.1
  refine mx_Spec_E rfl rfl rfl ?_
  refine mR 7 rfl trivial ?_
  rw [cI_2 h, pw1n hn]
  refine mR 5 rfl trivial ?_
  refine mS (lp_De_top (Q := fun r c' => r = some (.int (nI (aTop a))) ∧ c' = c) h ⟨rfl, rfl⟩ (2 ^ a.1.1 - 2) 1 (by omega) (by omega)) ?_ rfl rfl
  rw [show tpS (aB a) a.1.1 1 = 2 ^ a.1.1 - 1 from if_neg (fun z => absurd z.1 (by decide))]
  rfl
/-- the lowest of a set, in the JDK -/
theorem sp_In_ntz (c : mx_M) (k : Nat) (hk : k < 6) : mx_Spec 0 1 m_In_numberOfTrailingZeros [.int (nI (2 ^ k))] c (fun r c' => r = some (.int (nI k)) ∧ c' = c) := by
  rcases (show k = 0 ∨ k = 1 ∨ k = 2 ∨ k = 3 ∨ k = 4 ∨ k = 5 by omega) with rfl | rfl | rfl | rfl | rfl | rfl
  · refine mx_Spec_E rfl rfl rfl ?_
    refine mR 9 rfl trivial ?_
    refine mx_E_br rfl rfl (fun z => absurd z (by decide)) (fun _ => ?_)
    refine mR 3 rfl trivial ?_
    exact mx_E_iret rfl rfl ⟨by decide, rfl⟩
  · refine mx_Spec_E rfl rfl rfl ?_
    refine mR 9 rfl trivial ?_
    refine mx_E_br rfl rfl (fun _ => ?_) (fun z => absurd (by decide) z)
    refine mR 4 rfl trivial ?_
    refine mx_E_br rfl rfl (fun _ => ?_) (fun z => absurd (by decide) z)
    refine mR 2 rfl trivial ?_
    refine mx_E_br rfl rfl (fun _ => ?_) (fun z => absurd (by decide) z)
    refine mR 2 rfl trivial ?_
    refine mx_E_br rfl rfl (fun _ => ?_) (fun z => absurd (by decide) z)
    refine mR 2 rfl trivial ?_
    refine mx_E_br rfl rfl (fun _ => ?_) (fun z => absurd (by decide) z)
    refine mR 5 rfl trivial ?_
    exact mx_E_iret rfl rfl ⟨by decide, rfl⟩
  · refine mx_Spec_E rfl rfl rfl ?_
    refine mR 9 rfl trivial ?_
    refine mx_E_br rfl rfl (fun _ => ?_) (fun z => absurd (by decide) z)
    refine mR 4 rfl trivial ?_
    refine mx_E_br rfl rfl (fun _ => ?_) (fun z => absurd (by decide) z)
    refine mR 2 rfl trivial ?_
    refine mx_E_br rfl rfl (fun _ => ?_) (fun z => absurd (by decide) z)
    refine mR 2 rfl trivial ?_
    refine mx_E_br rfl rfl (fun _ => ?_) (fun z => absurd (by decide) z)
    refine mR 2 rfl trivial ?_
    refine mx_E_br rfl rfl (fun _ => ?_) (fun z => absurd (by decide) z)
    refine mR 5 rfl trivial ?_
    exact mx_E_iret rfl rfl ⟨by decide, rfl⟩
  · refine mx_Spec_E rfl rfl rfl ?_
    refine mR 9 rfl trivial ?_
    refine mx_E_br rfl rfl (fun _ => ?_) (fun z => absurd (by decide) z)
    refine mR 4 rfl trivial ?_
    refine mx_E_br rfl rfl (fun _ => ?_) (fun z => absurd (by decide) z)
    refine mR 2 rfl trivial ?_
    refine mx_E_br rfl rfl (fun _ => ?_) (fun z => absurd (by decide) z)
    refine mR 2 rfl trivial ?_
    refine mx_E_br rfl rfl (fun _ => ?_) (fun z => absurd (by decide) z)
    refine mR 2 rfl trivial ?_
    refine mx_E_br rfl rfl (fun z => absurd z (by decide)) (fun _ => ?_)
    refine mR 10 rfl trivial ?_
    exact mx_E_iret rfl rfl ⟨by decide, rfl⟩
  · refine mx_Spec_E rfl rfl rfl ?_
    refine mR 9 rfl trivial ?_
    refine mx_E_br rfl rfl (fun _ => ?_) (fun z => absurd (by decide) z)
    refine mR 4 rfl trivial ?_
    refine mx_E_br rfl rfl (fun _ => ?_) (fun z => absurd (by decide) z)
    refine mR 2 rfl trivial ?_
    refine mx_E_br rfl rfl (fun _ => ?_) (fun z => absurd (by decide) z)
    refine mR 2 rfl trivial ?_
    refine mx_E_br rfl rfl (fun _ => ?_) (fun z => absurd (by decide) z)
    refine mR 2 rfl trivial ?_
    refine mx_E_br rfl rfl (fun z => absurd z (by decide)) (fun _ => ?_)
    refine mR 10 rfl trivial ?_
    exact mx_E_iret rfl rfl ⟨by decide, rfl⟩
  · refine mx_Spec_E rfl rfl rfl ?_
    refine mR 9 rfl trivial ?_
    refine mx_E_br rfl rfl (fun _ => ?_) (fun z => absurd (by decide) z)
    refine mR 4 rfl trivial ?_
    refine mx_E_br rfl rfl (fun _ => ?_) (fun z => absurd (by decide) z)
    refine mR 2 rfl trivial ?_
    refine mx_E_br rfl rfl (fun _ => ?_) (fun z => absurd (by decide) z)
    refine mR 2 rfl trivial ?_
    refine mx_E_br rfl rfl (fun z => absurd z (by decide)) (fun _ => ?_)
    refine mR 7 rfl trivial ?_
    refine mx_E_br rfl rfl (fun _ => ?_) (fun z => absurd (by decide) z)
    refine mR 5 rfl trivial ?_
    exact mx_E_iret rfl rfl ⟨by decide, rfl⟩
theorem one_bit0 : ∀ s, s < 64 → mpop s = 1 → fa_first (fun i => s.testBit i) 6 < 6 ∧ s = 2 ^ fa_first (fun i => s.testBit i) 6 := by decide +kernel
theorem sp_De_beatsAllOthers (c : mx_M) {a : mSt} (h : cI c a) : mx_Spec 0 5 m_De_beatsAllOthers [.ref 0] c (fun r c' => r = some (.int (if mpop (aTop a) = 1 then nI (fa_first (fun i => (aTop a).testBit i) 6) else -9)) ∧ c' = c) := by
  have hn := (cI_nm h).1
  have ht := aTop_lt hn
  have hp := mpop_le (aTop a)
  refine mx_Spec_E rfl rfl rfl ?_
  refine mR 1 rfl trivial ?_
  refine mx_E_callV (sp_De_top _ h) rfl rfl rfl (fun r c1 hr => ?_)
  obtain ⟨rfl, hz⟩ := hr
  rw [hz]
  refine mR 2 rfl trivial ?_
  refine mx_E_callS (sp_In_bitCount _ _ (show aTop a < 512 by omega)) rfl rfl rfl (fun r c1 hr => ?_)
  obtain ⟨rfl, hz⟩ := hr
  rw [hz]
  refine mR 1 rfl trivial ?_
  rw [show (1 : Int32) = nI 1 from rfl]
  refine mbNe _ _ rfl (by omega) (by decide) (fun z => ?_) (fun z => ?_)
  · refine mR 1 rfl trivial ?_
    refine mx_E_iret rfl rfl ⟨?_, rfl⟩
    rw [if_neg z]
  · refine mR 1 rfl trivial ?_
    obtain ⟨q1, q2⟩ := one_bit0 (aTop a) ht.2 z
    rw [if_pos z]
    obtain ⟨f, hf⟩ : ∃ f, f = fa_first (fun i => (aTop a).testBit i) 6 := ⟨_, rfl⟩
    rw [← hf] at q1 q2 ⊢
    rw [q2]
    refine mx_E_callS (sp_In_ntz _ f q1) rfl rfl rfl (fun r c1 hr => ?_)
    obtain ⟨rfl, hz⟩ := hr
    rw [hz]
    refine mR 1 rfl trivial ?_
    exact mx_E_iret rfl rfl ⟨rfl, rfl⟩
theorem dc_now : decode (mx_code m_De_now) (mx_pc m_De_now 1) = .ok (.tableswitch 96 0 5 #[39, 47, 52, 57, 74, 91], 39) := by decide +kernel
theorem qc_now {c : mx_M} {a : mSt} (x : Int32) (h : cI c a) : mx_Spec 0 6 m_De_now [.ref 0, .int x] c (fun r c' => r = some (.int (aNow a x).1) ∧ cI c' (aNow a x).2) := by
  obtain ⟨hn, hm⟩ := cI_nm h
  have hT := cI_T h
  have hk : 0 < aD a := hT.2.1.1
  refine mx_Spec_E rfl rfl rfl ?_
  refine mR 1 rfl trivial ?_
  cases hx : mi x 6 with
  | true =>
    obtain ⟨j, hj, rfl⟩ := mi_of (by decide) hx
    rcases (show j = 0 ∨ j = 1 ∨ j = 2 ∨ j = 3 ∨ j = 4 ∨ j = 5 by omega) with rfl | rfl | rfl | rfl | rfl | rfl
    · refine mx_E_tin (t := 2) (off := 39) dc_now (by decide) (by decide) (by decide +kernel) (by decide +kernel) ?_
      refine mR 3 rfl trivial ?_
      rw [hT.1]
      exact mx_E_iret rfl rfl ⟨rfl, h⟩
    · refine mx_E_tin (t := 6) (off := 47) dc_now (by decide) (by decide) (by decide +kernel) (by decide +kernel) ?_
      refine mR 1 rfl trivial ?_
      refine mx_E_callV (sp_De_top _ h) rfl rfl rfl (fun r c1 hr => ?_)
      obtain ⟨rfl, hz⟩ := hr
      rw [hz]
      exact mx_E_iret rfl rfl ⟨rfl, h⟩
    · refine mx_E_tin (t := 9) (off := 52) dc_now (by decide) (by decide) (by decide +kernel) (by decide +kernel) ?_
      refine mR 1 rfl trivial ?_
      refine mx_E_callV (sp_De_beatsAllOthers _ h) rfl rfl rfl (fun r c1 hr => ?_)
      obtain ⟨rfl, hz⟩ := hr
      rw [hz]
      exact mx_E_iret rfl rfl ⟨rfl, h⟩
    · refine mx_E_tin (t := 12) (off := 57) dc_now (by decide) (by decide) (by decide +kernel) (by decide +kernel) ?_
      refine mR 6 rfl trivial ?_
      refine mx_E_callV (sp_De_everyone _ hm (cI_3 h)) rfl rfl rfl (fun r c1 hr => ?_)
      obtain ⟨rfl, hz⟩ := hr
      rw [hz]
      refine mx_E_callV (sp_Ba_sincere13 _ hT hn.2 hm (cI_b h) (pw_lt hm) hk) rfl rfl rfl (fun r c1 hr => ?_)
      obtain ⟨rfl, hz⟩ := hr
      rw [hz]
      exact mx_E_iret rfl rfl ⟨rfl, h⟩
    · refine mx_E_tin (t := 21) (off := 74) dc_now (by decide) (by decide) (by decide +kernel) (by decide +kernel) ?_
      refine mR 6 rfl trivial ?_
      refine mx_E_callV (sp_De_everyone _ hm (cI_3 h)) rfl rfl rfl (fun r c1 hr => ?_)
      obtain ⟨rfl, hz⟩ := hr
      rw [hz]
      refine mx_E_callV (sp_Ba_foreseen13 _ hT hn.2 hm (cI_b h) (cI_R h) (pwt _) hk) rfl rfl rfl (fun r c1 hr => ?_)
      obtain ⟨rfl, hz⟩ := hr
      exact mx_E_iret rfl rfl ⟨rfl, cI_fr h (mfr_mo hz (by decide))⟩
    · refine mx_E_tin (t := 30) (off := 91) dc_now (by decide) (by decide) (by decide +kernel) (by decide +kernel) ?_
      refine mR 2 rfl trivial ?_
      rw [h.1.2.2.2.2.1.1]
      exact mx_E_iret rfl rfl ⟨rfl, h⟩
  | false =>
    refine mx_E_tout (t := 33) dc_now (by have := mi_out (by decide) hx; omega) (by decide +kernel) ?_
    refine mR 1 rfl trivial ?_
    refine mx_E_iret rfl rfl ⟨?_, h⟩
    unfold aNow
    rw [if_neg (show ¬ x = 0 from mi_ne (j := 0) (by decide) (by decide) hx), if_neg (show ¬ x = 1 from mi_ne (j := 1) (by decide) (by decide) hx), if_neg (show ¬ x = 2 from mi_ne (j := 2) (by decide) (by decide) hx), if_neg (show ¬ x = 3 from mi_ne (j := 3) (by decide) (by decide) hx), if_neg (show ¬ x = 4 from mi_ne (j := 4) (by decide) (by decide) hx), if_neg (show ¬ x = 5 from mi_ne (j := 5) (by decide) (by decide) hx)]
