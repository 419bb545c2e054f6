theorem sg_no {x : Int32} (h : isSg x = true) : ¬ x < 0 ∧ dgt x = false ∧ ¬ x = 59 := by
  unfold isSg at h
  simp only [Bool.or_eq_true, decide_eq_true_eq] at h
  rcases h with h | h | h | h | h
  · refine ⟨ge0 (Int32.le_trans (by decide) h.1), decide_eq_false (fun z => ?_), fun z => ?_⟩
    · exact absurd (Int32.le_trans h.1 z.2) (by decide)
    · rw [z] at h
      exact absurd h.1 (by decide)
  · rw [h]; decide
  · rw [h]; decide
  · rw [h]; decide
  · rw [h]; decide
theorem kd_sg {x : pX} {q : Nat} : tKd x q = 1 ↔ isSg (tC x q) = true := by
  constructor
  · intro h
    unfold tKd at h
    by_cases e1 : tC x q < 0
    · rw [if_pos e1] at h; cases h
    · rw [if_neg e1] at h
      by_cases e2 : dgt (tC x q) = true
      · rw [if_pos e2] at h
        split at h <;> cases h
      · rw [if_neg e2] at h
        by_cases e3 : tC x q = 59
        · rw [if_pos e3] at h; cases h
        · rw [if_neg e3] at h
          by_cases e4 : isSg (tC x q) = true
          · exact e4
          · rw [if_neg e4] at h; cases h
  · intro h
    obtain ⟨h1, h2, h3⟩ := sg_no h
    unfold tKd
    rw [if_neg h1, if_neg (by rw [h2]; decide), if_neg h3, if_pos h]
theorem kd_lt (x : pX) (q : Nat) : tKd x q < 5 := by
  unfold tKd
  repeat' split
  all_goals decide
theorem kd_0 {x : pX} {q : Nat} (hv : pVal x) : tKd x q = 0 ↔ tC x q = -1 := by
  constructor
  · intro h
    unfold tKd at h
    by_cases e1 : tC x q < 0
    · exact tC_neg hv e1
    · rw [if_neg e1] at h
      by_cases e2 : dgt (tC x q) = true
      · rw [if_pos e2] at h
        split at h <;> cases h
      · rw [if_neg e2] at h
        split at h
        · cases h
        · split at h <;> cases h
  · intro h
    unfold tKd
    rw [h]
    rfl
theorem kd_3 {x : pX} {q : Nat} : tKd x q = 3 ↔ tC x q = 59 := by
  constructor
  · intro h
    unfold tKd at h
    by_cases e1 : tC x q < 0
    · rw [if_pos e1] at h; cases h
    · rw [if_neg e1] at h
      by_cases e2 : dgt (tC x q) = true
      · rw [if_pos e2] at h
        split at h <;> cases h
      · rw [if_neg e2] at h
        by_cases e3 : tC x q = 59
        · exact e3
        · rw [if_neg e3] at h
          split at h <;> cases h
  · intro h
    unfold tKd
    rw [h]
    rfl
theorem tN_le (x : pX) (q : Nat) : tN x q ≤ 100 := by
  unfold tN
  split
  · exact Nat.le_refl _
  · rename_i h
    have : ¬ 99 < nU x (tS x q) 0 := fun z => h (Or.inl z)
    omega
theorem kd_2 {x : pX} {q : Nat} : tKd x q = 2 ↔ dgt (tC x q) = true ∧ tN x q ≤ 99 := by
  constructor
  · intro h
    unfold tKd at h
    by_cases e1 : tC x q < 0
    · rw [if_pos e1] at h; cases h
    · rw [if_neg e1] at h
      by_cases e2 : dgt (tC x q) = true
      · rw [if_pos e2] at h
        by_cases e3 : tN x q ≤ 99
        · exact ⟨e2, e3⟩
        · rw [if_neg e3] at h; cases h
      · rw [if_neg e2] at h
        split at h
        · cases h
        · split at h <;> cases h
  · intro h
    unfold tKd
    have e1 : ¬ tC x q < 0 := by
      obtain ⟨d, hd, e⟩ := dg_of h.1
      rw [e]
      exact ge0 (nI_pos' (by omega))
    rw [if_neg e1, if_pos h.1, if_pos h.2]
theorem tC_ix {x : pX} {q : Nat} (hv : pVal x) : tC x q = -1 ∨ ∃ j, j < 256 ∧ tC x q = nI j := by
  unfold tC pLt
  split
  · rename_i h
    exact Or.inr (mi_of (by decide) (hv _ h))
  · exact Or.inl rfl
theorem mt_ck : ∀ n, n < 7 → ∀ j, j < 256 → decide ((97 : Int32) ≤ nI j ∧ nI j ≤ 97 + nI n - 1) = mi (nI j - 97) n := by decide +kernel
theorem mt_sg : ∀ j, j < 256 → mi (nI j - 97) 6 = true → isSg (nI j) = true := by decide +kernel
theorem mt_m1 : ∀ n, n < 7 → mi (-1 - 97) n = false := by decide +kernel
theorem mi_mono {x : Int32} {n m : Nat} (h : n ≤ m) (hm : m < 2147483648) (hx : mi x n = true) : mi x m = true := by
  obtain ⟨j, hj, rfl⟩ := mi_of (by omega) hx
  exact mi_t (by omega) hm
theorem pMt_sg {x : pX} {q n : Nat} (hv : pVal x) (hn : n ≤ 6) (h : (pMt n (tC x q)).isSome = true) : isSg (tC x q) = true := by
  unfold pMt at h
  have h1 : mi (tC x q - 97) n = true := by
    by_cases e : mi (tC x q - 97) n = true
    · exact e
    · rw [if_neg e] at h; cases h
  rcases tC_ix (q := q) hv with e | ⟨j, hj, e⟩
  · rw [e, mt_m1 n (by omega)] at h1; cases h1
  · rw [e] at h1 ⊢
    exact mt_sg j hj (mi_mono hn (by decide) h1)
theorem sp_Mo_isWell (c : mx_M) (v : Int32) (h : c 0 7 = v) : mx_Spec 1 1 m_Mo_isWell [.ref 0] c (fun r c' => r = some (.int (mz (decide (v < 0)))) ∧ c' = c) := by
  refine mx_Spec_E rfl rfl rfl ?_
  refine mR 2 rfl trivial ?_
  rw [h]
  refine mx_E_br rfl rfl (fun hc => ?_) (fun hc => ?_)
  · refine mR 1 rfl trivial ?_
    refine mx_E_zret rfl rfl (Or.inl rfl) ⟨?_, rfl⟩
    rw [decide_eq_false (ge0 hc)]
    rfl
  · refine mR 2 rfl trivial ?_
    refine mx_E_zret rfl rfl (Or.inr rfl) ⟨?_, rfl⟩
    have : v < 0 := by
      rcases Int32.lt_or_le v 0 with z | z
      · exact z
      · exact absurd z hc
    rw [decide_eq_true this]
    rfl
theorem sp_Mo_well (c : mx_M) (h : c 0 7 = -1) : mx_Spec 1 1 m_Mo_isWell [.ref 0] c (fun r c' => r = some (.int (mz true)) ∧ c' = c) := sp_Mo_isWell c (-1) h
theorem sp_Mo_ill (c : mx_M) {e : Nat} (he : e < 1000) (h : c 0 7 = nI e) : mx_Spec 1 1 m_Mo_isWell [.ref 0] c (fun r c' => r = some (.int (mz false)) ∧ c' = c) := by
  have z := sp_Mo_isWell c (nI e) h
  rw [decide_eq_false (ge0 (nI_pos' (by omega)))] at z
  exact z
theorem sp_Mo_takesT (c : mx_M) {x : pX} {q : Nat} (hx : rTx c x) (ht : rTok c x q) (hq : q ≤ x.1) (h7 : c 0 7 = -1) : mx_Spec 1 4 m_Mo_takes [.ref 0, .int (mz true)] c (fun r c' => r = some (.int (c 0 6)) ∧ rFr [] [3, 4, 5, 6] c c' ∧ rTok c' x (tE x q)) := by
  refine mx_Spec_E rfl rfl rfl ?_
  refine mR 1 rfl trivial ?_
  refine mx_E_callV (sp_Mo_well _ h7) rfl rfl rfl (fun r c1 hr => ?_)
  obtain ⟨rfl, hz⟩ := hr
  rw [hz]
  refine mbF rfl (fun _ => ?_) (fun h => by cases h)
  refine mR 1 rfl trivial ?_
  refine mbF rfl (fun _ => ?_) (fun h => by cases h)
  refine mR 4 rfl trivial ?_
  refine mx_E_callV (sp_Mo_advances _ hx (tE_le hq).2.1 ht.1) rfl rfl rfl (fun r c1 hr => ?_)
  obtain ⟨rfl, hf, hk⟩ := hr
  refine mR 1 rfl trivial ?_
  exact mx_E_iret rfl rfl ⟨rfl, hf, hk⟩
theorem sp_Mo_takesF (c : mx_M) {x : pX} {q : Nat} (ht : rTok c x q) (h7 : c 0 7 = -1) : mx_Spec 1 4 m_Mo_takes [.ref 0, .int (mz false)] c (fun r c' => r = some (.int (nI 0)) ∧ c' = mx_up c 0 7 (nI (tS x q))) := by
  refine mx_Spec_E rfl rfl rfl ?_
  refine mR 1 rfl trivial ?_
  refine mx_E_callV (sp_Mo_well _ h7) rfl rfl rfl (fun r c1 hr => ?_)
  obtain ⟨rfl, hz⟩ := hr
  rw [hz]
  refine mbF rfl (fun _ => ?_) (fun h => by cases h)
  refine mR 1 rfl trivial ?_
  refine mbF rfl (fun h => by cases h) (fun _ => ?_)
  refine mR 5 rfl trivial ?_
  rw [ht.2.1]
  exact mx_E_iret rfl rfl ⟨rfl, rfl⟩
theorem sp_Mo_takesN (c : mx_M) {e : Nat} {v : Int32} (he : e < 1000) (h7 : c 0 7 = nI e) : mx_Spec 1 4 m_Mo_takes [.ref 0, .int v] c (fun r c' => r = some (.int (nI 0)) ∧ c' = c) := by
  refine mx_Spec_E rfl rfl rfl ?_
  refine mR 1 rfl trivial ?_
  refine mx_E_callV (sp_Mo_ill _ he h7) rfl rfl rfl (fun r c1 hr => ?_)
  obtain ⟨rfl, hz⟩ := hr
  rw [hz]
  refine mbF rfl (fun h => by cases h) (fun _ => ?_)
  refine mR 1 rfl trivial ?_
  exact mx_E_iret rfl rfl ⟨rfl, rfl⟩
theorem sp_Mo_isMotionSign (c : mx_M) {x : pX} {q n : Nat} (hv : pVal x) (ht : rTok c x q) (hn : n ≤ 6) (h10 : c 0 10 = nI n) : mx_Spec 1 2 m_Mo_isMotionSign [.ref 0] c (fun r c' => r = some (.int (mz (pMt n (tC x q)).isSome)) ∧ c' = c) := by
  obtain ⟨t3, t5, t4, t6, t62⟩ := ht
  have hk := kd_lt x q
  refine mx_Spec_E rfl rfl rfl ?_
  refine mR 3 rfl trivial ?_
  rw [t4, show (1 : Int32) = nI 1 from rfl]
  refine mbNe _ _ rfl (by omega) (by decide) (fun hc => ?_) (fun hc => ?_)
  · refine mR 1 rfl trivial ?_
    refine mx_E_zret rfl rfl (Or.inl rfl) ⟨?_, rfl⟩
    have : (pMt n (tC x q)).isSome = false := by
      rw [Bool.eq_false_iff]
      exact fun z => hc (kd_sg.mpr (pMt_sg hv hn z))
    rw [this]
    rfl
  · refine mR 9 rfl trivial ?_
    rw [t6 hc, h10]
    refine mx_E_callS (sp_Mo_in _ _ _ _) rfl rfl rfl (fun r c1 hr => ?_)
    obtain ⟨rfl, hz⟩ := hr
    rw [hz]
    have key : decide ((97 : Int32) ≤ tC x q ∧ tC x q ≤ 97 + nI n - 1) = (pMt n (tC x q)).isSome := by
      unfold pMt
      rcases tC_ix (q := q) hv with e | ⟨j, hj, e⟩
      · have := kd_sg.mp hc
        rw [e] at this
        exact absurd this (by decide)
      · rw [e, mt_ck n (by omega) j hj]
        cases mi (nI j - 97) n <;> rfl
    rw [key]
    refine mbT rfl (fun hb => ?_) (fun hb => ?_)
    · rw [hb]
      refine mR 1 rfl trivial ?_
      exact mx_E_zret rfl rfl (Or.inl rfl) ⟨rfl, rfl⟩
    · rw [hb]
      refine mR 2 rfl trivial ?_
      exact mx_E_zret rfl rfl (Or.inr rfl) ⟨rfl, rfl⟩
/-- read well, or where the fault is -/
def pRes {α : Type} (c : mx_M) (r : Except Nat α) (P : α → Prop) : Prop := match r with
  | .ok v => c 0 7 = -1 ∧ P v
  | .error e => c 0 7 = nI e ∧ e < 1000
theorem lp_Mo_readsRanking {Q : Option Value → mx_M → Prop} {c : mx_M} {x : pX} {n m : Nat} {r : Except Nat (Nat × (Nat → Nat))} (hn : n ≤ 6) (hm : m < 9) (hx : rTx c x) (h10 : c 0 10 = nI n) (h11 : c 0 11 = nI m)
    (hk : ∀ c2, rFr [2] [3, 4, 5, 6, 7] c c2 → (∀ z, (z < 6 * m ∨ 6 * m + n ≤ z) → c2 2 z = c 2 z) → pRes c2 r (fun v => rTok c2 x v.1 ∧ v.1 ≤ x.1 ∧ ∀ i, i < n → c2 2 (6 * m + i) = nI (v.2 i)) → mx_E 1 5 m_Mo_readsRanking Q 50 [.ref 0, .null, .null, .null] [] c2) :
    ∀ (t p u q : Nat) (f : Nat → Nat) (c1 : mx_M), p + t = n → u < 64 → q ≤ x.1 → rFr [2] [3, 4, 5, 6, 7] c c1 → (∀ z, (z < 6 * m ∨ 6 * m + n ≤ z) → c1 2 z = c 2 z) → rTok c1 x q → c1 0 7 = -1 → (∀ i, i < p → c1 2 (6 * m + i) = nI (f i)) → pRk x n t p u q f = r → mx_E 1 5 m_Mo_readsRanking Q 4 [.ref 0, .int (nI u), .int (nI p), .null] [] c1
  | 0, p, u, q, f, c1, hp, hu, hq, hf, ho, ht, h7, hi, hr => by
    have e : p = n := by omega
    rw [e] at hi
    rw [e]
    refine mR 3 rfl trivial ?_
    rw [hf.2 10 (by decide), h10]
    refine mbGe _ _ rfl (by omega) (by omega) (fun _ => ?_) (fun h => by omega)
    refine mW (hk c1 hf ho ?_) ⟨Or.inr rfl, Or.inl rfl, Or.inl rfl, Or.inl rfl, trivial⟩ rfl rfl
    rw [← hr]
    exact ⟨h7, ht, hq, hi⟩
  | t + 1, p, u, q, f, c1, hp, hu, hq, hf, ho, ht, h7, hi, hr => by
    have hx1 := rTx_fr hx hf (by decide) (by decide)
    have h120 := hx.2.1
    have hs := tS_le x hq
    have g10 : c1 0 10 = nI n := by rw [hf.2 10 (by decide)]; exact h10
    unfold pRk at hr
    refine mR 3 rfl trivial ?_
    rw [g10]
    refine mbGe _ _ rfl (by omega) (by omega) (fun h => by omega) (fun _ => ?_)
    refine mR 1 rfl trivial ?_
    refine mx_E_callV (sp_Mo_well _ h7) rfl rfl rfl (fun rr c2 hr2 => ?_)
    obtain ⟨rfl, hz⟩ := hr2
    rw [hz]
    refine mbT rfl (fun h => by cases h) (fun _ => ?_)
    refine mR 2 rfl trivial ?_
    refine mx_E_callV (sp_Mo_isMotionSign _ hx.2.2.2 ht hn g10) rfl rfl rfl (fun rr c2 hr2 => ?_)
    obtain ⟨rfl, hz⟩ := hr2
    rw [hz]
    have bad : r = .error (tS x q) → mx_E 1 5 m_Mo_readsRanking Q 24 [.ref 0, .int (nI u), .int (nI p), .null] [.ref 0] c1 := by
      intro hr
      refine mR 1 rfl trivial ?_
      refine mx_E_callV (sp_Mo_takesF _ ht h7) rfl rfl rfl (fun rr c2 hr2 => ?_)
      obtain ⟨rfl, hz⟩ := hr2
      have f7 : c2 0 7 = nI (tS x q) := by rw [hz, mx_up_same]
      have hf2 : rFr [2] [3, 4, 5, 6, 7] c c2 := by rw [hz]; exact rFr_up hf (by decide)
      have ho2 : ∀ z, (z < 6 * m ∨ 6 * m + n ≤ z) → c2 2 z = c 2 z := fun z h => by rw [hz, mx_up_id _ _ _ _ _ _ (by decide)]; exact ho z h
      refine mR 4 rfl trivial ?_
      refine mx_E_callV (sp_Mo_ill _ (by omega) f7) rfl rfl rfl (fun rr c3 hr2 => ?_)
      obtain ⟨rfl, hz3⟩ := hr2
      rw [hz3]
      refine mbT rfl (fun _ => ?_) (fun h => by cases h)
      have fin := hk c2 hf2 ho2 (by rw [hr]; exact ⟨f7, by omega⟩)
      refine mR 2 rfl trivial ?_
      refine mR 3 rfl trivial ?_
      rw [hf2.2 10 (by decide), h10, nI_1]
      refine mbGe _ _ rfl (by omega) (by omega) (fun _ => ?_) (fun _ => ?_)
      · exact mW fin ⟨Or.inr rfl, Or.inl rfl, Or.inl rfl, Or.inl rfl, trivial⟩ rfl rfl
      · refine mR 1 rfl trivial ?_
        refine mx_E_callV (sp_Mo_ill _ (by omega) f7) rfl rfl rfl (fun rr c3 hr2 => ?_)
        obtain ⟨rfl, hz3⟩ := hr2
        rw [hz3]
        refine mbT rfl (fun _ => ?_) (fun h => by cases h)
        exact mW fin ⟨Or.inr rfl, Or.inl rfl, Or.inl rfl, Or.inl rfl, trivial⟩ rfl rfl
    cases e : pMt n (tC x q) with
    | none =>
      rw [e] at hr
      refine mbT rfl (fun _ => ?_) (fun h => by cases h)
      exact bad hr.symm
    | some k =>
      rw [e] at hr
      dsimp only at hr
      obtain ⟨hkn, hke⟩ := pMt_lt (by omega) e
      have hsg := pMt_sg (q := q) hx.2.2.2 hn (by rw [e]; rfl)
      have hv6 : c1 0 6 = tC x q := ht.2.2.2.1 (kd_sg.mpr hsg)
      refine mbT rfl (fun h => by cases h) (fun _ => ?_)
      refine mR 5 rfl trivial ?_
      rw [hv6, hke]
      refine mx_E_callS (sp_Mo_has _ u k (by omega) (by omega)) rfl rfl rfl (fun rr c2 hr2 => ?_)
      obtain ⟨rfl, hz⟩ := hr2
      rw [hz]
      refine mbF rfl (fun hb => ?_) (fun hb => ?_)
      · rw [if_pos hb] at hr
        exact bad hr.symm
      · rw [if_neg (by rw [hb]; decide)] at hr
        refine mR 2 rfl trivial ?_
        refine mx_E_callV (sp_Mo_takesT _ hx1 ht hq h7) rfl rfl rfl (fun rr c2 hr2 => ?_)
        obtain ⟨rfl, hf2, ht2⟩ := hr2
        rw [hv6]
        have k7 : c2 0 7 = -1 := by rw [hf2.2 7 (by decide)]; exact h7
        have hfc : rFr [2] [3, 4, 5, 6, 7] c c2 := rFr_tr hf (rFr_mo hf2 (by decide) (by decide))
        refine mR 4 rfl trivial ?_
        refine mx_E_callV (sp_Mo_well _ k7) rfl rfl rfl (fun rr c3 hr2 => ?_)
        obtain ⟨rfl, hz⟩ := hr2
        rw [hz, hke]
        refine mbT rfl (fun h => by cases h) (fun _ => ?_)
        refine mR 16 rfl (mA1 (by rw [hfc.2 11 (by decide), h11, ix6]; exact mI (by omega))) ?_
        rw [hfc.2 11 (by decide), h11, ix6, nI_cl (a := 6 * m + p) (by omega), nI_shl1 (by omega), fa_or]
        refine mR 2 rfl trivial ?_
        rw [nI_1]
        have hu2 : u ||| 2 ^ k < 64 := Nat.or_lt_two_pow (n := 6) hu (Nat.lt_of_lt_of_le (Nat.pow_lt_pow_right (by decide) (show k < 6 by omega)) (by decide))
        have r2 : c2 2 = c1 2 := hf2.1 2 (by decide)
        refine mW (lp_Mo_readsRanking hn hm hx h10 h11 hk t (p + 1) (u ||| 2 ^ k) (tE x q) (fun i => if i = p then k else f i) (mx_up c2 2 (6 * m + p) (nI k)) (by omega) hu2 (tE_le hq).2.1 (rFr_row hfc (by decide) (by decide)) (fun z hz => ?_) (rTok_fr ht2 (rFr_row (S := [2]) (F := []) (rFr_rf _ _ _) (by decide) (by decide)) (by decide) (by decide) (by decide) (by decide)) (by rw [mx_up_id _ _ _ _ _ _ (by decide)]; exact k7) (fun i hi2 => ?_) hr) ⟨Or.inr rfl, Or.inr rfl, Or.inr rfl, Or.inl rfl, trivial⟩ rfl rfl
        · rw [mx_up_ix _ _ _ _ _ _ (by omega), r2]
          exact ho z hz
        · by_cases ei : i = p
          · rw [ei, mx_up_same, if_pos rfl]
          · rw [mx_up_ix _ _ _ _ _ _ (by omega), if_neg ei, r2]
            exact hi i (by omega)
theorem sp_Mo_readsRanking (c : mx_M) {x : pX} {n m q : Nat} (hn : n ≤ 6) (hm : m < 9) (hx : rTx c x) (h10 : c 0 10 = nI n) (h11 : c 0 11 = nI m) (hq : q ≤ x.1) (ht : rTok c x q) (h7 : c 0 7 = -1) : mx_Spec 1 5 m_Mo_readsRanking [.ref 0] c (fun r c' => r = none ∧ rFr [2] [3, 4, 5, 6, 7, 11] c c' ∧ (∀ z, (z < 6 * m ∨ 6 * m + n ≤ z) → c' 2 z = c 2 z) ∧ c' 0 11 = nI (m + 1) ∧ pRes c' (pRk x n n 0 0 q (fun _ => 0)) (fun v => rTok c' x v.1 ∧ v.1 ≤ x.1 ∧ ∀ i, i < n → c' 2 (6 * m + i) = nI (v.2 i))) := by
  refine mx_Spec_E rfl rfl rfl ?_
  refine mR 4 rfl trivial ?_
  refine lp_Mo_readsRanking hn hm hx h10 h11 (fun c2 hf ho hres => ?_) n 0 0 q (fun _ => 0) c (by omega) (by decide) hq (rFr_rf _ _ _) (fun _ _ => rfl) ht h7 (fun i hi => absurd hi (Nat.not_lt_zero i)) rfl
  refine mR 6 rfl trivial ?_
  rw [hf.2 11 (by decide), h11, nI_1]
  have fup : rFr [] [11] c2 (mx_up c2 0 11 (nI (m + 1))) := rFr_up (rFr_rf _ _ _) (by decide)
  refine mx_E_vret rfl rfl ⟨rfl, rFr_up (rFr_mo hf (by decide) (by decide)) (by decide), fun z hz => ?_, mx_up_same _ _ _ _, ?_⟩
  · rw [mx_up_id _ _ _ _ _ _ (by decide)]
    exact ho z hz
  · cases e : pRk x n n 0 0 q (fun _ => 0) with
    | error z =>
      rw [e] at hres
      exact ⟨by rw [mx_up_ix _ _ _ _ 0 7 (by decide)]; exact hres.1, hres.2⟩
    | ok v =>
      rw [e] at hres
      refine ⟨by rw [mx_up_ix _ _ _ _ 0 7 (by decide)]; exact hres.1, rTok_fr hres.2.1 fup (by decide) (by decide) (by decide) (by decide), hres.2.2.1, fun i hi => ?_⟩
      rw [mx_up_id _ _ _ _ _ _ (by decide)]
      exact hres.2.2.2 i hi
