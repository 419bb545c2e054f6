theorem lp_Mo_begins {Q : Option Value → mx_M → Prop} {c : mx_M} (hk : Q none (mx_upR c 2 (fa_fill (fun _ => 0) (c 2) 244))) :
    ∀ (u k : Nat), k + u = 244 → mx_E 1 1 m_Mo_begins Q 8 [.ref 0, .int (nI k)] [] (mx_upR c 2 (fa_fill (fun _ => 0) (c 2) k))
  | 0, k, h => by
    have e : k = 244 := by omega
    subst e
    refine mR 2 rfl trivial ?_
    refine mbGe 244 244 rfl (by decide) (by decide) (fun _ => ?_) (fun h => by omega)
    exact mx_E_vret rfl rfl hk
  | u + 1, k, h => by
    refine mR 2 rfl trivial ?_
    refine mbGe k 244 rfl (by omega) (by decide) (fun h => by omega) (fun _ => ?_)
    refine mR 7 rfl (mA1 (mI (by omega))) ?_
    rw [nI_cl (by omega), mx_up_put, nI_1, fa_fill_succ (fun _ => 0)]
    exact lp_Mo_begins hk u (k + 1) (by omega)
theorem sp_Mo_begins (c : mx_M) : mx_Spec 1 1 m_Mo_begins [.ref 0] c (fun r c' => r = none ∧ rFr [2] [10, 11] c c' ∧ c' 0 10 = nI 3 ∧ c' 0 11 = nI 0 ∧ ∀ z, z < 244 → c' 2 z = 0) := by
  refine mx_Spec_E rfl rfl rfl ?_
  refine mR 8 rfl trivial ?_
  have hf : rFr [2] [10, 11] c (mx_up (mx_up c 0 10 3) 0 11 0) := rFr_up (rFr_up (rFr_rf _ _ _) (by decide)) (by decide)
  refine mS (lp_Mo_begins ?_ 244 0 rfl) rfl rfl (by rw [fa_fill_0, mx_upR_self])
  refine ⟨rfl, ⟨fun r hr => ?_, fun k hk => ?_⟩, ?_, ?_, fun z hz => ?_⟩
  · rw [mx_upR_rid _ _ _ _ (fun e => hr (by rw [e]; decide))]
    exact hf.1 r hr
  · rw [mx_upR_rid _ _ _ 0 (by decide)]
    exact hf.2 k hk
  · rw [mx_upR_rid _ _ _ 0 (by decide), mx_up_ix _ _ _ _ _ _ (by decide), mx_up_same]
    rfl
  · rw [mx_upR_rid _ _ _ 0 (by decide), mx_up_same]
    rfl
  · rw [mx_upR_row, fa_fill_in hz]
def mMay (v : Int32) (it m d : Nat) : Bool := if v = 110 then decide (it = 0) else if v = 114 then decide (m < 9) else if v = 103 then decide (d = 0) else false
theorem sp_Mo_mayBegin (c : mx_M) {v : Int32} {it m d : Nat} (h6 : c 0 6 = v) (h11 : c 0 11 = nI m) (h54 : c 2 54 = nI d) (hm : m < 1000) (hd : d < 1000) (hi : it < 1000) : mx_Spec 1 1 m_Mo_mayBegin [.ref 0, .int (nI it)] c (fun r c' => r = some (.int (mz (mMay v it m d))) ∧ c' = c) := by
  have zT : ∀ (t : Bool) (j : Nat), mMay v it m d = t → mx_ft m_Mo_mayBegin j = mx_ft m_Mo_mayBegin 34 → True := fun _ _ _ _ => trivial
  refine mx_Spec_E rfl rfl rfl ?_
  refine mR 3 rfl trivial ?_
  rw [h6]
  refine mx_E_br rfl rfl (fun h1 => ?_) (fun h1 => ?_)
  · refine mR 3 rfl trivial ?_
    rw [h6]
    refine mx_E_br rfl rfl (fun h2 => ?_) (fun h2 => ?_)
    · refine mR 3 rfl trivial ?_
      rw [h6]
      refine mx_E_br rfl rfl (fun h3 => ?_) (fun h3 => ?_)
      · refine mR 1 rfl trivial ?_
        refine mx_E_zret rfl rfl (Or.inl rfl) ⟨?_, rfl⟩
        unfold mMay
        rw [if_neg h1, if_neg h2, if_neg h3]
        rfl
      · have e3 := Decidable.not_not.mp h3
        refine mR 4 rfl (mA1 (mI (n := 54) (by decide))) ?_
        rw [c54, h54]
        by_cases ed : d = 0
        · subst ed
          refine mx_E_br rfl rfl (fun h => absurd rfl h) (fun _ => ?_)
          refine mR 2 rfl trivial ?_
          refine mx_E_zret rfl rfl (Or.inr rfl) ⟨?_, rfl⟩
          unfold mMay
          rw [if_neg h1, if_neg h2, if_pos e3]
          rfl
        · refine mx_E_br rfl rfl (fun _ => ?_) (fun h => absurd (nI_ne0 (by omega) (by omega)) h)
          refine mR 1 rfl trivial ?_
          refine mx_E_zret rfl rfl (Or.inl rfl) ⟨?_, rfl⟩
          unfold mMay
          rw [if_neg h1, if_neg h2, if_pos e3, decide_eq_false ed]
          rfl
    · have e2 := Decidable.not_not.mp h2
      refine mR 3 rfl trivial ?_
      rw [h11, show (9 : Int32) = nI 9 from rfl]
      refine mbGe _ _ rfl (by omega) (by decide) (fun hc => ?_) (fun hc => ?_)
      · refine mR 2 rfl trivial ?_
        refine mx_E_zret rfl rfl (Or.inl rfl) ⟨?_, rfl⟩
        unfold mMay
        rw [if_neg h1, if_pos e2, decide_eq_false (by omega)]
        rfl
      · refine mR 2 rfl trivial ?_
        refine mx_E_zret rfl rfl (Or.inr rfl) ⟨?_, rfl⟩
        unfold mMay
        rw [if_neg h1, if_pos e2, decide_eq_true hc]
        rfl
  · have e1 := Decidable.not_not.mp h1
    refine mR 1 rfl trivial ?_
    by_cases ei : it = 0
    · subst ei
      refine mx_E_br rfl rfl (fun h => absurd rfl h) (fun _ => ?_)
      refine mR 2 rfl trivial ?_
      refine mx_E_zret rfl rfl (Or.inr rfl) ⟨?_, rfl⟩
      unfold mMay
      rw [if_pos e1]
      rfl
    · refine mx_E_br rfl rfl (fun _ => ?_) (fun h => absurd (nI_ne0 (by omega) (by omega)) h)
      refine mR 2 rfl trivial ?_
      refine mx_E_zret rfl rfl (Or.inl rfl) ⟨?_, rfl⟩
      unfold mMay
      rw [if_pos e1, decide_eq_false ei]
      rfl
/-- what is told so far -/
def rD (c : mx_M) (s : pS) : Prop := c 0 10 = nI s.1 ∧ c 0 11 = nI s.2.1 ∧ mn s.1 ∧ s.2.1 ≤ 9 ∧ (∀ j, j < s.2.1 → mperm s.1 (s.2.2.1 j)) ∧ rRk (c 2) s.1 s.2.1 s.2.2.1 ∧ (s.2.2.2 = none → c 2 54 = nI 0) ∧ (∀ t, s.2.2.2 = some t → mtree s.1 t.1 t.2.1 t.2.2 ∧ rTb (c 2) t.1 t.2.1 t.2.2)
theorem rD_fr {S F : List Nat} {c c' : mx_M} {s : pS} (h : rD c s) (hf : rFr S F c c') (h2 : 2 ∉ S) (h10 : 10 ∉ F) (h11 : 11 ∉ F) : rD c' s := by
  unfold rD at h ⊢
  rw [hf.2 10 h10, hf.2 11 h11, hf.1 2 (by simp [h2])]
  exact h
theorem rD_54 {c : mx_M} {s : pS} (h : rD c s) : ∃ d, c 2 54 = nI d ∧ d < 1000 ∧ (d = 0 ↔ s.2.2.2.isNone = true) := by
  obtain ⟨-, -, -, -, -, -, g7, g8⟩ := h
  cases e : s.2.2.2 with
  | none => exact ⟨0, g7 e, by decide, by simp⟩
  | some t =>
    have h8 := g8 t e
    have h1 := h8.1.1
    have h63 := h8.1.2.1
    refine ⟨t.2.2, h8.2.1, by omega, ?_⟩
    simp
    omega
abbrev dkF : List Nat := [0, 3, 4, 5, 6, 7, 10, 11, 29]
theorem pIm_no {x : pX} {it q : Nat} {s : pS} {d : Nat} (hd : d = 0 ↔ s.2.2.2.isNone = true) (h : isSg (tC x q) = false ∨ mMay (tC x q) it s.2.1 d = false) : pIm x it q s = .error (tS x q) := by
  unfold pIm
  unfold mMay at h
  by_cases e1 : tC x q = 110
  · rw [if_pos e1] at h ⊢
    by_cases e : it = 0
    · rw [decide_eq_true e] at h
      rcases h with h | h
      · rw [e1] at h; exact absurd h (by decide)
      · cases h
    · rw [if_neg e]
  · rw [if_neg e1] at h ⊢
    by_cases e2 : tC x q = 114
    · rw [if_pos e2] at h ⊢
      by_cases e : s.2.1 < 9
      · rw [decide_eq_true e] at h
        rcases h with h | h
        · rw [e2] at h; exact absurd h (by decide)
        · cases h
      · rw [if_neg e]
    · rw [if_neg e2] at h ⊢
      by_cases e3 : tC x q = 103
      · rw [if_pos e3] at h ⊢
        by_cases e : d = 0
        · rw [decide_eq_true e] at h
          rcases h with h | h
          · rw [e3] at h; exact absurd h (by decide)
          · cases h
        · rw [if_neg (fun z => e (hd.mpr z))]
      · rw [if_neg e3]
section
variable {Q : Option Value → mx_M → Prop} {c : mx_M} {x : pX} {r : Except Nat (Nat × pS)}
/-- a fault: on to the end -/
theorem dk_ill (hx : x.1 ≤ 120) (hk : ∀ c2 (i2 : Nat), rFr [2, 15] dkF c c2 → pRes c2 r (fun v => v.1 = i2 ∧ rD c2 v.2) → mx_E 1 6 m_Mo_desk Q 85 [.ref 0, .int (nI i2), .null] [] c2) {c1 : mx_M} {e it : Nat} {L2 : Int32} (hf : rFr [2, 15] dkF c c1) (he : e < 1000) (h7 : c1 0 7 = nI e) (hr : r = .error e) : mx_E 1 6 m_Mo_desk Q 73 [.ref 0, .int (nI it), .int L2] [] c1 := by
  have fin : ∀ t : Bool, mx_E 1 6 m_Mo_desk Q 81 [.ref 0, .int (nI it), .int L2] [.int (mz t), .ref 0] c1 := by
    intro t
    refine mx_E_callV (sp_Mo_takesN _ he h7) rfl rfl rfl (fun rr c2 hr2 => ?_)
    obtain ⟨rfl, hz⟩ := hr2
    rw [hz]
    refine mR 3 rfl trivial ?_
    refine mR 1 rfl trivial ?_
    refine mx_E_callV (sp_Mo_ill _ he h7) rfl rfl rfl (fun rr c2 hr2 => ?_)
    obtain ⟨rfl, hz⟩ := hr2
    rw [hz, nI_1]
    refine mbT rfl (fun _ => ?_) (fun h => by cases h)
    exact mW (hk c1 (it + 1) hf (by rw [hr]; exact ⟨h7, he⟩)) ⟨Or.inr rfl, Or.inr rfl, Or.inl rfl, trivial⟩ rfl rfl
  refine mR 4 rfl trivial ?_
  refine mx_E_br rfl rfl (fun _ => ?_) (fun _ => ?_)
  · refine mR 1 rfl trivial ?_
    exact fin false
  · refine mR 2 rfl trivial ?_
    exact fin true
/-- an item is read: what ends it -/
theorem dk_well (hx : rTx c x) (hk : ∀ c2 (i2 : Nat), rFr [2, 15] dkF c c2 → pRes c2 r (fun v => v.1 = i2 ∧ rD c2 v.2) → mx_E 1 6 m_Mo_desk Q 85 [.ref 0, .int (nI i2), .null] [] c2) {c1 : mx_M} {q it : Nat} {L2 : Int32} {s : pS} {r1 : Except Nat (Nat × pS)} (hf : rFr [2, 15] dkF c c1) (h7 : c1 0 7 = -1) (ht : rTok c1 x q) (hq : q ≤ x.1) (hD : rD c1 s) (hr : r = if tC x q = 59 then r1 else .error (tS x q))
    (hn : ∀ c2, r = r1 → tC x q = 59 → rFr [2, 15] dkF c c2 → rTok c2 x (tE x q) → c2 0 7 = -1 → rD c2 s → mx_E 1 6 m_Mo_desk Q 15 [.ref 0, .int (nI (it + 1)), .null] [] c2) : mx_E 1 6 m_Mo_desk Q 73 [.ref 0, .int (nI it), .int L2] [] c1 := by
  have hx1 := rTx_fr hx hf (by decide) (by decide)
  have h120 := hx.2.1
  have hs := tS_le x hq
  have hkl := kd_lt x q
  refine mR 4 rfl trivial ?_
  rw [ht.2.2.1, show (3 : Int32) = nI 3 from rfl]
  refine mbNe _ _ rfl (by omega) (by decide) (fun hc => ?_) (fun hc => ?_)
  · have hne : ¬ tC x q = 59 := fun z => hc (kd_3.mpr z)
    rw [if_neg hne] at hr
    refine mR 1 rfl trivial ?_
    refine mx_E_callV (sp_Mo_takesF _ ht h7) rfl rfl rfl (fun rr c2 hr2 => ?_)
    obtain ⟨rfl, hz⟩ := hr2
    have f7 : c2 0 7 = nI (tS x q) := by rw [hz, mx_up_same]
    refine mR 3 rfl trivial ?_
    refine mR 1 rfl trivial ?_
    refine mx_E_callV (sp_Mo_ill _ (by omega) f7) rfl rfl rfl (fun rr c3 hr2 => ?_)
    obtain ⟨rfl, hz3⟩ := hr2
    rw [hz3, nI_1]
    refine mbT rfl (fun _ => ?_) (fun h => by cases h)
    refine mW (hk c2 (it + 1) (by rw [hz]; exact rFr_up hf (by decide)) (by rw [hr]; exact ⟨f7, by omega⟩)) ⟨Or.inr rfl, Or.inr rfl, Or.inl rfl, trivial⟩ rfl rfl
  · have heq := kd_3.mp hc
    rw [if_pos heq] at hr
    refine mR 2 rfl trivial ?_
    refine mx_E_callV (sp_Mo_takesT _ hx1 ht hq h7) rfl rfl rfl (fun rr c2 hr2 => ?_)
    obtain ⟨rfl, hf2, ht2⟩ := hr2
    refine mR 3 rfl trivial ?_
    rw [nI_1]
    exact mW (hn c2 hr heq (rFr_tr hf (rFr_mo hf2 (by decide) (by decide))) ht2 (by rw [hf2.2 7 (by decide)]; exact h7) (rD_fr hD hf2 (by decide) (by decide) (by decide))) ⟨Or.inr rfl, Or.inr rfl, Or.inl rfl, trivial⟩ rfl rfl
end
theorem lp_Mo_desk {Q : Option Value → mx_M → Prop} {c : mx_M} {x : pX} {r : Except Nat (Nat × pS)} (hx : rTx c x) (hk : ∀ c2 (i2 : Nat), rFr [2, 15] dkF c c2 → pRes c2 r (fun v => v.1 = i2 ∧ rD c2 v.2) → mx_E 1 6 m_Mo_desk Q 85 [.ref 0, .int (nI i2), .null] [] c2) :
    ∀ (f it q : Nat) (s : pS) (c1 : mx_M), x.1 - q < f → q ≤ x.1 → it ≤ q → rFr [2, 15] dkF c c1 → rTok c1 x q → c1 0 7 = -1 → rD c1 s → (it = 0 → s.2.1 = 0 ∧ s.2.2.2 = none) → pIt x f it q s = r → mx_E 1 6 m_Mo_desk Q 15 [.ref 0, .int (nI it), .null] [] c1 := by
  intro f
  induction f with
  | zero =>
    intro it q s c1 hfu
    omega
  | succ f ih =>
    intro it q s c1 hfu hq hit hf ht h7 hD h0 hr
    have h120 := hx.2.1
    have hv := hx.2.2.2
    have hs := tS_le x hq
    have hE := tE_le hq
    have hkl := kd_lt x q
    have hx1 := rTx_fr hx hf (by decide) (by decide)
    have hn6 := hD.2.2.1
    have hm9 := hD.2.2.2.1
    unfold pIt at hr
    refine mR 1 rfl trivial ?_
    refine mx_E_callV (sp_Mo_well _ h7) rfl rfl rfl (fun rr c2 hr2 => ?_)
    obtain ⟨rfl, hz⟩ := hr2
    rw [hz]
    refine mbT rfl (fun h => by cases h) (fun _ => ?_)
    refine mR 2 rfl trivial ?_
    rw [ht.2.2.1]
    by_cases hend : tKd x q = 0
    · rw [hend]
      refine mx_E_br rfl rfl (fun _ => ?_) (fun h => absurd rfl h)
      rw [if_pos ((kd_0 hv).mp hend)] at hr
      exact hk c1 it hf (by rw [← hr]; exact ⟨h7, rfl, hD⟩)
    · refine mx_E_br rfl rfl (fun h => absurd h (nI_ne0 (by omega) (by omega))) (fun _ => ?_)
      have hC : ¬ tC x q = -1 := fun z => hend ((kd_0 hv).mpr z)
      have hC2 : ¬ tC x q < 0 := fun z => hC (tC_neg hv z)
      have hgt := hE.2.2 hC2
      rw [if_neg hC] at hr
      obtain ⟨d, d54, d1000, dN⟩ := rD_54 hD
      -- refused at once
      have bad : isSg (tC x q) = false ∨ mMay (tC x q) it s.2.1 d = false → mx_E 1 6 m_Mo_desk Q 32 [.ref 0, .int (nI it), .null] [.ref 0] c1 := by
        intro hb
        rw [pIm_no dN hb] at hr
        dsimp only at hr
        refine mR 1 rfl trivial ?_
        refine mx_E_callV (sp_Mo_takesF _ ht h7) rfl rfl rfl (fun rr c2 hr2 => ?_)
        obtain ⟨rfl, hz⟩ := hr2
        have f7 : c2 0 7 = nI (tS x q) := by rw [hz, mx_up_same]
        refine mR 2 rfl trivial ?_
        refine mx_E_callV (sp_Mo_ill _ (by omega) f7) rfl rfl rfl (fun rr c3 hr2 => ?_)
        obtain ⟨rfl, hz3⟩ := hr2
        rw [hz3]
        refine mbT rfl (fun _ => ?_) (fun h => by cases h)
        refine mR 1 rfl trivial ?_
        refine mx_E_callV (sp_Mo_ill _ (by omega) f7) rfl rfl rfl (fun rr c3 hr2 => ?_)
        obtain ⟨rfl, hz3⟩ := hr2
        rw [hz3]
        refine mbT rfl (fun _ => ?_) (fun h => by cases h)
        refine mR 1 rfl trivial ?_
        refine mx_E_callV (sp_Mo_ill _ (by omega) f7) rfl rfl rfl (fun rr c3 hr2 => ?_)
        obtain ⟨rfl, hz3⟩ := hr2
        rw [hz3]
        refine mbT rfl (fun _ => ?_) (fun h => by cases h)
        exact dk_ill h120 hk (by rw [hz]; exact rFr_up hf (by decide)) (by omega) f7 hr.symm
      refine mR 4 rfl trivial ?_
      rw [ht.2.2.1, show (1 : Int32) = nI 1 from rfl]
      refine mbNe _ _ rfl (by omega) (by decide) (fun hc => ?_) (fun hc => ?_)
      · refine bad (Or.inl ?_)
        rw [Bool.eq_false_iff]
        exact fun z => hc (kd_sg.mpr z)
      · have hsg := kd_sg.mp hc
        have hv6 := ht.2.2.2.1 hc
        refine mR 2 rfl trivial ?_
        refine mx_E_callV (sp_Mo_mayBegin _ hv6 hD.2.1 d54 (by omega) d1000 (by omega)) rfl rfl rfl (fun rr c2 hr2 => ?_)
        obtain ⟨rfl, hz⟩ := hr2
        rw [hz]
        refine mbT rfl (fun hb => bad (Or.inr hb)) (fun hb => ?_)
        refine mR 2 rfl trivial ?_
        refine mx_E_callV (sp_Mo_takesT _ hx1 ht hq h7) rfl rfl rfl (fun rr c2 hr2 => ?_)
        obtain ⟨rfl, hf2, ht2⟩ := hr2
        rw [hv6]
        have k7 : c2 0 7 = -1 := by rw [hf2.2 7 (by decide)]; exact h7
        have hfc : rFr [2, 15] dkF c c2 := rFr_tr hf (rFr_mo hf2 (by decide) (by decide))
        have hD2 := rD_fr hD hf2 (by decide) (by decide) (by decide)
        have hx2 := rTx_fr hx hfc (by decide) (by decide)
        refine mR 2 rfl trivial ?_
        refine mx_E_callV (sp_Mo_well _ k7) rfl rfl rfl (fun rr c3 hr2 => ?_)
        obtain ⟨rfl, hz⟩ := hr2
        rw [hz]
        refine mbT rfl (fun h => by cases h) (fun _ => ?_)
        refine mR 2 rfl trivial ?_
        refine mx_E_br rfl rfl (fun hn1 => ?_) (fun hn1 => ?_)
        · -- r or g
          refine mR 1 rfl trivial ?_
          refine mx_E_callV (sp_Mo_well _ k7) rfl rfl rfl (fun rr c3 hr2 => ?_)
          obtain ⟨rfl, hz⟩ := hr2
          rw [hz]
          refine mbT rfl (fun h => by cases h) (fun _ => ?_)
          refine mR 2 rfl trivial ?_
          refine mx_E_br rfl rfl (fun hn2 => ?_) (fun hn2 => ?_)
          · have e3 : tC x q = 103 := by
              unfold mMay at hb
              rw [if_neg hn1, if_neg hn2] at hb
              by_cases z : tC x q = 103
              · exact z
              · rw [if_neg z] at hb; cases hb
            have ed : s.2.2.2.isNone = true := by
              unfold mMay at hb
              rw [if_neg hn1, if_neg hn2, if_pos e3] at hb
              exact dN.mp (of_decide_eq_true hb)
            have him : pIm x it q s = (match pAg x s.1 31 (tE x q) 0 with
                | .error e => .error e
                | .ok r => .ok (r.1, (s.1, s.2.1, s.2.2.1, some r.2))) := by
              unfold pIm
              rw [if_neg hn1, if_neg hn2, if_pos e3, if_pos ed]
              rfl
            rw [him] at hr
            refine mR 1 rfl trivial ?_
            refine mx_E_callV (sp_Mo_well _ k7) rfl rfl rfl (fun rr c3 hr2 => ?_)
            obtain ⟨rfl, hz⟩ := hr2
            rw [hz]
            refine mbT rfl (fun h => by cases h) (fun _ => ?_)
            refine mR 1 rfl trivial ?_
            refine mx_E_callV (sp_Mo_readsAgenda _ hn6.2 hx2 hD2.1 hE.2.1 ht2 k7) rfl rfl rfl (fun rr c3 hr2 => ?_)
            obtain ⟨rfl, hf3, hres⟩ := hr2
            have hfc3 : rFr [2, 15] dkF c c3 := rFr_tr hfc (rFr_mo hf3 (by decide) (by decide))
            cases eA : pAg x s.1 31 (tE x q) 0 with
            | error e =>
              rw [eA] at hr hres
              exact dk_ill h120 hk hfc3 hres.2 hres.1 hr.symm
            | ok v =>
              rw [eA] at hr hres
              obtain ⟨l7, lt, lo, lT⟩ := hres
              obtain ⟨a1, a2, a3, a4⟩ := pAg_le (by omega) 31 (tE x q) 0 v hE.2.1 eA
              have hD3 : rD c3 (s.1, s.2.1, s.2.2.1, some v.2) := by
                obtain ⟨g1, g2, g3, g4, g5, g6, g7, g8⟩ := hD2
                refine ⟨by rw [hf3.2 10 (by decide)]; exact g1, by rw [hf3.2 11 (by decide)]; exact g2, g3, g4, g5, fun j p hj hp => ?_, fun h => (by cases h), fun t h => ?_⟩
                · have hj2 : j < s.2.1 := hj
                  have hp2 : p < s.1 := hp
                  have := g3.2
                  rw [lo _ (by omega)]
                  exact g6 j p hj hp
                · cases h
                  exact ⟨mT_tree.mpr ⟨a3, by omega⟩, lT⟩
              dsimp only at hr
              refine dk_well hx hk hfc3 l7 lt a2 hD3 hr.symm (fun c4 hr4 h59 hf4 ht4 m7 hD4 => ?_)
              have hE4 := tE_le a2
              exact ih (it + 1) (tE x v.1) _ c4 (by omega) hE4.2.1 (by omega) hf4 ht4 m7 hD4 (fun z => by omega) hr4.symm
          · have e2 := Decidable.not_not.mp hn2
            have em : s.2.1 < 9 := by
              unfold mMay at hb
              rw [if_neg hn1, if_pos e2] at hb
              exact of_decide_eq_true hb
            have him : pIm x it q s = (match pRk x s.1 s.1 0 0 (tE x q) (fun _ => 0) with
                | .error e => .error e
                | .ok r => .ok (r.1, (s.1, s.2.1 + 1, mRr s.2.2.1 s.2.1 r.2, s.2.2.2))) := by
              unfold pIm
              rw [if_neg hn1, if_pos e2, if_pos em]
              rfl
            rw [him] at hr
            refine mR 1 rfl trivial ?_
            refine mx_E_callV (sp_Mo_readsRanking _ hn6.2 em hx2 hD2.1 hD2.2.1 hE.2.1 ht2 k7) rfl rfl rfl (fun rr c3 hr2 => ?_)
            obtain ⟨rfl, hf3, ho, l11, hres⟩ := hr2
            refine mR 1 rfl trivial ?_
            have hfc3 : rFr [2, 15] dkF c c3 := rFr_tr hfc (rFr_mo hf3 (by decide) (by decide))
            cases eA : pRk x s.1 s.1 0 0 (tE x q) (fun _ => 0) with
            | error e =>
              rw [eA] at hr hres
              exact dk_ill h120 hk hfc3 hres.2 hres.1 hr.symm
            | ok v =>
              rw [eA] at hr hres
              obtain ⟨l7, lt, lv, lf⟩ := hres
              obtain ⟨a1, a2⟩ := pRk_le s.1 0 0 (tE x q) (fun _ => 0) v hE.2.1 eA
              have hpv := pRk_perm hn6.2 s.1 0 0 (tE x q) (fun _ => 0) v (by omega) (by decide) (fun i hi => absurd hi (Nat.not_lt_zero i)) (fun i j hi => absurd hi (Nat.not_lt_zero i)) eA
              have hD3 : rD c3 (s.1, s.2.1 + 1, mRr s.2.2.1 s.2.1 v.2, s.2.2.2) := by
                obtain ⟨g1, g2, g3, g4, g5, g6, g7, g8⟩ := hD2
                have g32 := g3.2
                have out : ∀ z, 54 ≤ z → c3 2 z = c2 2 z := fun z hz => ho z (Or.inr (by omega))
                refine ⟨by rw [hf3.2 10 (by decide)]; exact g1, l11, g3, by show s.2.1 + 1 ≤ 9; omega, fun j hj => ?_, fun j p hj hp => ?_, fun h => ?_, fun t h => ?_⟩
                · show mperm s.1 (if j = s.2.1 then v.2 else s.2.2.1 j)
                  have hj2 : j < s.2.1 + 1 := hj
                  split
                  · exact hpv
                  · exact g5 j (by omega)
                · have hj2 : j < s.2.1 + 1 := hj
                  have hp2 : p < s.1 := hp
                  show _ = nI ((if j = s.2.1 then v.2 else s.2.2.1 j) p)
                  by_cases e : j = s.2.1
                  · rw [if_pos e, e]
                    exact lf p hp
                  · rw [if_neg e, ho _ (Or.inl (by omega))]
                    exact g6 j p (by omega) hp
                · rw [out _ (by omega)]
                  exact g7 h
                · obtain ⟨u1, u2, u3⟩ := g8 t h
                  refine ⟨u1, by rw [out _ (by omega)]; exact u2, fun k hk2 => ?_⟩
                  rw [out _ (by omega), out _ (by omega), out _ (by omega)]
                  exact u3 k hk2
              dsimp only at hr
              refine dk_well hx hk hfc3 l7 lt a2 hD3 hr.symm (fun c4 hr4 h59 hf4 ht4 m7 hD4 => ?_)
              have hE4 := tE_le a2
              exact ih (it + 1) (tE x v.1) _ c4 (by omega) hE4.2.1 (by omega) hf4 ht4 m7 hD4 (fun z => by omega) hr4.symm
        · -- n
          have e1 := Decidable.not_not.mp hn1
          have ei : it = 0 := by
            unfold mMay at hb
            rw [if_pos e1] at hb
            exact of_decide_eq_true hb
          obtain ⟨hs0, hsn⟩ := h0 ei
          have him : pIm x it q s = (if dgt (tC x (tE x q)) = true ∧ 2 ≤ tN x (tE x q) ∧ tN x (tE x q) ≤ 6 then .ok (tE x (tE x q), (tN x (tE x q), s.2)) else .error (tS x (tE x q))) := by
            unfold pIm
            rw [if_pos e1, if_pos ei]
          rw [him] at hr
          have hs2 := tS_le x hE.2.1
          have hE2 := tE_le hE.2.1
          have hkl2 := kd_lt x (tE x q)
          have nog : ¬ (dgt (tC x (tE x q)) = true ∧ 2 ≤ tN x (tE x q) ∧ tN x (tE x q) ≤ 6) → mx_E 1 6 m_Mo_desk Q 55 [.ref 0, .int (nI it), .int (tC x q)] [.ref 0, .ref 0] c2 := by
            intro hno
            rw [if_neg hno] at hr
            refine mR 1 rfl trivial ?_
            refine mx_E_callV (sp_Mo_takesF _ ht2 k7) rfl rfl rfl (fun rr c3 hr2 => ?_)
            obtain ⟨rfl, hz⟩ := hr2
            refine mR 2 rfl trivial ?_
            have f7 : mx_up c3 0 10 (nI 0) 0 7 = nI (tS x (tE x q)) := by rw [mx_up_ix _ _ _ _ _ _ (by decide), hz, mx_up_same]
            exact dk_ill h120 hk (rFr_up (by rw [hz]; exact rFr_up hfc (by decide)) (by decide)) (by omega) f7 hr.symm
          refine mR 5 rfl trivial ?_
          rw [ht2.2.2.1, show (2 : Int32) = nI 2 from rfl]
          refine mbNe _ _ rfl (by omega) (by decide) (fun hc2 => ?_) (fun hc2 => ?_)
          · refine nog (fun z => hc2 (kd_2.mpr ⟨z.1, by omega⟩))
          · have hnum := ht2.2.2.2.2 hc2
            have hk2 := kd_2.mp hc2
            refine mR 4 rfl trivial ?_
            rw [hnum]
            refine mx_E_callS (sp_Mo_in _ _ _ _) rfl rfl rfl (fun rr c3 hr2 => ?_)
            obtain ⟨rfl, hz⟩ := hr2
            rw [hz]
            have key : ((2 : Int32) ≤ nI (tN x (tE x q)) ∧ nI (tN x (tE x q)) ≤ 6) ↔ (2 ≤ tN x (tE x q) ∧ tN x (tE x q) ≤ 6) := by
              rw [show (2 : Int32) = nI 2 from rfl, show (6 : Int32) = nI 6 from rfl, nI_leI (by decide) (by omega), nI_leI (by omega) (by decide)]
            refine mbT rfl (fun hb2 => ?_) (fun hb2 => ?_)
            · exact nog (fun z => of_decide_eq_false hb2 (key.mpr z.2))
            · have hrg := key.mp (of_decide_eq_true hb2)
              rw [if_pos ⟨hk2.1, hrg⟩] at hr
              refine mR 2 rfl trivial ?_
              refine mx_E_callV (sp_Mo_takesT _ hx2 ht2 hE.2.1 k7) rfl rfl rfl (fun rr c3 hr2 => ?_)
              obtain ⟨rfl, hf3, ht3⟩ := hr2
              rw [hnum]
              refine mR 2 rfl trivial ?_
              have fup : rFr [] [10] c3 (mx_up c3 0 10 (nI (tN x (tE x q)))) := rFr_up (rFr_rf _ _ _) (by decide)
              have hD3 : rD (mx_up c3 0 10 (nI (tN x (tE x q)))) (tN x (tE x q), s.2) := by
                obtain ⟨g1, g2, g3, g4, g5, g6, g7, g8⟩ := hD2
                refine ⟨mx_up_same _ _ _ _, ?_, hrg, g4, fun j hj => ?_, fun j p hj => ?_, fun h => ?_, fun t h => ?_⟩
                · rw [mx_up_ix _ _ _ _ _ _ (by decide), hf3.2 11 (by decide)]; exact g2
                · have hj2 : j < s.2.1 := hj
                  omega
                · have hj2 : j < s.2.1 := hj
                  omega
                · rw [mx_up_id _ _ _ _ _ _ (by decide), hf3.1 2 (by decide)]; exact g7 h
                · have h2 : s.2.2.2 = some t := h
                  rw [hsn] at h2; cases h2
              dsimp only at hr
              refine dk_well hx hk (rFr_tr hfc (rFr_tr (rFr_mo hf3 (by decide) (by decide)) (rFr_mo fup (by decide) (by decide)))) (by rw [mx_up_ix _ _ _ _ _ _ (by decide), hf3.2 7 (by decide)]; exact k7) (rTok_fr ht3 fup (by decide) (by decide) (by decide) (by decide)) hE2.2.1 hD3 hr.symm (fun c4 hr4 h59 hf4 ht4 m7 hD4 => ?_)
              have hE4 := tE_le hE2.2.1
              exact ih (it + 1) (tE x (tE x (tE x q))) _ c4 (by omega) hE4.2.1 (by omega) hf4 ht4 m7 hD4 (fun z => by omega) hr4.symm
theorem rI_Fr {c c' : mx_M} {a : mSt} (h : rI c a) (hf : rFr [2, 15] dkF c c') : rI c' a := by
  obtain ⟨g1, g2, g3, g4, g5, g6⟩ := h
  obtain ⟨f1, f2⟩ := hf
  refine ⟨?_, ?_, ?_, ?_, ?_, ?_⟩
  · rw [f2 8 (by decide), f2 9 (by decide)]; exact g1
  · rw [f1 3 (by decide)]; exact g2
  · rw [f2 2 (by decide), f1 1 (by decide)]; exact g3
  · rw [f2 22 (by decide), f1 8 (by decide), f1 9 (by decide), f1 10 (by decide)]; exact g4
  · rw [f2 16 (by decide), f1 5 (by decide)]; exact g5
  · rw [f1 7 (by decide), f1 6 (by decide)]; exact g6
theorem sp_Mo_settles (c : mx_M) {n m : Nat} {p : mPic} {T : Nat → Int32} {S : Nat → Nat × Nat × Nat} {U : Nat → mPic} (hn : mn n) (hm : m ≤ 9) (h10 : c 0 10 = nI n) (h11 : c 0 11 = nI m) (hP : rP (c 2) n m p) : mx_Spec 1 2 m_Mo_settles [.ref 0] c (fun r c' => r = none ∧ rI c' ((n, m), p, (0, T), (0, S), (0, U), fun _ => none)) := by
  refine mx_Spec_E rfl rfl rfl ?_
  refine mR 8 rfl trivial ?_
  rw [h10, mx_up_ix _ _ _ _ _ _ (by decide), h11]
  obtain ⟨c1, hc1⟩ : ∃ c1, c1 = mx_up (mx_up c 0 8 (nI n)) 0 9 (nI m) := ⟨_, rfl⟩
  rw [← hc1]
  refine mR 4 rfl trivial ?_
  refine mx_E_callS (sp_Mo_copies2 _) rfl rfl rfl (fun rr c2 hr => ?_)
  obtain ⟨rfl, hc2⟩ := hr
  refine mR 19 rfl (mA2 (mI (n := 0) (by decide)) (mI (n := 1) (by decide))) ?_
  rw [show ((0 : Int32)).toNatClampNeg = 0 by decide, show ((1 : Int32)).toNatClampNeg = 1 by decide, show vp_nar .boolean 0 = mz false by decide]
  have e8 : c2 0 8 = nI n := by rw [hc2, mx_upR_rid _ _ _ 0 (by decide), hc1, mx_up_ix _ _ _ _ _ _ (by decide), mx_up_same]
  have e9 : c2 0 9 = nI m := by rw [hc2, mx_upR_rid _ _ _ 0 (by decide), hc1, mx_up_same]
  have e3 : rP (c2 3) n m p := by
    rw [hc2, mx_upR_row]
    refine rP_of hn.2 hm hP (fun k hk => ?_)
    rw [fb_put_in (by omega) (by omega), hc1, mx_up_id _ _ _ _ _ _ (by decide), mx_up_id _ _ _ _ _ _ (by decide)]
    rfl
  refine mx_E_vret rfl rfl ⟨rfl, ?_⟩
  have z0 : ∀ k, k ≠ 2 → k ≠ 22 → k ≠ 16 → mx_up (mx_up (mx_up (mx_up (mx_up c2 0 2 0) 0 22 0) 0 16 0) 7 0 (mz false)) 7 1 (mz false) 0 k = c2 0 k := fun k h1 h2 h3 => by
    rw [mx_up_id _ _ _ _ _ _ (by decide), mx_up_id _ _ _ _ _ _ (by decide), mx_up_ix _ _ _ _ _ _ h3, mx_up_ix _ _ _ _ _ _ h2, mx_up_ix _ _ _ _ _ _ h1]
  refine ⟨⟨?_, ?_, hn, hm⟩, ?_, ⟨?_, Nat.zero_le _, fun i hi => absurd hi (Nat.not_lt_zero i)⟩, ⟨?_, Nat.zero_le _, fun i hi => absurd hi (Nat.not_lt_zero i)⟩, ⟨?_, Nat.zero_le _, fun i hi => absurd hi (Nat.not_lt_zero i)⟩, fun i hi => ⟨?_, fun p h => (by cases h)⟩⟩
  · rw [z0 8 (by decide) (by decide) (by decide)]; exact e8
  · rw [z0 9 (by decide) (by decide) (by decide)]; exact e9
  · rw [mx_up_rid _ _ _ _ 3 (by decide), mx_up_rid _ _ _ _ 3 (by decide), mx_up_rid _ _ _ _ 3 (by decide), mx_up_rid _ _ _ _ 3 (by decide), mx_up_rid _ _ _ _ 3 (by decide)]
    exact e3
  · rw [mx_up_id _ _ _ _ _ _ (by decide), mx_up_id _ _ _ _ _ _ (by decide), mx_up_ix _ _ _ _ _ _ (by decide), mx_up_ix _ _ _ _ _ _ (by decide), mx_up_same]
    rfl
  · rw [mx_up_id _ _ _ _ _ _ (by decide), mx_up_id _ _ _ _ _ _ (by decide), mx_up_ix _ _ _ _ _ _ (by decide), mx_up_same]
    rfl
  · rw [mx_up_id _ _ _ _ _ _ (by decide), mx_up_id _ _ _ _ _ _ (by decide), mx_up_same]
    rfl
  · have hi2 : i < 2 := hi
    rcases (show i = 0 ∨ i = 1 by omega) with rfl | rfl
    · rw [mx_up_ix _ _ _ _ _ _ (by decide), mx_up_same]
      rfl
    · rw [mx_up_same]
      rfl
theorem qr_desk {c : mx_M} {a : mSt} (h : rI c a) (hv : pVal a.2.2.1) : mx_Spec 1 6 m_Mo_desk [.ref 0] c (fun r c' => r = some (.int (aDesk a).1) ∧ rI c' (aDesk a).2) := by
  refine mx_Spec_E rfl rfl rfl ?_
  refine mR 9 rfl trivial ?_
  obtain ⟨c1, hc1⟩ : ∃ c1, c1 = mx_up (mx_up (mx_up c 0 0 0) 0 7 (-1)) 0 3 0 := ⟨_, rfl⟩
  rw [← hc1]
  have hf1 : rFr [2, 15] dkF c c1 := by rw [hc1]; exact rFr_up (rFr_up (rFr_up (rFr_rf _ _ _) (by decide)) (by decide)) (by decide)
  refine mR 1 rfl trivial ?_
  refine mx_E_callV (sp_Mo_begins _) rfl rfl rfl (fun rr c2 hr => ?_)
  obtain ⟨rfl, hf2, b10, b11, b2⟩ := hr
  have hfc2 : rFr [2, 15] dkF c c2 := rFr_tr hf1 (rFr_mo hf2 (by decide) (by decide))
  have hx : rTx c a.2.2.1 := ⟨h.2.2.1.1, h.2.2.1.2.1, h.2.2.1.2.2, hv⟩
  refine mR 3 rfl trivial ?_
  refine mx_E_callV (sp_Mo_advances (q := 0) _ (rTx_fr hx hfc2 (by decide) (by decide)) (Nat.zero_le _) (by rw [hf2.2 3 (by decide), hc1, mx_up_same]; rfl)) rfl rfl rfl (fun rr c3 hr => ?_)
  obtain ⟨rfl, hf3, ht⟩ := hr
  have hfc3 : rFr [2, 15] dkF c c3 := rFr_tr hfc2 (rFr_mo hf3 (by decide) (by decide))
  have hD : rD c3 (3, 0, (fun _ _ => 0), none) := ⟨by rw [hf3.2 10 (by decide)]; exact b10, by rw [hf3.2 11 (by decide)]; exact b11, by decide, by decide, fun j hj => absurd hj (Nat.not_lt_zero j), fun j p hj => absurd hj (Nat.not_lt_zero j), fun _ => by rw [hf3.1 2 (by decide), b2 54 (by decide)]; rfl, fun t ht => by cases ht⟩
  have h120 := hx.2.1
  refine lp_Mo_desk (r := pDesk a.2.2.1) hx (fun c4 i2 hf4 hres => ?_) 121 0 0 (3, 0, (fun _ _ => 0), none) c3 (by omega) (Nat.zero_le _) (Nat.le_refl 0) hfc3 ht (by rw [hf3.2 7 (by decide), hf2.2 7 (by decide), hc1, mx_up_ix _ _ _ _ _ _ (by decide), mx_up_same]) hD (fun _ => ⟨rfl, rfl⟩) rfl
  unfold aDesk
  cases e : pDesk a.2.2.1 with
  | error z =>
    rw [e] at hres
    obtain ⟨h7, hz⟩ := hres
    refine mR 1 rfl trivial ?_
    refine mx_E_callV (sp_Mo_ill _ hz h7) rfl rfl rfl (fun rr c5 hr => ?_)
    obtain ⟨rfl, hz5⟩ := hr
    rw [hz5]
    refine mbF rfl (fun h => by cases h) (fun _ => ?_)
    refine mR 4 rfl trivial ?_
    rw [h7]
    exact mx_E_iret rfl rfl ⟨rfl, rI_Fr h hf4⟩
  | ok v =>
    rw [e] at hres
    obtain ⟨h7, hi, hD4⟩ := hres
    refine mR 1 rfl trivial ?_
    refine mx_E_callV (sp_Mo_well _ h7) rfl rfl rfl (fun rr c5 hr => ?_)
    obtain ⟨rfl, hz5⟩ := hr
    rw [hz5]
    refine mbF rfl (fun _ => ?_) (fun h => by cases h)
    obtain ⟨g1, g2, g3, g4, g5, g6, g7, g8⟩ := hD4
    refine mR 4 rfl (mA1 (mI (n := 54) (by decide))) ?_
    rw [c54]
    have fin : ∀ c6, c6 0 10 = nI v.2.1 → c6 0 11 = nI v.2.2.1 → rP (c6 2) v.2.1 v.2.2.1 (pPic v.2) → mx_E 1 6 m_Mo_desk (fun r c' => r = some (.int (nI v.1)) ∧ rI c' ((v.2.1, v.2.2.1), pPic v.2, (0, a.2.2.1.2), (0, a.2.2.2.1.2), (0, a.2.2.2.2.1.2), fun _ => none)) 109 [.ref 0, .int (nI i2), .null] [] c6 := by
      intro c6 k10 k11 hP
      refine mR 1 rfl trivial ?_
      refine mx_E_callV (sp_Mo_settles (T := a.2.2.1.2) (S := a.2.2.2.1.2) (U := a.2.2.2.2.1.2) _ g3 g4 k10 k11 hP) rfl rfl rfl (fun rr c7 hr => ?_)
      obtain ⟨rfl, hI⟩ := hr
      refine mR 1 rfl trivial ?_
      exact mx_E_iret rfl rfl ⟨by rw [hi], hI⟩
    cases et : v.2.2.2.2 with
    | none =>
      rw [g7 et]
      refine mx_E_br rfl rfl (fun h => absurd rfl h) (fun _ => ?_)
      refine mR 4 rfl trivial ?_
      rw [g1]
      have hk0 : 0 < mfact v.2.1 := (mfact_le v.2.1 (by have := g3.2; omega)).1
      refine mx_E_callV (sp_Mo_orderOf _ v.2.1 0 g3 hk0) rfl rfl rfl (fun rr c6 hr => ?_)
      obtain ⟨rfl, hc6⟩ := hr
      have f6 : mfr [14] c4 c6 := fun r hr => by rw [hc6]; exact mx_upR_rid _ _ _ _ (fun e => hr (by rw [e]; decide))
      have h14 : ∀ p, p < v.2.1 → c6 14 p = nI (mo v.2.1 0 p) := fun p hp => by rw [hc6, mx_upR_row, fa_fill_in hp]
      refine mR 5 rfl trivial ?_
      rw [f6 0 (by decide), g1]
      refine mx_E_callV (sp_Mo_lays2 _ g3 (fun p hp => mo_lt g3 hk0 hp) h14) rfl rfl rfl (fun rr c7 hr => ?_)
      obtain ⟨rfl, y1, y2, y3, y4⟩ := hr
      refine fin c7 (by rw [y2 10 (by decide), f6 0 (by decide)]; exact g1) (by rw [y2 11 (by decide), f6 0 (by decide)]; exact g2) ?_
      unfold pPic
      rw [et]
      refine rP_ord g3 (fun p hp => mo_lt g3 hk0 hp) g5 (fun j p hj hp => ?_) y4
      have := g3.2
      rw [y3 _ (by omega), f6 2 (by decide)]
      exact g6 j p hj hp
    | some t =>
      obtain ⟨u1, u2⟩ := g8 t et
      have u63 := u1.2.1
      have u0 := u1.1
      rw [u2.1]
      refine mx_E_br rfl rfl (fun _ => ?_) (fun h => absurd (nI_ne0 (by omega) (by omega)) h)
      refine fin c4 g1 g2 ?_
      unfold pPic
      rw [et]
      exact ⟨g5, g6, u1, u2⟩
