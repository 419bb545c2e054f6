/-- only these rows, and of the object these fields, have changed -/
def rFr (S F : List Nat) (c c' : mx_M) : Prop := mfr (0 :: S) c c' ∧ ∀ k, k ∉ F → c' 0 k = c 0 k
theorem rFr_rf (S F : List Nat) (c : mx_M) : rFr S F c c := ⟨mfr_rf _ _, fun _ _ => rfl⟩
theorem rFr_tr {S F : List Nat} {c c1 c2 : mx_M} (h : rFr S F c c1) (h2 : rFr S F c1 c2) : rFr S F c c2 := ⟨mfr_tr h.1 h2.1, fun k hk => (h2.2 k hk).trans (h.2 k hk)⟩
theorem rFr_mo {S F S' F' : List Nat} {c c1 : mx_M} (h : rFr S F c c1) (hs : ∀ r, r ∈ S → r ∈ S') (hf : ∀ r, r ∈ F → r ∈ F') : rFr S' F' c c1 := ⟨mfr_mo h.1 (fun r hr => by
  rcases List.mem_cons.mp hr with e | e
  · rw [e]; exact List.mem_cons_self
  · exact List.mem_cons_of_mem _ (hs r e)), fun k hk => h.2 k (fun z => hk (hf k z))⟩
theorem rFr_up {S F : List Nat} {c c1 : mx_M} {k : Nat} {x : Int32} (h : rFr S F c c1) (hk : k ∈ F) : rFr S F c (mx_up c1 0 k x) := ⟨mfr_up h.1 List.mem_cons_self, fun j hj => by
  rw [mx_up_ix _ _ _ _ _ _ (fun e => hj (by rw [e]; exact hk))]
  exact h.2 j hj⟩
theorem rFr_row {S F : List Nat} {c c1 : mx_M} {i k : Nat} {x : Int32} (h : rFr S F c c1) (hi : i ∈ S) (h0 : i ≠ 0) : rFr S F c (mx_up c1 i k x) := ⟨mfr_up h.1 (List.mem_cons_of_mem _ hi), fun j hj => by
  rw [mx_up_id _ _ _ _ _ _ h0.symm]
  exact h.2 j hj⟩
/-- the reference holds the text -/
def rTx (c : mx_M) (x : pX) : Prop := c 0 2 = nI x.1 ∧ x.1 ≤ 120 ∧ (∀ i, i < x.1 → c 1 i = x.2 i) ∧ pVal x
theorem rTx_fr {S F : List Nat} {c c' : mx_M} {x : pX} (h : rTx c x) (hf : rFr S F c c') (h1 : 1 ∉ S) (h2 : 2 ∉ F) : rTx c' x := ⟨by rw [hf.2 2 h2]; exact h.1, h.2.1, fun i hi => by rw [hf.1 1 (by simp [h1])]; exact h.2.2.1 i hi, h.2.2.2⟩
def isSg (x : Int32) : Bool := decide ((97 : Int32) ≤ x ∧ x ≤ 103) || (decide (x = 110) || (decide (x = 114) || (decide (x = 40) || decide (x = 41))))
/-- what kind of token it is -/
def tKd (x : pX) (q : Nat) : Nat := if tC x q < 0 then 0 else if dgt (tC x q) then (if tN x q ≤ 99 then 2 else 4) else if tC x q = 59 then 3 else if isSg (tC x q) then 1 else 4
/-- the reference has read the token at q -/
def rTok (c : mx_M) (x : pX) (q : Nat) : Prop := c 0 3 = nI (tE x q) ∧ c 0 5 = nI (tS x q) ∧ c 0 4 = nI (tKd x q) ∧ (tKd x q = 1 → c 0 6 = tC x q) ∧ (tKd x q = 2 → c 0 6 = nI (tN x q))
theorem rTok_fr {S F : List Nat} {c c' : mx_M} {x : pX} {q : Nat} (h : rTok c x q) (hf : rFr S F c c') (h3 : 3 ∉ F) (h4 : 4 ∉ F) (h5 : 5 ∉ F) (h6 : 6 ∉ F) : rTok c' x q := by
  unfold rTok at h ⊢
  rw [hf.2 3 h3, hf.2 4 h4, hf.2 5 h5, hf.2 6 h6]
  exact h
theorem sp_Mo_letterAt (c : mx_M) {x : pX} {p : Nat} (h : rTx c x) (hp : p < 1000) : mx_Spec 1 1 m_Mo_letterAt [.ref 0, .int (nI p)] c (fun r c' => r = some (.int (pLt x p)) ∧ c' = c) := by
  obtain ⟨h2, h120, h1, hv⟩ := h
  refine mx_Spec_E rfl rfl rfl ?_
  refine mR 3 rfl trivial ?_
  rw [h2]
  unfold pLt
  refine mbGe _ _ rfl (by omega) (by omega) (fun hc => ?_) (fun hc => ?_)
  · rw [if_neg (by omega)]
    refine mR 1 rfl trivial ?_
    exact mx_E_iret rfl rfl ⟨rfl, rfl⟩
  · rw [if_pos hc]
    refine mR 5 rfl (mA1 (mI (by omega))) ?_
    rw [nI_cl (by omega), h1 p hc]
    exact mx_E_iret rfl rfl ⟨rfl, rfl⟩
theorem sp_Mo_isSign (c : mx_M) (x : Int32) : mx_Spec 1 2 m_Mo_isSign [.int x] c (fun r c' => r = some (.int (mz (isSg x))) ∧ c' = c) := by
  refine mx_Spec_E rfl rfl rfl ?_
  refine mR 3 rfl trivial ?_
  refine mx_E_callS (sp_Mo_in _ _ _ _) rfl rfl rfl (fun r c1 hr => ?_)
  obtain ⟨rfl, hz⟩ := hr
  rw [hz]
  unfold isSg
  refine mbF rfl (fun hb => ?_) (fun hb => ?_)
  · rw [hb]
    refine mR 2 rfl trivial ?_
    exact mx_E_zret rfl rfl (Or.inr rfl) ⟨rfl, rfl⟩
  · rw [hb, Bool.false_or]
    refine mR 2 rfl trivial ?_
    refine mx_E_br rfl rfl (fun h => ?_) (fun h => ?_)
    · rw [decide_eq_true h]
      refine mR 2 rfl trivial ?_
      exact mx_E_zret rfl rfl (Or.inr rfl) ⟨rfl, rfl⟩
    · rw [decide_eq_false h, Bool.false_or]
      refine mR 2 rfl trivial ?_
      refine mx_E_br rfl rfl (fun h => ?_) (fun h => ?_)
      · rw [decide_eq_true h]
        refine mR 2 rfl trivial ?_
        exact mx_E_zret rfl rfl (Or.inr rfl) ⟨rfl, rfl⟩
      · rw [decide_eq_false h, Bool.false_or]
        refine mR 2 rfl trivial ?_
        refine mx_E_br rfl rfl (fun h => ?_) (fun h => ?_)
        · rw [decide_eq_true h]
          refine mR 2 rfl trivial ?_
          exact mx_E_zret rfl rfl (Or.inr rfl) ⟨rfl, rfl⟩
        · rw [decide_eq_false h, Bool.false_or]
          refine mR 2 rfl trivial ?_
          refine mx_E_br rfl rfl (fun h => ?_) (fun h => ?_)
          · rw [decide_eq_false h]
            refine mR 1 rfl trivial ?_
            exact mx_E_zret rfl rfl (Or.inl rfl) ⟨rfl, rfl⟩
          · rw [decide_eq_true (Decidable.not_not.mp h)]
            refine mR 2 rfl trivial ?_
            exact mx_E_zret rfl rfl (Or.inr rfl) ⟨rfl, rfl⟩
theorem lp_Mo_adv1 {Q : Option Value → mx_M → Prop} {c : mx_M} {x : pX} {s : Nat} (hk : ∀ c2, rFr [] [3] c c2 → c2 0 3 = nI s → mx_E 1 3 m_Mo_advances Q 13 [.ref 0, .null] [] c2) (hx : rTx c x) :
    ∀ (u p : Nat) (c1 : mx_M), x.1 - p ≤ u → p ≤ x.1 → rFr [] [3] c c1 → c1 0 3 = nI p → tS x p = s → mx_E 1 3 m_Mo_advances Q 0 [.ref 0, .null] [] c1 := by
  intro u
  induction u with
  | zero =>
    intro p c1 h1 h2 hf h3 hs
    have h120 := hx.2.1
    refine mR 3 rfl trivial ?_
    rw [h3]
    refine mx_E_callV (sp_Mo_letterAt _ (rTx_fr hx hf (by decide) (by decide)) (by omega)) rfl rfl rfl (fun r c2 hr => ?_)
    obtain ⟨rfl, hz⟩ := hr
    rw [hz]
    have e : ¬ pLt x p = 32 := by
      unfold pLt
      rw [if_neg (by omega)]
      decide
    refine mR 1 rfl trivial ?_
    refine mx_E_br rfl rfl (fun _ => ?_) (fun h => absurd e h)
    rw [tS_e e] at hs
    exact hk c1 hf (by rw [h3, hs])
  | succ u ih =>
    intro p c1 h1 h2 hf h3 hs
    have h120 := hx.2.1
    refine mR 3 rfl trivial ?_
    rw [h3]
    refine mx_E_callV (sp_Mo_letterAt _ (rTx_fr hx hf (by decide) (by decide)) (by omega)) rfl rfl rfl (fun r c2 hr => ?_)
    obtain ⟨rfl, hz⟩ := hr
    rw [hz]
    refine mR 1 rfl trivial ?_
    refine mx_E_br rfl rfl (fun e => ?_) (fun e => ?_)
    · rw [tS_e e] at hs
      exact hk c1 hf (by rw [h3, hs])
    · have e2 := Decidable.not_not.mp e
      have hp : p < x.1 := pLt_in (fun z => by rw [z] at e2; exact absurd e2 (by decide))
      rw [tS_s e2] at hs
      refine mR 7 rfl trivial ?_
      rw [h3, nI_1]
      exact ih (p + 1) _ (by omega) (by omega) (rFr_up hf (by decide)) (mx_up_same _ _ _ _) hs
theorem nS_le {v : Nat} {d : Int32} (hv : v ≤ 999) (hd : dgt d = true) : nS v d ≤ 999 := by
  obtain ⟨k, hk, rfl⟩ := dg_of hd
  unfold nS
  rw [nI_cl (by omega)]
  split <;> omega
theorem lp_Mo_adv2 {Q : Option Value → mx_M → Prop} {c : mx_M} {x : pX} {E N : Nat} {L1 : Int32} (hk : ∀ c2, rFr [] [3, 6] c c2 → c2 0 3 = nI E → c2 0 6 = nI N → N ≤ 999 → mx_E 1 3 m_Mo_advances Q 71 [.ref 0, .int L1] [] c2) (hx : rTx c x) :
    ∀ (u p v : Nat) (c1 : mx_M), x.1 - p ≤ u → p ≤ x.1 → v ≤ 999 → rFr [] [3, 6] c c1 → c1 0 3 = nI p → c1 0 6 = nI v → dE x p = E → nU x p v = N → mx_E 1 3 m_Mo_advances Q 36 [.ref 0, .int L1] [] c1 := by
  intro u
  induction u with
  | zero =>
    intro p v c1 h1 h2 hv hf h3 h6 hE hN
    have h120 := hx.2.1
    refine mR 3 rfl trivial ?_
    rw [h3]
    refine mx_E_callV (sp_Mo_letterAt _ (rTx_fr hx hf (by decide) (by decide)) (by omega)) rfl rfl rfl (fun r c2 hr => ?_)
    obtain ⟨rfl, hz⟩ := hr
    rw [hz]
    have e : dgt (pLt x p) = false := by
      unfold pLt
      rw [if_neg (by omega)]
      decide
    refine mR 2 rfl trivial ?_
    refine mx_E_callS (sp_Mo_in _ _ _ _) rfl rfl rfl (fun r c2 hr => ?_)
    obtain ⟨rfl, hz⟩ := hr
    rw [hz]
    refine mbT (t := dgt (pLt x p)) rfl (fun _ => ?_) (fun h => by rw [e] at h; cases h)
    rw [dE_e e] at hE
    rw [nU_e e] at hN
    exact hk c1 hf (by rw [h3, hE]) (by rw [h6, hN]) (by omega)
  | succ u ih =>
    intro p v c1 h1 h2 hv hf h3 h6 hE hN
    have h120 := hx.2.1
    have hx1 := rTx_fr hx hf (by decide) (by decide)
    refine mR 3 rfl trivial ?_
    rw [h3]
    refine mx_E_callV (sp_Mo_letterAt _ hx1 (by omega)) rfl rfl rfl (fun r c2 hr => ?_)
    obtain ⟨rfl, hz⟩ := hr
    rw [hz]
    refine mR 2 rfl trivial ?_
    refine mx_E_callS (sp_Mo_in _ _ _ _) rfl rfl rfl (fun r c2 hr => ?_)
    obtain ⟨rfl, hz⟩ := hr
    rw [hz]
    refine mbT (t := dgt (pLt x p)) rfl (fun e => ?_) (fun e => ?_)
    · rw [dE_e e] at hE
      rw [nU_e e] at hN
      exact hk c1 hf (by rw [h3, hE]) (by rw [h6, hN]) (by omega)
    · have hp := dg_lt e
      rw [dE_s e] at hE
      rw [nU_s e] at hN
      have hvl := nS_le hv e
      have nxt : ∀ v2, v2 = nI (nS v (pLt x p)) → mx_E 1 3 m_Mo_advances Q 63 [.ref 0, .int L1] [.int v2, .ref 0] c1 := by
        intro v2 hv2
        rw [hv2]
        refine mR 8 rfl trivial ?_
        rw [mx_up_ix _ _ _ _ 0 3 (by decide), h3, nI_1]
        refine ih (p + 1) (nS v (pLt x p)) _ (by omega) (by omega) hvl (rFr_up (rFr_up hf (by decide)) (by decide)) (mx_up_same _ _ _ _) ?_ hE hN
        rw [mx_up_ix _ _ _ _ 0 6 (by decide), mx_up_same]
      refine mR 4 rfl trivial ?_
      rw [h6, show (99 : Int32) = nI 99 from rfl]
      refine mbLe _ _ rfl (by omega) (by omega) (fun hc => ?_) (fun hc => ?_)
      · refine mR 7 rfl trivial ?_
        rw [h6, h3]
        refine mx_E_callV (sp_Mo_letterAt _ hx1 (by omega)) rfl rfl rfl (fun r c2 hr => ?_)
        obtain ⟨rfl, hz⟩ := hr
        rw [hz]
        refine mR 3 rfl trivial ?_
        refine nxt _ ?_
        obtain ⟨d, hd, ed⟩ := dg_of e
        rw [ed]
        unfold nS
        rw [if_neg (by omega), nI_cl (by omega), show (10 : Int32) = nI 10 from rfl, pk_mul, nI_add, show (48 : Int32) = nI 48 from rfl, pk_sub (by omega)]
        congr 1
        omega
      · refine mR 3 rfl trivial ?_
        rw [h6]
        refine nxt _ ?_
        unfold nS
        rw [if_pos hc]
theorem ge0 {x : Int32} (h : (0 : Int32) ≤ x) : ¬ x < 0 := fun z => (fa_of_lt z).2.1 h
theorem sp_Mo_advances (c : mx_M) {x : pX} {q : Nat} (hx : rTx c x) (hq : q ≤ x.1) (h3 : c 0 3 = nI q) : mx_Spec 1 3 m_Mo_advances [.ref 0] c (fun r c' => r = none ∧ rFr [] [3, 4, 5, 6] c c' ∧ rTok c' x q) := by
  have h120 := hx.2.1
  have hs := tS_le x hq
  refine mx_Spec_E rfl rfl rfl ?_
  refine lp_Mo_adv1 (s := tS x q) (fun c2 hf2 h32 => ?_) hx (x.1 - q) q c (Nat.le_refl _) hq (rFr_rf _ _ _) h3 rfl
  refine mR 7 rfl trivial ?_
  rw [h32, mx_up_ix _ _ _ _ 0 3 (by decide), h32]
  obtain ⟨c3, hc3⟩ : ∃ c3, c3 = mx_up c2 0 5 (nI (tS x q)) := ⟨_, rfl⟩
  rw [← hc3]
  have hf3 : rFr [] [3, 4, 5, 6] c c3 := by rw [hc3]; exact rFr_up (rFr_mo hf2 (by decide) (by decide)) (by decide)
  have k3 : c3 0 3 = nI (tS x q) := by rw [hc3, mx_up_ix _ _ _ _ 0 3 (by decide)]; exact h32
  have k5 : c3 0 5 = nI (tS x q) := by rw [hc3, mx_up_same]
  have hx3 := rTx_fr hx hf3 (by decide) (by decide)
  refine mx_E_callV (sp_Mo_letterAt _ hx3 (by omega)) rfl rfl rfl (fun r c4 hr => ?_)
  obtain ⟨rfl, hz⟩ := hr
  rw [hz]
  refine mR 2 rfl trivial ?_
  refine mx_E_br rfl rfl (fun hge => ?_) (fun hge => ?_)
  · have hnn : ¬ tC x q < 0 := ge0 hge
    have hsl : tS x q < x.1 := pLt_in (fun z => hnn (by show pLt x (tS x q) < 0; rw [z]; decide))
    refine mR 3 rfl trivial ?_
    refine mx_E_callS (sp_Mo_in _ _ _ _) rfl rfl rfl (fun r c4 hr => ?_)
    obtain ⟨rfl, hz⟩ := hr
    rw [hz]
    refine mbT (t := dgt (tC x q)) rfl (fun hd => ?_) (fun hd => ?_)
    · refine mR 9 rfl trivial ?_
      rw [k3, nI_1]
      obtain ⟨c5, hc5⟩ : ∃ c5, c5 = mx_up (mx_up c3 0 3 (nI (tS x q + 1))) 0 6 (pLt x (tS x q)) := ⟨_, rfl⟩
      rw [← hc5]
      have hf5 : rFr [] [3, 4, 5, 6] c c5 := by rw [hc5]; exact rFr_up (rFr_up hf3 (by decide)) (by decide)
      have l3 : c5 0 3 = nI (tE x q) := by
        rw [hc5, mx_up_ix _ _ _ _ 0 3 (by decide), mx_up_same]
        unfold tE
        rw [if_neg hnn, if_neg (by rw [hd]; decide)]
      have l5 : c5 0 5 = nI (tS x q) := by rw [hc5, mx_up_ix _ _ _ _ 0 5 (by decide), mx_up_ix _ _ _ _ 0 5 (by decide)]; exact k5
      have l6 : c5 0 6 = tC x q := by rw [hc5, mx_up_same]; rfl
      have kk : tKd x q = if tC x q = 59 then 3 else if isSg (tC x q) then 1 else 4 := by
        unfold tKd
        rw [if_neg hnn, if_neg (by rw [hd]; decide)]
      have fin : ∀ v, v = nI (tKd x q) → mx_E 1 3 m_Mo_advances (fun r c' => r = none ∧ rFr [] [3, 4, 5, 6] c c' ∧ rTok c' x q) 112 [.ref 0, .int (pLt x (tS x q))] [.int v, .ref 0] c5 := by
        intro v hv
        refine mR 1 rfl trivial ?_
        refine mx_E_vret rfl rfl ⟨rfl, rFr_up hf5 (by decide), ?_, ?_, ?_, ?_, ?_⟩
        · rw [mx_up_ix _ _ _ _ 0 3 (by decide)]; exact l3
        · rw [mx_up_ix _ _ _ _ 0 5 (by decide)]; exact l5
        · rw [mx_up_same, hv]
        · intro _
          rw [mx_up_ix _ _ _ _ 0 6 (by decide)]; exact l6
        · intro h2
          exfalso
          rw [kk] at h2
          split at h2
          · cases h2
          · split at h2 <;> cases h2
      refine mR 3 rfl trivial ?_
      refine mx_E_br rfl rfl (fun h59 => ?_) (fun h59 => ?_)
      · refine mR 1 rfl trivial ?_
        refine mx_E_callS (sp_Mo_isSign _ _) rfl rfl rfl (fun r c6 hr => ?_)
        obtain ⟨rfl, hz⟩ := hr
        rw [hz]
        refine mbT rfl (fun hs => ?_) (fun hs => ?_)
        · refine mR 1 rfl trivial ?_
          exact fin _ (by rw [kk, if_neg (show ¬ tC x q = 59 from h59), if_neg (by rw [show isSg (tC x q) = false from hs]; decide)]; rfl)
        · refine mR 2 rfl trivial ?_
          exact fin _ (by rw [kk, if_neg (show ¬ tC x q = 59 from h59), if_pos (show isSg (tC x q) = true from hs)]; rfl)
      · refine mR 2 rfl trivial ?_
        exact fin _ (by rw [kk, if_pos (show tC x q = 59 from Decidable.not_not.mp h59)]; rfl)
    · refine mR 3 rfl trivial ?_
      have hf4 : rFr [] [3, 4, 5, 6] c (mx_up c3 0 6 0) := rFr_up hf3 (by decide)
      refine lp_Mo_adv2 (E := dE x (tS x q)) (N := nU x (tS x q) 0) (fun c5 hf5 m3 m6 hN => ?_) (rTx_fr hx hf4 (by decide) (by decide)) (x.1 - tS x q) (tS x q) 0 _ (Nat.le_refl _) (by omega) (by decide) (rFr_rf _ _ _) (by rw [mx_up_ix _ _ _ _ 0 3 (by decide)]; exact k3) (by rw [mx_up_same]; rfl) rfl rfl
      have hfc : rFr [] [3, 4, 5, 6] c c5 := rFr_tr hf4 (rFr_mo hf5 (by decide) (by decide))
      have m5 : c5 0 5 = nI (tS x q) := by rw [hf5.2 5 (by decide), mx_up_ix _ _ _ _ 0 5 (by decide)]; exact k5
      have hdl := dE_le x (p := tS x q) (by omega)
      have fin : ∀ v, v = nI (tKd x q) → mx_E 1 3 m_Mo_advances (fun r c' => r = none ∧ rFr [] [3, 4, 5, 6] c c' ∧ rTok c' x q) 89 [.ref 0, .int (pLt x (tS x q))] [.int v, .ref 0] c5 := by
        intro v hv
        refine mR 2 rfl trivial ?_
        refine mx_E_vret rfl rfl ⟨rfl, rFr_up hfc (by decide), ?_, ?_, ?_, ?_, ?_⟩
        · rw [mx_up_ix _ _ _ _ 0 3 (by decide), m3]
          unfold tE
          rw [if_neg hnn, if_pos hd]
        · rw [mx_up_ix _ _ _ _ 0 5 (by decide)]; exact m5
        · rw [mx_up_same, hv]
        · intro h2
          exfalso
          unfold tKd at h2
          rw [if_neg hnn, if_pos hd] at h2
          split at h2 <;> cases h2
        · intro h2
          unfold tKd at h2
          rw [if_neg hnn, if_pos hd] at h2
          rw [mx_up_ix _ _ _ _ 0 6 (by decide), m6]
          by_cases h9 : 99 < nU x (tS x q) 0 ∨ (tC x q = 48 ∧ 1 < dE x (tS x q) - tS x q)
          · rw [show tN x q = 100 from if_pos h9] at h2
            cases h2
          · rw [show tN x q = nU x (tS x q) 0 from if_neg h9]
      have kd4 : tN x q = 100 → nI (tKd x q) = 4 := by
        intro h
        unfold tKd
        rw [if_neg hnn, if_pos hd, if_neg (by omega)]
        rfl
      have kd2 : tN x q ≤ 99 → nI (tKd x q) = 2 := by
        intro h
        unfold tKd
        rw [if_neg hnn, if_pos hd, if_pos h]
        rfl
      refine mR 4 rfl trivial ?_
      rw [m6, show (99 : Int32) = nI 99 from rfl]
      refine mbGt _ _ rfl (by omega) (by omega) (fun hc => ?_) (fun hc => ?_)
      · refine mR 2 rfl trivial ?_
        exact fin _ (kd4 (by unfold tN; rw [if_pos (Or.inl hc)])).symm
      · refine mR 2 rfl trivial ?_
        refine mx_E_br rfl rfl (fun h48 => ?_) (fun h48 => ?_)
        · refine mR 1 rfl trivial ?_
          refine fin _ (kd2 ?_).symm
          unfold tN
          rw [if_neg (fun z => z.elim (fun z => by omega) (fun z => h48 z.1))]
          omega
        · refine mR 6 rfl trivial ?_
          rw [m3, m5, pk_sub hdl.1, show (1 : Int32) = nI 1 from rfl]
          refine mbLe _ _ rfl (by omega) (by omega) (fun hd1 => ?_) (fun hd1 => ?_)
          · refine mR 1 rfl trivial ?_
            refine fin _ (kd2 ?_).symm
            unfold tN
            rw [if_neg (fun z => z.elim (fun z => by omega) (fun z => by omega))]
            omega
          · refine mR 2 rfl trivial ?_
            exact fin _ (kd4 (by unfold tN; rw [if_pos (Or.inr ⟨Decidable.not_not.mp h48, hd1⟩)])).symm
  · have hneg : tC x q < 0 := by
      show pLt x (tS x q) < 0
      rcases Int32.lt_or_le (pLt x (tS x q)) 0 with z | z
      · exact z
      · exact absurd z hge
    refine mR 4 rfl trivial ?_
    refine mx_E_vret rfl rfl ⟨rfl, rFr_up hf3 (by decide), ?_, ?_, ?_, ?_, ?_⟩
    · rw [mx_up_ix _ _ _ _ 0 3 (by decide), k3]
      unfold tE
      rw [if_pos hneg]
    · rw [mx_up_ix _ _ _ _ 0 5 (by decide)]; exact k5
    · rw [mx_up_same]
      unfold tKd
      rw [if_pos hneg]
      rfl
    · intro h2
      unfold tKd at h2
      rw [if_pos hneg] at h2
      cases h2
    · intro h2
      unfold tKd at h2
      rw [if_pos hneg] at h2
      cases h2
