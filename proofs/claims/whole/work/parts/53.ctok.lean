/-! the class: the text's tokens -/
/-- only the text's reading has changed -/
def cF1 (c c' : mx_M) : Prop := mfr [1] c c' ∧ ∀ k, k ∉ [3, 4, 5, 6] → c' 1 k = c 1 k
theorem cF1_rf (c : mx_M) : cF1 c c := ⟨mfr_rf _ _, fun _ _ => rfl⟩
theorem cF1_tr {c c1 c2 : mx_M} (h : cF1 c c1) (h2 : cF1 c1 c2) : cF1 c c2 := ⟨mfr_tr h.1 h2.1, fun k hk => (h2.2 k hk).trans (h.2 k hk)⟩
theorem cF1_up {c c1 : mx_M} {k : Nat} {v : Int32} (h : cF1 c c1) (hk : k ∈ [3, 4, 5, 6]) : cF1 c (mx_up c1 1 k v) := ⟨mfr_up h.1 (by decide), fun j hj => by rw [mx_up_ix _ _ _ _ _ _ (fun e => hj (by rw [e]; exact hk))]; exact h.2 j hj⟩
def cTx (c : mx_M) (x : pX) : Prop := c 1 2 = nI x.1 ∧ x.1 ≤ 120 ∧ (∀ i, i < x.1 → c 2 i = x.2 i) ∧ pVal x
theorem cTx_1 {c c' : mx_M} {x : pX} (h : cTx c x) (hf : cF1 c c') : cTx c' x := ⟨by rw [hf.2 2 (by decide)]; exact h.1, h.2.1, fun i hi => by rw [hf.1 2 (by decide)]; exact h.2.2.1 i hi, h.2.2.2⟩
/-- what the class calls a token -/
def tSg (x : pX) (q : Nat) : Int32 := if tC x q < 0 then -1 else if dgt (tC x q) then 48 else tC x q
/-- the class has read the token at q -/
def cTok (c : mx_M) (x : pX) (q : Nat) : Prop := c 1 3 = nI (tE x q) ∧ c 1 5 = nI (tS x q) ∧ c 1 4 = tSg x q ∧ (dgt (tC x q) = true → c 1 6 = nI (tN x q))
theorem sp_Te_isDigit (c : mx_M) (x : Int32) : mx_Spec 0 1 m_Te_isDigit [.int x] c (fun r c' => r = some (.int (mz (dgt x))) ∧ c' = c) := by
  refine mx_Spec_E rfl rfl rfl ?_
  refine mR 2 rfl trivial ?_
  unfold dgt
  refine mx_E_br rfl rfl (fun h => ?_) (fun h => ?_)
  · refine mR 1 rfl trivial ?_
    refine mx_E_zret rfl rfl (Or.inl rfl) ⟨?_, rfl⟩
    rw [decide_eq_false (fun q => absurd q.1 (fa_of_lt h).2.1)]
    rfl
  · refine mR 2 rfl trivial ?_
    refine mx_E_br rfl rfl (fun h2 => ?_) (fun h2 => ?_)
    · refine mR 1 rfl trivial ?_
      refine mx_E_zret rfl rfl (Or.inl rfl) ⟨?_, rfl⟩
      rw [decide_eq_false (fun q => absurd q.2 (fa_of_lt h2).2.1)]
      rfl
    · refine mR 2 rfl trivial ?_
      refine mx_E_zret rfl rfl (Or.inr rfl) ⟨?_, rfl⟩
      rw [decide_eq_true ⟨fa_of_nlt h, fa_of_nlt h2⟩]
      rfl
def cNf (c c' : mx_M) : Prop := mfr [1] c c' ∧ ∀ k, k ∉ [3, 6] → c' 1 k = c 1 k
theorem cNf_up {c c1 : mx_M} {k : Nat} {v : Int32} (h : cNf c c1) (hk : k ∈ [3, 6]) : cNf c (mx_up c1 1 k v) := ⟨mfr_up h.1 (by decide), fun j hj => by rw [mx_up_ix _ _ _ _ _ _ (fun e => hj (by rw [e]; exact hk))]; exact h.2 j hj⟩
/-- a number as far as it is read -/
def nC (v : Nat) : Nat := if 99 < v then 100 else v
theorem nC_s {v d : Nat} : (if 100 < nC v * 10 + d then 100 else nC v * 10 + d) = nC (if 99 < v then v else 10 * v + d) := by
  unfold nC
  by_cases h : 99 < v
  · rw [if_pos h, if_pos h, if_pos h, if_pos (by omega)]
  · rw [if_neg h, if_neg h]
    by_cases h2 : 99 < 10 * v + d
    · rw [if_pos h2]
      split <;> omega
    · rw [if_neg h2, if_neg (by omega)]
      omega
theorem nC_le (v : Nat) : nC v ≤ 100 := by unfold nC; split <;> omega
theorem nC_0 {v : Nat} : nC v = 0 ↔ v = 0 := by unfold nC; split <;> omega
theorem lp_Te_num {Q : Option Value → mx_M → Prop} {c0 : mx_M} {x : pX} {s : Nat} (hx : cTx c0 x) (h5 : c0 1 5 = nI s) (hs : s < x.1) (hq : ∀ c', cNf c0 c' → c' 1 3 = nI (dE x s) → c' 1 6 = nI (if 99 < nU x s 0 ∨ (pLt x s = 48 ∧ 1 < dE x s - s) then 100 else nU x s 0) → Q none c') :
    ∀ (u p v : Nat) (c : mx_M), p + u = x.1 → s ≤ p → cNf c0 c → c 1 3 = nI p → c 1 6 = nI (nC v) → v ≤ 999 → nU x p v = nU x s 0 → dE x p = dE x s → (s < p → pLt x s ≠ 48 → 1 ≤ v) → (p = s + 1 → pLt x s = 48 → v = 0) → (p = s → v = 0) → mx_E 0 2 m_Te_takeNumber Q 5 [.ref 1, .int (mz (decide (pLt x s = 48 ∧ 1 < p - s)))] [] c := by
  obtain ⟨x1, x2, x3, x4⟩ := hx
  have fin : ∀ (p v : Nat) (c : mx_M), dgt (pLt x p) = false → cNf c0 c → c 1 3 = nI p → c 1 6 = nI (nC v) → nU x p v = nU x s 0 → dE x p = dE x s → mx_E 0 2 m_Te_takeNumber Q 54 [.ref 1, .int (mz (decide (pLt x s = 48 ∧ 1 < p - s)))] [] c := by
    intro p v c hd hf h3 h6 hn hE
    rw [nU_e hd] at hn
    rw [dE_e hd] at hE
    refine mR 1 rfl trivial ?_
    refine mbT rfl (fun z => ?_) (fun z => ?_)
    · refine mx_E_vret rfl rfl (hq c hf (by rw [h3, hE]) ?_)
      have z2 := of_decide_eq_false z
      rw [h6, ← hn, ← hE]
      unfold nC
      by_cases e : 99 < v
      · rw [if_pos e, if_pos (Or.inl e)]
      · rw [if_neg e, if_neg (fun q => q.elim e z2)]
    · have z2 := of_decide_eq_true z
      refine mR 3 rfl trivial ?_
      refine mx_E_vret rfl rfl (hq _ (cNf_up hf (by decide)) (by rw [mx_up_ix _ _ _ _ _ _ (by decide), h3, hE]) ?_)
      rw [mx_up_same, ← hn, ← hE, if_pos (Or.inr z2)]
      rfl
  intro u
  induction u with
  | zero =>
    intro p v c hp hsp hf h3 h6 hv hn hE ha hb hc0
    have l2 : c 1 2 = nI x.1 := by rw [hf.2 2 (by decide)]; exact x1
    refine mR 4 rfl trivial ?_
    rw [h3, l2]
    refine mbGe _ _ rfl (by omega) (by omega) (fun _ => ?_) (fun z => by omega)
    refine fin p v c ?_ hf h3 h6 hn hE
    unfold pLt
    rw [if_neg (by omega)]
    decide
  | succ u ih =>
    intro p v c hp hsp hf h3 h6 hv hn hE ha hb hc0
    have l2 : c 1 2 = nI x.1 := by rw [hf.2 2 (by decide)]; exact x1
    have l5 : c 1 5 = nI s := by rw [hf.2 5 (by decide)]; exact h5
    have lp : c 2 p = pLt x p := by
      rw [hf.1 2 (by decide), x3 p (by omega)]
      unfold pLt
      rw [if_pos (by omega)]
    have hc := nC_le v
    refine mR 4 rfl trivial ?_
    rw [h3, l2]
    refine mbGe _ _ rfl (by omega) (by omega) (fun z => by omega) (fun _ => ?_)
    refine mR 5 rfl (mA1 (by rw [h3]; exact mI (by omega))) ?_
    rw [h3, nI_cl (a := p) (by omega), lp]
    refine mx_E_callS (sp_Te_isDigit _ _) rfl rfl rfl (fun r c1 hr => ?_)
    obtain ⟨rfl, hz⟩ := hr
    rw [hz]
    refine mbT rfl (fun hd => fin p v c hd hf h3 h6 hn hE) (fun hd => ?_)
    obtain ⟨d, hd10, ed⟩ := dg_of hd
    have nSe : nS v (pLt x p) = if 99 < v then v else 10 * v + d := by
      unfold nS
      rw [ed, nI_cl (by omega), Nat.add_sub_cancel_left]
    have cont : ∀ z' : Bool, z' = decide (pLt x s = 48 ∧ 1 < p + 1 - s) → mx_E 0 2 m_Te_takeNumber Q 30 [.ref 1, .int (mz (decide (pLt x s = 48 ∧ 1 < p - s)))] [.int (mz z')] c := by
      intro z' hz'
      refine mR 15 rfl (mA1 (by rw [h3]; exact mI (by omega))) ?_
      rw [h3, nI_cl (a := p) (by omega), lp, h6, ed]
      have ev : nI (nC v) * 10 + nI (48 + d) - 48 = nI (nC v * 10 + d) := by
        rw [show (10 : Int32) = nI 10 from rfl, pk_mul, nI_add, show (48 : Int32) = nI 48 from rfl, pk_sub (by omega)]
        congr 1
        omega
      rw [ev]
      have mne : (if (100 : Int32) < nI (nC v * 10 + d) then (100 : Int32) else nI (nC v * 10 + d)) = nI (nC (nS v (pLt x p))) := by
        rw [nSe, ← nC_s, show (100 : Int32) = nI 100 from rfl]
        by_cases e : 100 < nC v * 10 + d
        · rw [if_pos e, if_pos (nI_lt e (by omega))]
        · rw [if_neg e, if_neg (nI_nlt (by omega) (by omega))]
      refine mR 2 rfl trivial ?_
      refine mS (c' := mx_up c 1 6 (nI (nC (nS v (pLt x p))))) ?_ rfl rfl (congrArg (fun z => mx_up c 1 6 z) mne)
      refine mR 7 rfl trivial ?_
      rw [mx_up_ix _ _ _ _ _ _ (show 3 ≠ 6 by decide), h3, nI_1]
      rw [hz']
      refine ih (p + 1) (nS v (pLt x p)) _ (by omega) (by omega) (cNf_up (cNf_up hf (by decide)) (by decide)) (mx_up_same _ _ _ _) (by rw [mx_up_ix _ _ _ _ _ _ (by decide), mx_up_same]) (nS_le hv hd) (by rw [← nU_s hd]; exact hn) (by rw [← dE_s hd]; exact hE) (fun _ h48 => ?_) (fun e1 h48 => ?_) (fun e1 => by omega)
      · rw [nSe]
        rcases Nat.lt_or_ge s p with w | w
        · have := ha w h48
          split <;> omega
        · have e : p = s := by omega
          have hd0 : d ≠ 0 := fun z => h48 (by rw [← e, ed, z]; rfl)
          split <;> omega
      · have e : p = s := by omega
        have hd0 : d = 0 := by
          rw [← e, ed] at h48
          have := (nI_eq (a := 48 + d) (b := 48) (by omega) (by decide)).mp h48
          omega
        rw [nSe, hd0, hc0 e]
        rfl
    refine mR 1 rfl trivial ?_
    refine mbF rfl (fun z => ?_) (fun z => ?_)
    · have z2 := of_decide_eq_true z
      refine mR 2 rfl trivial ?_
      exact cont true (decide_eq_true ⟨z2.1, by omega⟩).symm
    · have z2 := of_decide_eq_false z
      refine mR 4 rfl trivial ?_
      rw [h3, l5]
      refine mbLe _ _ rfl (by omega) (by omega) (fun w => ?_) (fun w => ?_)
      · refine mR 1 rfl trivial ?_
        exact cont false (decide_eq_false (fun q => by have := q.2; omega)).symm
      · refine mR 2 rfl trivial ?_
        rw [h6]
        refine mx_E_br rfl rfl (fun e => ?_) (fun e => ?_)
        · refine mR 1 rfl trivial ?_
          refine cont false (decide_eq_false (fun q => ?_)).symm
          have p1 : p = s + 1 := by
            rcases Nat.lt_or_ge 1 (p - s) with w2 | w2
            · exact absurd ⟨q.1, w2⟩ z2
            · omega
          have v0 := hb p1 q.1
          exact e (by rw [v0]; rfl)
        · refine mR 2 rfl trivial ?_
          have e0 : nC v = 0 := (nI_eq (b := 0) (by omega) (by decide)).mp (Decidable.not_not.mp e)
          refine cont true (decide_eq_true ⟨?_, by omega⟩).symm
          rcases Decidable.em (pLt x s = 48) with w2 | w2
          · exact w2
          · have := ha w w2
            have := nC_0.mp e0
            omega
theorem sp_Te_takeNumber (c : mx_M) {x : pX} {s : Nat} (hx : cTx c x) (h3 : c 1 3 = nI s) (h5 : c 1 5 = nI s) (hs : s < x.1) : mx_Spec 0 2 m_Te_takeNumber [.ref 1] c (fun r c' => r = none ∧ cNf c c' ∧ c' 1 3 = nI (dE x s) ∧ c' 1 6 = nI (if 99 < nU x s 0 ∨ (pLt x s = 48 ∧ 1 < dE x s - s) then 100 else nU x s 0)) := by
  refine mx_Spec_E rfl rfl rfl ?_
  refine mR 5 rfl trivial ?_
  refine mS (lp_Te_num hx h5 hs (fun c' f1 f2 f3 => ⟨rfl, f1, f2, f3⟩) (x.1 - s) s 0 (mx_up c 1 6 0) (by omega) (Nat.le_refl _) (cNf_up ⟨mfr_rf _ _, fun _ _ => rfl⟩ (by decide)) (by rw [mx_up_ix _ _ _ _ _ _ (by decide)]; exact h3) (by rw [mx_up_same]; rfl) (by decide) rfl rfl (fun h => absurd h (Nat.lt_irrefl _)) (fun h => by omega) (fun _ => rfl)) ?_ rfl rfl
  rw [decide_eq_false (fun q => by have := q.2; omega)]
  rfl
theorem lp_Te_skip {Q : Option Value → mx_M → Prop} {c0 : mx_M} {x : pX} {s : Nat} (hx : cTx c0 x) (hk : ∀ c, cF1 c0 c → c 1 3 = nI s → mx_E 0 3 m_Te_take Q 19 [.ref 1] [] c) :
    ∀ (u p : Nat) (c : mx_M), p + u = x.1 → cF1 c0 c → c 1 3 = nI p → tS x p = s → mx_E 0 3 m_Te_take Q 0 [.ref 1] [] c := by
  obtain ⟨x1, x2, x3, x4⟩ := hx
  intro u
  induction u with
  | zero =>
    intro p c hp hf h3 hs
    have l2 : c 1 2 = nI x.1 := by rw [hf.2 2 (by decide)]; exact x1
    refine mR 4 rfl trivial ?_
    rw [h3, l2]
    refine mbGe _ _ rfl (by omega) (by omega) (fun _ => ?_) (fun z => by omega)
    refine hk c hf ?_
    rw [h3, ← hs, tS_e]
    unfold pLt
    rw [if_neg (by omega)]
    decide
  | succ u ih =>
    intro p c hp hf h3 hs
    have l2 : c 1 2 = nI x.1 := by rw [hf.2 2 (by decide)]; exact x1
    have lp : c 2 p = pLt x p := by
      rw [hf.1 2 (by decide), x3 p (by omega)]
      unfold pLt
      rw [if_pos (by omega)]
    refine mR 4 rfl trivial ?_
    rw [h3, l2]
    refine mbGe _ _ rfl (by omega) (by omega) (fun z => by omega) (fun _ => ?_)
    refine mR 6 rfl (mA1 (by rw [h3]; exact mI (by omega))) ?_
    rw [h3, nI_cl (a := p) (by omega), lp]
    refine mx_E_br rfl rfl (fun z => ?_) (fun z => ?_)
    · refine hk c hf ?_
      rw [h3, ← hs, tS_e z]
    · refine mR 7 rfl trivial ?_
      rw [h3, nI_1]
      exact ih (p + 1) _ (by omega) (cF1_up hf (by decide)) (mx_up_same _ _ _ _) (by rw [← tS_s (Decidable.not_not.mp z)]; exact hs)
theorem sp_Te_take (c : mx_M) {x : pX} {q : Nat} (hx : cTx c x) (hq : q ≤ x.1) (h3 : c 1 3 = nI q) : mx_Spec 0 3 m_Te_take [.ref 1] c (fun r c' => r = none ∧ cF1 c c' ∧ cTok c' x q) := by
  obtain ⟨q1, q2⟩ := tS_le x hq
  have h120 := hx.2.1
  refine mx_Spec_E rfl rfl rfl ?_
  refine lp_Te_skip (s := tS x q) hx (fun c1 f1 g3 => ?_) (x.1 - q) q c (by omega) (cF1_rf c) h3 rfl
  have x1 := cTx_1 hx f1
  refine mR 4 rfl trivial ?_
  rw [g3]
  obtain ⟨c2, hc2⟩ : ∃ c2, c2 = mx_up c1 1 5 (nI (tS x q)) := ⟨_, rfl⟩
  rw [← hc2]
  have f2 : cF1 c c2 := by rw [hc2]; exact cF1_up f1 (by decide)
  have x2 := cTx_1 hx f2
  have k3 : c2 1 3 = nI (tS x q) := by rw [hc2, mx_up_ix _ _ _ _ _ _ (by decide)]; exact g3
  have k5 : c2 1 5 = nI (tS x q) := by rw [hc2, mx_up_same]
  refine mR 4 rfl trivial ?_
  rw [k3, x2.1]
  refine mbLt _ _ rfl (by omega) (by omega) (fun hl => ?_) (fun hl => ?_)
  · have lp : c2 2 (tS x q) = tC x q := by
      rw [x2.2.2.1 _ hl]
      unfold tC pLt
      rw [if_pos hl]
    have hn : ¬ tC x q < 0 := fun z => by
      have := hx.2.2.2 _ hl
      unfold mi at this
      simp only [Bool.and_eq_true, decide_eq_true_eq] at this
      have e : tC x q = x.2 (tS x q) := by unfold tC pLt; rw [if_pos hl]
      rw [e] at z
      exact absurd this.1 (fa_of_lt z).2.1
    refine mR 5 rfl (mA1 (by rw [k3]; exact mI (by omega))) ?_
    rw [k3, nI_cl (a := tS x q) (by omega), lp]
    refine mx_E_callS (sp_Te_isDigit _ _) rfl rfl rfl (fun r c3 hr => ?_)
    obtain ⟨rfl, hz⟩ := hr
    rw [hz]
    refine mbT rfl (fun hd => ?_) (fun hd => ?_)
    · refine mR 6 rfl (mA1 (by rw [k3]; exact mI (by omega))) ?_
      rw [k3, nI_cl (a := tS x q) (by omega), lp]
      refine mR 7 rfl trivial ?_
      rw [mx_up_ix _ _ _ _ _ _ (show 3 ≠ 4 by decide), k3, nI_1]
      refine mx_E_vret rfl rfl ⟨rfl, cF1_up (cF1_up f2 (by decide)) (by decide), ?_, ?_, ?_, fun z => by rw [hd] at z; cases z⟩
      · rw [mx_up_same]
        unfold tE
        rw [if_neg hn, if_neg (by rw [hd]; decide)]
      · rw [mx_up_ix _ _ _ _ _ _ (by decide), mx_up_ix _ _ _ _ _ _ (by decide)]; exact k5
      · rw [mx_up_ix _ _ _ _ _ _ (by decide), mx_up_same]
        unfold tSg
        rw [if_neg hn, if_neg (by rw [hd]; decide)]
    · refine mR 4 rfl trivial ?_
      obtain ⟨c3, hc3⟩ : ∃ c3, c3 = mx_up c2 1 4 48 := ⟨_, rfl⟩
      rw [← hc3]
      have f3 : cF1 c c3 := by rw [hc3]; exact cF1_up f2 (by decide)
      refine mx_E_callV (sp_Te_takeNumber _ (cTx_1 hx f3) (by rw [hc3, mx_up_ix _ _ _ _ _ _ (by decide)]; exact k3) (by rw [hc3, mx_up_ix _ _ _ _ _ _ (by decide)]; exact k5) hl) rfl rfl rfl (fun r c4 hr => ?_)
      obtain ⟨rfl, f4, g3, g6⟩ := hr
      have f4' : cF1 c3 c4 := ⟨f4.1, fun k hk => f4.2 k (fun z => hk (by simp at z ⊢; omega))⟩
      refine mR 1 rfl trivial ?_
      refine mx_E_vret rfl rfl ⟨rfl, cF1_tr f3 f4', ?_, ?_, ?_, fun _ => g6⟩
      · rw [g3]
        unfold tE
        rw [if_neg hn, if_pos hd]
      · rw [f4.2 5 (by decide), hc3, mx_up_ix _ _ _ _ _ _ (by decide)]; exact k5
      · rw [f4.2 4 (by decide), hc3, mx_up_same]
        unfold tSg
        rw [if_neg hn, if_pos hd]
  · have e : tC x q = -1 := by unfold tC pLt; rw [if_neg (by omega)]
    have hn : tC x q < 0 := by rw [e]; decide
    refine mR 4 rfl trivial ?_
    refine mx_E_vret rfl rfl ⟨rfl, cF1_up f2 (by decide), ?_, ?_, ?_, fun z => by rw [e] at z; exact absurd z (by decide)⟩
    · rw [mx_up_ix _ _ _ _ _ _ (by decide), k3]
      unfold tE
      rw [if_pos hn]
    · rw [mx_up_ix _ _ _ _ _ _ (by decide)]; exact k5
    · rw [mx_up_same]
      unfold tSg
      rw [if_pos hn]
-- which token it is
theorem sg_eq {x : pX} {q : Nat} {v : Int32} (h0 : ¬ v < 0) (hd : dgt v = false) : tSg x q = v ↔ tC x q = v := by
  unfold tSg
  by_cases e : tC x q < 0
  · rw [if_pos e]
    exact ⟨fun z => absurd (by rw [← z]; decide) h0, fun z => absurd (by rw [← z]; exact e) h0⟩
  · rw [if_neg e]
    by_cases e2 : dgt (tC x q) = true
    · rw [if_pos e2]
      exact ⟨fun z => by rw [← z] at hd; exact absurd hd (by decide), fun z => by rw [z, hd] at e2; cases e2⟩
    · rw [if_neg e2]
theorem sg_48 {x : pX} {q : Nat} : tSg x q = 48 ↔ dgt (tC x q) = true := by
  unfold tSg
  by_cases e : tC x q < 0
  · rw [if_pos e]
    refine ⟨fun z => absurd z (by decide), fun z => ?_⟩
    obtain ⟨d, hd, ed⟩ := dg_of z
    rw [ed] at e
    exact absurd e (nI_pos (by omega))
  · rw [if_neg e]
    by_cases e2 : dgt (tC x q) = true
    · rw [if_pos e2]
      exact ⟨fun _ => e2, fun _ => rfl⟩
    · rw [if_neg e2]
      exact ⟨fun z => by rw [z] at e2; exact absurd (by decide) e2, fun z => absurd z e2⟩
theorem sg_end {x : pX} {q : Nat} (hv : pVal x) : tSg x q = -1 ↔ tC x q = -1 := by
  unfold tSg
  by_cases e : tC x q < 0
  · rw [if_pos e]
    exact ⟨fun _ => tC_neg hv e, fun _ => rfl⟩
  · rw [if_neg e]
    by_cases e2 : dgt (tC x q) = true
    · rw [if_pos e2]
      exact ⟨fun z => absurd z (by decide), fun z => by rw [z] at e2; exact absurd e2 (by decide)⟩
    · rw [if_neg e2]
theorem dg_mt : ∀ n, n < 7 → ∀ d, d < 10 → mi (nI (48 + d) - 97) n = false := by decide +kernel
theorem m1_mt : ∀ n, n < 7 → mi (-1 - 97) n = false := by decide +kernel
theorem sg_mt {x : pX} {q n : Nat} (hv : pVal x) (hn : n ≤ 6) : (mi (tSg x q - 97) n = true ∧ tSg x q = tC x q) ∨ (mi (tSg x q - 97) n = false ∧ pMt n (tC x q) = none) := by
  unfold tSg
  by_cases e : tC x q < 0
  · rw [if_pos e]
    refine Or.inr ⟨m1_mt n (by omega), ?_⟩
    rw [tC_neg hv e]
    unfold pMt
    rw [if_neg (by rw [m1_mt n (by omega)]; decide)]
  · rw [if_neg e]
    by_cases e2 : dgt (tC x q) = true
    · rw [if_pos e2]
      refine Or.inr ⟨dg_mt n (by omega) 0 (by decide), ?_⟩
      obtain ⟨d, hd, ed⟩ := dg_of e2
      rw [ed]
      unfold pMt
      rw [if_neg (by rw [dg_mt n (by omega) d hd]; decide)]
    · rw [if_neg e2]
      cases hm : mi (tC x q - 97) n with
      | true => exact Or.inl ⟨rfl, rfl⟩
      | false =>
        refine Or.inr ⟨rfl, ?_⟩
        unfold pMt
        rw [if_neg (by rw [hm]; decide)]
theorem sp_Te_motionOfSign (c : mx_M) {x : pX} {q n : Nat} (hv : pVal x) (hn : n ≤ 6) (ht : cTok c x q) (h2 : c 3 2 = nI n) : mx_Spec 0 2 m_Te_motionOfSign [.ref 1] c (fun r c' => r = some (.int (wI (pMt n (tC x q)))) ∧ c' = c) := by
  refine mx_Spec_E rfl rfl rfl ?_
  refine mR 7 rfl trivial ?_
  rw [ht.2.2.1, h2]
  refine mx_E_callS (sp_De_within _ _ n) rfl rfl rfl (fun r c1 hr => ?_)
  obtain ⟨rfl, hz⟩ := hr
  rw [hz]
  rcases sg_mt (q := q) hv hn with ⟨g1, g2⟩ | ⟨g1, g2⟩
  · refine mbT rfl (fun z => by rw [g1] at z; cases z) (fun _ => ?_)
    refine mR 5 rfl trivial ?_
    rw [ht.2.2.1]
    refine mx_E_iret rfl rfl ⟨?_, rfl⟩
    rw [g2] at g1 ⊢
    obtain ⟨j, hj, e⟩ := mi_of (by omega) g1
    unfold pMt
    rw [if_pos g1, e, nI_cl (by omega)]
    rfl
  · refine mbT rfl (fun _ => ?_) (fun z => by rw [g1] at z; cases z)
    refine mR 1 rfl trivial ?_
    refine mx_E_iret rfl rfl ⟨?_, rfl⟩
    rw [g2]
    rfl
