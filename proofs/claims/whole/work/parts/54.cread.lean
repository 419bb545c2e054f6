/-! the class: items read -/
def eOk {α : Type} (r : Except Nat α) : Bool := match r with
  | .ok _ => true
  | .error _ => false
/-- only the text's reading and what it tells have changed -/
def cFr (c c' : mx_M) : Prop := mfr [1, 3, 4, 5] c c' ∧ ∀ k, k ∉ [3, 4, 5, 6] → c' 1 k = c 1 k
theorem cFr_rf (c : mx_M) : cFr c c := ⟨mfr_rf _ _, fun _ _ => rfl⟩
theorem cFr_tr {c c1 c2 : mx_M} (h : cFr c c1) (h2 : cFr c1 c2) : cFr c c2 := ⟨mfr_tr h.1 h2.1, fun k hk => (h2.2 k hk).trans (h.2 k hk)⟩
theorem cFr_1 {c c1 : mx_M} (h : cF1 c c1) : cFr c c1 := ⟨mfr_mo h.1 (by decide), h.2⟩
theorem cFr_up {c c1 : mx_M} {i k : Nat} {v : Int32} (h : cFr c c1) (hi : i ∈ [3, 4, 5]) : cFr c (mx_up c1 i k v) := ⟨mfr_up h.1 (by simp at hi ⊢; omega), fun j hj => by rw [mx_up_id _ _ _ _ _ _ (by simp at hi; omega)]; exact h.2 j hj⟩
theorem cTx_fr {c c' : mx_M} {x : pX} (h : cTx c x) (hf : cFr c c') : cTx c' x := ⟨by rw [hf.2 2 (by decide)]; exact h.1, h.2.1, fun i hi => by rw [hf.1 2 (by decide)]; exact h.2.2.1 i hi, h.2.2.2⟩
theorem wI_9 {q : Option Nat} (h : ∀ m, q = some m → m < 1000) : wI q = -9 ↔ q = none := by
  cases q with
  | none => exact ⟨fun _ => rfl, fun _ => rfl⟩
  | some m => exact ⟨fun z => absurd (show nI m = -9 from z) (kI_ne (by have := h m rfl; omega)), fun z => by cases z⟩
-- a ranking
theorem lp_Te_rk {Q : Option Value → mx_M → Prop} {c0 : mx_M} {x : pX} {n mm : Nat} (hn : n ≤ 6) (hm : mm < 9) (hx : cTx c0 x) (h2 : c0 3 2 = nI n) (h3m : c0 3 3 = nI mm) {r : Except Nat (Nat × (Nat → Nat))}
    (hq : ∀ c', cFr c0 c' → (∀ k, k ≠ 3 → c' 3 k = c0 3 k) → c' 5 = c0 5 → (∀ z, (z < 6 * mm ∨ 6 * mm + n ≤ z) → c' 4 z = c0 4 z) → (match r with
      | .error e => c' 1 5 = nI e
      | .ok v => c' 1 3 = nI v.1 ∧ c' 3 3 = nI (mm + 1) ∧ ∀ i, i < n → c' 4 (6 * mm + i) = nI (v.2 i)) → Q (some (.int (mz (eOk r)))) c') :
    ∀ (t p u q : Nat) (f : Nat → Nat) (c : mx_M), p + t = n → u < 64 → q ≤ x.1 → cFr c0 c → c 3 = c0 3 → c 5 = c0 5 → (∀ z, (z < 6 * mm ∨ 6 * mm + n ≤ z) → c 4 z = c0 4 z) → c 1 3 = nI q → (∀ i, i < p → c 4 (6 * mm + i) = nI (f i)) → pRk x n t p u q f = r → mx_E 0 4 m_Te_readRanking Q 4 [.ref 1, .int (nI u), .int (nI p), .null] [] c
  | 0, p, u, q, f, c, hp, hu, hql, hf, k3, k5, k4, h3, hi, hr => by
    have e : p = n := by omega
    have l2 : c 3 2 = nI n := by rw [k3]; exact h2
    refine mR 4 rfl trivial ?_
    rw [l2]
    refine mbGe _ _ rfl (by omega) (by omega) (fun _ => ?_) (fun z => by omega)
    refine mR 8 rfl trivial ?_
    rw [k3, h3m, nI_1]
    have hr2 : Except.ok (q, f) = r := hr
    refine mx_E_zret rfl rfl (Or.inr rfl) ?_
    have z := hq (mx_up c 3 3 (nI (mm + 1))) (cFr_up hf (by decide)) (fun k hk => by rw [mx_up_ix _ _ _ _ _ _ hk, k3]) (by rw [mx_up_rid _ _ _ _ _ (by decide)]; exact k5) (fun z hz => by rw [mx_up_id _ _ _ _ _ _ (by decide)]; exact k4 z hz)
    rw [← hr2] at z
    exact z ⟨by rw [mx_up_id _ _ _ _ _ _ (by decide)]; exact h3, mx_up_same _ _ _ _, fun i hin => by rw [mx_up_id _ _ _ _ _ _ (by decide)]; exact hi i (by omega)⟩
  | t + 1, p, u, q, f, c, hp, hu, hql, hf, k3, k5, k4, h3, hi, hr => by
    have l2 : c 3 2 = nI n := by rw [k3]; exact h2
    have hE := tE_le hql
    have h120 := hx.2.1
    refine mR 4 rfl trivial ?_
    rw [l2]
    refine mbGe _ _ rfl (by omega) (by omega) (fun z => by omega) (fun _ => ?_)
    refine mR 1 rfl trivial ?_
    refine mx_E_callV (sp_Te_take _ (cTx_fr hx hf) hql h3) rfl rfl rfl (fun r1 c1 hr1 => ?_)
    obtain ⟨rfl, f1, ht⟩ := hr1
    have g3 : c1 3 = c0 3 := by rw [f1.1 3 (by decide)]; exact k3
    have g5 : c1 5 = c0 5 := by rw [f1.1 5 (by decide)]; exact k5
    have g4 : ∀ z, (z < 6 * mm ∨ 6 * mm + n ≤ z) → c1 4 z = c0 4 z := fun z hz => by rw [f1.1 4 (by decide)]; exact k4 z hz
    have hf1 := cFr_tr hf (cFr_1 f1)
    have l12 : c1 3 2 = nI n := by rw [g3]; exact h2
    refine mR 1 rfl trivial ?_
    refine mx_E_callV (sp_Te_motionOfSign _ hx.2.2.2 hn ht l12) rfl rfl rfl (fun r2 c2 hr2 => ?_)
    obtain ⟨rfl, hz⟩ := hr2
    rw [hz]
    have bad : ∀ L1 L2 L3 : Value, r = .error (tS x q) → mx_E 0 4 m_Te_readRanking Q 24 [.ref 1, L1, L2, L3] [] c1 := by
      intro L1 L2 L3 he
      refine mR 1 rfl trivial ?_
      refine mx_E_zret rfl rfl (Or.inl rfl) ?_
      have z := hq c1 hf1 (fun k _ => by rw [g3]) g5 g4
      rw [he] at z
      exact z ht.2.1
    unfold pRk at hr
    refine mR 3 rfl trivial ?_
    cases hM : pMt n (tC x q) with
    | none =>
      rw [hM] at hr
      exact mx_E_br rfl rfl (fun _ => bad _ _ _ hr.symm) (fun z => absurd rfl z)
    | some m =>
      rw [hM] at hr
      dsimp only at hr
      have hmn := (pMt_lt (by omega) hM).1
      refine mx_E_br rfl rfl (fun z => absurd (show nI m = -9 from z) (kI_ne (by omega))) (fun _ => ?_)
      refine mR 6 rfl trivial ?_
      rw [show wI (some m) = nI m from rfl, nb_1 (by omega) (by omega)]
      cases hb : u.testBit m with
      | true =>
        rw [hb, if_pos rfl] at hr
        refine mx_E_br rfl rfl (fun z => absurd (show nI 1 = 1 from rfl) z) (fun _ => bad _ _ _ hr.symm)
      | false =>
        rw [hb, if_neg (by decide)] at hr
        refine mx_E_br rfl rfl (fun _ => ?_) (fun z => absurd (show ¬ nI 0 = 1 by decide) z)
        refine mR 6 rfl trivial ?_
        rw [nI_shl1 (by omega), fa_or]
        have e1 : c1 3 3 * 6 + nI p = nI (6 * mm + p) := by rw [g3, h3m, show (6 : Int32) = nI 6 from rfl, pk_mul, nI_add, Nat.mul_comm]
        refine mR 12 rfl (mA1 (by rw [e1]; exact mI (by omega))) ?_
        rw [e1, nI_cl (a := 6 * mm + p) (by omega)]
        refine mR 2 rfl trivial ?_
        have hu2 : u ||| 2 ^ m < 64 := Nat.or_lt_two_pow (n := 6) hu (Nat.lt_of_lt_of_le (Nat.pow_lt_pow_right (by decide) (show m < 6 by omega)) (by decide))
        refine mW (lp_Te_rk hn hm hx h2 h3m hq t (p + 1) (u ||| 2 ^ m) (tE x q) (fun i => if i = p then m else f i) (mx_up c1 4 (6 * mm + p) (nI m)) (by omega) hu2 hE.2.1 (cFr_up hf1 (by decide)) (by rw [mx_up_rid _ _ _ _ _ (by decide)]; exact g3) (by rw [mx_up_rid _ _ _ _ _ (by decide)]; exact g5) (fun z hz => by rw [mx_up_ix _ _ _ _ _ _ (by omega)]; exact g4 z hz) (by rw [mx_up_id _ _ _ _ _ _ (by decide)]; exact ht.1) (fun i hip => ?_) hr) ⟨Or.inr rfl, Or.inr rfl, Or.inr (by rw [nI_1]), Or.inl rfl, trivial⟩ rfl rfl
        by_cases e : i = p
        · rw [if_pos e, e, mx_up_same]
        · rw [if_neg e, mx_up_ix _ _ _ _ _ _ (by omega), f1.1 4 (by decide)]
          exact hi i (by omega)
theorem sp_Te_readRanking (c : mx_M) {x : pX} {n mm q : Nat} (hn : n ≤ 6) (hm : mm < 9) (hx : cTx c x) (h2 : c 3 2 = nI n) (h3m : c 3 3 = nI mm) (hq : q ≤ x.1) (h3 : c 1 3 = nI q) : mx_Spec 0 4 m_Te_readRanking [.ref 1] c (fun r c' => r = some (.int (mz (eOk (pRk x n n 0 0 q (fun _ => 0))))) ∧ cFr c c' ∧ (∀ k, k ≠ 3 → c' 3 k = c 3 k) ∧ c' 5 = c 5 ∧ (∀ z, (z < 6 * mm ∨ 6 * mm + n ≤ z) → c' 4 z = c 4 z) ∧ (match pRk x n n 0 0 q (fun _ => 0) with
      | .error e => c' 1 5 = nI e
      | .ok v => c' 1 3 = nI v.1 ∧ c' 3 3 = nI (mm + 1) ∧ ∀ i, i < n → c' 4 (6 * mm + i) = nI (v.2 i))) := by
  refine mx_Spec_E rfl rfl rfl ?_
  refine mR 4 rfl trivial ?_
  exact lp_Te_rk hn hm hx h2 h3m (fun c' h1 h2 h3 h4 h5 => ⟨rfl, h1, h2, h3, h4, h5⟩) n 0 0 q (fun _ => 0) c (by omega) (by decide) hq (cFr_rf c) rfl rfl (fun _ _ => rfl) h3 (fun i hi => absurd hi (Nat.not_lt_zero i)) rfl
-- a branch
theorem sp_Pi_addNode3 (c : mx_M) {b : Nat} (v : Int32) (hb : b < 63) (h4 : c 3 4 = nI b) : mx_Spec 0 1 m_Pi_addNode [.ref 3, .int v] c (fun r c' => r = none ∧ c' = mx_up (mx_up c 5 b v) 3 4 (nI (b + 1))) := by
  refine mx_Spec_E rfl rfl rfl ?_
  refine mR 3 rfl trivial ?_
  rw [h4, show (63 : Int32) = nI 63 from rfl]
  refine mbGe _ _ rfl (by omega) (by decide) (fun h => by omega) (fun _ => ?_)
  refine mR 6 rfl (mA1 (by rw [h4]; exact mI (by omega))) ?_
  rw [h4, nI_cl (by omega)]
  refine mR 6 rfl trivial ?_
  rw [mx_up_id _ _ _ _ _ _ (by decide), h4, nI_1]
  exact mx_E_vret rfl rfl ⟨rfl, rfl⟩
/-- behind the reading of a branch, b nodes being ahead of it -/
def cBr (c c' : mx_M) (b : Nat) (r : Except Nat (Nat × pA)) : Prop := cFr c c' ∧ (∀ k, k ≠ 4 → c' 3 k = c 3 k) ∧ c' 4 = c 4 ∧ (∀ z, z < b → c' 5 z = c 5 z) ∧ (match r with
  | .error e => c' 1 5 = nI e
  | .ok v => c' 1 3 = nI v.1 ∧ c' 3 4 = nI (b + v.2.2.2) ∧ ∀ j, j < v.2.2.2 → c' 5 (b + j) = kC (v.2.1 j))
theorem cv_rb (f : Nat) : mx_cv 0 (f + 5) (f + 4) m_Te_readBranch 1 [.ref 1] [] = true := by
  show Nat.blt (f + 4) (f + 5) = true
  rw [Nat.blt_eq]
  omega
theorem sp_Te_readBranch {x : pX} {n : Nat} (hn : n ≤ 6) : ∀ (f q b : Nat) (c : mx_M), 31 ≤ b + f → b ≤ 62 → cTx c x → q ≤ x.1 → c 1 3 = nI q → c 3 2 = nI n → c 3 4 = nI b → mx_Spec 0 (f + 4) m_Te_readBranch [.ref 1] c (fun r c' => r = some (.int (mz (eOk (pAg x n f q b)))) ∧ cBr c c' b (pAg x n f q b))
  | 0, q, b, c, hf, hb, hx, hq, h3, h2, h4 => by
    refine mx_Spec_E rfl rfl rfl ?_
    refine mR 1 rfl trivial ?_
    refine mx_E_callV (sp_Te_take _ hx hq h3) rfl rfl rfl (fun r1 c1 hr1 => ?_)
    obtain ⟨rfl, f1, ht⟩ := hr1
    refine mR 4 rfl trivial ?_
    rw [f1.1 3 (by decide), h4, show (31 : Int32) = nI 31 from rfl]
    refine mbLt _ _ rfl (by omega) (by decide) (fun z => by omega) (fun _ => ?_)
    refine mR 1 rfl trivial ?_
    exact mx_E_zret rfl rfl (Or.inl rfl) ⟨rfl, cFr_1 f1, fun k _ => by rw [f1.1 3 (by decide)], f1.1 4 (by decide), fun z _ => by rw [f1.1 5 (by decide)], ht.2.1⟩
  | f + 1, q, b, c, hf, hb, hx, hq, h3, h2, h4 => by
    have hE := tE_le hq
    refine mx_Spec_E rfl rfl rfl ?_
    refine mR 1 rfl trivial ?_ (by omega)
    refine mx_E_callV (sp_Te_take _ hx hq h3) rfl rfl rfl (fun r1 c1 hr1 => ?_)
    obtain ⟨rfl, f1, ht⟩ := hr1
    have e3 : c1 3 = c 3 := f1.1 3 (by decide)
    have e4 : c1 4 = c 4 := f1.1 4 (by decide)
    have e5 : c1 5 = c 5 := f1.1 5 (by decide)
    have x1 := cTx_1 hx f1
    refine mR 4 rfl trivial ?_ (by omega)
    rw [e3, h4, show (31 : Int32) = nI 31 from rfl]
    unfold pAg
    refine mbLt _ _ rfl (by omega) (by decide) (fun hb1 => ?_) (fun hb1 => ?_)
    · rw [if_neg (show ¬ 31 ≤ b by omega)]
      refine mR 1 rfl trivial ?_ (by omega)
      refine mx_E_callV (sp_Te_motionOfSign _ hx.2.2.2 hn ht (by rw [e3]; exact h2)) rfl rfl rfl (fun r2 c2 hr2 => ?_)
      obtain ⟨rfl, hz⟩ := hr2
      rw [hz]
      refine mR 3 rfl trivial ?_ (by omega)
      cases hM : pMt n (tC x q) with
      | some m =>
        have hmn := (pMt_lt (by omega) hM).1
        refine mx_E_br rfl rfl (fun z => absurd (show nI m = -9 from z) (kI_ne (by omega))) (fun _ => ?_)
        refine mR 3 rfl trivial ?_ (by omega)
        refine mx_E_callV (sp_Pi_addNode3 _ (nI m) (show b < 63 by omega) (by rw [e3]; exact h4)) rfl rfl rfl (fun r3 c3 hr3 => ?_)
        obtain ⟨rfl, hc3⟩ := hr3
        refine mR 1 rfl trivial ?_ (by omega)
        refine mx_E_zret rfl rfl (Or.inr rfl) ⟨rfl, ?_, fun k hk => ?_, ?_, fun z hz => ?_, ?_, ?_, fun j hj => ?_⟩
        · rw [hc3]; exact cFr_up (cFr_up (cFr_1 f1) (by decide)) (by decide)
        · rw [hc3, mx_up_ix _ _ _ _ _ _ hk, mx_up_id _ _ _ _ _ _ (by decide), e3]
        · rw [hc3, mx_up_rid _ _ _ _ _ (by decide), mx_up_rid _ _ _ _ _ (by decide)]; exact e4
        · rw [hc3, mx_up_id _ _ _ _ _ _ (by decide), mx_up_ix _ _ _ _ _ _ (by omega), e5]
        · rw [hc3, mx_up_id _ _ _ _ _ _ (by decide), mx_up_id _ _ _ _ _ _ (by decide)]; exact ht.1
        · rw [hc3, mx_up_same]
        · have e : j = 0 := by have : j < 1 := hj; omega
          rw [e, hc3, mx_up_id _ _ _ _ _ _ (by decide), Nat.add_zero, mx_up_same]
          rfl
      | none =>
        refine mx_E_br rfl rfl (fun _ => ?_) (fun z => absurd rfl z)
        refine mR 3 rfl trivial ?_ (by omega)
        rw [ht.2.2.1]
        have h40 : tSg x q = 40 ↔ tC x q = 40 := sg_eq (by decide) (by decide)
        dsimp only
        refine mx_E_br rfl rfl (fun z => ?_) (fun z => ?_)
        · rw [if_pos (h40.mp z)]
          refine mR 3 rfl trivial ?_ (by omega)
          refine mx_E_callV (sp_Pi_addNode3 _ (-1) (show b < 63 by omega) (by rw [e3]; exact h4)) rfl rfl rfl (fun r3 c3 hr3 => ?_)
          obtain ⟨rfl, hc3⟩ := hr3
          have f3 : cFr c c3 := by rw [hc3]; exact cFr_up (cFr_up (cFr_1 f1) (by decide)) (by decide)
          have k3 : ∀ k, k ≠ 4 → c3 3 k = c 3 k := fun k hk => by rw [hc3, mx_up_ix _ _ _ _ _ _ hk, mx_up_id _ _ _ _ _ _ (by decide), e3]
          have k4 : c3 4 = c 4 := by rw [hc3, mx_up_rid _ _ _ _ _ (by decide), mx_up_rid _ _ _ _ _ (by decide)]; exact e4
          have k5 : ∀ z, z < b → c3 5 z = c 5 z := fun z hz => by rw [hc3, mx_up_id _ _ _ _ _ _ (by decide), mx_up_ix _ _ _ _ _ _ (by omega), e5]
          have k5b : c3 5 b = -1 := by rw [hc3, mx_up_id _ _ _ _ _ _ (by decide), mx_up_same]
          have k13 : c3 1 3 = nI (tE x q) := by rw [hc3, mx_up_id _ _ _ _ _ _ (by decide), mx_up_id _ _ _ _ _ _ (by decide)]; exact ht.1
          refine mR 1 rfl trivial ?_ (by omega)
          refine mx_E_callV (sp_Te_readBranch hn f (tE x q) (b + 1) c3 (by omega) (by omega) (cTx_fr hx f3) hE.2.1 k13 (by rw [k3 2 (by decide)]; exact h2) (by rw [hc3, mx_up_same])) rfl rfl (cv_rb f) (fun r4 c4 hr4 => ?_)
          obtain ⟨rfl, f4, g3, g4, g5, g6⟩ := hr4
          cases hA1 : pAg x n f (tE x q) (b + 1) with
          | error e =>
            rw [hA1] at g6
            refine mbT rfl (fun _ => ?_) (fun z => by cases z)
            refine mR 1 rfl trivial ?_ (by omega)
            exact mx_E_zret rfl rfl (Or.inl rfl) ⟨rfl, cFr_tr f3 f4, fun k hk => by rw [g3 k hk, k3 k hk], g4.trans k4, fun z hz => by rw [g5 z (by omega), k5 z hz], g6⟩
          | ok v1 =>
            rw [hA1] at g6
            obtain ⟨g6, g7, g8⟩ := g6
            obtain ⟨a1, a2, a3, a4⟩ := pAg_le (by omega) f (tE x q) (b + 1) v1 hE.2.1 hA1
            have hb31 : b + 1 + v1.2.2.2 ≤ 62 := by
              rcases a4 with a4 | a4
              · omega
              · cases f with
                | zero => cases hA1
                | succ f =>
                  unfold pAg at hA1
                  rw [if_pos a4] at hA1
                  cases hA1
            have f34 := cFr_tr f3 f4
            refine mbT rfl (fun z => by cases z) (fun _ => ?_)
            refine mR 1 rfl trivial ?_ (by omega)
            refine mx_E_callV (sp_Te_readBranch hn f v1.1 (b + 1 + v1.2.2.2) c4 (by omega) hb31 (cTx_fr hx f34) a2 g6 (by rw [g3 2 (by decide), k3 2 (by decide)]; exact h2) g7) rfl rfl (cv_rb f) (fun r5 c5 hr5 => ?_)
            obtain ⟨rfl, f5, j3, j4, j5, j6⟩ := hr5
            have f345 := cFr_tr f34 f5
            have q3 : ∀ k, k ≠ 4 → c5 3 k = c 3 k := fun k hk => by rw [j3 k hk, g3 k hk, k3 k hk]
            have q4 : c5 4 = c 4 := j4.trans (g4.trans k4)
            have q5 : ∀ z, z < b → c5 5 z = c 5 z := fun z hz => by rw [j5 z (by omega), g5 z (by omega), k5 z hz]
            cases hA2 : pAg x n f v1.1 (b + 1 + v1.2.2.2) with
            | error e =>
              rw [hA2] at j6
              refine mbF rfl (fun z => by cases z) (fun _ => ?_)
              refine mR 1 rfl trivial ?_ (by omega)
              refine mx_E_zret rfl rfl (Or.inl rfl) ⟨?_, f345, q3, q4, q5, ?_⟩
              · dsimp only
                rw [hA2]
                rfl
              · dsimp only
                rw [hA2]
                exact j6
            | ok v2 =>
              rw [hA2] at j6
              obtain ⟨j6, j7, j8⟩ := j6
              obtain ⟨b1, b2, b3, b4⟩ := pAg_le (by omega) f v1.1 (b + 1 + v1.2.2.2) v2 a2 hA2
              dsimp only
              rw [hA2]
              dsimp only
              refine mbF rfl (fun _ => ?_) (fun z => by cases z)
              refine mR 1 rfl trivial ?_ (by omega)
              refine mx_E_callV (sp_Te_take _ (cTx_fr hx f345) b2 j6) rfl rfl rfl (fun r6 c6 hr6 => ?_)
              obtain ⟨rfl, f6, ht6⟩ := hr6
              have d3 : c6 3 = c5 3 := f6.1 3 (by decide)
              have d4 : c6 4 = c5 4 := f6.1 4 (by decide)
              have d5 : c6 5 = c5 5 := f6.1 5 (by decide)
              have f6a := cFr_tr f345 (cFr_1 f6)
              have h41 : tSg x v2.1 = 41 ↔ tC x v2.1 = 41 := sg_eq (by decide) (by decide)
              refine mR 3 rfl trivial ?_ (by omega)
              rw [ht6.2.2.1]
              refine mx_E_br rfl rfl (fun z => ?_) (fun z => ?_)
              · rw [if_neg (fun w => z (h41.mpr w))]
                refine mR 1 rfl trivial ?_ (by omega)
                exact mx_E_zret rfl rfl (Or.inl rfl) ⟨rfl, f6a, fun k hk => by rw [d3]; exact q3 k hk, d4.trans q4, fun z hz => by rw [d5]; exact q5 z hz, ht6.2.1⟩
              · rw [if_pos (h41.mp (Decidable.not_not.mp z))]
                refine mR 2 rfl trivial ?_ (by omega)
                refine mx_E_zret rfl rfl (Or.inr rfl) ⟨rfl, f6a, fun k hk => by rw [d3]; exact q3 k hk, d4.trans q4, fun z hz => by rw [d5]; exact q5 z hz, ht6.1, ?_, fun j hj => ?_⟩
                · rw [d3, j7]
                  congr 1
                  show b + 1 + v1.2.2.2 + v2.2.2.2 = b + (1 + v1.2.2.2 + v2.2.2.2)
                  omega
                · have hj2 : j < 1 + v1.2.2.2 + v2.2.2.2 := hj
                  rw [d5]
                  show _ = kC (jK v1.2.2.2 v1.2.1 v2.2.1 j)
                  by_cases w0 : j = 0
                  · rw [w0, Nat.add_zero, j5 b (by omega), g5 b (by omega), k5b]
                    rfl
                  · obtain ⟨i, rfl⟩ : ∃ i, j = i + 1 := ⟨j - 1, by omega⟩
                    by_cases w1 : i < v1.2.2.2
                    · rw [jK_1 w1, j5 _ (by omega), show b + (i + 1) = b + 1 + i by omega]
                      exact g8 i w1
                    · obtain ⟨i2, rfl⟩ : ∃ i2, i = v1.2.2.2 + i2 := ⟨i - v1.2.2.2, by omega⟩
                      rw [jK_2, show b + (v1.2.2.2 + i2 + 1) = b + 1 + v1.2.2.2 + i2 by omega]
                      exact j8 i2 (by omega)
        · rw [if_neg (fun w => z (h40.mpr w))]
          refine mR 1 rfl trivial ?_ (by omega)
          exact mx_E_zret rfl rfl (Or.inl rfl) ⟨rfl, cFr_1 f1, fun k _ => by rw [e3], e4, fun z _ => by rw [e5], ht.2.1⟩
    · rw [if_pos hb1]
      refine mR 1 rfl trivial ?_ (by omega)
      exact mx_E_zret rfl rfl (Or.inl rfl) ⟨rfl, cFr_1 f1, fun k _ => by rw [e3], e4, fun z _ => by rw [e5], ht.2.1⟩
