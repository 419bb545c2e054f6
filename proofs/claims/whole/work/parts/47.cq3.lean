/-! the class: what is done: two places exchanged, an order's agenda, branches turned -/
theorem sp_Pi_exchange (c : mx_M) {i y : Nat} (hi : i < 9) (hy : y < 5) : mx_Spec 0 1 m_Pi_exchange [.ref 6, .int (nI i), .int (nI y)] c (fun r c' => r = none ∧ c' = mx_up (mx_up c 7 (6 * i + y) (c 7 (6 * i + y + 1))) 7 (6 * i + y + 1) (c 7 (6 * i + y))) := by
  have e1 : nI i * 6 + nI y = nI (6 * i + y) := by rw [show (6 : Int32) = nI 6 from rfl, pk_mul, nI_add, Nat.mul_comm]
  refine mx_Spec_E rfl rfl rfl ?_
  refine mR 6 rfl trivial ?_
  rw [e1]
  refine mR 22 rfl (mA4 (mI (by omega)) (by rw [nI_1]; exact mI (by omega)) (mI (by omega)) (by rw [nI_1]; exact mI (by omega))) ?_
  rw [nI_1, nI_cl (a := 6 * i + y) (by omega), nI_cl (a := 6 * i + y + 1) (by omega)]
  exact mx_E_vret rfl rfl ⟨rfl, rfl⟩
theorem cP_sw {c c' : mx_M} {n m i y : Nat} {p : mPic} (hn : n ≤ 6) (hi : i < m) (hy : y + 1 < n) (h : cP c 6 7 8 n m p) (hc : c' = mx_up (mx_up c 7 (6 * i + y) (c 7 (6 * i + y + 1))) 7 (6 * i + y + 1) (c 7 (6 * i + y))) : mfr [6, 7, 8] c c' ∧ cP c' 6 7 8 n m (pRr p i (mswp (p.1 i) y)) := by
  obtain ⟨p1, p2, p3, p4, p5, p6, p7⟩ := h
  have f : mfr [7] c c' := by rw [hc]; exact mfr_up (mfr_up (mfr_rf _ _) (by decide)) (by decide)
  refine ⟨mfr_mo f (by decide), by rw [f 6 (by decide)]; exact p1, by rw [f 6 (by decide)]; exact p2, by rw [f 6 (by decide)]; exact p3, fun j hj => ?_, fun j q hj hq => ?_, p6, fun k hk => by rw [f 8 (by decide)]; exact p7 k hk⟩
  · show mperm n (if j = i then mswp (p.1 i) y else p.1 j)
    split
    · exact mswp_perm (p4 i hi) hy
    · exact p4 j hj
  · show _ = nI ((if j = i then mswp (p.1 i) y else p.1 j) q)
    rw [hc]
    by_cases e : j = i
    · rw [if_pos e]
      subst e
      unfold mswp
      by_cases e1 : q = y
      · rw [if_pos e1, e1, mx_up_ix _ _ _ _ _ _ (by omega), mx_up_same, show 6 * j + y + 1 = 6 * j + (y + 1) by omega]
        exact p5 j (y + 1) hj hy
      · rw [if_neg e1]
        by_cases e2 : q = y + 1
        · rw [if_pos e2, e2, show 6 * j + (y + 1) = 6 * j + y + 1 by omega, mx_up_same]
          exact p5 j y hj (by omega)
        · rw [if_neg e2, mx_up_ix _ _ _ _ _ _ (by omega), mx_up_ix _ _ _ _ _ _ (by omega)]
          exact p5 j q hj hq
    · rw [if_neg e, mx_up_ix _ _ _ _ _ _ (by omega), mx_up_ix _ _ _ _ _ _ (by omega)]
      exact p5 j q hj hq
theorem qc_ranks {c : mx_M} {a : mSt} (x y : Int32) (h : cI c a) : mx_Spec 0 7 m_De_ranks [.ref 0, .int x, .int y] c (fun r c' => r = some (.int (aRanks a x y).1) ∧ cI c' (aRanks a x y).2) := by
  obtain ⟨hn, hm⟩ := cI_nm h
  have h6 := hn.2
  have h2 := hn.1
  refine mx_Spec_E rfl rfl rfl ?_
  refine mR 2 rfl trivial ?_
  refine mx_E_callV (sp_De_isMember _ x _ (cI_3 h)) rfl rfl rfl (fun r c1 hr => ?_)
  obtain ⟨rfl, hz⟩ := hr
  rw [hz]
  unfold aRanks
  refine mbT rfl (fun hb => ?_) (fun hb => ?_)
  · rw [hb]
    refine mR 1 rfl trivial ?_
    exact mx_E_iret rfl rfl ⟨rfl, h⟩
  · refine mR 6 rfl trivial ?_
    rw [cI_2 h, show (1 : Int32) = nI 1 from rfl, pk_sub (by omega)]
    refine mx_E_callS (sp_De_within _ y (a.1.1 - 1)) rfl rfl rfl (fun r c1 hr => ?_)
    obtain ⟨rfl, hz⟩ := hr
    rw [hz]
    refine mbF rfl (fun hb2 => ?_) (fun hb2 => ?_)
    · rw [hb, hb2]
      obtain ⟨i, hi, rfl⟩ := mi_of (by omega) hb
      obtain ⟨j, hj, rfl⟩ := mi_of (by omega) hb2
      rw [nI_cl (a := i) (by omega), nI_cl (a := j) (by omega)]
      refine mR 1 rfl trivial ?_
      refine mx_E_callV (sp_De_remember _ h) rfl rfl rfl (fun r c1 hr => ?_)
      obtain ⟨rfl, hI⟩ := hr
      refine mR 4 rfl trivial ?_
      refine mx_E_callV (sp_Pi_exchange _ (i := i) (y := j) (by omega) (by omega)) rfl rfl rfl (fun r c2 hr => ?_)
      obtain ⟨rfl, hc2⟩ := hr
      obtain ⟨f2, hp2⟩ := cP_sw h6 hi (show j + 1 < a.1.1 by omega) hI.1.2.1 hc2
      have hJ2 := cJ_pic hI.1 f2 hp2
      refine mR 1 rfl trivial ?_
      refine mx_E_callV (sp_De_settle _ hn hm hp2) rfl rfl rfl (fun r c3 hr => ?_)
      obtain ⟨rfl, f3, hB⟩ := hr
      have hI3 := cI_set hJ2 f3 hB
      have b3 := cI_3 hI3
      have bT := cI_T hI3
      have bb := cI_b hI3
      have bR := cI_R hI3
      refine mR 6 rfl trivial ?_
      refine mx_E_callV (sp_De_everyone _ hm b3) rfl rfl rfl (fun r c4 hr => ?_)
      obtain ⟨rfl, hz⟩ := hr
      rw [hz]
      refine mx_E_callV (sp_Ba_foreseen13 _ bT h6 hm bb bR (pwt _) bT.2.1.1) rfl rfl rfl (fun r c5 hr => ?_)
      obtain ⟨rfl, hf⟩ := hr
      exact mx_E_iret rfl rfl ⟨rfl, cI_fr hI3 (mfr_mo hf (by decide))⟩
    · rw [hb2, Bool.and_false]
      refine mR 1 rfl trivial ?_
      exact mx_E_iret rfl rfl ⟨rfl, h⟩
theorem sp_Pi_addNode6 (c : mx_M) {b : Nat} (v : Int32) (hb : b < 63) (h4 : c 6 4 = nI b) : mx_Spec 0 1 m_Pi_addNode [.ref 6, .int v] c (fun r c' => r = none ∧ c' = mx_up (mx_up c 8 b v) 6 4 (nI (b + 1))) := by
  refine mx_Spec_E rfl rfl rfl ?_
  refine mR 3 rfl trivial ?_
  rw [h4, show (63 : Int32) = nI 63 from rfl]
  refine mbGe _ _ rfl (by omega) (by decide) (fun h => by omega) (fun _ => ?_)
  refine mR 6 rfl (mA1 (by rw [h4]; exact mI (by omega))) ?_
  rw [h4, nI_cl (by omega)]
  refine mR 6 rfl trivial ?_
  rw [mx_up_id _ _ _ _ _ _ (by decide), h4, nI_1]
  exact mx_E_vret rfl rfl ⟨rfl, rfl⟩
/-- nodes are put in from the b-th on -/
def cLd (c c' : mx_M) (b L : Nat) (K : Nat → Option Nat) : Prop := mfr [6, 8] c c' ∧ (∀ k, k ≠ 4 → c' 6 k = c 6 k) ∧ c' 6 4 = nI (b + L) ∧ (∀ j, j < L → c' 8 (b + j) = kC (K j)) ∧ ∀ x, x < b → c' 8 x = c 8 x
theorem cv_gr (t : Nat) (x y : Int32) : mx_cv 0 (t + 3) (t + 2) m_Pi_grow 4 [.ref 6, .ref 31, .int x, .int y] [] = true := by
  show Nat.blt (t + 2) (t + 3) = true
  rw [Nat.blt_eq]
  omega
theorem sp_Pi_grow {n : Nat} {f : Nat → Nat} (hn : n ≤ 6) (hf : ∀ p, p < n → f p < n) : ∀ (t its b : Nat) (c : mx_M), t < n → its < n → b + tL t ≤ 63 → c 6 2 = nI n → c 6 4 = nI b → (∀ p, p < n → c 31 p = nI (f p)) → mx_Spec 0 (t + 2) m_Pi_grow [.ref 6, .ref 31, .int (nI its), .int (nI (n - t))] c (fun r c' => r = none ∧ cLd c c' b (tL t) (tK f n t its))
  | 0, its, b, c, ht, hi, hb, h2, h4, h31 => by
    rw [tL_0] at hb
    refine mx_Spec_E rfl rfl rfl ?_
    refine mR 3 rfl trivial ?_
    rw [h2]
    refine mbGe _ _ rfl (by omega) (by omega) (fun _ => ?_) (fun z => by omega)
    refine mR 2 rfl trivial ?_
    refine mx_E_callV (sp_Pi_addNode6 _ (nI its) (show b < 63 by omega) h4) rfl rfl rfl (fun r c1 hr => ?_)
    obtain ⟨rfl, hc1⟩ := hr
    refine mx_E_vret rfl rfl ⟨rfl, ?_, ?_, ?_, ?_, ?_⟩
    · rw [hc1]; exact mfr_up (mfr_up (mfr_rf _ _) (by decide)) (by decide)
    · intro k hk
      rw [hc1, mx_up_ix _ _ _ _ _ _ hk, mx_up_id _ _ _ _ _ _ (by decide)]
    · rw [hc1, mx_up_same]; rfl
    · intro j hj
      have e : j = 0 := by have : j < 1 := hj; omega
      rw [e, hc1, mx_up_id _ _ _ _ _ _ (by decide), Nat.add_zero, mx_up_same]
      rfl
    · intro x hx
      rw [hc1, mx_up_id _ _ _ _ _ _ (by decide), mx_up_ix _ _ _ _ _ _ (by omega)]
  | t + 1, its, b, c, ht, hi, hb, h2, h4, h31 => by
    rw [tL_s] at hb
    have e1 : nI (n - (t + 1)) + 1 = nI (n - t) := by rw [nI_1]; congr 1; omega
    refine mx_Spec_E rfl rfl rfl ?_
    refine mR 3 rfl trivial ?_ (by omega)
    rw [h2]
    refine mbGe _ _ rfl (by omega) (by omega) (fun z => by omega) (fun _ => ?_)
    refine mR 2 rfl trivial ?_ (by omega)
    rw [show (6 : Int32) = nI 6 from rfl]
    refine mbLt _ _ rfl (by omega) (by decide) (fun _ => ?_) (fun z => by omega)
    refine mR 2 rfl trivial ?_ (by omega)
    refine mx_E_callV (sp_Pi_addNode6 _ (-1) (show b < 63 by omega) h4) rfl rfl rfl (fun r c1 hr => ?_)
    obtain ⟨rfl, hc1⟩ := hr
    have f1 : mfr [6, 8] c c1 := by rw [hc1]; exact mfr_up (mfr_up (mfr_rf _ _) (by decide)) (by decide)
    have k1 : ∀ k, k ≠ 4 → c1 6 k = c 6 k := fun k hk => by rw [hc1, mx_up_ix _ _ _ _ _ _ hk, mx_up_id _ _ _ _ _ _ (by decide)]
    have n1 : c1 6 4 = nI (b + 1) := by rw [hc1, mx_up_same]
    refine mR 6 rfl trivial ?_ (by omega)
    rw [e1]
    refine mx_E_callV (sp_Pi_grow hn hf t its (b + 1) c1 (by omega) hi (by omega) (by rw [k1 2 (by decide)]; exact h2) n1 (fun p hp => by rw [f1 31 (by decide)]; exact h31 p hp)) rfl rfl (cv_gr t _ _) (fun r c2 hr => ?_)
    obtain ⟨rfl, f2, k2, n2, w2, o2⟩ := hr
    refine mR 8 rfl (mA1 (mI (by omega))) ?_ (by omega)
    rw [e1, nI_cl (a := n - (t + 1)) (by omega), f2 31 (by decide), f1 31 (by decide), h31 _ (show n - (t + 1) < n by omega)]
    refine mx_E_callV (sp_Pi_grow hn hf t (f (n - (t + 1))) (b + 1 + tL t) c2 (by omega) (hf _ (by omega)) (by omega) (by rw [k2 2 (by decide), k1 2 (by decide)]; exact h2) n2 (fun p hp => by rw [f2 31 (by decide), f1 31 (by decide)]; exact h31 p hp)) rfl rfl (cv_gr t _ _) (fun r c3 hr => ?_)
    obtain ⟨rfl, f3, k3, n3, w3, o3⟩ := hr
    refine mx_E_vret rfl rfl ⟨rfl, mfr_tr (mfr_tr f1 f2) f3, fun k hk => by rw [k3 k hk, k2 k hk, k1 k hk], ?_, ?_, ?_⟩
    · rw [n3, tL_s]
      congr 1
      omega
    · intro j hj
      rw [tL_s] at hj
      show _ = kC (jK (tL t) (tK f n t its) (tK f n t (f (n - (t + 1)))) j)
      by_cases q0 : j = 0
      · rw [q0, Nat.add_zero, o3 b (by omega), o2 b (by omega), hc1, mx_up_id _ _ _ _ _ _ (by decide), mx_up_same]
        rfl
      · obtain ⟨i, rfl⟩ : ∃ i, j = i + 1 := ⟨j - 1, by omega⟩
        by_cases q1 : i < tL t
        · rw [jK_1 q1, o3 _ (by omega), show b + (i + 1) = b + 1 + i by omega]
          exact w2 i q1
        · obtain ⟨i2, rfl⟩ : ∃ i2, i = tL t + i2 := ⟨i - tL t, by omega⟩
          rw [jK_2, show b + (tL t + i2 + 1) = b + 1 + tL t + i2 by omega]
          exact w3 i2 (by omega)
    · intro x hx
      rw [o3 x (by omega), o2 x (by omega), hc1, mx_up_id _ _ _ _ _ _ (by decide), mx_up_ix _ _ _ _ _ _ (by omega)]
theorem cv_pl (t : Nat) (x y : Int32) : mx_cv 0 (t + 3) (t + 2) m_Pi_grow 4 [.ref 6, .ref 31, .int x, .int y] [] = true := cv_gr t x y
theorem pl_d {n : Nat} (hn : mn n) : ∃ t, n = t + 2 ∧ t < 5 := ⟨n - 2, by have := hn.1; have := hn.2; omega, by have := hn.1; have := hn.2; omega⟩
/-- the agenda becomes that of the order in the row -/
theorem sp_Pi_plant (c : mx_M) {n : Nat} {f : Nat → Nat} (hn : mn n) (hf : ∀ p, p < n → f p < n) (h2 : c 6 2 = nI n) (h31 : ∀ p, p < n → c 31 p = nI (f p)) : mx_Spec 0 8 m_Pi_plant [.ref 6, .ref 31] c (fun r c' => r = none ∧ mfr [6, 8] c c' ∧ (∀ k, k ≠ 4 → c' 6 k = c 6 k) ∧ c' 6 4 = nI (tL (n - 1)) ∧ ∀ j, j < tL (n - 1) → c' 8 j = kC (tK f n (n - 1) (f 0) j)) := by
  have h63 := tL_63 hn
  have n2 := hn.1
  have n6 := hn.2
  refine mx_Spec_E rfl rfl rfl ?_
  refine mR 9 rfl (mA1 (mI (n := 0) (by decide))) ?_
  rw [show ((0 : Int32)).toNatClampNeg = 0 by decide, mx_up_id _ _ _ _ _ _ (by decide), h31 0 (by omega)]
  obtain ⟨c1, hc1⟩ : ∃ c1, c1 = mx_up c 6 4 0 := ⟨_, rfl⟩
  rw [← hc1]
  have f1 : mfr [6, 8] c c1 := by rw [hc1]; exact mfr_up (mfr_rf _ _) (by decide)
  have k1 : ∀ k, k ≠ 4 → c1 6 k = c 6 k := fun k hk => by rw [hc1, mx_up_ix _ _ _ _ _ _ hk]
  have e1 : (1 : Int32) = nI (n - (n - 1)) := by rw [show n - (n - 1) = 1 by omega]; rfl
  rw [e1]
  have z := sp_Pi_grow n6 hf (n - 1) (f 0) 0 c1 (by omega) (hf 0 (by omega)) (by omega) (by rw [k1 2 (by decide)]; exact h2) (by rw [hc1, mx_up_same]; rfl) (fun p hp => by rw [f1 31 (by decide)]; exact h31 p hp)
  refine mx_E_callV z rfl rfl ?_ (fun r c2 hr => ?_)
  · show Nat.blt (n - 1 + 2) 8 = true
    rw [Nat.blt_eq]
    omega
  · obtain ⟨rfl, f2, k2, n2, w2, -⟩ := hr
    refine mx_E_vret rfl rfl ⟨rfl, mfr_tr f1 f2, fun k hk => by rw [k2 k hk, k1 k hk], by rw [n2, Nat.zero_add], fun j hj => ?_⟩
    have := w2 j hj
    rw [Nat.zero_add] at this
    exact this
theorem cP_ord {c c' : mx_M} {n m : Nat} {p : mPic} {f : Nat → Nat} (hn : mn n) (hf : ∀ p, p < n → f p < n) (h : cP c 6 7 8 n m p) (h1 : mfr [6, 8] c c') (h2 : ∀ k, k ≠ 4 → c' 6 k = c 6 k) (h3 : c' 6 4 = nI (tL (n - 1))) (h4 : ∀ j, j < tL (n - 1) → c' 8 j = kC (tK f n (n - 1) (f 0) j)) : cP c' 6 7 8 n m (pOrd n p.1 f) := by
  obtain ⟨p1, p2, p3, p4, p5, p6, p7⟩ := h
  refine ⟨by rw [h2 2 (by decide)]; exact p1, by rw [h2 3 (by decide)]; exact p2, h3, p4, ?_, mT_tree.mpr ⟨tT hf (n - 1) (f 0) (by have := hn.1; omega) (hf 0 (by have := hn.1; omega)), tL_63 hn⟩, h4⟩
  rw [h1 7 (by decide)]
  exact p5
theorem qc_sets {c : mx_M} {a : mSt} (x : Int32) (h : cI c a) : mx_Spec 0 9 m_De_sets [.ref 0, .int x] c (fun r c' => r = some (.int (aSets a x).1) ∧ cI c' (aSets a x).2) := by
  obtain ⟨hn, hm⟩ := cI_nm h
  have h6 := hn.2
  have hfl := mfact_le a.1.1 (by omega)
  refine mx_Spec_E rfl rfl rfl ?_
  refine mR 2 rfl trivial ?_
  refine mx_E_callV (sp_De_isOrder _ x h6 (cI_2 h)) rfl rfl rfl (fun r c1 hr => ?_)
  obtain ⟨rfl, hz⟩ := hr
  rw [hz]
  unfold aSets
  refine mbF rfl (fun hb => ?_) (fun hb => ?_)
  · rw [hb]
    obtain ⟨k, hk, rfl⟩ := mi_of (by omega) hb
    rw [nI_cl (a := k) (by omega)]
    refine mR 1 rfl trivial ?_
    refine mx_E_callV (sp_De_remember _ h) rfl rfl rfl (fun r c1 hr => ?_)
    obtain ⟨rfl, hI⟩ := hr
    refine mR 6 rfl trivial ?_
    rw [cI_2 hI]
    refine mx_E_callS (sp_De_layOrder _ a.1.1 k hn hk) rfl rfl rfl (fun r c2 hr => ?_)
    obtain ⟨rfl, hc2⟩ := hr
    have f2 : mfr [31] c1 c2 := fun r hr => by rw [hc2]; exact mx_upR_rid _ _ _ _ (fun e => hr (by rw [e]; decide))
    have hI2 : cI c2 (aN a) := cI_fr hI (mfr_mo f2 (by decide))
    have b2 := cI_2 hI2
    refine mR 4 rfl trivial ?_
    refine mx_E_callV (sp_Pi_plant _ (f := mo a.1.1 k) hn (fun p hp => mo_lt hn hk hp) b2 (fun p hp => by rw [hc2, mx_upR_row, fa_fill_in hp])) rfl rfl rfl (fun r c3 hr => ?_)
    obtain ⟨rfl, f3, k3, n3, w3⟩ := hr
    have hp3 : cP c3 6 7 8 a.1.1 a.1.2 (pOrd a.1.1 a.2.1.1 (mo a.1.1 k)) := cP_ord hn (fun p hp => mo_lt hn hk hp) hI2.1.2.1 f3 k3 n3 w3
    have hJ3 := cJ_pic hI2.1 (mfr_mo f3 (by decide)) hp3
    refine mR 1 rfl trivial ?_
    refine mx_E_callV (sp_De_settle _ hn hm hp3) rfl rfl rfl (fun r c4 hr => ?_)
    obtain ⟨rfl, f4, hB⟩ := hr
    have hI4 := cI_set hJ3 f4 hB
    refine mR 3 rfl trivial ?_
    rw [(cI_T hI4).1]
    exact mx_E_iret rfl rfl ⟨rfl, hI4⟩
  · rw [hb]
    refine mR 1 rfl trivial ?_
    exact mx_E_iret rfl rfl ⟨rfl, h⟩
-- both branches of a vote turned
theorem swI_a {k s1 s2 j : Nat} (h : j < k + 1) : swI k s1 s2 j = j := if_pos h
theorem swI_c {k s1 s2 j : Nat} (h : k + 1 ≤ j) (h2 : j < k + 1 + s2) : swI k s1 s2 j = j + s1 := by unfold swI; rw [if_neg (by omega), if_pos h2]
theorem swI_d {k s1 s2 j : Nat} (h : k + 1 + s2 ≤ j) (h2 : j < k + 1 + s2 + s1) : swI k s1 s2 j = j - s2 := by unfold swI; rw [if_neg (by omega), if_neg (by omega), if_pos h2]
theorem swI_e {k s1 s2 j : Nat} (h : k + 1 + s2 + s1 ≤ j) : swI k s1 s2 j = j := by unfold swI; rw [if_neg (by omega), if_neg (by omega), if_neg (by omega)]
theorem mtree_swp {n nd k s1 s2 : Nat} {K : Nat → Option Nat} {Z : Nat → Nat} (h : mtree n K Z nd) (hk : k < nd) (ek : K k = none) (h1 : s1 = Z (k + 1)) (h2 : s2 = Z (k + 1 + s1)) : mtree n (fun j => K (swI k s1 s2 j)) (fun j => Z (swI k s1 s2 j)) nd := by
  obtain ⟨v1, v2, v3, v4, v5, v6⟩ := mtree_vote h hk ek
  rw [← h1] at v1 v2 v3 v6
  rw [← h2] at v2 v3
  refine ⟨h.1, h.2.1, by show Z (swI k s1 s2 0) = nd; rw [swI_a (by omega)]; exact h.2.2.1, fun j hj => ?_⟩
  show (∃ q, K (swI k s1 s2 j) = some q ∧ q < n ∧ Z (swI k s1 s2 j) = 1) ∨ (K (swI k s1 s2 j) = none ∧ 1 ≤ Z (swI k s1 s2 (j + 1)) ∧ 1 ≤ Z (swI k s1 s2 (j + 1 + Z (swI k s1 s2 (j + 1)))) ∧ Z (swI k s1 s2 j) = 1 + Z (swI k s1 s2 (j + 1)) + Z (swI k s1 s2 (j + 1 + Z (swI k s1 s2 (j + 1)))) ∧ j + Z (swI k s1 s2 j) ≤ nd)
  have hin : swI k s1 s2 j < nd := by unfold swI; split; · omega
                                      split; · omega
                                      split <;> omega
  cases e : K (swI k s1 s2 j) with
  | some q =>
    obtain ⟨g1, g2⟩ := mtree_leaf h hin e
    exact Or.inl ⟨q, rfl, g1, g2⟩
  | none =>
    obtain ⟨g1, g2, g3, g4, g5, g6⟩ := mtree_vote h hin e
    refine Or.inr ⟨rfl, ?_⟩
    rcases Nat.lt_trichotomy j k with q | q | q
    · rw [swI_a (show j < k + 1 by omega)] at *
      rw [swI_a (show j + 1 < k + 1 by omega)]
      have e2 : swI k s1 s2 (j + 1 + Z (j + 1)) = j + 1 + Z (j + 1) := by
        rcases Nat.lt_or_ge (j + 1 + Z (j + 1)) (k + 1) with w | w
        · exact swI_a w
        · have := mtree_nest h hk (nd - (j + 1)) (j + 1) g5 (Nat.le_refl _) (by omega) (by omega)
          exact swI_e (by omega)
      rw [e2]
      exact ⟨g1, g2, g3, g4⟩
    · rw [q] at *
      rw [swI_a (show k < k + 1 by omega)] at *
      rw [swI_c (show k + 1 ≤ k + 1 by omega) (by omega), ← h2, swI_d (show k + 1 + s2 ≤ k + 1 + s2 by omega) (by omega), Nat.add_sub_cancel, ← h1]
      exact ⟨by omega, by omega, by omega, by omega⟩
    · rcases Nat.lt_or_ge j (k + 1 + s2) with w | w
      · rw [swI_c (show k + 1 ≤ j by omega) w] at *
        have nn := mtree_nest h hin (nd - (k + 1 + s1)) (k + 1 + s1) v6 (Nat.le_refl _) (by omega) (by omega)
        rw [← h2] at nn
        have e1 : swI k s1 s2 (j + 1) = j + s1 + 1 := by rw [swI_c (by omega) (by omega)]; omega
        rw [e1]
        have e2 : swI k s1 s2 (j + 1 + Z (j + s1 + 1)) = j + s1 + 1 + Z (j + s1 + 1) := by rw [swI_c (by omega) (by omega)]; omega
        rw [e2]
        exact ⟨g1, g2, g3, by omega⟩
      · rcases Nat.lt_or_ge j (k + 1 + s2 + s1) with w2 | w2
        · rw [swI_d w w2] at *
          have nn := mtree_nest h hin (nd - (k + 1)) (k + 1) v5 (Nat.le_refl _) (by omega) (by omega)
          rw [← h1] at nn
          have e1 : swI k s1 s2 (j + 1) = j - s2 + 1 := by rw [swI_d (by omega) (by omega)]; omega
          rw [e1]
          have e2 : swI k s1 s2 (j + 1 + Z (j - s2 + 1)) = j - s2 + 1 + Z (j - s2 + 1) := by rw [swI_d (by omega) (by omega)]; omega
          rw [e2]
          exact ⟨g1, g2, g3, by omega⟩
        · rw [swI_e w2] at *
          rw [swI_e (show k + 1 + s2 + s1 ≤ j + 1 by omega), swI_e (show k + 1 + s2 + s1 ≤ j + 1 + Z (j + 1) by omega)]
          exact ⟨g1, g2, g3, g4⟩
theorem sp_Pi_turn (c : mx_M) {n nd k : Nat} {K : Nat → Option Nat} {Z : Nat → Nat} (hT : cT c n K Z nd) (hk : k < nd) (ek : K k = none) (h8 : ∀ j, j < nd → c 8 j = kC (K j)) : mx_Spec 0 2 m_Pi_turn [.ref 6, .ref 9, .int (nI k)] c (fun r c' => r = none ∧ mfr [8] c c' ∧ ∀ j, j < nd → c' 8 j = kC (K (swI k (Z (k + 1)) (Z (k + 1 + Z (k + 1))) j))) := by
  obtain ⟨v1, v2, v3, v4, v5, v6⟩ := mtree_vote hT.2.1 hk ek
  have h63 := hT.2.1.2.1
  obtain ⟨s1, hs1⟩ : ∃ s1, s1 = Z (k + 1) := ⟨_, rfl⟩
  rw [← hs1] at v1 v2 v3 v6 ⊢
  obtain ⟨s2, hs2⟩ : ∃ s2, s2 = Z (k + 1 + s1) := ⟨_, rfl⟩
  rw [← hs2] at v2 v3 ⊢
  have z1 : c 11 (k + 1) = nI s1 := by rw [hs1]; exact (hT.2.2 _ v5).2.1
  have z2 : c 11 (k + 1 + s1) = nI s2 := by rw [hs2]; exact (hT.2.2 _ v6).2.1
  refine mx_Spec_E rfl rfl rfl ?_
  refine mR 2 rfl trivial ?_
  refine mx_E_callV (sp_Tr_first _ k) rfl rfl rfl (fun r c1 hr => ?_)
  obtain ⟨rfl, hz⟩ := hr
  rw [hz]
  refine mR 3 rfl trivial ?_
  refine mx_E_callV (sp_Tr_second _ (show k + 1 < 63 by omega) z1) rfl rfl rfl (fun r c1 hr => ?_)
  obtain ⟨rfl, hz⟩ := hr
  rw [hz]
  refine mR 11 rfl (mA2 (mI (by omega)) (mI (by omega))) ?_
  rw [nI_cl (a := k + 1) (by omega), nI_cl (a := k + 1 + s1) (by omega), z1, z2]
  refine mR 8 rfl (mA5 (nI_pos (by omega)) (nI_pos (by omega)) (nI_pos (by omega)) (by rw [nI_cl (by omega), nI_cl (by omega)]; omega) (by rw [nI_cl (by omega), nI_cl (by omega)]; omega)) ?_
  rw [nI_cl (a := k + 1) (by omega), nI_cl (a := k + 1 + s1) (by omega), nI_cl (a := s2) (by omega)]
  refine mR 10 rfl (mA5 (nI_pos (by omega)) (by rw [nI_add]; exact nI_pos (by omega)) (nI_pos (by omega)) (by rw [nI_cl (by omega), nI_cl (by omega)]; omega) (by rw [nI_add, nI_cl (by omega), nI_cl (by omega)]; omega)) ?_
  rw [nI_add, nI_cl (a := k + 1) (by omega), nI_cl (a := k + 1 + s2) (by omega), nI_cl (a := s1) (by omega), mx_upR_rid _ _ _ _ (show 10 ≠ 8 by decide), mx_upR_row, mx_upR_two]
  refine mx_E_vret rfl rfl ⟨rfl, fun r hr => mx_upR_rid _ _ _ _ (fun e => hr (by rw [e]; decide)), fun j hj => ?_⟩
  rw [mx_upR_row]
  unfold va_cpy
  rcases Nat.lt_or_ge j (k + 1) with w | w
  · rw [if_neg (by omega), if_neg (by omega), swI_a w]
    exact h8 j hj
  · rcases Nat.lt_or_ge j (k + 1 + s2) with w2 | w2
    · rw [if_neg (by omega), if_pos ⟨w, w2⟩, swI_c w w2, show k + 1 + s1 + (j - (k + 1)) = j + s1 by omega]
      exact (hT.2.2 _ (by omega)).1
    · rcases Nat.lt_or_ge j (k + 1 + s2 + s1) with w3 | w3
      · rw [if_pos ⟨w2, w3⟩, swI_d w2 w3, show k + 1 + (j - (k + 1 + s2)) = j - s2 by omega]
        exact (hT.2.2 _ (by omega)).1
      · rw [if_neg (by omega), if_neg (by omega), swI_e w3]
        exact h8 j hj
theorem qc_swaps {c : mx_M} {a : mSt} (x : Int32) (h : cI c a) : mx_Spec 0 7 m_De_swaps [.ref 0, .int x] c (fun r c' => r = some (.int (aSwaps a x).1) ∧ cI c' (aSwaps a x).2) := by
  obtain ⟨hn, hm⟩ := cI_nm h
  have h6 := hn.2
  have hT := cI_T h
  have h63 : aD a ≤ 63 := hT.2.1.2.1
  refine mx_Spec_E rfl rfl rfl ?_
  refine mR 4 rfl trivial ?_
  rw [hT.1]
  refine mx_E_callS (sp_De_within _ x (aD a)) rfl rfl rfl (fun r c1 hr => ?_)
  obtain ⟨rfl, hz⟩ := hr
  rw [hz]
  unfold aSwaps
  refine mbF rfl (fun hb => ?_) (fun hb => ?_)
  · rw [hb]
    obtain ⟨k, hk, rfl⟩ := mi_of (by omega) hb
    rw [nI_cl (a := k) (by omega)]
    refine mR 3 rfl trivial ?_
    refine mx_E_callV (sp_isV _ hT h6 hk) rfl rfl rfl (fun r c1 hr => ?_)
    obtain ⟨rfl, hz⟩ := hr
    rw [hz]
    cases e : aK a k with
    | some q =>
      refine mbF rfl (fun z => by cases z) (fun _ => ?_)
      refine mR 1 rfl trivial ?_
      exact mx_E_iret rfl rfl ⟨rfl, h⟩
    | none =>
      refine mbF rfl (fun _ => ?_) (fun z => by cases z)
      refine mR 1 rfl trivial ?_
      refine mx_E_callV (sp_De_remember _ h) rfl rfl rfl (fun r c1 hr => ?_)
      obtain ⟨rfl, hI⟩ := hr
      have hT0 := cI_T hI
      have hT1 : cT c1 a.1.1 (aK a) (aZ a) (aD a) := hT0
      refine mR 5 rfl trivial ?_
      refine mx_E_callV (sp_Pi_turn _ hT1 hk e hI.1.2.1.2.2.2.2.2.2) rfl rfl rfl (fun r c2 hr => ?_)
      obtain ⟨rfl, f2, w2⟩ := hr
      have hp2 : cP c2 6 7 8 a.1.1 a.1.2 (pSwp a.2.1 k) := by
        obtain ⟨p1, p2, p3, p4, p5, p6, p7⟩ := hI.1.2.1
        exact ⟨by rw [f2 6 (by decide)]; exact p1, by rw [f2 6 (by decide)]; exact p2, by rw [f2 6 (by decide)]; exact p3, p4, by rw [f2 7 (by decide)]; exact p5, mtree_swp hT1.2.1 hk e rfl rfl, w2⟩
      have hJ2 := cJ_pic hI.1 (mfr_mo f2 (by decide)) hp2
      refine mR 1 rfl trivial ?_
      refine mx_E_callV (sp_De_settle _ hn hm hp2) rfl rfl rfl (fun r c3 hr => ?_)
      obtain ⟨rfl, f3, hB⟩ := hr
      have hI3 := cI_set hJ2 f3 hB
      have b3 := cI_3 hI3
      have bT := cI_T hI3
      have bb := cI_b hI3
      have bR := cI_R hI3
      refine mR 6 rfl trivial ?_
      refine mx_E_callV (sp_De_everyone _ hm b3) rfl rfl rfl (fun r c4 hr => ?_)
      obtain ⟨rfl, hz⟩ := hr
      rw [hz]
      refine mx_E_callV (sp_Ba_sincere13 _ bT h6 hm bb (pw_lt hm) bT.2.1.1) rfl rfl rfl (fun r c5 hr => ?_)
      obtain ⟨rfl, hz⟩ := hr
      rw [hz]
      exact mx_E_iret rfl rfl ⟨rfl, hI3⟩
  · rw [hb]
    refine mR 1 rfl trivial ?_
    exact mx_E_iret rfl rfl ⟨rfl, h⟩
-- what is seen
theorem sp_Si_add (c : mx_M) {l : Nat} {x y z : Int32} (hl : l < 6) (h : c 27 3 = nI l) : mx_Spec 0 1 m_Si_add [.ref 27, .int x, .int y, .int z] c (fun r c' => r = none ∧ c' = mx_up (mx_up (mx_up (mx_up c 28 l x) 29 l y) 30 l z) 27 3 (nI (l + 1))) := by
  refine mx_Spec_E rfl rfl rfl ?_
  refine mR 3 rfl trivial ?_
  rw [h, show (6 : Int32) = nI 6 from rfl]
  refine mbGe _ _ rfl (by omega) (by decide) (fun h => by omega) (fun _ => ?_)
  refine mR 6 rfl (mA1 (by rw [h]; exact mI (by omega))) ?_
  rw [h, nI_cl (by omega)]
  refine mR 6 rfl (mA1 (by rw [mx_up_id _ _ _ _ _ _ (by decide), h]; exact mI (by omega))) ?_
  rw [mx_up_id _ 28 _ _ 27 _ (by decide), h, nI_cl (by omega)]
  refine mR 6 rfl (mA1 (by rw [mx_up_id _ _ _ _ _ _ (by decide), mx_up_id _ _ _ _ _ _ (by decide), h]; exact mI (by omega))) ?_
  rw [mx_up_id _ 29 _ _ 27 _ (by decide), mx_up_id _ 28 _ _ 27 _ (by decide), h, nI_cl (by omega)]
  refine mR 6 rfl trivial ?_
  rw [mx_up_id _ 30 _ _ 27 _ (by decide), mx_up_id _ 29 _ _ 27 _ (by decide), mx_up_id _ 28 _ _ 27 _ (by decide), h, nI_1]
  exact mx_E_vret rfl rfl ⟨rfl, rfl⟩
theorem qc_sees {c : mx_M} {a : mSt} (x y : Int32) (h : cI c a) : mx_Spec 0 3 m_De_sees [.ref 0, .int x, .int y] c (fun r c' => r = some (.int (aSees a x y).1) ∧ cI c' (aSees a x y).2) := by
  obtain ⟨hn, hm⟩ := cI_nm h
  have h6 := hn.2
  have hT := cI_T h
  have h63 : aD a ≤ 63 := hT.2.1.2.1
  obtain ⟨s1, s2, s3⟩ := h.1.2.2.2.1
  refine mx_Spec_E rfl rfl rfl ?_
  refine mR 4 rfl trivial ?_
  rw [hT.1]
  refine mx_E_callS (sp_De_within _ x (aD a)) rfl rfl rfl (fun r c1 hr => ?_)
  obtain ⟨rfl, hz⟩ := hr
  rw [hz]
  unfold aSees
  refine mbT rfl (fun hb => ?_) (fun hb => ?_)
  · rw [hb]
    refine mR 1 rfl trivial ?_
    exact mx_E_iret rfl rfl ⟨rfl, h⟩
  · refine mR 2 rfl trivial ?_
    refine mx_E_callS (sp_De_within _ y 2) rfl rfl rfl (fun r c1 hr => ?_)
    obtain ⟨rfl, hz⟩ := hr
    rw [hz]
    refine mbF rfl (fun hb2 => ?_) (fun hb2 => ?_)
    · rw [hb, hb2]
      obtain ⟨k, hk, rfl⟩ := mi_of (by omega) hb
      obtain ⟨j, hj, rfl⟩ := mi_of (by decide) hb2
      rw [nI_cl (a := k) (by omega), nI_cl (a := j) (by omega)]
      refine mR 3 rfl trivial ?_
      refine mx_E_callV (sp_isV _ hT h6 hk) rfl rfl rfl (fun r c1 hr => ?_)
      obtain ⟨rfl, hz⟩ := hr
      rw [hz]
      cases e : aK a k with
      | some q =>
        refine mbF rfl (fun z => by cases z) (fun _ => ?_)
        refine mR 1 rfl trivial ?_
        exact mx_E_iret rfl rfl ⟨rfl, h⟩
      | none =>
        refine mbF rfl (fun _ => ?_) (fun z => by cases z)
        obtain ⟨v1, v2, v3, v4, v5, v6⟩ := mtree_vote hT.2.1 hk e
        refine mR 4 rfl trivial ?_
        rw [s1, show (6 : Int32) = nI 6 from rfl]
        refine mbLt _ _ rfl (by omega) (by decide) (fun hl => ?_) (fun hl => ?_)
        · refine mR 8 rfl trivial ?_
          refine mx_E_callV (sp_Tr_first _ k) rfl rfl rfl (fun r c1 hr => ?_)
          obtain ⟨rfl, hz⟩ := hr
          rw [hz]
          refine mR 7 rfl (mA1 (mI (by omega))) ?_
          rw [nI_cl (a := k + 1) (by omega), (hT.2.2 _ v5).2.2]
          refine mx_E_callV (sp_sec _ hT hk e) rfl rfl rfl (fun r c1 hr => ?_)
          obtain ⟨rfl, hz⟩ := hr
          rw [hz]
          refine mR 2 rfl (mA1 (mI (by omega))) ?_
          rw [nI_cl (a := k + 1 + aZ a (k + 1)) (by omega), (hT.2.2 _ v6).2.2]
          refine mx_E_callV (sp_Si_add _ hl s1) rfl rfl rfl (fun r c1 hr => ?_)
          obtain ⟨rfl, hc1⟩ := hr
          refine mR 3 rfl trivial ?_
          rw [hc1, mx_up_same, ← hc1]
          have l1 := mset_lt h6 hT.2.1 v5
          have l2 := mset_lt h6 hT.2.1 v6
          refine mx_E_iret rfl rfl ?_
          rw [if_neg (show ¬ a.2.2.2.1.1 = 6 by omega)]
          refine ⟨rfl, cI_s h (by rw [hc1]; exact mfr_up (mfr_up (mfr_up (mfr_up (mfr_rf _ _) (by decide)) (by decide)) (by decide)) (by decide)) ⟨by rw [hc1, mx_up_same], by show a.2.2.2.1.1 + 1 ≤ 6; omega, fun i hi => ?_⟩⟩
          have hi2 : i < a.2.2.2.1.1 + 1 := hi
          rw [hc1, mx_up_id _ 27 _ _ 28 _ (by decide), mx_up_id _ 30 _ _ 28 _ (by decide), mx_up_id _ 29 _ _ 28 _ (by decide), mx_up_id _ 27 _ _ 29 _ (by decide), mx_up_id _ 30 _ _ 29 _ (by decide), mx_up_id _ 27 _ _ 30 _ (by decide)]
          show _ ∧ _ ∧ _ ∧ _ ∧ _ ∧ _
          by_cases q : i = a.2.2.2.1.1
          · rw [q, mx_up_same, mx_up_same, mx_up_same]
            dsimp only
            rw [if_pos rfl]
            exact ⟨rfl, rfl, rfl, l1, l2, hj⟩
          · rw [mx_up_ix _ _ _ _ _ _ q, mx_up_ix _ _ _ _ _ _ q, mx_up_id _ 28 _ _ 29 _ (by decide), mx_up_ix _ _ _ _ _ _ q, mx_up_id _ 29 _ _ 30 _ (by decide), mx_up_id _ 28 _ _ 30 _ (by decide)]
            dsimp only
            rw [if_neg q]
            exact s3 i (by omega)
        · refine mR 1 rfl trivial ?_
          refine mx_E_iret rfl rfl ?_
          rw [if_pos (show a.2.2.2.1.1 = 6 by omega)]
          exact ⟨rfl, h⟩
    · rw [hb2, Bool.and_false]
      refine mR 1 rfl trivial ?_
      exact mx_E_iret rfl rfl ⟨rfl, h⟩
