/-! the class: pictures; what it holds -/
def cP (c : mx_M) (P rk kd n m : Nat) (p : mPic) : Prop := c P 2 = nI n ∧ c P 3 = nI m ∧ c P 4 = nI p.2.2.2 ∧ (∀ j, j < m → mperm n (p.1 j)) ∧ rRk (c rk) n m p.1 ∧ mtree n p.2.1 p.2.2.1 p.2.2.2 ∧ ∀ k, k < p.2.2.2 → c kd k = kC (p.2.1 k)
theorem cP_fr {c c' : mx_M} {P rk kd n m : Nat} {p : mPic} (h : cP c P rk kd n m p) (h1 : c' P = c P) (h2 : c' rk = c rk) (h3 : c' kd = c kd) : cP c' P rk kd n m p := by
  unfold cP at h ⊢
  rw [h1, h2, h3]
  exact h
/-- a picture is copied -/
def pCp (c c' : mx_M) (D S : Nat) : Prop := mfr [D, D + 1, D + 2] c c' ∧ (c' D 2 = c S 2 ∧ c' D 3 = c S 3 ∧ c' D 4 = c S 4) ∧ (∀ k, k < 54 → c' (D + 1) k = c (S + 1) k) ∧ ∀ k, k < 63 → c' (D + 2) k = c (S + 2) k
theorem cP_cp {c c' : mx_M} {D S n m : Nat} {p : mPic} (hn : n ≤ 6) (hm : m ≤ 9) (h : cP c S (S + 1) (S + 2) n m p) (hc : pCp c c' D S) : cP c' D (D + 1) (D + 2) n m p := by
  obtain ⟨h1, h2, h3, h4, h5, h6, h7⟩ := h
  obtain ⟨-, ⟨g1, g2, g3⟩, g4, g5⟩ := hc
  have h63 := h6.2.1
  refine ⟨by rw [g1]; exact h1, by rw [g2]; exact h2, by rw [g3]; exact h3, h4, fun j q hj hq => ?_, h6, fun k hk => ?_⟩
  · rw [g4 _ (by omega)]
    exact h5 j q hj hq
  · rw [g5 _ (by omega)]
    exact h7 k hk
theorem sp_Pi_copy_6_3 (c : mx_M) : mx_Spec 0 1 m_Pi_copy [.ref 6, .ref 3] c (fun r c' => r = none ∧ pCp c c' 6 3) := by
  refine mx_Spec_E rfl rfl rfl ?_
  refine mR 10 rfl (mA5 (by decide) (by decide) (by decide) (by decide) (by decide)) ?_
  rw [show ((nI 54 : Int32)).toNatClampNeg = 54 by decide, show ((0 : Int32)).toNatClampNeg = 0 by decide]
  refine mR 10 rfl (mA5 (by decide) (by decide) (by decide) (by decide) (by decide)) ?_
  rw [show ((nI 63 : Int32)).toNatClampNeg = 63 by decide, show ((0 : Int32)).toNatClampNeg = 0 by decide]
  refine mR 12 rfl trivial ?_
  refine mx_E_vret rfl rfl ⟨rfl, fun r hr => ?_, ⟨?_, ?_, ?_⟩, fun k hk => ?_, fun k hk => ?_⟩
  · have n0 : r ≠ 6 := fun e => hr (by rw [e]; decide)
    rw [mx_up_rid _ _ _ _ _ n0, mx_up_rid _ _ _ _ _ n0, mx_up_rid _ _ _ _ _ n0, mx_upR_rid _ _ _ _ (fun e => hr (by rw [e]; decide)), mx_upR_rid _ _ _ _ (fun e => hr (by rw [e]; decide))]
  · rw [mx_up_ix _ _ _ _ _ _ (by decide), mx_up_ix _ _ _ _ _ _ (by decide), mx_up_same, mx_upR_rid _ _ _ _ (by decide), mx_upR_rid _ _ _ _ (by decide)]
  · rw [mx_up_ix _ _ _ _ _ _ (by decide), mx_up_same, mx_up_id _ _ _ _ _ _ (by decide), mx_upR_rid _ _ _ _ (by decide), mx_upR_rid _ _ _ _ (by decide)]
  · rw [mx_up_same, mx_up_id _ _ _ _ _ _ (by decide), mx_up_id _ _ _ _ _ _ (by decide), mx_upR_rid _ _ _ _ (by decide), mx_upR_rid _ _ _ _ (by decide)]
  · rw [mx_up_id _ _ _ _ _ _ (by decide), mx_up_id _ _ _ _ _ _ (by decide), mx_up_id _ _ _ _ _ _ (by decide), mx_upR_rid _ _ _ 7 (by decide), mx_upR_row, cpy0 hk]
  · rw [mx_up_id _ _ _ _ _ _ (by decide), mx_up_id _ _ _ _ _ _ (by decide), mx_up_id _ _ _ _ _ _ (by decide), mx_upR_row, cpy0 hk, mx_upR_rid _ _ _ 5 (by decide)]
theorem sp_Pi_copy_35_6 (c : mx_M) : mx_Spec 0 1 m_Pi_copy [.ref 35, .ref 6] c (fun r c' => r = none ∧ pCp c c' 35 6) := by
  refine mx_Spec_E rfl rfl rfl ?_
  refine mR 10 rfl (mA5 (by decide) (by decide) (by decide) (by decide) (by decide)) ?_
  rw [show ((nI 54 : Int32)).toNatClampNeg = 54 by decide, show ((0 : Int32)).toNatClampNeg = 0 by decide]
  refine mR 10 rfl (mA5 (by decide) (by decide) (by decide) (by decide) (by decide)) ?_
  rw [show ((nI 63 : Int32)).toNatClampNeg = 63 by decide, show ((0 : Int32)).toNatClampNeg = 0 by decide]
  refine mR 12 rfl trivial ?_
  refine mx_E_vret rfl rfl ⟨rfl, fun r hr => ?_, ⟨?_, ?_, ?_⟩, fun k hk => ?_, fun k hk => ?_⟩
  · have n0 : r ≠ 35 := fun e => hr (by rw [e]; decide)
    rw [mx_up_rid _ _ _ _ _ n0, mx_up_rid _ _ _ _ _ n0, mx_up_rid _ _ _ _ _ n0, mx_upR_rid _ _ _ _ (fun e => hr (by rw [e]; decide)), mx_upR_rid _ _ _ _ (fun e => hr (by rw [e]; decide))]
  · rw [mx_up_ix _ _ _ _ _ _ (by decide), mx_up_ix _ _ _ _ _ _ (by decide), mx_up_same, mx_upR_rid _ _ _ _ (by decide), mx_upR_rid _ _ _ _ (by decide)]
  · rw [mx_up_ix _ _ _ _ _ _ (by decide), mx_up_same, mx_up_id _ _ _ _ _ _ (by decide), mx_upR_rid _ _ _ _ (by decide), mx_upR_rid _ _ _ _ (by decide)]
  · rw [mx_up_same, mx_up_id _ _ _ _ _ _ (by decide), mx_up_id _ _ _ _ _ _ (by decide), mx_upR_rid _ _ _ _ (by decide), mx_upR_rid _ _ _ _ (by decide)]
  · rw [mx_up_id _ _ _ _ _ _ (by decide), mx_up_id _ _ _ _ _ _ (by decide), mx_up_id _ _ _ _ _ _ (by decide), mx_upR_rid _ _ _ 36 (by decide), mx_upR_row, cpy0 hk]
  · rw [mx_up_id _ _ _ _ _ _ (by decide), mx_up_id _ _ _ _ _ _ (by decide), mx_up_id _ _ _ _ _ _ (by decide), mx_upR_row, cpy0 hk, mx_upR_rid _ _ _ 8 (by decide)]
theorem sp_Pi_copy_6_35 (c : mx_M) : mx_Spec 0 1 m_Pi_copy [.ref 6, .ref 35] c (fun r c' => r = none ∧ pCp c c' 6 35) := by
  refine mx_Spec_E rfl rfl rfl ?_
  refine mR 10 rfl (mA5 (by decide) (by decide) (by decide) (by decide) (by decide)) ?_
  rw [show ((nI 54 : Int32)).toNatClampNeg = 54 by decide, show ((0 : Int32)).toNatClampNeg = 0 by decide]
  refine mR 10 rfl (mA5 (by decide) (by decide) (by decide) (by decide) (by decide)) ?_
  rw [show ((nI 63 : Int32)).toNatClampNeg = 63 by decide, show ((0 : Int32)).toNatClampNeg = 0 by decide]
  refine mR 12 rfl trivial ?_
  refine mx_E_vret rfl rfl ⟨rfl, fun r hr => ?_, ⟨?_, ?_, ?_⟩, fun k hk => ?_, fun k hk => ?_⟩
  · have n0 : r ≠ 6 := fun e => hr (by rw [e]; decide)
    rw [mx_up_rid _ _ _ _ _ n0, mx_up_rid _ _ _ _ _ n0, mx_up_rid _ _ _ _ _ n0, mx_upR_rid _ _ _ _ (fun e => hr (by rw [e]; decide)), mx_upR_rid _ _ _ _ (fun e => hr (by rw [e]; decide))]
  · rw [mx_up_ix _ _ _ _ _ _ (by decide), mx_up_ix _ _ _ _ _ _ (by decide), mx_up_same, mx_upR_rid _ _ _ _ (by decide), mx_upR_rid _ _ _ _ (by decide)]
  · rw [mx_up_ix _ _ _ _ _ _ (by decide), mx_up_same, mx_up_id _ _ _ _ _ _ (by decide), mx_upR_rid _ _ _ _ (by decide), mx_upR_rid _ _ _ _ (by decide)]
  · rw [mx_up_same, mx_up_id _ _ _ _ _ _ (by decide), mx_up_id _ _ _ _ _ _ (by decide), mx_upR_rid _ _ _ _ (by decide), mx_upR_rid _ _ _ _ (by decide)]
  · rw [mx_up_id _ _ _ _ _ _ (by decide), mx_up_id _ _ _ _ _ _ (by decide), mx_up_id _ _ _ _ _ _ (by decide), mx_upR_rid _ _ _ 7 (by decide), mx_upR_row, cpy0 hk]
  · rw [mx_up_id _ _ _ _ _ _ (by decide), mx_up_id _ _ _ _ _ _ (by decide), mx_up_id _ _ _ _ _ _ (by decide), mx_upR_row, cpy0 hk, mx_upR_rid _ _ _ 37 (by decide)]
theorem sp_Pi_copy_38_6 (c : mx_M) : mx_Spec 0 1 m_Pi_copy [.ref 38, .ref 6] c (fun r c' => r = none ∧ pCp c c' 38 6) := by
  refine mx_Spec_E rfl rfl rfl ?_
  refine mR 10 rfl (mA5 (by decide) (by decide) (by decide) (by decide) (by decide)) ?_
  rw [show ((nI 54 : Int32)).toNatClampNeg = 54 by decide, show ((0 : Int32)).toNatClampNeg = 0 by decide]
  refine mR 10 rfl (mA5 (by decide) (by decide) (by decide) (by decide) (by decide)) ?_
  rw [show ((nI 63 : Int32)).toNatClampNeg = 63 by decide, show ((0 : Int32)).toNatClampNeg = 0 by decide]
  refine mR 12 rfl trivial ?_
  refine mx_E_vret rfl rfl ⟨rfl, fun r hr => ?_, ⟨?_, ?_, ?_⟩, fun k hk => ?_, fun k hk => ?_⟩
  · have n0 : r ≠ 38 := fun e => hr (by rw [e]; decide)
    rw [mx_up_rid _ _ _ _ _ n0, mx_up_rid _ _ _ _ _ n0, mx_up_rid _ _ _ _ _ n0, mx_upR_rid _ _ _ _ (fun e => hr (by rw [e]; decide)), mx_upR_rid _ _ _ _ (fun e => hr (by rw [e]; decide))]
  · rw [mx_up_ix _ _ _ _ _ _ (by decide), mx_up_ix _ _ _ _ _ _ (by decide), mx_up_same, mx_upR_rid _ _ _ _ (by decide), mx_upR_rid _ _ _ _ (by decide)]
  · rw [mx_up_ix _ _ _ _ _ _ (by decide), mx_up_same, mx_up_id _ _ _ _ _ _ (by decide), mx_upR_rid _ _ _ _ (by decide), mx_upR_rid _ _ _ _ (by decide)]
  · rw [mx_up_same, mx_up_id _ _ _ _ _ _ (by decide), mx_up_id _ _ _ _ _ _ (by decide), mx_upR_rid _ _ _ _ (by decide), mx_upR_rid _ _ _ _ (by decide)]
  · rw [mx_up_id _ _ _ _ _ _ (by decide), mx_up_id _ _ _ _ _ _ (by decide), mx_up_id _ _ _ _ _ _ (by decide), mx_upR_rid _ _ _ 39 (by decide), mx_upR_row, cpy0 hk]
  · rw [mx_up_id _ _ _ _ _ _ (by decide), mx_up_id _ _ _ _ _ _ (by decide), mx_up_id _ _ _ _ _ _ (by decide), mx_upR_row, cpy0 hk, mx_upR_rid _ _ _ 8 (by decide)]
theorem sp_Pi_copy_6_38 (c : mx_M) : mx_Spec 0 1 m_Pi_copy [.ref 6, .ref 38] c (fun r c' => r = none ∧ pCp c c' 6 38) := by
  refine mx_Spec_E rfl rfl rfl ?_
  refine mR 10 rfl (mA5 (by decide) (by decide) (by decide) (by decide) (by decide)) ?_
  rw [show ((nI 54 : Int32)).toNatClampNeg = 54 by decide, show ((0 : Int32)).toNatClampNeg = 0 by decide]
  refine mR 10 rfl (mA5 (by decide) (by decide) (by decide) (by decide) (by decide)) ?_
  rw [show ((nI 63 : Int32)).toNatClampNeg = 63 by decide, show ((0 : Int32)).toNatClampNeg = 0 by decide]
  refine mR 12 rfl trivial ?_
  refine mx_E_vret rfl rfl ⟨rfl, fun r hr => ?_, ⟨?_, ?_, ?_⟩, fun k hk => ?_, fun k hk => ?_⟩
  · have n0 : r ≠ 6 := fun e => hr (by rw [e]; decide)
    rw [mx_up_rid _ _ _ _ _ n0, mx_up_rid _ _ _ _ _ n0, mx_up_rid _ _ _ _ _ n0, mx_upR_rid _ _ _ _ (fun e => hr (by rw [e]; decide)), mx_upR_rid _ _ _ _ (fun e => hr (by rw [e]; decide))]
  · rw [mx_up_ix _ _ _ _ _ _ (by decide), mx_up_ix _ _ _ _ _ _ (by decide), mx_up_same, mx_upR_rid _ _ _ _ (by decide), mx_upR_rid _ _ _ _ (by decide)]
  · rw [mx_up_ix _ _ _ _ _ _ (by decide), mx_up_same, mx_up_id _ _ _ _ _ _ (by decide), mx_upR_rid _ _ _ _ (by decide), mx_upR_rid _ _ _ _ (by decide)]
  · rw [mx_up_same, mx_up_id _ _ _ _ _ _ (by decide), mx_up_id _ _ _ _ _ _ (by decide), mx_upR_rid _ _ _ _ (by decide), mx_upR_rid _ _ _ _ (by decide)]
  · rw [mx_up_id _ _ _ _ _ _ (by decide), mx_up_id _ _ _ _ _ _ (by decide), mx_up_id _ _ _ _ _ _ (by decide), mx_upR_rid _ _ _ 7 (by decide), mx_upR_row, cpy0 hk]
  · rw [mx_up_id _ _ _ _ _ _ (by decide), mx_up_id _ _ _ _ _ _ (by decide), mx_up_id _ _ _ _ _ _ (by decide), mx_upR_row, cpy0 hk, mx_upR_rid _ _ _ 40 (by decide)]
theorem sp_Pi_copy_41_6 (c : mx_M) : mx_Spec 0 1 m_Pi_copy [.ref 41, .ref 6] c (fun r c' => r = none ∧ pCp c c' 41 6) := by
  refine mx_Spec_E rfl rfl rfl ?_
  refine mR 10 rfl (mA5 (by decide) (by decide) (by decide) (by decide) (by decide)) ?_
  rw [show ((nI 54 : Int32)).toNatClampNeg = 54 by decide, show ((0 : Int32)).toNatClampNeg = 0 by decide]
  refine mR 10 rfl (mA5 (by decide) (by decide) (by decide) (by decide) (by decide)) ?_
  rw [show ((nI 63 : Int32)).toNatClampNeg = 63 by decide, show ((0 : Int32)).toNatClampNeg = 0 by decide]
  refine mR 12 rfl trivial ?_
  refine mx_E_vret rfl rfl ⟨rfl, fun r hr => ?_, ⟨?_, ?_, ?_⟩, fun k hk => ?_, fun k hk => ?_⟩
  · have n0 : r ≠ 41 := fun e => hr (by rw [e]; decide)
    rw [mx_up_rid _ _ _ _ _ n0, mx_up_rid _ _ _ _ _ n0, mx_up_rid _ _ _ _ _ n0, mx_upR_rid _ _ _ _ (fun e => hr (by rw [e]; decide)), mx_upR_rid _ _ _ _ (fun e => hr (by rw [e]; decide))]
  · rw [mx_up_ix _ _ _ _ _ _ (by decide), mx_up_ix _ _ _ _ _ _ (by decide), mx_up_same, mx_upR_rid _ _ _ _ (by decide), mx_upR_rid _ _ _ _ (by decide)]
  · rw [mx_up_ix _ _ _ _ _ _ (by decide), mx_up_same, mx_up_id _ _ _ _ _ _ (by decide), mx_upR_rid _ _ _ _ (by decide), mx_upR_rid _ _ _ _ (by decide)]
  · rw [mx_up_same, mx_up_id _ _ _ _ _ _ (by decide), mx_up_id _ _ _ _ _ _ (by decide), mx_upR_rid _ _ _ _ (by decide), mx_upR_rid _ _ _ _ (by decide)]
  · rw [mx_up_id _ _ _ _ _ _ (by decide), mx_up_id _ _ _ _ _ _ (by decide), mx_up_id _ _ _ _ _ _ (by decide), mx_upR_rid _ _ _ 42 (by decide), mx_upR_row, cpy0 hk]
  · rw [mx_up_id _ _ _ _ _ _ (by decide), mx_up_id _ _ _ _ _ _ (by decide), mx_up_id _ _ _ _ _ _ (by decide), mx_upR_row, cpy0 hk, mx_upR_rid _ _ _ 8 (by decide)]
theorem sp_Pi_copy_6_41 (c : mx_M) : mx_Spec 0 1 m_Pi_copy [.ref 6, .ref 41] c (fun r c' => r = none ∧ pCp c c' 6 41) := by
  refine mx_Spec_E rfl rfl rfl ?_
  refine mR 10 rfl (mA5 (by decide) (by decide) (by decide) (by decide) (by decide)) ?_
  rw [show ((nI 54 : Int32)).toNatClampNeg = 54 by decide, show ((0 : Int32)).toNatClampNeg = 0 by decide]
  refine mR 10 rfl (mA5 (by decide) (by decide) (by decide) (by decide) (by decide)) ?_
  rw [show ((nI 63 : Int32)).toNatClampNeg = 63 by decide, show ((0 : Int32)).toNatClampNeg = 0 by decide]
  refine mR 12 rfl trivial ?_
  refine mx_E_vret rfl rfl ⟨rfl, fun r hr => ?_, ⟨?_, ?_, ?_⟩, fun k hk => ?_, fun k hk => ?_⟩
  · have n0 : r ≠ 6 := fun e => hr (by rw [e]; decide)
    rw [mx_up_rid _ _ _ _ _ n0, mx_up_rid _ _ _ _ _ n0, mx_up_rid _ _ _ _ _ n0, mx_upR_rid _ _ _ _ (fun e => hr (by rw [e]; decide)), mx_upR_rid _ _ _ _ (fun e => hr (by rw [e]; decide))]
  · rw [mx_up_ix _ _ _ _ _ _ (by decide), mx_up_ix _ _ _ _ _ _ (by decide), mx_up_same, mx_upR_rid _ _ _ _ (by decide), mx_upR_rid _ _ _ _ (by decide)]
  · rw [mx_up_ix _ _ _ _ _ _ (by decide), mx_up_same, mx_up_id _ _ _ _ _ _ (by decide), mx_upR_rid _ _ _ _ (by decide), mx_upR_rid _ _ _ _ (by decide)]
  · rw [mx_up_same, mx_up_id _ _ _ _ _ _ (by decide), mx_up_id _ _ _ _ _ _ (by decide), mx_upR_rid _ _ _ _ (by decide), mx_upR_rid _ _ _ _ (by decide)]
  · rw [mx_up_id _ _ _ _ _ _ (by decide), mx_up_id _ _ _ _ _ _ (by decide), mx_up_id _ _ _ _ _ _ (by decide), mx_upR_rid _ _ _ 7 (by decide), mx_upR_row, cpy0 hk]
  · rw [mx_up_id _ _ _ _ _ _ (by decide), mx_up_id _ _ _ _ _ _ (by decide), mx_up_id _ _ _ _ _ _ (by decide), mx_upR_row, cpy0 hk, mx_upR_rid _ _ _ 43 (by decide)]
theorem sp_Pi_copy_44_6 (c : mx_M) : mx_Spec 0 1 m_Pi_copy [.ref 44, .ref 6] c (fun r c' => r = none ∧ pCp c c' 44 6) := by
  refine mx_Spec_E rfl rfl rfl ?_
  refine mR 10 rfl (mA5 (by decide) (by decide) (by decide) (by decide) (by decide)) ?_
  rw [show ((nI 54 : Int32)).toNatClampNeg = 54 by decide, show ((0 : Int32)).toNatClampNeg = 0 by decide]
  refine mR 10 rfl (mA5 (by decide) (by decide) (by decide) (by decide) (by decide)) ?_
  rw [show ((nI 63 : Int32)).toNatClampNeg = 63 by decide, show ((0 : Int32)).toNatClampNeg = 0 by decide]
  refine mR 12 rfl trivial ?_
  refine mx_E_vret rfl rfl ⟨rfl, fun r hr => ?_, ⟨?_, ?_, ?_⟩, fun k hk => ?_, fun k hk => ?_⟩
  · have n0 : r ≠ 44 := fun e => hr (by rw [e]; decide)
    rw [mx_up_rid _ _ _ _ _ n0, mx_up_rid _ _ _ _ _ n0, mx_up_rid _ _ _ _ _ n0, mx_upR_rid _ _ _ _ (fun e => hr (by rw [e]; decide)), mx_upR_rid _ _ _ _ (fun e => hr (by rw [e]; decide))]
  · rw [mx_up_ix _ _ _ _ _ _ (by decide), mx_up_ix _ _ _ _ _ _ (by decide), mx_up_same, mx_upR_rid _ _ _ _ (by decide), mx_upR_rid _ _ _ _ (by decide)]
  · rw [mx_up_ix _ _ _ _ _ _ (by decide), mx_up_same, mx_up_id _ _ _ _ _ _ (by decide), mx_upR_rid _ _ _ _ (by decide), mx_upR_rid _ _ _ _ (by decide)]
  · rw [mx_up_same, mx_up_id _ _ _ _ _ _ (by decide), mx_up_id _ _ _ _ _ _ (by decide), mx_upR_rid _ _ _ _ (by decide), mx_upR_rid _ _ _ _ (by decide)]
  · rw [mx_up_id _ _ _ _ _ _ (by decide), mx_up_id _ _ _ _ _ _ (by decide), mx_up_id _ _ _ _ _ _ (by decide), mx_upR_rid _ _ _ 45 (by decide), mx_upR_row, cpy0 hk]
  · rw [mx_up_id _ _ _ _ _ _ (by decide), mx_up_id _ _ _ _ _ _ (by decide), mx_up_id _ _ _ _ _ _ (by decide), mx_upR_row, cpy0 hk, mx_upR_rid _ _ _ 8 (by decide)]
theorem sp_Pi_copy_6_44 (c : mx_M) : mx_Spec 0 1 m_Pi_copy [.ref 6, .ref 44] c (fun r c' => r = none ∧ pCp c c' 6 44) := by
  refine mx_Spec_E rfl rfl rfl ?_
  refine mR 10 rfl (mA5 (by decide) (by decide) (by decide) (by decide) (by decide)) ?_
  rw [show ((nI 54 : Int32)).toNatClampNeg = 54 by decide, show ((0 : Int32)).toNatClampNeg = 0 by decide]
  refine mR 10 rfl (mA5 (by decide) (by decide) (by decide) (by decide) (by decide)) ?_
  rw [show ((nI 63 : Int32)).toNatClampNeg = 63 by decide, show ((0 : Int32)).toNatClampNeg = 0 by decide]
  refine mR 12 rfl trivial ?_
  refine mx_E_vret rfl rfl ⟨rfl, fun r hr => ?_, ⟨?_, ?_, ?_⟩, fun k hk => ?_, fun k hk => ?_⟩
  · have n0 : r ≠ 6 := fun e => hr (by rw [e]; decide)
    rw [mx_up_rid _ _ _ _ _ n0, mx_up_rid _ _ _ _ _ n0, mx_up_rid _ _ _ _ _ n0, mx_upR_rid _ _ _ _ (fun e => hr (by rw [e]; decide)), mx_upR_rid _ _ _ _ (fun e => hr (by rw [e]; decide))]
  · rw [mx_up_ix _ _ _ _ _ _ (by decide), mx_up_ix _ _ _ _ _ _ (by decide), mx_up_same, mx_upR_rid _ _ _ _ (by decide), mx_upR_rid _ _ _ _ (by decide)]
  · rw [mx_up_ix _ _ _ _ _ _ (by decide), mx_up_same, mx_up_id _ _ _ _ _ _ (by decide), mx_upR_rid _ _ _ _ (by decide), mx_upR_rid _ _ _ _ (by decide)]
  · rw [mx_up_same, mx_up_id _ _ _ _ _ _ (by decide), mx_up_id _ _ _ _ _ _ (by decide), mx_upR_rid _ _ _ _ (by decide), mx_upR_rid _ _ _ _ (by decide)]
  · rw [mx_up_id _ _ _ _ _ _ (by decide), mx_up_id _ _ _ _ _ _ (by decide), mx_up_id _ _ _ _ _ _ (by decide), mx_upR_rid _ _ _ 7 (by decide), mx_upR_row, cpy0 hk]
  · rw [mx_up_id _ _ _ _ _ _ (by decide), mx_up_id _ _ _ _ _ _ (by decide), mx_up_id _ _ _ _ _ _ (by decide), mx_upR_row, cpy0 hk, mx_upR_rid _ _ _ 46 (by decide)]
theorem sp_Pi_copy_47_6 (c : mx_M) : mx_Spec 0 1 m_Pi_copy [.ref 47, .ref 6] c (fun r c' => r = none ∧ pCp c c' 47 6) := by
  refine mx_Spec_E rfl rfl rfl ?_
  refine mR 10 rfl (mA5 (by decide) (by decide) (by decide) (by decide) (by decide)) ?_
  rw [show ((nI 54 : Int32)).toNatClampNeg = 54 by decide, show ((0 : Int32)).toNatClampNeg = 0 by decide]
  refine mR 10 rfl (mA5 (by decide) (by decide) (by decide) (by decide) (by decide)) ?_
  rw [show ((nI 63 : Int32)).toNatClampNeg = 63 by decide, show ((0 : Int32)).toNatClampNeg = 0 by decide]
  refine mR 12 rfl trivial ?_
  refine mx_E_vret rfl rfl ⟨rfl, fun r hr => ?_, ⟨?_, ?_, ?_⟩, fun k hk => ?_, fun k hk => ?_⟩
  · have n0 : r ≠ 47 := fun e => hr (by rw [e]; decide)
    rw [mx_up_rid _ _ _ _ _ n0, mx_up_rid _ _ _ _ _ n0, mx_up_rid _ _ _ _ _ n0, mx_upR_rid _ _ _ _ (fun e => hr (by rw [e]; decide)), mx_upR_rid _ _ _ _ (fun e => hr (by rw [e]; decide))]
  · rw [mx_up_ix _ _ _ _ _ _ (by decide), mx_up_ix _ _ _ _ _ _ (by decide), mx_up_same, mx_upR_rid _ _ _ _ (by decide), mx_upR_rid _ _ _ _ (by decide)]
  · rw [mx_up_ix _ _ _ _ _ _ (by decide), mx_up_same, mx_up_id _ _ _ _ _ _ (by decide), mx_upR_rid _ _ _ _ (by decide), mx_upR_rid _ _ _ _ (by decide)]
  · rw [mx_up_same, mx_up_id _ _ _ _ _ _ (by decide), mx_up_id _ _ _ _ _ _ (by decide), mx_upR_rid _ _ _ _ (by decide), mx_upR_rid _ _ _ _ (by decide)]
  · rw [mx_up_id _ _ _ _ _ _ (by decide), mx_up_id _ _ _ _ _ _ (by decide), mx_up_id _ _ _ _ _ _ (by decide), mx_upR_rid _ _ _ 48 (by decide), mx_upR_row, cpy0 hk]
  · rw [mx_up_id _ _ _ _ _ _ (by decide), mx_up_id _ _ _ _ _ _ (by decide), mx_up_id _ _ _ _ _ _ (by decide), mx_upR_row, cpy0 hk, mx_upR_rid _ _ _ 8 (by decide)]
theorem sp_Pi_copy_6_47 (c : mx_M) : mx_Spec 0 1 m_Pi_copy [.ref 6, .ref 47] c (fun r c' => r = none ∧ pCp c c' 6 47) := by
  refine mx_Spec_E rfl rfl rfl ?_
  refine mR 10 rfl (mA5 (by decide) (by decide) (by decide) (by decide) (by decide)) ?_
  rw [show ((nI 54 : Int32)).toNatClampNeg = 54 by decide, show ((0 : Int32)).toNatClampNeg = 0 by decide]
  refine mR 10 rfl (mA5 (by decide) (by decide) (by decide) (by decide) (by decide)) ?_
  rw [show ((nI 63 : Int32)).toNatClampNeg = 63 by decide, show ((0 : Int32)).toNatClampNeg = 0 by decide]
  refine mR 12 rfl trivial ?_
  refine mx_E_vret rfl rfl ⟨rfl, fun r hr => ?_, ⟨?_, ?_, ?_⟩, fun k hk => ?_, fun k hk => ?_⟩
  · have n0 : r ≠ 6 := fun e => hr (by rw [e]; decide)
    rw [mx_up_rid _ _ _ _ _ n0, mx_up_rid _ _ _ _ _ n0, mx_up_rid _ _ _ _ _ n0, mx_upR_rid _ _ _ _ (fun e => hr (by rw [e]; decide)), mx_upR_rid _ _ _ _ (fun e => hr (by rw [e]; decide))]
  · rw [mx_up_ix _ _ _ _ _ _ (by decide), mx_up_ix _ _ _ _ _ _ (by decide), mx_up_same, mx_upR_rid _ _ _ _ (by decide), mx_upR_rid _ _ _ _ (by decide)]
  · rw [mx_up_ix _ _ _ _ _ _ (by decide), mx_up_same, mx_up_id _ _ _ _ _ _ (by decide), mx_upR_rid _ _ _ _ (by decide), mx_upR_rid _ _ _ _ (by decide)]
  · rw [mx_up_same, mx_up_id _ _ _ _ _ _ (by decide), mx_up_id _ _ _ _ _ _ (by decide), mx_upR_rid _ _ _ _ (by decide), mx_upR_rid _ _ _ _ (by decide)]
  · rw [mx_up_id _ _ _ _ _ _ (by decide), mx_up_id _ _ _ _ _ _ (by decide), mx_up_id _ _ _ _ _ _ (by decide), mx_upR_rid _ _ _ 7 (by decide), mx_upR_row, cpy0 hk]
  · rw [mx_up_id _ _ _ _ _ _ (by decide), mx_up_id _ _ _ _ _ _ (by decide), mx_up_id _ _ _ _ _ _ (by decide), mx_upR_row, cpy0 hk, mx_upR_rid _ _ _ 49 (by decide)]
theorem sp_Pi_copy_50_6 (c : mx_M) : mx_Spec 0 1 m_Pi_copy [.ref 50, .ref 6] c (fun r c' => r = none ∧ pCp c c' 50 6) := by
  refine mx_Spec_E rfl rfl rfl ?_
  refine mR 10 rfl (mA5 (by decide) (by decide) (by decide) (by decide) (by decide)) ?_
  rw [show ((nI 54 : Int32)).toNatClampNeg = 54 by decide, show ((0 : Int32)).toNatClampNeg = 0 by decide]
  refine mR 10 rfl (mA5 (by decide) (by decide) (by decide) (by decide) (by decide)) ?_
  rw [show ((nI 63 : Int32)).toNatClampNeg = 63 by decide, show ((0 : Int32)).toNatClampNeg = 0 by decide]
  refine mR 12 rfl trivial ?_
  refine mx_E_vret rfl rfl ⟨rfl, fun r hr => ?_, ⟨?_, ?_, ?_⟩, fun k hk => ?_, fun k hk => ?_⟩
  · have n0 : r ≠ 50 := fun e => hr (by rw [e]; decide)
    rw [mx_up_rid _ _ _ _ _ n0, mx_up_rid _ _ _ _ _ n0, mx_up_rid _ _ _ _ _ n0, mx_upR_rid _ _ _ _ (fun e => hr (by rw [e]; decide)), mx_upR_rid _ _ _ _ (fun e => hr (by rw [e]; decide))]
  · rw [mx_up_ix _ _ _ _ _ _ (by decide), mx_up_ix _ _ _ _ _ _ (by decide), mx_up_same, mx_upR_rid _ _ _ _ (by decide), mx_upR_rid _ _ _ _ (by decide)]
  · rw [mx_up_ix _ _ _ _ _ _ (by decide), mx_up_same, mx_up_id _ _ _ _ _ _ (by decide), mx_upR_rid _ _ _ _ (by decide), mx_upR_rid _ _ _ _ (by decide)]
  · rw [mx_up_same, mx_up_id _ _ _ _ _ _ (by decide), mx_up_id _ _ _ _ _ _ (by decide), mx_upR_rid _ _ _ _ (by decide), mx_upR_rid _ _ _ _ (by decide)]
  · rw [mx_up_id _ _ _ _ _ _ (by decide), mx_up_id _ _ _ _ _ _ (by decide), mx_up_id _ _ _ _ _ _ (by decide), mx_upR_rid _ _ _ 51 (by decide), mx_upR_row, cpy0 hk]
  · rw [mx_up_id _ _ _ _ _ _ (by decide), mx_up_id _ _ _ _ _ _ (by decide), mx_up_id _ _ _ _ _ _ (by decide), mx_upR_row, cpy0 hk, mx_upR_rid _ _ _ 8 (by decide)]
theorem sp_Pi_copy_6_50 (c : mx_M) : mx_Spec 0 1 m_Pi_copy [.ref 6, .ref 50] c (fun r c' => r = none ∧ pCp c c' 6 50) := by
  refine mx_Spec_E rfl rfl rfl ?_
  refine mR 10 rfl (mA5 (by decide) (by decide) (by decide) (by decide) (by decide)) ?_
  rw [show ((nI 54 : Int32)).toNatClampNeg = 54 by decide, show ((0 : Int32)).toNatClampNeg = 0 by decide]
  refine mR 10 rfl (mA5 (by decide) (by decide) (by decide) (by decide) (by decide)) ?_
  rw [show ((nI 63 : Int32)).toNatClampNeg = 63 by decide, show ((0 : Int32)).toNatClampNeg = 0 by decide]
  refine mR 12 rfl trivial ?_
  refine mx_E_vret rfl rfl ⟨rfl, fun r hr => ?_, ⟨?_, ?_, ?_⟩, fun k hk => ?_, fun k hk => ?_⟩
  · have n0 : r ≠ 6 := fun e => hr (by rw [e]; decide)
    rw [mx_up_rid _ _ _ _ _ n0, mx_up_rid _ _ _ _ _ n0, mx_up_rid _ _ _ _ _ n0, mx_upR_rid _ _ _ _ (fun e => hr (by rw [e]; decide)), mx_upR_rid _ _ _ _ (fun e => hr (by rw [e]; decide))]
  · rw [mx_up_ix _ _ _ _ _ _ (by decide), mx_up_ix _ _ _ _ _ _ (by decide), mx_up_same, mx_upR_rid _ _ _ _ (by decide), mx_upR_rid _ _ _ _ (by decide)]
  · rw [mx_up_ix _ _ _ _ _ _ (by decide), mx_up_same, mx_up_id _ _ _ _ _ _ (by decide), mx_upR_rid _ _ _ _ (by decide), mx_upR_rid _ _ _ _ (by decide)]
  · rw [mx_up_same, mx_up_id _ _ _ _ _ _ (by decide), mx_up_id _ _ _ _ _ _ (by decide), mx_upR_rid _ _ _ _ (by decide), mx_upR_rid _ _ _ _ (by decide)]
  · rw [mx_up_id _ _ _ _ _ _ (by decide), mx_up_id _ _ _ _ _ _ (by decide), mx_up_id _ _ _ _ _ _ (by decide), mx_upR_rid _ _ _ 7 (by decide), mx_upR_row, cpy0 hk]
  · rw [mx_up_id _ _ _ _ _ _ (by decide), mx_up_id _ _ _ _ _ _ (by decide), mx_up_id _ _ _ _ _ _ (by decide), mx_upR_row, cpy0 hk, mx_upR_rid _ _ _ 52 (by decide)]
theorem sp_Pi_copy_53_6 (c : mx_M) : mx_Spec 0 1 m_Pi_copy [.ref 53, .ref 6] c (fun r c' => r = none ∧ pCp c c' 53 6) := by
  refine mx_Spec_E rfl rfl rfl ?_
  refine mR 10 rfl (mA5 (by decide) (by decide) (by decide) (by decide) (by decide)) ?_
  rw [show ((nI 54 : Int32)).toNatClampNeg = 54 by decide, show ((0 : Int32)).toNatClampNeg = 0 by decide]
  refine mR 10 rfl (mA5 (by decide) (by decide) (by decide) (by decide) (by decide)) ?_
  rw [show ((nI 63 : Int32)).toNatClampNeg = 63 by decide, show ((0 : Int32)).toNatClampNeg = 0 by decide]
  refine mR 12 rfl trivial ?_
  refine mx_E_vret rfl rfl ⟨rfl, fun r hr => ?_, ⟨?_, ?_, ?_⟩, fun k hk => ?_, fun k hk => ?_⟩
  · have n0 : r ≠ 53 := fun e => hr (by rw [e]; decide)
    rw [mx_up_rid _ _ _ _ _ n0, mx_up_rid _ _ _ _ _ n0, mx_up_rid _ _ _ _ _ n0, mx_upR_rid _ _ _ _ (fun e => hr (by rw [e]; decide)), mx_upR_rid _ _ _ _ (fun e => hr (by rw [e]; decide))]
  · rw [mx_up_ix _ _ _ _ _ _ (by decide), mx_up_ix _ _ _ _ _ _ (by decide), mx_up_same, mx_upR_rid _ _ _ _ (by decide), mx_upR_rid _ _ _ _ (by decide)]
  · rw [mx_up_ix _ _ _ _ _ _ (by decide), mx_up_same, mx_up_id _ _ _ _ _ _ (by decide), mx_upR_rid _ _ _ _ (by decide), mx_upR_rid _ _ _ _ (by decide)]
  · rw [mx_up_same, mx_up_id _ _ _ _ _ _ (by decide), mx_up_id _ _ _ _ _ _ (by decide), mx_upR_rid _ _ _ _ (by decide), mx_upR_rid _ _ _ _ (by decide)]
  · rw [mx_up_id _ _ _ _ _ _ (by decide), mx_up_id _ _ _ _ _ _ (by decide), mx_up_id _ _ _ _ _ _ (by decide), mx_upR_rid _ _ _ 54 (by decide), mx_upR_row, cpy0 hk]
  · rw [mx_up_id _ _ _ _ _ _ (by decide), mx_up_id _ _ _ _ _ _ (by decide), mx_up_id _ _ _ _ _ _ (by decide), mx_upR_row, cpy0 hk, mx_upR_rid _ _ _ 8 (by decide)]
theorem sp_Pi_copy_6_53 (c : mx_M) : mx_Spec 0 1 m_Pi_copy [.ref 6, .ref 53] c (fun r c' => r = none ∧ pCp c c' 6 53) := by
  refine mx_Spec_E rfl rfl rfl ?_
  refine mR 10 rfl (mA5 (by decide) (by decide) (by decide) (by decide) (by decide)) ?_
  rw [show ((nI 54 : Int32)).toNatClampNeg = 54 by decide, show ((0 : Int32)).toNatClampNeg = 0 by decide]
  refine mR 10 rfl (mA5 (by decide) (by decide) (by decide) (by decide) (by decide)) ?_
  rw [show ((nI 63 : Int32)).toNatClampNeg = 63 by decide, show ((0 : Int32)).toNatClampNeg = 0 by decide]
  refine mR 12 rfl trivial ?_
  refine mx_E_vret rfl rfl ⟨rfl, fun r hr => ?_, ⟨?_, ?_, ?_⟩, fun k hk => ?_, fun k hk => ?_⟩
  · have n0 : r ≠ 6 := fun e => hr (by rw [e]; decide)
    rw [mx_up_rid _ _ _ _ _ n0, mx_up_rid _ _ _ _ _ n0, mx_up_rid _ _ _ _ _ n0, mx_upR_rid _ _ _ _ (fun e => hr (by rw [e]; decide)), mx_upR_rid _ _ _ _ (fun e => hr (by rw [e]; decide))]
  · rw [mx_up_ix _ _ _ _ _ _ (by decide), mx_up_ix _ _ _ _ _ _ (by decide), mx_up_same, mx_upR_rid _ _ _ _ (by decide), mx_upR_rid _ _ _ _ (by decide)]
  · rw [mx_up_ix _ _ _ _ _ _ (by decide), mx_up_same, mx_up_id _ _ _ _ _ _ (by decide), mx_upR_rid _ _ _ _ (by decide), mx_upR_rid _ _ _ _ (by decide)]
  · rw [mx_up_same, mx_up_id _ _ _ _ _ _ (by decide), mx_up_id _ _ _ _ _ _ (by decide), mx_upR_rid _ _ _ _ (by decide), mx_upR_rid _ _ _ _ (by decide)]
  · rw [mx_up_id _ _ _ _ _ _ (by decide), mx_up_id _ _ _ _ _ _ (by decide), mx_up_id _ _ _ _ _ _ (by decide), mx_upR_rid _ _ _ 7 (by decide), mx_upR_row, cpy0 hk]
  · rw [mx_up_id _ _ _ _ _ _ (by decide), mx_up_id _ _ _ _ _ _ (by decide), mx_up_id _ _ _ _ _ _ (by decide), mx_upR_row, cpy0 hk, mx_upR_rid _ _ _ 55 (by decide)]
theorem sp_Pi_copy_56_6 (c : mx_M) : mx_Spec 0 1 m_Pi_copy [.ref 56, .ref 6] c (fun r c' => r = none ∧ pCp c c' 56 6) := by
  refine mx_Spec_E rfl rfl rfl ?_
  refine mR 10 rfl (mA5 (by decide) (by decide) (by decide) (by decide) (by decide)) ?_
  rw [show ((nI 54 : Int32)).toNatClampNeg = 54 by decide, show ((0 : Int32)).toNatClampNeg = 0 by decide]
  refine mR 10 rfl (mA5 (by decide) (by decide) (by decide) (by decide) (by decide)) ?_
  rw [show ((nI 63 : Int32)).toNatClampNeg = 63 by decide, show ((0 : Int32)).toNatClampNeg = 0 by decide]
  refine mR 12 rfl trivial ?_
  refine mx_E_vret rfl rfl ⟨rfl, fun r hr => ?_, ⟨?_, ?_, ?_⟩, fun k hk => ?_, fun k hk => ?_⟩
  · have n0 : r ≠ 56 := fun e => hr (by rw [e]; decide)
    rw [mx_up_rid _ _ _ _ _ n0, mx_up_rid _ _ _ _ _ n0, mx_up_rid _ _ _ _ _ n0, mx_upR_rid _ _ _ _ (fun e => hr (by rw [e]; decide)), mx_upR_rid _ _ _ _ (fun e => hr (by rw [e]; decide))]
  · rw [mx_up_ix _ _ _ _ _ _ (by decide), mx_up_ix _ _ _ _ _ _ (by decide), mx_up_same, mx_upR_rid _ _ _ _ (by decide), mx_upR_rid _ _ _ _ (by decide)]
  · rw [mx_up_ix _ _ _ _ _ _ (by decide), mx_up_same, mx_up_id _ _ _ _ _ _ (by decide), mx_upR_rid _ _ _ _ (by decide), mx_upR_rid _ _ _ _ (by decide)]
  · rw [mx_up_same, mx_up_id _ _ _ _ _ _ (by decide), mx_up_id _ _ _ _ _ _ (by decide), mx_upR_rid _ _ _ _ (by decide), mx_upR_rid _ _ _ _ (by decide)]
  · rw [mx_up_id _ _ _ _ _ _ (by decide), mx_up_id _ _ _ _ _ _ (by decide), mx_up_id _ _ _ _ _ _ (by decide), mx_upR_rid _ _ _ 57 (by decide), mx_upR_row, cpy0 hk]
  · rw [mx_up_id _ _ _ _ _ _ (by decide), mx_up_id _ _ _ _ _ _ (by decide), mx_up_id _ _ _ _ _ _ (by decide), mx_upR_row, cpy0 hk, mx_upR_rid _ _ _ 8 (by decide)]
theorem sp_Pi_copy_6_56 (c : mx_M) : mx_Spec 0 1 m_Pi_copy [.ref 6, .ref 56] c (fun r c' => r = none ∧ pCp c c' 6 56) := by
  refine mx_Spec_E rfl rfl rfl ?_
  refine mR 10 rfl (mA5 (by decide) (by decide) (by decide) (by decide) (by decide)) ?_
  rw [show ((nI 54 : Int32)).toNatClampNeg = 54 by decide, show ((0 : Int32)).toNatClampNeg = 0 by decide]
  refine mR 10 rfl (mA5 (by decide) (by decide) (by decide) (by decide) (by decide)) ?_
  rw [show ((nI 63 : Int32)).toNatClampNeg = 63 by decide, show ((0 : Int32)).toNatClampNeg = 0 by decide]
  refine mR 12 rfl trivial ?_
  refine mx_E_vret rfl rfl ⟨rfl, fun r hr => ?_, ⟨?_, ?_, ?_⟩, fun k hk => ?_, fun k hk => ?_⟩
  · have n0 : r ≠ 6 := fun e => hr (by rw [e]; decide)
    rw [mx_up_rid _ _ _ _ _ n0, mx_up_rid _ _ _ _ _ n0, mx_up_rid _ _ _ _ _ n0, mx_upR_rid _ _ _ _ (fun e => hr (by rw [e]; decide)), mx_upR_rid _ _ _ _ (fun e => hr (by rw [e]; decide))]
  · rw [mx_up_ix _ _ _ _ _ _ (by decide), mx_up_ix _ _ _ _ _ _ (by decide), mx_up_same, mx_upR_rid _ _ _ _ (by decide), mx_upR_rid _ _ _ _ (by decide)]
  · rw [mx_up_ix _ _ _ _ _ _ (by decide), mx_up_same, mx_up_id _ _ _ _ _ _ (by decide), mx_upR_rid _ _ _ _ (by decide), mx_upR_rid _ _ _ _ (by decide)]
  · rw [mx_up_same, mx_up_id _ _ _ _ _ _ (by decide), mx_up_id _ _ _ _ _ _ (by decide), mx_upR_rid _ _ _ _ (by decide), mx_upR_rid _ _ _ _ (by decide)]
  · rw [mx_up_id _ _ _ _ _ _ (by decide), mx_up_id _ _ _ _ _ _ (by decide), mx_up_id _ _ _ _ _ _ (by decide), mx_upR_rid _ _ _ 7 (by decide), mx_upR_row, cpy0 hk]
  · rw [mx_up_id _ _ _ _ _ _ (by decide), mx_up_id _ _ _ _ _ _ (by decide), mx_up_id _ _ _ _ _ _ (by decide), mx_upR_row, cpy0 hk, mx_upR_rid _ _ _ 58 (by decide)]
theorem sp_Pi_copy_59_6 (c : mx_M) : mx_Spec 0 1 m_Pi_copy [.ref 59, .ref 6] c (fun r c' => r = none ∧ pCp c c' 59 6) := by
  refine mx_Spec_E rfl rfl rfl ?_
  refine mR 10 rfl (mA5 (by decide) (by decide) (by decide) (by decide) (by decide)) ?_
  rw [show ((nI 54 : Int32)).toNatClampNeg = 54 by decide, show ((0 : Int32)).toNatClampNeg = 0 by decide]
  refine mR 10 rfl (mA5 (by decide) (by decide) (by decide) (by decide) (by decide)) ?_
  rw [show ((nI 63 : Int32)).toNatClampNeg = 63 by decide, show ((0 : Int32)).toNatClampNeg = 0 by decide]
  refine mR 12 rfl trivial ?_
  refine mx_E_vret rfl rfl ⟨rfl, fun r hr => ?_, ⟨?_, ?_, ?_⟩, fun k hk => ?_, fun k hk => ?_⟩
  · have n0 : r ≠ 59 := fun e => hr (by rw [e]; decide)
    rw [mx_up_rid _ _ _ _ _ n0, mx_up_rid _ _ _ _ _ n0, mx_up_rid _ _ _ _ _ n0, mx_upR_rid _ _ _ _ (fun e => hr (by rw [e]; decide)), mx_upR_rid _ _ _ _ (fun e => hr (by rw [e]; decide))]
  · rw [mx_up_ix _ _ _ _ _ _ (by decide), mx_up_ix _ _ _ _ _ _ (by decide), mx_up_same, mx_upR_rid _ _ _ _ (by decide), mx_upR_rid _ _ _ _ (by decide)]
  · rw [mx_up_ix _ _ _ _ _ _ (by decide), mx_up_same, mx_up_id _ _ _ _ _ _ (by decide), mx_upR_rid _ _ _ _ (by decide), mx_upR_rid _ _ _ _ (by decide)]
  · rw [mx_up_same, mx_up_id _ _ _ _ _ _ (by decide), mx_up_id _ _ _ _ _ _ (by decide), mx_upR_rid _ _ _ _ (by decide), mx_upR_rid _ _ _ _ (by decide)]
  · rw [mx_up_id _ _ _ _ _ _ (by decide), mx_up_id _ _ _ _ _ _ (by decide), mx_up_id _ _ _ _ _ _ (by decide), mx_upR_rid _ _ _ 60 (by decide), mx_upR_row, cpy0 hk]
  · rw [mx_up_id _ _ _ _ _ _ (by decide), mx_up_id _ _ _ _ _ _ (by decide), mx_up_id _ _ _ _ _ _ (by decide), mx_upR_row, cpy0 hk, mx_upR_rid _ _ _ 8 (by decide)]
theorem sp_Pi_copy_6_59 (c : mx_M) : mx_Spec 0 1 m_Pi_copy [.ref 6, .ref 59] c (fun r c' => r = none ∧ pCp c c' 6 59) := by
  refine mx_Spec_E rfl rfl rfl ?_
  refine mR 10 rfl (mA5 (by decide) (by decide) (by decide) (by decide) (by decide)) ?_
  rw [show ((nI 54 : Int32)).toNatClampNeg = 54 by decide, show ((0 : Int32)).toNatClampNeg = 0 by decide]
  refine mR 10 rfl (mA5 (by decide) (by decide) (by decide) (by decide) (by decide)) ?_
  rw [show ((nI 63 : Int32)).toNatClampNeg = 63 by decide, show ((0 : Int32)).toNatClampNeg = 0 by decide]
  refine mR 12 rfl trivial ?_
  refine mx_E_vret rfl rfl ⟨rfl, fun r hr => ?_, ⟨?_, ?_, ?_⟩, fun k hk => ?_, fun k hk => ?_⟩
  · have n0 : r ≠ 6 := fun e => hr (by rw [e]; decide)
    rw [mx_up_rid _ _ _ _ _ n0, mx_up_rid _ _ _ _ _ n0, mx_up_rid _ _ _ _ _ n0, mx_upR_rid _ _ _ _ (fun e => hr (by rw [e]; decide)), mx_upR_rid _ _ _ _ (fun e => hr (by rw [e]; decide))]
  · rw [mx_up_ix _ _ _ _ _ _ (by decide), mx_up_ix _ _ _ _ _ _ (by decide), mx_up_same, mx_upR_rid _ _ _ _ (by decide), mx_upR_rid _ _ _ _ (by decide)]
  · rw [mx_up_ix _ _ _ _ _ _ (by decide), mx_up_same, mx_up_id _ _ _ _ _ _ (by decide), mx_upR_rid _ _ _ _ (by decide), mx_upR_rid _ _ _ _ (by decide)]
  · rw [mx_up_same, mx_up_id _ _ _ _ _ _ (by decide), mx_up_id _ _ _ _ _ _ (by decide), mx_upR_rid _ _ _ _ (by decide), mx_upR_rid _ _ _ _ (by decide)]
  · rw [mx_up_id _ _ _ _ _ _ (by decide), mx_up_id _ _ _ _ _ _ (by decide), mx_up_id _ _ _ _ _ _ (by decide), mx_upR_rid _ _ _ 7 (by decide), mx_upR_row, cpy0 hk]
  · rw [mx_up_id _ _ _ _ _ _ (by decide), mx_up_id _ _ _ _ _ _ (by decide), mx_up_id _ _ _ _ _ _ (by decide), mx_upR_row, cpy0 hk, mx_upR_rid _ _ _ 61 (by decide)]
theorem sp_Pi_copy_62_6 (c : mx_M) : mx_Spec 0 1 m_Pi_copy [.ref 62, .ref 6] c (fun r c' => r = none ∧ pCp c c' 62 6) := by
  refine mx_Spec_E rfl rfl rfl ?_
  refine mR 10 rfl (mA5 (by decide) (by decide) (by decide) (by decide) (by decide)) ?_
  rw [show ((nI 54 : Int32)).toNatClampNeg = 54 by decide, show ((0 : Int32)).toNatClampNeg = 0 by decide]
  refine mR 10 rfl (mA5 (by decide) (by decide) (by decide) (by decide) (by decide)) ?_
  rw [show ((nI 63 : Int32)).toNatClampNeg = 63 by decide, show ((0 : Int32)).toNatClampNeg = 0 by decide]
  refine mR 12 rfl trivial ?_
  refine mx_E_vret rfl rfl ⟨rfl, fun r hr => ?_, ⟨?_, ?_, ?_⟩, fun k hk => ?_, fun k hk => ?_⟩
  · have n0 : r ≠ 62 := fun e => hr (by rw [e]; decide)
    rw [mx_up_rid _ _ _ _ _ n0, mx_up_rid _ _ _ _ _ n0, mx_up_rid _ _ _ _ _ n0, mx_upR_rid _ _ _ _ (fun e => hr (by rw [e]; decide)), mx_upR_rid _ _ _ _ (fun e => hr (by rw [e]; decide))]
  · rw [mx_up_ix _ _ _ _ _ _ (by decide), mx_up_ix _ _ _ _ _ _ (by decide), mx_up_same, mx_upR_rid _ _ _ _ (by decide), mx_upR_rid _ _ _ _ (by decide)]
  · rw [mx_up_ix _ _ _ _ _ _ (by decide), mx_up_same, mx_up_id _ _ _ _ _ _ (by decide), mx_upR_rid _ _ _ _ (by decide), mx_upR_rid _ _ _ _ (by decide)]
  · rw [mx_up_same, mx_up_id _ _ _ _ _ _ (by decide), mx_up_id _ _ _ _ _ _ (by decide), mx_upR_rid _ _ _ _ (by decide), mx_upR_rid _ _ _ _ (by decide)]
  · rw [mx_up_id _ _ _ _ _ _ (by decide), mx_up_id _ _ _ _ _ _ (by decide), mx_up_id _ _ _ _ _ _ (by decide), mx_upR_rid _ _ _ 63 (by decide), mx_upR_row, cpy0 hk]
  · rw [mx_up_id _ _ _ _ _ _ (by decide), mx_up_id _ _ _ _ _ _ (by decide), mx_up_id _ _ _ _ _ _ (by decide), mx_upR_row, cpy0 hk, mx_upR_rid _ _ _ 8 (by decide)]
theorem sp_Pi_copy_6_62 (c : mx_M) : mx_Spec 0 1 m_Pi_copy [.ref 6, .ref 62] c (fun r c' => r = none ∧ pCp c c' 6 62) := by
  refine mx_Spec_E rfl rfl rfl ?_
  refine mR 10 rfl (mA5 (by decide) (by decide) (by decide) (by decide) (by decide)) ?_
  rw [show ((nI 54 : Int32)).toNatClampNeg = 54 by decide, show ((0 : Int32)).toNatClampNeg = 0 by decide]
  refine mR 10 rfl (mA5 (by decide) (by decide) (by decide) (by decide) (by decide)) ?_
  rw [show ((nI 63 : Int32)).toNatClampNeg = 63 by decide, show ((0 : Int32)).toNatClampNeg = 0 by decide]
  refine mR 12 rfl trivial ?_
  refine mx_E_vret rfl rfl ⟨rfl, fun r hr => ?_, ⟨?_, ?_, ?_⟩, fun k hk => ?_, fun k hk => ?_⟩
  · have n0 : r ≠ 6 := fun e => hr (by rw [e]; decide)
    rw [mx_up_rid _ _ _ _ _ n0, mx_up_rid _ _ _ _ _ n0, mx_up_rid _ _ _ _ _ n0, mx_upR_rid _ _ _ _ (fun e => hr (by rw [e]; decide)), mx_upR_rid _ _ _ _ (fun e => hr (by rw [e]; decide))]
  · rw [mx_up_ix _ _ _ _ _ _ (by decide), mx_up_ix _ _ _ _ _ _ (by decide), mx_up_same, mx_upR_rid _ _ _ _ (by decide), mx_upR_rid _ _ _ _ (by decide)]
  · rw [mx_up_ix _ _ _ _ _ _ (by decide), mx_up_same, mx_up_id _ _ _ _ _ _ (by decide), mx_upR_rid _ _ _ _ (by decide), mx_upR_rid _ _ _ _ (by decide)]
  · rw [mx_up_same, mx_up_id _ _ _ _ _ _ (by decide), mx_up_id _ _ _ _ _ _ (by decide), mx_upR_rid _ _ _ _ (by decide), mx_upR_rid _ _ _ _ (by decide)]
  · rw [mx_up_id _ _ _ _ _ _ (by decide), mx_up_id _ _ _ _ _ _ (by decide), mx_up_id _ _ _ _ _ _ (by decide), mx_upR_rid _ _ _ 7 (by decide), mx_upR_row, cpy0 hk]
  · rw [mx_up_id _ _ _ _ _ _ (by decide), mx_up_id _ _ _ _ _ _ (by decide), mx_up_id _ _ _ _ _ _ (by decide), mx_upR_row, cpy0 hk, mx_upR_rid _ _ _ 64 (by decide)]
theorem sp_Pi_copy_65_6 (c : mx_M) : mx_Spec 0 1 m_Pi_copy [.ref 65, .ref 6] c (fun r c' => r = none ∧ pCp c c' 65 6) := by
  refine mx_Spec_E rfl rfl rfl ?_
  refine mR 10 rfl (mA5 (by decide) (by decide) (by decide) (by decide) (by decide)) ?_
  rw [show ((nI 54 : Int32)).toNatClampNeg = 54 by decide, show ((0 : Int32)).toNatClampNeg = 0 by decide]
  refine mR 10 rfl (mA5 (by decide) (by decide) (by decide) (by decide) (by decide)) ?_
  rw [show ((nI 63 : Int32)).toNatClampNeg = 63 by decide, show ((0 : Int32)).toNatClampNeg = 0 by decide]
  refine mR 12 rfl trivial ?_
  refine mx_E_vret rfl rfl ⟨rfl, fun r hr => ?_, ⟨?_, ?_, ?_⟩, fun k hk => ?_, fun k hk => ?_⟩
  · have n0 : r ≠ 65 := fun e => hr (by rw [e]; decide)
    rw [mx_up_rid _ _ _ _ _ n0, mx_up_rid _ _ _ _ _ n0, mx_up_rid _ _ _ _ _ n0, mx_upR_rid _ _ _ _ (fun e => hr (by rw [e]; decide)), mx_upR_rid _ _ _ _ (fun e => hr (by rw [e]; decide))]
  · rw [mx_up_ix _ _ _ _ _ _ (by decide), mx_up_ix _ _ _ _ _ _ (by decide), mx_up_same, mx_upR_rid _ _ _ _ (by decide), mx_upR_rid _ _ _ _ (by decide)]
  · rw [mx_up_ix _ _ _ _ _ _ (by decide), mx_up_same, mx_up_id _ _ _ _ _ _ (by decide), mx_upR_rid _ _ _ _ (by decide), mx_upR_rid _ _ _ _ (by decide)]
  · rw [mx_up_same, mx_up_id _ _ _ _ _ _ (by decide), mx_up_id _ _ _ _ _ _ (by decide), mx_upR_rid _ _ _ _ (by decide), mx_upR_rid _ _ _ _ (by decide)]
  · rw [mx_up_id _ _ _ _ _ _ (by decide), mx_up_id _ _ _ _ _ _ (by decide), mx_up_id _ _ _ _ _ _ (by decide), mx_upR_rid _ _ _ 66 (by decide), mx_upR_row, cpy0 hk]
  · rw [mx_up_id _ _ _ _ _ _ (by decide), mx_up_id _ _ _ _ _ _ (by decide), mx_up_id _ _ _ _ _ _ (by decide), mx_upR_row, cpy0 hk, mx_upR_rid _ _ _ 8 (by decide)]
theorem sp_Pi_copy_6_65 (c : mx_M) : mx_Spec 0 1 m_Pi_copy [.ref 6, .ref 65] c (fun r c' => r = none ∧ pCp c c' 6 65) := by
  refine mx_Spec_E rfl rfl rfl ?_
  refine mR 10 rfl (mA5 (by decide) (by decide) (by decide) (by decide) (by decide)) ?_
  rw [show ((nI 54 : Int32)).toNatClampNeg = 54 by decide, show ((0 : Int32)).toNatClampNeg = 0 by decide]
  refine mR 10 rfl (mA5 (by decide) (by decide) (by decide) (by decide) (by decide)) ?_
  rw [show ((nI 63 : Int32)).toNatClampNeg = 63 by decide, show ((0 : Int32)).toNatClampNeg = 0 by decide]
  refine mR 12 rfl trivial ?_
  refine mx_E_vret rfl rfl ⟨rfl, fun r hr => ?_, ⟨?_, ?_, ?_⟩, fun k hk => ?_, fun k hk => ?_⟩
  · have n0 : r ≠ 6 := fun e => hr (by rw [e]; decide)
    rw [mx_up_rid _ _ _ _ _ n0, mx_up_rid _ _ _ _ _ n0, mx_up_rid _ _ _ _ _ n0, mx_upR_rid _ _ _ _ (fun e => hr (by rw [e]; decide)), mx_upR_rid _ _ _ _ (fun e => hr (by rw [e]; decide))]
  · rw [mx_up_ix _ _ _ _ _ _ (by decide), mx_up_ix _ _ _ _ _ _ (by decide), mx_up_same, mx_upR_rid _ _ _ _ (by decide), mx_upR_rid _ _ _ _ (by decide)]
  · rw [mx_up_ix _ _ _ _ _ _ (by decide), mx_up_same, mx_up_id _ _ _ _ _ _ (by decide), mx_upR_rid _ _ _ _ (by decide), mx_upR_rid _ _ _ _ (by decide)]
  · rw [mx_up_same, mx_up_id _ _ _ _ _ _ (by decide), mx_up_id _ _ _ _ _ _ (by decide), mx_upR_rid _ _ _ _ (by decide), mx_upR_rid _ _ _ _ (by decide)]
  · rw [mx_up_id _ _ _ _ _ _ (by decide), mx_up_id _ _ _ _ _ _ (by decide), mx_up_id _ _ _ _ _ _ (by decide), mx_upR_rid _ _ _ 7 (by decide), mx_upR_row, cpy0 hk]
  · rw [mx_up_id _ _ _ _ _ _ (by decide), mx_up_id _ _ _ _ _ _ (by decide), mx_up_id _ _ _ _ _ _ (by decide), mx_upR_row, cpy0 hk, mx_upR_rid _ _ _ 67 (by decide)]
theorem sp_Pi_copy_68_6 (c : mx_M) : mx_Spec 0 1 m_Pi_copy [.ref 68, .ref 6] c (fun r c' => r = none ∧ pCp c c' 68 6) := by
  refine mx_Spec_E rfl rfl rfl ?_
  refine mR 10 rfl (mA5 (by decide) (by decide) (by decide) (by decide) (by decide)) ?_
  rw [show ((nI 54 : Int32)).toNatClampNeg = 54 by decide, show ((0 : Int32)).toNatClampNeg = 0 by decide]
  refine mR 10 rfl (mA5 (by decide) (by decide) (by decide) (by decide) (by decide)) ?_
  rw [show ((nI 63 : Int32)).toNatClampNeg = 63 by decide, show ((0 : Int32)).toNatClampNeg = 0 by decide]
  refine mR 12 rfl trivial ?_
  refine mx_E_vret rfl rfl ⟨rfl, fun r hr => ?_, ⟨?_, ?_, ?_⟩, fun k hk => ?_, fun k hk => ?_⟩
  · have n0 : r ≠ 68 := fun e => hr (by rw [e]; decide)
    rw [mx_up_rid _ _ _ _ _ n0, mx_up_rid _ _ _ _ _ n0, mx_up_rid _ _ _ _ _ n0, mx_upR_rid _ _ _ _ (fun e => hr (by rw [e]; decide)), mx_upR_rid _ _ _ _ (fun e => hr (by rw [e]; decide))]
  · rw [mx_up_ix _ _ _ _ _ _ (by decide), mx_up_ix _ _ _ _ _ _ (by decide), mx_up_same, mx_upR_rid _ _ _ _ (by decide), mx_upR_rid _ _ _ _ (by decide)]
  · rw [mx_up_ix _ _ _ _ _ _ (by decide), mx_up_same, mx_up_id _ _ _ _ _ _ (by decide), mx_upR_rid _ _ _ _ (by decide), mx_upR_rid _ _ _ _ (by decide)]
  · rw [mx_up_same, mx_up_id _ _ _ _ _ _ (by decide), mx_up_id _ _ _ _ _ _ (by decide), mx_upR_rid _ _ _ _ (by decide), mx_upR_rid _ _ _ _ (by decide)]
  · rw [mx_up_id _ _ _ _ _ _ (by decide), mx_up_id _ _ _ _ _ _ (by decide), mx_up_id _ _ _ _ _ _ (by decide), mx_upR_rid _ _ _ 69 (by decide), mx_upR_row, cpy0 hk]
  · rw [mx_up_id _ _ _ _ _ _ (by decide), mx_up_id _ _ _ _ _ _ (by decide), mx_up_id _ _ _ _ _ _ (by decide), mx_upR_row, cpy0 hk, mx_upR_rid _ _ _ 8 (by decide)]
theorem sp_Pi_copy_6_68 (c : mx_M) : mx_Spec 0 1 m_Pi_copy [.ref 6, .ref 68] c (fun r c' => r = none ∧ pCp c c' 6 68) := by
  refine mx_Spec_E rfl rfl rfl ?_
  refine mR 10 rfl (mA5 (by decide) (by decide) (by decide) (by decide) (by decide)) ?_
  rw [show ((nI 54 : Int32)).toNatClampNeg = 54 by decide, show ((0 : Int32)).toNatClampNeg = 0 by decide]
  refine mR 10 rfl (mA5 (by decide) (by decide) (by decide) (by decide) (by decide)) ?_
  rw [show ((nI 63 : Int32)).toNatClampNeg = 63 by decide, show ((0 : Int32)).toNatClampNeg = 0 by decide]
  refine mR 12 rfl trivial ?_
  refine mx_E_vret rfl rfl ⟨rfl, fun r hr => ?_, ⟨?_, ?_, ?_⟩, fun k hk => ?_, fun k hk => ?_⟩
  · have n0 : r ≠ 6 := fun e => hr (by rw [e]; decide)
    rw [mx_up_rid _ _ _ _ _ n0, mx_up_rid _ _ _ _ _ n0, mx_up_rid _ _ _ _ _ n0, mx_upR_rid _ _ _ _ (fun e => hr (by rw [e]; decide)), mx_upR_rid _ _ _ _ (fun e => hr (by rw [e]; decide))]
  · rw [mx_up_ix _ _ _ _ _ _ (by decide), mx_up_ix _ _ _ _ _ _ (by decide), mx_up_same, mx_upR_rid _ _ _ _ (by decide), mx_upR_rid _ _ _ _ (by decide)]
  · rw [mx_up_ix _ _ _ _ _ _ (by decide), mx_up_same, mx_up_id _ _ _ _ _ _ (by decide), mx_upR_rid _ _ _ _ (by decide), mx_upR_rid _ _ _ _ (by decide)]
  · rw [mx_up_same, mx_up_id _ _ _ _ _ _ (by decide), mx_up_id _ _ _ _ _ _ (by decide), mx_upR_rid _ _ _ _ (by decide), mx_upR_rid _ _ _ _ (by decide)]
  · rw [mx_up_id _ _ _ _ _ _ (by decide), mx_up_id _ _ _ _ _ _ (by decide), mx_up_id _ _ _ _ _ _ (by decide), mx_upR_rid _ _ _ 7 (by decide), mx_upR_row, cpy0 hk]
  · rw [mx_up_id _ _ _ _ _ _ (by decide), mx_up_id _ _ _ _ _ _ (by decide), mx_up_id _ _ _ _ _ _ (by decide), mx_upR_row, cpy0 hk, mx_upR_rid _ _ _ 70 (by decide)]
theorem j10 {j : Nat} (h : j < 10) : j = 0 ∨ j = 1 ∨ j = 2 ∨ j = 3 ∨ j = 4 ∨ j = 5 ∨ j = 6 ∨ j = 7 ∨ j = 8 ∨ j = 9 := by omega
theorem sp_Pi_copy_k (c : mx_M) (j : Nat) (hj : j < 10) : mx_Spec 0 1 m_Pi_copy [.ref (35 + 3 * j), .ref 6] c (fun r c' => r = none ∧ pCp c c' (35 + 3 * j) 6) := by
  rcases j10 hj with rfl | rfl | rfl | rfl | rfl | rfl | rfl | rfl | rfl | rfl
  · exact sp_Pi_copy_35_6 c
  · exact sp_Pi_copy_38_6 c
  · exact sp_Pi_copy_41_6 c
  · exact sp_Pi_copy_44_6 c
  · exact sp_Pi_copy_47_6 c
  · exact sp_Pi_copy_50_6 c
  · exact sp_Pi_copy_53_6 c
  · exact sp_Pi_copy_56_6 c
  · exact sp_Pi_copy_59_6 c
  · exact sp_Pi_copy_62_6 c
theorem sp_Pi_copy_b (c : mx_M) (j : Nat) (hj : j < 10) : mx_Spec 0 1 m_Pi_copy [.ref 6, .ref (35 + 3 * j)] c (fun r c' => r = none ∧ pCp c c' 6 (35 + 3 * j)) := by
  rcases j10 hj with rfl | rfl | rfl | rfl | rfl | rfl | rfl | rfl | rfl | rfl
  · exact sp_Pi_copy_6_35 c
  · exact sp_Pi_copy_6_38 c
  · exact sp_Pi_copy_6_41 c
  · exact sp_Pi_copy_6_44 c
  · exact sp_Pi_copy_6_47 c
  · exact sp_Pi_copy_6_50 c
  · exact sp_Pi_copy_6_53 c
  · exact sp_Pi_copy_6_56 c
  · exact sp_Pi_copy_6_59 c
  · exact sp_Pi_copy_6_62 c
theorem sp_Pi_copy_i (c : mx_M) (j : Nat) (hj : j < 2) : mx_Spec 0 1 m_Pi_copy [.ref (65 + 3 * j), .ref 6] c (fun r c' => r = none ∧ pCp c c' (65 + 3 * j) 6) := by
  rcases (show j = 0 ∨ j = 1 by omega) with rfl | rfl
  · exact sp_Pi_copy_65_6 c
  · exact sp_Pi_copy_68_6 c
theorem sp_Pi_copy_j (c : mx_M) (j : Nat) (hj : j < 2) : mx_Spec 0 1 m_Pi_copy [.ref 6, .ref (65 + 3 * j)] c (fun r c' => r = none ∧ pCp c c' 6 (65 + 3 * j)) := by
  rcases (show j = 0 ∨ j = 1 by omega) with rfl | rfl
  · exact sp_Pi_copy_6_65 c
  · exact sp_Pi_copy_6_68 c
theorem cv_k {j : Nat} (hj : j < 10) {d : Nat} (hd : Nat.blt 1 d = true) : mx_cv 0 d 1 m_Pi_copy 2 [.ref (35 + 3 * j), .ref 6] [] = true := by
  unfold mx_cv
  rw [hd]
  rcases j10 hj with rfl | rfl | rfl | rfl | rfl | rfl | rfl | rfl | rfl | rfl <;> rfl
theorem sh_k {j : Nat} (hj : j < 10) : 35 + 3 * j < mx_N 0 ∧ ∃ fs, mx_sh 0 (35 + 3 * j) = .inl (1, fs) := by
  rcases j10 hj with rfl | rfl | rfl | rfl | rfl | rfl | rfl | rfl | rfl | rfl <;> exact ⟨by decide, _, rfl⟩
/-- the agenda and the ballots are up to the picture -/
def cB (c : mx_M) (n m : Nat) (p : mPic) : Prop := cT c n p.2.1 p.2.2.1 p.2.2.2 ∧ bQ c 14 15 m n p.2.1 p.2.2.1 p.2.2.2 p.1
def cX (c : mx_M) (x : pX) : Prop := c 1 2 = nI x.1 ∧ x.1 ≤ 120 ∧ ∀ i, i < x.1 → c 2 i = x.2 i
def cS (c : mx_M) (s : Nat × (Nat → Nat × Nat × Nat)) : Prop := c 27 3 = nI s.1 ∧ s.1 ≤ 6 ∧ ∀ i, i < s.1 → c 28 i = nI (s.2 i).1 ∧ c 29 i = nI (s.2 i).2.1 ∧ c 30 i = nI (s.2 i).2.2 ∧ (s.2 i).1 < 64 ∧ (s.2 i).2.1 < 64 ∧ (s.2 i).2.2 < 2
def cU (c : mx_M) (n m : Nat) (u : Nat × (Nat → mPic)) : Prop := c 0 7 = nI u.1 ∧ u.1 ≤ 10 ∧ ∃ σ : Nat → Nat, (∀ i, i < 10 → σ i < 10 ∧ c 25 i = nI (35 + 3 * σ i)) ∧ (∀ i j, i < 10 → j < 10 → σ i = σ j → i = j) ∧ ∀ i, i < u.1 → cP c (35 + 3 * σ i) (35 + 3 * σ i + 1) (35 + 3 * σ i + 2) n m (u.2 i)
def cM (c : mx_M) (n m : Nat) (I : Nat → Option mPic) : Prop := (∀ i, i < 2 → c 26 i = nI (65 + 3 * i)) ∧ ∃ b, c 0 9 = nI b ∧ b < 4 ∧ ∀ i, i < 2 → b.testBit i = (I i).isSome ∧ ∀ p, I i = some p → cP c (65 + 3 * i) (65 + 3 * i + 1) (65 + 3 * i + 2) n m p
/-- all but what follows from the picture -/
def cJ (c : mx_M) (a : mSt) : Prop := (mn a.1.1 ∧ a.1.2 ≤ 9) ∧ cP c 6 7 8 a.1.1 a.1.2 a.2.1 ∧ cX c a.2.2.1 ∧ cS c a.2.2.2.1 ∧ cU c a.1.1 a.1.2 a.2.2.2.2.1 ∧ cM c a.1.1 a.1.2 a.2.2.2.2.2
/-- the class holds the state a -/
def cI (c : mx_M) (a : mSt) : Prop := cJ c a ∧ cB c a.1.1 a.1.2 a.2.1
theorem cX_fr {c c' : mx_M} {x : pX} (h : cX c x) (h1 : c' 1 2 = c 1 2) (h2 : c' 2 = c 2) : cX c' x := by
  unfold cX at h ⊢
  rw [h1, h2]
  exact h
theorem cS_fr {c c' : mx_M} {s : Nat × (Nat → Nat × Nat × Nat)} (h : cS c s) (h1 : c' 27 = c 27) (h2 : c' 28 = c 28) (h3 : c' 29 = c 29) (h4 : c' 30 = c 30) : cS c' s := by
  unfold cS at h ⊢
  rw [h1, h2, h3, h4]
  exact h
theorem cU_fr {c c' : mx_M} {n m : Nat} {u : Nat × (Nat → mPic)} (h : cU c n m u) (h0 : c' 0 7 = c 0 7) (h25 : c' 25 = c 25) (hr : ∀ r, 35 ≤ r → r < 65 → c' r = c r) : cU c' n m u := by
  obtain ⟨h1, h2, σ, g1, g2, g3⟩ := h
  refine ⟨by rw [h0]; exact h1, h2, σ, fun i hi => by rw [h25]; exact g1 i hi, g2, fun i hi => ?_⟩
  have := (g1 i (by omega)).1
  exact cP_fr (g3 i hi) (hr _ (by omega) (by omega)) (hr _ (by omega) (by omega)) (hr _ (by omega) (by omega))
theorem cM_fr {c c' : mx_M} {n m : Nat} {I : Nat → Option mPic} (h : cM c n m I) (h0 : c' 0 9 = c 0 9) (h26 : c' 26 = c 26) (hr : ∀ r, 65 ≤ r → r < 71 → c' r = c r) : cM c' n m I := by
  obtain ⟨h1, b, h2, h3, g⟩ := h
  refine ⟨fun i hi => by rw [h26]; exact h1 i hi, b, by rw [h0]; exact h2, h3, fun i hi => ⟨(g i hi).1, fun p hp => ?_⟩⟩
  exact cP_fr ((g i hi).2 p hp) (hr _ (by omega) (by omega)) (hr _ (by omega) (by omega)) (hr _ (by omega) (by omega))
theorem cB_fr {c c' : mx_M} {n m : Nat} {p : mPic} (h : cB c n m p) (h1 : c' 9 = c 9) (h2 : c' 10 = c 10) (h3 : c' 11 = c 11) (h4 : c' 12 = c 12) (h5 : c' 14 = c 14) (h6 : c' 15 = c 15) : cB c' n m p := by
  unfold cB cT bQ at h ⊢
  rw [h1, h2, h3, h4, h5, h6]
  exact h
/-- what it uses and leaves as it is -/
abbrev cSc : List Nat := [3, 4, 5, 16, 17, 18, 19, 20, 21, 22, 23, 24, 31, 32, 33, 34]
theorem nSc {r : Nat} (h : 35 ≤ r) : r ∉ cSc := by
  intro z
  simp only [List.mem_cons, List.not_mem_nil, or_false] at z
  omega
theorem cJ_fr {c c' : mx_M} {a : mSt} (h : cJ c a) (hf : mfr cSc c c') : cJ c' a := by
  obtain ⟨h0, h1, h2, h3, h4, h5⟩ := h
  exact ⟨h0, cP_fr h1 (hf 6 (by decide)) (hf 7 (by decide)) (hf 8 (by decide)), cX_fr h2 (by rw [hf 1 (by decide)]) (hf 2 (by decide)), cS_fr h3 (hf 27 (by decide)) (hf 28 (by decide)) (hf 29 (by decide)) (hf 30 (by decide)), cU_fr h4 (by rw [hf 0 (by decide)]) (hf 25 (by decide)) (fun r hr _ => hf r (nSc hr)), cM_fr h5 (by rw [hf 0 (by decide)]) (hf 26 (by decide)) (fun r hr _ => hf r (nSc (by omega)))⟩
theorem cI_fr {c c' : mx_M} {a : mSt} (h : cI c a) (hf : mfr cSc c c') : cI c' a := ⟨cJ_fr h.1 hf, cB_fr h.2 (hf 9 (by decide)) (hf 10 (by decide)) (hf 11 (by decide)) (hf 12 (by decide)) (hf 14 (by decide)) (hf 15 (by decide))⟩
theorem sp_De_settle (c : mx_M) {n m : Nat} {p : mPic} (hn : mn n) (hm : m ≤ 9) (h : cP c 6 7 8 n m p) : mx_Spec 0 6 m_De_settle [.ref 0] c (fun r c' => r = none ∧ mfr [9, 10, 11, 12, 14, 15] c c' ∧ cB c' n m p) := by
  obtain ⟨h1, h2, h3, h4, h5, h6, h7⟩ := h
  refine mx_Spec_E rfl rfl rfl ?_
  refine mR 4 rfl trivial ?_
  refine mx_E_callV (sp_Tr_measure _ hn.2 h6 h7 h3) rfl rfl rfl (fun r c1 hr => ?_)
  obtain ⟨rfl, f1, hT⟩ := hr
  refine mR 6 rfl trivial ?_
  refine mx_E_callV (sp_Ba_castAll _ (R := p.1) hT hn.2 hm (by rw [f1 6 (by decide)]; exact h2) (by rw [f1 6 (by decide)]; exact h1) h4 (by rw [f1 7 (by decide)]; exact h5)) rfl rfl rfl (fun r c2 hr => ?_)
  obtain ⟨rfl, f2, hb⟩ := hr
  refine mx_E_vret rfl rfl ⟨rfl, mfr_tr (mfr_mo f1 (by decide)) (mfr_mo f2 (by decide)), cT_fr hT f2 (by decide) (by decide) (by decide) (by decide), hb⟩
abbrev cSet : List Nat := [9, 10, 11, 12, 14, 15]
theorem nSet {r : Nat} (h : 16 ≤ r) : r ∉ cSet := by
  intro z
  simp only [List.mem_cons, List.not_mem_nil, or_false] at z
  omega
theorem cI_set {c c' : mx_M} {a : mSt} (h : cJ c a) (hf : mfr cSet c c') (hb : cB c' a.1.1 a.1.2 a.2.1) : cI c' a := by
  obtain ⟨h0, h1, h2, h3, h4, h5⟩ := h
  exact ⟨⟨h0, cP_fr h1 (hf 6 (by decide)) (hf 7 (by decide)) (hf 8 (by decide)), cX_fr h2 (by rw [hf 1 (by decide)]) (hf 2 (by decide)), cS_fr h3 (hf 27 (by decide)) (hf 28 (by decide)) (hf 29 (by decide)) (hf 30 (by decide)), cU_fr h4 (by rw [hf 0 (by decide)]) (hf 25 (by decide)) (fun r hr _ => hf r (nSet (by omega))), cM_fr h5 (by rw [hf 0 (by decide)]) (hf 26 (by decide)) (fun r hr _ => hf r (nSet (by omega)))⟩, hb⟩
/-- the first of the known goes to the end -/
def rotF (g : Nat → Int32) (i : Nat) : Nat → Int32 := fun k => if k + 1 < i then g (k + 1) else g k
theorem lp_De_remember {Q : Option Value → mx_M → Prop} {c : mx_M} {σ : Nat → Nat} {L1 : Value} (hσ : ∀ i, i < 10 → σ i < 10 ∧ c 25 i = nI (35 + 3 * σ i)) {o : Nat} (hk : mx_E 0 2 m_De_remember Q 26 [.ref 0, .ref o, .null] [] (mx_upR c 25 (rotF (c 25) 10))) :
    ∀ (u i : Nat), i + u = 10 → 1 ≤ i → mx_E 0 2 m_De_remember Q 11 [.ref 0, .ref o, .int (nI i)] [] (mx_upR c 25 (rotF (c 25) i))
  | 0, i, h, h1 => by
    have e : i = 10 := by omega
    subst e
    refine mR 2 rfl trivial ?_
    refine mbGe 10 10 rfl (by decide) (by decide) (fun _ => ?_) (fun h => by omega)
    exact mW hk ⟨Or.inr rfl, Or.inr rfl, Or.inl rfl, trivial⟩ rfl rfl
  | u + 1, i, h, h1 => by
    refine mR 2 rfl trivial ?_
    refine mbGe i 10 rfl (by omega) (by decide) (fun h => by omega) (fun _ => ?_)
    have ei : nI i - 1 = nI (i - 1) := by rw [show (1 : Int32) = nI 1 from rfl, pk_sub (by omega)]
    have ev : mx_upR c 25 (rotF (c 25) i) 25 i = nI (35 + 3 * σ i) := by
      rw [mx_upR_row]
      unfold rotF
      rw [if_neg (by omega)]
      exact (hσ i (by omega)).2
    have hs := (hσ i (by omega)).1
    refine mR 12 rfl (mA3 (mI (by omega)) (by rw [ei]; exact mI (by omega)) (by rw [nI_cl (a := i) (by omega), ev, nI_cl (by omega)]; exact sh_k hs)) ?_
    rw [ei, nI_cl (a := i) (by omega), nI_cl (a := i - 1) (by omega), ev, nI_cl (a := 35 + 3 * σ i) (by omega), nI_1, mx_up_put]
    refine mS (lp_De_remember (L1 := L1) hσ hk u (i + 1) (by omega) (by omega)) rfl rfl ?_
    congr 1
    funext k
    unfold upd rotF
    by_cases e : k = i - 1
    · rw [if_pos e, if_pos (by omega), show k + 1 = i by omega]
      exact (hσ i (by omega)).2.symm
    · rw [if_neg e]
      by_cases e2 : k + 1 < i
      · rw [if_pos e2, if_pos (by omega)]
      · rw [if_neg e2, if_neg (by omega)]
abbrev kK : List Nat := [0, 25, 35, 36, 37, 38, 39, 40, 41, 42, 43, 44, 45, 46, 47, 48, 49, 50, 51, 52, 53, 54, 55, 56, 57, 58, 59, 60, 61, 62, 63, 64]
theorem kK_in {r : Nat} (h : 35 ≤ r) (h2 : r < 65) : r ∈ kK := by
  simp only [List.mem_cons, List.not_mem_nil, or_false]
  omega
theorem kK_no {r : Nat} (h : (1 ≤ r ∧ r < 25) ∨ (26 ≤ r ∧ r < 35) ∨ 65 ≤ r) : r ∉ kK := by
  intro z
  simp only [List.mem_cons, List.not_mem_nil, or_false] at z
  omega
theorem cI_kn {c c' : mx_M} {a : mSt} {U : Nat × (Nat → mPic)} (h : cI c a) (hf : mfr kK c c') (h0 : c' 0 9 = c 0 9) (hu : cU c' a.1.1 a.1.2 U) : cI c' (a.1, a.2.1, a.2.2.1, a.2.2.2.1, U, a.2.2.2.2.2) := by
  obtain ⟨⟨g0, g1, g2, g3, g4, g5⟩, g6⟩ := h
  have z : ∀ r, ((1 ≤ r ∧ r < 25) ∨ (26 ≤ r ∧ r < 35) ∨ 65 ≤ r) → c' r = c r := fun r hr => hf r (kK_no hr)
  exact ⟨⟨g0, cP_fr g1 (z 6 (by omega)) (z 7 (by omega)) (z 8 (by omega)), cX_fr g2 (by rw [z 1 (by omega)]) (z 2 (by omega)), cS_fr g3 (z 27 (by omega)) (z 28 (by omega)) (z 29 (by omega)) (z 30 (by omega)), hu, cM_fr g5 h0 (z 26 (by omega)) (fun r hr _ => z r (by omega))⟩, cB_fr g6 (z 9 (by omega)) (z 10 (by omega)) (z 11 (by omega)) (z 12 (by omega)) (z 14 (by omega)) (z 15 (by omega))⟩
/-- the picture as it stands becomes the u-th known one -/
theorem re_tail {Q : Option Value → mx_M → Prop} {c : mx_M} {n m u : Nat} {p : mPic} {U : Nat → mPic} {σ : Nat → Nat} {L1 L2 : Value} (hn : n ≤ 6) (hm : m ≤ 9) (hu : u < 10) (h7 : c 0 7 = nI u) (hP : cP c 6 7 8 n m p) (g1 : ∀ i, i < 10 → σ i < 10 ∧ c 25 i = nI (35 + 3 * σ i)) (g2 : ∀ i j, i < 10 → j < 10 → σ i = σ j → i = j) (g3 : ∀ i, i < u → cP c (35 + 3 * σ i) (35 + 3 * σ i + 1) (35 + 3 * σ i + 2) n m (U i)) (hq : ∀ c', mfr kK c c' → c' 0 9 = c 0 9 → cU c' n m (u + 1, fun i => if i = u then p else U i) → Q none c') : mx_E 0 2 m_De_remember Q 34 [.ref 0, .null, .null] [] c := by
  obtain ⟨s1, s2⟩ := g1 u hu
  refine mR 5 rfl (mA1 (by rw [h7]; exact mI (by omega))) ?_
  rw [h7, nI_cl (a := u) (by omega), s2, nI_cl (a := 35 + 3 * σ u) (by omega)]
  refine mR 2 rfl trivial ?_
  refine mx_E_callV (sp_Pi_copy_k _ (σ u) s1) rfl rfl (cv_k s1 rfl) (fun r c1 hr => ?_)
  obtain ⟨rfl, hc⟩ := hr
  have n0 : (0 : Nat) ∉ [35 + 3 * σ u, 35 + 3 * σ u + 1, 35 + 3 * σ u + 2] := by simp; omega
  refine mR 6 rfl trivial ?_
  rw [hc.1 0 n0, h7, nI_1]
  have far : ∀ r, r ≠ 35 + 3 * σ u → r ≠ 35 + 3 * σ u + 1 → r ≠ 35 + 3 * σ u + 2 → c1 r = c r := fun r e1 e2 e3 => hc.1 r (by simp; omega)
  refine mx_E_vret rfl rfl (hq _ (fun r hr => ?_) ?_ ⟨mx_up_same _ _ _ _, by show u + 1 ≤ 10; omega, σ, fun i hi => ⟨(g1 i hi).1, ?_⟩, g2, fun i hi => ?_⟩)
  · rw [mx_up_rid _ _ _ _ _ (fun e => hr (by rw [e]; decide))]
    exact far r (fun e => hr (by rw [e]; exact kK_in (by omega) (by omega))) (fun e => hr (by rw [e]; exact kK_in (by omega) (by omega))) (fun e => hr (by rw [e]; exact kK_in (by omega) (by omega)))
  · rw [mx_up_ix _ _ _ _ _ _ (by decide), hc.1 0 n0]
  · rw [mx_up_rid _ _ _ _ _ (by decide), far 25 (by omega) (by omega) (by omega)]
    exact (g1 i hi).2
  · have hi2 : i < u + 1 := hi
    show cP _ _ _ _ n m (if i = u then p else U i)
    have up : ∀ r, 1 ≤ r → mx_up c1 0 7 (nI (u + 1)) r = c1 r := fun r h => mx_up_rid _ _ _ _ _ (by omega)
    by_cases e : i = u
    · rw [if_pos e, e]
      refine cP_fr (cP_cp hn hm (S := 6) hP hc) (up _ (by omega)) (up _ (by omega)) (up _ (by omega))
    · rw [if_neg e]
      have hne : σ i ≠ σ u := fun z => e (g2 i u (by omega) hu z)
      refine cP_fr (g3 i (by omega)) ?_ ?_ ?_
      · rw [up _ (by omega)]; exact far _ (by omega) (by omega) (by omega)
      · rw [up _ (by omega)]; exact far _ (by omega) (by omega) (by omega)
      · rw [up _ (by omega)]; exact far _ (by omega) (by omega) (by omega)
theorem sp_De_remember (c : mx_M) {a : mSt} (h : cI c a) : mx_Spec 0 2 m_De_remember [.ref 0] c (fun r c' => r = none ∧ cI c' (aN a)) := by
  obtain ⟨⟨⟨hn, hm⟩, hP, -, -, ⟨u7, u10, σ, g1, g2, g3⟩, -⟩, -⟩ := id h
  refine mx_Spec_E rfl rfl rfl ?_
  refine mR 3 rfl trivial ?_
  rw [u7, show (10 : Int32) = nI 10 from rfl]
  refine mbLt _ _ rfl (by omega) (by decide) (fun hu => ?_) (fun hu => ?_)
  · refine re_tail (L1 := .null) (L2 := .null) hn.2 hm hu u7 hP g1 g2 g3 (fun c' hf h9 hU => ⟨rfl, ?_⟩)
    have z := cI_kn h hf h9 hU
    unfold aN aNote
    rw [if_neg (by omega)]
    exact z
  · have eu : a.2.2.2.2.1.1 = 10 := by omega
    refine mR 5 rfl (mA1 (mI (n := 0) (by decide))) ?_
    rw [show ((0 : Int32)).toNatClampNeg = 0 by decide, (g1 0 (by decide)).2, nI_cl (a := 35 + 3 * σ 0) (by have := (g1 0 (by decide)).1; omega)]
    refine mR 2 rfl trivial ?_
    have s0 := (g1 0 (by decide)).1
    refine mS (lp_De_remember (L1 := .null) (c := c) g1 (o := 35 + 3 * σ 0) ?_ 9 1 rfl (by decide)) rfl rfl ?_
    · refine mR 5 rfl (mA2 (mI (n := 9) (by decide)) (sh_k s0)) ?_
      rw [show ((9 : Int32)).toNatClampNeg = 9 by decide]
      refine mR 3 rfl trivial ?_
      obtain ⟨c2, hc2⟩ : ∃ c2, c2 = mx_up (mx_up (mx_upR c 25 (rotF (c 25) 10)) 25 9 (nI (35 + 3 * σ 0))) 0 7 9 := ⟨_, rfl⟩
      rw [← hc2]
      have far : ∀ r, r ≠ 0 → r ≠ 25 → c2 r = c r := fun r e1 e2 => by rw [hc2, mx_up_rid _ _ _ _ _ e1, mx_up_rid _ _ _ _ _ e2, mx_upR_rid _ _ _ _ e2]
      refine mW (re_tail (L1 := .null) (L2 := .null) (c := c2) (u := 9) (U := fun i => a.2.2.2.2.1.2 (i + 1)) (σ := fun i => if i = 9 then σ 0 else σ (i + 1)) hn.2 hm (by decide) (by rw [hc2, mx_up_same]; rfl) (cP_fr hP (far 6 (by decide) (by decide)) (far 7 (by decide) (by decide)) (far 8 (by decide) (by decide))) (fun i hi => ?_) (fun i j hi hj e => ?_) (fun i hi => ?_) (fun c' hf h9 hU => ⟨rfl, ?_⟩)) ⟨Or.inr rfl, Or.inl rfl, Or.inl rfl, trivial⟩ rfl rfl
      · by_cases e : i = 9
        · rw [if_pos e]
          refine ⟨s0, ?_⟩
          rw [hc2, e, mx_up_id _ _ _ _ _ _ (by decide), mx_up_same]
        · rw [if_neg e]
          refine ⟨(g1 (i + 1) (by omega)).1, ?_⟩
          rw [hc2, mx_up_id _ _ _ _ _ _ (by decide), mx_up_ix _ _ _ _ _ _ e, mx_upR_row]
          unfold rotF
          rw [if_pos (by omega)]
          exact (g1 (i + 1) (by omega)).2
      · by_cases e1 : i = 9
        · by_cases e2 : j = 9
          · omega
          · rw [if_pos e1, if_neg e2] at e
            have := g2 0 (j + 1) (by omega) (by omega) e
            omega
        · by_cases e2 : j = 9
          · rw [if_neg e1, if_pos e2] at e
            have := g2 (i + 1) 0 (by omega) (by omega) e
            omega
          · rw [if_neg e1, if_neg e2] at e
            have := g2 (i + 1) (j + 1) (by omega) (by omega) e
            omega
      · rw [if_neg (by omega)]
        exact cP_fr (g3 (i + 1) (by omega)) (far _ (by omega) (by omega)) (far _ (by omega) (by omega)) (far _ (by omega) (by omega))
      · have hfc : mfr kK c c' := fun r hr => by rw [hf r hr]; exact far r (fun e => hr (by rw [e]; decide)) (fun e => hr (by rw [e]; decide))
        have h9c : c' 0 9 = c 0 9 := by rw [h9, hc2, mx_up_ix _ _ _ _ _ _ (by decide), mx_up_id _ _ _ _ _ _ (by decide), mx_upR_rid _ _ _ _ (by decide)]
        have z := cI_kn h hfc h9c hU
        unfold aN aNote
        rw [if_pos eu]
        exact z
    · rw [show rotF (c 25) 1 = c 25 from by
        funext k
        unfold rotF
        rw [if_neg (by omega)], mx_upR_self]
