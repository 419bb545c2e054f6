theorem sp_Mo_in (c : mx_M) (x y z : Int32) : mx_Spec 1 1 m_Mo_in [.int x, .int y, .int z] c (fun r c' => r = some (.int (mz (decide (y ≤ x ∧ x ≤ z)))) ∧ c' = c) := by
  refine mx_Spec_E rfl rfl rfl ?_
  refine mR 2 rfl trivial ?_
  refine mx_E_br rfl rfl (fun h => ?_) (fun h => ?_)
  · refine mR 1 rfl trivial ?_
    refine mx_E_zret rfl rfl (Or.inl rfl) ⟨?_, rfl⟩
    rw [decide_eq_false (fun q => absurd q.1 (fa_of_lt h).2.1)]
    rfl
  · refine mR 2 rfl trivial ?_
    refine mx_E_br rfl rfl (fun h2 => ?_) (fun h2 => ?_)
    · refine mR 1 rfl trivial ?_
      refine mx_E_zret rfl rfl (Or.inl rfl) ⟨?_, rfl⟩
      rw [decide_eq_false (fun q => absurd q.2 (fa_of_lt h2).2.1)]
      rfl
    · refine mR 2 rfl trivial ?_
      refine mx_E_zret rfl rfl (Or.inr rfl) ⟨?_, rfl⟩
      rw [decide_eq_true ⟨fa_of_nlt h, fa_of_nlt h2⟩]
      rfl
theorem sp_Mo_has (c : mx_M) (x y : Nat) (hx : x < 2147483648) (hy : y < 31) : mx_Spec 1 1 m_Mo_has [.int (nI x), .int (nI y)] c (fun r c' => r = some (.int (mz (x.testBit y))) ∧ c' = c) := by
  refine mx_Spec_E rfl rfl rfl ?_
  refine mR 6 rfl trivial ?_
  refine mx_E_br rfl rfl (fun h => ?_) (fun h => ?_)
  · refine mR 1 rfl trivial ?_
    refine mx_E_zret rfl rfl (Or.inl rfl) ⟨?_, rfl⟩
    rw [nI_tb hx hy] at h
    rw [show x.testBit y = false by simpa using h]
    rfl
  · refine mR 2 rfl trivial ?_
    refine mx_E_zret rfl rfl (Or.inr rfl) ⟨?_, rfl⟩
    rw [nI_tb hx hy] at h
    rw [show x.testBit y = true by simpa using h]
    rfl
