theorem sp_Mo_has (c : mx_M) (x y : Int32) : mx_Spec 1 1 m_Mo_has [.int x, .int y] c (fun r c' => c' = c ∧ r = some (.int (if (x >>> (y &&& 31)) &&& 1 = 1 then 1 else 0))) := by
  refine mx_Spec_E rfl rfl rfl ?_
  refine mx_E_run 6 rfl (by decide) trivial ?_
  refine mx_E_br rfl rfl (fun h => ?_) (fun h => ?_)
  · trace_state
    refine mx_E_run 1 rfl (by decide) trivial ?_
    exact mx_E_zret rfl rfl (Or.inl rfl) ⟨rfl, by rw [if_neg h]⟩
  · refine mx_E_run 2 rfl (by decide) trivial ?_
    trace_state
    exact mx_E_zret rfl rfl (Or.inr rfl) ⟨rfl, by rw [if_pos (Decidable.not_not.mp h)]⟩
theorem sp_Mo_isMotion_t (c : mx_M) (x : Int32) : mx_Spec 1 2 m_Mo_piles [.ref 0, .int x, .int x, .int x, .int x] c (fun r c' => c' = c ) := by
  refine mx_Spec_E rfl rfl rfl ?_
  refine mx_E_run 44 rfl (by decide) ?_ ?_
  · trace_state
    sorry
  sorry
theorem sp_Mo_orders_t (c : mx_M) (x : Int32) : mx_Spec 1 2 m_Mo_orders [.int x] c (fun r c' => c' = c ) := by
  refine mx_Spec_E rfl rfl rfl ?_
  refine mx_E_run 4 rfl (by decide) trivial ?_
  trace_state
  sorry
