/-! agendas laid out node by node, with a pile -/
/-- which place of a row becomes the number of the next node: none, or a branch of a node above -/
def lkI (lk : Option (Nat × Nat)) : Int32 := match lk with
  | none => -1
  | some u => nI u.1
def lkB (lk : Option (Nat × Nat)) : Nat := match lk with
  | none => 0
  | some u => u.2
def lkX (lk : Option (Nat × Nat)) : Option Nat := lk.map (fun u => (if u.2 = 0 then 118 else 181) + u.1)
def lkOk (lk : Option (Nat × Nat)) (b : Nat) : Prop := ∀ u, lk = some u → u.1 < b ∧ u.2 < 2
/-- behind comesTo: node b is there, below lk -/
def rCt (c c' : mx_M) (i b : Nat) (lk : Option (Nat × Nat)) : Prop := mfr [i] c c' ∧ c' i 54 = nI (b + 1) ∧ c' i (55 + b) = -9 ∧ c' i (118 + b) = -9 ∧ c' i (181 + b) = -9 ∧ (∀ x, lkX lk = some x → c' i x = nI b) ∧ ∀ x, x ≠ 54 → x ≠ 55 + b → x ≠ 118 + b → x ≠ 181 + b → lkX lk ≠ some x → c' i x = c i x
theorem sp_Mo_comesTo2 (c : mx_M) (b : Nat) (lk : Option (Nat × Nat)) (hb : b < 63) (h54 : c 2 54 = nI b) (hl : lkOk lk b) : mx_Spec 1 1 m_Mo_comesTo [.ref 2, .int (lkI lk), .int (nI (lkB lk))] c (fun r c' => r = some (.int (nI b)) ∧ rCt c c' 2 b lk) := by
  refine mx_Spec_E rfl rfl rfl ?_
  refine mR 4 rfl (mA1 (mI (n := 54) (by decide))) ?_
  rw [c54, h54]
  refine mR 18 rfl (mA3 (by rw [ixA 55 rfl]; exact mI (by omega)) (by rw [ixA 118 rfl]; exact mI (by omega)) (by rw [ixA 181 rfl]; exact mI (by omega))) ?_
  rw [ixA 55 rfl, ixA 118 rfl, ixA 181 rfl, nI_cl (a := 55 + b) (by omega), nI_cl (a := 118 + b) (by omega), nI_cl (a := 181 + b) (by omega)]
  refine mR 1 rfl trivial ?_
  cases lk with
  | none =>
    refine mx_E_br rfl rfl (fun _ => ?_) (fun h => absurd (by decide) h)
    refine mR 8 rfl (mA2 (mI (n := 54) (by decide)) (mI (n := 54) (by decide))) ?_
    rw [c54]
    refine mx_E_iret rfl rfl ⟨rfl, ?_, ?_, ?_, ?_, ?_, ?_, ?_⟩
    · exact mfr_up (mfr_up (mfr_up (mfr_up (mfr_rf _ _) (by decide)) (by decide)) (by decide)) (by decide)
    · rw [mx_up_same, mx_up_ix _ _ _ _ _ _ (by omega), mx_up_ix _ _ _ _ _ _ (by omega), mx_up_ix _ _ _ _ _ _ (by omega), h54, nI_1]
    · rw [mx_up_ix _ _ _ _ _ _ (by omega), mx_up_ix _ _ _ _ _ _ (by omega), mx_up_ix _ _ _ _ _ _ (by omega), mx_up_same]
    · rw [mx_up_ix _ _ _ _ _ _ (by omega), mx_up_ix _ _ _ _ _ _ (by omega), mx_up_same]
    · rw [mx_up_ix _ _ _ _ _ _ (by omega), mx_up_same]
    · intro x hx
      cases hx
    · intro x h1 h2 h3 h4 _
      rw [mx_up_ix _ _ _ _ _ _ h1, mx_up_ix _ _ _ _ _ _ h4, mx_up_ix _ _ _ _ _ _ h3, mx_up_ix _ _ _ _ _ _ h2]
  | some u =>
    obtain ⟨hu1, hu2⟩ := hl u rfl
    refine mx_E_br rfl rfl (fun h => absurd h (nI_pos (by omega))) (fun _ => ?_)
    refine mR 2 rfl trivial ?_
    rcases (show u.2 = 0 ∨ u.2 = 1 by omega) with e | e
    · have ex : lkX (some u) = some (118 + u.1) := by show some ((if u.2 = 0 then 118 else 181) + u.1) = _; rw [if_pos e]
      have eb : lkB (some u) = 0 := e
      rw [eb]
      refine mx_E_br rfl rfl (fun h => absurd rfl h) (fun _ => ?_)
      refine mR 6 rfl (mA1 (by show vp_in ((118 : Int32) + nI u.1) 244; rw [ixA 118 rfl]; exact mI (by omega))) ?_
      rw [show ((118 : Int32) + lkI (some u)).toNatClampNeg = 118 + u.1 by show ((118 : Int32) + nI u.1).toNatClampNeg = 118 + u.1; rw [ixA 118 rfl, nI_cl (by omega)]]
      refine mR 8 rfl (mA2 (mI (n := 54) (by decide)) (mI (n := 54) (by decide))) ?_
      rw [c54]
      refine mx_E_iret rfl rfl ⟨rfl, ?_, ?_, ?_, ?_, ?_, ?_, ?_⟩
      · exact mfr_up (mfr_up (mfr_up (mfr_up (mfr_up (mfr_rf _ _) (by decide)) (by decide)) (by decide)) (by decide)) (by decide)
      · rw [mx_up_same, mx_up_ix _ _ _ _ _ _ (by omega), mx_up_ix _ _ _ _ _ _ (by omega), mx_up_ix _ _ _ _ _ _ (by omega), mx_up_ix _ _ _ _ _ _ (by omega), h54, nI_1]
      · rw [mx_up_ix _ _ _ _ _ _ (by omega), mx_up_ix _ _ _ _ _ _ (by omega), mx_up_ix _ _ _ _ _ _ (by omega), mx_up_ix _ _ _ _ _ _ (by omega), mx_up_same]
      · rw [mx_up_ix _ _ _ _ _ _ (by omega), mx_up_ix _ _ _ _ _ _ (by omega), mx_up_ix _ _ _ _ _ _ (by omega), mx_up_same]
      · rw [mx_up_ix _ _ _ _ _ _ (by omega), mx_up_ix _ _ _ _ _ _ (by omega), mx_up_same]
      · intro x hx
        rw [ex] at hx
        cases hx
        rw [mx_up_ix _ _ _ _ _ _ (by omega), mx_up_same]
      · intro x h1 h2 h3 h4 h5
        rw [ex] at h5
        rw [mx_up_ix _ _ _ _ _ _ h1, mx_up_ix _ _ _ _ _ _ (fun z => h5 (by rw [z])), mx_up_ix _ _ _ _ _ _ h4, mx_up_ix _ _ _ _ _ _ h3, mx_up_ix _ _ _ _ _ _ h2]
    · have ex : lkX (some u) = some (181 + u.1) := by show some ((if u.2 = 0 then 118 else 181) + u.1) = _; rw [if_neg (by omega)]
      have eb : lkB (some u) = 1 := e
      rw [eb]
      refine mx_E_br rfl rfl (fun _ => ?_) (fun h => absurd (by decide) h)
      refine mR 5 rfl (mA1 (by show vp_in ((181 : Int32) + nI u.1) 244; rw [ixA 181 rfl]; exact mI (by omega))) ?_
      rw [show ((181 : Int32) + lkI (some u)).toNatClampNeg = 181 + u.1 by show ((181 : Int32) + nI u.1).toNatClampNeg = 181 + u.1; rw [ixA 181 rfl, nI_cl (by omega)]]
      refine mR 8 rfl (mA2 (mI (n := 54) (by decide)) (mI (n := 54) (by decide))) ?_
      rw [c54]
      refine mx_E_iret rfl rfl ⟨rfl, ?_, ?_, ?_, ?_, ?_, ?_, ?_⟩
      · exact mfr_up (mfr_up (mfr_up (mfr_up (mfr_up (mfr_rf _ _) (by decide)) (by decide)) (by decide)) (by decide)) (by decide)
      · rw [mx_up_same, mx_up_ix _ _ _ _ _ _ (by omega), mx_up_ix _ _ _ _ _ _ (by omega), mx_up_ix _ _ _ _ _ _ (by omega), mx_up_ix _ _ _ _ _ _ (by omega), h54, nI_1]
      · rw [mx_up_ix _ _ _ _ _ _ (by omega), mx_up_ix _ _ _ _ _ _ (by omega), mx_up_ix _ _ _ _ _ _ (by omega), mx_up_ix _ _ _ _ _ _ (by omega), mx_up_same]
      · rw [mx_up_ix _ _ _ _ _ _ (by omega), mx_up_ix _ _ _ _ _ _ (by omega), mx_up_ix _ _ _ _ _ _ (by omega), mx_up_same]
      · rw [mx_up_ix _ _ _ _ _ _ (by omega), mx_up_ix _ _ _ _ _ _ (by omega), mx_up_same]
      · intro x hx
        rw [ex] at hx
        cases hx
        rw [mx_up_ix _ _ _ _ _ _ (by omega), mx_up_same]
      · intro x h1 h2 h3 h4 h5
        rw [ex] at h5
        rw [mx_up_ix _ _ _ _ _ _ h1, mx_up_ix _ _ _ _ _ _ (fun z => h5 (by rw [z])), mx_up_ix _ _ _ _ _ _ h4, mx_up_ix _ _ _ _ _ _ h3, mx_up_ix _ _ _ _ _ _ h2]
theorem sp_Mo_comesTo3 (c : mx_M) (b : Nat) (lk : Option (Nat × Nat)) (hb : b < 63) (h54 : c 3 54 = nI b) (hl : lkOk lk b) : mx_Spec 1 1 m_Mo_comesTo [.ref 3, .int (lkI lk), .int (nI (lkB lk))] c (fun r c' => r = some (.int (nI b)) ∧ rCt c c' 3 b lk) := by
  refine mx_Spec_E rfl rfl rfl ?_
  refine mR 4 rfl (mA1 (mI (n := 54) (by decide))) ?_
  rw [c54, h54]
  refine mR 18 rfl (mA3 (by rw [ixA 55 rfl]; exact mI (by omega)) (by rw [ixA 118 rfl]; exact mI (by omega)) (by rw [ixA 181 rfl]; exact mI (by omega))) ?_
  rw [ixA 55 rfl, ixA 118 rfl, ixA 181 rfl, nI_cl (a := 55 + b) (by omega), nI_cl (a := 118 + b) (by omega), nI_cl (a := 181 + b) (by omega)]
  refine mR 1 rfl trivial ?_
  cases lk with
  | none =>
    refine mx_E_br rfl rfl (fun _ => ?_) (fun h => absurd (by decide) h)
    refine mR 8 rfl (mA2 (mI (n := 54) (by decide)) (mI (n := 54) (by decide))) ?_
    rw [c54]
    refine mx_E_iret rfl rfl ⟨rfl, ?_, ?_, ?_, ?_, ?_, ?_, ?_⟩
    · exact mfr_up (mfr_up (mfr_up (mfr_up (mfr_rf _ _) (by decide)) (by decide)) (by decide)) (by decide)
    · rw [mx_up_same, mx_up_ix _ _ _ _ _ _ (by omega), mx_up_ix _ _ _ _ _ _ (by omega), mx_up_ix _ _ _ _ _ _ (by omega), h54, nI_1]
    · rw [mx_up_ix _ _ _ _ _ _ (by omega), mx_up_ix _ _ _ _ _ _ (by omega), mx_up_ix _ _ _ _ _ _ (by omega), mx_up_same]
    · rw [mx_up_ix _ _ _ _ _ _ (by omega), mx_up_ix _ _ _ _ _ _ (by omega), mx_up_same]
    · rw [mx_up_ix _ _ _ _ _ _ (by omega), mx_up_same]
    · intro x hx
      cases hx
    · intro x h1 h2 h3 h4 _
      rw [mx_up_ix _ _ _ _ _ _ h1, mx_up_ix _ _ _ _ _ _ h4, mx_up_ix _ _ _ _ _ _ h3, mx_up_ix _ _ _ _ _ _ h2]
  | some u =>
    obtain ⟨hu1, hu2⟩ := hl u rfl
    refine mx_E_br rfl rfl (fun h => absurd h (nI_pos (by omega))) (fun _ => ?_)
    refine mR 2 rfl trivial ?_
    rcases (show u.2 = 0 ∨ u.2 = 1 by omega) with e | e
    · have ex : lkX (some u) = some (118 + u.1) := by show some ((if u.2 = 0 then 118 else 181) + u.1) = _; rw [if_pos e]
      have eb : lkB (some u) = 0 := e
      rw [eb]
      refine mx_E_br rfl rfl (fun h => absurd rfl h) (fun _ => ?_)
      refine mR 6 rfl (mA1 (by show vp_in ((118 : Int32) + nI u.1) 244; rw [ixA 118 rfl]; exact mI (by omega))) ?_
      rw [show ((118 : Int32) + lkI (some u)).toNatClampNeg = 118 + u.1 by show ((118 : Int32) + nI u.1).toNatClampNeg = 118 + u.1; rw [ixA 118 rfl, nI_cl (by omega)]]
      refine mR 8 rfl (mA2 (mI (n := 54) (by decide)) (mI (n := 54) (by decide))) ?_
      rw [c54]
      refine mx_E_iret rfl rfl ⟨rfl, ?_, ?_, ?_, ?_, ?_, ?_, ?_⟩
      · exact mfr_up (mfr_up (mfr_up (mfr_up (mfr_up (mfr_rf _ _) (by decide)) (by decide)) (by decide)) (by decide)) (by decide)
      · rw [mx_up_same, mx_up_ix _ _ _ _ _ _ (by omega), mx_up_ix _ _ _ _ _ _ (by omega), mx_up_ix _ _ _ _ _ _ (by omega), mx_up_ix _ _ _ _ _ _ (by omega), h54, nI_1]
      · rw [mx_up_ix _ _ _ _ _ _ (by omega), mx_up_ix _ _ _ _ _ _ (by omega), mx_up_ix _ _ _ _ _ _ (by omega), mx_up_ix _ _ _ _ _ _ (by omega), mx_up_same]
      · rw [mx_up_ix _ _ _ _ _ _ (by omega), mx_up_ix _ _ _ _ _ _ (by omega), mx_up_ix _ _ _ _ _ _ (by omega), mx_up_same]
      · rw [mx_up_ix _ _ _ _ _ _ (by omega), mx_up_ix _ _ _ _ _ _ (by omega), mx_up_same]
      · intro x hx
        rw [ex] at hx
        cases hx
        rw [mx_up_ix _ _ _ _ _ _ (by omega), mx_up_same]
      · intro x h1 h2 h3 h4 h5
        rw [ex] at h5
        rw [mx_up_ix _ _ _ _ _ _ h1, mx_up_ix _ _ _ _ _ _ (fun z => h5 (by rw [z])), mx_up_ix _ _ _ _ _ _ h4, mx_up_ix _ _ _ _ _ _ h3, mx_up_ix _ _ _ _ _ _ h2]
    · have ex : lkX (some u) = some (181 + u.1) := by show some ((if u.2 = 0 then 118 else 181) + u.1) = _; rw [if_neg (by omega)]
      have eb : lkB (some u) = 1 := e
      rw [eb]
      refine mx_E_br rfl rfl (fun _ => ?_) (fun h => absurd (by decide) h)
      refine mR 5 rfl (mA1 (by show vp_in ((181 : Int32) + nI u.1) 244; rw [ixA 181 rfl]; exact mI (by omega))) ?_
      rw [show ((181 : Int32) + lkI (some u)).toNatClampNeg = 181 + u.1 by show ((181 : Int32) + nI u.1).toNatClampNeg = 181 + u.1; rw [ixA 181 rfl, nI_cl (by omega)]]
      refine mR 8 rfl (mA2 (mI (n := 54) (by decide)) (mI (n := 54) (by decide))) ?_
      rw [c54]
      refine mx_E_iret rfl rfl ⟨rfl, ?_, ?_, ?_, ?_, ?_, ?_, ?_⟩
      · exact mfr_up (mfr_up (mfr_up (mfr_up (mfr_up (mfr_rf _ _) (by decide)) (by decide)) (by decide)) (by decide)) (by decide)
      · rw [mx_up_same, mx_up_ix _ _ _ _ _ _ (by omega), mx_up_ix _ _ _ _ _ _ (by omega), mx_up_ix _ _ _ _ _ _ (by omega), mx_up_ix _ _ _ _ _ _ (by omega), h54, nI_1]
      · rw [mx_up_ix _ _ _ _ _ _ (by omega), mx_up_ix _ _ _ _ _ _ (by omega), mx_up_ix _ _ _ _ _ _ (by omega), mx_up_ix _ _ _ _ _ _ (by omega), mx_up_same]
      · rw [mx_up_ix _ _ _ _ _ _ (by omega), mx_up_ix _ _ _ _ _ _ (by omega), mx_up_ix _ _ _ _ _ _ (by omega), mx_up_same]
      · rw [mx_up_ix _ _ _ _ _ _ (by omega), mx_up_ix _ _ _ _ _ _ (by omega), mx_up_same]
      · intro x hx
        rw [ex] at hx
        cases hx
        rw [mx_up_ix _ _ _ _ _ _ (by omega), mx_up_same]
      · intro x h1 h2 h3 h4 h5
        rw [ex] at h5
        rw [mx_up_ix _ _ _ _ _ _ h1, mx_up_ix _ _ _ _ _ _ (fun z => h5 (by rw [z])), mx_up_ix _ _ _ _ _ _ h4, mx_up_ix _ _ _ _ _ _ h3, mx_up_ix _ _ _ _ _ _ h2]
theorem sp_Mo_comesTo4 (c : mx_M) (b : Nat) (lk : Option (Nat × Nat)) (hb : b < 63) (h54 : c 4 54 = nI b) (hl : lkOk lk b) : mx_Spec 1 1 m_Mo_comesTo [.ref 4, .int (lkI lk), .int (nI (lkB lk))] c (fun r c' => r = some (.int (nI b)) ∧ rCt c c' 4 b lk) := by
  refine mx_Spec_E rfl rfl rfl ?_
  refine mR 4 rfl (mA1 (mI (n := 54) (by decide))) ?_
  rw [c54, h54]
  refine mR 18 rfl (mA3 (by rw [ixA 55 rfl]; exact mI (by omega)) (by rw [ixA 118 rfl]; exact mI (by omega)) (by rw [ixA 181 rfl]; exact mI (by omega))) ?_
  rw [ixA 55 rfl, ixA 118 rfl, ixA 181 rfl, nI_cl (a := 55 + b) (by omega), nI_cl (a := 118 + b) (by omega), nI_cl (a := 181 + b) (by omega)]
  refine mR 1 rfl trivial ?_
  cases lk with
  | none =>
    refine mx_E_br rfl rfl (fun _ => ?_) (fun h => absurd (by decide) h)
    refine mR 8 rfl (mA2 (mI (n := 54) (by decide)) (mI (n := 54) (by decide))) ?_
    rw [c54]
    refine mx_E_iret rfl rfl ⟨rfl, ?_, ?_, ?_, ?_, ?_, ?_, ?_⟩
    · exact mfr_up (mfr_up (mfr_up (mfr_up (mfr_rf _ _) (by decide)) (by decide)) (by decide)) (by decide)
    · rw [mx_up_same, mx_up_ix _ _ _ _ _ _ (by omega), mx_up_ix _ _ _ _ _ _ (by omega), mx_up_ix _ _ _ _ _ _ (by omega), h54, nI_1]
    · rw [mx_up_ix _ _ _ _ _ _ (by omega), mx_up_ix _ _ _ _ _ _ (by omega), mx_up_ix _ _ _ _ _ _ (by omega), mx_up_same]
    · rw [mx_up_ix _ _ _ _ _ _ (by omega), mx_up_ix _ _ _ _ _ _ (by omega), mx_up_same]
    · rw [mx_up_ix _ _ _ _ _ _ (by omega), mx_up_same]
    · intro x hx
      cases hx
    · intro x h1 h2 h3 h4 _
      rw [mx_up_ix _ _ _ _ _ _ h1, mx_up_ix _ _ _ _ _ _ h4, mx_up_ix _ _ _ _ _ _ h3, mx_up_ix _ _ _ _ _ _ h2]
  | some u =>
    obtain ⟨hu1, hu2⟩ := hl u rfl
    refine mx_E_br rfl rfl (fun h => absurd h (nI_pos (by omega))) (fun _ => ?_)
    refine mR 2 rfl trivial ?_
    rcases (show u.2 = 0 ∨ u.2 = 1 by omega) with e | e
    · have ex : lkX (some u) = some (118 + u.1) := by show some ((if u.2 = 0 then 118 else 181) + u.1) = _; rw [if_pos e]
      have eb : lkB (some u) = 0 := e
      rw [eb]
      refine mx_E_br rfl rfl (fun h => absurd rfl h) (fun _ => ?_)
      refine mR 6 rfl (mA1 (by show vp_in ((118 : Int32) + nI u.1) 244; rw [ixA 118 rfl]; exact mI (by omega))) ?_
      rw [show ((118 : Int32) + lkI (some u)).toNatClampNeg = 118 + u.1 by show ((118 : Int32) + nI u.1).toNatClampNeg = 118 + u.1; rw [ixA 118 rfl, nI_cl (by omega)]]
      refine mR 8 rfl (mA2 (mI (n := 54) (by decide)) (mI (n := 54) (by decide))) ?_
      rw [c54]
      refine mx_E_iret rfl rfl ⟨rfl, ?_, ?_, ?_, ?_, ?_, ?_, ?_⟩
      · exact mfr_up (mfr_up (mfr_up (mfr_up (mfr_up (mfr_rf _ _) (by decide)) (by decide)) (by decide)) (by decide)) (by decide)
      · rw [mx_up_same, mx_up_ix _ _ _ _ _ _ (by omega), mx_up_ix _ _ _ _ _ _ (by omega), mx_up_ix _ _ _ _ _ _ (by omega), mx_up_ix _ _ _ _ _ _ (by omega), h54, nI_1]
      · rw [mx_up_ix _ _ _ _ _ _ (by omega), mx_up_ix _ _ _ _ _ _ (by omega), mx_up_ix _ _ _ _ _ _ (by omega), mx_up_ix _ _ _ _ _ _ (by omega), mx_up_same]
      · rw [mx_up_ix _ _ _ _ _ _ (by omega), mx_up_ix _ _ _ _ _ _ (by omega), mx_up_ix _ _ _ _ _ _ (by omega), mx_up_same]
      · rw [mx_up_ix _ _ _ _ _ _ (by omega), mx_up_ix _ _ _ _ _ _ (by omega), mx_up_same]
      · intro x hx
        rw [ex] at hx
        cases hx
        rw [mx_up_ix _ _ _ _ _ _ (by omega), mx_up_same]
      · intro x h1 h2 h3 h4 h5
        rw [ex] at h5
        rw [mx_up_ix _ _ _ _ _ _ h1, mx_up_ix _ _ _ _ _ _ (fun z => h5 (by rw [z])), mx_up_ix _ _ _ _ _ _ h4, mx_up_ix _ _ _ _ _ _ h3, mx_up_ix _ _ _ _ _ _ h2]
    · have ex : lkX (some u) = some (181 + u.1) := by show some ((if u.2 = 0 then 118 else 181) + u.1) = _; rw [if_neg (by omega)]
      have eb : lkB (some u) = 1 := e
      rw [eb]
      refine mx_E_br rfl rfl (fun _ => ?_) (fun h => absurd (by decide) h)
      refine mR 5 rfl (mA1 (by show vp_in ((181 : Int32) + nI u.1) 244; rw [ixA 181 rfl]; exact mI (by omega))) ?_
      rw [show ((181 : Int32) + lkI (some u)).toNatClampNeg = 181 + u.1 by show ((181 : Int32) + nI u.1).toNatClampNeg = 181 + u.1; rw [ixA 181 rfl, nI_cl (by omega)]]
      refine mR 8 rfl (mA2 (mI (n := 54) (by decide)) (mI (n := 54) (by decide))) ?_
      rw [c54]
      refine mx_E_iret rfl rfl ⟨rfl, ?_, ?_, ?_, ?_, ?_, ?_, ?_⟩
      · exact mfr_up (mfr_up (mfr_up (mfr_up (mfr_up (mfr_rf _ _) (by decide)) (by decide)) (by decide)) (by decide)) (by decide)
      · rw [mx_up_same, mx_up_ix _ _ _ _ _ _ (by omega), mx_up_ix _ _ _ _ _ _ (by omega), mx_up_ix _ _ _ _ _ _ (by omega), mx_up_ix _ _ _ _ _ _ (by omega), h54, nI_1]
      · rw [mx_up_ix _ _ _ _ _ _ (by omega), mx_up_ix _ _ _ _ _ _ (by omega), mx_up_ix _ _ _ _ _ _ (by omega), mx_up_ix _ _ _ _ _ _ (by omega), mx_up_same]
      · rw [mx_up_ix _ _ _ _ _ _ (by omega), mx_up_ix _ _ _ _ _ _ (by omega), mx_up_ix _ _ _ _ _ _ (by omega), mx_up_same]
      · rw [mx_up_ix _ _ _ _ _ _ (by omega), mx_up_ix _ _ _ _ _ _ (by omega), mx_up_same]
      · intro x hx
        rw [ex] at hx
        cases hx
        rw [mx_up_ix _ _ _ _ _ _ (by omega), mx_up_same]
      · intro x h1 h2 h3 h4 h5
        rw [ex] at h5
        rw [mx_up_ix _ _ _ _ _ _ h1, mx_up_ix _ _ _ _ _ _ (fun z => h5 (by rw [z])), mx_up_ix _ _ _ _ _ _ h4, mx_up_ix _ _ _ _ _ _ h3, mx_up_ix _ _ _ _ _ _ h2]
/-- the pile, and how much there is -/
def rPi (c c' : mx_M) (q : Nat) (w1 w2 w3 w4 : Int32) : Prop := mfr [0, 15] c c' ∧ (∀ k, k ≠ 29 → c' 0 k = c 0 k) ∧ c' 0 29 = nI (q + 1) ∧ c' 15 (4 * q) = w1 ∧ c' 15 (4 * q + 1) = w2 ∧ c' 15 (4 * q + 2) = w3 ∧ c' 15 (4 * q + 3) = w4 ∧ ∀ x, x < 4 * q → c' 15 x = c 15 x
theorem ix4 (q r : Nat) : nI (4 * q) + nI r = nI (4 * q + r) := nI_add _ _
theorem sp_Mo_piles (c : mx_M) (q : Nat) (w1 w2 w3 w4 : Int32) (hq : q < 64) (h29 : c 0 29 = nI q) : mx_Spec 1 1 m_Mo_piles [.ref 0, .int w1, .int w2, .int w3, .int w4] c (fun r c' => r = none ∧ rPi c c' q w1 w2 w3 w4) := by
  have m4 : (4 : Int32) * nI q = nI (4 * q) := by rw [show (4 : Int32) = nI 4 from rfl, pk_mul]
  refine mx_Spec_E rfl rfl rfl ?_
  refine mR 8 rfl (mA1 (by rw [h29, m4]; exact mI (by omega))) ?_
  rw [h29, m4, nI_cl (a := 4 * q) (by omega)]
  refine mR 10 rfl (mA1 (by rw [mx_up_id _ _ _ _ 0 29 (by decide), h29, m4, show (1 : Int32) = nI 1 from rfl, ix4]; exact mI (by omega))) ?_
  rw [mx_up_id _ _ _ _ 0 29 (by decide), h29, m4, show nI (4 * q) + (1 : Int32) = nI (4 * q + 1) from ix4 q 1, nI_cl (a := 4 * q + 1) (by omega)]
  refine mR 10 rfl (mA1 (by rw [mx_up_id _ _ _ _ 0 29 (by decide), mx_up_id _ _ _ _ 0 29 (by decide), h29, m4, show (2 : Int32) = nI 2 from rfl, ix4]; exact mI (by omega))) ?_
  rw [mx_up_id _ _ _ _ 0 29 (by decide), mx_up_id _ _ _ _ 0 29 (by decide), h29, m4, show nI (4 * q) + (2 : Int32) = nI (4 * q + 2) from ix4 q 2, nI_cl (a := 4 * q + 2) (by omega)]
  refine mR 10 rfl (mA1 (by rw [mx_up_id _ _ _ _ 0 29 (by decide), mx_up_id _ _ _ _ 0 29 (by decide), mx_up_id _ _ _ _ 0 29 (by decide), h29, m4, show (3 : Int32) = nI 3 from rfl, ix4]; exact mI (by omega))) ?_
  rw [mx_up_id _ _ _ _ 0 29 (by decide), mx_up_id _ _ _ _ 0 29 (by decide), mx_up_id _ _ _ _ 0 29 (by decide), h29, m4, show nI (4 * q) + (3 : Int32) = nI (4 * q + 3) from ix4 q 3, nI_cl (a := 4 * q + 3) (by omega)]
  refine mR 6 rfl trivial ?_
  rw [mx_up_id _ _ _ _ 0 29 (by decide), mx_up_id _ _ _ _ 0 29 (by decide), mx_up_id _ _ _ _ 0 29 (by decide), mx_up_id _ _ _ _ 0 29 (by decide), h29, nI_1]
  refine mx_E_vret rfl rfl ⟨rfl, ?_, ?_, ?_, ?_, ?_, ?_, ?_, ?_⟩
  · exact mfr_up (mfr_up (mfr_up (mfr_up (mfr_up (mfr_rf _ _) (by decide)) (by decide)) (by decide)) (by decide)) (by decide)
  · intro k hk
    rw [mx_up_ix _ _ _ _ _ _ hk, mx_up_id _ _ _ _ 0 k (by decide), mx_up_id _ _ _ _ 0 k (by decide), mx_up_id _ _ _ _ 0 k (by decide), mx_up_id _ _ _ _ 0 k (by decide)]
  · rw [mx_up_same]
  · rw [mx_up_id _ _ _ _ 15 _ (by decide), mx_up_ix _ _ _ _ _ _ (by omega), mx_up_ix _ _ _ _ _ _ (by omega), mx_up_ix _ _ _ _ _ _ (by omega), mx_up_same]
  · rw [mx_up_id _ _ _ _ 15 _ (by decide), mx_up_ix _ _ _ _ _ _ (by omega), mx_up_ix _ _ _ _ _ _ (by omega), mx_up_same]
  · rw [mx_up_id _ _ _ _ 15 _ (by decide), mx_up_ix _ _ _ _ _ _ (by omega), mx_up_same]
  · rw [mx_up_id _ _ _ _ 15 _ (by decide), mx_up_same]
  · intro x hx
    rw [mx_up_id _ _ _ _ 15 _ (by decide), mx_up_ix _ _ _ _ _ _ (by omega), mx_up_ix _ _ _ _ _ _ (by omega), mx_up_ix _ _ _ _ _ _ (by omega), mx_up_ix _ _ _ _ _ _ (by omega)]
