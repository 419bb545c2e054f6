theorem mx_up_put (c : mx_M) (d : Nat) (G : Nat → Int32) (i : Nat) (v : Int32) : mx_up (mx_upR c d G) d i v = mx_upR c d (upd G i v) := by rw [mx_up_R, mx_upR_row, mx_upR_two]
theorem ixM (a b k : Nat) : (244 : Int32) * nI a + nI k = nI (244 * a + k) := by rw [show (244 : Int32) = nI 244 from rfl, pk_mul, nI_add]
theorem ixP (k : Nat) : nI k + (244 : Int32) = nI (k + 244) := by rw [show (244 : Int32) = nI 244 from rfl, nI_add]
theorem lp_Mo_copies2 {Q : Option Value → mx_M → Prop} {c : mx_M}   (hk : mx_E 1 1 m_Mo_copies Q 13 [.ref 2, .ref 3, .int (nI 244)] [] (mx_upR c 3 (fb_put (c 3) (fun j => c 2 (j)) 0 244))) :
    ∀ (u k : Nat), k + u = 244 → mx_E 1 1 m_Mo_copies Q 2 [.ref 2, .ref 3, .int (nI k)] [] (mx_upR c 3 (fb_put (c 3) (fun j => c 2 (j)) 0 k))
  | 0, k, h => by
    have e : k = 244 := by omega
    subst e
    refine mR 2 rfl trivial ?_
    refine mbGe 244 244 rfl (by decide) (by decide) (fun _ => ?_) (fun h => by omega)
    exact hk
  | u + 1, k, h => by
    refine mR 2 rfl trivial ?_
    refine mbGe k 244 rfl (by omega) (by decide) (fun h => by omega) (fun _ => ?_)
    refine mR 8 rfl (mA2 (mI (by omega)) (mI (by omega))) ?_
    rw [mx_upR_rid _ _ _ 2 (by decide), nI_cl (by omega), mx_up_put, show upd (fb_put (c 3) (fun j => c 2 (j)) 0 k) k (c 2 k) = fb_put (c 3) (fun j => c 2 (j)) 0 (k + 1) by rw [← fb_put_succ, Nat.zero_add], nI_1]
    exact lp_Mo_copies2 hk u (k + 1) (by omega)
theorem sp_Mo_copies2 (c : mx_M) : mx_Spec 1 1 m_Mo_copies [.ref 2, .ref 3] c (fun r c' => r = none ∧ c' = mx_upR c 3 (fb_put (c 3) (fun j => c 2 (j)) 0 244)) := by
  refine mx_Spec_E rfl rfl rfl ?_
  refine mR 2 rfl trivial ?_
  refine mS (lp_Mo_copies2 (mx_E_vret rfl rfl ⟨rfl, rfl⟩) 244 0 rfl) rfl rfl ?_
  rw [fb_put_0, mx_upR_self]
theorem lp_Mo_copies3 {Q : Option Value → mx_M → Prop} {c : mx_M}   (hk : mx_E 1 1 m_Mo_copies Q 13 [.ref 3, .ref 4, .int (nI 244)] [] (mx_upR c 4 (fb_put (c 4) (fun j => c 3 (j)) 0 244))) :
    ∀ (u k : Nat), k + u = 244 → mx_E 1 1 m_Mo_copies Q 2 [.ref 3, .ref 4, .int (nI k)] [] (mx_upR c 4 (fb_put (c 4) (fun j => c 3 (j)) 0 k))
  | 0, k, h => by
    have e : k = 244 := by omega
    subst e
    refine mR 2 rfl trivial ?_
    refine mbGe 244 244 rfl (by decide) (by decide) (fun _ => ?_) (fun h => by omega)
    exact hk
  | u + 1, k, h => by
    refine mR 2 rfl trivial ?_
    refine mbGe k 244 rfl (by omega) (by decide) (fun h => by omega) (fun _ => ?_)
    refine mR 8 rfl (mA2 (mI (by omega)) (mI (by omega))) ?_
    rw [mx_upR_rid _ _ _ 3 (by decide), nI_cl (by omega), mx_up_put, show upd (fb_put (c 4) (fun j => c 3 (j)) 0 k) k (c 3 k) = fb_put (c 4) (fun j => c 3 (j)) 0 (k + 1) by rw [← fb_put_succ, Nat.zero_add], nI_1]
    exact lp_Mo_copies3 hk u (k + 1) (by omega)
theorem sp_Mo_copies3 (c : mx_M) : mx_Spec 1 1 m_Mo_copies [.ref 3, .ref 4] c (fun r c' => r = none ∧ c' = mx_upR c 4 (fb_put (c 4) (fun j => c 3 (j)) 0 244)) := by
  refine mx_Spec_E rfl rfl rfl ?_
  refine mR 2 rfl trivial ?_
  refine mS (lp_Mo_copies3 (mx_E_vret rfl rfl ⟨rfl, rfl⟩) 244 0 rfl) rfl rfl ?_
  rw [fb_put_0, mx_upR_self]
theorem lp_Mo_notes1 {Q : Option Value → mx_M → Prop} {c : mx_M}   (hk : mx_E 1 1 m_Mo_notes Q 21 [.ref 0, .int (nI 2196)] [] (mx_upR c 5 (fb_put (c 5) (fun j => c 5 (j + 244)) 0 2196))) :
    ∀ (u k : Nat), k + u = 2196 → mx_E 1 1 m_Mo_notes Q 6 [.ref 0, .int (nI k)] [] (mx_upR c 5 (fb_put (c 5) (fun j => c 5 (j + 244)) 0 k))
  | 0, k, h => by
    have e : k = 2196 := by omega
    subst e
    refine mR 2 rfl trivial ?_
    refine mbGe 2196 2196 rfl (by decide) (by decide) (fun _ => ?_) (fun h => by omega)
    exact hk
  | u + 1, k, h => by
    refine mR 2 rfl trivial ?_
    refine mbGe k 2196 rfl (by omega) (by decide) (fun h => by omega) (fun _ => ?_)
    refine mR 12 rfl (mA2 (by rw [ixP]; exact mI (by omega)) (mI (by omega))) ?_
    rw [ixP, mx_upR_row, nI_cl (by omega), nI_cl (by omega), fb_put_out (by omega), mx_up_put, show upd (fb_put (c 5) (fun j => c 5 (j + 244)) 0 k) k (c 5 (k + 244)) = fb_put (c 5) (fun j => c 5 (j + 244)) 0 (k + 1) by rw [← fb_put_succ, Nat.zero_add], nI_1]
    exact lp_Mo_notes1 hk u (k + 1) (by omega)
theorem lp_Mo_notes2 {Q : Option Value → mx_M → Prop} {c : mx_M} {w : Nat} (hw : w < 10) (h16 : c 0 16 = nI w) (hk : mx_E 1 1 m_Mo_notes Q 44 [.ref 0, .int (nI 244)] [] (mx_upR c 5 (fb_put (c 5) (fun j => c 3 (j)) (244 * w) 244))) :
    ∀ (u k : Nat), k + u = 244 → mx_E 1 1 m_Mo_notes Q 26 [.ref 0, .int (nI k)] [] (mx_upR c 5 (fb_put (c 5) (fun j => c 3 (j)) (244 * w) k))
  | 0, k, h => by
    have e : k = 244 := by omega
    subst e
    refine mR 2 rfl trivial ?_
    refine mbGe 244 244 rfl (by decide) (by decide) (fun _ => ?_) (fun h => by omega)
    exact hk
  | u + 1, k, h => by
    refine mR 2 rfl trivial ?_
    refine mbGe k 244 rfl (by omega) (by decide) (fun h => by omega) (fun _ => ?_)
    refine mR 15 rfl (mA2 (mI (by omega)) (by rw [mx_upR_rid _ _ _ 0 (by decide), h16, ixM w 0 k]; exact mI (by omega))) ?_
    rw [mx_upR_rid _ _ _ 0 (by decide), mx_upR_rid _ _ _ 3 (by decide), h16, ixM w 0 k, nI_cl (a := k) (by omega), nI_cl (a := 244 * w + k) (by omega), mx_up_put, fb_put_succ (c 5) (fun j => c 3 (j)), nI_1]
    exact lp_Mo_notes2 hw h16 hk u (k + 1) (by omega)
theorem lp_Mo_undo1 {Q : Option Value → mx_M → Prop} {c : mx_M} {w : Nat} (hw : w < 10) (h16 : c 0 16 = nI w) (hk : mx_E 1 1 m_Mo_undo Q 34 [.ref 0, .int (nI 244)] [] (mx_upR c 3 (fb_put (c 3) (fun j => c 5 (244 * w + j)) 0 244))) :
    ∀ (u k : Nat), k + u = 244 → mx_E 1 1 m_Mo_undo Q 16 [.ref 0, .int (nI k)] [] (mx_upR c 3 (fb_put (c 3) (fun j => c 5 (244 * w + j)) 0 k))
  | 0, k, h => by
    have e : k = 244 := by omega
    subst e
    refine mR 2 rfl trivial ?_
    refine mbGe 244 244 rfl (by decide) (by decide) (fun _ => ?_) (fun h => by omega)
    exact hk
  | u + 1, k, h => by
    refine mR 2 rfl trivial ?_
    refine mbGe k 244 rfl (by omega) (by decide) (fun h => by omega) (fun _ => ?_)
    refine mR 15 rfl (mA2 (by rw [mx_upR_rid _ _ _ 0 (by decide), h16, ixM w 0 k]; exact mI (by omega)) (mI (by omega))) ?_
    rw [mx_upR_rid _ _ _ 0 (by decide), mx_upR_rid _ _ _ 5 (by decide), h16, ixM w 0 k, nI_cl (a := k) (by omega), nI_cl (a := 244 * w + k) (by omega), mx_up_put, show upd (fb_put (c 3) (fun j => c 5 (244 * w + j)) 0 k) k (c 5 (244 * w + k)) = fb_put (c 3) (fun j => c 5 (244 * w + j)) 0 (k + 1) by rw [← fb_put_succ, Nat.zero_add], nI_1]
    exact lp_Mo_undo1 hw h16 hk u (k + 1) (by omega)
theorem lp_Mo_keep1 {Q : Option Value → mx_M → Prop} {c : mx_M} {w : Nat} (hw : w < 2) (hk : mx_E 1 2 m_Mo_keep Q 29 [.ref 0, .int (nI w), .int (nI 244)] [] (mx_upR c 6 (fb_put (c 6) (fun j => c 3 (j)) (244 * w) 244))) :
    ∀ (u k : Nat), k + u = 244 → mx_E 1 2 m_Mo_keep Q 12 [.ref 0, .int (nI w), .int (nI k)] [] (mx_upR c 6 (fb_put (c 6) (fun j => c 3 (j)) (244 * w) k))
  | 0, k, h => by
    have e : k = 244 := by omega
    subst e
    refine mR 2 rfl trivial ?_
    refine mbGe 244 244 rfl (by decide) (by decide) (fun _ => ?_) (fun h => by omega)
    exact hk
  | u + 1, k, h => by
    refine mR 2 rfl trivial ?_
    refine mbGe k 244 rfl (by omega) (by decide) (fun h => by omega) (fun _ => ?_)
    refine mR 14 rfl (mA2 (mI (by omega)) (by rw [ixM w 0 k]; exact mI (by omega))) ?_
    rw [mx_upR_rid _ _ _ 3 (by decide), ixM w 0 k, nI_cl (a := k) (by omega), nI_cl (a := 244 * w + k) (by omega), mx_up_put, fb_put_succ (c 6) (fun j => c 3 (j)), nI_1]
    exact lp_Mo_keep1 hw hk u (k + 1) (by omega)
theorem lp_Mo_back1 {Q : Option Value → mx_M → Prop} {c : mx_M} {w : Nat} (hw : w < 2) (hk : mx_E 1 2 m_Mo_back Q 36 [.ref 0, .int (nI w), .int (nI 244)] [] (mx_upR c 3 (fb_put (c 3) (fun j => c 6 (244 * w + j)) 0 244))) :
    ∀ (u k : Nat), k + u = 244 → mx_E 1 2 m_Mo_back Q 19 [.ref 0, .int (nI w), .int (nI k)] [] (mx_upR c 3 (fb_put (c 3) (fun j => c 6 (244 * w + j)) 0 k))
  | 0, k, h => by
    have e : k = 244 := by omega
    subst e
    refine mR 2 rfl trivial ?_
    refine mbGe 244 244 rfl (by decide) (by decide) (fun _ => ?_) (fun h => by omega)
    exact hk
  | u + 1, k, h => by
    refine mR 2 rfl trivial ?_
    refine mbGe k 244 rfl (by omega) (by decide) (fun h => by omega) (fun _ => ?_)
    refine mR 14 rfl (mA2 (by rw [ixM w 0 k]; exact mI (by omega)) (mI (by omega))) ?_
    rw [mx_upR_rid _ _ _ 6 (by decide), ixM w 0 k, nI_cl (a := k) (by omega), nI_cl (a := 244 * w + k) (by omega), mx_up_put, show upd (fb_put (c 3) (fun j => c 6 (244 * w + j)) 0 k) k (c 6 (244 * w + k)) = fb_put (c 3) (fun j => c 6 (244 * w + j)) 0 (k + 1) by rw [← fb_put_succ, Nat.zero_add], nI_1]
    exact lp_Mo_back1 hw hk u (k + 1) (by omega)
def aKeep (a : mSt) (x : Int32) : Int32 × mSt := if mi x 2 then (nI a.2.1.2.2.2, (a.1, a.2.1, a.2.2.1, a.2.2.2.1, a.2.2.2.2.1, fun i => if i = x.toNatClampNeg then some a.2.1 else a.2.2.2.2.2 i)) else mBAD a
def aBack (a : mSt) (x : Int32) : Int32 × mSt := if mi x 2 then (match a.2.2.2.2.2 x.toNatClampNeg with
  | none => (-2, a)
  | some p => (nI p.2.2.2, (a.1, p, a.2.2.1, a.2.2.2.1, (0, a.2.2.2.2.1.2), a.2.2.2.2.2))) else mBAD a
def aUndo (a : mSt) : Int32 × mSt := if a.2.2.2.2.1.1 = 0 then (-2, a) else (nI (a.2.2.2.2.1.1 - 1), (a.1, a.2.2.2.2.1.2 (a.2.2.2.2.1.1 - 1), a.2.2.1, a.2.2.2.1, (a.2.2.2.2.1.1 - 1, a.2.2.2.2.1.2), a.2.2.2.2.2))
/-- what is done is kept, to be undone -/
def aNote (a : mSt) : Nat × (Nat → mPic) := if a.2.2.2.2.1.1 = 10 then (10, fun i => if i = 9 then a.2.1 else a.2.2.2.2.1.2 (i + 1)) else (a.2.2.2.2.1.1 + 1, fun i => if i = a.2.2.2.2.1.1 then a.2.1 else a.2.2.2.2.1.2 i)
theorem qr_keep {c : mx_M} {a : mSt} (x : Int32) (h : rI c a) : mx_Spec 1 2 m_Mo_keep [.ref 0, .int x] c (fun r c' => r = some (.int (aKeep a x).1) ∧ rI c' (aKeep a x).2) := by
  have h0 := rI_0 0 h
  obtain ⟨h8, h9, hn, hm⟩ := h0.1
  refine mx_Spec_E rfl rfl rfl ?_
  refine mR 6 rfl trivial ?_
  refine mx_E_callS (sp_Mo_in _ _ _ _) rfl rfl rfl (fun r c1 hr => ?_)
  obtain ⟨rfl, rfl⟩ := hr
  rw [show decide ((0 : Int32) ≤ x ∧ x ≤ 1) = mi x 2 from in_mk x 1 (by decide)]
  unfold aKeep
  refine mbF rfl (fun hb => ?_) (fun hb => ?_)
  · rw [hb]
    obtain ⟨i, hi, rfl⟩ := mi_of (by decide) hb
    rw [nI_cl (a := i) (by omega)]
    refine mR 2 rfl trivial ?_
    generalize mx_up c 0 0 0 = c0 at h0 h8 h9
    refine mS (lp_Mo_keep1 (w := i) hi ?_ 244 0 rfl) rfl rfl (by rw [fb_put_0, mx_upR_self])
    refine mR 9 rfl (mA2 (mI hi) (mI (n := 54) (by decide))) ?_
    rw [c54, nI_cl (a := i) (by omega), mx_up_id _ _ _ _ 3 54 (by decide), mx_upR_rid _ _ _ 3 (by decide), h0.2.1.2.2.2.1, show vp_nar .boolean 1 = mz true by decide]
    refine mx_E_iret rfl rfl ⟨rfl, ?_⟩
    obtain ⟨g1, g2, g3, g4, g5, g6⟩ := h0
    refine ⟨?_, ?_, ?_, ?_, ?_, fun j hj => ?_⟩
    · rw [mx_up_rid _ _ _ _ 0 (by decide), mx_upR_rid _ _ _ 0 (by decide)]; exact g1
    · rw [mx_up_rid _ _ _ _ 3 (by decide), mx_upR_rid _ _ _ 3 (by decide)]; exact g2
    · rw [mx_up_rid _ _ _ _ 0 (by decide), mx_upR_rid _ _ _ 0 (by decide), mx_up_rid _ _ _ _ 1 (by decide), mx_upR_rid _ _ _ 1 (by decide)]; exact g3
    · rw [mx_up_rid _ _ _ _ 0 (by decide), mx_upR_rid _ _ _ 0 (by decide), mx_up_rid _ _ _ _ 8 (by decide), mx_upR_rid _ _ _ 8 (by decide), mx_up_rid _ _ _ _ 9 (by decide), mx_upR_rid _ _ _ 9 (by decide), mx_up_rid _ _ _ _ 10 (by decide), mx_upR_rid _ _ _ 10 (by decide)]; exact g4
    · rw [mx_up_rid _ _ _ _ 0 (by decide), mx_upR_rid _ _ _ 0 (by decide), mx_up_rid _ _ _ _ 5 (by decide), mx_upR_rid _ _ _ 5 (by decide)]; exact g5
    · rw [mx_up_rid _ _ _ _ 6 (by decide), mx_upR_row]
      by_cases e : j = i
      · subst e
        refine ⟨?_, fun p hp => ?_⟩
        · rw [mx_up_same]
          show mz true = mz (if j = j then some a.2.1 else a.2.2.2.2.2 j).isSome
          rw [if_pos rfl]
          rfl
        · have hp : (if j = j then some a.2.1 else a.2.2.2.2.2 j) = some p := hp
          rw [if_pos rfl] at hp
          cases hp
          exact rP_of hn.2 hm g2 (fun k hk => by rw [fb_put_in (by omega) (by omega)]; congr 1; omega)
      · refine ⟨?_, fun p hp => ?_⟩
        · rw [mx_up_ix _ _ _ _ _ _ e, mx_upR_rid _ _ _ 7 (by decide)]
          show _ = mz (if j = i then some a.2.1 else a.2.2.2.2.2 j).isSome
          rw [if_neg e]
          exact (g6 j hj).1
        · have hp : (if j = i then some a.2.1 else a.2.2.2.2.2 j) = some p := hp
          rw [if_neg e] at hp
          exact rP_of hn.2 hm ((g6 j hj).2 p hp) (fun k hk => by rw [fb_put_out (by omega)])
  · rw [hb]
    refine mR 1 rfl trivial ?_
    exact mx_E_iret rfl rfl ⟨rfl, h0⟩
theorem qr_back {c : mx_M} {a : mSt} (x : Int32) (h : rI c a) : mx_Spec 1 2 m_Mo_back [.ref 0, .int x] c (fun r c' => r = some (.int (aBack a x).1) ∧ rI c' (aBack a x).2) := by
  have h0 := rI_0 0 h
  obtain ⟨h8, h9, hn, hm⟩ := h0.1
  refine mx_Spec_E rfl rfl rfl ?_
  refine mR 6 rfl trivial ?_
  refine mx_E_callS (sp_Mo_in _ _ _ _) rfl rfl rfl (fun r c1 hr => ?_)
  obtain ⟨rfl, rfl⟩ := hr
  rw [show decide ((0 : Int32) ≤ x ∧ x ≤ 1) = mi x 2 from in_mk x 1 (by decide)]
  unfold aBack
  refine mbF rfl (fun hb => ?_) (fun hb => ?_)
  · rw [hb]
    obtain ⟨i, hi, rfl⟩ := mi_of (by decide) hb
    rw [nI_cl (a := i) (by omega)]
    generalize mx_up c 0 0 0 = c0 at h0 h8 h9
    refine mR 4 rfl (mA1 (mI hi)) ?_
    rw [nI_cl (a := i) (by omega), (h0.2.2.2.2.2 i hi).1]
    cases hK : a.2.2.2.2.2 i with
    | none =>
      refine mbF rfl (fun h => by cases h) (fun _ => ?_)
      refine mR 1 rfl trivial ?_
      exact mx_E_iret rfl rfl ⟨rfl, h0⟩
    | some p =>
      refine mbF rfl (fun _ => ?_) (fun h => by cases h)
      have hp := (h0.2.2.2.2.2 i hi).2 p hK
      have hp2 : rP (fb_put (c0 3) (fun j => c0 6 (244 * i + j)) 0 244) a.1.1 a.1.2 p := rP_of hn.2 hm hp (fun k hk => by rw [fb_put_in (by omega) (by omega)]; congr 1)
      refine mR 2 rfl trivial ?_
      refine mS (lp_Mo_back1 (w := i) hi ?_ 244 0 rfl) rfl rfl (by rw [fb_put_0, mx_upR_self])
      refine mR 7 rfl (mA1 (mI (n := 54) (by decide))) ?_
      rw [c54, mx_up_id _ _ _ _ 3 54 (by decide), mx_upR_row, hp2.2.2.2.1]
      refine mx_E_iret rfl rfl ⟨rfl, ?_⟩
      obtain ⟨g1, g2, g3, g4, g5, g6⟩ := h0
      refine ⟨?_, ?_, ?_, ?_, ⟨mx_up_same _ _ _ _, Nat.zero_le _, fun j hj => absurd hj (Nat.not_lt_zero j)⟩, ?_⟩
      · rw [mx_up_ix _ _ _ _ 0 8 (by decide), mx_up_ix _ _ _ _ 0 9 (by decide), mx_upR_rid _ _ _ 0 (by decide)]; exact g1
      · rw [mx_up_rid _ _ _ _ 3 (by decide), mx_upR_row]; exact hp2
      · rw [mx_up_ix _ _ _ _ 0 2 (by decide), mx_upR_rid _ _ _ 0 (by decide), mx_up_rid _ _ _ _ 1 (by decide), mx_upR_rid _ _ _ 1 (by decide)]; exact g3
      · rw [mx_up_ix _ _ _ _ 0 22 (by decide), mx_upR_rid _ _ _ 0 (by decide), mx_up_rid _ _ _ _ 8 (by decide), mx_upR_rid _ _ _ 8 (by decide), mx_up_rid _ _ _ _ 9 (by decide), mx_upR_rid _ _ _ 9 (by decide), mx_up_rid _ _ _ _ 10 (by decide), mx_upR_rid _ _ _ 10 (by decide)]; exact g4
      · rw [mx_up_rid _ _ _ _ 7 (by decide), mx_upR_rid _ _ _ 7 (by decide), mx_up_rid _ _ _ _ 6 (by decide), mx_upR_rid _ _ _ 6 (by decide)]; exact g6
  · rw [hb]
    refine mR 1 rfl trivial ?_
    exact mx_E_iret rfl rfl ⟨rfl, h0⟩
theorem qr_undo {c : mx_M} {a : mSt} (h : rI c a) : mx_Spec 1 1 m_Mo_undo [.ref 0] c (fun r c' => r = some (.int (aUndo a).1) ∧ rI c' (aUndo a).2) := by
  have h0 := rI_0 0 h
  obtain ⟨h8, h9, hn, hm⟩ := h0.1
  refine mx_Spec_E rfl rfl rfl ?_
  refine mR 3 rfl trivial ?_
  generalize mx_up c 0 0 0 = c0 at h0 h8 h9
  refine mR 2 rfl trivial ?_
  obtain ⟨g1, g2, g3, g4, g5, g6⟩ := id h0
  rw [g5.1]
  have hu := g5.2.1
  unfold aUndo
  by_cases e : a.2.2.2.2.1.1 = 0
  · rw [e, if_pos rfl]
    refine mx_E_br rfl rfl (fun h => absurd rfl h) (fun _ => ?_)
    refine mR 1 rfl trivial ?_
    exact mx_E_iret rfl rfl ⟨rfl, h0⟩
  · rw [if_neg e]
    refine mx_E_br rfl rfl (fun _ => ?_) (fun h => absurd (nI_ne0 (by omega) (by omega)) h)
    refine mR 8 rfl trivial ?_
    rw [g5.1, show (1 : Int32) = nI 1 from rfl, pk_sub (by omega)]
    obtain ⟨w, hw⟩ : ∃ w, w = a.2.2.2.2.1.1 - 1 := ⟨_, rfl⟩
    rw [← hw]
    have hp := g5.2.2 w (by omega)
    have hp2 : rP (fb_put (c0 3) (fun j => c0 5 (244 * w + j)) 0 244) a.1.1 a.1.2 (a.2.2.2.2.1.2 w) := rP_of hn.2 hm hp (fun k hk => by rw [fb_put_in (by omega) (by omega)]; congr 1)
    refine mS (lp_Mo_undo1 (c := mx_up c0 0 16 (nI w)) (w := w) (by omega) (mx_up_same _ _ _ _) ?_ 244 0 rfl) rfl rfl (by rw [fb_put_0, mx_upR_self])
    refine mR 2 rfl trivial ?_
    rw [mx_upR_rid _ _ _ 0 (by decide), mx_up_same, mx_up_rid _ _ _ _ 3 (by decide), mx_up_rid _ _ _ _ 5 (by decide)]
    refine mx_E_iret rfl rfl ⟨rfl, ?_⟩
    refine ⟨?_, ?_, ?_, ?_, ⟨?_, by show w ≤ 10; omega, fun j hj => ?_⟩, ?_⟩
    · rw [mx_upR_rid _ _ _ 0 (by decide), mx_up_ix _ _ _ _ 0 8 (by decide), mx_up_ix _ _ _ _ 0 9 (by decide)]; exact g1
    · rw [mx_upR_row]; exact hp2
    · rw [mx_upR_rid _ _ _ 0 (by decide), mx_up_ix _ _ _ _ 0 2 (by decide), mx_upR_rid _ _ _ 1 (by decide), mx_up_rid _ _ _ _ 1 (by decide)]; exact g3
    · rw [mx_upR_rid _ _ _ 0 (by decide), mx_up_ix _ _ _ _ 0 22 (by decide), mx_upR_rid _ _ _ 8 (by decide), mx_up_rid _ _ _ _ 8 (by decide), mx_upR_rid _ _ _ 9 (by decide), mx_up_rid _ _ _ _ 9 (by decide), mx_upR_rid _ _ _ 10 (by decide), mx_up_rid _ _ _ _ 10 (by decide)]; exact g4
    · rw [mx_upR_rid _ _ _ 0 (by decide), mx_up_same]
    · have hj2 : j < w := hj
      rw [mx_upR_rid _ _ _ 5 (by decide), mx_up_rid _ _ _ _ 5 (by decide)]
      exact g5.2.2 j (by omega)
    · rw [mx_upR_rid _ _ _ 7 (by decide), mx_up_rid _ _ _ _ 7 (by decide), mx_upR_rid _ _ _ 6 (by decide), mx_up_rid _ _ _ _ 6 (by decide)]; exact g6
