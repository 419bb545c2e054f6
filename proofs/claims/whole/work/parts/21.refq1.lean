/-! what is told of both: pictures (rankings, agenda), the whole state; answers -/
abbrev mPic : Type := (Nat → Nat → Nat) × (Nat → Option Nat) × (Nat → Nat) × Nat
/-- motions, members; the picture; the text; what was seen; what may be undone; the images -/
abbrev mSt : Type := (Nat × Nat) × mPic × (Nat × (Nat → Int32)) × (Nat × (Nat → Nat × Nat × Nat)) × (Nat × (Nat → mPic)) × (Nat → Option mPic)
/-- x is one of 0 .. n - 1 -/
def mi (x : Int32) (n : Nat) : Bool := decide (0 ≤ x) && decide (x < nI n)
theorem mi_t {j n : Nat} (h : j < n) (hn : n < 2147483648) : mi (nI j) n = true := by
  unfold mi
  rw [decide_eq_true (nI_pos' (by omega)), decide_eq_true (nI_lt h hn)]
  rfl
theorem mi_of {x : Int32} {n : Nat} (hn : n < 2147483648) (h : mi x n = true) : ∃ j, j < n ∧ x = nI j := by
  unfold mi at h
  simp only [Bool.and_eq_true, decide_eq_true_eq] at h
  rcases pk_ix x hn with h1 | h1 | h1
  · exact absurd h.1 (fa_of_lt h1).2.1
  · exact absurd h.2 (fun z => (fa_of_lt z).2.1 h1)
  · exact h1
theorem in_mi (x : Int32) {n : Nat} (hn : n < 1000000) : decide ((0 : Int32) ≤ x ∧ x ≤ nI n - 1) = mi x n := by
  unfold mi
  have h1 : (nI n - 1 : Int32).toInt = (n : Int) - 1 := pk_sub_toInt (a := n) (b := 1) (by omega) (by omega)
  have h2 := nI_toInt (show n < 2 ^ 31 by omega)
  rw [← Bool.decide_and]
  congr 1
  rw [fa_le, fa_le, fa_lt, h1, h2]
  apply propext
  constructor
  · intro h; exact ⟨h.1, by omega⟩
  · intro h; exact ⟨h.1, by omega⟩
theorem in_mk (x : Int32) (k : Nat) (hk : k < 1000) : decide ((0 : Int32) ≤ x ∧ x ≤ nI k) = mi x (k + 1) := by
  have h := in_mi x (n := k + 1) (by omega)
  rw [nI_p1] at h
  exact h
def rP (g : Nat → Int32) (n m : Nat) (p : mPic) : Prop := (∀ j, j < m → mperm n (p.1 j)) ∧ rRk g n m p.1 ∧ mtree n p.2.1 p.2.2.1 p.2.2.2 ∧ rTb g p.2.1 p.2.2.1 p.2.2.2
theorem rP_of {g g' : Nat → Int32} {n m : Nat} {p : mPic} (hn : n ≤ 6) (hm : m ≤ 9) (h : rP g n m p) (e : ∀ k, k < 244 → g' k = g k) : rP g' n m p := by
  obtain ⟨h1, h2, h3, h4, h5⟩ := h
  have h63 := h3.2.1
  refine ⟨h1, fun i q hi hq => by rw [e _ (by omega)]; exact h2 i q hi hq, h3, by rw [e _ (by omega)]; exact h4, fun k hk => ?_⟩
  rw [e _ (by omega), e _ (by omega), e _ (by omega)]
  exact h5 k hk
/-- the reference holds the state a -/
def rI (c : mx_M) (a : mSt) : Prop :=
  (c 0 8 = nI a.1.1 ∧ c 0 9 = nI a.1.2 ∧ mn a.1.1 ∧ a.1.2 ≤ 9) ∧ rP (c 3) a.1.1 a.1.2 a.2.1 ∧
  (c 0 2 = nI a.2.2.1.1 ∧ a.2.2.1.1 ≤ 120 ∧ ∀ i, i < a.2.2.1.1 → c 1 i = a.2.2.1.2 i) ∧
  (c 0 22 = nI a.2.2.2.1.1 ∧ a.2.2.2.1.1 ≤ 6 ∧ ∀ i, i < a.2.2.2.1.1 → c 8 i = nI (a.2.2.2.1.2 i).1 ∧ c 9 i = nI (a.2.2.2.1.2 i).2.1 ∧ c 10 i = nI (a.2.2.2.1.2 i).2.2 ∧ (a.2.2.2.1.2 i).1 < 64 ∧ (a.2.2.2.1.2 i).2.1 < 64 ∧ (a.2.2.2.1.2 i).2.2 < 2) ∧
  (c 0 16 = nI a.2.2.2.2.1.1 ∧ a.2.2.2.2.1.1 ≤ 10 ∧ ∀ i, i < a.2.2.2.2.1.1 → rP (fun k => c 5 (244 * i + k)) a.1.1 a.1.2 (a.2.2.2.2.1.2 i)) ∧
  (∀ i, i < 2 → c 7 i = mz (a.2.2.2.2.2 i).isSome ∧ ∀ p, a.2.2.2.2.2 i = some p → rP (fun k => c 6 (244 * i + k)) a.1.1 a.1.2 p)
/-- what the reference uses and leaves as it is -/
abbrev rSc : List Nat := [4, 11, 12, 13, 14, 15, 16, 17]
theorem rI_fr {c c' : mx_M} {a : mSt} (h : rI c a) (hf : mfr rSc c c') : rI c' a := by
  unfold rI at h ⊢
  rw [hf 0 (by decide), hf 1 (by decide), hf 3 (by decide), hf 5 (by decide), hf 6 (by decide), hf 7 (by decide), hf 8 (by decide), hf 9 (by decide), hf 10 (by decide)]
  exact h
theorem rI_up {c : mx_M} {a : mSt} {k : Nat} {x : Int32} (h : rI c a) (h2 : k ≠ 2) (h8 : k ≠ 8) (h9 : k ≠ 9) (h16 : k ≠ 16) (h22 : k ≠ 22) : rI (mx_up c 0 k x) a := by
  unfold rI at h ⊢
  rw [mx_up_ix _ _ _ _ _ _ h2.symm, mx_up_ix _ _ _ _ _ _ h8.symm, mx_up_ix _ _ _ _ _ _ h9.symm, mx_up_ix _ _ _ _ _ _ h16.symm, mx_up_ix _ _ _ _ _ _ h22.symm, mx_up_rid _ _ _ _ 1 (by decide), mx_up_rid _ _ _ _ 3 (by decide), mx_up_rid _ _ _ _ 5 (by decide), mx_up_rid _ _ _ _ 6 (by decide), mx_up_rid _ _ _ _ 7 (by decide), mx_up_rid _ _ _ _ 8 (by decide), mx_up_rid _ _ _ _ 9 (by decide), mx_up_rid _ _ _ _ 10 (by decide)]
  exact h
theorem rI_0 {c : mx_M} {a : mSt} (x : Int32) (h : rI c a) : rI (mx_up c 0 0 x) a := rI_up h (by decide) (by decide) (by decide) (by decide) (by decide)
theorem rI_V {c : mx_M} {a : mSt} {t : Nat} (h : rI c a) (h23 : c 0 23 = nI t) (ht : t < 512) : rV c 3 t a.1.1 a.1.2 a.2.1.1 a.2.1.2.1 a.2.1.2.2.1 a.2.1.2.2.2 := ⟨⟨h.1.1, h.1.2.1, h23⟩, ⟨h.1.2.2.1, h.1.2.2.2, ht⟩, h.2.1.1, h.2.1.2.1, h.2.1.2.2.1, h.2.1.2.2.2⟩
theorem sp_Mo_isMotion (c : mx_M) (x : Int32) (n : Nat) (h : c 0 8 = nI n) (hn : n < 1000000) : mx_Spec 1 2 m_Mo_isMotion [.ref 0, .int x] c (fun r c' => r = some (.int (mz (mi x n))) ∧ c' = c) := by
  refine mx_Spec_E rfl rfl rfl ?_
  refine mR 6 rfl trivial ?_
  rw [h]
  refine mx_E_callS (sp_Mo_in _ _ _ _) rfl rfl rfl (fun r c1 h => ?_)
  obtain ⟨rfl, h⟩ := h
  subst h
  refine mx_E_zret rfl rfl (mz_01 _) ⟨?_, rfl⟩
  rw [in_mi x hn]
theorem sp_Mo_isMember (c : mx_M) (x : Int32) (n : Nat) (h : c 0 9 = nI n) (hn : n < 1000000) : mx_Spec 1 2 m_Mo_isMember [.ref 0, .int x] c (fun r c' => r = some (.int (mz (mi x n))) ∧ c' = c) := by
  refine mx_Spec_E rfl rfl rfl ?_
  refine mR 6 rfl trivial ?_
  rw [h]
  refine mx_E_callS (sp_Mo_in _ _ _ _) rfl rfl rfl (fun r c1 h => ?_)
  obtain ⟨rfl, h⟩ := h
  subst h
  refine mx_E_zret rfl rfl (mz_01 _) ⟨?_, rfl⟩
  rw [in_mi x hn]
theorem c54 : ((54 : Int32)).toNatClampNeg = 54 := by decide
theorem sp_Mo_isNode (c : mx_M) (x : Int32) (n : Nat) (h : c 3 54 = nI n) (hn : n < 1000000) : mx_Spec 1 2 m_Mo_isNode [.ref 0, .int x] c (fun r c' => r = some (.int (mz (mi x n))) ∧ c' = c) := by
  refine mx_Spec_E rfl rfl rfl ?_
  refine mR 8 rfl (mA1 (mI (n := 54) (by decide))) ?_
  rw [c54, h]
  refine mx_E_callS (sp_Mo_in _ _ _ _) rfl rfl rfl (fun r c1 h => ?_)
  obtain ⟨rfl, h⟩ := h
  subst h
  refine mx_E_zret rfl rfl (mz_01 _) ⟨?_, rfl⟩
  rw [in_mi x hn]
theorem sp_Mo_isWay (c : mx_M) (x : Int32) : mx_Spec 1 2 m_Mo_isWay [.int x] c (fun r c' => r = some (.int (mz (mi x 2))) ∧ c' = c) := by
  refine mx_Spec_E rfl rfl rfl ?_
  refine mR 3 rfl trivial ?_
  refine mx_E_callS (sp_Mo_in _ _ _ _) rfl rfl rfl (fun r c1 h => ?_)
  obtain ⟨rfl, h⟩ := h
  subst h
  refine mx_E_zret rfl rfl (mz_01 _) ⟨?_, rfl⟩
  rw [← in_mk x 1 (by decide)]
  rfl
theorem pw1 {m : Nat} (h : m ≤ 9) : ((1 : Int32) <<< (nI m &&& 31)) - 1 = nI (2 ^ m - 1) := (by decide +kernel : ∀ m, m ≤ 9 → ((1 : Int32) <<< (nI m &&& 31)) - 1 = nI (2 ^ m - 1)) m h
theorem pw_lt {m : Nat} (h : m ≤ 9) : 2 ^ m - 1 < 512 := by
  have := Nat.pow_le_pow_right (show 0 < 2 by decide) h
  omega
theorem sp_Mo_all (c : mx_M) (m : Nat) (h : c 0 9 = nI m) (hm : m ≤ 9) : mx_Spec 1 1 m_Mo_all [.ref 0] c (fun r c' => r = none ∧ c' = mx_up c 0 23 (nI (2 ^ m - 1))) := by
  refine mx_Spec_E rfl rfl rfl ?_
  refine mR 8 rfl trivial ?_
  rw [h, pw1 hm]
  exact mx_E_vret rfl rfl ⟨rfl, rfl⟩
/-- refused -/
def mBAD (a : mSt) : Int32 × mSt := (-1, a)
def aType (a : mSt) (x : Int32) : Int32 × mSt := if mi x 256 then (if a.2.2.1.1 = 120 then (-3, a) else (nI (a.2.2.1.1 + 1), (a.1, a.2.1, (a.2.2.1.1 + 1, upd a.2.2.1.2 a.2.2.1.1 x), a.2.2.2))) else mBAD a
def aClear (a : mSt) : Int32 × mSt := (nI a.2.2.1.1, (a.1, a.2.1, (0, a.2.2.1.2), a.2.2.2))
def aForget (a : mSt) : Int32 × mSt := (nI a.2.2.2.1.1, (a.1, a.2.1, a.2.2.1, (0, a.2.2.2.1.2), a.2.2.2.2))
def aRanking (a : mSt) (x y : Int32) : Int32 × mSt := if mi x a.1.2 && mi y a.1.1 then (nI (a.2.1.1 x.toNatClampNeg y.toNatClampNeg), a) else mBAD a
def aVotes (a : mSt) (x y : Int32) : Int32 × mSt := if mi x a.1.1 && mi y a.1.1 && !(decide (x = y)) then (nI (mvt (2 ^ a.1.2 - 1) a.1.2 a.1.1 a.2.1.1 x.toNatClampNeg y.toNatClampNeg), a) else mBAD a
def aOrder (a : mSt) (x y : Int32) : Int32 × mSt := if mi x (mfact a.1.1) && mi y a.1.1 then (nI (mo a.1.1 x.toNatClampNeg y.toNatClampNeg), a) else mBAD a
theorem qr_clear {c : mx_M} {a : mSt} (h : rI c a) : mx_Spec 1 1 m_Mo_clear [.ref 0] c (fun r c' => r = some (.int (aClear a).1) ∧ rI c' (aClear a).2) := by
  refine mx_Spec_E rfl rfl rfl ?_
  refine mR 10 rfl trivial ?_
  rw [mx_up_ix _ _ _ _ _ _ (by decide), h.2.2.1.1]
  refine mx_E_iret rfl rfl ⟨rfl, ?_⟩
  obtain ⟨h1, h2, h3, h4, h5, h6⟩ := rI_0 0 h
  refine ⟨?_, ?_, ⟨mx_up_same _ _ _ _, Nat.zero_le _, fun i hi => absurd hi (Nat.not_lt_zero i)⟩, ?_, ?_, ?_⟩
  · rw [mx_up_ix _ _ _ _ _ _ (by decide), mx_up_ix _ _ _ _ _ _ (by decide)]; exact h1
  · rw [mx_up_rid _ _ _ _ _ (by decide)]; exact h2
  · rw [mx_up_ix _ _ _ _ _ _ (by decide), mx_up_rid _ _ _ _ 8 (by decide), mx_up_rid _ _ _ _ 9 (by decide), mx_up_rid _ _ _ _ 10 (by decide)]; exact h4
  · rw [mx_up_ix _ _ _ _ _ _ (by decide), mx_up_rid _ _ _ _ 5 (by decide)]; exact h5
  · rw [mx_up_rid _ _ _ _ 7 (by decide), mx_up_rid _ _ _ _ 6 (by decide)]; exact h6
theorem qr_forget {c : mx_M} {a : mSt} (h : rI c a) : mx_Spec 1 1 m_Mo_forget [.ref 0] c (fun r c' => r = some (.int (aForget a).1) ∧ rI c' (aForget a).2) := by
  refine mx_Spec_E rfl rfl rfl ?_
  refine mR 10 rfl trivial ?_
  rw [mx_up_ix _ _ _ _ _ _ (by decide), h.2.2.2.1.1]
  refine mx_E_iret rfl rfl ⟨rfl, ?_⟩
  obtain ⟨h1, h2, h3, h4, h5, h6⟩ := rI_0 0 h
  refine ⟨?_, ?_, ?_, ⟨mx_up_same _ _ _ _, Nat.zero_le _, fun i hi => absurd hi (Nat.not_lt_zero i)⟩, ?_, ?_⟩
  · rw [mx_up_ix _ _ _ _ _ _ (by decide), mx_up_ix _ _ _ _ _ _ (by decide)]; exact h1
  · rw [mx_up_rid _ _ _ _ _ (by decide)]; exact h2
  · rw [mx_up_ix _ _ _ _ _ _ (by decide), mx_up_rid _ _ _ _ 1 (by decide)]; exact h3
  · rw [mx_up_ix _ _ _ _ _ _ (by decide), mx_up_rid _ _ _ _ 5 (by decide)]; exact h5
  · rw [mx_up_rid _ _ _ _ 7 (by decide), mx_up_rid _ _ _ _ 6 (by decide)]; exact h6
theorem qr_type {c : mx_M} {a : mSt} (x : Int32) (h : rI c a) : mx_Spec 1 2 m_Mo_type [.ref 0, .int x] c (fun r c' => r = some (.int (aType a x).1) ∧ rI c' (aType a x).2) := by
  refine mx_Spec_E rfl rfl rfl ?_
  refine mR 6 rfl trivial ?_
  refine mx_E_callS (sp_Mo_in _ _ _ _) rfl rfl rfl (fun r c1 hr => ?_)
  obtain ⟨rfl, rfl⟩ := hr
  rw [show decide ((0 : Int32) ≤ x ∧ x ≤ 255) = mi x 256 from in_mk x 255 (by decide)]
  have h0 := rI_0 0 h
  have h3 := h0.2.2.1
  unfold aType
  refine mbF rfl (fun hb => ?_) (fun hb => ?_)
  · rw [hb, if_pos rfl]
    refine mR 3 rfl trivial ?_
    rw [h3.1, show (120 : Int32) = nI 120 from rfl]
    refine mbNe _ _ rfl (by omega) (by decide) (fun hc => ?_) (fun hc => ?_)
    · rw [if_neg hc]
      have ec : (nI a.2.2.1.1).toNatClampNeg = a.2.2.1.1 := nI_cl (by omega)
      refine mR 14 rfl (mA1 (by rw [h3.1]; exact mI (by omega))) ?_
      rw [mx_up_same, mx_up_id _ _ _ _ 0 2 (by decide), h3.1, nI_1, ec]
      refine mx_E_iret rfl rfl ⟨rfl, ?_⟩
      obtain ⟨g1, g2, g3, g4, g5, g6⟩ := h0
      refine ⟨?_, ?_, ⟨mx_up_same _ _ _ _, by show a.2.2.1.1 + 1 ≤ 120; omega, fun i hi => ?_⟩, ?_, ?_, ?_⟩
      · rw [mx_up_ix _ _ _ _ 0 8 (by decide), mx_up_id _ _ _ _ 0 8 (by decide), mx_up_ix _ _ _ _ 0 9 (by decide), mx_up_id _ _ _ _ 0 9 (by decide)]; exact g1
      · rw [mx_up_rid _ _ _ _ 3 (by decide), mx_up_rid _ _ _ _ 3 (by decide)]; exact g2
      · have hi2 : i < a.2.2.1.1 + 1 := hi
        rw [mx_up_rid _ _ _ _ 1 (by decide)]
        show _ = upd a.2.2.1.2 a.2.2.1.1 x i
        by_cases e : i = a.2.2.1.1
        · rw [e, mx_up_same, upd_same]
        · rw [mx_up_ix _ _ _ _ _ _ e, upd_ne _ _ _ _ e]
          exact g3.2.2 i (by omega)
      · rw [mx_up_ix _ _ _ _ 0 22 (by decide), mx_up_id _ _ _ _ 0 22 (by decide), mx_up_rid _ _ _ _ 8 (by decide), mx_up_rid _ _ _ _ 8 (by decide), mx_up_rid _ _ _ _ 9 (by decide), mx_up_rid _ _ _ _ 9 (by decide), mx_up_rid _ _ _ _ 10 (by decide), mx_up_rid _ _ _ _ 10 (by decide)]; exact g4
      · rw [mx_up_ix _ _ _ _ 0 16 (by decide), mx_up_id _ _ _ _ 0 16 (by decide), mx_up_rid _ _ _ _ 5 (by decide), mx_up_rid _ _ _ _ 5 (by decide)]; exact g5
      · rw [mx_up_rid _ _ _ _ 7 (by decide), mx_up_rid _ _ _ _ 7 (by decide), mx_up_rid _ _ _ _ 6 (by decide), mx_up_rid _ _ _ _ 6 (by decide)]; exact g6
    · rw [if_pos hc]
      refine mR 1 rfl trivial ?_
      exact mx_E_iret rfl rfl ⟨rfl, h0⟩
  · rw [hb, if_neg (by decide)]
    refine mR 1 rfl trivial ?_
    exact mx_E_iret rfl rfl ⟨rfl, h0⟩
theorem qr_ranking {c : mx_M} {a : mSt} (x y : Int32) (h : rI c a) : mx_Spec 1 3 m_Mo_ranking [.ref 0, .int x, .int y] c (fun r c' => r = some (.int (aRanking a x y).1) ∧ rI c' (aRanking a x y).2) := by
  have h0 := rI_0 0 h
  obtain ⟨h8, h9, hn, hm⟩ := h0.1
  have h6 := hn.2
  refine mx_Spec_E rfl rfl rfl ?_
  refine mR 5 rfl trivial ?_
  refine mx_E_callV (sp_Mo_isMember _ x _ h9 (by omega)) rfl rfl rfl (fun r c1 hr => ?_)
  obtain ⟨rfl, rfl⟩ := hr
  unfold aRanking
  refine mbT rfl (fun hb => ?_) (fun hb => ?_)
  · rw [hb]
    refine mR 1 rfl trivial ?_
    exact mx_E_iret rfl rfl ⟨rfl, h0⟩
  · refine mR 2 rfl trivial ?_
    refine mx_E_callV (sp_Mo_isMotion _ y _ h8 (by omega)) rfl rfl rfl (fun r c1 hr => ?_)
    obtain ⟨rfl, rfl⟩ := hr
    refine mbT rfl (fun hb2 => ?_) (fun hb2 => ?_)
    · rw [hb2, Bool.and_false]
      refine mR 1 rfl trivial ?_
      exact mx_E_iret rfl rfl ⟨rfl, h0⟩
    · rw [hb, hb2]
      obtain ⟨i, hi, rfl⟩ := mi_of (by omega) hb
      obtain ⟨j, hj, rfl⟩ := mi_of (by omega) hb2
      rw [nI_cl (a := i) (by omega), nI_cl (a := j) (by omega)]
      refine mR 9 rfl (mA1 (by rw [ix6]; exact mI (by omega))) ?_
      rw [ix6, nI_cl (a := 6 * i + j) (by omega), h0.2.1.2.1 i j hi hj]
      exact mx_E_iret rfl rfl ⟨rfl, h0⟩
theorem qr_votes {c : mx_M} {a : mSt} (x y : Int32) (h : rI c a) : mx_Spec 1 3 m_Mo_votes [.ref 0, .int x, .int y] c (fun r c' => r = some (.int (aVotes a x y).1) ∧ rI c' (aVotes a x y).2) := by
  have h0 := rI_0 0 h
  obtain ⟨h8, h9, hn, hm⟩ := h0.1
  have h6 := hn.2
  refine mx_Spec_E rfl rfl rfl ?_
  refine mR 5 rfl trivial ?_
  refine mx_E_callV (sp_Mo_isMotion _ x _ h8 (by omega)) rfl rfl rfl (fun r c1 hr => ?_)
  obtain ⟨rfl, rfl⟩ := hr
  unfold aVotes
  refine mbT rfl (fun hb => ?_) (fun hb => ?_)
  · rw [hb]
    refine mR 1 rfl trivial ?_
    exact mx_E_iret rfl rfl ⟨rfl, h0⟩
  · refine mR 2 rfl trivial ?_
    refine mx_E_callV (sp_Mo_isMotion _ y _ h8 (by omega)) rfl rfl rfl (fun r c1 hr => ?_)
    obtain ⟨rfl, rfl⟩ := hr
    refine mbT rfl (fun hb2 => ?_) (fun hb2 => ?_)
    · rw [hb2, Bool.and_false]
      refine mR 1 rfl trivial ?_
      exact mx_E_iret rfl rfl ⟨rfl, h0⟩
    · refine mR 2 rfl trivial ?_
      refine mx_E_br rfl rfl (fun hc => ?_) (fun hc => ?_)
      · rw [hb, hb2, decide_eq_false hc]
        obtain ⟨i, hi, rfl⟩ := mi_of (by omega) hb
        obtain ⟨j, hj, rfl⟩ := mi_of (by omega) hb2
        refine mR 1 rfl trivial ?_
        refine mx_E_callV (sp_Mo_all _ _ h9 hm) rfl rfl rfl (fun r c1 hr => ?_)
        obtain ⟨rfl, rfl⟩ := hr
        have hI := rI_up (k := 23) (x := nI (2 ^ a.1.2 - 1)) h0 (by decide) (by decide) (by decide) (by decide) (by decide)
        refine mR 5 rfl trivial ?_
        refine mx_E_callV (sp_Mo_votesOf3 _ (rI_V hI (mx_up_same _ _ _ _) (pw_lt hm)) hi hj) rfl rfl rfl (fun r c1 hr => ?_)
        obtain ⟨rfl, rfl⟩ := hr
        refine mx_E_iret rfl rfl ⟨?_, hI⟩
        rw [nI_cl (by omega), nI_cl (by omega)]
        rfl
      · rw [decide_eq_true (Decidable.not_not.mp hc), Bool.not_true, Bool.and_false]
        refine mR 1 rfl trivial ?_
        exact mx_E_iret rfl rfl ⟨rfl, h0⟩
theorem qr_order {c : mx_M} {a : mSt} (x y : Int32) (h : rI c a) : mx_Spec 1 3 m_Mo_order [.ref 0, .int x, .int y] c (fun r c' => r = some (.int (aOrder a x y).1) ∧ rI c' (aOrder a x y).2) := by
  have h0 := rI_0 0 h
  obtain ⟨h8, h9, hn, hm⟩ := h0.1
  have h6 := hn.2
  have hfl := mfact_le a.1.1 (by omega)
  refine mx_Spec_E rfl rfl rfl ?_
  refine mR 7 rfl trivial ?_
  rw [h8]
  refine mx_E_callS (sp_Mo_orders _ a.1.1 (by omega)) rfl rfl rfl (fun r c1 hr => ?_)
  obtain ⟨rfl, rfl⟩ := hr
  refine mR 2 rfl trivial ?_
  refine mx_E_callS (sp_Mo_in _ _ _ _) rfl rfl rfl (fun r c1 hr => ?_)
  obtain ⟨rfl, rfl⟩ := hr
  rw [in_mi x (by omega)]
  unfold aOrder
  refine mbT rfl (fun hb => ?_) (fun hb => ?_)
  · rw [hb]
    refine mR 1 rfl trivial ?_
    exact mx_E_iret rfl rfl ⟨rfl, h0⟩
  · refine mR 2 rfl trivial ?_
    refine mx_E_callV (sp_Mo_isMotion _ y _ h8 (by omega)) rfl rfl rfl (fun r c1 hr => ?_)
    obtain ⟨rfl, rfl⟩ := hr
    refine mbF rfl (fun hb2 => ?_) (fun hb2 => ?_)
    · rw [hb, hb2]
      obtain ⟨i, hi, rfl⟩ := mi_of (by omega) hb
      obtain ⟨j, hj, rfl⟩ := mi_of (by omega) hb2
      rw [nI_cl (a := i) (by omega), nI_cl (a := j) (by omega)]
      refine mR 4 rfl trivial ?_
      rw [h8]
      refine mx_E_callV (sp_Mo_orderOf _ a.1.1 i hn hi) rfl rfl rfl (fun r c1 hr => ?_)
      obtain ⟨rfl, rfl⟩ := hr
      refine mR 4 rfl (mA1 (mI (by omega))) ?_
      rw [nI_cl (a := j) (by omega), mx_upR_row, fa_fill_in hj]
      exact mx_E_iret rfl rfl ⟨rfl, rI_fr h0 (fun r hr => mx_upR_rid _ _ _ _ (fun e => hr (by rw [e]; decide)))⟩
    · rw [hb2, Bool.and_false]
      refine mR 1 rfl trivial ?_
      exact mx_E_iret rfl rfl ⟨rfl, h0⟩
