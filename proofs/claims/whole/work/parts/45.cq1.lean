/-! switches; the class's short calls -/
section SWITCH
variable {sy d mi j t : Nat} {Q : Option Value → mx_M → Prop} {ls st : List Value} {c : mx_M}
theorem mx_E_tin {dflt lo hi off : Int} {offs : Array Int} {len : Nat} {x : Int32} (hd : decode (mx_code mi) (mx_pc mi j) = .ok (.tableswitch dflt lo hi offs, len)) (h1 : ¬ x.toInt < lo) (h2 : ¬ hi < x.toInt) (ho : offs[(x.toInt - lo).toNat]? = some off) (ht : (mx_pc mi j : Int) + off = (mx_pc mi t : Int)) (k : mx_E sy d mi Q t ls st c) : mx_E sy d mi Q j ls (.int x :: st) c := by
  intro l D cy ad p e s m args below meth cd H locs lsA C hP hS hL
  exact lv_tableIn C.1 C.2.1 hd h1 h2 ho ht (k l D cy ad p e s m args below meth cd H locs lsA C hP hS hL)
theorem mx_E_tout {dflt lo hi : Int} {offs : Array Int} {len : Nat} {x : Int32} (hd : decode (mx_code mi) (mx_pc mi j) = .ok (.tableswitch dflt lo hi offs, len)) (h : x.toInt < lo ∨ hi < x.toInt) (ht : (mx_pc mi j : Int) + dflt = (mx_pc mi t : Int)) (k : mx_E sy d mi Q t ls st c) : mx_E sy d mi Q j ls (.int x :: st) c := by
  intro l D cy ad p e s m args below meth cd H locs lsA C hP hS hL
  exact lv_tableOut C.1 C.2.1 hd h ht (k l D cy ad p e s m args below meth cd H locs lsA C hP hS hL)
theorem mx_E_lsw {dflt off : Int} {ps : Array (Int × Int)} {len : Nat} {x : Int32} (hd : decode (mx_code mi) (mx_pc mi j) = .ok (.lookupswitch dflt ps, len)) (hp : (ps.toList.zip (ps.toList.drop 1)).all (fun (a, next) => a.1 < next.1) = true) (ho : Op.lookupswitch.offset ps.toList dflt x.toInt = off) (ht : (mx_pc mi j : Int) + off = (mx_pc mi t : Int)) (k : mx_E sy d mi Q t ls st c) : mx_E sy d mi Q j ls (.int x :: st) c := by
  intro l D cy ad p e s m args below meth cd H locs lsA C hP hS hL
  exact lv_lookup C.1 C.2.1 hd hp ho ht (k l D cy ad p e s m args below meth cd H locs lsA C hP hS hL)
end SWITCH
theorem mi_out {x : Int32} {n : Nat} (hn : n < 1000) (h : mi x n = false) : x.toInt < 0 ∨ (n : Int) ≤ x.toInt := by
  unfold mi at h
  rw [Bool.and_eq_false_iff] at h
  rcases h with h | h
  · have h1 := of_decide_eq_false h
    rw [fa_le] at h1
    have : ((0 : Int32)).toInt = 0 := by decide
    omega
  · have h1 := of_decide_eq_false h
    rw [fa_lt, nI_toInt (show n < 2 ^ 31 by omega)] at h1
    omega
theorem mi_ne {x : Int32} {n j : Nat} (hj : j < n) (hn : n < 1000) (h : mi x n = false) : ¬ x = nI j := fun e => by
  rw [e, mi_t hj (by omega)] at h
  cases h
theorem sp_De_isMotion (c : mx_M) (x : Int32) (n : Nat) (h : c 6 2 = nI n) : mx_Spec 0 2 m_De_isMotion [.ref 0, .int x] c (fun r c' => r = some (.int (mz (mi x n))) ∧ c' = c) := by
  refine mx_Spec_E rfl rfl rfl ?_
  refine mR 4 rfl trivial ?_
  rw [h]
  refine mx_E_callS (sp_De_within _ x n) rfl rfl rfl (fun r c1 hr => ?_)
  obtain ⟨rfl, hz⟩ := hr
  exact mx_E_zret rfl rfl (mz_01 _) ⟨rfl, hz⟩
theorem sp_De_isMember (c : mx_M) (x : Int32) (n : Nat) (h : c 6 3 = nI n) : mx_Spec 0 2 m_De_isMember [.ref 0, .int x] c (fun r c' => r = some (.int (mz (mi x n))) ∧ c' = c) := by
  refine mx_Spec_E rfl rfl rfl ?_
  refine mR 4 rfl trivial ?_
  rw [h]
  refine mx_E_callS (sp_De_within _ x n) rfl rfl rfl (fun r c1 hr => ?_)
  obtain ⟨rfl, hz⟩ := hr
  exact mx_E_zret rfl rfl (mz_01 _) ⟨rfl, hz⟩
theorem sp_De_isWay (c : mx_M) (x : Int32) : mx_Spec 0 2 m_De_isWay [.ref 0, .int x] c (fun r c' => r = some (.int (mz (mi x 2))) ∧ c' = c) := by
  refine mx_Spec_E rfl rfl rfl ?_
  refine mR 2 rfl trivial ?_
  refine mx_E_callS (sp_De_within _ x 2) rfl rfl rfl (fun r c1 hr => ?_)
  obtain ⟨rfl, hz⟩ := hr
  exact mx_E_zret rfl rfl (mz_01 _) ⟨rfl, hz⟩
theorem sp_De_orders (c : mx_M) {n : Nat} (hn : n ≤ 6) (h : c 6 2 = nI n) : mx_Spec 0 1 m_De_orders [.ref 0] c (fun r c' => r = some (.int (nI (mfact n))) ∧ c' = c) := by
  refine mx_Spec_E rfl rfl rfl ?_
  refine mR 5 rfl (mA1 (by rw [h]; exact mI (by omega))) ?_
  rw [h, nI_cl (by omega), mx_ord_f n (by omega)]
  exact mx_E_iret rfl rfl ⟨rfl, rfl⟩
theorem sp_De_isOrder (c : mx_M) (x : Int32) {n : Nat} (hn : n ≤ 6) (h : c 6 2 = nI n) : mx_Spec 0 2 m_De_isOrder [.ref 0, .int x] c (fun r c' => r = some (.int (mz (mi x (mfact n)))) ∧ c' = c) := by
  refine mx_Spec_E rfl rfl rfl ?_
  refine mR 2 rfl trivial ?_
  refine mx_E_callV (sp_De_orders _ hn h) rfl rfl rfl (fun r c1 hr => ?_)
  obtain ⟨rfl, hz⟩ := hr
  rw [hz]
  refine mx_E_callS (sp_De_within _ x (mfact n)) rfl rfl rfl (fun r c1 hr => ?_)
  obtain ⟨rfl, hz⟩ := hr
  exact mx_E_zret rfl rfl (mz_01 _) ⟨rfl, hz⟩
theorem sp_De_everyone (c : mx_M) {m : Nat} (hm : m ≤ 9) (h : c 6 3 = nI m) : mx_Spec 0 1 m_De_everyone [.ref 0] c (fun r c' => r = some (.int (nI (2 ^ m - 1))) ∧ c' = c) := by
  refine mx_Spec_E rfl rfl rfl ?_
  refine mR 7 rfl trivial ?_
  rw [h, pw1 hm]
  exact mx_E_iret rfl rfl ⟨rfl, rfl⟩
theorem cI_2 {c : mx_M} {a : mSt} (h : cI c a) : c 6 2 = nI a.1.1 := h.1.2.1.1
theorem cI_3 {c : mx_M} {a : mSt} (h : cI c a) : c 6 3 = nI a.1.2 := h.1.2.1.2.1
theorem cI_nm {c : mx_M} {a : mSt} (h : cI c a) : mn a.1.1 ∧ a.1.2 ≤ 9 := h.1.1
theorem cI_T {c : mx_M} {a : mSt} (h : cI c a) : cT c a.1.1 (aK a) (aZ a) (aD a) := h.2.1
theorem cI_b {c : mx_M} {a : mSt} (h : cI c a) : bQ c 14 15 a.1.2 a.1.1 (aK a) (aZ a) (aD a) a.2.1.1 := h.2.2
theorem cI_R {c : mx_M} {a : mSt} (h : cI c a) : ∀ i, i < a.1.2 → mperm a.1.1 (a.2.1.1 i) := h.1.2.1.2.2.2.1
/-- one field of the text or the sightings: all else stays -/
theorem cI_x {c c' : mx_M} {a : mSt} {x : pX} (h : cI c a) (hf : mfr [1, 2] c c') (hx : cX c' x) : cI c' (a.1, a.2.1, x, a.2.2.2) := by
  obtain ⟨⟨g0, g1, g2, g3, g4, g5⟩, g6⟩ := h
  have z : ∀ r, 3 ≤ r → c' r = c r := fun r hr => hf r (by simp; omega)
  exact ⟨⟨g0, cP_fr g1 (z 6 (by omega)) (z 7 (by omega)) (z 8 (by omega)), hx, cS_fr g3 (z 27 (by omega)) (z 28 (by omega)) (z 29 (by omega)) (z 30 (by omega)), cU_fr g4 (by rw [hf 0 (by decide)]) (z 25 (by omega)) (fun r hr _ => z r (by omega)), cM_fr g5 (by rw [hf 0 (by decide)]) (z 26 (by omega)) (fun r hr _ => z r (by omega))⟩, cB_fr g6 (z 9 (by omega)) (z 10 (by omega)) (z 11 (by omega)) (z 12 (by omega)) (z 14 (by omega)) (z 15 (by omega))⟩
theorem cI_s {c c' : mx_M} {a : mSt} {s : Nat × (Nat → Nat × Nat × Nat)} (h : cI c a) (hf : mfr [27, 28, 29, 30] c c') (hs : cS c' s) : cI c' (a.1, a.2.1, a.2.2.1, s, a.2.2.2.2) := by
  obtain ⟨⟨g0, g1, g2, g3, g4, g5⟩, g6⟩ := h
  have z : ∀ r, r < 27 ∨ 31 ≤ r → c' r = c r := fun r hr => hf r (by simp; omega)
  exact ⟨⟨g0, cP_fr g1 (z 6 (by omega)) (z 7 (by omega)) (z 8 (by omega)), cX_fr g2 (by rw [z 1 (by omega)]) (z 2 (by omega)), hs, cU_fr g4 (by rw [z 0 (by omega)]) (z 25 (by omega)) (fun r hr _ => z r (by omega)), cM_fr g5 (by rw [z 0 (by omega)]) (z 26 (by omega)) (fun r hr _ => z r (by omega))⟩, cB_fr g6 (z 9 (by omega)) (z 10 (by omega)) (z 11 (by omega)) (z 12 (by omega)) (z 14 (by omega)) (z 15 (by omega))⟩
theorem qc_clear {c : mx_M} {a : mSt} (h : cI c a) : mx_Spec 0 1 m_De_clear [.ref 0] c (fun r c' => r = some (.int (aClear a).1) ∧ cI c' (aClear a).2) := by
  refine mx_Spec_E rfl rfl rfl ?_
  refine mR 9 rfl trivial ?_
  rw [h.1.2.2.1.1]
  refine mx_E_iret rfl rfl ⟨rfl, cI_x h (mfr_up (mfr_rf _ _) (by decide)) ⟨mx_up_same _ _ _ _, Nat.zero_le _, fun i hi => absurd hi (Nat.not_lt_zero i)⟩⟩
theorem qc_forget {c : mx_M} {a : mSt} (h : cI c a) : mx_Spec 0 1 m_De_forget [.ref 0] c (fun r c' => r = some (.int (aForget a).1) ∧ cI c' (aForget a).2) := by
  refine mx_Spec_E rfl rfl rfl ?_
  refine mR 9 rfl trivial ?_
  rw [h.1.2.2.2.1.1]
  refine mx_E_iret rfl rfl ⟨rfl, cI_s h (mfr_up (mfr_rf _ _) (by decide)) ⟨mx_up_same _ _ _ _, Nat.zero_le _, fun i hi => absurd hi (Nat.not_lt_zero i)⟩⟩
theorem sp_Te_append (c : mx_M) {l : Nat} {x : Int32} (hl : l < 120) (h : c 1 2 = nI l) : mx_Spec 0 1 m_Te_append [.ref 1, .int x] c (fun r c' => r = none ∧ c' = mx_up (mx_up c 2 l x) 1 2 (nI (l + 1))) := by
  refine mx_Spec_E rfl rfl rfl ?_
  refine mR 3 rfl trivial ?_
  rw [h, show (120 : Int32) = nI 120 from rfl]
  refine mbGe _ _ rfl (by omega) (by decide) (fun h => by omega) (fun _ => ?_)
  refine mR 6 rfl (mA1 (by rw [h]; exact mI (by omega))) ?_
  rw [h, nI_cl (by omega)]
  refine mR 6 rfl trivial ?_
  rw [mx_up_id _ _ _ _ _ _ (by decide), h, nI_1]
  exact mx_E_vret rfl rfl ⟨rfl, rfl⟩
theorem qc_type {c : mx_M} {a : mSt} (x : Int32) (h : cI c a) : mx_Spec 0 2 m_De_type [.ref 0, .int x] c (fun r c' => r = some (.int (aType a x).1) ∧ cI c' (aType a x).2) := by
  obtain ⟨x1, x2, x3⟩ := h.1.2.2.1
  have bad : mi x 256 = false → mx_E 0 2 m_De_type (fun r c' => r = some (.int (aType a x).1) ∧ cI c' (aType a x).2) 5 [.ref 0, .int x] [] c := by
    intro hm
    refine mR 1 rfl trivial ?_
    refine mx_E_iret rfl rfl ?_
    unfold aType
    rw [hm, if_neg (by decide)]
    exact ⟨rfl, h⟩
  refine mx_Spec_E rfl rfl rfl ?_
  refine mR 1 rfl trivial ?_
  refine mx_E_br rfl rfl (fun h1 => ?_) (fun h1 => ?_)
  · exact bad (by unfold mi; rw [decide_eq_false (fa_of_lt h1).2.1]; rfl)
  · refine mR 2 rfl trivial ?_
    refine mx_E_br rfl rfl (fun h2 => ?_) (fun h2 => ?_)
    · have hm : mi x 256 = true := by
        unfold mi
        rw [decide_eq_true (fa_of_nlt h1), decide_eq_true (show x < nI 256 from Int32.lt_of_le_of_lt h2 (by decide))]
        rfl
      refine mR 4 rfl trivial ?_
      rw [x1, show (120 : Int32) = nI 120 from rfl]
      refine mbLt _ _ rfl (by omega) (by decide) (fun h3 => ?_) (fun h3 => ?_)
      · refine mR 3 rfl trivial ?_
        refine mx_E_callV (sp_Te_append _ (x := x) h3 x1) rfl rfl rfl (fun r c1 hr => ?_)
        obtain ⟨rfl, hc1⟩ := hr
        refine mR 3 rfl trivial ?_
        rw [hc1, mx_up_same]
        refine mx_E_iret rfl rfl ?_
        unfold aType
        rw [if_pos hm, if_neg (by omega)]
        refine ⟨rfl, cI_x h (mfr_up (mfr_up (mfr_rf _ _) (by decide)) (by decide)) ⟨mx_up_same _ _ _ _, by show a.2.2.1.1 + 1 ≤ 120; omega, fun i hi => ?_⟩⟩
        have hi2 : i < a.2.2.1.1 + 1 := hi
        rw [mx_up_id _ _ _ _ _ _ (by decide)]
        show _ = upd a.2.2.1.2 a.2.2.1.1 x i
        by_cases e : i = a.2.2.1.1
        · rw [e, mx_up_same, upd_same]
        · rw [mx_up_ix _ _ _ _ _ _ e, upd_ne _ _ _ _ e]
          exact x3 i (by omega)
      · refine mR 1 rfl trivial ?_
        refine mx_E_iret rfl rfl ?_
        unfold aType
        rw [if_pos hm, if_pos (by omega)]
        exact ⟨rfl, h⟩
    · refine bad ?_
      unfold mi
      have e : ¬ x < nI 256 := fun z => by
        rw [fa_lt, nI_toInt (by decide)] at z
        rw [fa_le, show ((255 : Int32)).toInt = 255 by decide] at h2
        omega
      rw [show decide (x < nI 256) = false from decide_eq_false e, Bool.and_false]
theorem qc_ranking {c : mx_M} {a : mSt} (x y : Int32) (h : cI c a) : mx_Spec 0 3 m_De_ranking [.ref 0, .int x, .int y] c (fun r c' => r = some (.int (aRanking a x y).1) ∧ cI c' (aRanking a x y).2) := by
  obtain ⟨hn, hm⟩ := cI_nm h
  have h6 := hn.2
  refine mx_Spec_E rfl rfl rfl ?_
  refine mR 2 rfl trivial ?_
  refine mx_E_callV (sp_De_isMember _ x _ (cI_3 h)) rfl rfl rfl (fun r c1 hr => ?_)
  obtain ⟨rfl, hz⟩ := hr
  rw [hz]
  unfold aRanking
  refine mbT rfl (fun hb => ?_) (fun hb => ?_)
  · rw [hb]
    refine mR 1 rfl trivial ?_
    exact mx_E_iret rfl rfl ⟨rfl, h⟩
  · refine mR 2 rfl trivial ?_
    refine mx_E_callV (sp_De_isMotion _ y _ (cI_2 h)) rfl rfl rfl (fun r c1 hr => ?_)
    obtain ⟨rfl, hz⟩ := hr
    rw [hz]
    refine mbF rfl (fun hb2 => ?_) (fun hb2 => ?_)
    · rw [hb, hb2]
      obtain ⟨i, hi, rfl⟩ := mi_of (by omega) hb
      obtain ⟨j, hj, rfl⟩ := mi_of (by omega) hb2
      have e1 : nI i * 6 + nI j = nI (6 * i + j) := by rw [show (6 : Int32) = nI 6 from rfl, pk_mul, nI_add, Nat.mul_comm]
      rw [nI_cl (a := i) (by omega), nI_cl (a := j) (by omega)]
      refine mR 9 rfl (mA1 (by rw [e1]; exact mI (by omega))) ?_
      rw [e1, nI_cl (a := 6 * i + j) (by omega), h.1.2.1.2.2.2.2.1 i j hi hj]
      exact mx_E_iret rfl rfl ⟨rfl, h⟩
    · rw [hb2, Bool.and_false]
      refine mR 1 rfl trivial ?_
      exact mx_E_iret rfl rfl ⟨rfl, h⟩
theorem pop_self {q : Nat → Bool} {m : Nat} (hm : m ≤ 9) : mpop (bS q m) = fb_ct (fun i => (2 ^ m - 1).testBit i && q i) m := by
  rw [← pop_bS hm]
  congr 1
  apply Nat.eq_of_testBit_eq
  intro j
  rw [Nat.testBit_and, Nat.testBit_two_pow_sub_one, bS_tb]
  cases decide (j < m) <;> simp
theorem qc_votes {c : mx_M} {a : mSt} (x y : Int32) (h : cI c a) : mx_Spec 0 3 m_De_votes [.ref 0, .int x, .int y] c (fun r c' => r = some (.int (aVotes a x y).1) ∧ cI c' (aVotes a x y).2) := by
  obtain ⟨hn, hm⟩ := cI_nm h
  have h6 := hn.2
  refine mx_Spec_E rfl rfl rfl ?_
  refine mR 2 rfl trivial ?_
  refine mx_E_callV (sp_De_isMotion _ x _ (cI_2 h)) rfl rfl rfl (fun r c1 hr => ?_)
  obtain ⟨rfl, hz⟩ := hr
  rw [hz]
  unfold aVotes
  refine mbT rfl (fun hb => ?_) (fun hb => ?_)
  · rw [hb]
    refine mR 1 rfl trivial ?_
    exact mx_E_iret rfl rfl ⟨rfl, h⟩
  · refine mR 2 rfl trivial ?_
    refine mx_E_callV (sp_De_isMotion _ y _ (cI_2 h)) rfl rfl rfl (fun r c1 hr => ?_)
    obtain ⟨rfl, hz⟩ := hr
    rw [hz]
    refine mbT rfl (fun hb2 => ?_) (fun hb2 => ?_)
    · rw [hb2, Bool.and_false]
      refine mR 1 rfl trivial ?_
      exact mx_E_iret rfl rfl ⟨rfl, h⟩
    · refine mR 2 rfl trivial ?_
      refine mx_E_br rfl rfl (fun hc => ?_) (fun hc => ?_)
      · rw [hb, hb2, decide_eq_false hc]
        obtain ⟨i, hi, rfl⟩ := mi_of (by omega) hb
        obtain ⟨j, hj, rfl⟩ := mi_of (by omega) hb2
        have hij : i ≠ j := fun e => hc (by rw [e])
        have e1 : nI i * 6 + nI j = nI (6 * i + j) := by rw [show (6 : Int32) = nI 6 from rfl, pk_mul, nI_add, Nat.mul_comm]
        refine mR 9 rfl (mA1 (by rw [e1]; exact mI (by omega))) ?_
        rw [e1, nI_cl (a := 6 * i + j) (by omega), (cI_b h).2 i j hi hj hij]
        refine mx_E_callS (sp_In_bitCount _ _ (bS_512 _ hm)) rfl rfl rfl (fun r c1 hr => ?_)
        obtain ⟨rfl, hz⟩ := hr
        rw [hz]
        refine mx_E_iret rfl rfl ⟨?_, h⟩
        rw [nI_cl (by omega), nI_cl (by omega), pop_self hm]
        rfl
      · rw [decide_eq_true (Decidable.not_not.mp hc), Bool.not_true, Bool.and_false]
        refine mR 1 rfl trivial ?_
        exact mx_E_iret rfl rfl ⟨rfl, h⟩
theorem dc_count : decode (mx_code m_De_count) (mx_pc m_De_count 1) = .ok (.tableswitch 72 0 4 #[35, 43, 51, 56, 64], 35) := by decide +kernel
theorem qc_count {c : mx_M} {a : mSt} (x : Int32) (h : cI c a) : mx_Spec 0 2 m_De_count [.ref 0, .int x] c (fun r c' => r = some (.int (aCount a x).1) ∧ cI c' (aCount a x).2) := by
  obtain ⟨hn, hm⟩ := cI_nm h
  refine mx_Spec_E rfl rfl rfl ?_
  refine mR 1 rfl trivial ?_
  cases hx : mi x 5 with
  | true =>
    obtain ⟨j, hj, rfl⟩ := mi_of (by decide) hx
    rcases (show j = 0 ∨ j = 1 ∨ j = 2 ∨ j = 3 ∨ j = 4 by omega) with rfl | rfl | rfl | rfl | rfl
    · refine mx_E_tin (t := 2) (off := 35) dc_count (by decide) (by decide) (by decide +kernel) (by decide +kernel) ?_
      refine mR 3 rfl trivial ?_
      rw [cI_2 h]
      exact mx_E_iret rfl rfl ⟨rfl, h⟩
    · refine mx_E_tin (t := 6) (off := 43) dc_count (by decide) (by decide) (by decide +kernel) (by decide +kernel) ?_
      refine mR 3 rfl trivial ?_
      rw [cI_3 h]
      exact mx_E_iret rfl rfl ⟨rfl, h⟩
    · refine mx_E_tin (t := 10) (off := 51) dc_count (by decide) (by decide) (by decide +kernel) (by decide +kernel) ?_
      refine mR 1 rfl trivial ?_
      refine mx_E_callV (sp_De_orders _ hn.2 (cI_2 h)) rfl rfl rfl (fun r c1 hr => ?_)
      obtain ⟨rfl, hz⟩ := hr
      rw [hz]
      exact mx_E_iret rfl rfl ⟨rfl, h⟩
    · refine mx_E_tin (t := 13) (off := 56) dc_count (by decide) (by decide) (by decide +kernel) (by decide +kernel) ?_
      refine mR 3 rfl trivial ?_
      rw [h.1.2.2.2.1.1]
      exact mx_E_iret rfl rfl ⟨rfl, h⟩
    · refine mx_E_tin (t := 17) (off := 64) dc_count (by decide) (by decide) (by decide +kernel) (by decide +kernel) ?_
      refine mR 3 rfl trivial ?_
      rw [h.1.2.2.1.1]
      exact mx_E_iret rfl rfl ⟨rfl, h⟩
  | false =>
    refine mx_E_tout (t := 21) dc_count (by have := mi_out (by decide) hx; omega) (by decide +kernel) ?_
    refine mR 1 rfl trivial ?_
    refine mx_E_iret rfl rfl ⟨?_, h⟩
    unfold aCount
    rw [if_neg (show ¬ x = 0 from mi_ne (j := 0) (by decide) (by decide) hx), if_neg (show ¬ x = 1 from mi_ne (j := 1) (by decide) (by decide) hx), if_neg (show ¬ x = 2 from mi_ne (j := 2) (by decide) (by decide) hx), if_neg (show ¬ x = 3 from mi_ne (j := 3) (by decide) (by decide) hx), if_neg (show ¬ x = 4 from mi_ne (j := 4) (by decide) (by decide) hx)]
theorem qc_order {c : mx_M} {a : mSt} (x y : Int32) (h : cI c a) : mx_Spec 0 3 m_De_order [.ref 0, .int x, .int y] c (fun r c' => r = some (.int (aOrder a x y).1) ∧ cI c' (aOrder a x y).2) := by
  obtain ⟨hn, hm⟩ := cI_nm h
  have h6 := hn.2
  have hfl := mfact_le a.1.1 (by omega)
  refine mx_Spec_E rfl rfl rfl ?_
  refine mR 2 rfl trivial ?_
  refine mx_E_callV (sp_De_isOrder _ x h6 (cI_2 h)) rfl rfl rfl (fun r c1 hr => ?_)
  obtain ⟨rfl, hz⟩ := hr
  rw [hz]
  unfold aOrder
  refine mbT rfl (fun hb => ?_) (fun hb => ?_)
  · rw [hb]
    refine mR 1 rfl trivial ?_
    exact mx_E_iret rfl rfl ⟨rfl, h⟩
  · refine mR 2 rfl trivial ?_
    refine mx_E_callV (sp_De_isMotion _ y _ (cI_2 h)) rfl rfl rfl (fun r c1 hr => ?_)
    obtain ⟨rfl, hz⟩ := hr
    rw [hz]
    refine mbF rfl (fun hb2 => ?_) (fun hb2 => ?_)
    · rw [hb, hb2]
      obtain ⟨i, hi, rfl⟩ := mi_of (by omega) hb
      obtain ⟨j, hj, rfl⟩ := mi_of (by omega) hb2
      rw [nI_cl (a := i) (by omega), nI_cl (a := j) (by omega)]
      refine mR 6 rfl trivial ?_
      rw [cI_2 h]
      refine mx_E_callS (sp_De_layOrder _ a.1.1 i hn hi) rfl rfl rfl (fun r c1 hr => ?_)
      obtain ⟨rfl, hz⟩ := hr
      refine mR 4 rfl (mA1 (mI (by omega))) ?_
      rw [nI_cl (a := j) (by omega), hz, mx_upR_row, fa_fill_in hj]
      exact mx_E_iret rfl rfl ⟨rfl, cI_fr h (fun r hr => mx_upR_rid _ _ _ _ (fun e => hr (by rw [e]; decide)))⟩
    · rw [hb2, Bool.and_false]
      refine mR 1 rfl trivial ?_
      exact mx_E_iret rfl rfl ⟨rfl, h⟩
/-- an image -/
theorem cv_i {j : Nat} (hj : j < 2) : mx_cv 0 2 1 m_Pi_copy 2 [.ref (65 + 3 * j), .ref 6] [] = true := by
  rcases (show j = 0 ∨ j = 1 by omega) with rfl | rfl <;> rfl
theorem cv_j {j : Nat} (hj : j < 2) : mx_cv 0 7 1 m_Pi_copy 2 [.ref 6, .ref (65 + 3 * j)] [] = true := by
  rcases (show j = 0 ∨ j = 1 by omega) with rfl | rfl <;> rfl
theorem im_or : ∀ b, b < 4 → ∀ i, i < 2 → b ||| 2 ^ i < 4 ∧ ∀ j, j < 2 → (b ||| 2 ^ i).testBit j = (if j = i then true else b.testBit j) := by decide
theorem qc_keep {c : mx_M} {a : mSt} (x : Int32) (h : cI c a) : mx_Spec 0 2 m_De_keep [.ref 0, .int x] c (fun r c' => r = some (.int (aKeep a x).1) ∧ cI c' (aKeep a x).2) := by
  obtain ⟨hn, hm⟩ := cI_nm h
  refine mx_Spec_E rfl rfl rfl ?_
  refine mR 2 rfl trivial ?_
  refine mx_E_callS (sp_De_within _ x 2) rfl rfl rfl (fun r c1 hr => ?_)
  obtain ⟨rfl, hz⟩ := hr
  rw [hz]
  unfold aKeep
  refine mbF rfl (fun hb => ?_) (fun hb => ?_)
  · rw [hb]
    obtain ⟨i, hi, rfl⟩ := mi_of (by decide) hb
    rw [nI_cl (a := i) (by omega)]
    obtain ⟨⟨g0, g1, g2, g3, g4, ⟨g5, b, b1, b2, b3⟩⟩, g6⟩ := id h
    refine mR 4 rfl (mA1 (mI hi)) ?_
    rw [nI_cl (a := i) (by omega), g5 i hi, nI_cl (a := 65 + 3 * i) (by omega)]
    refine mR 2 rfl trivial ?_
    refine mx_E_callV (sp_Pi_copy_i _ i hi) rfl rfl (cv_i hi) (fun r c1 hr => ?_)
    obtain ⟨rfl, hc⟩ := hr
    have far : ∀ r, r < 65 + 3 * i ∨ 65 + 3 * i + 2 < r → c1 r = c r := fun r hr => hc.1 r (by simp; omega)
    refine mR 11 rfl trivial ?_
    rw [far 0 (by omega), b1, nI_shl1 (by omega), fa_or, mx_up_rid _ _ _ _ 9 (by decide), far 9 (by omega), h.2.1.1]
    refine mx_E_iret rfl rfl ⟨rfl, ?_⟩
    have up : ∀ r, 1 ≤ r → mx_up c1 0 9 (nI (b ||| 2 ^ i)) r = c1 r := fun r h => mx_up_rid _ _ _ _ _ (by omega)
    have z : ∀ r, 1 ≤ r → r < 65 → mx_up c1 0 9 (nI (b ||| 2 ^ i)) r = c r := fun r h1 h2 => by rw [up r h1]; exact far r (by omega)
    obtain ⟨o1, o2⟩ := im_or b b2 i hi
    refine ⟨⟨g0, cP_fr g1 (z 6 (by omega) (by omega)) (z 7 (by omega) (by omega)) (z 8 (by omega) (by omega)), cX_fr g2 (by rw [z 1 (by omega) (by omega)]) (z 2 (by omega) (by omega)), cS_fr g3 (z 27 (by omega) (by omega)) (z 28 (by omega) (by omega)) (z 29 (by omega) (by omega)) (z 30 (by omega) (by omega)), cU_fr g4 (by rw [mx_up_ix _ _ _ _ _ _ (by decide), far 0 (by omega)]) (z 25 (by omega) (by omega)) (fun r h1 h2 => z r (by omega) (by omega)), ⟨fun j hj => by rw [z 26 (by omega) (by omega)]; exact g5 j hj, b ||| 2 ^ i, mx_up_same _ _ _ _, o1, fun j hj => ?_⟩⟩, cB_fr g6 (z 9 (by omega) (by omega)) (z 10 (by omega) (by omega)) (z 11 (by omega) (by omega)) (z 12 (by omega) (by omega)) (z 14 (by omega) (by omega)) (z 15 (by omega) (by omega))⟩
    rw [o2 j hj]
    show (if j = i then true else b.testBit j) = (if j = i then some a.2.1 else a.2.2.2.2.2 j).isSome ∧ ∀ p, (if j = i then some a.2.1 else a.2.2.2.2.2 j) = some p → _
    by_cases e : j = i
    · rw [if_pos e, if_pos e]
      refine ⟨rfl, fun p hp => ?_⟩
      cases hp
      rw [e]
      exact cP_fr (cP_cp hn.2 hm (S := 6) g1 hc) (up _ (by omega)) (up _ (by omega)) (up _ (by omega))
    · rw [if_neg e, if_neg e]
      refine ⟨(b3 j hj).1, fun p hp => ?_⟩
      refine cP_fr ((b3 j hj).2 p hp) ?_ ?_ ?_
      · rw [up _ (by omega)]; exact far _ (by omega)
      · rw [up _ (by omega)]; exact far _ (by omega)
      · rw [up _ (by omega)]; exact far _ (by omega)
  · rw [hb]
    refine mR 1 rfl trivial ?_
    exact mx_E_iret rfl rfl ⟨rfl, h⟩
/-- another picture stands -/
theorem cJ_pic {c c' : mx_M} {a : mSt} {p : mPic} (h : cJ c a) (hf : mfr [6, 7, 8] c c') (hp : cP c' 6 7 8 a.1.1 a.1.2 p) : cJ c' (aPic a p) := by
  obtain ⟨g0, g1, g2, g3, g4, g5⟩ := h
  have z : ∀ r, r < 6 ∨ 9 ≤ r → c' r = c r := fun r hr => hf r (by simp; omega)
  exact ⟨g0, hp, cX_fr g2 (by rw [z 1 (by omega)]) (z 2 (by omega)), cS_fr g3 (z 27 (by omega)) (z 28 (by omega)) (z 29 (by omega)) (z 30 (by omega)), cU_fr g4 (by rw [z 0 (by omega)]) (z 25 (by omega)) (fun r h1 h2 => z r (by omega)), cM_fr g5 (by rw [z 0 (by omega)]) (z 26 (by omega)) (fun r h1 h2 => z r (by omega))⟩
theorem qc_back {c : mx_M} {a : mSt} (x : Int32) (h : cI c a) : mx_Spec 0 7 m_De_back [.ref 0, .int x] c (fun r c' => r = some (.int (aBack a x).1) ∧ cI c' (aBack a x).2) := by
  obtain ⟨hn, hm⟩ := cI_nm h
  refine mx_Spec_E rfl rfl rfl ?_
  refine mR 2 rfl trivial ?_
  refine mx_E_callS (sp_De_within _ x 2) rfl rfl rfl (fun r c1 hr => ?_)
  obtain ⟨rfl, hz⟩ := hr
  rw [hz]
  unfold aBack
  refine mbF rfl (fun hb => ?_) (fun hb => ?_)
  · rw [hb]
    obtain ⟨i, hi, rfl⟩ := mi_of (by decide) hb
    rw [nI_cl (a := i) (by omega)]
    obtain ⟨⟨g0, g1, g2, g3, g4, ⟨g5, b, b1, b2, b3⟩⟩, g6⟩ := id h
    refine mR 6 rfl trivial ?_
    rw [b1, nb_1 (by omega) (by omega), (b3 i hi).1]
    cases hK : a.2.2.2.2.2 i with
    | none =>
      refine mx_E_br rfl rfl (fun h => absurd rfl h) (fun _ => ?_)
      refine mR 1 rfl trivial ?_
      exact mx_E_iret rfl rfl ⟨rfl, h⟩
    | some p =>
      refine mx_E_br rfl rfl (fun _ => ?_) (fun h => absurd (show ¬ nI 1 = 0 by decide) h)
      refine mR 6 rfl (mA1 (mI hi)) ?_
      rw [nI_cl (a := i) (by omega), g5 i hi, nI_cl (a := 65 + 3 * i) (by omega)]
      refine mx_E_callV (sp_Pi_copy_j _ i hi) rfl rfl (cv_j hi) (fun r c1 hr => ?_)
      obtain ⟨rfl, hc⟩ := hr
      have hp : cP c1 6 7 8 a.1.1 a.1.2 p := cP_cp hn.2 hm (D := 6) ((b3 i hi).2 p hK) hc
      have hJ1 : cJ c1 (aPic a p) := cJ_pic h.1 hc.1 hp
      refine mR 3 rfl trivial ?_
      obtain ⟨c2, hc2⟩ : ∃ c2, c2 = mx_up c1 0 7 0 := ⟨_, rfl⟩
      rw [← hc2]
      have z : ∀ r, 1 ≤ r → c2 r = c1 r := fun r h => by rw [hc2]; exact mx_up_rid _ _ _ _ _ (by omega)
      have hJ2 : cJ c2 (a.1, p, a.2.2.1, a.2.2.2.1, (0, a.2.2.2.2.1.2), a.2.2.2.2.2) := by
        obtain ⟨q0, q1, q2, q3, ⟨u1, u2, σ, u3, u4, u5⟩, q5⟩ := hJ1
        exact ⟨q0, cP_fr q1 (z 6 (by omega)) (z 7 (by omega)) (z 8 (by omega)), cX_fr q2 (by rw [z 1 (by omega)]) (z 2 (by omega)), cS_fr q3 (z 27 (by omega)) (z 28 (by omega)) (z 29 (by omega)) (z 30 (by omega)), ⟨by rw [hc2, mx_up_same]; rfl, Nat.zero_le _, σ, fun i hi => by rw [z 25 (by omega)]; exact u3 i hi, u4, fun i hi => absurd hi (Nat.not_lt_zero i)⟩, cM_fr q5 (by rw [hc2, mx_up_ix _ _ _ _ _ _ (by decide)]) (z 26 (by omega)) (fun r h1 h2 => z r (by omega))⟩
      refine mR 1 rfl trivial ?_
      refine mx_E_callV (sp_De_settle _ hn hm hJ2.2.1) rfl rfl rfl (fun r c3 hr => ?_)
      obtain ⟨rfl, f3, hB⟩ := hr
      have hI3 := cI_set hJ2 f3 hB
      refine mR 3 rfl trivial ?_
      rw [hI3.2.1.1]
      exact mx_E_iret rfl rfl ⟨rfl, hI3⟩
  · rw [hb]
    refine mR 1 rfl trivial ?_
    exact mx_E_iret rfl rfl ⟨rfl, h⟩
theorem cv_b {j : Nat} (hj : j < 10) : mx_cv 0 7 1 m_Pi_copy 2 [.ref 6, .ref (35 + 3 * j)] [] = true := by
  rcases j10 hj with rfl | rfl | rfl | rfl | rfl | rfl | rfl | rfl | rfl | rfl <;> rfl
theorem qc_undo {c : mx_M} {a : mSt} (h : cI c a) : mx_Spec 0 7 m_De_undo [.ref 0] c (fun r c' => r = some (.int (aUndo a).1) ∧ cI c' (aUndo a).2) := by
  obtain ⟨hn, hm⟩ := cI_nm h
  obtain ⟨⟨g0, g1, g2, g3, ⟨u1, u2, σ, u3, u4, u5⟩, g5⟩, g6⟩ := id h
  refine mx_Spec_E rfl rfl rfl ?_
  refine mR 2 rfl trivial ?_
  rw [u1]
  unfold aUndo
  by_cases e : a.2.2.2.2.1.1 = 0
  · rw [e, if_pos rfl]
    refine mx_E_br rfl rfl (fun h => absurd h (by decide)) (fun _ => ?_)
    refine mR 1 rfl trivial ?_
    exact mx_E_iret rfl rfl ⟨rfl, h⟩
  · rw [if_neg e]
    refine mx_E_br rfl rfl (fun _ => ?_) (fun h => absurd (nI_lt (a := 0) (by omega) (by omega)) h)
    refine mR 6 rfl trivial ?_
    rw [u1, show (1 : Int32) = nI 1 from rfl, pk_sub (by omega)]
    obtain ⟨w, hw⟩ : ∃ w, w = a.2.2.2.2.1.1 - 1 := ⟨_, rfl⟩
    rw [← hw]
    have hw10 : w < 10 := by omega
    obtain ⟨s1, s2⟩ := u3 w hw10
    refine mR 7 rfl (mA1 (by rw [mx_up_same]; exact mI (by omega))) ?_
    rw [mx_up_same, nI_cl (a := w) (by omega), mx_up_id _ _ _ _ _ _ (by decide), s2, nI_cl (a := 35 + 3 * σ w) (by omega)]
    obtain ⟨c1, hc1⟩ : ∃ c1, c1 = mx_up c 0 7 (nI w) := ⟨_, rfl⟩
    rw [← hc1]
    have z : ∀ r, 1 ≤ r → c1 r = c r := fun r h => by rw [hc1]; exact mx_up_rid _ _ _ _ _ (by omega)
    have hJ1 : cJ c1 (a.1, a.2.1, a.2.2.1, a.2.2.2.1, (w, a.2.2.2.2.1.2), a.2.2.2.2.2) := ⟨g0, cP_fr g1 (z 6 (by omega)) (z 7 (by omega)) (z 8 (by omega)), cX_fr g2 (by rw [z 1 (by omega)]) (z 2 (by omega)), cS_fr g3 (z 27 (by omega)) (z 28 (by omega)) (z 29 (by omega)) (z 30 (by omega)), ⟨by rw [hc1, mx_up_same], by show w ≤ 10; omega, σ, fun i hi => by rw [z 25 (by omega)]; exact u3 i hi, u4, fun i hi => by
      have hi2 : i < w := hi
      exact cP_fr (u5 i (by omega)) (z _ (by omega)) (z _ (by omega)) (z _ (by omega))⟩, cM_fr g5 (by rw [hc1, mx_up_ix _ _ _ _ _ _ (by decide)]) (z 26 (by omega)) (fun r h1 h2 => z r (by omega))⟩
    refine mx_E_callV (sp_Pi_copy_b _ (σ w) s1) rfl rfl (cv_b s1) (fun r c2 hr => ?_)
    obtain ⟨rfl, hc⟩ := hr
    have hp : cP c2 6 7 8 a.1.1 a.1.2 (a.2.2.2.2.1.2 w) := cP_cp hn.2 hm (D := 6) (cP_fr (u5 w (by omega)) (z _ (by omega)) (z _ (by omega)) (z _ (by omega))) hc
    have hJ2 := cJ_pic hJ1 hc.1 hp
    refine mR 1 rfl trivial ?_
    refine mx_E_callV (sp_De_settle _ hn hm hp) rfl rfl rfl (fun r c3 hr => ?_)
    obtain ⟨rfl, f3, hB⟩ := hr
    have hI3 := cI_set hJ2 f3 hB
    refine mR 2 rfl trivial ?_
    rw [hI3.1.2.2.2.2.1.1]
    exact mx_E_iret rfl rfl ⟨rfl, hI3⟩
