theorem sp_Ba_cast13_7 (c : mx_M) {n nd at0 w : Nat} {K : Nat → Option Nat} {Z : Nat → Nat} {f : Nat → Nat} {S : Nat → Nat} {S2 : Nat → Nat → Nat} (hT : cT c n K Z nd) (hn : n ≤ 6) (hw : w < 9) (hat : at0 + n ≤ 54) (hpm : mperm n f) (hf : ∀ p, p < n → c 7 (at0 + p) = nI (f p)) (hS : ∀ k, k < nd → c 14 k = nI (S k) ∧ S k < 512) (hS2 : ∀ x y, x < n → y < n → x ≠ y → c 15 (6 * x + y) = nI (S2 x y) ∧ S2 x y < 512) : mx_Spec 0 4 m_Ba_cast [.ref 13, .ref 9, .ref 7, .int (nI at0), .int (nI n), .int (nI (2 ^ w))] c (fun r c' => r = none ∧ mfr [14, 15] c c' ∧ (∀ k, k < nd → c' 14 k = nI (bW (S k) w (gG K Z nd n f k))) ∧ ∀ x y, x < n → y < n → x ≠ y → c' 15 (6 * x + y) = nI (bW (S2 x y) w (gV n f x y))) := by
  refine mx_Spec_E rfl rfl rfl ?_
  refine mR 6 rfl trivial ?_
  refine mx_E_callV (sp_Ba_castSincere13_7 _ hT hn hw hat (fun p hp => ⟨hpm.1 p hp, hf p hp⟩) hS) rfl rfl rfl (fun r c1 hr => ?_)
  obtain ⟨rfl, h1, h2⟩ := hr
  refine mR 5 rfl trivial ?_
  refine mx_E_callV (sp_Ba_castAbove13_7 _ (S := S2) hn hw hat hpm (fun p hp => by rw [h1 7 (by decide)]; exact hf p hp) (fun x y hx hy hxy => by rw [h1 15 (by decide)]; exact hS2 x y hx hy hxy)) rfl rfl rfl (fun r c2 hr => ?_)
  obtain ⟨rfl, h3, h4⟩ := hr
  refine mx_E_vret rfl rfl ⟨rfl, mfr_tr (mfr_mo h1 (by decide)) (mfr_mo h3 (by decide)), fun k hk => ?_, h4⟩
  rw [h3 14 (by decide)]
  exact h2 k hk
theorem sp_Ba_cast21_31 (c : mx_M) {n nd at0 w : Nat} {K : Nat → Option Nat} {Z : Nat → Nat} {f : Nat → Nat} {S : Nat → Nat} {S2 : Nat → Nat → Nat} (hT : cT c n K Z nd) (hn : n ≤ 6) (hw : w < 9) (hat : at0 + n ≤ 6) (hpm : mperm n f) (hf : ∀ p, p < n → c 31 (at0 + p) = nI (f p)) (hS : ∀ k, k < nd → c 22 k = nI (S k) ∧ S k < 512) (hS2 : ∀ x y, x < n → y < n → x ≠ y → c 23 (6 * x + y) = nI (S2 x y) ∧ S2 x y < 512) : mx_Spec 0 4 m_Ba_cast [.ref 21, .ref 9, .ref 31, .int (nI at0), .int (nI n), .int (nI (2 ^ w))] c (fun r c' => r = none ∧ mfr [22, 23] c c' ∧ (∀ k, k < nd → c' 22 k = nI (bW (S k) w (gG K Z nd n f k))) ∧ ∀ x y, x < n → y < n → x ≠ y → c' 23 (6 * x + y) = nI (bW (S2 x y) w (gV n f x y))) := by
  refine mx_Spec_E rfl rfl rfl ?_
  refine mR 6 rfl trivial ?_
  refine mx_E_callV (sp_Ba_castSincere21_31 _ hT hn hw hat (fun p hp => ⟨hpm.1 p hp, hf p hp⟩) hS) rfl rfl rfl (fun r c1 hr => ?_)
  obtain ⟨rfl, h1, h2⟩ := hr
  refine mR 5 rfl trivial ?_
  refine mx_E_callV (sp_Ba_castAbove21_31 _ (S := S2) hn hw hat hpm (fun p hp => by rw [h1 31 (by decide)]; exact hf p hp) (fun x y hx hy hxy => by rw [h1 23 (by decide)]; exact hS2 x y hx hy hxy)) rfl rfl rfl (fun r c2 hr => ?_)
  obtain ⟨rfl, h3, h4⟩ := hr
  refine mx_E_vret rfl rfl ⟨rfl, mfr_tr (mfr_mo h1 (by decide)) (mfr_mo h3 (by decide)), fun k hk => ?_, h4⟩
  rw [h3 22 (by decide)]
  exact h2 k hk
theorem lp_Ba_castAll {Q : Option Value → mx_M → Prop} {c : mx_M} {n m nd : Nat} {K : Nat → Option Nat} {Z : Nat → Nat} {R : Nat → Nat → Nat} (hT : cT c n K Z nd) (hn : n ≤ 6) (hm : m ≤ 9) (h3 : c 6 3 = nI m) (h2 : c 6 2 = nI n) (hpm : ∀ j, j < m → mperm n (R j)) (hR : rRk (c 7) n m R) (hq : ∀ c', mfr [14, 15] c c' → bQ c' 14 15 m n K Z nd R → Q none c') :
    ∀ (u j : Nat) (c1 : mx_M), j + u = m → mfr [14, 15] c c1 → bQ c1 14 15 j n K Z nd R → mx_E 0 5 m_Ba_castAll Q 10 [.ref 13, .ref 9, .ref 6, .int (nI j)] [] c1
  | 0, j, c1, h, hf, hb => by
    have e : j = m := by omega
    rw [e] at hb
    rw [e]
    refine mR 3 rfl trivial ?_
    rw [hf 6 (by decide), h3]
    refine mbGe _ _ rfl (by omega) (by omega) (fun _ => ?_) (fun h => by omega)
    exact mx_E_vret rfl rfl (hq c1 hf hb)
  | u + 1, j, c1, h, hf, hb => by
    have hj : j < m := by omega
    have hT1 := cT_fr hT hf (by decide) (by decide) (by decide) (by decide)
    refine mR 3 rfl trivial ?_
    rw [hf 6 (by decide), h3]
    refine mbGe _ _ rfl (by omega) (by omega) (fun h => by omega) (fun _ => ?_)
    refine mR 12 rfl trivial ?_
    rw [hf 6 (by decide), h2, show nI j * 6 = nI (6 * j) by rw [show (6 : Int32) = nI 6 from rfl, pk_mul, Nat.mul_comm], nI_shl1 (by omega)]
    refine mx_E_callV (sp_Ba_cast13_7 (w := j) _ hT1 hn (by omega) (by omega) (hpm j hj) (fun p hp => by rw [hf 7 (by decide)]; exact hR j p hj hp) (fun k hk => ⟨hb.1 k hk, bS_512 _ (by omega)⟩) (fun x y hx hy hxy => ⟨hb.2 x y hx hy hxy, bS_512 _ (by omega)⟩)) rfl rfl rfl (fun r c2 hr => ?_)
    obtain ⟨rfl, g1, g2, g3⟩ := hr
    refine mR 2 rfl trivial ?_
    rw [nI_1]
    refine lp_Ba_castAll hT hn hm h3 h2 hpm hR hq u (j + 1) c2 (by omega) (mfr_tr hf g1) ⟨fun k hk => ?_, fun x y hx hy hxy => ?_⟩
    · rw [g2 k hk]
      exact congrArg nI (bW_new (q := fun i => gG K Z nd n (R i) k) (by omega))
    · rw [g3 x y hx hy hxy]
      exact congrArg nI (bW_new (q := fun i => gV n (R i) x y) (by omega))
theorem sp_Ba_castAll (c : mx_M) {n m nd : Nat} {K : Nat → Option Nat} {Z : Nat → Nat} {R : Nat → Nat → Nat} (hT : cT c n K Z nd) (hn : n ≤ 6) (hm : m ≤ 9) (h3 : c 6 3 = nI m) (h2 : c 6 2 = nI n) (hpm : ∀ j, j < m → mperm n (R j)) (hR : rRk (c 7) n m R) : mx_Spec 0 5 m_Ba_castAll [.ref 13, .ref 9, .ref 6] c (fun r c' => r = none ∧ mfr [14, 15] c c' ∧ bQ c' 14 15 m n K Z nd R) := by
  have h63 := hT.2.1.2.1
  refine mx_Spec_E rfl rfl rfl ?_
  refine mR 3 rfl trivial ?_
  refine mx_E_callS (sp_Ar_fill14 _ 0) rfl rfl rfl (fun r c1 hr => ?_)
  obtain ⟨rfl, hc1⟩ := hr
  refine mR 3 rfl trivial ?_
  refine mx_E_callS (sp_Ar_fill15 _ 0) rfl rfl rfl (fun r c2 hr => ?_)
  obtain ⟨rfl, hc2⟩ := hr
  refine mR 2 rfl trivial ?_
  have f2 : mfr [14, 15] c c2 := fun r hr => by rw [hc2, mx_upR_rid _ _ _ _ (fun e => hr (by rw [e]; decide)), hc1, mx_upR_rid _ _ _ _ (fun e => hr (by rw [e]; decide))]
  refine lp_Ba_castAll (c := c) hT hn hm h3 h2 hpm hR (fun c' q1 q2 => ⟨rfl, q1, q2⟩) m 0 c2 (by omega) f2 ⟨fun k hk => ?_, fun x y hx hy hxy => ?_⟩
  · rw [hc2, mx_upR_rid _ _ _ 14 (by decide), hc1, mx_upR_row, fa_fill_in (by omega)]
    rfl
  · rw [hc2, mx_upR_row, fa_fill_in (by omega)]
    rfl
theorem sp_Ba_copy (c : mx_M) : mx_Spec 0 1 m_Ba_copy [.ref 17, .ref 13] c (fun r c' => r = none ∧ mfr [18, 19] c c' ∧ (∀ k, k < 63 → c' 18 k = c 14 k) ∧ ∀ k, k < 36 → c' 19 k = c 15 k) := by
  refine mx_Spec_E rfl rfl rfl ?_
  refine mR 10 rfl (mA5 (by decide) (by decide) (by decide) (by decide) (by decide)) ?_
  rw [show ((nI 63 : Int32)).toNatClampNeg = 63 by decide, show ((0 : Int32)).toNatClampNeg = 0 by decide]
  refine mR 10 rfl (mA5 (by decide) (by decide) (by decide) (by decide) (by decide)) ?_
  rw [show ((nI 36 : Int32)).toNatClampNeg = 36 by decide, show ((0 : Int32)).toNatClampNeg = 0 by decide]
  refine mx_E_vret rfl rfl ⟨rfl, fun r hr => ?_, fun k hk => ?_, fun k hk => ?_⟩
  · rw [mx_upR_rid _ _ _ _ (fun e => hr (by rw [e]; decide)), mx_upR_rid _ _ _ _ (fun e => hr (by rw [e]; decide))]
  · rw [mx_upR_rid _ _ _ 18 (by decide), mx_upR_row, cpy0 hk]
  · rw [mx_upR_row, cpy0 hk, mx_upR_rid _ _ _ 15 (by decide)]
/-- some as here, all else as there -/
theorem and_not {a s : Nat} (ha : a < 512) (hs : s < 512) : nI a &&& (nI s ^^^ -1) = nI (a &&& (511 ^^^ s)) := by
  apply Int32.toBitVec_inj.1
  show BitVec.ofNat 32 a &&& (BitVec.ofNat 32 s ^^^ BitVec.allOnes 32) = BitVec.ofNat 32 (a &&& (511 ^^^ s))
  apply BitVec.eq_of_getLsbD_eq
  intro i hi
  simp only [BitVec.getLsbD_and, BitVec.getLsbD_xor, BitVec.getLsbD_ofNat, BitVec.getLsbD_allOnes, hi, decide_true, Bool.true_and, Nat.testBit_and, Nat.testBit_xor]
  rcases Nat.lt_or_ge i 9 with h | h
  · rw [t511 i h]
    cases s.testBit i <;> rfl
  · rw [Nat.testBit_lt_two_pow (Nat.lt_of_lt_of_le ha (show 512 ≤ 2 ^ i from Nat.le_trans (by decide) (Nat.pow_le_pow_right (show 0 < 2 by decide) h)))]
    rfl
theorem mix_bS {q1 q2 : Nat → Bool} {m s : Nat} (hm : m ≤ 9) : (bS q1 m &&& (511 ^^^ s)) ||| (bS q2 m &&& s) = bS (fun i => if s.testBit i then q2 i else q1 i) m := by
  apply Nat.eq_of_testBit_eq
  intro j
  rw [Nat.testBit_or, Nat.testBit_and, Nat.testBit_and, Nat.testBit_xor, bS_tb, bS_tb, bS_tb]
  by_cases h : j < m
  · rw [decide_eq_true h, t511 j (by omega)]
    cases s.testBit j <;> simp
  · rw [decide_eq_false h]
    rfl
theorem mix_I {a b s : Nat} (ha : a < 512) (hs : s < 512) : (nI a &&& (nI s ^^^ -1)) ||| (nI b &&& nI s) = nI ((a &&& (511 ^^^ s)) ||| (b &&& s)) := by rw [and_not ha hs, fa_and, fa_or]
def mixF (c : mx_M) (x y : Nat) (s : Int32) (k : Nat) : Int32 := (c x k &&& (s ^^^ -1)) ||| (c y k &&& s)
theorem lp_Ba_mix1 {Q : Option Value → mx_M → Prop} {c : mx_M} {s : Int32} (hk : mx_E 0 1 m_Ba_mix Q 26 [.ref 17, .ref 13, .ref 21, .int s, .null] [] (mx_upR c 18 (fa_fill (mixF c 14 22 s) (c 18) 63))) :
    ∀ (u k : Nat), k + u = 63 → mx_E 0 1 m_Ba_mix Q 2 [.ref 17, .ref 13, .ref 21, .int s, .int (nI k)] [] (mx_upR c 18 (fa_fill (mixF c 14 22 s) (c 18) k))
  | 0, k, h => by
    have e : k = 63 := by omega
    subst e
    refine mR 2 rfl trivial ?_
    refine mbGe 63 63 rfl (by decide) (by decide) (fun _ => ?_) (fun h => by omega)
    exact mW hk ⟨Or.inr rfl, Or.inr rfl, Or.inr rfl, Or.inr rfl, Or.inl rfl, trivial⟩ rfl rfl
  | u + 1, k, h => by
    refine mR 2 rfl trivial ?_
    refine mbGe k 63 rfl (by omega) (by decide) (fun h => by omega) (fun _ => ?_)
    refine mR 21 rfl (mA3 (mI (by omega)) (mI (by omega)) (mI (by omega))) ?_
    rw [nI_cl (by omega), mx_upR_rid _ _ _ 14 (by decide), mx_upR_rid _ _ _ 22 (by decide), mx_up_put, nI_1]
    refine mS (lp_Ba_mix1 hk u (k + 1) (by omega)) rfl rfl ?_
    rw [← fa_fill_succ (mixF c 14 22 s)]
    rfl
theorem lp_Ba_mix2 {Q : Option Value → mx_M → Prop} {c : mx_M} {s : Int32} (hq : Q none (mx_upR c 19 (fa_fill (mixF c 15 23 s) (c 19) 36))) :
    ∀ (u k : Nat), k + u = 36 → mx_E 0 1 m_Ba_mix Q 28 [.ref 17, .ref 13, .ref 21, .int s, .int (nI k)] [] (mx_upR c 19 (fa_fill (mixF c 15 23 s) (c 19) k))
  | 0, k, h => by
    have e : k = 36 := by omega
    subst e
    refine mR 2 rfl trivial ?_
    refine mbGe 36 36 rfl (by decide) (by decide) (fun _ => ?_) (fun h => by omega)
    exact mx_E_vret rfl rfl hq
  | u + 1, k, h => by
    refine mR 2 rfl trivial ?_
    refine mbGe k 36 rfl (by omega) (by decide) (fun h => by omega) (fun _ => ?_)
    refine mR 21 rfl (mA3 (mI (by omega)) (mI (by omega)) (mI (by omega))) ?_
    rw [nI_cl (by omega), mx_upR_rid _ _ _ 15 (by decide), mx_upR_rid _ _ _ 23 (by decide), mx_up_put, nI_1]
    refine mS (lp_Ba_mix2 hq u (k + 1) (by omega)) rfl rfl ?_
    rw [← fa_fill_succ (mixF c 15 23 s)]
    rfl
/-- some vote by other rankings -/
def mMx (R R' : Nat → Nat → Nat) (s : Nat) : Nat → Nat → Nat := fun i => if s.testBit i then R' i else R i
theorem sp_Ba_mix (c : mx_M) {n m nd s : Nat} {K : Nat → Option Nat} {Z : Nat → Nat} {R R' : Nat → Nat → Nat} (hm : m ≤ 9) (hs : s < 512) (hn : n ≤ 6) (hd : nd ≤ 63) (h1 : bQ c 14 15 m n K Z nd R) (h2 : bQ c 22 23 m n K Z nd R') : mx_Spec 0 1 m_Ba_mix [.ref 17, .ref 13, .ref 21, .int (nI s)] c (fun r c' => r = none ∧ mfr [18, 19] c c' ∧ bQ c' 18 19 m n K Z nd (mMx R R' s)) := by
  refine mx_Spec_E rfl rfl rfl ?_
  refine mR 2 rfl trivial ?_
  refine mS (lp_Ba_mix1 ?_ 63 0 rfl) rfl rfl (by rw [fa_fill_0, mx_upR_self])
  refine mR 2 rfl trivial ?_
  obtain ⟨c1, hc1⟩ : ∃ c1, c1 = mx_upR c 18 (fa_fill (mixF c 14 22 (nI s)) (c 18) 63) := ⟨_, rfl⟩
  rw [← hc1]
  refine mS (lp_Ba_mix2 (c := c1) ?_ 36 0 rfl) rfl rfl (by rw [fa_fill_0, mx_upR_self])
  refine ⟨rfl, fun r hr => ?_, fun k hk => ?_, fun x y hx hy hxy => ?_⟩
  · rw [mx_upR_rid _ _ _ _ (fun e => hr (by rw [e]; decide)), hc1, mx_upR_rid _ _ _ _ (fun e => hr (by rw [e]; decide))]
  · rw [mx_upR_rid _ _ _ 18 (by decide), hc1, mx_upR_row, fa_fill_in (by omega)]
    unfold mixF
    rw [h1.1 k hk, h2.1 k hk, mix_I (bS_512 _ hm) hs, mix_bS hm]
    refine congrArg nI (bS_congr (fun i _ => ?_))
    unfold mMx
    split <;> rfl
  · rw [mx_upR_row, fa_fill_in (by omega)]
    unfold mixF
    rw [hc1, mx_upR_rid _ _ _ 15 (by decide), mx_upR_rid _ _ _ 23 (by decide), h1.2 x y hx hy hxy, h2.2 x y hx hy hxy, mix_I (bS_512 _ hm) hs, mix_bS hm]
    refine congrArg nI (bS_congr (fun i _ => ?_))
    unfold mMx
    split <;> rfl
theorem pop_vt {t m n : Nat} {R : Nat → Nat → Nat} {x y : Nat} (hm : m ≤ 9) : mpop (bS (fun i => gV n (R i) x y) m &&& t) = mvt t m n R x y := by
  rw [pop_bS hm]
  rfl
theorem pop_vf {t m n nd k : Nat} {K : Nat → Option Nat} {Z : Nat → Nat} {R : Nat → Nat → Nat} (hm : m ≤ 9) (e : K k = none) : mpop (bS (fun i => gG K Z nd n (R i) k) m &&& t) = mvf t m n R (mset K Z nd (k + 1)) (mset K Z nd (k + 1 + Z (k + 1))) := by
  rw [pop_bS hm]
  unfold mvf
  refine fb_ct_cg (fun i _ => ?_)
  unfold gG
  rw [e]
  rfl
theorem pr_lt {nd k : Nat} (h : k < nd) (hn : nd < 1000) : (nI k - 1 : Int32) < nI k := by
  rw [fa_lt, nI_toInt (show k < 2 ^ 31 by omega), show (nI k - 1 : Int32).toInt = (k : Int) - 1 from pk_sub_toInt (a := k) (b := 1) (by omega) (by omega)]
  omega
theorem sp_Ba_beats13 (c : mx_M) {n m nd x y t : Nat} {K : Nat → Option Nat} {Z : Nat → Nat} {R : Nat → Nat → Nat} (hn : n ≤ 6) (hm : m ≤ 9) (hb : bQ c 14 15 m n K Z nd R) (hR : ∀ i, i < m → mperm n (R i)) (hx : x < n) (hy : y < n) (hxy : x ≠ y) (ht : t < 2 ^ m) : mx_Spec 0 2 m_Ba_beats [.ref 13, .int (nI x), .int (nI y), .int (nI t)] c (fun r c' => r = some (.int (mz (mbeat t m n R x y))) ∧ c' = c) := by
  have h5 := pw_le hm
  have hsum := mvt_sum hm ht hR hx hy hxy
  have hpt := mpop_le t
  refine mx_Spec_E rfl rfl rfl ?_
  have e1 : nI x * 6 + nI y = nI (6 * x + y) := by rw [show (6 : Int32) = nI 6 from rfl, pk_mul, nI_add, Nat.mul_comm]
  refine mR 10 rfl (mA1 (by rw [e1]; exact mI (by omega))) ?_
  rw [e1, nI_cl (by omega), hb.2 x y hx hy hxy, fa_and]
  refine mx_E_callS (sp_In_bitCount _ _ (and512 (bS_512 _ hm))) rfl rfl rfl (fun r c1 hr => ?_)
  obtain ⟨rfl, hz⟩ := hr
  rw [hz, pop_vt hm]
  refine mR 2 rfl trivial ?_
  refine mx_E_callS (sp_In_bitCount _ t (by omega)) rfl rfl rfl (fun r c1 hr => ?_)
  obtain ⟨rfl, hz⟩ := hr
  rw [hz]
  refine mR 5 rfl trivial ?_
  rw [pk_sub (by omega), show mpop t - mvt t m n R x y = mvt t m n R y x by omega]
  refine mbGt _ _ rfl (by omega) (by omega) (fun h1 => ?_) (fun h1 => ?_)
  · refine mR 2 rfl trivial ?_
    refine mx_E_zret rfl rfl (Or.inr rfl) ⟨?_, rfl⟩
    rw [show mbeat t m n R x y = true from decide_eq_true (Or.inl h1)]
    rfl
  · refine mR 2 rfl trivial ?_
    refine mbNe _ _ rfl (by omega) (by omega) (fun h2 => ?_) (fun h2 => ?_)
    · refine mR 1 rfl trivial ?_
      refine mx_E_zret rfl rfl (Or.inl rfl) ⟨?_, rfl⟩
      rw [show mbeat t m n R x y = false from decide_eq_false (by omega)]
      rfl
    · refine mR 2 rfl trivial ?_
      refine mbGe _ _ rfl (by omega) (by omega) (fun h3 => ?_) (fun h3 => ?_)
      · refine mR 1 rfl trivial ?_
        refine mx_E_zret rfl rfl (Or.inl rfl) ⟨?_, rfl⟩
        rw [show mbeat t m n R x y = false from decide_eq_false (by omega)]
        rfl
      · refine mR 2 rfl trivial ?_
        refine mx_E_zret rfl rfl (Or.inr rfl) ⟨?_, rfl⟩
        rw [show mbeat t m n R x y = true from decide_eq_true (Or.inr ⟨h2, h3⟩)]
        rfl
theorem sp_Ba_stronger13 (c : mx_M) {n m nd x y t : Nat} {K : Nat → Option Nat} {Z : Nat → Nat} {R : Nat → Nat → Nat} (hn : n ≤ 6) (hm : m ≤ 9) (hb : bQ c 14 15 m n K Z nd R) (hR : ∀ i, i < m → mperm n (R i)) (hx : x < n) (hy : y < n) (ht : t < 2 ^ m) : mx_Spec 0 3 m_Ba_stronger [.ref 13, .int (nI x), .int (nI y), .int (nI t)] c (fun r c' => r = some (.int (nI (if x = y ∨ mbeat t m n R x y = true then x else y))) ∧ c' = c) := by
  refine mx_Spec_E rfl rfl rfl ?_
  refine mR 2 rfl trivial ?_
  refine mbEq _ _ rfl (by omega) (by omega) (fun h => ?_) (fun h => ?_)
  · rw [if_pos (Or.inl h)]
    refine mR 2 rfl trivial ?_
    exact mx_E_iret rfl rfl ⟨rfl, rfl⟩
  · refine mR 4 rfl trivial ?_
    refine mx_E_callV (sp_Ba_beats13 _ hn hm hb hR hx hy h ht) rfl rfl rfl (fun r c1 hr => ?_)
    obtain ⟨rfl, hz⟩ := hr
    rw [hz]
    refine mbT rfl (fun h2 => ?_) (fun h2 => ?_)
    · rw [if_neg (fun z => z.elim h (fun z => by rw [h2] at z; cases z))]
      refine mR 1 rfl trivial ?_
      exact mx_E_iret rfl rfl ⟨rfl, rfl⟩
    · rw [if_pos (Or.inr h2)]
      refine mR 2 rfl trivial ?_
      exact mx_E_iret rfl rfl ⟨rfl, rfl⟩
theorem lp_Ba_sincere13 {Q : Option Value → mx_M → Prop} {c : mx_M} {n m nd t x y : Nat} {K : Nat → Option Nat} {Z : Nat → Nat} {R : Nat → Nat → Nat} (hT : cT c n K Z nd) (hn : n ≤ 6) (hm : m ≤ 9) (hb : bQ c 14 15 m n K Z nd R) (ht : t < 512) (hq : Q (some (.int (nI y))) c) :
    ∀ (u k s : Nat), nd - k ≤ u → k < nd → s ≤ k → msin t m n R K Z nd k = y → mx_E 0 2 m_Ba_sincere Q 7 [.ref 13, .ref 9, .int (nI x), .int (nI t), .int (nI (mpop t)), .int (nI k), .int (nI s), .null] [] c
  | 0, k, s, h, hk, hs, he => by omega
  | u + 1, k, s, h, hk, hs, he => by
    have h63 := hT.2.1.2.1
    have hpt := mpop_le t
    obtain ⟨eK, eZ, eS⟩ := hT.2.2 k hk
    refine mR 2 rfl trivial ?_
    rw [show (63 : Int32) = nI 63 from rfl]
    refine mbGe _ _ rfl (by omega) (by omega) (fun h => by omega) (fun _ => ?_)
    refine mR 2 rfl trivial ?_
    refine mx_E_callV (sp_isV _ hT hn hk) rfl rfl rfl (fun r c1 hr => ?_)
    obtain ⟨rfl, hz⟩ := hr
    rw [hz]
    cases e : K k with
    | some q =>
      refine mbT rfl (fun _ => ?_) (fun h => by cases h)
      refine mR 4 rfl (mA1 (mI (by omega))) ?_
      rw [nI_cl (by omega), eK, e]
      refine mx_E_iret rfl rfl ?_
      rw [show msin t m n R K Z nd k = q from mF_leaf _ _ hk e] at he
      rw [he]
      exact hq
    | none =>
      obtain ⟨g1, g2, g3, g4, g5, g6⟩ := mtree_vote hT.2.1 hk e
      have hvf : mvf t m n R (mset K Z nd (k + 1)) (mset K Z nd (k + 1 + Z (k + 1))) ≤ mpop t := by
        rw [← pop_vf (nd := nd) (n := n) hm e, pop_bS hm]
        unfold mpop
        have q1 : fb_ct (fun i => t.testBit i && gG K Z nd n (R i) k) m ≤ fb_ct (fun i => t.testBit i) m := fb_ct_sub (fun i _ hi => by simp at hi; exact hi.1)
        exact Nat.le_trans q1 (fb_ct_mono _ hm)
      have he2 : msin t m n R K Z nd k = if mpop t ≤ 2 * mvf t m n R (mset K Z nd (k + 1)) (mset K Z nd (k + 1 + Z (k + 1))) then msin t m n R K Z nd (k + 1) else msin t m n R K Z nd (k + 1 + Z (k + 1)) := mF_vote _ _ hT.2.1 hk e
      refine mbT rfl (fun h => by cases h) (fun _ => ?_)
      refine mR 6 rfl (mA1 (mI (by omega))) ?_
      rw [nI_cl (by omega), hb.1 k hk, fa_and]
      refine mx_E_callS (sp_In_bitCount _ _ (and512 (bS_512 _ hm))) rfl rfl rfl (fun r c1 hr => ?_)
      obtain ⟨rfl, hz⟩ := hr
      rw [hz, pop_vf hm e]
      refine mR 5 rfl trivial ?_
      rw [pk_sub hvf]
      refine mbLt _ _ rfl (by omega) (by omega) (fun hc => ?_) (fun hc => ?_)
      · refine mR 2 rfl trivial ?_
        refine mx_E_callV (sp_sec _ hT hk e) rfl rfl rfl (fun r c1 hr => ?_)
        obtain ⟨rfl, hz⟩ := hr
        rw [hz]
        refine mR 3 rfl trivial ?_
        rw [nI_1]
        rw [if_neg (by omega)] at he2
        exact mW (lp_Ba_sincere13 (x := x) hT hn hm hb ht hq u (k + 1 + Z (k + 1)) (s + 1) (by omega) g6 (by omega) (by rw [← he2]; exact he)) ⟨Or.inr rfl, Or.inr rfl, Or.inr rfl, Or.inr rfl, Or.inr rfl, Or.inr rfl, Or.inr rfl, Or.inl rfl, trivial⟩ rfl rfl
      · refine mR 2 rfl trivial ?_
        refine mx_E_callV (sp_Tr_first _ k) rfl rfl rfl (fun r c1 hr => ?_)
        obtain ⟨rfl, hz⟩ := hr
        rw [hz]
        refine mR 4 rfl trivial ?_
        rw [nI_1]
        rw [if_pos (by omega)] at he2
        exact mW (lp_Ba_sincere13 (x := x) hT hn hm hb ht hq u (k + 1) (s + 1) (by omega) g5 (by omega) (by rw [← he2]; exact he)) ⟨Or.inr rfl, Or.inr rfl, Or.inr rfl, Or.inr rfl, Or.inr rfl, Or.inr rfl, Or.inr rfl, Or.inl rfl, trivial⟩ rfl rfl
theorem sp_Ba_sincere13 (c : mx_M) {n m nd t k : Nat} {K : Nat → Option Nat} {Z : Nat → Nat} {R : Nat → Nat → Nat} (hT : cT c n K Z nd) (hn : n ≤ 6) (hm : m ≤ 9) (hb : bQ c 14 15 m n K Z nd R) (ht : t < 512) (hk : k < nd) : mx_Spec 0 2 m_Ba_sincere [.ref 13, .ref 9, .int (nI k), .int (nI t)] c (fun r c' => r = some (.int (nI (msin t m n R K Z nd k))) ∧ c' = c) := by
  refine mx_Spec_E rfl rfl rfl ?_
  refine mR 1 rfl trivial ?_
  refine mx_E_callS (sp_In_bitCount _ t ht) rfl rfl rfl (fun r c1 hr => ?_)
  obtain ⟨rfl, hz⟩ := hr
  rw [hz]
  refine mR 5 rfl trivial ?_
  exact lp_Ba_sincere13 (x := k) hT hn hm hb ht ⟨rfl, rfl⟩ nd k 0 (by omega) hk (by omega) rfl
theorem lp_Ba_foreseen13 {Q : Option Value → mx_M → Prop} {c : mx_M} {n m nd t z : Nat} {K : Nat → Option Nat} {Z : Nat → Nat} {R : Nat → Nat → Nat} (hT : cT c n K Z nd) (hn : n ≤ 6) (hm : m ≤ 9) (hb : bQ c 14 15 m n K Z nd R) (hR : ∀ i, i < m → mperm n (R i)) (ht : t < 2 ^ m) (hz : z < nd) (hze : z + Z z ≤ nd) (hZ1 : 1 ≤ Z z) (hq : ∀ c', mfr [16] c c' → Q (some (.int (nI (mfor t m n R K Z nd z)))) c') :
    ∀ (u k : Nat) (c1 : mx_M), k = z + u → k ≤ z + Z z → mfr [16] c c1 → (∀ j, k ≤ j → j < z + Z z → c1 16 j = nI (mfor t m n R K Z nd j)) → mx_E 0 4 m_Ba_foreseen Q 11 [.ref 13, .ref 9, .int (nI z), .int (nI t), .null, .int (nI k - 1)] [] c1
  | 0, k, c1, hu, hk, hfr, hi => by
    have h63 := hT.2.1.2.1
    have e : k = z := by omega
    rw [e]
    rw [e] at hi
    refine mR 2 rfl trivial ?_
    refine mx_E_br rfl rfl (fun _ => ?_) (fun h => absurd (pr_lt hz (by omega)) h)
    refine mR 4 rfl (mA1 (mI (by omega))) ?_
    rw [nI_cl (by omega), hi z (Nat.le_refl z) (by omega)]
    exact mx_E_iret rfl rfl (hq c1 hfr)
  | u + 1, k, c1, hu, hk, hfr, hi => by
    obtain ⟨j, rfl⟩ : ∃ j, k = j + 1 := ⟨k - 1, by omega⟩
    have h63 := hT.2.1.2.1
    have hj : j < nd := by omega
    have hT1 := cT_fr hT hfr (by decide) (by decide) (by decide) (by decide)
    have hb1 := bQ_fr hb hfr (by decide) (by decide)
    have eK := (hT1.2.2 j hj).1
    have nxt : ∀ (v : Int32), v = nI (mfor t m n R K Z nd j) → mx_E 0 4 m_Ba_foreseen Q 11 [.ref 13, .ref 9, .int (nI z), .int (nI t), .null, .int (nI j - 1)] [] (mx_up c1 16 j v) := by
      intro v hv
      refine lp_Ba_foreseen13 hT hn hm hb hR ht hz hze hZ1 hq u j _ (by omega) (by omega) (mfr_up hfr (by decide)) (fun i h1 h2 => ?_)
      rcases Nat.lt_or_ge j i with h3 | h3
      · rw [mx_up_ix _ _ _ _ _ _ (by omega)]
        exact hi i (by omega) h2
      · have e2 : i = j := by omega
        rw [e2, mx_up_same, hv]
    rw [nI_p1]
    refine mR 2 rfl trivial ?_
    refine mbLt _ _ rfl (by omega) (by omega) (fun h => by omega) (fun _ => ?_)
    refine mR 5 rfl trivial ?_
    refine mx_E_callV (sp_isV _ hT1 hn hj) rfl rfl rfl (fun r c2 hr => ?_)
    obtain ⟨rfl, hz2⟩ := hr
    rw [hz2]
    cases e : K j with
    | some q =>
      refine mbT rfl (fun _ => ?_) (fun h => by cases h)
      refine mR 5 rfl (mA2 (mI (by omega)) (mI (by omega))) ?_
      rw [nI_cl (by omega), eK, e]
      refine mR 2 rfl trivial ?_
      rw [nI_m1]
      exact nxt _ (by rw [show mfor t m n R K Z nd j = q from mF_leaf _ _ hj e]; rfl)
    | none =>
      obtain ⟨g1, g2, g3, g4, g5, g6⟩ := mtree_vote hT.2.1 hj e
      have hnest := mtree_nest hT.2.1 hj (nd - z) z hz (Nat.le_refl _) (by omega) (by omega)
      refine mbT rfl (fun h => by cases h) (fun _ => ?_)
      refine mR 5 rfl trivial ?_
      refine mx_E_callV (sp_Tr_first _ j) rfl rfl rfl (fun r c2 hr => ?_)
      obtain ⟨rfl, hz2⟩ := hr
      rw [hz2]
      refine mR 5 rfl (mA1 (mI (by omega))) ?_
      rw [nI_cl (by omega), hi (j + 1) (by omega) (by omega)]
      refine mx_E_callV (sp_sec _ hT1 hj e) rfl rfl rfl (fun r c2 hr => ?_)
      obtain ⟨rfl, hz2⟩ := hr
      rw [hz2]
      refine mR 2 rfl (mA1 (mI (by omega))) ?_
      rw [nI_cl (by omega), hi (j + 1 + Z (j + 1)) (by omega) (by omega)]
      refine mx_E_callV (sp_Ba_stronger13 _ hn hm hb1 hR (mfor_lt hT.2.1 g5) (mfor_lt hT.2.1 g6) ht) rfl rfl rfl (fun r c2 hr => ?_)
      obtain ⟨rfl, hz2⟩ := hr
      rw [hz2]
      refine mR 2 rfl (mA1 (mI (by omega))) ?_
      rw [nI_cl (by omega)]
      refine mR 2 rfl trivial ?_
      rw [nI_m1]
      exact nxt _ (by rw [show mfor t m n R K Z nd j = if mfor t m n R K Z nd (j + 1) = mfor t m n R K Z nd (j + 1 + Z (j + 1)) ∨ mbeat t m n R (mfor t m n R K Z nd (j + 1)) (mfor t m n R K Z nd (j + 1 + Z (j + 1))) = true then mfor t m n R K Z nd (j + 1) else mfor t m n R K Z nd (j + 1 + Z (j + 1)) from mF_vote _ _ hT.2.1 hj e])
theorem sp_Ba_foreseen13 (c : mx_M) {n m nd t k : Nat} {K : Nat → Option Nat} {Z : Nat → Nat} {R : Nat → Nat → Nat} (hT : cT c n K Z nd) (hn : n ≤ 6) (hm : m ≤ 9) (hb : bQ c 14 15 m n K Z nd R) (hR : ∀ i, i < m → mperm n (R i)) (ht : t < 2 ^ m) (hk : k < nd) : mx_Spec 0 4 m_Ba_foreseen [.ref 13, .ref 9, .int (nI k), .int (nI t)] c (fun r c' => r = some (.int (nI (mfor t m n R K Z nd k))) ∧ mfr [16] c c') := by
  have h63 := hT.2.1.2.1
  have hz : k + Z k ≤ nd ∧ 1 ≤ Z k := by
    rcases hT.2.1.2.2.2 k hk with ⟨q', g1, g2, g3⟩ | ⟨g1, g2, g3, g4, g5⟩ <;> omega
  refine mx_Spec_E rfl rfl rfl ?_
  refine mR 11 rfl (mA1 (mI (by omega))) ?_
  rw [nI_cl (by omega), (hT.2.2 k hk).2.1, nI_add]
  exact mW (lp_Ba_foreseen13 hT hn hm hb hR ht hk hz.1 hz.2 (fun c' h1 => ⟨rfl, h1⟩) (Z k) (k + Z k) c rfl (Nat.le_refl _) (mfr_rf _ _) (fun j h1 h2 => by omega)) ⟨Or.inr rfl, Or.inr rfl, Or.inr rfl, Or.inr rfl, Or.inl rfl, Or.inr rfl, trivial⟩ rfl rfl
theorem sp_Ba_outcome13 (c : mx_M) {n m nd t w : Nat} {K : Nat → Option Nat} {Z : Nat → Nat} {R : Nat → Nat → Nat} (hT : cT c n K Z nd) (hn : n ≤ 6) (hm : m ≤ 9) (hb : bQ c 14 15 m n K Z nd R) (hR : ∀ i, i < m → mperm n (R i)) (ht : t < 2 ^ m) (hw : w < 2) : mx_Spec 0 5 m_Ba_outcome [.ref 13, .ref 9, .int (nI w), .int (nI t)] c (fun r c' => r = some (.int (nI (mout w t m n R K Z nd))) ∧ mfr [16] c c') := by
  have h5 := pw_le hm
  refine mx_Spec_E rfl rfl rfl ?_
  refine mR 1 rfl trivial ?_
  rcases (show w = 0 ∨ w = 1 by omega) with rfl | rfl
  · refine mx_E_br rfl rfl (fun h => absurd rfl h) (fun _ => ?_)
    refine mR 4 rfl trivial ?_
    refine mx_E_callV (sp_Ba_sincere13 (k := 0) _ hT hn hm hb (by omega) hT.2.1.1) rfl rfl rfl (fun r c1 hr => ?_)
    obtain ⟨rfl, hz⟩ := hr
    rw [hz]
    refine mR 1 rfl trivial ?_
    exact mx_E_iret rfl rfl ⟨rfl, mfr_rf _ _⟩
  · refine mx_E_br rfl rfl (fun _ => ?_) (fun h => absurd (by decide) h)
    refine mR 4 rfl trivial ?_
    refine mx_E_callV (sp_Ba_foreseen13 (k := 0) _ hT hn hm hb hR ht hT.2.1.1) rfl rfl rfl (fun r c1 hr => ?_)
    obtain ⟨rfl, hz⟩ := hr
    exact mx_E_iret rfl rfl ⟨rfl, hz⟩
theorem sp_Ba_beats17 (c : mx_M) {n m nd x y t : Nat} {K : Nat → Option Nat} {Z : Nat → Nat} {R : Nat → Nat → Nat} (hn : n ≤ 6) (hm : m ≤ 9) (hb : bQ c 18 19 m n K Z nd R) (hR : ∀ i, i < m → mperm n (R i)) (hx : x < n) (hy : y < n) (hxy : x ≠ y) (ht : t < 2 ^ m) : mx_Spec 0 2 m_Ba_beats [.ref 17, .int (nI x), .int (nI y), .int (nI t)] c (fun r c' => r = some (.int (mz (mbeat t m n R x y))) ∧ c' = c) := by
  have h5 := pw_le hm
  have hsum := mvt_sum hm ht hR hx hy hxy
  have hpt := mpop_le t
  refine mx_Spec_E rfl rfl rfl ?_
  have e1 : nI x * 6 + nI y = nI (6 * x + y) := by rw [show (6 : Int32) = nI 6 from rfl, pk_mul, nI_add, Nat.mul_comm]
  refine mR 10 rfl (mA1 (by rw [e1]; exact mI (by omega))) ?_
  rw [e1, nI_cl (by omega), hb.2 x y hx hy hxy, fa_and]
  refine mx_E_callS (sp_In_bitCount _ _ (and512 (bS_512 _ hm))) rfl rfl rfl (fun r c1 hr => ?_)
  obtain ⟨rfl, hz⟩ := hr
  rw [hz, pop_vt hm]
  refine mR 2 rfl trivial ?_
  refine mx_E_callS (sp_In_bitCount _ t (by omega)) rfl rfl rfl (fun r c1 hr => ?_)
  obtain ⟨rfl, hz⟩ := hr
  rw [hz]
  refine mR 5 rfl trivial ?_
  rw [pk_sub (by omega), show mpop t - mvt t m n R x y = mvt t m n R y x by omega]
  refine mbGt _ _ rfl (by omega) (by omega) (fun h1 => ?_) (fun h1 => ?_)
  · refine mR 2 rfl trivial ?_
    refine mx_E_zret rfl rfl (Or.inr rfl) ⟨?_, rfl⟩
    rw [show mbeat t m n R x y = true from decide_eq_true (Or.inl h1)]
    rfl
  · refine mR 2 rfl trivial ?_
    refine mbNe _ _ rfl (by omega) (by omega) (fun h2 => ?_) (fun h2 => ?_)
    · refine mR 1 rfl trivial ?_
      refine mx_E_zret rfl rfl (Or.inl rfl) ⟨?_, rfl⟩
      rw [show mbeat t m n R x y = false from decide_eq_false (by omega)]
      rfl
    · refine mR 2 rfl trivial ?_
      refine mbGe _ _ rfl (by omega) (by omega) (fun h3 => ?_) (fun h3 => ?_)
      · refine mR 1 rfl trivial ?_
        refine mx_E_zret rfl rfl (Or.inl rfl) ⟨?_, rfl⟩
        rw [show mbeat t m n R x y = false from decide_eq_false (by omega)]
        rfl
      · refine mR 2 rfl trivial ?_
        refine mx_E_zret rfl rfl (Or.inr rfl) ⟨?_, rfl⟩
        rw [show mbeat t m n R x y = true from decide_eq_true (Or.inr ⟨h2, h3⟩)]
        rfl
theorem sp_Ba_stronger17 (c : mx_M) {n m nd x y t : Nat} {K : Nat → Option Nat} {Z : Nat → Nat} {R : Nat → Nat → Nat} (hn : n ≤ 6) (hm : m ≤ 9) (hb : bQ c 18 19 m n K Z nd R) (hR : ∀ i, i < m → mperm n (R i)) (hx : x < n) (hy : y < n) (ht : t < 2 ^ m) : mx_Spec 0 3 m_Ba_stronger [.ref 17, .int (nI x), .int (nI y), .int (nI t)] c (fun r c' => r = some (.int (nI (if x = y ∨ mbeat t m n R x y = true then x else y))) ∧ c' = c) := by
  refine mx_Spec_E rfl rfl rfl ?_
  refine mR 2 rfl trivial ?_
  refine mbEq _ _ rfl (by omega) (by omega) (fun h => ?_) (fun h => ?_)
  · rw [if_pos (Or.inl h)]
    refine mR 2 rfl trivial ?_
    exact mx_E_iret rfl rfl ⟨rfl, rfl⟩
  · refine mR 4 rfl trivial ?_
    refine mx_E_callV (sp_Ba_beats17 _ hn hm hb hR hx hy h ht) rfl rfl rfl (fun r c1 hr => ?_)
    obtain ⟨rfl, hz⟩ := hr
    rw [hz]
    refine mbT rfl (fun h2 => ?_) (fun h2 => ?_)
    · rw [if_neg (fun z => z.elim h (fun z => by rw [h2] at z; cases z))]
      refine mR 1 rfl trivial ?_
      exact mx_E_iret rfl rfl ⟨rfl, rfl⟩
    · rw [if_pos (Or.inr h2)]
      refine mR 2 rfl trivial ?_
      exact mx_E_iret rfl rfl ⟨rfl, rfl⟩
theorem lp_Ba_sincere17 {Q : Option Value → mx_M → Prop} {c : mx_M} {n m nd t x y : Nat} {K : Nat → Option Nat} {Z : Nat → Nat} {R : Nat → Nat → Nat} (hT : cT c n K Z nd) (hn : n ≤ 6) (hm : m ≤ 9) (hb : bQ c 18 19 m n K Z nd R) (ht : t < 512) (hq : Q (some (.int (nI y))) c) :
    ∀ (u k s : Nat), nd - k ≤ u → k < nd → s ≤ k → msin t m n R K Z nd k = y → mx_E 0 2 m_Ba_sincere Q 7 [.ref 17, .ref 9, .int (nI x), .int (nI t), .int (nI (mpop t)), .int (nI k), .int (nI s), .null] [] c
  | 0, k, s, h, hk, hs, he => by omega
  | u + 1, k, s, h, hk, hs, he => by
    have h63 := hT.2.1.2.1
    have hpt := mpop_le t
    obtain ⟨eK, eZ, eS⟩ := hT.2.2 k hk
    refine mR 2 rfl trivial ?_
    rw [show (63 : Int32) = nI 63 from rfl]
    refine mbGe _ _ rfl (by omega) (by omega) (fun h => by omega) (fun _ => ?_)
    refine mR 2 rfl trivial ?_
    refine mx_E_callV (sp_isV _ hT hn hk) rfl rfl rfl (fun r c1 hr => ?_)
    obtain ⟨rfl, hz⟩ := hr
    rw [hz]
    cases e : K k with
    | some q =>
      refine mbT rfl (fun _ => ?_) (fun h => by cases h)
      refine mR 4 rfl (mA1 (mI (by omega))) ?_
      rw [nI_cl (by omega), eK, e]
      refine mx_E_iret rfl rfl ?_
      rw [show msin t m n R K Z nd k = q from mF_leaf _ _ hk e] at he
      rw [he]
      exact hq
    | none =>
      obtain ⟨g1, g2, g3, g4, g5, g6⟩ := mtree_vote hT.2.1 hk e
      have hvf : mvf t m n R (mset K Z nd (k + 1)) (mset K Z nd (k + 1 + Z (k + 1))) ≤ mpop t := by
        rw [← pop_vf (nd := nd) (n := n) hm e, pop_bS hm]
        unfold mpop
        have q1 : fb_ct (fun i => t.testBit i && gG K Z nd n (R i) k) m ≤ fb_ct (fun i => t.testBit i) m := fb_ct_sub (fun i _ hi => by simp at hi; exact hi.1)
        exact Nat.le_trans q1 (fb_ct_mono _ hm)
      have he2 : msin t m n R K Z nd k = if mpop t ≤ 2 * mvf t m n R (mset K Z nd (k + 1)) (mset K Z nd (k + 1 + Z (k + 1))) then msin t m n R K Z nd (k + 1) else msin t m n R K Z nd (k + 1 + Z (k + 1)) := mF_vote _ _ hT.2.1 hk e
      refine mbT rfl (fun h => by cases h) (fun _ => ?_)
      refine mR 6 rfl (mA1 (mI (by omega))) ?_
      rw [nI_cl (by omega), hb.1 k hk, fa_and]
      refine mx_E_callS (sp_In_bitCount _ _ (and512 (bS_512 _ hm))) rfl rfl rfl (fun r c1 hr => ?_)
      obtain ⟨rfl, hz⟩ := hr
      rw [hz, pop_vf hm e]
      refine mR 5 rfl trivial ?_
      rw [pk_sub hvf]
      refine mbLt _ _ rfl (by omega) (by omega) (fun hc => ?_) (fun hc => ?_)
      · refine mR 2 rfl trivial ?_
        refine mx_E_callV (sp_sec _ hT hk e) rfl rfl rfl (fun r c1 hr => ?_)
        obtain ⟨rfl, hz⟩ := hr
        rw [hz]
        refine mR 3 rfl trivial ?_
        rw [nI_1]
        rw [if_neg (by omega)] at he2
        exact mW (lp_Ba_sincere17 (x := x) hT hn hm hb ht hq u (k + 1 + Z (k + 1)) (s + 1) (by omega) g6 (by omega) (by rw [← he2]; exact he)) ⟨Or.inr rfl, Or.inr rfl, Or.inr rfl, Or.inr rfl, Or.inr rfl, Or.inr rfl, Or.inr rfl, Or.inl rfl, trivial⟩ rfl rfl
      · refine mR 2 rfl trivial ?_
        refine mx_E_callV (sp_Tr_first _ k) rfl rfl rfl (fun r c1 hr => ?_)
        obtain ⟨rfl, hz⟩ := hr
        rw [hz]
        refine mR 4 rfl trivial ?_
        rw [nI_1]
        rw [if_pos (by omega)] at he2
        exact mW (lp_Ba_sincere17 (x := x) hT hn hm hb ht hq u (k + 1) (s + 1) (by omega) g5 (by omega) (by rw [← he2]; exact he)) ⟨Or.inr rfl, Or.inr rfl, Or.inr rfl, Or.inr rfl, Or.inr rfl, Or.inr rfl, Or.inr rfl, Or.inl rfl, trivial⟩ rfl rfl
theorem sp_Ba_sincere17 (c : mx_M) {n m nd t k : Nat} {K : Nat → Option Nat} {Z : Nat → Nat} {R : Nat → Nat → Nat} (hT : cT c n K Z nd) (hn : n ≤ 6) (hm : m ≤ 9) (hb : bQ c 18 19 m n K Z nd R) (ht : t < 512) (hk : k < nd) : mx_Spec 0 2 m_Ba_sincere [.ref 17, .ref 9, .int (nI k), .int (nI t)] c (fun r c' => r = some (.int (nI (msin t m n R K Z nd k))) ∧ c' = c) := by
  refine mx_Spec_E rfl rfl rfl ?_
  refine mR 1 rfl trivial ?_
  refine mx_E_callS (sp_In_bitCount _ t ht) rfl rfl rfl (fun r c1 hr => ?_)
  obtain ⟨rfl, hz⟩ := hr
  rw [hz]
  refine mR 5 rfl trivial ?_
  exact lp_Ba_sincere17 (x := k) hT hn hm hb ht ⟨rfl, rfl⟩ nd k 0 (by omega) hk (by omega) rfl
theorem lp_Ba_foreseen17 {Q : Option Value → mx_M → Prop} {c : mx_M} {n m nd t z : Nat} {K : Nat → Option Nat} {Z : Nat → Nat} {R : Nat → Nat → Nat} (hT : cT c n K Z nd) (hn : n ≤ 6) (hm : m ≤ 9) (hb : bQ c 18 19 m n K Z nd R) (hR : ∀ i, i < m → mperm n (R i)) (ht : t < 2 ^ m) (hz : z < nd) (hze : z + Z z ≤ nd) (hZ1 : 1 ≤ Z z) (hq : ∀ c', mfr [20] c c' → Q (some (.int (nI (mfor t m n R K Z nd z)))) c') :
    ∀ (u k : Nat) (c1 : mx_M), k = z + u → k ≤ z + Z z → mfr [20] c c1 → (∀ j, k ≤ j → j < z + Z z → c1 20 j = nI (mfor t m n R K Z nd j)) → mx_E 0 4 m_Ba_foreseen Q 11 [.ref 17, .ref 9, .int (nI z), .int (nI t), .null, .int (nI k - 1)] [] c1
  | 0, k, c1, hu, hk, hfr, hi => by
    have h63 := hT.2.1.2.1
    have e : k = z := by omega
    rw [e]
    rw [e] at hi
    refine mR 2 rfl trivial ?_
    refine mx_E_br rfl rfl (fun _ => ?_) (fun h => absurd (pr_lt hz (by omega)) h)
    refine mR 4 rfl (mA1 (mI (by omega))) ?_
    rw [nI_cl (by omega), hi z (Nat.le_refl z) (by omega)]
    exact mx_E_iret rfl rfl (hq c1 hfr)
  | u + 1, k, c1, hu, hk, hfr, hi => by
    obtain ⟨j, rfl⟩ : ∃ j, k = j + 1 := ⟨k - 1, by omega⟩
    have h63 := hT.2.1.2.1
    have hj : j < nd := by omega
    have hT1 := cT_fr hT hfr (by decide) (by decide) (by decide) (by decide)
    have hb1 := bQ_fr hb hfr (by decide) (by decide)
    have eK := (hT1.2.2 j hj).1
    have nxt : ∀ (v : Int32), v = nI (mfor t m n R K Z nd j) → mx_E 0 4 m_Ba_foreseen Q 11 [.ref 17, .ref 9, .int (nI z), .int (nI t), .null, .int (nI j - 1)] [] (mx_up c1 20 j v) := by
      intro v hv
      refine lp_Ba_foreseen17 hT hn hm hb hR ht hz hze hZ1 hq u j _ (by omega) (by omega) (mfr_up hfr (by decide)) (fun i h1 h2 => ?_)
      rcases Nat.lt_or_ge j i with h3 | h3
      · rw [mx_up_ix _ _ _ _ _ _ (by omega)]
        exact hi i (by omega) h2
      · have e2 : i = j := by omega
        rw [e2, mx_up_same, hv]
    rw [nI_p1]
    refine mR 2 rfl trivial ?_
    refine mbLt _ _ rfl (by omega) (by omega) (fun h => by omega) (fun _ => ?_)
    refine mR 5 rfl trivial ?_
    refine mx_E_callV (sp_isV _ hT1 hn hj) rfl rfl rfl (fun r c2 hr => ?_)
    obtain ⟨rfl, hz2⟩ := hr
    rw [hz2]
    cases e : K j with
    | some q =>
      refine mbT rfl (fun _ => ?_) (fun h => by cases h)
      refine mR 5 rfl (mA2 (mI (by omega)) (mI (by omega))) ?_
      rw [nI_cl (by omega), eK, e]
      refine mR 2 rfl trivial ?_
      rw [nI_m1]
      exact nxt _ (by rw [show mfor t m n R K Z nd j = q from mF_leaf _ _ hj e]; rfl)
    | none =>
      obtain ⟨g1, g2, g3, g4, g5, g6⟩ := mtree_vote hT.2.1 hj e
      have hnest := mtree_nest hT.2.1 hj (nd - z) z hz (Nat.le_refl _) (by omega) (by omega)
      refine mbT rfl (fun h => by cases h) (fun _ => ?_)
      refine mR 5 rfl trivial ?_
      refine mx_E_callV (sp_Tr_first _ j) rfl rfl rfl (fun r c2 hr => ?_)
      obtain ⟨rfl, hz2⟩ := hr
      rw [hz2]
      refine mR 5 rfl (mA1 (mI (by omega))) ?_
      rw [nI_cl (by omega), hi (j + 1) (by omega) (by omega)]
      refine mx_E_callV (sp_sec _ hT1 hj e) rfl rfl rfl (fun r c2 hr => ?_)
      obtain ⟨rfl, hz2⟩ := hr
      rw [hz2]
      refine mR 2 rfl (mA1 (mI (by omega))) ?_
      rw [nI_cl (by omega), hi (j + 1 + Z (j + 1)) (by omega) (by omega)]
      refine mx_E_callV (sp_Ba_stronger17 _ hn hm hb1 hR (mfor_lt hT.2.1 g5) (mfor_lt hT.2.1 g6) ht) rfl rfl rfl (fun r c2 hr => ?_)
      obtain ⟨rfl, hz2⟩ := hr
      rw [hz2]
      refine mR 2 rfl (mA1 (mI (by omega))) ?_
      rw [nI_cl (by omega)]
      refine mR 2 rfl trivial ?_
      rw [nI_m1]
      exact nxt _ (by rw [show mfor t m n R K Z nd j = if mfor t m n R K Z nd (j + 1) = mfor t m n R K Z nd (j + 1 + Z (j + 1)) ∨ mbeat t m n R (mfor t m n R K Z nd (j + 1)) (mfor t m n R K Z nd (j + 1 + Z (j + 1))) = true then mfor t m n R K Z nd (j + 1) else mfor t m n R K Z nd (j + 1 + Z (j + 1)) from mF_vote _ _ hT.2.1 hj e])
theorem sp_Ba_foreseen17 (c : mx_M) {n m nd t k : Nat} {K : Nat → Option Nat} {Z : Nat → Nat} {R : Nat → Nat → Nat} (hT : cT c n K Z nd) (hn : n ≤ 6) (hm : m ≤ 9) (hb : bQ c 18 19 m n K Z nd R) (hR : ∀ i, i < m → mperm n (R i)) (ht : t < 2 ^ m) (hk : k < nd) : mx_Spec 0 4 m_Ba_foreseen [.ref 17, .ref 9, .int (nI k), .int (nI t)] c (fun r c' => r = some (.int (nI (mfor t m n R K Z nd k))) ∧ mfr [20] c c') := by
  have h63 := hT.2.1.2.1
  have hz : k + Z k ≤ nd ∧ 1 ≤ Z k := by
    rcases hT.2.1.2.2.2 k hk with ⟨q', g1, g2, g3⟩ | ⟨g1, g2, g3, g4, g5⟩ <;> omega
  refine mx_Spec_E rfl rfl rfl ?_
  refine mR 11 rfl (mA1 (mI (by omega))) ?_
  rw [nI_cl (by omega), (hT.2.2 k hk).2.1, nI_add]
  exact mW (lp_Ba_foreseen17 hT hn hm hb hR ht hk hz.1 hz.2 (fun c' h1 => ⟨rfl, h1⟩) (Z k) (k + Z k) c rfl (Nat.le_refl _) (mfr_rf _ _) (fun j h1 h2 => by omega)) ⟨Or.inr rfl, Or.inr rfl, Or.inr rfl, Or.inr rfl, Or.inl rfl, Or.inr rfl, trivial⟩ rfl rfl
theorem sp_Ba_outcome17 (c : mx_M) {n m nd t w : Nat} {K : Nat → Option Nat} {Z : Nat → Nat} {R : Nat → Nat → Nat} (hT : cT c n K Z nd) (hn : n ≤ 6) (hm : m ≤ 9) (hb : bQ c 18 19 m n K Z nd R) (hR : ∀ i, i < m → mperm n (R i)) (ht : t < 2 ^ m) (hw : w < 2) : mx_Spec 0 5 m_Ba_outcome [.ref 17, .ref 9, .int (nI w), .int (nI t)] c (fun r c' => r = some (.int (nI (mout w t m n R K Z nd))) ∧ mfr [20] c c') := by
  have h5 := pw_le hm
  refine mx_Spec_E rfl rfl rfl ?_
  refine mR 1 rfl trivial ?_
  rcases (show w = 0 ∨ w = 1 by omega) with rfl | rfl
  · refine mx_E_br rfl rfl (fun h => absurd rfl h) (fun _ => ?_)
    refine mR 4 rfl trivial ?_
    refine mx_E_callV (sp_Ba_sincere17 (k := 0) _ hT hn hm hb (by omega) hT.2.1.1) rfl rfl rfl (fun r c1 hr => ?_)
    obtain ⟨rfl, hz⟩ := hr
    rw [hz]
    refine mR 1 rfl trivial ?_
    exact mx_E_iret rfl rfl ⟨rfl, mfr_rf _ _⟩
  · refine mx_E_br rfl rfl (fun _ => ?_) (fun h => absurd (by decide) h)
    refine mR 4 rfl trivial ?_
    refine mx_E_callV (sp_Ba_foreseen17 (k := 0) _ hT hn hm hb hR ht hT.2.1.1) rfl rfl rfl (fun r c1 hr => ?_)
    obtain ⟨rfl, hz⟩ := hr
    exact mx_E_iret rfl rfl ⟨rfl, hz⟩
