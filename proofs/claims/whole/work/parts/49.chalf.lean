/-! the changed ballots, by the way that is asked; casts over rows that hold anything -/
/-- as far as a way asks -/
def bH (c : mx_M) (w m n : Nat) (K : Nat → Option Nat) (Z : Nat → Nat) (nd : Nat) (R : Nat → Nat → Nat) : Prop := (w = 0 → ∀ k, k < nd → c 18 k = nI (bS (fun i => gG K Z nd n (R i) k) m)) ∧ (w ≠ 0 → ∀ x y, x < n → y < n → x ≠ y → c 19 (6 * x + y) = nI (bS (fun i => gV n (R i) x y) m))
theorem sp_Ba_beatsH17 (c : mx_M) {n m x y t : Nat} {R : Nat → Nat → Nat} (hn : n ≤ 6) (hm : m ≤ 9) (hb : ∀ x y, x < n → y < n → x ≠ y → c 19 (6 * x + y) = nI (bS (fun i => gV n (R i) x y) m)) (hR : ∀ i, i < m → mperm n (R i)) (hx : x < n) (hy : y < n) (hxy : x ≠ y) (ht : t < 2 ^ m) : mx_Spec 0 2 m_Ba_beats [.ref 17, .int (nI x), .int (nI y), .int (nI t)] c (fun r c' => r = some (.int (mz (mbeat t m n R x y))) ∧ c' = c) := by
  have h5 := pw_le hm
  have hsum := mvt_sum hm ht hR hx hy hxy
  have hpt := mpop_le t
  refine mx_Spec_E rfl rfl rfl ?_
  have e1 : nI x * 6 + nI y = nI (6 * x + y) := by rw [show (6 : Int32) = nI 6 from rfl, pk_mul, nI_add, Nat.mul_comm]
  refine mR 10 rfl (mA1 (by rw [e1]; exact mI (by omega))) ?_
  rw [e1, nI_cl (by omega), hb x y hx hy hxy, fa_and]
  refine mx_E_callS (sp_In_bitCount _ _ (and512 (bS_512 _ hm))) rfl rfl rfl (fun r c1 hr => ?_)
  obtain ⟨rfl, hz⟩ := hr
  rw [hz, pop_vt hm]
  refine mR 2 rfl trivial ?_
  refine mx_E_callS (sp_In_bitCount _ t (by omega)) rfl rfl rfl (fun r c1 hr => ?_)
  obtain ⟨rfl, hz⟩ := hr
  rw [hz]
  refine mR 5 rfl trivial ?_
  rw [pk_sub (by omega), show mpop t - mvt t m n R x y = mvt t m n R y x by omega]
  refine mbGt _ _ rfl (by omega) (by omega) (fun h1 => ?_) (fun h1 => ?_)
  · refine mR 2 rfl trivial ?_
    refine mx_E_zret rfl rfl (Or.inr rfl) ⟨?_, rfl⟩
    rw [show mbeat t m n R x y = true from decide_eq_true (Or.inl h1)]
    rfl
  · refine mR 2 rfl trivial ?_
    refine mbNe _ _ rfl (by omega) (by omega) (fun h2 => ?_) (fun h2 => ?_)
    · refine mR 1 rfl trivial ?_
      refine mx_E_zret rfl rfl (Or.inl rfl) ⟨?_, rfl⟩
      rw [show mbeat t m n R x y = false from decide_eq_false (by omega)]
      rfl
    · refine mR 2 rfl trivial ?_
      refine mbGe _ _ rfl (by omega) (by omega) (fun h3 => ?_) (fun h3 => ?_)
      · refine mR 1 rfl trivial ?_
        refine mx_E_zret rfl rfl (Or.inl rfl) ⟨?_, rfl⟩
        rw [show mbeat t m n R x y = false from decide_eq_false (by omega)]
        rfl
      · refine mR 2 rfl trivial ?_
        refine mx_E_zret rfl rfl (Or.inr rfl) ⟨?_, rfl⟩
        rw [show mbeat t m n R x y = true from decide_eq_true (Or.inr ⟨h2, h3⟩)]
        rfl
theorem sp_Ba_strongerH17 (c : mx_M) {n m x y t : Nat} {R : Nat → Nat → Nat} (hn : n ≤ 6) (hm : m ≤ 9) (hb : ∀ x y, x < n → y < n → x ≠ y → c 19 (6 * x + y) = nI (bS (fun i => gV n (R i) x y) m)) (hR : ∀ i, i < m → mperm n (R i)) (hx : x < n) (hy : y < n) (ht : t < 2 ^ m) : mx_Spec 0 3 m_Ba_stronger [.ref 17, .int (nI x), .int (nI y), .int (nI t)] c (fun r c' => r = some (.int (nI (if x = y ∨ mbeat t m n R x y = true then x else y))) ∧ c' = c) := by
  refine mx_Spec_E rfl rfl rfl ?_
  refine mR 2 rfl trivial ?_
  refine mbEq _ _ rfl (by omega) (by omega) (fun h => ?_) (fun h => ?_)
  · rw [if_pos (Or.inl h)]
    refine mR 2 rfl trivial ?_
    exact mx_E_iret rfl rfl ⟨rfl, rfl⟩
  · refine mR 4 rfl trivial ?_
    refine mx_E_callV (sp_Ba_beatsH17 _ hn hm hb hR hx hy h ht) rfl rfl rfl (fun r c1 hr => ?_)
    obtain ⟨rfl, hz⟩ := hr
    rw [hz]
    refine mbT rfl (fun h2 => ?_) (fun h2 => ?_)
    · rw [if_neg (fun z => z.elim h (fun z => by rw [h2] at z; cases z))]
      refine mR 1 rfl trivial ?_
      exact mx_E_iret rfl rfl ⟨rfl, rfl⟩
    · rw [if_pos (Or.inr h2)]
      refine mR 2 rfl trivial ?_
      exact mx_E_iret rfl rfl ⟨rfl, rfl⟩
theorem lp_Ba_sincereH17 {Q : Option Value → mx_M → Prop} {c : mx_M} {n m nd t x y : Nat} {K : Nat → Option Nat} {Z : Nat → Nat} {R : Nat → Nat → Nat} (hT : cT c n K Z nd) (hn : n ≤ 6) (hm : m ≤ 9) (hb : ∀ k, k < nd → c 18 k = nI (bS (fun i => gG K Z nd n (R i) k) m)) (ht : t < 512) (hq : Q (some (.int (nI y))) c) :
    ∀ (u k s : Nat), nd - k ≤ u → k < nd → s ≤ k → msin t m n R K Z nd k = y → mx_E 0 2 m_Ba_sincere Q 7 [.ref 17, .ref 9, .int (nI x), .int (nI t), .int (nI (mpop t)), .int (nI k), .int (nI s), .null] [] c
  | 0, k, s, h, hk, hs, he => by omega
  | u + 1, k, s, h, hk, hs, he => by
    have h63 := hT.2.1.2.1
    have hpt := mpop_le t
    obtain ⟨eK, eZ, eS⟩ := hT.2.2 k hk
    refine mR 2 rfl trivial ?_
    rw [show (63 : Int32) = nI 63 from rfl]
    refine mbGe _ _ rfl (by omega) (by omega) (fun h => by omega) (fun _ => ?_)
    refine mR 2 rfl trivial ?_
    refine mx_E_callV (sp_isV _ hT hn hk) rfl rfl rfl (fun r c1 hr => ?_)
    obtain ⟨rfl, hz⟩ := hr
    rw [hz]
    cases e : K k with
    | some q =>
      refine mbT rfl (fun _ => ?_) (fun h => by cases h)
      refine mR 4 rfl (mA1 (mI (by omega))) ?_
      rw [nI_cl (by omega), eK, e]
      refine mx_E_iret rfl rfl ?_
      rw [show msin t m n R K Z nd k = q from mF_leaf _ _ hk e] at he
      rw [he]
      exact hq
    | none =>
      obtain ⟨g1, g2, g3, g4, g5, g6⟩ := mtree_vote hT.2.1 hk e
      have hvf : mvf t m n R (mset K Z nd (k + 1)) (mset K Z nd (k + 1 + Z (k + 1))) ≤ mpop t := by
        rw [← pop_vf (nd := nd) (n := n) hm e, pop_bS hm]
        unfold mpop
        have q1 : fb_ct (fun i => t.testBit i && gG K Z nd n (R i) k) m ≤ fb_ct (fun i => t.testBit i) m := fb_ct_sub (fun i _ hi => by simp at hi; exact hi.1)
        exact Nat.le_trans q1 (fb_ct_mono _ hm)
      have he2 : msin t m n R K Z nd k = if mpop t ≤ 2 * mvf t m n R (mset K Z nd (k + 1)) (mset K Z nd (k + 1 + Z (k + 1))) then msin t m n R K Z nd (k + 1) else msin t m n R K Z nd (k + 1 + Z (k + 1)) := mF_vote _ _ hT.2.1 hk e
      refine mbT rfl (fun h => by cases h) (fun _ => ?_)
      refine mR 6 rfl (mA1 (mI (by omega))) ?_
      rw [nI_cl (by omega), hb k hk, fa_and]
      refine mx_E_callS (sp_In_bitCount _ _ (and512 (bS_512 _ hm))) rfl rfl rfl (fun r c1 hr => ?_)
      obtain ⟨rfl, hz⟩ := hr
      rw [hz, pop_vf hm e]
      refine mR 5 rfl trivial ?_
      rw [pk_sub hvf]
      refine mbLt _ _ rfl (by omega) (by omega) (fun hc => ?_) (fun hc => ?_)
      · refine mR 2 rfl trivial ?_
        refine mx_E_callV (sp_sec _ hT hk e) rfl rfl rfl (fun r c1 hr => ?_)
        obtain ⟨rfl, hz⟩ := hr
        rw [hz]
        refine mR 3 rfl trivial ?_
        rw [nI_1]
        rw [if_neg (by omega)] at he2
        exact mW (lp_Ba_sincereH17 (x := x) hT hn hm hb ht hq u (k + 1 + Z (k + 1)) (s + 1) (by omega) g6 (by omega) (by rw [← he2]; exact he)) ⟨Or.inr rfl, Or.inr rfl, Or.inr rfl, Or.inr rfl, Or.inr rfl, Or.inr rfl, Or.inr rfl, Or.inl rfl, trivial⟩ rfl rfl
      · refine mR 2 rfl trivial ?_
        refine mx_E_callV (sp_Tr_first _ k) rfl rfl rfl (fun r c1 hr => ?_)
        obtain ⟨rfl, hz⟩ := hr
        rw [hz]
        refine mR 4 rfl trivial ?_
        rw [nI_1]
        rw [if_pos (by omega)] at he2
        exact mW (lp_Ba_sincereH17 (x := x) hT hn hm hb ht hq u (k + 1) (s + 1) (by omega) g5 (by omega) (by rw [← he2]; exact he)) ⟨Or.inr rfl, Or.inr rfl, Or.inr rfl, Or.inr rfl, Or.inr rfl, Or.inr rfl, Or.inr rfl, Or.inl rfl, trivial⟩ rfl rfl
theorem sp_Ba_sincereH17 (c : mx_M) {n m nd t k : Nat} {K : Nat → Option Nat} {Z : Nat → Nat} {R : Nat → Nat → Nat} (hT : cT c n K Z nd) (hn : n ≤ 6) (hm : m ≤ 9) (hb : ∀ k, k < nd → c 18 k = nI (bS (fun i => gG K Z nd n (R i) k) m)) (ht : t < 512) (hk : k < nd) : mx_Spec 0 2 m_Ba_sincere [.ref 17, .ref 9, .int (nI k), .int (nI t)] c (fun r c' => r = some (.int (nI (msin t m n R K Z nd k))) ∧ c' = c) := by
  refine mx_Spec_E rfl rfl rfl ?_
  refine mR 1 rfl trivial ?_
  refine mx_E_callS (sp_In_bitCount _ t ht) rfl rfl rfl (fun r c1 hr => ?_)
  obtain ⟨rfl, hz⟩ := hr
  rw [hz]
  refine mR 5 rfl trivial ?_
  exact lp_Ba_sincereH17 (x := k) hT hn hm hb ht ⟨rfl, rfl⟩ nd k 0 (by omega) hk (by omega) rfl
theorem lp_Ba_foreseenH17 {Q : Option Value → mx_M → Prop} {c : mx_M} {n m nd t z : Nat} {K : Nat → Option Nat} {Z : Nat → Nat} {R : Nat → Nat → Nat} (hT : cT c n K Z nd) (hn : n ≤ 6) (hm : m ≤ 9) (hb : ∀ x y, x < n → y < n → x ≠ y → c 19 (6 * x + y) = nI (bS (fun i => gV n (R i) x y) m)) (hR : ∀ i, i < m → mperm n (R i)) (ht : t < 2 ^ m) (hz : z < nd) (hze : z + Z z ≤ nd) (hZ1 : 1 ≤ Z z) (hq : ∀ c', mfr [20] c c' → Q (some (.int (nI (mfor t m n R K Z nd z)))) c') :
    ∀ (u k : Nat) (c1 : mx_M), k = z + u → k ≤ z + Z z → mfr [20] c c1 → (∀ j, k ≤ j → j < z + Z z → c1 20 j = nI (mfor t m n R K Z nd j)) → mx_E 0 4 m_Ba_foreseen Q 11 [.ref 17, .ref 9, .int (nI z), .int (nI t), .null, .int (nI k - 1)] [] c1
  | 0, k, c1, hu, hk, hfr, hi => by
    have h63 := hT.2.1.2.1
    have e : k = z := by omega
    rw [e]
    rw [e] at hi
    refine mR 2 rfl trivial ?_
    refine mx_E_br rfl rfl (fun _ => ?_) (fun h => absurd (pr_lt hz (by omega)) h)
    refine mR 4 rfl (mA1 (mI (by omega))) ?_
    rw [nI_cl (by omega), hi z (Nat.le_refl z) (by omega)]
    exact mx_E_iret rfl rfl (hq c1 hfr)
  | u + 1, k, c1, hu, hk, hfr, hi => by
    obtain ⟨j, rfl⟩ : ∃ j, k = j + 1 := ⟨k - 1, by omega⟩
    have h63 := hT.2.1.2.1
    have hj : j < nd := by omega
    have hT1 := cT_fr hT hfr (by decide) (by decide) (by decide) (by decide)
    have hb1 : ∀ x y, x < n → y < n → x ≠ y → c1 19 (6 * x + y) = nI (bS (fun i => gV n (R i) x y) m) := fun x y hx hy hxy => by rw [hfr 19 (by decide)]; exact hb x y hx hy hxy
    have eK := (hT1.2.2 j hj).1
    have nxt : ∀ (v : Int32), v = nI (mfor t m n R K Z nd j) → mx_E 0 4 m_Ba_foreseen Q 11 [.ref 17, .ref 9, .int (nI z), .int (nI t), .null, .int (nI j - 1)] [] (mx_up c1 20 j v) := by
      intro v hv
      refine lp_Ba_foreseenH17 hT hn hm hb hR ht hz hze hZ1 hq u j _ (by omega) (by omega) (mfr_up hfr (by decide)) (fun i h1 h2 => ?_)
      rcases Nat.lt_or_ge j i with h3 | h3
      · rw [mx_up_ix _ _ _ _ _ _ (by omega)]
        exact hi i (by omega) h2
      · have e2 : i = j := by omega
        rw [e2, mx_up_same, hv]
    rw [nI_p1]
    refine mR 2 rfl trivial ?_
    refine mbLt _ _ rfl (by omega) (by omega) (fun h => by omega) (fun _ => ?_)
    refine mR 5 rfl trivial ?_
    refine mx_E_callV (sp_isV _ hT1 hn hj) rfl rfl rfl (fun r c2 hr => ?_)
    obtain ⟨rfl, hz2⟩ := hr
    rw [hz2]
    cases e : K j with
    | some q =>
      refine mbT rfl (fun _ => ?_) (fun h => by cases h)
      refine mR 5 rfl (mA2 (mI (by omega)) (mI (by omega))) ?_
      rw [nI_cl (by omega), eK, e]
      refine mR 2 rfl trivial ?_
      rw [nI_m1]
      exact nxt _ (by rw [show mfor t m n R K Z nd j = q from mF_leaf _ _ hj e]; rfl)
    | none =>
      obtain ⟨g1, g2, g3, g4, g5, g6⟩ := mtree_vote hT.2.1 hj e
      have hnest := mtree_nest hT.2.1 hj (nd - z) z hz (Nat.le_refl _) (by omega) (by omega)
      refine mbT rfl (fun h => by cases h) (fun _ => ?_)
      refine mR 5 rfl trivial ?_
      refine mx_E_callV (sp_Tr_first _ j) rfl rfl rfl (fun r c2 hr => ?_)
      obtain ⟨rfl, hz2⟩ := hr
      rw [hz2]
      refine mR 5 rfl (mA1 (mI (by omega))) ?_
      rw [nI_cl (by omega), hi (j + 1) (by omega) (by omega)]
      refine mx_E_callV (sp_sec _ hT1 hj e) rfl rfl rfl (fun r c2 hr => ?_)
      obtain ⟨rfl, hz2⟩ := hr
      rw [hz2]
      refine mR 2 rfl (mA1 (mI (by omega))) ?_
      rw [nI_cl (by omega), hi (j + 1 + Z (j + 1)) (by omega) (by omega)]
      refine mx_E_callV (sp_Ba_strongerH17 _ hn hm hb1 hR (mfor_lt hT.2.1 g5) (mfor_lt hT.2.1 g6) ht) rfl rfl rfl (fun r c2 hr => ?_)
      obtain ⟨rfl, hz2⟩ := hr
      rw [hz2]
      refine mR 2 rfl (mA1 (mI (by omega))) ?_
      rw [nI_cl (by omega)]
      refine mR 2 rfl trivial ?_
      rw [nI_m1]
      exact nxt _ (by rw [show mfor t m n R K Z nd j = if mfor t m n R K Z nd (j + 1) = mfor t m n R K Z nd (j + 1 + Z (j + 1)) ∨ mbeat t m n R (mfor t m n R K Z nd (j + 1)) (mfor t m n R K Z nd (j + 1 + Z (j + 1))) = true then mfor t m n R K Z nd (j + 1) else mfor t m n R K Z nd (j + 1 + Z (j + 1)) from mF_vote _ _ hT.2.1 hj e])
theorem sp_Ba_foreseenH17 (c : mx_M) {n m nd t k : Nat} {K : Nat → Option Nat} {Z : Nat → Nat} {R : Nat → Nat → Nat} (hT : cT c n K Z nd) (hn : n ≤ 6) (hm : m ≤ 9) (hb : ∀ x y, x < n → y < n → x ≠ y → c 19 (6 * x + y) = nI (bS (fun i => gV n (R i) x y) m)) (hR : ∀ i, i < m → mperm n (R i)) (ht : t < 2 ^ m) (hk : k < nd) : mx_Spec 0 4 m_Ba_foreseen [.ref 17, .ref 9, .int (nI k), .int (nI t)] c (fun r c' => r = some (.int (nI (mfor t m n R K Z nd k))) ∧ mfr [20] c c') := by
  have h63 := hT.2.1.2.1
  have hz : k + Z k ≤ nd ∧ 1 ≤ Z k := by
    rcases hT.2.1.2.2.2 k hk with ⟨q', g1, g2, g3⟩ | ⟨g1, g2, g3, g4, g5⟩ <;> omega
  refine mx_Spec_E rfl rfl rfl ?_
  refine mR 11 rfl (mA1 (mI (by omega))) ?_
  rw [nI_cl (by omega), (hT.2.2 k hk).2.1, nI_add]
  exact mW (lp_Ba_foreseenH17 hT hn hm hb hR ht hk hz.1 hz.2 (fun c' h1 => ⟨rfl, h1⟩) (Z k) (k + Z k) c rfl (Nat.le_refl _) (mfr_rf _ _) (fun j h1 h2 => by omega)) ⟨Or.inr rfl, Or.inr rfl, Or.inr rfl, Or.inr rfl, Or.inl rfl, Or.inr rfl, trivial⟩ rfl rfl
theorem sp_Ba_outcomeH17 (c : mx_M) {n m nd t w : Nat} {K : Nat → Option Nat} {Z : Nat → Nat} {R : Nat → Nat → Nat} (hT : cT c n K Z nd) (hn : n ≤ 6) (hm : m ≤ 9) (hb : bH c w m n K Z nd R) (hR : ∀ i, i < m → mperm n (R i)) (ht : t < 2 ^ m) (hw : w < 2) : mx_Spec 0 5 m_Ba_outcome [.ref 17, .ref 9, .int (nI w), .int (nI t)] c (fun r c' => r = some (.int (nI (mout w t m n R K Z nd))) ∧ mfr [20] c c') := by
  have h5 := pw_le hm
  refine mx_Spec_E rfl rfl rfl ?_
  refine mR 1 rfl trivial ?_
  rcases (show w = 0 ∨ w = 1 by omega) with rfl | rfl
  · refine mx_E_br rfl rfl (fun h => absurd rfl h) (fun _ => ?_)
    refine mR 4 rfl trivial ?_
    refine mx_E_callV (sp_Ba_sincereH17 (k := 0) _ hT hn hm (hb.1 rfl) (by omega) hT.2.1.1) rfl rfl rfl (fun r c1 hr => ?_)
    obtain ⟨rfl, hz⟩ := hr
    rw [hz]
    refine mR 1 rfl trivial ?_
    exact mx_E_iret rfl rfl ⟨rfl, mfr_rf _ _⟩
  · refine mx_E_br rfl rfl (fun _ => ?_) (fun h => absurd (by decide) h)
    refine mR 4 rfl trivial ?_
    refine mx_E_callV (sp_Ba_foreseenH17 (k := 0) _ hT hn hm (hb.2 (by decide)) hR ht hT.2.1.1) rfl rfl rfl (fun r c1 hr => ?_)
    obtain ⟨rfl, hz⟩ := hr
    exact mx_E_iret rfl rfl ⟨rfl, hz⟩
/-- a bit of a number -/
def ib (v : Int32) (i : Nat) : Bool := v.toBitVec.getLsbD i
theorem ib_nI {s i : Nat} (hi : i < 32) : ib (nI s) i = s.testBit i := by
  unfold ib nI
  rw [Int32.toBitVec_ofNat', BitVec.getLsbD_ofNat, decide_eq_true hi, Bool.true_and]
theorem ib_or (u v : Int32) (i : Nat) : ib (u ||| v) i = (ib u i || ib v i) := by
  unfold ib
  rw [Int32.toBitVec_or, BitVec.getLsbD_or]
theorem ib_and (u v : Int32) (i : Nat) : ib (u &&& v) i = (ib u i && ib v i) := by
  unfold ib
  rw [Int32.toBitVec_and, BitVec.getLsbD_and]
theorem ib_m1 : ∀ i, i < 32 → ib (-1) i = true := by decide +kernel
theorem ib_not (u : Int32) {i : Nat} (hi : i < 32) : ib (u ^^^ -1) i = !(ib u i) := by
  have h := ib_m1 i hi
  unfold ib at h ⊢
  rw [Int32.toBitVec_xor, BitVec.getLsbD_xor, h]
  cases u.toBitVec.getLsbD i <;> rfl
theorem ib_ext {u v : Int32} (h : ∀ i, i < 32 → ib u i = ib v i) : u = v := Int32.toBitVec_inj.mp (BitVec.eq_of_getLsbD_eq (fun i hi => h i hi))
def iW (v : Int32) (i : Nat) (t : Bool) : Int32 := if t then v ||| nI (2 ^ i) else v &&& (nI (2 ^ i) ^^^ -1)
theorem iW_or {v : Int32} {i : Nat} : v ||| nI (2 ^ i) = iW v i true := rfl
theorem iW_an {v : Int32} {i : Nat} : v &&& (nI (2 ^ i) ^^^ -1) = iW v i false := rfl
theorem iW_ib {v : Int32} {i j : Nat} {t : Bool} (hj : j < 32) : ib (iW v i t) j = if j = i then t else ib v j := by
  cases t with
  | true =>
    rw [← iW_or, ib_or, ib_nI hj, Nat.testBit_two_pow]
    by_cases e : j = i
    · rw [if_pos e, decide_eq_true e.symm, Bool.or_true]
    · rw [if_neg e, decide_eq_false (fun z => e z.symm), Bool.or_false]
  | false =>
    rw [← iW_an, ib_and, ib_not _ hj, ib_nI hj, Nat.testBit_two_pow]
    by_cases e : j = i
    · rw [if_pos e, decide_eq_true e.symm, Bool.not_true, Bool.and_false]
    · rw [if_neg e, decide_eq_false (fun z => e z.symm), Bool.not_false, Bool.and_true]
def aVI (n i : Nat) (f : Nat → Nat) (S : Nat → Nat → Int32) (p q x y : Nat) : Int32 := if aDn p q (min (mpos f n x) (mpos f n y)) (max (mpos f n x) (mpos f n y)) then iW (S x y) i (gV n f x y) else S x y
theorem aVI_0 {n i : Nat} {f : Nat → Nat} {S : Nat → Nat → Int32} {x y : Nat} : aVI n i f S 0 0 x y = S x y := if_neg (by unfold aDn; omega)
theorem aVI_nx {n i p : Nat} {f : Nat → Nat} {S : Nat → Nat → Int32} {x y : Nat} (hf : mperm n f) (hx : x < n) (hy : y < n) (hxy : x ≠ y) : aVI n i f S p n x y = aVI n i f S (p + 1) (p + 2) x y := by
  have h1 := mpos_lt hf hx
  have h2 := mpos_lt hf hy
  have hne : mpos f n x ≠ mpos f n y := fun e => hxy (mpos_inj hf hx hy e)
  unfold aVI
  congr 1
  unfold aDn
  exact propext (by omega)
theorem aVI_p0 {n i p : Nat} {f : Nat → Nat} {S : Nat → Nat → Int32} {x y : Nat} (hf : mperm n f) (hx : x < n) (hy : y < n) (hxy : x ≠ y) : aVI n i f S p 0 x y = aVI n i f S p (p + 1) x y := by
  have hne : mpos f n x ≠ mpos f n y := fun e => hxy (mpos_inj hf hx hy e)
  unfold aVI
  congr 1
  unfold aDn
  exact propext (by omega)
theorem lp_Ba_castSincereI21 {Q : Option Value → mx_M → Prop} {c : mx_M} {n nd at0 w : Nat} {K : Nat → Option Nat} {Z : Nat → Nat} {f : Nat → Nat} {S : Nat → Int32} (hT : cT c n K Z nd) (hn : n ≤ 6) (hw : w < 9) (hat : at0 + n ≤ 6) (hf : ∀ p, p < n → f p < n ∧ c 31 (at0 + p) = nI (f p)) (hS : ∀ k, k < nd → c 22 k = S k) (hq : ∀ c', mfr [22] c c' → (∀ k, k < nd → c' 22 k = iW (S k) w (gG K Z nd n f k)) → Q none c') :
    ∀ (u k : Nat) (c1 : mx_M), k + u = nd → mfr [22] c c1 → (∀ j, j < k → c1 22 j = iW (S j) w (gG K Z nd n f j)) → (∀ j, k ≤ j → c1 22 j = c 22 j) → mx_E 0 3 m_Ba_castSincere Q 2 [.ref 21, .ref 9, .ref 31, .int (nI at0), .int (nI n), .int (nI (2 ^ w)), .int (nI k)] [] c1
  | 0, k, c1, h, hfr, h1, h2 => by
    have e : k = nd := by omega
    have h63 := hT.2.1.2.1
    rw [e] at h1
    rw [e]
    refine mR 3 rfl trivial ?_
    rw [hfr 9 (by decide), hT.1]
    refine mbGe _ _ rfl (by omega) (by omega) (fun _ => ?_) (fun h => by omega)
    exact mx_E_vret rfl rfl (hq c1 hfr h1)
  | u + 1, k, c1, h, hfr, h1, h2 => by
    have h63 := hT.2.1.2.1
    have hk : k < nd := by omega
    have hT1 := cT_fr hT hfr (by decide) (by decide) (by decide) (by decide)
    have eS := hS k hk
    have ev : c1 22 k = S k := by rw [h2 k (Nat.le_refl k)]; exact eS
    have nxt : ∀ v, v = iW (S k) w (gG K Z nd n f k) → mx_E 0 3 m_Ba_castSincere Q 2 [.ref 21, .ref 9, .ref 31, .int (nI at0), .int (nI n), .int (nI (2 ^ w)), .int (nI (k + 1))] [] (mx_up c1 22 k v) := by
      intro v hv
      refine lp_Ba_castSincereI21 hT hn hw hat hf hS hq u (k + 1) _ (by omega) (mfr_up hfr (by decide)) (fun j hj => ?_) (fun j hj => ?_)
      · by_cases e : j = k
        · rw [e, mx_up_same, hv]
        · rw [mx_up_ix _ _ _ _ _ _ e]
          exact h1 j (by omega)
      · rw [mx_up_ix _ _ _ _ _ _ (by omega)]
        exact h2 j (by omega)
    have no : gG K Z nd n f k = false → mx_E 0 3 m_Ba_castSincere Q 26 [.ref 21, .ref 9, .ref 31, .int (nI at0), .int (nI n), .int (nI (2 ^ w)), .int (nI k)] [] c1 := by
      intro hg
      refine mR 10 rfl (mA2 (mI (by omega)) (mI (by omega))) ?_
      rw [nI_cl (by omega), ev, iW_an]
      refine mR 2 rfl trivial ?_
      rw [nI_1]
      exact nxt _ (by rw [hg])
    refine mR 3 rfl trivial ?_
    rw [hfr 9 (by decide), hT.1]
    refine mbGe _ _ rfl (by omega) (by omega) (fun h => by omega) (fun _ => ?_)
    refine mR 2 rfl trivial ?_
    refine mx_E_callV (sp_isV _ hT1 hn hk) rfl rfl rfl (fun r c2 hr => ?_)
    obtain ⟨rfl, hz⟩ := hr
    rw [hz]
    cases e : K k with
    | some q =>
      refine mbT rfl (fun _ => ?_) (fun h => by cases h)
      exact no (by unfold gG; rw [e]; rfl)
    | none =>
      refine mbT rfl (fun h => by cases h) (fun _ => ?_)
      refine mR 5 rfl trivial ?_
      refine mx_E_callV (sp_Tr_votesFirst31 _ hT1 hn hk e hat (fun p hp => by rw [hfr 31 (by decide)]; exact hf p hp)) rfl rfl rfl (fun r c2 hr => ?_)
      obtain ⟨rfl, hz⟩ := hr
      rw [hz]
      have hg : gG K Z nd n f k = mlk f n (mset K Z nd (k + 1)) (mset K Z nd (k + 1 + Z (k + 1))) := by unfold gG; rw [e]; rfl
      refine mbT rfl (fun hb => no (by rw [hg, hb])) (fun hb => ?_)
      refine mR 9 rfl (mA2 (mI (by omega)) (mI (by omega))) ?_
      rw [nI_cl (by omega), ev, iW_or]
      refine mR 2 rfl trivial ?_
      rw [nI_1]
      exact nxt _ (by rw [hg, hb])
theorem sp_Ba_castSincereI21 (c : mx_M) {n nd at0 w : Nat} {K : Nat → Option Nat} {Z : Nat → Nat} {f : Nat → Nat} {S : Nat → Int32} (hT : cT c n K Z nd) (hn : n ≤ 6) (hw : w < 9) (hat : at0 + n ≤ 6) (hf : ∀ p, p < n → f p < n ∧ c 31 (at0 + p) = nI (f p)) (hS : ∀ k, k < nd → c 22 k = S k) : mx_Spec 0 3 m_Ba_castSincere [.ref 21, .ref 9, .ref 31, .int (nI at0), .int (nI n), .int (nI (2 ^ w))] c (fun r c' => r = none ∧ mfr [22] c c' ∧ ∀ k, k < nd → c' 22 k = iW (S k) w (gG K Z nd n f k)) := by
  refine mx_Spec_E rfl rfl rfl ?_
  refine mR 2 rfl trivial ?_
  exact lp_Ba_castSincereI21 hT hn hw hat hf hS (fun c' h1 h2 => ⟨rfl, h1, h2⟩) nd 0 c (by omega) (mfr_rf _ _) (fun j hj => absurd hj (Nat.not_lt_zero j)) (fun _ _ => rfl)
theorem lp_Ba_castAboveI21_in {Q : Option Value → mx_M → Prop} {c : mx_M} {n at0 w p : Nat} {f : Nat → Nat} {S : Nat → Nat → Int32} (hn : n ≤ 6) (hw : w < 9) (hp : p < n) (hat : at0 + n ≤ 6) (hpm : mperm n f) (hf : ∀ p, p < n → c 31 (at0 + p) = nI (f p))
    (hk : ∀ c', mfr [23] c c' → (∀ x y, x < n → y < n → x ≠ y → c' 23 (6 * x + y) = aVI n w f S (p + 1) (p + 2) x y) → mx_E 0 2 m_Ba_castAbove Q 2 [.ref 21, .ref 31, .int (nI at0), .int (nI n), .int (nI (2 ^ w)), .int (nI (p + 1)), .null, .null, .null] [] c') :
    ∀ (u q : Nat) (c1 : mx_M), q + u = n → p < q → mfr [23] c c1 → (∀ x y, x < n → y < n → x ≠ y → c1 23 (6 * x + y) = aVI n w f S p q x y) → mx_E 0 2 m_Ba_castAbove Q 9 [.ref 21, .ref 31, .int (nI at0), .int (nI n), .int (nI (2 ^ w)), .int (nI p), .int (nI q), .null, .null] [] c1
  | 0, q, c1, h, hpq, hfr, hi => by
    have e : q = n := by omega
    subst e
    refine mR 2 rfl trivial ?_
    refine mbGe _ _ rfl (by omega) (by omega) (fun _ => ?_) (fun h => by omega)
    refine mR 2 rfl trivial ?_
    rw [nI_1]
    refine mW (hk c1 hfr (fun x y hx hy hxy => ?_)) ⟨Or.inr rfl, Or.inr rfl, Or.inr rfl, Or.inr rfl, Or.inr rfl, Or.inr rfl, Or.inl rfl, Or.inl rfl, Or.inl rfl, trivial⟩ rfl rfl
    rw [hi x y hx hy hxy, aVI_nx hpm hx hy hxy]
  | u + 1, q, c1, h, hpq, hfr, hi => by
    have hqn : q < n := by omega
    have lp := hpm.1 p hp
    have lq := hpm.1 q hqn
    have hne : f p ≠ f q := fun e => by have := hpm.2 p q hp hqn e; omega
    have r31 : ∀ z, c1 31 z = c 31 z := fun z => by rw [hfr 31 (by decide)]
    have pp := mpos_at hpm hp
    have pq := mpos_at hpm hqn
    refine mR 2 rfl trivial ?_
    refine mbGe _ _ rfl (by omega) (by omega) (fun h => by omega) (fun _ => ?_)
    refine mR 12 rfl (mA2 (by rw [nI_add]; exact mI (by omega)) (by rw [nI_add]; exact mI (by omega))) ?_
    rw [nI_add, nI_add, nI_cl (a := at0 + p) (by omega), nI_cl (a := at0 + q) (by omega), r31, r31, hf p hp, hf q hqn]
    have e1 : nI (f p) * 6 + nI (f q) = nI (6 * f p + f q) := by rw [show (6 : Int32) = nI 6 from rfl, pk_mul, nI_add, Nat.mul_comm]
    have e2 : nI (f q) * 6 + nI (f p) = nI (6 * f q + f p) := by rw [show (6 : Int32) = nI 6 from rfl, pk_mul, nI_add, Nat.mul_comm]
    have v1 : aVI n w f S p q (f p) (f q) = S (f p) (f q) := if_neg (by unfold aDn; rw [pp, pq]; omega)
    have v2 : aVI n w f S p q (f q) (f p) = S (f q) (f p) := if_neg (by unfold aDn; rw [pp, pq]; omega)
    refine mR 12 rfl (mA2 (by rw [e1]; exact mI (by omega)) (by rw [e1]; exact mI (by omega))) ?_
    rw [e1, nI_cl (a := 6 * f p + f q) (by omega), hi _ _ lp lq hne, v1, iW_or]
    obtain ⟨c2, hc2⟩ : ∃ c2, c2 = mx_up c1 23 (6 * f p + f q) (iW (S (f p) (f q)) w true) := ⟨_, rfl⟩
    rw [← hc2]
    have g2 : c2 23 (6 * f q + f p) = S (f q) (f p) := by rw [hc2, mx_up_ix _ _ _ _ _ _ (by omega), hi _ _ lq lp (fun e => hne e.symm), v2]
    refine mR 14 rfl (mA2 (by rw [e2]; exact mI (by omega)) (by rw [e2]; exact mI (by omega))) ?_
    rw [e2, nI_cl (a := 6 * f q + f p) (by omega), g2, iW_an]
    refine mR 2 rfl trivial ?_
    rw [nI_1]
    refine mW (lp_Ba_castAboveI21_in hn hw hp hat hpm hf hk u (q + 1) _ (by omega) (by omega) (mfr_up (by rw [hc2]; exact mfr_up hfr (by decide)) (by decide)) (fun x y hx hy hxy => ?_)) ⟨Or.inr rfl, Or.inr rfl, Or.inr rfl, Or.inr rfl, Or.inr rfl, Or.inr rfl, Or.inr rfl, Or.inl rfl, Or.inl rfl, trivial⟩ rfl rfl
    by_cases ea : x = f q ∧ y = f p
    · rw [ea.1, ea.2, mx_up_same]
      unfold aVI
      rw [if_pos (by unfold aDn; rw [pp, pq]; omega), show gV n f (f q) (f p) = false from decide_eq_false (by rw [pp, pq]; omega)]
    · rw [mx_up_ix _ _ _ _ _ _ (by omega), hc2]
      by_cases eb : x = f p ∧ y = f q
      · rw [eb.1, eb.2, mx_up_same]
        unfold aVI
        rw [if_pos (by unfold aDn; rw [pp, pq]; omega), show gV n f (f p) (f q) = true from decide_eq_true (by rw [pp, pq]; omega)]
      · rw [mx_up_ix _ _ _ _ _ _ (by omega), hi x y hx hy hxy]
        unfold aVI
        congr 1
        unfold aDn
        have nx := mpos_lt hpm hx
        have ny := mpos_lt hpm hy
        have a1 : ¬ (mpos f n x = q ∧ mpos f n y = p) := fun z => ea ⟨by rw [← nx.2, z.1], by rw [← ny.2, z.2]⟩
        have a2 : ¬ (mpos f n x = p ∧ mpos f n y = q) := fun z => eb ⟨by rw [← nx.2, z.1], by rw [← ny.2, z.2]⟩
        exact propext (by omega)
theorem lp_Ba_castAboveI21 {Q : Option Value → mx_M → Prop} {c : mx_M} {n at0 w : Nat} {f : Nat → Nat} {S : Nat → Nat → Int32} (hn : n ≤ 6) (hw : w < 9) (hat : at0 + n ≤ 6) (hpm : mperm n f) (hf : ∀ p, p < n → c 31 (at0 + p) = nI (f p)) (hq : ∀ c', mfr [23] c c' → (∀ x y, x < n → y < n → x ≠ y → c' 23 (6 * x + y) = aVI n w f S n (n + 1) x y) → Q none c') :
    ∀ (u p : Nat) (c1 : mx_M), p + u = n → mfr [23] c c1 → (∀ x y, x < n → y < n → x ≠ y → c1 23 (6 * x + y) = aVI n w f S p (p + 1) x y) → mx_E 0 2 m_Ba_castAbove Q 2 [.ref 21, .ref 31, .int (nI at0), .int (nI n), .int (nI (2 ^ w)), .int (nI p), .null, .null, .null] [] c1
  | 0, p, c1, h, hfr, hi => by
    have e : p = n := by omega
    subst e
    refine mR 2 rfl trivial ?_
    refine mbGe _ _ rfl (by omega) (by omega) (fun _ => ?_) (fun h => by omega)
    exact mx_E_vret rfl rfl (hq c1 hfr hi)
  | u + 1, p, c1, h, hfr, hi => by
    refine mR 2 rfl trivial ?_
    refine mbGe _ _ rfl (by omega) (by omega) (fun h => by omega) (fun _ => ?_)
    refine mR 4 rfl trivial ?_
    rw [nI_1]
    exact lp_Ba_castAboveI21_in hn hw (by omega) hat hpm hf (fun c2 hf2 h2 => lp_Ba_castAboveI21 hn hw hat hpm hf hq u (p + 1) c2 (by omega) hf2 h2) (n - (p + 1)) (p + 1) c1 (by omega) (by omega) hfr hi
theorem sp_Ba_castAboveI21 (c : mx_M) {n at0 w : Nat} {f : Nat → Nat} {S : Nat → Nat → Int32} (hn : n ≤ 6) (hw : w < 9) (hat : at0 + n ≤ 6) (hpm : mperm n f) (hf : ∀ p, p < n → c 31 (at0 + p) = nI (f p)) (hS : ∀ x y, x < n → y < n → x ≠ y → c 23 (6 * x + y) = S x y) : mx_Spec 0 2 m_Ba_castAbove [.ref 21, .ref 31, .int (nI at0), .int (nI n), .int (nI (2 ^ w))] c (fun r c' => r = none ∧ mfr [23] c c' ∧ ∀ x y, x < n → y < n → x ≠ y → c' 23 (6 * x + y) = iW (S x y) w (gV n f x y)) := by
  refine mx_Spec_E rfl rfl rfl ?_
  refine mR 2 rfl trivial ?_
  refine lp_Ba_castAboveI21 (S := S) hn hw hat hpm hf (fun c' h1 h2 => ⟨rfl, h1, fun x y hx hy hxy => ?_⟩) n 0 c (by omega) (mfr_rf _ _) (fun x y hx hy hxy => ?_)
  · rw [hS x y hx hy hxy, ← aVI_p0 hpm hx hy hxy, aVI_0]
  · rw [h2 x y hx hy hxy]
    have nx := mpos_lt hpm hx
    have ny := mpos_lt hpm hy
    exact if_pos (by unfold aDn; omega)
theorem sp_Ba_castII (c : mx_M) {n nd w : Nat} {K : Nat → Option Nat} {Z : Nat → Nat} {f : Nat → Nat} (hT : cT c n K Z nd) (hn : n ≤ 6) (hw : w < 9) (hpm : mperm n f) (hf : ∀ p, p < n → c 31 (0 + p) = nI (f p)) : mx_Spec 0 4 m_Ba_cast [.ref 21, .ref 9, .ref 31, .int (nI 0), .int (nI n), .int (nI (2 ^ w))] c (fun r c' => r = none ∧ mfr [22, 23] c c' ∧ (∀ k, k < nd → c' 22 k = iW (c 22 k) w (gG K Z nd n f k)) ∧ ∀ x y, x < n → y < n → x ≠ y → c' 23 (6 * x + y) = iW (c 23 (6 * x + y)) w (gV n f x y)) := by
  refine mx_Spec_E rfl rfl rfl ?_
  refine mR 6 rfl trivial ?_
  refine mx_E_callV (sp_Ba_castSincereI21 _ (S := fun k => c 22 k) hT hn hw (by omega) (fun p hp => ⟨hpm.1 p hp, hf p hp⟩) (fun _ _ => rfl)) rfl rfl rfl (fun r c1 hr => ?_)
  obtain ⟨rfl, h1, h2⟩ := hr
  refine mR 5 rfl trivial ?_
  refine mx_E_callV (sp_Ba_castAboveI21 _ (S := fun x y => c 23 (6 * x + y)) hn hw (by omega) hpm (fun p hp => by rw [h1 31 (by decide)]; exact hf p hp) (fun x y hx hy hxy => by rw [h1 23 (by decide)])) rfl rfl rfl (fun r c2 hr => ?_)
  obtain ⟨rfl, h3, h4⟩ := hr
  refine mx_E_vret rfl rfl ⟨rfl, mfr_tr (mfr_mo h1 (by decide)) (mfr_mo h3 (by decide)), fun k hk => ?_, h4⟩
  rw [h3 22 (by decide)]
  exact h2 k hk
theorem mixI {q1 q2 : Nat → Bool} {m s : Nat} {v : Int32} (hm : m ≤ 9) (hs : s < 2 ^ m) (hv : ∀ i, i < m → ib v i = q2 i) : (nI (bS q1 m) &&& (nI s ^^^ -1)) ||| (v &&& nI s) = nI (bS (fun i => if s.testBit i then q2 i else q1 i) m) := by
  apply ib_ext
  intro j hj
  rw [ib_or, ib_and, ib_and, ib_not _ hj, ib_nI hj, ib_nI hj, ib_nI hj, bS_tb, bS_tb]
  by_cases e : j < m
  · rw [hv j e, decide_eq_true e]
    cases s.testBit j <;> cases q1 j <;> cases q2 j <;> rfl
  · have z : s.testBit j = false := Nat.testBit_lt_two_pow (Nat.lt_of_lt_of_le hs (Nat.pow_le_pow_right (show 0 < 2 by decide) (by omega)))
    rw [z, decide_eq_false e]
    cases ib v j <;> rfl
theorem sp_Ba_mixI (c : mx_M) {n m nd s : Nat} {K : Nat → Option Nat} {Z : Nat → Nat} {R R' : Nat → Nat → Nat} (hm : m ≤ 9) (hs : s < 2 ^ m) (hn : n ≤ 6) (hd : nd ≤ 63) (h1 : bQ c 14 15 m n K Z nd R) (h2 : ∀ k, k < nd → ∀ i, i < m → ib (c 22 k) i = gG K Z nd n (R' i) k) (h3 : ∀ x y, x < n → y < n → x ≠ y → ∀ i, i < m → ib (c 23 (6 * x + y)) i = gV n (R' i) x y) : mx_Spec 0 1 m_Ba_mix [.ref 17, .ref 13, .ref 21, .int (nI s)] c (fun r c' => r = none ∧ mfr [18, 19] c c' ∧ bQ c' 18 19 m n K Z nd (mMx R R' s)) := by
  refine mx_Spec_E rfl rfl rfl ?_
  refine mR 2 rfl trivial ?_
  refine mS (lp_Ba_mix1 ?_ 63 0 rfl) rfl rfl (by rw [fa_fill_0, mx_upR_self])
  refine mR 2 rfl trivial ?_
  obtain ⟨c1, hc1⟩ : ∃ c1, c1 = mx_upR c 18 (fa_fill (mixF c 14 22 (nI s)) (c 18) 63) := ⟨_, rfl⟩
  rw [← hc1]
  refine mS (lp_Ba_mix2 (c := c1) ?_ 36 0 rfl) rfl rfl (by rw [fa_fill_0, mx_upR_self])
  refine ⟨rfl, fun r hr => ?_, fun k hk => ?_, fun x y hx hy hxy => ?_⟩
  · rw [mx_upR_rid _ _ _ _ (fun e => hr (by rw [e]; decide)), hc1, mx_upR_rid _ _ _ _ (fun e => hr (by rw [e]; decide))]
  · rw [mx_upR_rid _ _ _ 18 (by decide), hc1, mx_upR_row, fa_fill_in (by omega)]
    unfold mixF
    rw [h1.1 k hk, mixI hm hs (h2 k hk)]
    refine congrArg nI (bS_congr (fun i _ => ?_))
    unfold mMx
    split <;> rfl
  · rw [mx_upR_row, fa_fill_in (by omega)]
    unfold mixF
    rw [hc1, mx_upR_rid _ _ _ 15 (by decide), mx_upR_rid _ _ _ 23 (by decide), h1.2 x y hx hy hxy, mixI hm hs (h3 x y hx hy hxy)]
    refine congrArg nI (bS_congr (fun i _ => ?_))
    unfold mMx
    split <;> rfl
