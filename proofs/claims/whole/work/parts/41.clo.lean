/-! the class: bits, orders, which branch is liked -/
/-- those below m of whom q holds, as bits -/
def bS (q : Nat → Bool) : Nat → Nat
  | 0 => 0
  | m + 1 => if q m then bS q m ||| 2 ^ m else bS q m
theorem bS_tb (q : Nat → Bool) : ∀ m i, (bS q m).testBit i = (decide (i < m) && q i)
  | 0, i => by
    show (0 : Nat).testBit i = _
    simp
  | m + 1, i => by
    show (if q m then bS q m ||| 2 ^ m else bS q m).testBit i = _
    have ih := bS_tb q m i
    by_cases e : i = m
    · subst e
      by_cases h : q i = true
      · rw [if_pos h, Nat.testBit_or, Nat.testBit_two_pow_self, Bool.or_true, h, decide_eq_true (by omega)]
        rfl
      · simp at h
        rw [if_neg (by rw [h]; decide), ih, h, Bool.and_false, Bool.and_false]
    · have e2 : decide (i < m + 1) = decide (i < m) := by
        congr 1
        exact propext ⟨fun z => by omega, fun z => by omega⟩
      rw [e2, ← ih]
      split
      · rw [Nat.testBit_or, Nat.testBit_two_pow_of_ne (fun z => e z.symm), Bool.or_false]
      · rfl
theorem bS_lt (q : Nat → Bool) : ∀ m, bS q m < 2 ^ m
  | 0 => Nat.zero_lt_one
  | m + 1 => by
    have ih := bS_lt q m
    have h2 : 2 ^ m < 2 ^ (m + 1) := Nat.pow_lt_pow_right (by decide) (by omega)
    show (if q m then bS q m ||| 2 ^ m else bS q m) < 2 ^ (m + 1)
    split
    · exact Nat.or_lt_two_pow (by omega) h2
    · omega
theorem bS_512 (q : Nat → Bool) {m : Nat} (h : m ≤ 9) : bS q m < 512 := Nat.lt_of_lt_of_le (bS_lt q m) (Nat.pow_le_pow_right (show 0 < 2 by decide) h)
theorem bS_congr {q q' : Nat → Bool} : ∀ {m}, (∀ i, i < m → q i = q' i) → bS q m = bS q' m
  | 0, _ => rfl
  | m + 1, h => by
    show (if q m then bS q m ||| 2 ^ m else bS q m) = (if q' m then bS q' m ||| 2 ^ m else bS q' m)
    rw [bS_congr (m := m) (fun i hi => h i (by omega)), h m (by omega)]
/-- one of them votes otherwise -/
def bW (s i : Nat) (t : Bool) : Nat := if t then s ||| 2 ^ i else s &&& (511 ^^^ 2 ^ i)
theorem t511 : ∀ j, j < 9 → (511 : Nat).testBit j = true := by decide
theorem bW_tb {s i : Nat} {t : Bool} (hs : s < 512) (hi : i < 9) (j : Nat) : (bW s i t).testBit j = if j = i then t else s.testBit j := by
  unfold bW
  by_cases e : j = i
  · subst e
    rw [if_pos rfl]
    cases t with
    | true => simp
    | false =>
      rw [if_neg (by decide), Nat.testBit_and, Nat.testBit_xor, Nat.testBit_two_pow_self, t511 j hi]
      simp
  · rw [if_neg e]
    cases t with
    | true =>
      rw [if_pos rfl, Nat.testBit_or, Nat.testBit_two_pow_of_ne (fun z => e z.symm), Bool.or_false]
    | false =>
      rw [if_neg (by decide), Nat.testBit_and, Nat.testBit_xor, Nat.testBit_two_pow_of_ne (fun z => e z.symm), Bool.xor_false]
      rcases Nat.lt_or_ge j 9 with h | h
      · rw [t511 j h, Bool.and_true]
      · rw [Nat.testBit_lt_two_pow (Nat.lt_of_lt_of_le hs (show 512 ≤ 2 ^ j from Nat.le_trans (by decide) (Nat.pow_le_pow_right (show 0 < 2 by decide) h)))]
        rfl
theorem bW_in {q : Nat → Bool} {m i : Nat} {t : Bool} (hm : m ≤ 9) (hi : i < m) : bW (bS q m) i t = bS (fun j => if j = i then t else q j) m := by
  apply Nat.eq_of_testBit_eq
  intro j
  rw [bW_tb (bS_512 q hm) (by omega), bS_tb, bS_tb]
  by_cases e : j = i
  · rw [if_pos e, if_pos e, decide_eq_true (by omega)]
    rfl
  · rw [if_neg e, if_neg e]
theorem bW_new {q : Nat → Bool} {m : Nat} (hm : m < 9) : bW (bS q m) m (q m) = bS q (m + 1) := by
  apply Nat.eq_of_testBit_eq
  intro j
  rw [bW_tb (bS_512 q (by omega)) hm, bS_tb, bS_tb]
  by_cases e : j = m
  · rw [if_pos e, e, decide_eq_true (by omega)]
    rfl
  · rw [if_neg e]
    congr 1
    congr 1
    exact propext ⟨fun z => by omega, fun z => by omega⟩
theorem bW_lt {s i : Nat} {t : Bool} (hs : s < 512) (hi : i < 9) : bW s i t < 512 := by
  unfold bW
  split
  · exact Nat.or_lt_two_pow (n := 9) hs (Nat.lt_of_lt_of_le (Nat.pow_lt_pow_right (by decide) hi) (by decide))
  · exact Nat.lt_of_le_of_lt Nat.and_le_left hs
theorem bW_or {s i : Nat} : nI s ||| nI (2 ^ i) = nI (bW s i true) := by
  rw [fa_or]
  rfl
theorem bW_an0 : ∀ i, i < 9 → ∀ s, s < 512 → nI s &&& (nI (2 ^ i) ^^^ -1) = nI (s &&& (511 ^^^ 2 ^ i)) := by decide +kernel
theorem bW_an {s i : Nat} (hs : s < 512) (hi : i < 9) : nI s &&& (nI (2 ^ i) ^^^ -1) = nI (bW s i false) := bW_an0 i hi s hs
/-- counted -/
theorem fb_ct_ex {p : Nat → Bool} {m : Nat} : ∀ {k}, m ≤ k → (∀ i, m ≤ i → i < k → p i = false) → fb_ct p k = fb_ct p m
  | 0, h, _ => by
    have e : m = 0 := by omega
    rw [e]
  | k + 1, h, h0 => by
    rcases Nat.lt_or_ge m (k + 1) with h1 | h1
    · show fb_ct p k + (if p k then 1 else 0) = _
      rw [h0 k (by omega) (by omega), fb_ct_ex (k := k) (by omega) (fun i hi hk => h0 i hi (by omega))]
      rfl
    · have e : m = k + 1 := by omega
      rw [e]
theorem fb_ct_cg {p q : Nat → Bool} : ∀ {k}, (∀ i, i < k → p i = q i) → fb_ct p k = fb_ct q k
  | 0, _ => rfl
  | k + 1, h => by
    show fb_ct p k + (if p k then 1 else 0) = fb_ct q k + (if q k then 1 else 0)
    rw [fb_ct_cg (k := k) (fun i hi => h i (by omega)), h k (by omega)]
theorem pop_bS {q : Nat → Bool} {m t : Nat} (hm : m ≤ 9) : mpop (bS q m &&& t) = fb_ct (fun i => t.testBit i && q i) m := by
  unfold mpop
  rw [fb_ct_ex (m := m) hm (fun i h1 h2 => by rw [Nat.testBit_and, bS_tb, decide_eq_false (by omega)]; rfl)]
  refine fb_ct_cg (fun i hi => ?_)
  rw [Nat.testBit_and, bS_tb, decide_eq_true hi, Bool.true_and, Bool.and_comm]
theorem and512 {a b : Nat} (h : a < 512) : a &&& b < 512 := Nat.lt_of_le_of_lt Nat.and_le_left h
theorem pop_all {m t : Nat} (hm : m ≤ 9) (ht : t < 2 ^ m) : mpop t = fb_ct (fun i => t.testBit i) m := by
  unfold mpop
  refine fb_ct_ex hm (fun i h1 h2 => ?_)
  exact Nat.testBit_lt_two_pow (Nat.lt_of_lt_of_le ht (Nat.pow_le_pow_right (show 0 < 2 by decide) h1))
theorem ct_split {p q : Nat → Bool} : ∀ {k}, fb_ct (fun i => p i && q i) k + fb_ct (fun i => p i && !(q i)) k = fb_ct p k
  | 0 => rfl
  | k + 1 => by
    have ih := ct_split (p := p) (q := q) (k := k)
    show (fb_ct (fun i => p i && q i) k + (if (p k && q k) then 1 else 0)) + (fb_ct (fun i => p i && !(q i)) k + (if (p k && !(q k)) then 1 else 0)) = fb_ct p k + (if p k then 1 else 0)
    cases p k <;> cases q k <;> simp <;> omega
/-- who doesn't rank x higher ranks y higher -/
theorem mvt_sum {t m n : Nat} {R : Nat → Nat → Nat} {x y : Nat} (hm : m ≤ 9) (ht : t < 2 ^ m) (hR : ∀ i, i < m → mperm n (R i)) (hx : x < n) (hy : y < n) (hxy : x ≠ y) : mvt t m n R x y + mvt t m n R y x = mpop t := by
  rw [pop_all hm ht, ← ct_split (q := fun i => decide (mpos (R i) n x < mpos (R i) n y))]
  unfold mvt
  congr 1
  refine fb_ct_cg (fun i hi => ?_)
  congr 1
  have hne : mpos (R i) n x ≠ mpos (R i) n y := fun e => hxy (mpos_inj (hR i hi) hx hy e)
  by_cases h : mpos (R i) n x < mpos (R i) n y
  · rw [decide_eq_true h, decide_eq_false (by omega)]
    rfl
  · rw [decide_eq_false h, decide_eq_true (by omega)]
    rfl
/-- ones are counted in the JDK -/
def uS (x y : Int32) : Int32 := (x.toUInt32 >>> (y.toUInt32 &&& Int32.toUInt32 31)).toInt32
def bc1 (x : Int32) : Int32 := x - (uS x 1 &&& 1431655765)
def bc2 (x : Int32) : Int32 := (x &&& 858993459) + (uS x 2 &&& 858993459)
def bc3 (x : Int32) : Int32 := (x + uS x 4) &&& 252645135
def bc4 (x : Int32) : Int32 := x + uS x 8
def bc5 (x : Int32) : Int32 := x + uS x 16
theorem bc_ok : ∀ s, s < 512 → bc5 (bc4 (bc3 (bc2 (bc1 (nI s))))) &&& 63 = nI (mpop s) := by decide +kernel
theorem sp_In_bitCount (c : mx_M) (s : Nat) (hs : s < 512) : mx_Spec 0 1 m_In_bitCount [.int (nI s)] c (fun r c' => r = some (.int (nI (mpop s))) ∧ c' = c) := by
  refine mx_Spec_E rfl rfl rfl ?_
  refine mR 41 rfl trivial ?_
  refine mx_E_iret rfl rfl ⟨?_, rfl⟩
  exact congrArg (fun z => some (Value.int z)) (bc_ok s hs)
theorem sp_De_within (c : mx_M) (x : Int32) (n : Nat) : mx_Spec 0 1 m_De_within [.int x, .int (nI n)] c (fun r c' => r = some (.int (mz (mi x n))) ∧ c' = c) := by
  refine mx_Spec_E rfl rfl rfl ?_
  refine mR 1 rfl trivial ?_
  unfold mi
  refine mx_E_br rfl rfl (fun h => ?_) (fun h => ?_)
  · refine mR 1 rfl trivial ?_
    refine mx_E_zret rfl rfl (Or.inl rfl) ⟨?_, rfl⟩
    rw [decide_eq_false (fa_of_lt h).2.1]
    rfl
  · refine mR 2 rfl trivial ?_
    refine mx_E_br rfl rfl (fun h2 => ?_) (fun h2 => ?_)
    · refine mR 1 rfl trivial ?_
      refine mx_E_zret rfl rfl (Or.inl rfl) ⟨?_, rfl⟩
      rw [decide_eq_false (fun z => (fa_of_lt z).2.1 h2), Bool.and_false]
      rfl
    · refine mR 2 rfl trivial ?_
      refine mx_E_zret rfl rfl (Or.inr rfl) ⟨?_, rfl⟩
      have hlt : x < nI n := by
        rcases Int32.lt_or_le x (nI n) with z | z
        · exact z
        · exact absurd z h2
      rw [decide_eq_true (fa_of_nlt h), decide_eq_true hlt]
      rfl
theorem mpick_ge : ∀ (f met i s : Nat), i ≤ mpick f met i s
  | 0, met, i, s => Nat.le_refl i
  | f + 1, met, i, s => by
    unfold mpick
    split
    · have := mpick_ge f met (i + 1) s
      omega
    · split
      · exact Nat.le_refl i
      · have := mpick_ge f met (i + 1) (s - 1)
        omega
theorem mx_ord_f : ∀ j, j < 7 → mx_ord j = nI (mfact j) := by decide
theorem nb_1 {x y : Nat} (hx : x < 2147483648) (hy : y < 31) : ((nI x >>> (nI y &&& 31)) &&& 1) = nI (if x.testBit y then 1 else 0) := by
  rw [nI_bit hx hy]
  congr 1
  have h := nI_tb hx hy
  rw [nI_bit hx hy, show (1 : Int32) = nI 1 from rfl, nI_eq (by omega) (by omega)] at h
  by_cases e : x.testBit y = true
  · rw [if_pos e]
    exact h.mpr e
  · rw [if_neg e]
    have : ¬ (x >>> y) % 2 = 1 := fun z => e (h.mp z)
    omega
theorem lp_De_layOrder_in {Q : Option Value → mx_M → Prop} {c : mx_M} {k n met p u rem its : Nat} (hn : n ≤ 6) (hm : met < 64) (hu : 1 ≤ u) (hu2 : u ≤ 720) (hrem : rem < u) (hits : its < n) (hp : p < 6)
    (hk : mx_E 0 1 m_De_layOrder Q 50 [.int (nI k), .int (nI n), .ref 31, .int (nI rem), .int (nI (met ||| 2 ^ its)), .int (nI p), .null, .null] [] (mx_up c 31 p (nI its))) :
    ∀ (f i s : Nat), f + i = 8 → s ≤ 720 → mpick f met i s = its → mx_E 0 1 m_De_layOrder Q 19 [.int (nI k), .int (nI n), .ref 31, .int (nI (s * u + rem)), .int (nI met), .int (nI p), .int (nI u), .int (nI i)] [] c
  | 0, i, s, hf, hs, he => by
    have : i = its := he
    omega
  | f + 1, i, s, hf, hs, he => by
    have hge := mpick_ge (f + 1) met i s
    have hb : s * u + rem < 1000000 := by
      have : s * u ≤ 720 * 720 := Nat.mul_le_mul hs hu2
      omega
    refine mR 2 rfl trivial ?_
    refine mbGe _ _ rfl (by omega) (by omega) (fun h => by omega) (fun _ => ?_)
    refine mR 6 rfl trivial ?_
    rw [nb_1 (by omega) (by omega), show (1 : Int32) = nI 1 from rfl]
    unfold mpick at he
    by_cases ht : met.testBit i = true
    · rw [if_pos ht] at he
      rw [if_pos ht]
      refine mbNe _ _ rfl (by decide) (by decide) (fun h => absurd rfl h) (fun _ => ?_)
      refine mR 3 rfl trivial ?_
      rw [nI_1]
      exact lp_De_layOrder_in hn hm hu hu2 hrem hits hp hk f (i + 1) s (by omega) hs he
    · rw [if_neg ht] at he
      rw [if_neg ht]
      refine mbNe _ _ rfl (by decide) (by decide) (fun _ => ?_) (fun h => absurd h (by decide))
      refine mR 2 rfl trivial ?_
      by_cases hz : s = 0
      · subst hz
        rw [if_pos rfl] at he
        subst he
        rw [Nat.zero_mul, Nat.zero_add]
        refine mbGe _ _ rfl (by omega) (by omega) (fun h => by omega) (fun _ => ?_)
        refine mR 11 rfl (mA1 (mI (by omega))) ?_
        rw [nI_cl (a := p) (by omega), nI_shl1 (by omega), fa_or]
        exact mW hk ⟨Or.inr rfl, Or.inr rfl, Or.inr rfl, Or.inr rfl, Or.inr rfl, Or.inr rfl, Or.inl rfl, Or.inl rfl, trivial⟩ rfl rfl
      · rw [if_neg hz] at he
        have hsu : u ≤ s * u := Nat.le_mul_of_pos_left u (by omega)
        refine mbGe _ _ rfl (by omega) (by omega) (fun _ => ?_) (fun h => by omega)
        refine mR 6 rfl trivial ?_
        rw [nI_1, pk_sub (by omega), show s * u + rem - u = (s - 1) * u + rem by rw [Nat.sub_mul, Nat.one_mul]; omega]
        exact lp_De_layOrder_in hn hm hu hu2 hrem hits hp hk f (i + 1) (s - 1) (by omega) (by omega) he
theorem lp_De_layOrder {Q : Option Value → mx_M → Prop} {c : mx_M} {n k : Nat} (hn : mn n) (hk : k < mfact n) (hq : Q none (mx_upR c 31 (fa_fill (fun p => nI (mo n k p)) (c 31) n))) :
    ∀ (t p : Nat), p + t = n → mx_E 0 1 m_De_layOrder Q 6 [.int (nI k), .int (nI n), .ref 31, .int (nI (mst n k p).1), .int (nI (mst n k p).2), .int (nI p), .null, .null] [] (mx_upR c 31 (fa_fill (fun p => nI (mo n k p)) (c 31) p))
  | 0, p, h => by
    have e : p = n := by omega
    subst e
    have := hn.2
    refine mR 2 rfl trivial ?_
    refine mbGe p p rfl (by omega) (by omega) (fun _ => ?_) (fun h => by omega)
    exact mx_E_vret rfl rfl hq
  | t + 1, p, h => by
    have hp : p < n := by omega
    have h6 := hn.2
    obtain ⟨ho, -, hm, hb, -⟩ := mo_all hn hk hp
    obtain ⟨d1, d2, d3, d4⟩ := mst_div hn hk hp
    refine mR 2 rfl trivial ?_
    refine mbGe p n rfl (by omega) (by omega) (fun h => by omega) (fun _ => ?_)
    have e1 : nI n - 1 - nI p = nI (n - 1 - p) := by rw [show (1 : Int32) = nI 1 from rfl, pk_sub (by omega), pk_sub (by omega)]
    refine mR 10 rfl (mA1 (by rw [e1]; exact mI (by omega))) ?_
    rw [e1, nI_cl (a := n - 1 - p) (by omega), mx_ord_f _ (by omega)]
    have hdv : (mst n k p).1 / mfact (n - 1 - p) ≤ 720 := Nat.le_trans (Nat.div_le_self _ _) (by omega)
    have hst := Nat.div_add_mod (mst n k p).1 (mfact (n - 1 - p))
    have hml := Nat.mod_lt (mst n k p).1 (show mfact (n - 1 - p) > 0 by omega)
    refine mS (lp_De_layOrder_in (k := k) (p := p) (its := mo n k p) (met := (mst n k p).2) (u := mfact (n - 1 - p)) (rem := (mst n k p).1 % mfact (n - 1 - p)) (c := mx_upR c 31 (fa_fill (fun p => nI (mo n k p)) (c 31) p)) h6 hm d3 d4 hml ho (by omega) ?_ 8 0 ((mst n k p).1 / mfact (n - 1 - p)) rfl hdv rfl) ?_ rfl rfl
    · refine mR 2 rfl trivial ?_
      refine mS (lp_De_layOrder hn hk hq t (p + 1) (by omega)) ?_ rfl ?_
      · rw [nI_1]
        rfl
      · rw [mx_up_R, mx_upR_row, mx_upR_two, fa_fill_succ (fun p => nI (mo n k p))]
    · rw [show (mst n k p).1 / mfact (n - 1 - p) * mfact (n - 1 - p) + (mst n k p).1 % mfact (n - 1 - p) = (mst n k p).1 by rw [Nat.mul_comm]; exact hst]
      rfl
theorem sp_De_layOrder (c : mx_M) (n k : Nat) (hn : mn n) (hk : k < mfact n) : mx_Spec 0 1 m_De_layOrder [.int (nI k), .int (nI n), .ref 31] c (fun r c' => r = none ∧ c' = mx_upR c 31 (fa_fill (fun p => nI (mo n k p)) (c 31) n)) := by
  refine mx_Spec_E rfl rfl rfl ?_
  refine mR 6 rfl trivial ?_
  refine mS (lp_De_layOrder hn hk ⟨rfl, rfl⟩ n 0 (by omega)) rfl rfl ?_
  rw [fa_fill_0, mx_upR_self]
theorem nI_xor (a b : Nat) : nI a ^^^ nI b = nI (a ^^^ b) := by
  unfold nI
  apply Int32.toBitVec_inj.mp
  simp [Int32.toBitVec_xor, Int32.toBitVec_ofNat']
theorem nI_and (a b : Nat) : nI a &&& nI b = nI (a &&& b) := by
  unfold nI
  apply Int32.toBitVec_inj.mp
  simp [Int32.toBitVec_and, Int32.toBitVec_ofNat']
theorem lp_De_likesFirst7 {Q : Option Value → mx_M → Prop} {c : mx_M} {n at0 s1 s2 : Nat} {f : Nat → Nat} (hn : n ≤ 6) (hat : at0 + n ≤ 54) (hs1 : s1 < 64) (hs2 : s2 < 64) (hf : ∀ p, p < n → f p < n ∧ c 7 (at0 + p) = nI (f p)) (hq : Q (some (.int (mz (mlk f n s1 s2)))) c) :
    ∀ (u p : Nat), p + u = n → (∀ j, j < p → (s1.testBit (f j) != s2.testBit (f j)) = false) → mx_E 0 1 m_De_likesFirst Q 6 [.ref 7, .int (nI at0), .int (nI n), .int (nI s1), .int (nI s2), .int (nI (s1 ^^^ s2)), .int (nI p), .null] [] c
  | 0, p, h, h0 => by
    have e : p = n := by omega
    subst e
    refine mR 2 rfl trivial ?_
    refine mbGe _ _ rfl (by omega) (by omega) (fun _ => ?_) (fun h => by omega)
    refine mR 1 rfl trivial ?_
    have e2 : mlk f p s1 s2 = true := by
      unfold mlk
      rw [ff_none h0, if_neg (by omega)]
    rw [e2] at hq
    exact mx_E_zret rfl rfl (Or.inr rfl) hq
  | u + 1, p, h, h0 => by
    obtain ⟨hl, ev⟩ := hf p (by omega)
    have hxor : s1 ^^^ s2 < 64 := Nat.xor_lt_two_pow (n := 6) hs1 hs2
    refine mR 2 rfl trivial ?_
    refine mbGe _ _ rfl (by omega) (by omega) (fun h => by omega) (fun _ => ?_)
    refine mR 12 rfl (mA1 (by rw [nI_add]; exact mI (by omega))) ?_
    rw [nI_add, nI_cl (a := at0 + p) (by omega), ev, nb_1 (by omega) (by omega), Nat.testBit_xor, show (1 : Int32) = nI 1 from rfl]
    by_cases e : (s1.testBit (f p) != s2.testBit (f p)) = true
    · have e2 : mlk f n s1 s2 = s1.testBit (f p) := by
        unfold mlk
        rw [ff_at (p := fun p => s1.testBit (f p) != s2.testBit (f p)) (show p < n by omega) e h0, if_pos (by omega)]
      rw [show (s1.testBit (f p) ^^ s2.testBit (f p)) = true from e, if_pos rfl]
      refine mbNe _ _ rfl (by decide) (by decide) (fun h => absurd rfl h) (fun _ => ?_)
      refine mR 6 rfl trivial ?_
      rw [nb_1 (by omega) (by omega), show (1 : Int32) = nI 1 from rfl]
      rw [e2] at hq
      by_cases e3 : s1.testBit (f p) = true
      · rw [e3] at hq
        rw [if_pos e3]
        refine mbNe _ _ rfl (by decide) (by decide) (fun h => absurd rfl h) (fun _ => ?_)
        refine mR 2 rfl trivial ?_
        exact mx_E_zret rfl rfl (Or.inr rfl) hq
      · rw [show s1.testBit (f p) = false by simpa using e3] at hq
        rw [if_neg e3]
        refine mbNe _ _ rfl (by decide) (by decide) (fun _ => ?_) (fun h => absurd h (by decide))
        refine mR 1 rfl trivial ?_
        exact mx_E_zret rfl rfl (Or.inl rfl) hq
    · have e4 : (s1.testBit (f p) != s2.testBit (f p)) = false := by simpa using e
      rw [show (s1.testBit (f p) ^^ s2.testBit (f p)) = false from e4, if_neg (by decide)]
      refine mbNe _ _ rfl (by decide) (by decide) (fun _ => ?_) (fun h => absurd h (by decide))
      refine mR 2 rfl trivial ?_
      rw [nI_1]
      refine mW (lp_De_likesFirst7 hn hat hs1 hs2 hf hq u (p + 1) (by omega) (fun j hj => ?_)) ⟨Or.inr rfl, Or.inr rfl, Or.inr rfl, Or.inr rfl, Or.inr rfl, Or.inr rfl, Or.inr rfl, Or.inl rfl, trivial⟩ rfl rfl
      rcases Nat.lt_or_ge j p with h1 | h1
      · exact h0 j h1
      · have ej : j = p := by omega
        rw [ej]
        exact e4
theorem sp_De_likesFirst7 (c : mx_M) {n at0 s1 s2 : Nat} {f : Nat → Nat} (hn : n ≤ 6) (hat : at0 + n ≤ 54) (hs1 : s1 < 64) (hs2 : s2 < 64) (hf : ∀ p, p < n → f p < n ∧ c 7 (at0 + p) = nI (f p)) : mx_Spec 0 1 m_De_likesFirst [.ref 7, .int (nI at0), .int (nI n), .int (nI s1), .int (nI s2)] c (fun r c' => r = some (.int (mz (mlk f n s1 s2))) ∧ c' = c) := by
  refine mx_Spec_E rfl rfl rfl ?_
  refine mR 6 rfl trivial ?_
  rw [nI_xor]
  exact lp_De_likesFirst7 hn hat hs1 hs2 hf ⟨rfl, rfl⟩ n 0 (by omega) (fun j hj => absurd hj (Nat.not_lt_zero j))
theorem lp_De_likesFirst31 {Q : Option Value → mx_M → Prop} {c : mx_M} {n at0 s1 s2 : Nat} {f : Nat → Nat} (hn : n ≤ 6) (hat : at0 + n ≤ 6) (hs1 : s1 < 64) (hs2 : s2 < 64) (hf : ∀ p, p < n → f p < n ∧ c 31 (at0 + p) = nI (f p)) (hq : Q (some (.int (mz (mlk f n s1 s2)))) c) :
    ∀ (u p : Nat), p + u = n → (∀ j, j < p → (s1.testBit (f j) != s2.testBit (f j)) = false) → mx_E 0 1 m_De_likesFirst Q 6 [.ref 31, .int (nI at0), .int (nI n), .int (nI s1), .int (nI s2), .int (nI (s1 ^^^ s2)), .int (nI p), .null] [] c
  | 0, p, h, h0 => by
    have e : p = n := by omega
    subst e
    refine mR 2 rfl trivial ?_
    refine mbGe _ _ rfl (by omega) (by omega) (fun _ => ?_) (fun h => by omega)
    refine mR 1 rfl trivial ?_
    have e2 : mlk f p s1 s2 = true := by
      unfold mlk
      rw [ff_none h0, if_neg (by omega)]
    rw [e2] at hq
    exact mx_E_zret rfl rfl (Or.inr rfl) hq
  | u + 1, p, h, h0 => by
    obtain ⟨hl, ev⟩ := hf p (by omega)
    have hxor : s1 ^^^ s2 < 64 := Nat.xor_lt_two_pow (n := 6) hs1 hs2
    refine mR 2 rfl trivial ?_
    refine mbGe _ _ rfl (by omega) (by omega) (fun h => by omega) (fun _ => ?_)
    refine mR 12 rfl (mA1 (by rw [nI_add]; exact mI (by omega))) ?_
    rw [nI_add, nI_cl (a := at0 + p) (by omega), ev, nb_1 (by omega) (by omega), Nat.testBit_xor, show (1 : Int32) = nI 1 from rfl]
    by_cases e : (s1.testBit (f p) != s2.testBit (f p)) = true
    · have e2 : mlk f n s1 s2 = s1.testBit (f p) := by
        unfold mlk
        rw [ff_at (p := fun p => s1.testBit (f p) != s2.testBit (f p)) (show p < n by omega) e h0, if_pos (by omega)]
      rw [show (s1.testBit (f p) ^^ s2.testBit (f p)) = true from e, if_pos rfl]
      refine mbNe _ _ rfl (by decide) (by decide) (fun h => absurd rfl h) (fun _ => ?_)
      refine mR 6 rfl trivial ?_
      rw [nb_1 (by omega) (by omega), show (1 : Int32) = nI 1 from rfl]
      rw [e2] at hq
      by_cases e3 : s1.testBit (f p) = true
      · rw [e3] at hq
        rw [if_pos e3]
        refine mbNe _ _ rfl (by decide) (by decide) (fun h => absurd rfl h) (fun _ => ?_)
        refine mR 2 rfl trivial ?_
        exact mx_E_zret rfl rfl (Or.inr rfl) hq
      · rw [show s1.testBit (f p) = false by simpa using e3] at hq
        rw [if_neg e3]
        refine mbNe _ _ rfl (by decide) (by decide) (fun _ => ?_) (fun h => absurd h (by decide))
        refine mR 1 rfl trivial ?_
        exact mx_E_zret rfl rfl (Or.inl rfl) hq
    · have e4 : (s1.testBit (f p) != s2.testBit (f p)) = false := by simpa using e
      rw [show (s1.testBit (f p) ^^ s2.testBit (f p)) = false from e4, if_neg (by decide)]
      refine mbNe _ _ rfl (by decide) (by decide) (fun _ => ?_) (fun h => absurd h (by decide))
      refine mR 2 rfl trivial ?_
      rw [nI_1]
      refine mW (lp_De_likesFirst31 hn hat hs1 hs2 hf hq u (p + 1) (by omega) (fun j hj => ?_)) ⟨Or.inr rfl, Or.inr rfl, Or.inr rfl, Or.inr rfl, Or.inr rfl, Or.inr rfl, Or.inr rfl, Or.inl rfl, trivial⟩ rfl rfl
      rcases Nat.lt_or_ge j p with h1 | h1
      · exact h0 j h1
      · have ej : j = p := by omega
        rw [ej]
        exact e4
theorem sp_De_likesFirst31 (c : mx_M) {n at0 s1 s2 : Nat} {f : Nat → Nat} (hn : n ≤ 6) (hat : at0 + n ≤ 6) (hs1 : s1 < 64) (hs2 : s2 < 64) (hf : ∀ p, p < n → f p < n ∧ c 31 (at0 + p) = nI (f p)) : mx_Spec 0 1 m_De_likesFirst [.ref 31, .int (nI at0), .int (nI n), .int (nI s1), .int (nI s2)] c (fun r c' => r = some (.int (mz (mlk f n s1 s2))) ∧ c' = c) := by
  refine mx_Spec_E rfl rfl rfl ?_
  refine mR 6 rfl trivial ?_
  rw [nI_xor]
  exact lp_De_likesFirst31 hn hat hs1 hs2 hf ⟨rfl, rfl⟩ n 0 (by omega) (fun j hj => absurd hj (Nat.not_lt_zero j))
theorem lp_Ar_fill14 {Q : Option Value → mx_M → Prop} {c : mx_M} {v : Int32} (hq : Q none (mx_upR c 14 (fa_fill (fun _ => v) (c 14) 63))) :
    ∀ (u k : Nat), k + u = 63 → mx_E 0 1 m_Ar_fill Q 5 [.ref 14, .int v, .int (nI k), .int (nI 63)] [] (mx_upR c 14 (fa_fill (fun _ => v) (c 14) k))
  | 0, k, h => by
    have e : k = 63 := by omega
    subst e
    refine mR 2 rfl trivial ?_
    refine mbGe 63 63 rfl (by decide) (by decide) (fun _ => ?_) (fun h => by omega)
    exact mx_E_vret rfl rfl hq
  | u + 1, k, h => by
    refine mR 2 rfl trivial ?_
    refine mbGe k 63 rfl (by omega) (by decide) (fun h => by omega) (fun _ => ?_)
    refine mR 6 rfl (mA1 (mI (by omega))) ?_
    rw [nI_cl (by omega), mx_up_put, nI_1, fa_fill_succ (fun _ => v)]
    exact lp_Ar_fill14 hq u (k + 1) (by omega)
theorem sp_Ar_fill14 (c : mx_M) (v : Int32) : mx_Spec 0 1 m_Ar_fill [.ref 14, .int v] c (fun r c' => r = none ∧ c' = mx_upR c 14 (fa_fill (fun _ => v) (c 14) 63)) := by
  refine mx_Spec_E rfl rfl rfl ?_
  refine mR 5 rfl trivial ?_
  refine mS (lp_Ar_fill14 ⟨rfl, rfl⟩ 63 0 rfl) rfl rfl ?_
  rw [fa_fill_0, mx_upR_self]
theorem lp_Ar_fill15 {Q : Option Value → mx_M → Prop} {c : mx_M} {v : Int32} (hq : Q none (mx_upR c 15 (fa_fill (fun _ => v) (c 15) 36))) :
    ∀ (u k : Nat), k + u = 36 → mx_E 0 1 m_Ar_fill Q 5 [.ref 15, .int v, .int (nI k), .int (nI 36)] [] (mx_upR c 15 (fa_fill (fun _ => v) (c 15) k))
  | 0, k, h => by
    have e : k = 36 := by omega
    subst e
    refine mR 2 rfl trivial ?_
    refine mbGe 36 36 rfl (by decide) (by decide) (fun _ => ?_) (fun h => by omega)
    exact mx_E_vret rfl rfl hq
  | u + 1, k, h => by
    refine mR 2 rfl trivial ?_
    refine mbGe k 36 rfl (by omega) (by decide) (fun h => by omega) (fun _ => ?_)
    refine mR 6 rfl (mA1 (mI (by omega))) ?_
    rw [nI_cl (by omega), mx_up_put, nI_1, fa_fill_succ (fun _ => v)]
    exact lp_Ar_fill15 hq u (k + 1) (by omega)
theorem sp_Ar_fill15 (c : mx_M) (v : Int32) : mx_Spec 0 1 m_Ar_fill [.ref 15, .int v] c (fun r c' => r = none ∧ c' = mx_upR c 15 (fa_fill (fun _ => v) (c 15) 36)) := by
  refine mx_Spec_E rfl rfl rfl ?_
  refine mR 5 rfl trivial ?_
  refine mS (lp_Ar_fill15 ⟨rfl, rfl⟩ 36 0 rfl) rfl rfl ?_
  rw [fa_fill_0, mx_upR_self]
theorem lp_Ar_fill33 {Q : Option Value → mx_M → Prop} {c : mx_M} {v : Int32} (hq : Q none (mx_upR c 33 (fa_fill (fun _ => v) (c 33) 10))) :
    ∀ (u k : Nat), k + u = 10 → mx_E 0 1 m_Ar_fill Q 5 [.ref 33, .int v, .int (nI k), .int (nI 10)] [] (mx_upR c 33 (fa_fill (fun _ => v) (c 33) k))
  | 0, k, h => by
    have e : k = 10 := by omega
    subst e
    refine mR 2 rfl trivial ?_
    refine mbGe 10 10 rfl (by decide) (by decide) (fun _ => ?_) (fun h => by omega)
    exact mx_E_vret rfl rfl hq
  | u + 1, k, h => by
    refine mR 2 rfl trivial ?_
    refine mbGe k 10 rfl (by omega) (by decide) (fun h => by omega) (fun _ => ?_)
    refine mR 6 rfl (mA1 (mI (by omega))) ?_
    rw [nI_cl (by omega), mx_up_put, nI_1, fa_fill_succ (fun _ => v)]
    exact lp_Ar_fill33 hq u (k + 1) (by omega)
theorem sp_Ar_fill33 (c : mx_M) (v : Int32) : mx_Spec 0 1 m_Ar_fill [.ref 33, .int v] c (fun r c' => r = none ∧ c' = mx_upR c 33 (fa_fill (fun _ => v) (c 33) 10)) := by
  refine mx_Spec_E rfl rfl rfl ?_
  refine mR 5 rfl trivial ?_
  refine mS (lp_Ar_fill33 ⟨rfl, rfl⟩ 10 0 rfl) rfl rfl ?_
  rw [fa_fill_0, mx_upR_self]
theorem lp_Ar_fill34 {Q : Option Value → mx_M → Prop} {c : mx_M} {v : Int32} (hq : Q none (mx_upR c 34 (fa_fill (fun _ => v) (c 34) 63))) :
    ∀ (u k : Nat), k + u = 63 → mx_E 0 1 m_Ar_fill Q 5 [.ref 34, .int v, .int (nI k), .int (nI 63)] [] (mx_upR c 34 (fa_fill (fun _ => v) (c 34) k))
  | 0, k, h => by
    have e : k = 63 := by omega
    subst e
    refine mR 2 rfl trivial ?_
    refine mbGe 63 63 rfl (by decide) (by decide) (fun _ => ?_) (fun h => by omega)
    exact mx_E_vret rfl rfl hq
  | u + 1, k, h => by
    refine mR 2 rfl trivial ?_
    refine mbGe k 63 rfl (by omega) (by decide) (fun h => by omega) (fun _ => ?_)
    refine mR 6 rfl (mA1 (mI (by omega))) ?_
    rw [nI_cl (by omega), mx_up_put, nI_1, fa_fill_succ (fun _ => v)]
    exact lp_Ar_fill34 hq u (k + 1) (by omega)
theorem sp_Ar_fill34 (c : mx_M) (v : Int32) : mx_Spec 0 1 m_Ar_fill [.ref 34, .int v] c (fun r c' => r = none ∧ c' = mx_upR c 34 (fa_fill (fun _ => v) (c 34) 63)) := by
  refine mx_Spec_E rfl rfl rfl ?_
  refine mR 5 rfl trivial ?_
  refine mS (lp_Ar_fill34 ⟨rfl, rfl⟩ 63 0 rfl) rfl rfl ?_
  rw [fa_fill_0, mx_upR_self]
