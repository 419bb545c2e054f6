/-! the class: which orders come to which motion: an order's agenda without its tree -/
theorem mF_sub {n nd L off : Nat} {kd K : Nat → Option Nat} {sz Z : Nat → Nat} {lf : Nat → Nat} {nf nf' : Nat → Nat → Nat → Nat} (hB : mtree n kd sz nd) (hS : mtree n K Z L) (ho : off + L ≤ nd) (hk : ∀ k, k < L → kd (off + k) = K k) (hz : ∀ k, k < L → sz (off + k) = Z k) (hn : ∀ k, k < L → K k = none → ∀ x y, nf (off + k) x y = nf' k x y) : ∀ (f k : Nat), k < L → L - k ≤ f → mF lf nf kd sz nd (off + k) = mF lf nf' K Z L k
  | 0, k, h, hf => by omega
  | f + 1, k, h, hf => by
    cases e : K k with
    | some q => rw [mF_leaf lf nf (show off + k < nd by omega) (by rw [hk k h]; exact e), mF_leaf lf nf' h e]
    | none =>
      obtain ⟨g1, g2, g3, g4, g5, g6⟩ := mtree_vote hS h e
      rw [mF_vote lf nf hB (show off + k < nd by omega) (by rw [hk k h]; exact e), mF_vote lf nf' hS h e, Nat.add_assoc off k 1, hz (k + 1) g5, hn k h e, mF_sub hB hS ho hk hz hn f (k + 1) g5 (by omega), Nat.add_assoc off (k + 1) (Z (k + 1)), mF_sub hB hS ho hk hz hn f (k + 1 + Z (k + 1)) g6 (by omega)]
theorem tL_le {t : Nat} (h : t ≤ 5) : tL t ≤ 63 := by
  rcases (show t = 0 ∨ t = 1 ∨ t = 2 ∨ t = 3 ∨ t = 4 ∨ t = 5 by omega) with rfl | rfl | rfl | rfl | rfl | rfl <;> decide
section ROW
variable {n : Nat} {f : Nat → Nat}
theorem tTr (hn : n ≤ 6) (hf : mperm n f) {t its : Nat} (ht : t < n) (hi : its < n) : mtree n (tK f n t its) (tZ t) (tL t) := mT_tree.mpr ⟨tT hf.1 t its ht hi, tL_le (by omega)⟩
/-- both branches of an order's vote -/
theorem tSub (hn : n ≤ 6) (hf : mperm n f) {t its : Nat} (ht : t + 1 < n) (hi : its < n) (lf : Nat → Nat) (nf n1 n2 : Nat → Nat → Nat → Nat) (h1 : ∀ k, k < tL t → tK f n t its k = none → ∀ x y, nf (1 + k) x y = n1 k x y) (h2 : ∀ k, k < tL t → tK f n t (f (n - (t + 1))) k = none → ∀ x y, nf (1 + tL t + k) x y = n2 k x y) :
    (∀ k, k < tL t → mF lf nf (tK f n (t + 1) its) (tZ (t + 1)) (tL (t + 1)) (1 + k) = mF lf n1 (tK f n t its) (tZ t) (tL t) k) ∧ ∀ k, k < tL t → mF lf nf (tK f n (t + 1) its) (tZ (t + 1)) (tL (t + 1)) (1 + tL t + k) = mF lf n2 (tK f n t (f (n - (t + 1)))) (tZ t) (tL t) k := by
  have hB := tTr hn hf ht hi
  have hy := hf.1 (n - (t + 1)) (by omega)
  constructor
  · intro k hk
    refine mF_sub hB (tTr hn hf (by omega) hi) (by rw [tL_s]; omega) (fun j hj => ?_) (fun j hj => ?_) h1 (tL t - k) k hk (Nat.le_refl _)
    · rw [Nat.add_comm 1 j]; exact jK_1 hj
    · rw [Nat.add_comm 1 j]; exact jZ_1 hj
  · intro k hk
    refine mF_sub hB (tTr hn hf (by omega) hy) (by rw [tL_s]; omega) (fun j hj => ?_) (fun j hj => ?_) h2 (tL t - k) k hk (Nat.le_refl _)
    · rw [show 1 + tL t + j = tL t + j + 1 by omega]; exact jK_2
    · rw [show 1 + tL t + j = tL t + j + 1 by omega]; exact jZ_2
theorem tVote (hn : n ≤ 6) (hf : mperm n f) {t its : Nat} (ht : t + 1 < n) (hi : its < n) (lf : Nat → Nat) (nf : Nat → Nat → Nat → Nat) : mF lf nf (tK f n (t + 1) its) (tZ (t + 1)) (tL (t + 1)) 0 = nf 0 (mF lf nf (tK f n (t + 1) its) (tZ (t + 1)) (tL (t + 1)) 1) (mF lf nf (tK f n (t + 1) its) (tZ (t + 1)) (tL (t + 1)) (1 + tL t)) := by
  have hB := tTr hn hf ht hi
  have hp := tL_pos t
  have z := mF_vote lf nf hB hB.1 (show tK f n (t + 1) its 0 = none from rfl)
  have e : tZ (t + 1) (0 + 1) = tL t := by
    show jZ (tL t) (tL t) (tZ t) (tZ t) (0 + 1) = tL t
    rw [jZ_1 hp]
    exact (tTr hn hf (show t < n by omega) hi).2.2.1
  rw [e, Nat.zero_add] at z
  exact z
/-- what comes of it foreseen -/
def rF (st : Nat → Nat → Nat) (n : Nat) (f : Nat → Nat) : Nat → Nat → Nat
  | 0, its => its
  | t + 1, its => st (rF st n f t its) (rF st n f t (f (n - (t + 1))))
def rSt (T m n : Nat) (R : Nat → Nat → Nat) (x y : Nat) : Nat := if x = y ∨ mbeat T m n R x y = true then x else y
theorem rF_lt {T m : Nat} {R : Nat → Nat → Nat} (hf : mperm n f) : ∀ (t its : Nat), t < n → its < n → rF (rSt T m n R) n f t its < n
  | 0, its, _, hi => hi
  | t + 1, its, ht, hi => by
    show rSt T m n R _ _ < n
    unfold rSt
    split
    · exact rF_lt hf t its (by omega) hi
    · exact rF_lt hf t _ (by omega) (hf.1 _ (by omega))
theorem mfor_row {T m : Nat} {R : Nat → Nat → Nat} (hn : n ≤ 6) (hf : mperm n f) : ∀ (t its : Nat), t < n → its < n → mfor T m n R (tK f n t its) (tZ t) (tL t) 0 = rF (rSt T m n R) n f t its
  | 0, its, ht, hi => mF_leaf _ _ (by decide) rfl
  | t + 1, its, ht, hi => by
    have hp := tL_pos t
    obtain ⟨s1, s2⟩ := tSub hn hf ht hi (fun q => q) (fun _ x y => if x = y ∨ mbeat T m n R x y = true then x else y) (fun _ x y => if x = y ∨ mbeat T m n R x y = true then x else y) (fun _ x y => if x = y ∨ mbeat T m n R x y = true then x else y) (fun _ _ _ _ _ => rfl) (fun _ _ _ _ _ => rfl)
    have a1 := s1 0 hp
    have a2 := s2 0 hp
    have v := tVote hn hf ht hi (fun q => q) (fun _ x y => if x = y ∨ mbeat T m n R x y = true then x else y)
    show mF _ _ _ _ _ 0 = rSt T m n R _ _
    rw [v]
    rw [show 1 + 0 = 1 from rfl] at a1
    rw [Nat.add_zero (1 + tL t)] at a2
    rw [a1, a2]
    have i1 : mF (fun q => q) (fun _ x y => if x = y ∨ mbeat T m n R x y = true then x else y) (tK f n t its) (tZ t) (tL t) 0 = rF (rSt T m n R) n f t its := mfor_row hn hf t its (by omega) hi
    have i2 : mF (fun q => q) (fun _ x y => if x = y ∨ mbeat T m n R x y = true then x else y) (tK f n t (f (n - (t + 1)))) (tZ t) (tL t) 0 = rF (rSt T m n R) n f t (f (n - (t + 1))) := mfor_row hn hf t _ (by omega) (hf.1 _ (by omega))
    rw [i1, i2]
    rfl
/-- the motions of an order's agenda -/
theorem mset_row (hn : n ≤ 6) (hf : mperm n f) : ∀ (t its : Nat), t < n → its < n → ∀ j, j < n → (mset (tK f n t its) (tZ t) (tL t) 0).testBit j = (decide (j = its) || decide (n - t ≤ mpos f n j))
  | 0, its, ht, hi => by
    intro j hj
    have hp := (mpos_lt hf hj).1
    rw [show mset (tK f n 0 its) (tZ 0) (tL 0) 0 = 2 ^ its from mF_leaf _ _ (by decide) rfl, Nat.testBit_two_pow, decide_eq_false (show ¬ n - 0 ≤ mpos f n j by omega), Bool.or_false]
    by_cases e : its = j
    · rw [decide_eq_true e, decide_eq_true e.symm]
    · rw [decide_eq_false e, decide_eq_false (fun z => e z.symm)]
  | t + 1, its, ht, hi => by
    intro j hj
    have hp := tL_pos t
    obtain ⟨s1, s2⟩ := tSub hn hf ht hi (fun q => 2 ^ q) (fun _ a b => a ||| b) (fun _ a b => a ||| b) (fun _ a b => a ||| b) (fun _ _ _ _ _ => rfl) (fun _ _ _ _ _ => rfl)
    have a1 := s1 0 hp
    have a2 := s2 0 hp
    rw [show 1 + 0 = 1 from rfl] at a1
    rw [Nat.add_zero (1 + tL t)] at a2
    have v : mset (tK f n (t + 1) its) (tZ (t + 1)) (tL (t + 1)) 0 = _ := tVote hn hf ht hi (fun q => 2 ^ q) (fun _ a b => a ||| b)
    rw [v, a1, a2, Nat.testBit_or]
    have i1 := mset_row hn hf t its (by omega) hi j hj
    have i2 := mset_row hn hf t (f (n - (t + 1))) (by omega) (hf.1 _ (by omega)) j hj
    unfold mset at i1 i2
    rw [i1, i2]
    have pj := mpos_lt hf hj
    by_cases e : j = f (n - (t + 1))
    · have q : mpos f n j = n - (t + 1) := by rw [e]; exact mpos_at hf (by omega)
      rw [decide_eq_true e, decide_eq_true (show n - (t + 1) ≤ mpos f n j by omega)]
      simp
    · have q : mpos f n j ≠ n - (t + 1) := fun z => e (by rw [← z]; exact pj.2.symm)
      rw [decide_eq_false e]
      by_cases q2 : n - t ≤ mpos f n j
      · rw [decide_eq_true q2, decide_eq_true (show n - (t + 1) ≤ mpos f n j by omega)]
        simp
      · rw [decide_eq_false q2, decide_eq_false (show ¬ n - (t + 1) ≤ mpos f n j by omega)]
        simp
/-- two sets that differ in one motion each are liked as these two -/
theorem mlk_two {g : Nat → Nat} {s1 s2 x y : Nat} {T : Nat → Bool} (hg : mperm n g) (hx : x < n) (hy : y < n) (hxy : x ≠ y) (h1 : ∀ j, j < n → s1.testBit j = (decide (j = x) || T j)) (h2 : ∀ j, j < n → s2.testBit j = (decide (j = y) || T j)) (tx : T x = false) (ty : T y = false) : mlk g n s1 s2 = gV n g x y := by
  obtain ⟨px, ex⟩ := mpos_lt hg hx
  obtain ⟨py, ey⟩ := mpos_lt hg hy
  have ne : mpos g n x ≠ mpos g n y := fun e => hxy (mpos_inj hg hx hy e)
  have eqb : ∀ j, j < n → j ≠ x → j ≠ y → s1.testBit j = s2.testBit j := fun j hj a b => by rw [h1 j hj, h2 j hj, decide_eq_false a, decide_eq_false b]
  have nx : ∀ j, j < n → j ≠ mpos g n x → g j ≠ x := fun j hj a e => a (by rw [← e, mpos_at hg hj])
  have ny : ∀ j, j < n → j ≠ mpos g n y → g j ≠ y := fun j hj a e => a (by rw [← e, mpos_at hg hj])
  have b1x : s1.testBit x = true := by rw [h1 x hx, decide_eq_true rfl]; rfl
  have b2x : s2.testBit x = false := by rw [h2 x hx, decide_eq_false hxy, tx]; rfl
  have b1y : s1.testBit y = false := by rw [h1 y hy, decide_eq_false (fun z => hxy z.symm), ty]; rfl
  have b2y : s2.testBit y = true := by rw [h2 y hy, decide_eq_true rfl]; rfl
  rcases Nat.lt_or_ge (mpos g n x) (mpos g n y) with w | w
  · rw [mlk_at px (fun j hj => eqb _ (hg.1 j (by omega)) (nx j (by omega) (by omega)) (ny j (by omega) (by omega))) (by rw [ex, b1x, b2x]; decide), ex, b1x]
    exact (decide_eq_true w).symm
  · rw [mlk_at py (fun j hj => eqb _ (hg.1 j (by omega)) (nx j (by omega) (by omega)) (ny j (by omega) (by omega))) (by rw [ey, b1y, b2y]; decide), ey, b1y]
    exact (decide_eq_false (by omega)).symm
/-- what comes of it sincere -/
def rG (cd : Nat → Nat → Bool) (n : Nat) (f : Nat → Nat) : Nat → Nat → Nat
  | 0, its => its
  | t + 1, its => if cd its (f (n - (t + 1))) then rG cd n f t its else rG cd n f t (f (n - (t + 1)))
def rCd (T m n : Nat) (R : Nat → Nat → Nat) (x y : Nat) : Bool := decide (mpop T ≤ 2 * mvt T m n R x y)
/-- whom a vote goes to -/
def rNf (T m n : Nat) (R : Nat → Nat → Nat) (K : Nat → Option Nat) (Z : Nat → Nat) (L : Nat) : Nat → Nat → Nat → Nat := fun k a b => if mpop T ≤ 2 * mvf T m n R (mset K Z L (k + 1)) (mset K Z L (k + 1 + Z (k + 1))) then a else b
theorem msin_row {T m : Nat} {R : Nat → Nat → Nat} (hn : n ≤ 6) (hf : mperm n f) (hR : ∀ i, i < m → mperm n (R i)) : ∀ (t i : Nat), t < n → i < n - t → msin T m n R (tK f n t (f i)) (tZ t) (tL t) 0 = rG (rCd T m n R) n f t (f i)
  | 0, i, ht, hi => mF_leaf _ _ (by decide) rfl
  | t + 1, i, ht, hi => by
    have hp := tL_pos t
    have hi1 := hf.1 i (by omega)
    have hy := hf.1 (n - (t + 1)) (by omega)
    obtain ⟨m1, m2⟩ := tSub hn hf ht hi1 (fun q => 2 ^ q) (fun _ a b => a ||| b) (fun _ a b => a ||| b) (fun _ a b => a ||| b) (fun _ _ _ _ _ => rfl) (fun _ _ _ _ _ => rfl)
    have M1 : ∀ k, k < tL t → mset (tK f n (t + 1) (f i)) (tZ (t + 1)) (tL (t + 1)) (1 + k) = mset (tK f n t (f i)) (tZ t) (tL t) k := m1
    have M2 : ∀ k, k < tL t → mset (tK f n (t + 1) (f i)) (tZ (t + 1)) (tL (t + 1)) (1 + tL t + k) = mset (tK f n t (f (n - (t + 1)))) (tZ t) (tL t) k := m2
    have t1 := tTr hn hf (show t < n by omega) hi1
    have t2 := tTr hn hf (show t < n by omega) hy
    have nfe1 : ∀ k, k < tL t → tK f n t (f i) k = none → ∀ x y, rNf T m n R (tK f n (t + 1) (f i)) (tZ (t + 1)) (tL (t + 1)) (1 + k) x y = rNf T m n R (tK f n t (f i)) (tZ t) (tL t) k x y := by
      intro k hk e x y
      obtain ⟨g1, g2, g3, g4, g5, g6⟩ := mtree_vote t1 hk e
      have z : tZ (t + 1) (1 + k + 1) = tZ t (k + 1) := by
        rw [show 1 + k + 1 = k + 1 + 1 by omega]
        exact jZ_1 g5
      unfold rNf
      rw [z, show 1 + k + 1 = 1 + (k + 1) by omega, M1 (k + 1) g5, show 1 + (k + 1) + tZ t (k + 1) = 1 + (k + 1 + tZ t (k + 1)) by omega, M1 _ g6]
    have nfe2 : ∀ k, k < tL t → tK f n t (f (n - (t + 1))) k = none → ∀ x y, rNf T m n R (tK f n (t + 1) (f i)) (tZ (t + 1)) (tL (t + 1)) (1 + tL t + k) x y = rNf T m n R (tK f n t (f (n - (t + 1)))) (tZ t) (tL t) k x y := by
      intro k hk e x y
      obtain ⟨g1, g2, g3, g4, g5, g6⟩ := mtree_vote t2 hk e
      have z : tZ (t + 1) (1 + tL t + k + 1) = tZ t (k + 1) := by
        rw [show 1 + tL t + k + 1 = tL t + (k + 1) + 1 by omega]
        exact jZ_2
      unfold rNf
      rw [z, show 1 + tL t + k + 1 = 1 + tL t + (k + 1) by omega, M2 (k + 1) g5, show 1 + tL t + (k + 1) + tZ t (k + 1) = 1 + tL t + (k + 1 + tZ t (k + 1)) by omega, M2 _ g6]
    obtain ⟨s1, s2⟩ := tSub hn hf ht hi1 (fun q => q) (rNf T m n R (tK f n (t + 1) (f i)) (tZ (t + 1)) (tL (t + 1))) (rNf T m n R (tK f n t (f i)) (tZ t) (tL t)) (rNf T m n R (tK f n t (f (n - (t + 1)))) (tZ t) (tL t)) nfe1 nfe2
    have a1 := s1 0 hp
    have a2 := s2 0 hp
    rw [show 1 + 0 = 1 from rfl] at a1
    rw [Nat.add_zero (1 + tL t)] at a2
    have v := tVote hn hf ht hi1 (fun q => q) (rNf T m n R (tK f n (t + 1) (f i)) (tZ (t + 1)) (tL (t + 1)))
    have i1 : mF (fun q => q) (rNf T m n R (tK f n t (f i)) (tZ t) (tL t)) (tK f n t (f i)) (tZ t) (tL t) 0 = rG (rCd T m n R) n f t (f i) := msin_row hn hf hR t i (by omega) (by omega)
    have i2 : mF (fun q => q) (rNf T m n R (tK f n t (f (n - (t + 1)))) (tZ t) (tL t)) (tK f n t (f (n - (t + 1)))) (tZ t) (tL t) 0 = rG (rCd T m n R) n f t (f (n - (t + 1))) := msin_row hn hf hR t (n - (t + 1)) (by omega) (by omega)
    rw [i1] at a1
    rw [i2] at a2
    show mF _ _ _ _ _ 0 = if rCd T m n R (f i) (f (n - (t + 1))) = true then rG (rCd T m n R) n f t (f i) else rG (rCd T m n R) n f t (f (n - (t + 1)))
    refine v.trans ?_
    rw [a1, a2]
    unfold rNf
    have e0 : tZ (t + 1) (0 + 1) = tL t := by
      show jZ (tL t) (tL t) (tZ t) (tZ t) (0 + 1) = tL t
      rw [jZ_1 hp]
      exact t1.2.2.1
    have q1 := M1 0 hp
    have q2 := M2 0 hp
    rw [show 1 + 0 = 1 from rfl] at q1
    rw [Nat.add_zero (1 + tL t)] at q2
    rw [e0, Nat.zero_add, q1, q2]
    have hxy : f i ≠ f (n - (t + 1)) := fun e => by have := hf.2 _ _ (show i < n by omega) (show n - (t + 1) < n by omega) e; omega
    have evf : mvf T m n R (mset (tK f n t (f i)) (tZ t) (tL t) 0) (mset (tK f n t (f (n - (t + 1)))) (tZ t) (tL t) 0) = mvt T m n R (f i) (f (n - (t + 1))) := by
      unfold mvf mvt
      refine fb_ct_cong (fun j hj => ?_)
      rw [mlk_two (T := fun j => decide (n - t ≤ mpos f n j)) (hR j hj) hi1 hy hxy (mset_row hn hf t (f i) (by omega) hi1) (mset_row hn hf t (f (n - (t + 1))) (by omega) hy) (decide_eq_false (by rw [mpos_at hf (show i < n by omega)]; omega)) (decide_eq_false (by rw [mpos_at hf (show n - (t + 1) < n by omega)]; omega))]
      rfl
    rw [evf]
    unfold rCd
    by_cases z : mpop T ≤ 2 * mvt T m n R (f i) (f (n - (t + 1)))
    · rw [if_pos z, if_pos (decide_eq_true z)]
    · rw [if_neg z, if_neg (by rw [decide_eq_false z]; decide)]
end ROW
theorem pop_full : ∀ m, m ≤ 9 → mpop (2 ^ m - 1) = m := by decide +kernel
theorem lp_De_sOR {Q : Option Value → mx_M → Prop} {c : mx_M} {a : mSt} {f : Nat → Nat} {v : Nat} (h : cI c a) (hf : mperm a.1.1 f) (h31 : ∀ p, p < a.1.1 → c 31 p = nI (f p)) (hq : Q (some (.int (nI v))) c) :
    ∀ (t x i : Nat), x + t = a.1.1 → i < x → rG (rCd (mall a) a.1.2 a.1.1 a.2.1.1) a.1.1 f t (f i) = v → mx_E 0 2 m_De_sincereOfRow Q 7 [.ref 0, .int (nI (f i)), .int (nI x), .null] [] c
  | 0, x, i, hx, hi, hv => by
    have n6 := (cI_nm h).1.2
    refine mR 4 rfl trivial ?_
    rw [cI_2 h]
    refine mbGe _ _ rfl (by omega) (by omega) (fun _ => ?_) (fun z => by omega)
    refine mR 1 rfl trivial ?_
    have hv2 : f i = v := hv
    rw [hv2]
    exact mx_E_iret rfl rfl hq
  | t + 1, x, i, hx, hi, hv => by
    obtain ⟨hn, hm⟩ := cI_nm h
    have n6 := hn.2
    have li := hf.1 i (by omega)
    have lx := hf.1 x (by omega)
    have hne : f i ≠ f x := fun e => by have := hf.2 _ _ (show i < a.1.1 by omega) (show x < a.1.1 by omega) e; omega
    have e1 : nI (f i) * 6 + nI (f x) = nI (6 * f i + f x) := by rw [show (6 : Int32) = nI 6 from rfl, pk_mul, nI_add, Nat.mul_comm]
    have hpp := pop_full a.1.2 hm
    have hvl := mvt_le (mall a) a.1.2 a.1.1 a.2.1.1 (f i) (f x)
    refine mR 4 rfl trivial ?_
    rw [cI_2 h]
    refine mbGe _ _ rfl (by omega) (by omega) (fun z => by omega) (fun _ => ?_)
    refine mR 12 rfl (mA2 (mI (by omega)) (by rw [nI_cl (by omega), h31 x (by omega), e1]; exact mI (by omega))) ?_
    rw [nI_cl (a := x) (by omega), h31 x (by omega), e1, nI_cl (a := 6 * f i + f x) (by omega), (cI_b h).2 _ _ li lx hne]
    refine mx_E_callS (sp_In_bitCount _ _ (bS_512 _ hm)) rfl rfl rfl (fun r c1 hr => ?_)
    obtain ⟨rfl, hz⟩ := hr
    rw [hz, show mpop (bS (fun i_1 => gV a.1.1 (a.2.1.1 i_1) (f i) (f x)) a.1.2) = mvt (mall a) a.1.2 a.1.1 a.2.1.1 (f i) (f x) from pop_self hm]
    refine mR 7 rfl trivial ?_
    rw [cI_3 h, pk_sub hvl]
    have hs : rG (rCd (mall a) a.1.2 a.1.1 a.2.1.1) a.1.1 f (t + 1) (f i) = if rCd (mall a) a.1.2 a.1.1 a.2.1.1 (f i) (f (a.1.1 - (t + 1))) = true then rG (rCd (mall a) a.1.2 a.1.1 a.2.1.1) a.1.1 f t (f i) else rG (rCd (mall a) a.1.2 a.1.1 a.2.1.1) a.1.1 f t (f (a.1.1 - (t + 1))) := rfl
    have hr : rCd (mall a) a.1.2 a.1.1 a.2.1.1 (f i) (f x) = decide (a.1.2 ≤ 2 * mvt (mall a) a.1.2 a.1.1 a.2.1.1 (f i) (f x)) := by
      unfold rCd
      rw [show mpop (mall a) = a.1.2 from hpp]
    rw [hv, show a.1.1 - (t + 1) = x by omega, hr] at hs
    have nxt : ∀ j, j < x + 1 → rG (rCd (mall a) a.1.2 a.1.1 a.2.1.1) a.1.1 f t (f j) = v → ∀ g : Int32, mx_E 0 2 m_De_sincereOfRow Q 38 [.ref 0, .int (nI (f j)), .int (nI x), .int g] [] c := by
      intro j hj hv2 g
      refine mR 2 rfl trivial ?_
      exact mW (lp_De_sOR h hf h31 hq t (x + 1) j (by omega) hj hv2) ⟨Or.inr rfl, Or.inr rfl, Or.inr (by rw [nI_1]), Or.inl rfl, trivial⟩ rfl rfl
    refine mbGe _ _ rfl (by omega) (by omega) (fun z => ?_) (fun z => ?_)
    · rw [if_pos (decide_eq_true (by omega))] at hs
      exact nxt i (by omega) hs.symm _
    · rw [if_neg (by rw [decide_eq_false (by omega)]; decide)] at hs
      refine mR 5 rfl (mA1 (mI (by omega))) ?_
      rw [nI_cl (a := x) (by omega), h31 x (by omega)]
      exact nxt x (by omega) hs.symm _
theorem sp_De_sincereOfRow (c : mx_M) {a : mSt} {f : Nat → Nat} (h : cI c a) (hf : mperm a.1.1 f) (h31 : ∀ p, p < a.1.1 → c 31 p = nI (f p)) : mx_Spec 0 2 m_De_sincereOfRow [.ref 0] c (fun r c' => r = some (.int (nI (rG (rCd (mall a) a.1.2 a.1.1 a.2.1.1) a.1.1 f (a.1.1 - 1) (f 0)))) ∧ c' = c) := by
  have n2 := (cI_nm h).1.1
  refine mx_Spec_E rfl rfl rfl ?_
  refine mR 7 rfl (mA1 (mI (n := 0) (by decide))) ?_
  rw [show ((0 : Int32)).toNatClampNeg = 0 by decide, h31 0 (by omega)]
  exact lp_De_sOR h hf h31 ⟨rfl, rfl⟩ (a.1.1 - 1) 1 0 (by omega) (by decide) rfl
theorem cI_32 {c : mx_M} {a : mSt} {k : Nat} {v : Int32} (h : cI c a) : cI (mx_up c 32 k v) a := cI_fr h (mfr_up (mfr_rf _ _) (by decide))
theorem lp_De_fOR1 {Q : Option Value → mx_M → Prop} {a : mSt} {f : Nat → Nat} (hk : ∀ c2 : mx_M, cI c2 a → (∀ p, p < a.1.1 → c2 31 p = nI (f p)) → (∀ p, p < a.1.1 → c2 32 p = nI p) → mx_E 0 4 m_De_foreseenOfRow Q 14 [.ref 0, .int (nI a.1.1), .null, .null, .null] [] c2) :
    ∀ (u j : Nat) (c : mx_M), j + u = a.1.1 → cI c a → (∀ p, p < a.1.1 → c 31 p = nI (f p)) → (∀ p, p < j → c 32 p = nI p) → mx_E 0 4 m_De_foreseenOfRow Q 2 [.ref 0, .int (nI j), .null, .null, .null] [] c
  | 0, j, c, hj, h, h31, d => by
    have n6 := (cI_nm h).1.2
    have e : j = a.1.1 := by omega
    rw [e] at d ⊢
    refine mR 4 rfl trivial ?_
    rw [cI_2 h]
    exact mbGe _ _ rfl (by omega) (by omega) (fun _ => hk c h h31 d) (fun z => by omega)
  | u + 1, j, c, hj, h, h31, d => by
    have n6 := (cI_nm h).1.2
    refine mR 4 rfl trivial ?_
    rw [cI_2 h]
    refine mbGe _ _ rfl (by omega) (by omega) (fun z => by omega) (fun _ => ?_)
    refine mR 5 rfl (mA1 (mI (by omega))) ?_
    rw [nI_cl (a := j) (by omega)]
    refine mR 2 rfl trivial ?_
    refine mS (lp_De_fOR1 hk u (j + 1) _ (by omega) (cI_32 h) (fun p hp => by rw [mx_up_id _ _ _ _ _ _ (by decide)]; exact h31 p hp) (fun p hp => ?_)) ?_ rfl rfl
    · rcases Nat.lt_or_eq_of_le (Nat.le_of_lt_succ hp) with q | q
      · rw [mx_up_ix _ _ _ _ _ _ (by omega)]; exact d p q
      · rw [q, mx_up_same]
    · rw [nI_1]
/-- a motion's outcome if it has won all votes ahead of the last t -/
def aF (a : mSt) (f : Nat → Nat) (t its : Nat) : Nat := rF (rSt (mall a) a.1.2 a.1.1 a.2.1.1) a.1.1 f t its
theorem lp_De_fOR2 {Q : Option Value → mx_M → Prop} {a : mSt} {f : Nat → Nat} {x t : Nat} (hx : x + 1 + t + 1 = a.1.1) (hf : mperm a.1.1 f)
    (hk : ∀ c2 : mx_M, cI c2 a → (∀ p, p < a.1.1 → c2 31 p = nI (f p)) → (∀ i, i ≤ x → c2 32 (f i) = nI (aF a f (t + 1) (f i))) → mx_E 0 4 m_De_foreseenOfRow Q 20 [.ref 0, .int (nI x), .null, .null, .null] [] c2) :
    ∀ (u i : Nat) (c : mx_M), i + u = x + 1 → cI c a → (∀ p, p < a.1.1 → c 31 p = nI (f p)) → (∀ j, j < i → c 32 (f j) = nI (aF a f (t + 1) (f j))) → (∀ j, i ≤ j → j < x + 1 → c 32 (f j) = nI (aF a f t (f j))) → mx_E 0 4 m_De_foreseenOfRow Q 33 [.ref 0, .int (nI (x + 1)), .int (nI (aF a f t (f (x + 1)))), .int (nI i), .null] [] c
  | 0, i, c, hi, h, h31, d1, d2 => by
    have n6 := (cI_nm h).1.2
    refine mR 2 rfl trivial ?_
    refine mbGe _ _ rfl (by omega) (by omega) (fun _ => ?_) (fun z => by omega)
    refine mR 2 rfl trivial ?_
    exact mW (hk c h h31 (fun j hj => d1 j (by omega))) ⟨Or.inr rfl, Or.inr (by rw [nI_m1, nI_p1]), Or.inl rfl, Or.inl rfl, Or.inl rfl, trivial⟩ rfl rfl
  | u + 1, i, c, hi, h, h31, d1, d2 => by
    obtain ⟨hn, hm⟩ := cI_nm h
    have n6 := hn.2
    have li := hf.1 i (by omega)
    have lF : aF a f t (f i) < a.1.1 := rF_lt hf t _ (by omega) li
    have lG : aF a f t (f (x + 1)) < a.1.1 := rF_lt hf t _ (by omega) (hf.1 _ (by omega))
    refine mR 2 rfl trivial ?_
    refine mbGe _ _ rfl (by omega) (by omega) (fun z => by omega) (fun _ => ?_)
    refine mR 5 rfl (mA1 (mI (by omega))) ?_
    rw [nI_cl (a := i) (by omega), h31 i (by omega)]
    refine mR 11 rfl (mA1 (mI (by omega))) ?_
    rw [nI_cl (a := f i) (by omega), d2 i (Nat.le_refl _) (by omega)]
    refine mx_E_callV (sp_De_everyone _ hm (cI_3 h)) rfl rfl rfl (fun r c1 hr => ?_)
    obtain ⟨rfl, hz⟩ := hr
    rw [hz]
    refine mx_E_callV (sp_Ba_stronger13 _ n6 hm (cI_b h) (cI_R h) lF lG (pwt _)) rfl rfl rfl (fun r c1 hr => ?_)
    obtain ⟨rfl, hz⟩ := hr
    rw [hz]
    refine mR 1 rfl (mA1 (mI (by omega))) ?_
    rw [nI_cl (a := f i) (by omega)]
    refine mR 2 rfl trivial ?_
    refine mW (lp_De_fOR2 hx hf hk u (i + 1) _ (by omega) (cI_32 h) (fun p hp => by rw [mx_up_id _ _ _ _ _ _ (by decide)]; exact h31 p hp) (fun j hj => ?_) (fun j h1 h2 => ?_)) ⟨Or.inr rfl, Or.inr rfl, Or.inr rfl, Or.inr (by rw [nI_1]), Or.inl rfl, trivial⟩ rfl rfl
    · by_cases q : j = i
      · rw [q, mx_up_same]
        congr 1
        show _ = rSt _ _ _ _ (aF a f t (f i)) (aF a f t (f (a.1.1 - (t + 1))))
        rw [show a.1.1 - (t + 1) = x + 1 by omega]
        rfl
      · have hne : f j ≠ f i := fun e => q (hf.2 _ _ (by omega) (by omega) e)
        rw [mx_up_ix _ _ _ _ _ _ hne]
        exact d1 j (by omega)
    · have hne : f j ≠ f i := fun e => by have := hf.2 _ _ (show j < a.1.1 by omega) (show i < a.1.1 by omega) e; omega
      rw [mx_up_ix _ _ _ _ _ _ hne]
      exact d2 j (by omega) h2
theorem lp_De_fOR3 {Q : Option Value → mx_M → Prop} {a : mSt} {f : Nat → Nat} (hf : mperm a.1.1 f) (hq : ∀ c', cI c' a → Q (some (.int (nI (aF a f (a.1.1 - 1) (f 0))))) c') :
    ∀ (x t : Nat) (c : mx_M), x + t + 1 = a.1.1 → cI c a → (∀ p, p < a.1.1 → c 31 p = nI (f p)) → (∀ i, i ≤ x → c 32 (f i) = nI (aF a f t (f i))) → mx_E 0 4 m_De_foreseenOfRow Q 20 [.ref 0, .int (nI x), .null, .null, .null] [] c
  | 0, t, c, hx, h, h31, d => by
    have n6 := (cI_nm h).1.2
    have l0 := hf.1 0 (by omega)
    refine mR 2 rfl trivial ?_
    rw [show (1 : Int32) = nI 1 from rfl]
    refine mbLt _ _ rfl (by omega) (by decide) (fun _ => ?_) (fun z => by omega)
    refine mR 7 rfl (mA2 (mI (n := 0) (by decide)) (by rw [show ((0 : Int32)).toNatClampNeg = 0 by decide, h31 0 (by omega)]; exact mI (by omega))) ?_
    rw [show ((0 : Int32)).toNatClampNeg = 0 by decide, h31 0 (by omega), nI_cl (a := f 0) (by omega), d 0 (Nat.le_refl _), show t = a.1.1 - 1 by omega]
    exact mx_E_iret rfl rfl (hq c h)
  | x + 1, t, c, hx, h, h31, d => by
    have n6 := (cI_nm h).1.2
    have l0 := hf.1 (x + 1) (by omega)
    refine mR 2 rfl trivial ?_
    rw [show (1 : Int32) = nI 1 from rfl]
    refine mbLt _ _ rfl (by omega) (by decide) (fun z => by omega) (fun _ => ?_)
    refine mR 10 rfl (mA2 (mI (by omega)) (by rw [nI_cl (by omega), h31 (x + 1) (by omega)]; exact mI (by omega))) ?_
    rw [nI_cl (a := x + 1) (by omega), h31 (x + 1) (by omega), nI_cl (a := f (x + 1)) (by omega), d (x + 1) (Nat.le_refl _)]
    exact lp_De_fOR2 (by omega) hf (fun c2 h2 g31 d2 => lp_De_fOR3 hf hq x (t + 1) c2 (by omega) h2 g31 d2) (x + 1) 0 c (by omega) h h31 (fun j hj => absurd hj (Nat.not_lt_zero j)) (fun j _ hj => d j (by omega))
theorem sp_De_foreseenOfRow (c : mx_M) {a : mSt} {f : Nat → Nat} (h : cI c a) (hf : mperm a.1.1 f) (h31 : ∀ p, p < a.1.1 → c 31 p = nI (f p)) : mx_Spec 0 4 m_De_foreseenOfRow [.ref 0] c (fun r c' => r = some (.int (nI (aF a f (a.1.1 - 1) (f 0)))) ∧ cI c' a) := by
  have n2 := (cI_nm h).1.1
  have n6 := (cI_nm h).1.2
  refine mx_Spec_E rfl rfl rfl ?_
  refine mR 2 rfl trivial ?_
  refine lp_De_fOR1 (f := f) (fun c2 h2 g31 d => ?_) a.1.1 0 c (by omega) h h31 (fun p hp => absurd hp (Nat.not_lt_zero p))
  refine mR 6 rfl trivial ?_
  rw [cI_2 h2, show (1 : Int32) = nI 1 from rfl, pk_sub (by omega)]
  exact lp_De_fOR3 hf (fun c' hI => ⟨rfl, hI⟩) (a.1.1 - 1) 0 c2 (by omega) h2 g31 (fun i hi => d _ (hf.1 i (by omega)))
theorem sp_De_outcomeOfRow (c : mx_M) {a : mSt} {f : Nat → Nat} {w : Nat} (hw : w < 2) (h : cI c a) (hf : mperm a.1.1 f) (h31 : ∀ p, p < a.1.1 → c 31 p = nI (f p)) : mx_Spec 0 5 m_De_outcomeOfRow [.ref 0, .int (nI w)] c (fun r c' => r = some (.int (nI (aOut a w (pOrd a.1.1 a.2.1.1 f)))) ∧ cI c' a) := by
  have n2 := (cI_nm h).1.1
  have n6 := (cI_nm h).1.2
  refine mx_Spec_E rfl rfl rfl ?_
  refine mR 1 rfl trivial ?_
  rcases (show w = 0 ∨ w = 1 by omega) with rfl | rfl
  · refine mx_E_br rfl rfl (fun z => absurd (show nI 0 = 0 from rfl) z) (fun _ => ?_)
    refine mR 1 rfl trivial ?_
    refine mx_E_callV (sp_De_sincereOfRow _ h hf h31) rfl rfl rfl (fun r c1 hr => ?_)
    obtain ⟨rfl, hz⟩ := hr
    rw [hz]
    refine mR 1 rfl trivial ?_
    refine mx_E_iret rfl rfl ⟨?_, h⟩
    rw [← msin_row n6 hf (cI_R h) (a.1.1 - 1) 0 (by omega) (by omega)]
    rfl
  · refine mx_E_br rfl rfl (fun _ => ?_) (fun z => absurd (show ¬ nI 1 = 0 by decide) z)
    refine mR 1 rfl trivial ?_
    refine mx_E_callV (sp_De_foreseenOfRow _ h hf h31) rfl rfl rfl (fun r c1 hr => ?_)
    obtain ⟨rfl, hI⟩ := hr
    refine mx_E_iret rfl rfl ⟨?_, hI⟩
    unfold aF
    rw [← mfor_row n6 hf (a.1.1 - 1) (f 0) (by omega) (hf.1 0 (by omega))]
    rfl
theorem lp_De_reach {Q : Option Value → mx_M → Prop} {a : mSt} {x w y : Nat} (hx : x < a.1.1) (hw : w < 2) (hy : y < 2) (hq : ∀ c', cI c' a → Q (some (.int (if nI y = 0 then nI (fb_ct (aHit a w x) (mfact a.1.1)) else mfst (aHit a w x) (mfact a.1.1)))) c') :
    ∀ (u k : Nat) (c : mx_M), k + u = mfact a.1.1 → cI c a → mx_E 0 6 m_De_reach Q 20 [.ref 0, .int (nI x), .int (nI w), .int (nI y), .int (nI (fb_ct (aHit a w x) k)), .int (mfst (aHit a w x) k), .int (nI k)] [] c
  | 0, k, c, hk, h => by
    have hn := (cI_nm h).1
    have n6 := hn.2
    have hfl := mfact_le a.1.1 (by omega)
    have e : k = mfact a.1.1 := by omega
    rw [e]
    refine mR 2 rfl trivial ?_
    refine mx_E_callV (sp_De_orders _ n6 (cI_2 h)) rfl rfl rfl (fun r c1 hr => ?_)
    obtain ⟨rfl, hz⟩ := hr
    rw [hz]
    refine mbGe _ _ rfl (by omega) (by omega) (fun _ => ?_) (fun z => by omega)
    refine mR 1 rfl trivial ?_
    refine mx_E_br rfl rfl (fun z => ?_) (fun z => ?_)
    · refine mR 1 rfl trivial ?_
      refine mx_E_iret rfl rfl ?_
      have q := hq c h
      rw [if_neg z] at q
      exact q
    · refine mR 2 rfl trivial ?_
      refine mx_E_iret rfl rfl ?_
      have q := hq c h
      rw [if_pos (Decidable.not_not.mp z)] at q
      exact q
  | u + 1, k, c, hk, h => by
    have hn := (cI_nm h).1
    have n6 := hn.2
    have hfl := mfact_le a.1.1 (by omega)
    have hkn : k < mfact a.1.1 := by omega
    have hcl := fb_ct_le (aHit a w x) k
    refine mR 2 rfl trivial ?_
    refine mx_E_callV (sp_De_orders _ n6 (cI_2 h)) rfl rfl rfl (fun r c1 hr => ?_)
    obtain ⟨rfl, hz⟩ := hr
    rw [hz]
    refine mbGe _ _ rfl (by omega) (by omega) (fun z => by omega) (fun _ => ?_)
    refine mR 6 rfl trivial ?_
    rw [cI_2 h]
    refine mx_E_callS (sp_De_layOrder _ a.1.1 k hn hkn) rfl rfl rfl (fun r c1 hr => ?_)
    obtain ⟨rfl, hc1⟩ := hr
    have h1 : cI c1 a := by rw [hc1]; exact cI_lay h
    refine mR 2 rfl trivial ?_
    refine mx_E_callV (sp_De_outcomeOfRow _ hw h1 (mperm_mo hn hkn) (fun p hp => by rw [hc1, mx_upR_row, fa_fill_in hp])) rfl rfl rfl (fun r c2 hr => ?_)
    obtain ⟨rfl, h2⟩ := hr
    have lo : aOut a w (pOrd a.1.1 a.2.1.1 (mo a.1.1 k)) < a.1.1 := mout_lt (tTr n6 (mperm_mo hn hkn) (by have := hn.1; omega) (mo_lt hn hkn (by have := hn.1; omega)))
    have nxt : ∀ v w2, v = fb_ct (aHit a w x) (k + 1) → w2 = mfst (aHit a w x) (k + 1) → mx_E 0 6 m_De_reach Q 42 [.ref 0, .int (nI x), .int (nI w), .int (nI y), .int (nI v), .int w2, .int (nI k)] [] c2 := by
      intro v w2 hv hw2
      refine mR 2 rfl trivial ?_
      refine mS (lp_De_reach hx hw hy hq u (k + 1) c2 (by omega) h2) ?_ rfl rfl
      rw [hv, hw2, nI_1]
    refine mR 1 rfl trivial ?_
    refine mbNe _ _ rfl (by omega) (by omega) (fun hb => ?_) (fun hb => ?_)
    · have hb2 : aHit a w x k = false := by unfold aHit; rw [beq_eq_false_iff_ne]; exact hb
      exact nxt _ _ (by rw [fb_ct_succ, hb2]; rfl) (by rw [mfst_no hb2])
    · have hb2 : aHit a w x k = true := by unfold aHit; rw [beq_iff_eq]; exact hb
      have hc2 : fb_ct (aHit a w x) (k + 1) = fb_ct (aHit a w x) k + 1 := by rw [fb_ct_succ, hb2]; rfl
      refine mR 3 rfl trivial ?_
      rw [nI_1]
      refine mx_E_br rfl rfl (fun z => ?_) (fun z => ?_)
      · exact nxt _ _ hc2.symm (by rw [mfst_9 hb2, if_neg (fun q => z ((mfst_n9 (by omega)).mpr q))])
      · refine mR 2 rfl trivial ?_
        exact nxt _ _ hc2.symm (by rw [mfst_9 hb2, if_pos ((mfst_n9 (by omega)).mp (Decidable.not_not.mp z))])
theorem qc_reach {c : mx_M} {a : mSt} (x w y : Int32) (h : cI c a) : mx_Spec 0 6 m_De_reach [.ref 0, .int x, .int w, .int y] c (fun r c' => r = some (.int (aReach a x w y).1) ∧ cI c' (aReach a x w y).2) := by
  obtain ⟨hn, hm⟩ := cI_nm h
  have n6 := hn.2
  refine mx_Spec_E rfl rfl rfl ?_
  refine mR 2 rfl trivial ?_
  refine mx_E_callV (sp_De_isMotion _ x _ (cI_2 h)) rfl rfl rfl (fun r c1 hr => ?_)
  obtain ⟨rfl, hz⟩ := hr
  rw [hz]
  unfold aReach
  refine mbT rfl (fun hb => ?_) (fun hb => ?_)
  · rw [hb]
    refine mR 1 rfl trivial ?_
    exact mx_E_iret rfl rfl ⟨rfl, h⟩
  · refine mR 2 rfl trivial ?_
    refine mx_E_callV (sp_De_isWay _ w) rfl rfl rfl (fun r c1 hr => ?_)
    obtain ⟨rfl, hz⟩ := hr
    rw [hz]
    refine mbT rfl (fun hb2 => ?_) (fun hb2 => ?_)
    · rw [hb2, Bool.and_false]
      refine mR 1 rfl trivial ?_
      exact mx_E_iret rfl rfl ⟨rfl, h⟩
    · refine mR 2 rfl trivial ?_
      refine mx_E_callS (sp_De_within _ y 2) rfl rfl rfl (fun r c1 hr => ?_)
      obtain ⟨rfl, hz⟩ := hr
      rw [hz]
      refine mbF rfl (fun hb3 => ?_) (fun hb3 => ?_)
      · rw [hb, hb2, hb3]
        obtain ⟨i, hi, rfl⟩ := mi_of (by omega) hb
        obtain ⟨v, hv, rfl⟩ := mi_of (by decide) hb2
        obtain ⟨j, hj, rfl⟩ := mi_of (by decide) hb3
        rw [nI_cl (a := i) (by omega), nI_cl (a := v) (by omega)]
        refine mR 6 rfl trivial ?_
        exact lp_De_reach hi hv hj (fun c' hI => ⟨rfl, hI⟩) (mfact a.1.1) 0 c (by omega) h
      · rw [hb3, Bool.and_false]
        refine mR 1 rfl trivial ?_
        exact mx_E_iret rfl rfl ⟨rfl, h⟩
