/-! pure: bits counted, orders by their number -/
def mpop (s : Nat) : Nat := fb_ct (fun i => s.testBit i) 9
theorem mpop_step : ∀ l, l < 512 → l ≠ 0 → mpop (l &&& (l - 1)) + 1 = mpop l ∧ l &&& (l - 1) < l := by decide +kernel
theorem mpop_le (s : Nat) : mpop s ≤ 9 := fb_ct_le _ 9
theorem mpop_0 : mpop 0 = 0 := by decide
def mfact : Nat → Nat
  | 0 => 1
  | n + 1 => (n + 1) * mfact n
theorem mfact_le : ∀ n, n < 7 → 1 ≤ mfact n ∧ mfact n ≤ 720 := by decide
/-- the s-th that is not of the set, from i on -/
def mpick : Nat → Nat → Nat → Nat → Nat
  | 0, _, i, _ => i
  | f + 1, met, i, s => if met.testBit i then mpick f met (i + 1) s else if s = 0 then i else mpick f met (i + 1) (s - 1)
/-- of the k-th order of n: what is left, and which are used, ahead of place p -/
def mst (n k : Nat) : Nat → Nat × Nat
  | 0 => (k, 0)
  | p + 1 => let s := mst n k p
    let u := mfact (n - 1 - p)
    (s.1 % u, s.2 ||| 2 ^ mpick 8 s.2 0 (s.1 / u))
/-- the k-th order of n at place p -/
def mo (n k p : Nat) : Nat := mpick 8 (mst n k p).2 0 ((mst n k p).1 / mfact (n - 1 - p))
/-- which n there are -/
abbrev mn (n : Nat) : Prop := 2 ≤ n ∧ n ≤ 6
theorem mn_cases {n : Nat} (h : mn n) : n = 2 ∨ n = 3 ∨ n = 4 ∨ n = 5 ∨ n = 6 := by obtain ⟨h1, h2⟩ := h; omega
/-- what holds of orders: all is found out by trying -/
def mo_ck (n k : Nat) : Bool := (List.range n).all (fun p => decide (mo n k p < n) && decide ((mst n k p).1 < mfact (n - p)) && decide ((mst n k p).2 < 64) && !((mst n k p).2.testBit (mo n k p)) && (List.range n).all (fun q => decide (p = q) || decide (mo n k p ≠ mo n k q)))
theorem mo_ck2 : (List.range (mfact 2)).all (mo_ck 2) = true := by decide +kernel
theorem mo_ck3 : (List.range (mfact 3)).all (mo_ck 3) = true := by decide +kernel
theorem mo_ck4 : (List.range (mfact 4)).all (mo_ck 4) = true := by decide +kernel
theorem mo_ck5 : (List.range (mfact 5)).all (mo_ck 5) = true := by decide +kernel
theorem mo_ck6 : (List.range (mfact 6)).all (mo_ck 6) = true := by decide +kernel
theorem mo_ok {n k : Nat} (hn : mn n) (hk : k < mfact n) : mo_ck n k = true := by
  rcases mn_cases hn with rfl | rfl | rfl | rfl | rfl
  · exact List.all_eq_true.mp mo_ck2 k (List.mem_range.mpr hk)
  · exact List.all_eq_true.mp mo_ck3 k (List.mem_range.mpr hk)
  · exact List.all_eq_true.mp mo_ck4 k (List.mem_range.mpr hk)
  · exact List.all_eq_true.mp mo_ck5 k (List.mem_range.mpr hk)
  · exact List.all_eq_true.mp mo_ck6 k (List.mem_range.mpr hk)
theorem mo_all {n k p : Nat} (hn : mn n) (hk : k < mfact n) (hp : p < n) : mo n k p < n ∧ (mst n k p).1 < mfact (n - p) ∧ (mst n k p).2 < 64 ∧ (mst n k p).2.testBit (mo n k p) = false ∧ ∀ q, q < n → p ≠ q → mo n k p ≠ mo n k q := by
  have h := List.all_eq_true.mp (mo_ok hn hk) p (List.mem_range.mpr hp)
  simp only [Bool.and_eq_true, decide_eq_true_eq, Bool.not_eq_true'] at h
  obtain ⟨⟨⟨⟨h1, h2⟩, h3⟩, h4⟩, h5⟩ := h
  refine ⟨h1, h2, h3, h4, fun q hq hpq => ?_⟩
  have h6 := List.all_eq_true.mp h5 q (List.mem_range.mpr hq)
  simp only [Bool.or_eq_true, decide_eq_true_eq] at h6
  exact h6.resolve_left hpq
theorem mo_lt {n k p : Nat} (hn : mn n) (hk : k < mfact n) (hp : p < n) : mo n k p < n := (mo_all hn hk hp).1
theorem mo_inj {n k p q : Nat} (hn : mn n) (hk : k < mfact n) (hp : p < n) (hq : q < n) (h : mo n k p = mo n k q) : p = q := by
  rcases Nat.decEq p q with e | e
  · exact absurd h ((mo_all hn hk hp).2.2.2.2 q hq e)
  · exact e
theorem mo_onto {n k x : Nat} (hn : mn n) (hk : k < mfact n) (hx : x < n) : ∃ p, p < n ∧ mo n k p = x := fb_onto (fun _ h => mo_lt hn hk h) (fun _ _ h1 h2 e => Nat.ne_of_lt h1 (mo_inj hn hk (by omega) h2 e)) hx
