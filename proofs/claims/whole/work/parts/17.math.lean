/-! pure: rankings, votes, agendas -/
theorem ff_at {p : Nat → Bool} {n k : Nat} (hk : k < n) (h1 : p k = true) (h0 : ∀ j, j < k → p j = false) : fa_first p n = k := by
  have hle := fa_first_le p n
  rcases Nat.lt_trichotomy (fa_first p n) k with h | h | h
  · have := fa_first_yes p n (by omega)
    rw [h0 _ h] at this
    cases this
  · exact h
  · have := fa_first_no p n k h
    rw [h1] at this
    cases this
theorem ff_none {p : Nat → Bool} {n : Nat} (h0 : ∀ j, j < n → p j = false) : fa_first p n = n := by
  have hle := fa_first_le p n
  rcases Nat.lt_or_ge (fa_first p n) n with h | h
  · have := fa_first_yes p n h
    rw [h0 _ h] at this
    cases this
  · omega
/-- each of 0 .. n - 1 once -/
def mperm (n : Nat) (f : Nat → Nat) : Prop := (∀ p, p < n → f p < n) ∧ ∀ p q, p < n → q < n → f p = f q → p = q
theorem mperm_onto {n x : Nat} {f : Nat → Nat} (h : mperm n f) (hx : x < n) : ∃ p, p < n ∧ f p = x := fb_onto (fun _ hp => h.1 _ hp) (fun _ _ h1 h2 e => Nat.ne_of_lt h1 (h.2 _ _ (by omega) h2 e)) hx
theorem mperm_mo {n k : Nat} (hn : mn n) (hk : k < mfact n) : mperm n (mo n k) := ⟨fun _ hp => mo_lt hn hk hp, fun _ _ hp hq e => mo_inj hn hk hp hq e⟩
/-- the place of a motion in a ranking -/
def mpos (f : Nat → Nat) (n x : Nat) : Nat := fa_first (fun p => f p == x) n
theorem mpos_at {n p : Nat} {f : Nat → Nat} (h : mperm n f) (hp : p < n) : mpos f n (f p) = p := ff_at hp (beq_self_eq_true _) (fun j hj => by
  rw [beq_eq_false_iff_ne]
  exact fun e => Nat.ne_of_lt hj (h.2 _ _ (by omega) hp e))
theorem mpos_lt {n x : Nat} {f : Nat → Nat} (h : mperm n f) (hx : x < n) : mpos f n x < n ∧ f (mpos f n x) = x := by
  obtain ⟨p, hp, e⟩ := mperm_onto h hx
  rw [← e, mpos_at h hp]
  exact ⟨hp, rfl⟩
theorem mpos_inj {n x y : Nat} {f : Nat → Nat} (h : mperm n f) (hx : x < n) (hy : y < n) (e : mpos f n x = mpos f n y) : x = y := by
  rw [← (mpos_lt h hx).2, ← (mpos_lt h hy).2, e]
/-- how many of the members there (bits) rank x higher than y -/
def mvt (t m n : Nat) (R : Nat → Nat → Nat) (x y : Nat) : Nat := fb_ct (fun i => t.testBit i && decide (mpos (R i) n x < mpos (R i) n y)) m
def mbeat (t m n : Nat) (R : Nat → Nat → Nat) (x y : Nat) : Bool := decide (mvt t m n R y x < mvt t m n R x y ∨ (mvt t m n R x y = mvt t m n R y x ∧ x < y))
/-- whether a ranking likes the first of two sets better, or both as well -/
def mlk (f : Nat → Nat) (n s1 s2 : Nat) : Bool := if fa_first (fun p => s1.testBit (f p) != s2.testBit (f p)) n < n then s1.testBit (f (fa_first (fun p => s1.testBit (f p) != s2.testBit (f p)) n)) else true
/-- how many of those there vote for the first -/
def mvf (t m n : Nat) (R : Nat → Nat → Nat) (s1 s2 : Nat) : Nat := fb_ct (fun i => t.testBit i && mlk (R i) n s1 s2) m
/-- an agenda: what each node is (a motion; none: a vote), how many nodes are of it -/
def mtree (n : Nat) (kd : Nat → Option Nat) (sz : Nat → Nat) (nd : Nat) : Prop := 1 ≤ nd ∧ nd ≤ 63 ∧ sz 0 = nd ∧ ∀ k, k < nd → (∃ q, kd k = some q ∧ q < n ∧ sz k = 1) ∨ (kd k = none ∧ 1 ≤ sz (k + 1) ∧ 1 ≤ sz (k + 1 + sz (k + 1)) ∧ sz k = 1 + sz (k + 1) + sz (k + 1 + sz (k + 1)) ∧ k + sz k ≤ nd)
theorem mtree_leaf {n nd k q : Nat} {kd : Nat → Option Nat} {sz : Nat → Nat} (h : mtree n kd sz nd) (hk : k < nd) (e : kd k = some q) : q < n ∧ sz k = 1 := by
  rcases h.2.2.2 k hk with ⟨q', h1, h2, h3⟩ | ⟨h1, -⟩
  · rw [e] at h1
    cases h1
    exact ⟨h2, h3⟩
  · rw [e] at h1
    cases h1
theorem mtree_vote {n nd k : Nat} {kd : Nat → Option Nat} {sz : Nat → Nat} (h : mtree n kd sz nd) (hk : k < nd) (e : kd k = none) : 1 ≤ sz (k + 1) ∧ 1 ≤ sz (k + 1 + sz (k + 1)) ∧ sz k = 1 + sz (k + 1) + sz (k + 1 + sz (k + 1)) ∧ k + sz k ≤ nd ∧ k + 1 < nd ∧ k + 1 + sz (k + 1) < nd := by
  rcases h.2.2.2 k hk with ⟨q', h1, h2, h3⟩ | ⟨h1, h2, h3, h4, h5⟩
  · rw [e] at h1
    cases h1
  · exact ⟨h2, h3, h4, h5, by omega, by omega⟩
/-- what comes of a node by what comes of its branches -/
def mfold (lf : Nat → Nat) (nf : Nat → Nat → Nat → Nat) (kd : Nat → Option Nat) (sz : Nat → Nat) : Nat → Nat → Nat
  | 0, _ => 0
  | f + 1, k => match kd k with
    | some q => lf q
    | none => nf k (mfold lf nf kd sz f (k + 1)) (mfold lf nf kd sz f (k + 1 + sz (k + 1)))
def mF (lf : Nat → Nat) (nf : Nat → Nat → Nat → Nat) (kd : Nat → Option Nat) (sz : Nat → Nat) (nd k : Nat) : Nat := mfold lf nf kd sz (nd - k) k
theorem mfold_fuel {n nd : Nat} {kd : Nat → Option Nat} {sz : Nat → Nat} (lf : Nat → Nat) (nf : Nat → Nat → Nat → Nat) (h : mtree n kd sz nd) : ∀ (f g k : Nat), k < nd → nd - k ≤ f → nd - k ≤ g → mfold lf nf kd sz f k = mfold lf nf kd sz g k
  | 0, g, k, hk, hf, hg => by omega
  | f + 1, 0, k, hk, hf, hg => by omega
  | f + 1, g + 1, k, hk, hf, hg => by
    unfold mfold
    cases e : kd k with
    | some q => rfl
    | none =>
      obtain ⟨h1, h2, h3, h4, h5, h6⟩ := mtree_vote h hk e
      dsimp only
      rw [mfold_fuel lf nf h f g (k + 1) h5 (by omega) (by omega), mfold_fuel lf nf h f g (k + 1 + sz (k + 1)) h6 (by omega) (by omega)]
theorem mF_leaf {nd k q : Nat} {kd : Nat → Option Nat} {sz : Nat → Nat} (lf : Nat → Nat) (nf : Nat → Nat → Nat → Nat) (hk : k < nd) (e : kd k = some q) : mF lf nf kd sz nd k = lf q := by
  unfold mF
  obtain ⟨f, hf⟩ : ∃ f, nd - k = f + 1 := ⟨nd - k - 1, by omega⟩
  rw [hf]
  unfold mfold
  rw [e]
theorem mF_vote {n nd k : Nat} {kd : Nat → Option Nat} {sz : Nat → Nat} (lf : Nat → Nat) (nf : Nat → Nat → Nat → Nat) (h : mtree n kd sz nd) (hk : k < nd) (e : kd k = none) : mF lf nf kd sz nd k = nf k (mF lf nf kd sz nd (k + 1)) (mF lf nf kd sz nd (k + 1 + sz (k + 1))) := by
  obtain ⟨h1, h2, h3, h4, h5, h6⟩ := mtree_vote h hk e
  unfold mF
  obtain ⟨f, hf⟩ : ∃ f, nd - k = f + 1 := ⟨nd - k - 1, by omega⟩
  rw [hf]
  show (match kd k with
    | some q => lf q
    | none => nf k (mfold lf nf kd sz f (k + 1)) (mfold lf nf kd sz f (k + 1 + sz (k + 1)))) = _
  rw [e]
  dsimp only
  rw [mfold_fuel lf nf h f (nd - (k + 1)) (k + 1) h5 (by omega) (by omega), mfold_fuel lf nf h f (nd - (k + 1 + sz (k + 1))) (k + 1 + sz (k + 1)) h6 (by omega) (by omega)]
/-- all nodes by their branches, from the last to the first -/
theorem mF_ind {n nd : Nat} {kd : Nat → Option Nat} {sz : Nat → Nat} (P : Nat → Prop) (h : mtree n kd sz nd) (hl : ∀ k q, k < nd → kd k = some q → q < n → P k) (hv : ∀ k, k < nd → kd k = none → P (k + 1) → P (k + 1 + sz (k + 1)) → P k) : ∀ (f k : Nat), k < nd → nd - k ≤ f → P k
  | 0, k, hk, hf => by omega
  | f + 1, k, hk, hf => by
    cases e : kd k with
    | some q => exact hl k q hk e (mtree_leaf h hk e).1
    | none =>
      obtain ⟨h1, h2, h3, h4, h5, h6⟩ := mtree_vote h hk e
      exact hv k hk e (mF_ind P h hl hv f (k + 1) h5 (by omega)) (mF_ind P h hl hv f (k + 1 + sz (k + 1)) h6 (by omega))
/-- the motions of a node, as bits -/
def mset (kd : Nat → Option Nat) (sz : Nat → Nat) (nd k : Nat) : Nat := mF (fun q => 2 ^ q) (fun _ a b => a ||| b) kd sz nd k
theorem mset_lt {n nd k : Nat} {kd : Nat → Option Nat} {sz : Nat → Nat} (hn : n ≤ 6) (h : mtree n kd sz nd) (hk : k < nd) : mset kd sz nd k < 64 := by
  refine mF_ind (fun k => mset kd sz nd k < 64) h (fun k q hk e hq => ?_) (fun k hk e h1 h2 => ?_) (nd - k) k hk (Nat.le_refl _)
  · show mF _ _ kd sz nd k < 64
    rw [mF_leaf _ _ hk e]
    exact Nat.lt_of_lt_of_le (Nat.pow_lt_pow_right (by decide) (show q < 6 by omega)) (by decide)
  · show mF _ _ kd sz nd k < 64
    rw [mF_vote _ _ h hk e]
    exact Nat.or_lt_two_pow (n := 6) h1 h2
/-- what comes of a node sincere, foreseen -/
def msin (t m n : Nat) (R : Nat → Nat → Nat) (kd : Nat → Option Nat) (sz : Nat → Nat) (nd k : Nat) : Nat := mF (fun q => q) (fun k a b => if mpop t ≤ 2 * mvf t m n R (mset kd sz nd (k + 1)) (mset kd sz nd (k + 1 + sz (k + 1))) then a else b) kd sz nd k
def mfor (t m n : Nat) (R : Nat → Nat → Nat) (kd : Nat → Option Nat) (sz : Nat → Nat) (nd k : Nat) : Nat := mF (fun q => q) (fun _ x y => if x = y ∨ mbeat t m n R x y = true then x else y) kd sz nd k
def mout (w t m n : Nat) (R : Nat → Nat → Nat) (kd : Nat → Option Nat) (sz : Nat → Nat) (nd : Nat) : Nat := if w = 0 then msin t m n R kd sz nd 0 else mfor t m n R kd sz nd 0
theorem msin_lt {t m n nd k : Nat} {R : Nat → Nat → Nat} {kd : Nat → Option Nat} {sz : Nat → Nat} (h : mtree n kd sz nd) (hk : k < nd) : msin t m n R kd sz nd k < n := by
  refine mF_ind (fun k => msin t m n R kd sz nd k < n) h (fun k q hk e hq => ?_) (fun k hk e h1 h2 => ?_) (nd - k) k hk (Nat.le_refl _)
  · show mF _ _ kd sz nd k < n
    rw [mF_leaf _ _ hk e]
    exact hq
  · show mF _ _ kd sz nd k < n
    rw [mF_vote _ _ h hk e]
    split
    · exact h1
    · exact h2
theorem mfor_lt {t m n nd k : Nat} {R : Nat → Nat → Nat} {kd : Nat → Option Nat} {sz : Nat → Nat} (h : mtree n kd sz nd) (hk : k < nd) : mfor t m n R kd sz nd k < n := by
  refine mF_ind (fun k => mfor t m n R kd sz nd k < n) h (fun k q hk e hq => ?_) (fun k hk e h1 h2 => ?_) (nd - k) k hk (Nat.le_refl _)
  · show mF _ _ kd sz nd k < n
    rw [mF_leaf _ _ hk e]
    exact hq
  · show mF _ _ kd sz nd k < n
    rw [mF_vote _ _ h hk e]
    split
    · exact h1
    · exact h2
theorem mout_lt {w t m n nd : Nat} {R : Nat → Nat → Nat} {kd : Nat → Option Nat} {sz : Nat → Nat} (h : mtree n kd sz nd) : mout w t m n R kd sz nd < n := by
  unfold mout
  split
  · exact msin_lt h h.1
  · exact mfor_lt h h.1
