/-! the text told: tokens, items -/
abbrev pX : Type := Nat × (Nat → Int32)
def pLt (x : pX) (p : Nat) : Int32 := if p < x.1 then x.2 p else -1
def pVal (x : pX) : Prop := ∀ i, i < x.1 → mi (x.2 i) 256 = true
def dgt (x : Int32) : Bool := decide ((48 : Int32) ≤ x ∧ x ≤ 57)
def pSk (x : pX) : Nat → Nat → Nat
  | 0, p => p
  | f + 1, p => if pLt x p = 32 then pSk x f (p + 1) else p
/-- where the next token begins -/
def tS (x : pX) (p : Nat) : Nat := pSk x (x.1 - p) p
def pDg (x : pX) : Nat → Nat → Nat
  | 0, p => p
  | f + 1, p => if dgt (pLt x p) then pDg x f (p + 1) else p
def dE (x : pX) (p : Nat) : Nat := pDg x (x.1 - p) p
def nS (v : Nat) (d : Int32) : Nat := if 99 < v then v else 10 * v + (d.toNatClampNeg - 48)
def pNu (x : pX) : Nat → Nat → Nat → Nat
  | 0, _, v => v
  | f + 1, p, v => if dgt (pLt x p) then pNu x f (p + 1) (nS v (pLt x p)) else v
def nU (x : pX) (p v : Nat) : Nat := pNu x (x.1 - p) p v
/-- its first letter, where it ends, its number -/
def tC (x : pX) (p : Nat) : Int32 := pLt x (tS x p)
def tE (x : pX) (p : Nat) : Nat := if tC x p < 0 then tS x p else if dgt (tC x p) then dE x (tS x p) else tS x p + 1
def tN (x : pX) (p : Nat) : Nat := if 99 < nU x (tS x p) 0 ∨ (tC x p = 48 ∧ 1 < dE x (tS x p) - tS x p) then 100 else nU x (tS x p) 0
theorem pLt_in {x : pX} {p : Nat} (h : ¬ pLt x p = -1) : p < x.1 := by
  unfold pLt at h
  rcases Nat.lt_or_ge p x.1 with h1 | h1
  · exact h1
  · rw [if_neg (by omega)] at h
    exact absurd rfl h
theorem dg_of {x : Int32} (h : dgt x = true) : ∃ d, d < 10 ∧ x = nI (48 + d) := by
  unfold dgt at h
  have h1 := of_decide_eq_true h
  have h2 : mi x 58 = true := by
    unfold mi
    rw [decide_eq_true (show (0 : Int32) ≤ x from Int32.le_trans (by decide) h1.1), decide_eq_true (show x < nI 58 from Int32.lt_of_le_of_lt h1.2 (by decide))]
    rfl
  obtain ⟨j, hj, rfl⟩ := mi_of (by decide) h2
  have h3 : 48 ≤ j := (nI_leI (a := 48) (by decide) (by omega)).mp h1.1
  exact ⟨j - 48, by omega, by congr 1; omega⟩
theorem dg_at {d : Nat} (h : d < 10) : dgt (nI (48 + d)) = true := by
  unfold dgt
  exact decide_eq_true ⟨(nI_leI (a := 48) (by decide) (by omega)).mpr (by omega), (nI_leI (b := 57) (by omega) (by decide)).mpr (by omega)⟩
theorem dg_lt {x : pX} {p : Nat} (h : dgt (pLt x p) = true) : p < x.1 := pLt_in (fun e => by rw [e] at h; exact absurd h (by decide))
theorem tS_s {x : pX} {p : Nat} (h : pLt x p = 32) : tS x p = tS x (p + 1) := by
  have hp : p < x.1 := pLt_in (fun e => by rw [e] at h; exact absurd h (by decide))
  unfold tS
  rw [show x.1 - p = (x.1 - (p + 1)) + 1 by omega]
  show (if pLt x p = 32 then pSk x (x.1 - (p + 1)) (p + 1) else p) = _
  rw [if_pos h]
theorem tS_e {x : pX} {p : Nat} (h : ¬ pLt x p = 32) : tS x p = p := by
  unfold tS
  cases x.1 - p with
  | zero => rfl
  | succ f =>
    show (if pLt x p = 32 then pSk x f (p + 1) else p) = _
    rw [if_neg h]
theorem dE_s {x : pX} {p : Nat} (h : dgt (pLt x p) = true) : dE x p = dE x (p + 1) := by
  have hp := dg_lt h
  unfold dE
  rw [show x.1 - p = (x.1 - (p + 1)) + 1 by omega]
  show (if dgt (pLt x p) then pDg x (x.1 - (p + 1)) (p + 1) else p) = _
  rw [if_pos h]
theorem dE_e {x : pX} {p : Nat} (h : dgt (pLt x p) = false) : dE x p = p := by
  unfold dE
  cases x.1 - p with
  | zero => rfl
  | succ f =>
    show (if dgt (pLt x p) then pDg x f (p + 1) else p) = _
    rw [if_neg (by rw [h]; decide)]
theorem nU_s {x : pX} {p v : Nat} (h : dgt (pLt x p) = true) : nU x p v = nU x (p + 1) (nS v (pLt x p)) := by
  have hp := dg_lt h
  unfold nU
  rw [show x.1 - p = (x.1 - (p + 1)) + 1 by omega]
  show (if dgt (pLt x p) then pNu x (x.1 - (p + 1)) (p + 1) (nS v (pLt x p)) else v) = _
  rw [if_pos h]
theorem nU_e {x : pX} {p v : Nat} (h : dgt (pLt x p) = false) : nU x p v = v := by
  unfold nU
  cases x.1 - p with
  | zero => rfl
  | succ f =>
    show (if dgt (pLt x p) then pNu x f (p + 1) (nS v (pLt x p)) else v) = _
    rw [if_neg (by rw [h]; decide)]
theorem pSk_le (x : pX) : ∀ f p, p ≤ pSk x f p
  | 0, p => Nat.le_refl p
  | f + 1, p => by
    show p ≤ if pLt x p = 32 then pSk x f (p + 1) else p
    split
    · have := pSk_le x f (p + 1)
      omega
    · exact Nat.le_refl p
theorem pSk_ub (x : pX) : ∀ f p, pSk x f p ≤ p + f
  | 0, p => Nat.le_refl p
  | f + 1, p => by
    show (if pLt x p = 32 then pSk x f (p + 1) else p) ≤ p + (f + 1)
    split
    · have := pSk_ub x f (p + 1)
      omega
    · omega
theorem pDg_le (x : pX) : ∀ f p, p ≤ pDg x f p
  | 0, p => Nat.le_refl p
  | f + 1, p => by
    show p ≤ if dgt (pLt x p) then pDg x f (p + 1) else p
    split
    · have := pDg_le x f (p + 1)
      omega
    · exact Nat.le_refl p
theorem pDg_ub (x : pX) : ∀ f p, pDg x f p ≤ p + f
  | 0, p => Nat.le_refl p
  | f + 1, p => by
    show (if dgt (pLt x p) then pDg x f (p + 1) else p) ≤ p + (f + 1)
    split
    · have := pDg_ub x f (p + 1)
      omega
    · omega
theorem tS_le (x : pX) {p : Nat} (h : p ≤ x.1) : p ≤ tS x p ∧ tS x p ≤ x.1 := by
  have h1 := pSk_le x (x.1 - p) p
  have h2 := pSk_ub x (x.1 - p) p
  unfold tS
  omega
theorem dE_le (x : pX) {p : Nat} (h : p ≤ x.1) : p ≤ dE x p ∧ dE x p ≤ x.1 := by
  have h1 := pDg_le x (x.1 - p) p
  have h2 := pDg_ub x (x.1 - p) p
  unfold dE
  omega
theorem tC_neg {x : pX} {p : Nat} (hv : pVal x) (h : tC x p < 0) : tC x p = -1 := by
  unfold tC at *
  unfold pLt at *
  split
  · rename_i h1
    rw [if_pos h1] at h
    have := hv _ h1
    unfold mi at this
    simp only [Bool.and_eq_true, decide_eq_true_eq] at this
    exact absurd this.1 (fa_of_lt h).2.1
  · rfl
theorem tE_le {x : pX} {p : Nat} (h : p ≤ x.1) : p ≤ tE x p ∧ tE x p ≤ x.1 ∧ (¬ tC x p < 0 → p < tE x p) := by
  have h1 := tS_le x h
  have h2 := dE_le x h1.2
  unfold tE
  by_cases e : tC x p < 0
  · rw [if_pos e]
    exact ⟨h1.1, h1.2, fun z => absurd e z⟩
  · rw [if_neg e]
    have h3 : tS x p < x.1 := pLt_in (fun z => e (by show pLt x (tS x p) < 0; rw [z]; decide))
    by_cases e2 : dgt (tC x p) = true
    · rw [if_pos e2]
      have h4 : tS x p < dE x (tS x p) := by
        rw [dE_s e2]
        have := dE_le x (p := tS x p + 1) (by omega)
        omega
      exact ⟨by omega, h2.2, fun _ => by omega⟩
    · rw [if_neg e2]
      exact ⟨by omega, by omega, fun _ => by omega⟩
/-- the motion of a letter -/
def pMt (n : Nat) (x : Int32) : Option Nat := if mi (x - 97) n then some (x - 97).toNatClampNeg else none
/-- a ranking -/
def pRk (x : pX) (n : Nat) : Nat → Nat → Nat → Nat → (Nat → Nat) → Except Nat (Nat × (Nat → Nat))
  | 0, _, _, q, f => .ok (q, f)
  | t + 1, p, u, q, f => match pMt n (tC x q) with
    | none => .error (tS x q)
    | some m => if u.testBit m then .error (tS x q) else pRk x n t (p + 1) (u ||| 2 ^ m) (tE x q) (fun i => if i = p then m else f i)
abbrev pA : Type := (Nat → Option Nat) × (Nat → Nat) × Nat
/-- a branch, b nodes being ahead of it -/
def pAg (x : pX) (n : Nat) : Nat → Nat → Nat → Except Nat (Nat × pA)
  | 0, q, _ => .error (tS x q)
  | f + 1, q, b => if 31 ≤ b then .error (tS x q) else match pMt n (tC x q) with
    | some m => .ok (tE x q, ((fun _ => some m), (fun _ => 1), 1))
    | none => if tC x q = 40 then (match pAg x n f (tE x q) (b + 1) with
      | .error e => .error e
      | .ok r1 => match pAg x n f r1.1 (b + 1 + r1.2.2.2) with
        | .error e => .error e
        | .ok r2 => if tC x r2.1 = 41 then .ok (tE x r2.1, (jK r1.2.2.2 r1.2.1 r2.2.1, jZ r1.2.2.2 r2.2.2.2 r1.2.2.1 r2.2.2.1, 1 + r1.2.2.2 + r2.2.2.2)) else .error (tS x r2.1)) else .error (tS x q)
/-- motions, members, rankings, the agenda if it is told -/
abbrev pS : Type := Nat × Nat × (Nat → Nat → Nat) × Option pA
def pIm (x : pX) (it q : Nat) (s : pS) : Except Nat (Nat × pS) :=
  if tC x q = 110 then (if it = 0 then (if dgt (tC x (tE x q)) = true ∧ 2 ≤ tN x (tE x q) ∧ tN x (tE x q) ≤ 6 then .ok (tE x (tE x q), (tN x (tE x q), s.2)) else .error (tS x (tE x q))) else .error (tS x q))
  else if tC x q = 114 then (if s.2.1 < 9 then (match pRk x s.1 s.1 0 0 (tE x q) (fun _ => 0) with
    | .error e => .error e
    | .ok r => .ok (r.1, (s.1, s.2.1 + 1, mRr s.2.2.1 s.2.1 r.2, s.2.2.2))) else .error (tS x q))
  else if tC x q = 103 then (if s.2.2.2.isNone then (match pAg x s.1 31 (tE x q) 0 with
    | .error e => .error e
    | .ok r => .ok (r.1, (s.1, s.2.1, s.2.2.1, some r.2))) else .error (tS x q))
  else .error (tS x q)
def pIt (x : pX) : Nat → Nat → Nat → pS → Except Nat (Nat × pS)
  | 0, it, _, s => .ok (it, s)
  | f + 1, it, q, s => if tC x q = -1 then .ok (it, s) else match pIm x it q s with
    | .error e => .error e
    | .ok r => if tC x r.1 = 59 then pIt x f (it + 1) (tE x r.1) r.2 else .error (tS x r.1)
def pDesk (x : pX) : Except Nat (Nat × pS) := pIt x 121 0 0 (3, 0, (fun _ _ => 0), none)
/-- the picture told -/
def pPic (s : pS) : mPic := match s.2.2.2 with
  | none => pOrd s.1 s.2.2.1 (mo s.1 0)
  | some t => (s.2.2.1, t)
def aDesk (a : mSt) : Int32 × mSt := match pDesk a.2.2.1 with
  | .error e => (-10 - nI e, a)
  | .ok r => (nI r.1, ((r.2.1, r.2.2.1), pPic r.2, (0, a.2.2.1.2), (0, a.2.2.2.1.2), (0, a.2.2.2.2.1.2), fun _ => none))
theorem pMt_lt {n m : Nat} {x : Int32} (hn : n < 1000) (h : pMt n x = some m) : m < n ∧ x - 97 = nI m := by
  unfold pMt at h
  by_cases e : mi (x - 97) n = true
  · rw [if_pos e] at h
    obtain ⟨j, hj, e2⟩ := mi_of (by omega) e
    rw [e2, nI_cl (by omega)] at h
    cases h
    exact ⟨hj, e2⟩
  · rw [if_neg e] at h
    cases h
theorem pRk_le {x : pX} {n : Nat} : ∀ (t p u q : Nat) (f : Nat → Nat) (r : Nat × (Nat → Nat)), q ≤ x.1 → pRk x n t p u q f = .ok r → q ≤ r.1 ∧ r.1 ≤ x.1
  | 0, p, u, q, f, r, hq, h => by
    have h : Except.ok (q, f) = Except.ok r := h
    cases h
    exact ⟨Nat.le_refl _, hq⟩
  | t + 1, p, u, q, f, r, hq, h => by
    unfold pRk at h
    cases e : pMt n (tC x q) with
    | none => rw [e] at h; cases h
    | some m =>
      rw [e] at h
      dsimp only at h
      by_cases e2 : u.testBit m = true
      · rw [if_pos e2] at h; cases h
      · rw [if_neg e2] at h
        have h1 := tE_le hq
        have := pRk_le t (p + 1) _ _ _ r h1.2.1 h
        omega
/-- what a ranking's reading holds: each motion once -/
theorem pRk_perm {x : pX} {n : Nat} (hn : n ≤ 6) : ∀ (t p u q : Nat) (f : Nat → Nat) (r : Nat × (Nat → Nat)), p + t = n → u < 64 → (∀ i, i < p → f i < n ∧ u.testBit (f i) = true) → (∀ i j, i < p → j < p → f i = f j → i = j) → pRk x n t p u q f = .ok r → mperm n r.2
  | 0, p, u, q, f, r, hp, hu, h1, h2, h => by
    have h : Except.ok (q, f) = Except.ok r := h
    cases h
    have e : p = n := by omega
    rw [e] at h1 h2
    exact ⟨fun i hi => (h1 i hi).1, h2⟩
  | t + 1, p, u, q, f, r, hp, hu, h1, h2, h => by
    unfold pRk at h
    cases e : pMt n (tC x q) with
    | none => rw [e] at h; cases h
    | some m =>
      rw [e] at h
      dsimp only at h
      by_cases e2 : u.testBit m = true
      · rw [if_pos e2] at h; cases h
      · rw [if_neg e2] at h
        have hm := (pMt_lt (by omega) e).1
        have hu2 : u ||| 2 ^ m < 64 := Nat.or_lt_two_pow (n := 6) hu (Nat.lt_of_lt_of_le (Nat.pow_lt_pow_right (by decide) (show m < 6 by omega)) (by decide))
        refine pRk_perm hn t (p + 1) (u ||| 2 ^ m) _ _ r (by omega) hu2 (fun i hi => ?_) (fun i j hi hj hij => ?_) h
        · rw [Nat.testBit_or]
          by_cases ei : i = p
          · rw [if_pos ei, Nat.testBit_two_pow_self, Bool.or_true]
            exact ⟨hm, rfl⟩
          · rw [if_neg ei, (h1 i (by omega)).2]
            exact ⟨(h1 i (by omega)).1, rfl⟩
        · by_cases ei : i = p
          · rw [if_pos ei] at hij
            by_cases ej : j = p
            · omega
            · rw [if_neg ej] at hij
              exact absurd (by rw [hij]; exact (h1 j (by omega)).2) e2
          · rw [if_neg ei] at hij
            by_cases ej : j = p
            · rw [if_pos ej] at hij
              exact absurd (by rw [← hij]; exact (h1 i (by omega)).2) e2
            · rw [if_neg ej] at hij
              exact h2 i j (by omega) (by omega) hij
theorem pAg_le {x : pX} {n : Nat} (hn : n < 1000) : ∀ (f q b : Nat) (r : Nat × pA), q ≤ x.1 → pAg x n f q b = .ok r → q ≤ r.1 ∧ r.1 ≤ x.1 ∧ mT n r.2.1 r.2.2.1 r.2.2.2 ∧ (b + r.2.2.2 ≤ 31 ∨ 31 ≤ b)
  | 0, q, b, r, hq, h => by cases h
  | f + 1, q, b, r, hq, h => by
    unfold pAg at h
    have h1 := tE_le hq
    by_cases hb : 31 ≤ b
    · rw [if_pos hb] at h; cases h
    · rw [if_neg hb] at h
      cases e : pMt n (tC x q) with
      | some m =>
        rw [e] at h
        dsimp only at h
        cases h
        exact ⟨h1.1, h1.2.1, mT_leaf (pMt_lt hn e).1, Or.inl (by show b + 1 ≤ 31; omega)⟩
      | none =>
        rw [e] at h
        dsimp only at h
        by_cases e2 : tC x q = 40
        · rw [if_pos e2] at h
          cases e3 : pAg x n f (tE x q) (b + 1) with
          | error z => rw [e3] at h; cases h
          | ok r1 =>
            rw [e3] at h
            dsimp only at h
            obtain ⟨a1, a2, a3, a4⟩ := pAg_le hn f (tE x q) (b + 1) r1 h1.2.1 e3
            cases e4 : pAg x n f r1.1 (b + 1 + r1.2.2.2) with
            | error z => rw [e4] at h; cases h
            | ok r2 =>
              rw [e4] at h
              dsimp only at h
              obtain ⟨b1, b2, b3, b4⟩ := pAg_le hn f r1.1 (b + 1 + r1.2.2.2) r2 a2 e4
              have h3 := tE_le b2
              by_cases e5 : tC x r2.1 = 41
              · rw [if_pos e5] at h
                cases h
                have c1 := a3.1
                have c2 := b3.1
                have bb : ¬ 31 ≤ b + 1 + r1.2.2.2 := by
                  intro z
                  cases f with
                  | zero => cases e4
                  | succ f =>
                    unfold pAg at e4
                    rw [if_pos z] at e4
                    cases e4
                exact ⟨by show q ≤ tE x r2.1; omega, h3.2.1, mT_join a3 b3, Or.inl (by show b + (1 + r1.2.2.2 + r2.2.2.2) ≤ 31; omega)⟩
              · rw [if_neg e5] at h; cases h
        · rw [if_neg e2] at h; cases h
