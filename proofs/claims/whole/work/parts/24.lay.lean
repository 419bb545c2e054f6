/-! two agendas below a vote -/
def mT (n : Nat) (K : Nat → Option Nat) (Z : Nat → Nat) (L : Nat) : Prop := 1 ≤ L ∧ Z 0 = L ∧ ∀ k, k < L → (∃ q, K k = some q ∧ q < n ∧ Z k = 1) ∨ (K k = none ∧ 1 ≤ Z (k + 1) ∧ 1 ≤ Z (k + 1 + Z (k + 1)) ∧ Z k = 1 + Z (k + 1) + Z (k + 1 + Z (k + 1)) ∧ k + Z k ≤ L)
theorem mT_tree {n L : Nat} {K : Nat → Option Nat} {Z : Nat → Nat} : mtree n K Z L ↔ mT n K Z L ∧ L ≤ 63 := ⟨fun h => ⟨⟨h.1, h.2.2.1, h.2.2.2⟩, h.2.1⟩, fun h => ⟨h.1.1, h.2, h.1.2.1, h.1.2.2⟩⟩
def jK (L1 : Nat) (K1 K2 : Nat → Option Nat) : Nat → Option Nat
  | 0 => none
  | j + 1 => if j < L1 then K1 j else K2 (j - L1)
def jZ (L1 L2 : Nat) (Z1 Z2 : Nat → Nat) : Nat → Nat
  | 0 => 1 + L1 + L2
  | j + 1 => if j < L1 then Z1 j else Z2 (j - L1)
theorem jK_1 {L1 j : Nat} {K1 K2 : Nat → Option Nat} (h : j < L1) : jK L1 K1 K2 (j + 1) = K1 j := by show (if j < L1 then K1 j else K2 (j - L1)) = _; rw [if_pos h]
theorem jK_2 {L1 j : Nat} {K1 K2 : Nat → Option Nat} : jK L1 K1 K2 (L1 + j + 1) = K2 j := by show (if L1 + j < L1 then K1 (L1 + j) else K2 (L1 + j - L1)) = _; rw [if_neg (by omega), Nat.add_sub_cancel_left]
theorem jZ_1 {L1 L2 j : Nat} {Z1 Z2 : Nat → Nat} (h : j < L1) : jZ L1 L2 Z1 Z2 (j + 1) = Z1 j := by show (if j < L1 then Z1 j else Z2 (j - L1)) = _; rw [if_pos h]
theorem jZ_2 {L1 L2 j : Nat} {Z1 Z2 : Nat → Nat} : jZ L1 L2 Z1 Z2 (L1 + j + 1) = Z2 j := by show (if L1 + j < L1 then Z1 (L1 + j) else Z2 (L1 + j - L1)) = _; rw [if_neg (by omega), Nat.add_sub_cancel_left]
theorem mT_vote {n L k : Nat} {K : Nat → Option Nat} {Z : Nat → Nat} (h : mT n K Z L) (hk : k < L) (e : K k = none) : 1 ≤ Z (k + 1) ∧ 1 ≤ Z (k + 1 + Z (k + 1)) ∧ Z k = 1 + Z (k + 1) + Z (k + 1 + Z (k + 1)) ∧ k + Z k ≤ L ∧ k + 1 < L ∧ k + 1 + Z (k + 1) < L := by
  rcases h.2.2 k hk with ⟨q', h1, h2, h3⟩ | ⟨h1, h2, h3, h4, h5⟩
  · rw [e] at h1
    cases h1
  · exact ⟨h2, h3, h4, h5, by omega, by omega⟩
theorem mT_leaf {n q : Nat} (hq : q < n) : mT n (fun _ => some q) (fun _ => 1) 1 := ⟨Nat.le_refl 1, rfl, fun k hk => Or.inl ⟨q, rfl, hq, rfl⟩⟩
theorem mT_join {n L1 L2 : Nat} {K1 K2 : Nat → Option Nat} {Z1 Z2 : Nat → Nat} (h1 : mT n K1 Z1 L1) (h2 : mT n K2 Z2 L2) : mT n (jK L1 K1 K2) (jZ L1 L2 Z1 Z2) (1 + L1 + L2) := by
  have p1 := h1.1
  have p2 := h2.1
  refine ⟨by omega, rfl, fun k hk => ?_⟩
  match k, hk with
  | 0, hk =>
    have e1 : jZ L1 L2 Z1 Z2 (0 + 1) = L1 := by rw [jZ_1 (by omega)]; exact h1.2.1
    have e2 : jZ L1 L2 Z1 Z2 (0 + 1 + L1) = L2 := by rw [show 0 + 1 + L1 = L1 + 0 + 1 by omega]; exact (jZ_2 (j := 0)).trans h2.2.1
    refine Or.inr ⟨rfl, by rw [e1]; omega, by rw [e1, e2]; omega, by rw [e1, e2]; rfl, by show 0 + (1 + L1 + L2) ≤ _; omega⟩
  | j + 1, hk =>
    rcases Nat.lt_or_ge j L1 with hj | hj
    · rw [jK_1 hj, jZ_1 hj]
      rcases h1.2.2 j hj with h | ⟨g1, g2, g3, g4, g5⟩
      · exact Or.inl h
      · have e1 : jZ L1 L2 Z1 Z2 (j + 1 + 1) = Z1 (j + 1) := jZ_1 (by omega)
        have e2 : jZ L1 L2 Z1 Z2 (j + 1 + 1 + Z1 (j + 1)) = Z1 (j + 1 + Z1 (j + 1)) := by rw [show j + 1 + 1 + Z1 (j + 1) = (j + 1 + Z1 (j + 1)) + 1 by omega, jZ_1 (by omega)]
        refine Or.inr ⟨g1, by rw [e1]; exact g2, by rw [e1, e2]; exact g3, by rw [e1, e2]; exact g4, by omega⟩
    · obtain ⟨i, rfl⟩ : ∃ i, j = L1 + i := ⟨j - L1, by omega⟩
      rw [jK_2, jZ_2]
      rcases h2.2.2 i (by omega) with h | ⟨g1, g2, g3, g4, g5⟩
      · exact Or.inl h
      · have e1 : jZ L1 L2 Z1 Z2 (L1 + i + 1 + 1) = Z2 (i + 1) := by rw [show L1 + i + 1 + 1 = L1 + (i + 1) + 1 by omega, jZ_2]
        have e2 : jZ L1 L2 Z1 Z2 (L1 + i + 1 + 1 + Z2 (i + 1)) = Z2 (i + 1 + Z2 (i + 1)) := by rw [show L1 + i + 1 + 1 + Z2 (i + 1) = L1 + (i + 1 + Z2 (i + 1)) + 1 by omega, jZ_2]
        refine Or.inr ⟨g1, by rw [e1]; exact g2, by rw [e1, e2]; exact g3, by rw [e1, e2]; exact g4, by omega⟩
/-- the agenda of an order, from place n - t on, if its has won all votes ahead -/
def tL (t : Nat) : Nat := 2 ^ (t + 1) - 1
theorem tL_0 : tL 0 = 1 := rfl
theorem tL_s (t : Nat) : tL (t + 1) = 1 + tL t + tL t := by
  unfold tL
  have := Nat.two_pow_pos (t + 1)
  rw [Nat.pow_succ 2 (t + 1)]
  omega
theorem tL_pos (t : Nat) : 1 ≤ tL t := by
  unfold tL
  have := Nat.pow_le_pow_right (show 0 < 2 by decide) (show 1 ≤ t + 1 by omega)
  omega
def tK (f : Nat → Nat) (n : Nat) : Nat → Nat → Nat → Option Nat
  | 0, its => fun _ => some its
  | t + 1, its => jK (tL t) (tK f n t its) (tK f n t (f (n - (t + 1))))
def tZ : Nat → Nat → Nat
  | 0 => fun _ => 1
  | t + 1 => jZ (tL t) (tL t) (tZ t) (tZ t)
theorem tT {f : Nat → Nat} {n : Nat} (hf : ∀ p, p < n → f p < n) : ∀ (t its : Nat), t < n → its < n → mT n (tK f n t its) (tZ t) (tL t)
  | 0, its, _, hi => mT_leaf hi
  | t + 1, its, ht, hi => by
    rw [tL_s]
    exact mT_join (tT hf t its (by omega) hi) (tT hf t _ (by omega) (hf _ (by omega)))
/-- laid out in row i from node b on, below lk; the pile is as it was, but for what was on top -/
def rLd (c c' : mx_M) (i b L q : Nat) (lk : Option (Nat × Nat)) (K : Nat → Option Nat) (Z : Nat → Nat) : Prop :=
  mfr [0, i, 15] c c' ∧ (∀ k, k ≠ 29 → c' 0 k = c 0 k) ∧ c' 0 29 = nI q ∧ (∀ x, x < 4 * q → c' 15 x = c 15 x) ∧ c' i 54 = nI (b + L) ∧
  (∀ j, j < L → c' i (55 + (b + j)) = kI (K j) ∧ (K j = none → c' i (118 + (b + j)) = nI (b + j + 1) ∧ c' i (181 + (b + j)) = nI (b + j + 1 + Z (j + 1))) ∧ (K j ≠ none → c' i (118 + (b + j)) = -9 ∧ c' i (181 + (b + j)) = -9)) ∧
  (∀ x, lkX lk = some x → c' i x = nI b) ∧
  (∀ x, (x < 54 ∨ (55 ≤ x ∧ x < 55 + b) ∨ (118 ≤ x ∧ x < 118 + b) ∨ (181 ≤ x ∧ x < 181 + b)) → lkX lk ≠ some x → c' i x = c i x)
theorem lkX_lt {lk : Option (Nat × Nat)} {b x : Nat} (h : lkOk lk b) (hx : lkX lk = some x) : (118 ≤ x ∧ x < 118 + b) ∨ (181 ≤ x ∧ x < 181 + b) := by
  cases lk with
  | none => cases hx
  | some u =>
    obtain ⟨h1, h2⟩ := h u rfl
    have hx : some ((if u.2 = 0 then 118 else 181) + u.1) = some x := hx
    by_cases e : u.2 = 0
    · rw [if_pos e] at hx
      cases hx
      omega
    · rw [if_neg e] at hx
      cases hx
      omega
/-- a vote's node and both its branches -/
theorem rLd_join {c c1 c2 c3 c4 c5 c6 : mx_M} {i b L1 L2 q n : Nat} {lk : Option (Nat × Nat)} {K1 K2 : Nat → Option Nat} {Z1 Z2 : Nat → Nat} (hi0 : i ≠ 0) (hi15 : i ≠ 15) (hb : b + (1 + L1 + L2) ≤ 63) (hl : lkOk lk b) (t1 : mT n K1 Z1 L1) (t2 : mT n K2 Z2 L2)
    (f1 : c1 = mx_up c 0 29 (nI q)) (h2 : rCt c1 c2 i b lk) {w1 w2 w3 w4 v1 v2 v3 v4 : Int32} (h3 : rPi c2 c3 q w1 w2 w3 w4) (h4 : rPi c3 c4 (q + 1) v1 v2 v3 v4) (h5 : rLd c4 c5 i (b + 1) L1 (q + 1) (some (b, 0)) K1 Z1) (h6 : rLd c5 c6 i (b + 1 + L1) L2 q (some (b, 1)) K2 Z2) :
    rLd c c6 i b (1 + L1 + L2) q lk (jK L1 K1 K2) (jZ L1 L2 Z1 Z2) := by
  obtain ⟨a1, a2, a3, a4, a5, a6, a7⟩ := h2
  obtain ⟨p1, p2, p3, p4, p5, p6, p7, p8⟩ := h3
  obtain ⟨o1, o2, o3, o4, o5, o6, o7, o8⟩ := h4
  obtain ⟨x1, x2, x3, x4, x5, x6, x7, x8⟩ := h5
  obtain ⟨y1, y2, y3, y4, y5, y6, y7, y8⟩ := h6
  have r3 : c3 i = c2 i := p1 i (by simp [hi0, hi15])
  have r4 : c4 i = c3 i := o1 i (by simp [hi0, hi15])
  have lx1 : lkX (some (b, 0)) = some (118 + b) := rfl
  have lx2 : lkX (some (b, 1)) = some (181 + b) := rfl
  have q1 := t1.1
  have q2 := t2.1
  refine ⟨?_, ?_, y3, ?_, ?_, ?_, ?_, ?_⟩
  · intro r hr
    simp only [List.mem_cons, List.not_mem_nil, or_false, not_or] at hr
    rw [y1 r (by simp [hr]), x1 r (by simp [hr]), o1 r (by simp [hr]), p1 r (by simp [hr]), a1 r (by simp [hr]), f1, mx_up_rid _ _ _ _ _ hr.1]
  · intro k hk
    rw [y2 k hk, x2 k hk, o2 k hk, p2 k hk, a1 0 (by simp [hi0.symm]), f1, mx_up_ix _ _ _ _ _ _ hk]
  · intro x hx
    rw [y4 x hx, x4 x (by omega), o8 x (by omega), p8 x hx, a1 15 (by simp [hi15.symm]), f1, mx_up_id _ _ _ _ _ _ (by decide)]
  · rw [y5]
    congr 1
    omega
  · intro j hj
    match j, hj with
    | 0, _ =>
      have e0 : c6 i (55 + b) = -9 := by rw [y8 _ (by omega) (by rw [lx2]; intro z; injection z; omega), x8 _ (by omega) (by rw [lx1]; intro z; injection z; omega), r4, r3]; exact a3
      have e1 : c6 i (118 + b) = nI (b + 1) := by rw [y8 _ (by omega) (by rw [lx2]; intro z; injection z; omega)]; exact x7 _ lx1
      have e2 : c6 i (181 + b) = nI (b + 1 + L1) := y7 _ lx2
      refine ⟨e0, fun _ => ⟨e1, ?_⟩, fun h => absurd rfl h⟩
      show c6 i (181 + b) = nI (b + 1 + jZ L1 L2 Z1 Z2 (0 + 1))
      rw [e2, jZ_1 (by omega), t1.2.1]
    | j + 1, hj =>
      rcases Nat.lt_or_ge j L1 with hj1 | hj1
      · obtain ⟨g1, g2, g3⟩ := x6 j hj1
        rw [jK_1 hj1]
        have ea : ∀ w, w = 55 ∨ w = 118 ∨ w = 181 → c6 i (w + (b + (j + 1))) = c5 i (w + (b + 1 + j)) := by
          intro w hw
          rw [show w + (b + (j + 1)) = w + (b + 1 + j) by omega]
          exact y8 _ (by omega) (by rw [lx2]; intro z; injection z; omega)
        rw [ea 55 (by simp), ea 118 (by simp), ea 181 (by simp)]
        refine ⟨g1, fun e => ?_, g3⟩
        obtain ⟨e1, e2⟩ := g2 e
        obtain ⟨-, -, -, -, m5, -⟩ := mT_vote t1 hj1 e
        rw [jZ_1 m5]
        exact ⟨by rw [e1]; congr 1; omega, by rw [e2]; congr 1; omega⟩
      · obtain ⟨k, rfl⟩ : ∃ k, j = L1 + k := ⟨j - L1, by omega⟩
        obtain ⟨g1, g2, g3⟩ := y6 k (by omega)
        rw [jK_2]
        have ea : ∀ w, w + (b + (L1 + k + 1)) = w + (b + 1 + L1 + k) := by intro w; omega
        rw [ea 55, ea 118, ea 181]
        refine ⟨g1, fun e => ?_, g3⟩
        obtain ⟨e1, e2⟩ := g2 e
        rw [show L1 + k + 1 + 1 = L1 + (k + 1) + 1 by omega, jZ_2]
        exact ⟨by rw [e1]; congr 1; omega, by rw [e2]; congr 1; omega⟩
  · intro x hx
    have hlt := lkX_lt hl hx
    rw [y8 _ (by omega) (by rw [lx2]; intro z; injection z; omega), x8 _ (by omega) (by rw [lx1]; intro z; injection z; omega), r4, r3]
    exact a6 x hx
  · intro x hx hn
    rw [y8 _ (by omega) (by rw [lx2]; intro z; injection z; omega), x8 _ (by omega) (by rw [lx1]; intro z; injection z; omega), r4, r3, a7 x (by omega) (by omega) (by omega) (by omega) hn, f1, mx_up_rid _ _ _ _ _ hi0]
/-- a leaf -/
theorem rLd_leaf {c c1 c2 : mx_M} {i b q n its : Nat} {lk : Option (Nat × Nat)} (hi0 : i ≠ 0) (hi15 : i ≠ 15) (hb : b + 1 ≤ 63) (hl : lkOk lk b) (f1 : c1 = mx_up c 0 29 (nI q)) (h2 : rCt c1 c2 i b lk) : rLd c (mx_up c2 i (55 + b) (nI its)) i b 1 q lk (fun _ => some its) (fun _ => 1) := by
  obtain ⟨a1, a2, a3, a4, a5, a6, a7⟩ := h2
  refine ⟨?_, ?_, ?_, ?_, ?_, ?_, ?_, ?_⟩
  · intro r hr
    simp only [List.mem_cons, List.not_mem_nil, or_false, not_or] at hr
    rw [mx_up_rid _ _ _ _ _ hr.2.1, a1 r (by simp [hr]), f1, mx_up_rid _ _ _ _ _ hr.1]
  · intro k hk
    rw [mx_up_rid _ _ _ _ _ hi0.symm, a1 0 (by simp [hi0.symm]), f1, mx_up_ix _ _ _ _ _ _ hk]
  · rw [mx_up_rid _ _ _ _ _ hi0.symm, a1 0 (by simp [hi0.symm]), f1, mx_up_same]
  · intro x hx
    rw [mx_up_rid _ _ _ _ _ hi15.symm, a1 15 (by simp [hi15.symm]), f1, mx_up_id _ _ _ _ _ _ (by decide)]
  · rw [mx_up_ix _ _ _ _ _ _ (by omega)]
    exact a2
  · intro j hj
    have e : j = 0 := by omega
    subst e
    refine ⟨by rw [Nat.add_zero, mx_up_same]; rfl, fun h => (by cases h), fun _ => ?_⟩
    rw [Nat.add_zero, mx_up_ix _ _ _ _ _ _ (by omega), mx_up_ix _ _ _ _ _ _ (by omega)]
    exact ⟨a4, a5⟩
  · intro x hx
    have hlt := lkX_lt hl hx
    rw [mx_up_ix _ _ _ _ _ _ (by omega)]
    exact a6 x hx
  · intro x hx hn
    rw [mx_up_ix _ _ _ _ _ _ (by omega), a7 x (by omega) (by omega) (by omega) (by omega) hn, f1, mx_up_rid _ _ _ _ _ hi0]
