/-! the class: the agenda measured, ballots -/
def kC (q : Option Nat) : Int32 := match q with
  | none => -1
  | some q => nI q
theorem kC_ne {q : Nat} (h : q < 2147483648) : ¬ nI q = -1 := by
  intro e
  have h1 := nI_toInt h
  rw [e] at h1
  have h2 : ((-1 : Int32)).toInt = -1 := by decide
  omega
def cT (c : mx_M) (n : Nat) (K : Nat → Option Nat) (Z : Nat → Nat) (nd : Nat) : Prop := c 9 3 = nI nd ∧ mtree n K Z nd ∧ ∀ k, k < nd → c 10 k = kC (K k) ∧ c 11 k = nI (Z k) ∧ c 12 k = nI (mset K Z nd k)
theorem cT_fr {S : List Nat} {c c' : mx_M} {n : Nat} {K : Nat → Option Nat} {Z : Nat → Nat} {nd : Nat} (h : cT c n K Z nd) (hf : mfr S c c') (h9 : 9 ∉ S) (h10 : 10 ∉ S) (h11 : 11 ∉ S) (h12 : 12 ∉ S) : cT c' n K Z nd := by
  unfold cT at h ⊢
  rw [hf 9 h9, hf 10 h10, hf 11 h11, hf 12 h12]
  exact h
theorem sp_Tr_isVote (c : mx_M) {k : Nat} {v : Option Nat} (hk : k < 63) (h : c 10 k = kC v) (hv : ∀ q, v = some q → q < 1000) : mx_Spec 0 1 m_Tr_isVote [.ref 9, .int (nI k)] c (fun r c' => r = some (.int (mz v.isNone)) ∧ c' = c) := by
  refine mx_Spec_E rfl rfl rfl ?_
  refine mR 5 rfl (mA1 (mI hk)) ?_
  rw [nI_cl (by omega), h]
  cases v with
  | none =>
    refine mx_E_br rfl rfl (fun h => absurd rfl h) (fun _ => ?_)
    refine mR 2 rfl trivial ?_
    exact mx_E_zret rfl rfl (Or.inr rfl) ⟨rfl, rfl⟩
  | some q =>
    have := hv q rfl
    refine mx_E_br rfl rfl (fun _ => ?_) (fun h => absurd (kC_ne (by omega)) h)
    refine mR 1 rfl trivial ?_
    exact mx_E_zret rfl rfl (Or.inl rfl) ⟨rfl, rfl⟩
theorem sp_Tr_first (c : mx_M) (k : Nat) : mx_Spec 0 1 m_Tr_first [.ref 9, .int (nI k)] c (fun r c' => r = some (.int (nI (k + 1))) ∧ c' = c) := by
  refine mx_Spec_E rfl rfl rfl ?_
  refine mR 3 rfl trivial ?_
  rw [nI_1]
  exact mx_E_iret rfl rfl ⟨rfl, rfl⟩
theorem sp_Tr_second (c : mx_M) {k z : Nat} (hk : k + 1 < 63) (h : c 11 (k + 1) = nI z) : mx_Spec 0 1 m_Tr_second [.ref 9, .int (nI k)] c (fun r c' => r = some (.int (nI (k + 1 + z))) ∧ c' = c) := by
  refine mx_Spec_E rfl rfl rfl ?_
  refine mR 10 rfl (mA1 (by rw [nI_1]; exact mI hk)) ?_
  rw [nI_1, nI_cl (by omega), h, nI_add]
  exact mx_E_iret rfl rfl ⟨rfl, rfl⟩
theorem sp_isV (c : mx_M) {n nd k : Nat} {K : Nat → Option Nat} {Z : Nat → Nat} (hT : cT c n K Z nd) (hn : n ≤ 6) (hk : k < nd) : mx_Spec 0 1 m_Tr_isVote [.ref 9, .int (nI k)] c (fun r c' => r = some (.int (mz (K k).isNone)) ∧ c' = c) := sp_Tr_isVote c (by have := hT.2.1.2.1; omega) (hT.2.2 k hk).1 (fun q e => by have := (mtree_leaf hT.2.1 hk e).1; omega)
theorem sp_sec (c : mx_M) {n nd k : Nat} {K : Nat → Option Nat} {Z : Nat → Nat} (hT : cT c n K Z nd) (hk : k < nd) (e : K k = none) : mx_Spec 0 1 m_Tr_second [.ref 9, .int (nI k)] c (fun r c' => r = some (.int (nI (k + 1 + Z (k + 1)))) ∧ c' = c) := by
  obtain ⟨g1, g2, g3, g4, g5, g6⟩ := mtree_vote hT.2.1 hk e
  exact sp_Tr_second c (by have := hT.2.1.2.1; omega) (hT.2.2 (k + 1) g5).2.1
theorem sp_Tr_votesFirst7 (c : mx_M) {n nd k at0 : Nat} {K : Nat → Option Nat} {Z : Nat → Nat} {f : Nat → Nat} (hT : cT c n K Z nd) (hn : n ≤ 6) (hk : k < nd) (e : K k = none) (hat : at0 + n ≤ 54) (hf : ∀ p, p < n → f p < n ∧ c 7 (at0 + p) = nI (f p)) : mx_Spec 0 2 m_Tr_votesFirst [.ref 9, .int (nI k), .ref 7, .int (nI at0), .int (nI n)] c (fun r c' => r = some (.int (mz (mlk f n (mset K Z nd (k + 1)) (mset K Z nd (k + 1 + Z (k + 1)))))) ∧ c' = c) := by
  obtain ⟨g1, g2, g3, g4, g5, g6⟩ := mtree_vote hT.2.1 hk e
  have h63 := hT.2.1.2.1
  refine mx_Spec_E rfl rfl rfl ?_
  refine mR 7 rfl trivial ?_
  refine mx_E_callV (sp_Tr_first _ k) rfl rfl rfl (fun r c1 hr => ?_)
  obtain ⟨rfl, hz⟩ := hr
  rw [hz]
  refine mR 5 rfl (mA1 (mI (by omega))) ?_
  rw [nI_cl (by omega), (hT.2.2 (k + 1) g5).2.2]
  refine mx_E_callV (sp_sec _ hT hk e) rfl rfl rfl (fun r c1 hr => ?_)
  obtain ⟨rfl, hz⟩ := hr
  rw [hz]
  refine mR 1 rfl (mA1 (mI (by omega))) ?_
  rw [nI_cl (by omega), (hT.2.2 (k + 1 + Z (k + 1)) g6).2.2]
  refine mx_E_callS (sp_De_likesFirst7 _ hn hat (mset_lt hn hT.2.1 g5) (mset_lt hn hT.2.1 g6) hf) rfl rfl rfl (fun r c1 hr => ?_)
  obtain ⟨rfl, hz⟩ := hr
  exact mx_E_zret rfl rfl (mz_01 _) ⟨rfl, hz⟩
theorem sp_Tr_votesFirst31 (c : mx_M) {n nd k at0 : Nat} {K : Nat → Option Nat} {Z : Nat → Nat} {f : Nat → Nat} (hT : cT c n K Z nd) (hn : n ≤ 6) (hk : k < nd) (e : K k = none) (hat : at0 + n ≤ 6) (hf : ∀ p, p < n → f p < n ∧ c 31 (at0 + p) = nI (f p)) : mx_Spec 0 2 m_Tr_votesFirst [.ref 9, .int (nI k), .ref 31, .int (nI at0), .int (nI n)] c (fun r c' => r = some (.int (mz (mlk f n (mset K Z nd (k + 1)) (mset K Z nd (k + 1 + Z (k + 1)))))) ∧ c' = c) := by
  obtain ⟨g1, g2, g3, g4, g5, g6⟩ := mtree_vote hT.2.1 hk e
  have h63 := hT.2.1.2.1
  refine mx_Spec_E rfl rfl rfl ?_
  refine mR 7 rfl trivial ?_
  refine mx_E_callV (sp_Tr_first _ k) rfl rfl rfl (fun r c1 hr => ?_)
  obtain ⟨rfl, hz⟩ := hr
  rw [hz]
  refine mR 5 rfl (mA1 (mI (by omega))) ?_
  rw [nI_cl (by omega), (hT.2.2 (k + 1) g5).2.2]
  refine mx_E_callV (sp_sec _ hT hk e) rfl rfl rfl (fun r c1 hr => ?_)
  obtain ⟨rfl, hz⟩ := hr
  rw [hz]
  refine mR 1 rfl (mA1 (mI (by omega))) ?_
  rw [nI_cl (by omega), (hT.2.2 (k + 1 + Z (k + 1)) g6).2.2]
  refine mx_E_callS (sp_De_likesFirst31 _ hn hat (mset_lt hn hT.2.1 g5) (mset_lt hn hT.2.1 g6) hf) rfl rfl rfl (fun r c1 hr => ?_)
  obtain ⟨rfl, hz⟩ := hr
  exact mx_E_zret rfl rfl (mz_01 _) ⟨rfl, hz⟩
theorem lp_Tr_measure {Q : Option Value → mx_M → Prop} {c : mx_M} {n nd : Nat} {K : Nat → Option Nat} {Z : Nat → Nat} (hn : n ≤ 6) (hM : mtree n K Z nd) (hK : ∀ k, k < nd → c 10 k = kC (K k)) (hq : ∀ c', mfr [11, 12] c c' → (∀ j, j < nd → c' 11 j = nI (Z j) ∧ c' 12 j = nI (mset K Z nd j)) → Q none c') :
    ∀ (k : Nat) (c1 : mx_M), k ≤ nd → mfr [11, 12] c c1 → (∀ j, k ≤ j → j < nd → c1 11 j = nI (Z j) ∧ c1 12 j = nI (mset K Z nd j)) → mx_E 0 2 m_Tr_measure Q 19 [.ref 9, .null, .int (nI k - 1)] [] c1
  | 0, c1, hk, hf, hi => by
    refine mR 1 rfl trivial ?_
    refine mx_E_br rfl rfl (fun _ => ?_) (fun h => absurd (by decide) h)
    exact mx_E_vret rfl rfl (hq c1 hf (fun j hj => hi j (Nat.zero_le j) hj))
  | k + 1, c1, hk, hf, hi => by
    have h63 := hM.2.1
    have hk1 : k < nd := by omega
    have eK : c1 10 k = kC (K k) := by rw [hf 10 (by decide)]; exact hK k hk1
    rw [nI_p1]
    refine mR 1 rfl trivial ?_
    refine mx_E_br rfl rfl (fun h => absurd h (nI_pos (by omega))) (fun _ => ?_)
    refine mR 2 rfl trivial ?_
    refine mx_E_callV (sp_Tr_isVote _ (by omega) eK (fun q e => by have := (mtree_leaf hM hk1 e).1; omega)) rfl rfl rfl (fun r c2 hr => ?_)
    obtain ⟨rfl, hz⟩ := hr
    rw [hz]
    have nxt : ∀ (v w : Int32), v = nI (Z k) → w = nI (mset K Z nd k) → mx_E 0 2 m_Tr_measure Q 19 [.ref 9, .null, .int (nI k - 1)] [] (mx_up (mx_up c1 11 k v) 12 k w) := by
      intro v w hv hw
      refine lp_Tr_measure hn hM hK hq k _ (by omega) (mfr_up (mfr_up hf (by decide)) (by decide)) (fun j h1 h2 => ?_)
      rw [mx_up_id _ _ _ _ 11 _ (by decide)]
      rcases Nat.lt_or_ge k j with h3 | h3
      · rw [mx_up_ix _ _ _ _ _ _ (by omega), mx_up_ix _ _ _ _ _ _ (by omega), mx_up_id _ _ _ _ 12 _ (by decide)]
        exact hi j (by omega) h2
      · have e2 : j = k := by omega
        rw [e2, mx_up_same, mx_up_same, hv, hw]
        exact ⟨rfl, rfl⟩
    cases e : K k with
    | some q =>
      obtain ⟨hq6, hz1⟩ := mtree_leaf hM hk1 e
      refine mbT rfl (fun _ => ?_) (fun h => by cases h)
      refine mR 15 rfl (mA3 (mI (by omega)) (mI (by omega)) (mI (by omega))) ?_
      rw [nI_cl (by omega), mx_up_id _ _ _ _ 10 _ (by decide), eK, e]
      refine mR 2 rfl trivial ?_
      rw [nI_m1]
      refine nxt _ _ (by rw [hz1]; rfl) ?_
      rw [show mset K Z nd k = 2 ^ q from mF_leaf _ _ (by omega) e]
      exact nI_shl1 (by omega)
    | none =>
      obtain ⟨g1, g2, g3, g4, g5, g6⟩ := mtree_vote hM hk1 e
      refine mbT rfl (fun h => by cases h) (fun _ => ?_)
      refine mR 8 rfl trivial ?_
      refine mx_E_callV (sp_Tr_first _ k) rfl rfl rfl (fun r c2 hr => ?_)
      obtain ⟨rfl, hz⟩ := hr
      rw [hz]
      refine mR 6 rfl (mA1 (mI (by omega))) ?_
      rw [nI_cl (by omega), (hi (k + 1) (by omega) g5).1]
      refine mx_E_callV (sp_Tr_second _ (by omega) (hi (k + 1) (by omega) g5).1) rfl rfl rfl (fun r c2 hr => ?_)
      obtain ⟨rfl, hz⟩ := hr
      rw [hz]
      refine mR 3 rfl (mA2 (mI (by omega)) (mI (by omega))) ?_
      rw [nI_cl (a := k) (by omega), nI_cl (by omega), (hi (k + 1 + Z (k + 1)) (by omega) g6).1, show (1 : Int32) = nI 1 from rfl, nI_add, nI_add, ← g3]
      obtain ⟨c2, hc2⟩ : ∃ c2, c2 = mx_up c1 11 k (nI (Z k)) := ⟨_, rfl⟩
      rw [← hc2]
      have r12 : c2 12 = c1 12 := by rw [hc2, mx_up_rid _ _ _ _ _ (by decide)]
      have r11 : c2 11 (k + 1) = nI (Z (k + 1)) := by rw [hc2, mx_up_ix _ _ _ _ _ _ (by omega)]; exact (hi (k + 1) (by omega) g5).1
      refine mR 7 rfl trivial ?_
      refine mx_E_callV (sp_Tr_first _ k) rfl rfl rfl (fun r c3 hr => ?_)
      obtain ⟨rfl, hz⟩ := hr
      rw [hz]
      refine mR 5 rfl (mA1 (mI (by omega))) ?_
      rw [nI_cl (by omega), r12, (hi (k + 1) (by omega) g5).2]
      refine mx_E_callV (sp_Tr_second _ (by omega) r11) rfl rfl rfl (fun r c3 hr => ?_)
      obtain ⟨rfl, hz⟩ := hr
      rw [hz]
      refine mR 6 rfl (mA2 (mI (by omega)) (mI (by omega))) ?_
      rw [nI_cl (a := k) (by omega), nI_cl (by omega), r12, (hi (k + 1 + Z (k + 1)) (by omega) g6).2, fa_or, nI_m1, hc2]
      exact nxt _ _ rfl (by rw [show mset K Z nd k = mset K Z nd (k + 1) ||| mset K Z nd (k + 1 + Z (k + 1)) from mF_vote _ _ hM (by omega) e])
theorem cpy0 {f g : Nat → Int32} {n k : Nat} (h : k < n) : va_cpy f g 0 0 n k = f k := by
  unfold va_cpy
  rw [if_pos ⟨Nat.zero_le _, by omega⟩]
  congr 1
  omega
theorem c63 : ((63 : Nat)) = ((nI 63 : Int32)).toNatClampNeg := by decide
theorem sp_Tr_measure (c : mx_M) {n nd : Nat} {K : Nat → Option Nat} {Z : Nat → Nat} (hn : n ≤ 6) (hM : mtree n K Z nd) (hK : ∀ k, k < nd → c 8 k = kC (K k)) (h4 : c 6 4 = nI nd) : mx_Spec 0 2 m_Tr_measure [.ref 9, .ref 6] c (fun r c' => r = none ∧ mfr [9, 10, 11, 12] c c' ∧ cT c' n K Z nd) := by
  have h63 := hM.2.1
  refine mx_Spec_E rfl rfl rfl ?_
  refine mR 10 rfl (mA5 (by decide) (by decide) (by decide) (by decide) (by decide)) ?_
  rw [show ((nI 63 : Int32)).toNatClampNeg = 63 by decide, show ((0 : Int32)).toNatClampNeg = 0 by decide]
  refine mR 9 rfl trivial ?_
  rw [mx_upR_rid _ _ _ 6 (by decide), h4, mx_up_same]
  obtain ⟨c1, hc1⟩ : ∃ c1, c1 = mx_up (mx_upR c 10 (va_cpy (c 8) (c 10) 0 0 63)) 9 3 (nI nd) := ⟨_, rfl⟩
  rw [← hc1]
  have f1 : mfr [9, 10] c c1 := fun r hr => by
    rw [hc1, mx_up_rid _ _ _ _ _ (fun e => hr (by rw [e]; decide)), mx_upR_rid _ _ _ _ (fun e => hr (by rw [e]; decide))]
  have e10 : ∀ k, k < nd → c1 10 k = kC (K k) := fun k hk => by
    rw [hc1, mx_up_rid _ _ _ _ _ (by decide), mx_upR_row, cpy0 (by omega)]
    exact hK k hk
  have e9 : c1 9 3 = nI nd := by rw [hc1, mx_up_same]
  refine mW (lp_Tr_measure (c := c1) hn hM e10 (fun c' hf hi => ⟨rfl, mfr_tr (mfr_mo f1 (by decide)) (mfr_mo hf (by decide)), ?_, hM, fun k hk => ⟨?_, (hi k hk).1, (hi k hk).2⟩⟩) nd c1 (Nat.le_refl _) (mfr_rf _ _) (fun j h1 h2 => by omega)) ⟨Or.inr rfl, Or.inl rfl, Or.inr rfl, trivial⟩ rfl rfl
  · rw [hf 9 (by decide)]; exact e9
  · rw [hf 10 (by decide)]; exact e10 k hk
/-- whom a ranking votes for at a vote; whom it ranks higher -/
def gG (K : Nat → Option Nat) (Z : Nat → Nat) (nd n : Nat) (f : Nat → Nat) (k : Nat) : Bool := (K k).isNone && mlk f n (mset K Z nd (k + 1)) (mset K Z nd (k + 1 + Z (k + 1)))
def gV (n : Nat) (f : Nat → Nat) (x y : Nat) : Bool := decide (mpos f n x < mpos f n y)
/-- the ballots of rankings -/
def bQ (c : mx_M) (fo ab m n : Nat) (K : Nat → Option Nat) (Z : Nat → Nat) (nd : Nat) (R : Nat → Nat → Nat) : Prop := (∀ k, k < nd → c fo k = nI (bS (fun i => gG K Z nd n (R i) k) m)) ∧ ∀ x y, x < n → y < n → x ≠ y → c ab (6 * x + y) = nI (bS (fun i => gV n (R i) x y) m)
theorem bQ_fr {S : List Nat} {c c' : mx_M} {fo ab m n : Nat} {K : Nat → Option Nat} {Z : Nat → Nat} {nd : Nat} {R : Nat → Nat → Nat} (h : bQ c fo ab m n K Z nd R) (hf : mfr S c c') (h1 : fo ∉ S) (h2 : ab ∉ S) : bQ c' fo ab m n K Z nd R := by
  unfold bQ at h ⊢
  rw [hf fo h1, hf ab h2]
  exact h
/-- how far it has come with the pairs of places -/
abbrev aDn (p q lo hi : Nat) : Prop := lo < p ∨ (lo = p ∧ hi < q)
def aVl (n i : Nat) (f : Nat → Nat) (S : Nat → Nat → Nat) (p q x y : Nat) : Nat := if aDn p q (min (mpos f n x) (mpos f n y)) (max (mpos f n x) (mpos f n y)) then bW (S x y) i (gV n f x y) else S x y
theorem aVl_0 {n i : Nat} {f : Nat → Nat} {S : Nat → Nat → Nat} {x y : Nat} : aVl n i f S 0 0 x y = S x y := if_neg (by unfold aDn; omega)
theorem aVl_nx {n i p : Nat} {f : Nat → Nat} {S : Nat → Nat → Nat} {x y : Nat} (hf : mperm n f) (hx : x < n) (hy : y < n) (hxy : x ≠ y) : aVl n i f S p n x y = aVl n i f S (p + 1) (p + 2) x y := by
  have h1 := mpos_lt hf hx
  have h2 := mpos_lt hf hy
  have hne : mpos f n x ≠ mpos f n y := fun e => hxy (mpos_inj hf hx hy e)
  unfold aVl
  congr 1
  unfold aDn
  exact propext (by omega)
theorem aVl_p0 {n i p : Nat} {f : Nat → Nat} {S : Nat → Nat → Nat} {x y : Nat} (hf : mperm n f) (hx : x < n) (hy : y < n) (hxy : x ≠ y) : aVl n i f S p 0 x y = aVl n i f S p (p + 1) x y := by
  have hne : mpos f n x ≠ mpos f n y := fun e => hxy (mpos_inj hf hx hy e)
  unfold aVl
  congr 1
  unfold aDn
  exact propext (by omega)
theorem lp_Ba_castSincere13_7 {Q : Option Value → mx_M → Prop} {c : mx_M} {n nd at0 w : Nat} {K : Nat → Option Nat} {Z : Nat → Nat} {f : Nat → Nat} {S : Nat → Nat} (hT : cT c n K Z nd) (hn : n ≤ 6) (hw : w < 9) (hat : at0 + n ≤ 54) (hf : ∀ p, p < n → f p < n ∧ c 7 (at0 + p) = nI (f p)) (hS : ∀ k, k < nd → c 14 k = nI (S k) ∧ S k < 512) (hq : ∀ c', mfr [14] c c' → (∀ k, k < nd → c' 14 k = nI (bW (S k) w (gG K Z nd n f k))) → Q none c') :
    ∀ (u k : Nat) (c1 : mx_M), k + u = nd → mfr [14] c c1 → (∀ j, j < k → c1 14 j = nI (bW (S j) w (gG K Z nd n f j))) → (∀ j, k ≤ j → c1 14 j = c 14 j) → mx_E 0 3 m_Ba_castSincere Q 2 [.ref 13, .ref 9, .ref 7, .int (nI at0), .int (nI n), .int (nI (2 ^ w)), .int (nI k)] [] c1
  | 0, k, c1, h, hfr, h1, h2 => by
    have e : k = nd := by omega
    have h63 := hT.2.1.2.1
    rw [e] at h1
    rw [e]
    refine mR 3 rfl trivial ?_
    rw [hfr 9 (by decide), hT.1]
    refine mbGe _ _ rfl (by omega) (by omega) (fun _ => ?_) (fun h => by omega)
    exact mx_E_vret rfl rfl (hq c1 hfr h1)
  | u + 1, k, c1, h, hfr, h1, h2 => by
    have h63 := hT.2.1.2.1
    have hk : k < nd := by omega
    have hT1 := cT_fr hT hfr (by decide) (by decide) (by decide) (by decide)
    obtain ⟨eS, lS⟩ := hS k hk
    have ev : c1 14 k = nI (S k) := by rw [h2 k (Nat.le_refl k)]; exact eS
    have nxt : ∀ v, v = nI (bW (S k) w (gG K Z nd n f k)) → mx_E 0 3 m_Ba_castSincere Q 2 [.ref 13, .ref 9, .ref 7, .int (nI at0), .int (nI n), .int (nI (2 ^ w)), .int (nI (k + 1))] [] (mx_up c1 14 k v) := by
      intro v hv
      refine lp_Ba_castSincere13_7 hT hn hw hat hf hS hq u (k + 1) _ (by omega) (mfr_up hfr (by decide)) (fun j hj => ?_) (fun j hj => ?_)
      · by_cases e : j = k
        · rw [e, mx_up_same, hv]
        · rw [mx_up_ix _ _ _ _ _ _ e]
          exact h1 j (by omega)
      · rw [mx_up_ix _ _ _ _ _ _ (by omega)]
        exact h2 j (by omega)
    have no : gG K Z nd n f k = false → mx_E 0 3 m_Ba_castSincere Q 26 [.ref 13, .ref 9, .ref 7, .int (nI at0), .int (nI n), .int (nI (2 ^ w)), .int (nI k)] [] c1 := by
      intro hg
      refine mR 10 rfl (mA2 (mI (by omega)) (mI (by omega))) ?_
      rw [nI_cl (by omega), ev, bW_an lS hw]
      refine mR 2 rfl trivial ?_
      rw [nI_1]
      exact nxt _ (by rw [hg])
    refine mR 3 rfl trivial ?_
    rw [hfr 9 (by decide), hT.1]
    refine mbGe _ _ rfl (by omega) (by omega) (fun h => by omega) (fun _ => ?_)
    refine mR 2 rfl trivial ?_
    refine mx_E_callV (sp_isV _ hT1 hn hk) rfl rfl rfl (fun r c2 hr => ?_)
    obtain ⟨rfl, hz⟩ := hr
    rw [hz]
    cases e : K k with
    | some q =>
      refine mbT rfl (fun _ => ?_) (fun h => by cases h)
      exact no (by unfold gG; rw [e]; rfl)
    | none =>
      refine mbT rfl (fun h => by cases h) (fun _ => ?_)
      refine mR 5 rfl trivial ?_
      refine mx_E_callV (sp_Tr_votesFirst7 _ hT1 hn hk e hat (fun p hp => by rw [hfr 7 (by decide)]; exact hf p hp)) rfl rfl rfl (fun r c2 hr => ?_)
      obtain ⟨rfl, hz⟩ := hr
      rw [hz]
      have hg : gG K Z nd n f k = mlk f n (mset K Z nd (k + 1)) (mset K Z nd (k + 1 + Z (k + 1))) := by unfold gG; rw [e]; rfl
      refine mbT rfl (fun hb => no (by rw [hg, hb])) (fun hb => ?_)
      refine mR 9 rfl (mA2 (mI (by omega)) (mI (by omega))) ?_
      rw [nI_cl (by omega), ev, bW_or]
      refine mR 2 rfl trivial ?_
      rw [nI_1]
      exact nxt _ (by rw [hg, hb])
theorem sp_Ba_castSincere13_7 (c : mx_M) {n nd at0 w : Nat} {K : Nat → Option Nat} {Z : Nat → Nat} {f : Nat → Nat} {S : Nat → Nat} (hT : cT c n K Z nd) (hn : n ≤ 6) (hw : w < 9) (hat : at0 + n ≤ 54) (hf : ∀ p, p < n → f p < n ∧ c 7 (at0 + p) = nI (f p)) (hS : ∀ k, k < nd → c 14 k = nI (S k) ∧ S k < 512) : mx_Spec 0 3 m_Ba_castSincere [.ref 13, .ref 9, .ref 7, .int (nI at0), .int (nI n), .int (nI (2 ^ w))] c (fun r c' => r = none ∧ mfr [14] c c' ∧ ∀ k, k < nd → c' 14 k = nI (bW (S k) w (gG K Z nd n f k))) := by
  refine mx_Spec_E rfl rfl rfl ?_
  refine mR 2 rfl trivial ?_
  exact lp_Ba_castSincere13_7 hT hn hw hat hf hS (fun c' h1 h2 => ⟨rfl, h1, h2⟩) nd 0 c (by omega) (mfr_rf _ _) (fun j hj => absurd hj (Nat.not_lt_zero j)) (fun _ _ => rfl)
theorem lp_Ba_castAbove13_7_in {Q : Option Value → mx_M → Prop} {c : mx_M} {n at0 w p : Nat} {f : Nat → Nat} {S : Nat → Nat → Nat} (hn : n ≤ 6) (hw : w < 9) (hp : p < n) (hat : at0 + n ≤ 54) (hpm : mperm n f) (hf : ∀ p, p < n → c 7 (at0 + p) = nI (f p)) (hS : ∀ x y, x < n → y < n → x ≠ y → S x y < 512)
    (hk : ∀ c', mfr [15] c c' → (∀ x y, x < n → y < n → x ≠ y → c' 15 (6 * x + y) = nI (aVl n w f S (p + 1) (p + 2) x y)) → mx_E 0 2 m_Ba_castAbove Q 2 [.ref 13, .ref 7, .int (nI at0), .int (nI n), .int (nI (2 ^ w)), .int (nI (p + 1)), .null, .null, .null] [] c') :
    ∀ (u q : Nat) (c1 : mx_M), q + u = n → p < q → mfr [15] c c1 → (∀ x y, x < n → y < n → x ≠ y → c1 15 (6 * x + y) = nI (aVl n w f S p q x y)) → mx_E 0 2 m_Ba_castAbove Q 9 [.ref 13, .ref 7, .int (nI at0), .int (nI n), .int (nI (2 ^ w)), .int (nI p), .int (nI q), .null, .null] [] c1
  | 0, q, c1, h, hpq, hfr, hi => by
    have e : q = n := by omega
    subst e
    refine mR 2 rfl trivial ?_
    refine mbGe _ _ rfl (by omega) (by omega) (fun _ => ?_) (fun h => by omega)
    refine mR 2 rfl trivial ?_
    rw [nI_1]
    refine mW (hk c1 hfr (fun x y hx hy hxy => ?_)) ⟨Or.inr rfl, Or.inr rfl, Or.inr rfl, Or.inr rfl, Or.inr rfl, Or.inr rfl, Or.inl rfl, Or.inl rfl, Or.inl rfl, trivial⟩ rfl rfl
    rw [hi x y hx hy hxy, aVl_nx hpm hx hy hxy]
  | u + 1, q, c1, h, hpq, hfr, hi => by
    have hqn : q < n := by omega
    have lp := hpm.1 p hp
    have lq := hpm.1 q hqn
    have hne : f p ≠ f q := fun e => by have := hpm.2 p q hp hqn e; omega
    have r7 : ∀ z, c1 7 z = c 7 z := fun z => by rw [hfr 7 (by decide)]
    have pp := mpos_at hpm hp
    have pq := mpos_at hpm hqn
    refine mR 2 rfl trivial ?_
    refine mbGe _ _ rfl (by omega) (by omega) (fun h => by omega) (fun _ => ?_)
    refine mR 12 rfl (mA2 (by rw [nI_add]; exact mI (by omega)) (by rw [nI_add]; exact mI (by omega))) ?_
    rw [nI_add, nI_add, nI_cl (a := at0 + p) (by omega), nI_cl (a := at0 + q) (by omega), r7, r7, hf p hp, hf q hqn]
    have e1 : nI (f p) * 6 + nI (f q) = nI (6 * f p + f q) := by rw [show (6 : Int32) = nI 6 from rfl, pk_mul, nI_add, Nat.mul_comm]
    have e2 : nI (f q) * 6 + nI (f p) = nI (6 * f q + f p) := by rw [show (6 : Int32) = nI 6 from rfl, pk_mul, nI_add, Nat.mul_comm]
    have v1 : aVl n w f S p q (f p) (f q) = S (f p) (f q) := if_neg (by unfold aDn; rw [pp, pq]; omega)
    have v2 : aVl n w f S p q (f q) (f p) = S (f q) (f p) := if_neg (by unfold aDn; rw [pp, pq]; omega)
    refine mR 12 rfl (mA2 (by rw [e1]; exact mI (by omega)) (by rw [e1]; exact mI (by omega))) ?_
    rw [e1, nI_cl (a := 6 * f p + f q) (by omega), hi _ _ lp lq hne, v1, bW_or]
    obtain ⟨c2, hc2⟩ : ∃ c2, c2 = mx_up c1 15 (6 * f p + f q) (nI (bW (S (f p) (f q)) w true)) := ⟨_, rfl⟩
    rw [← hc2]
    have g2 : c2 15 (6 * f q + f p) = nI (S (f q) (f p)) := by rw [hc2, mx_up_ix _ _ _ _ _ _ (by omega), hi _ _ lq lp (fun e => hne e.symm), v2]
    refine mR 14 rfl (mA2 (by rw [e2]; exact mI (by omega)) (by rw [e2]; exact mI (by omega))) ?_
    rw [e2, nI_cl (a := 6 * f q + f p) (by omega), g2, bW_an (hS _ _ lq lp (fun e => hne e.symm)) hw]
    refine mR 2 rfl trivial ?_
    rw [nI_1]
    refine mW (lp_Ba_castAbove13_7_in hn hw hp hat hpm hf hS hk u (q + 1) _ (by omega) (by omega) (mfr_up (by rw [hc2]; exact mfr_up hfr (by decide)) (by decide)) (fun x y hx hy hxy => ?_)) ⟨Or.inr rfl, Or.inr rfl, Or.inr rfl, Or.inr rfl, Or.inr rfl, Or.inr rfl, Or.inr rfl, Or.inl rfl, Or.inl rfl, trivial⟩ rfl rfl
    by_cases ea : x = f q ∧ y = f p
    · rw [ea.1, ea.2, mx_up_same]
      congr 1
      unfold aVl
      rw [if_pos (by unfold aDn; rw [pp, pq]; omega), show gV n f (f q) (f p) = false from decide_eq_false (by rw [pp, pq]; omega)]
    · rw [mx_up_ix _ _ _ _ _ _ (by omega), hc2]
      by_cases eb : x = f p ∧ y = f q
      · rw [eb.1, eb.2, mx_up_same]
        congr 1
        unfold aVl
        rw [if_pos (by unfold aDn; rw [pp, pq]; omega), show gV n f (f p) (f q) = true from decide_eq_true (by rw [pp, pq]; omega)]
      · rw [mx_up_ix _ _ _ _ _ _ (by omega), hi x y hx hy hxy]
        congr 1
        unfold aVl
        congr 1
        unfold aDn
        have nx := mpos_lt hpm hx
        have ny := mpos_lt hpm hy
        have a1 : ¬ (mpos f n x = q ∧ mpos f n y = p) := fun z => ea ⟨by rw [← nx.2, z.1], by rw [← ny.2, z.2]⟩
        have a2 : ¬ (mpos f n x = p ∧ mpos f n y = q) := fun z => eb ⟨by rw [← nx.2, z.1], by rw [← ny.2, z.2]⟩
        exact propext (by omega)
theorem lp_Ba_castAbove13_7 {Q : Option Value → mx_M → Prop} {c : mx_M} {n at0 w : Nat} {f : Nat → Nat} {S : Nat → Nat → Nat} (hn : n ≤ 6) (hw : w < 9) (hat : at0 + n ≤ 54) (hpm : mperm n f) (hf : ∀ p, p < n → c 7 (at0 + p) = nI (f p)) (hS : ∀ x y, x < n → y < n → x ≠ y → S x y < 512) (hq : ∀ c', mfr [15] c c' → (∀ x y, x < n → y < n → x ≠ y → c' 15 (6 * x + y) = nI (aVl n w f S n (n + 1) x y)) → Q none c') :
    ∀ (u p : Nat) (c1 : mx_M), p + u = n → mfr [15] c c1 → (∀ x y, x < n → y < n → x ≠ y → c1 15 (6 * x + y) = nI (aVl n w f S p (p + 1) x y)) → mx_E 0 2 m_Ba_castAbove Q 2 [.ref 13, .ref 7, .int (nI at0), .int (nI n), .int (nI (2 ^ w)), .int (nI p), .null, .null, .null] [] c1
  | 0, p, c1, h, hfr, hi => by
    have e : p = n := by omega
    subst e
    refine mR 2 rfl trivial ?_
    refine mbGe _ _ rfl (by omega) (by omega) (fun _ => ?_) (fun h => by omega)
    exact mx_E_vret rfl rfl (hq c1 hfr hi)
  | u + 1, p, c1, h, hfr, hi => by
    refine mR 2 rfl trivial ?_
    refine mbGe _ _ rfl (by omega) (by omega) (fun h => by omega) (fun _ => ?_)
    refine mR 4 rfl trivial ?_
    rw [nI_1]
    exact lp_Ba_castAbove13_7_in hn hw (by omega) hat hpm hf hS (fun c2 hf2 h2 => lp_Ba_castAbove13_7 hn hw hat hpm hf hS hq u (p + 1) c2 (by omega) hf2 h2) (n - (p + 1)) (p + 1) c1 (by omega) (by omega) hfr hi
theorem sp_Ba_castAbove13_7 (c : mx_M) {n at0 w : Nat} {f : Nat → Nat} {S : Nat → Nat → Nat} (hn : n ≤ 6) (hw : w < 9) (hat : at0 + n ≤ 54) (hpm : mperm n f) (hf : ∀ p, p < n → c 7 (at0 + p) = nI (f p)) (hS : ∀ x y, x < n → y < n → x ≠ y → c 15 (6 * x + y) = nI (S x y) ∧ S x y < 512) : mx_Spec 0 2 m_Ba_castAbove [.ref 13, .ref 7, .int (nI at0), .int (nI n), .int (nI (2 ^ w))] c (fun r c' => r = none ∧ mfr [15] c c' ∧ ∀ x y, x < n → y < n → x ≠ y → c' 15 (6 * x + y) = nI (bW (S x y) w (gV n f x y))) := by
  refine mx_Spec_E rfl rfl rfl ?_
  refine mR 2 rfl trivial ?_
  refine lp_Ba_castAbove13_7 hn hw hat hpm hf (fun x y hx hy hxy => (hS x y hx hy hxy).2) (fun c' h1 h2 => ⟨rfl, h1, fun x y hx hy hxy => ?_⟩) n 0 c (by omega) (mfr_rf _ _) (fun x y hx hy hxy => ?_)
  · rw [(hS x y hx hy hxy).1, ← aVl_p0 hpm hx hy hxy, aVl_0]
  · rw [h2 x y hx hy hxy]
    congr 1
    have nx := mpos_lt hpm hx
    have ny := mpos_lt hpm hy
    exact if_pos (by unfold aDn; omega)
theorem lp_Ba_castSincere17_31 {Q : Option Value → mx_M → Prop} {c : mx_M} {n nd at0 w : Nat} {K : Nat → Option Nat} {Z : Nat → Nat} {f : Nat → Nat} {S : Nat → Nat} (hT : cT c n K Z nd) (hn : n ≤ 6) (hw : w < 9) (hat : at0 + n ≤ 6) (hf : ∀ p, p < n → f p < n ∧ c 31 (at0 + p) = nI (f p)) (hS : ∀ k, k < nd → c 18 k = nI (S k) ∧ S k < 512) (hq : ∀ c', mfr [18] c c' → (∀ k, k < nd → c' 18 k = nI (bW (S k) w (gG K Z nd n f k))) → Q none c') :
    ∀ (u k : Nat) (c1 : mx_M), k + u = nd → mfr [18] c c1 → (∀ j, j < k → c1 18 j = nI (bW (S j) w (gG K Z nd n f j))) → (∀ j, k ≤ j → c1 18 j = c 18 j) → mx_E 0 3 m_Ba_castSincere Q 2 [.ref 17, .ref 9, .ref 31, .int (nI at0), .int (nI n), .int (nI (2 ^ w)), .int (nI k)] [] c1
  | 0, k, c1, h, hfr, h1, h2 => by
    have e : k = nd := by omega
    have h63 := hT.2.1.2.1
    rw [e] at h1
    rw [e]
    refine mR 3 rfl trivial ?_
    rw [hfr 9 (by decide), hT.1]
    refine mbGe _ _ rfl (by omega) (by omega) (fun _ => ?_) (fun h => by omega)
    exact mx_E_vret rfl rfl (hq c1 hfr h1)
  | u + 1, k, c1, h, hfr, h1, h2 => by
    have h63 := hT.2.1.2.1
    have hk : k < nd := by omega
    have hT1 := cT_fr hT hfr (by decide) (by decide) (by decide) (by decide)
    obtain ⟨eS, lS⟩ := hS k hk
    have ev : c1 18 k = nI (S k) := by rw [h2 k (Nat.le_refl k)]; exact eS
    have nxt : ∀ v, v = nI (bW (S k) w (gG K Z nd n f k)) → mx_E 0 3 m_Ba_castSincere Q 2 [.ref 17, .ref 9, .ref 31, .int (nI at0), .int (nI n), .int (nI (2 ^ w)), .int (nI (k + 1))] [] (mx_up c1 18 k v) := by
      intro v hv
      refine lp_Ba_castSincere17_31 hT hn hw hat hf hS hq u (k + 1) _ (by omega) (mfr_up hfr (by decide)) (fun j hj => ?_) (fun j hj => ?_)
      · by_cases e : j = k
        · rw [e, mx_up_same, hv]
        · rw [mx_up_ix _ _ _ _ _ _ e]
          exact h1 j (by omega)
      · rw [mx_up_ix _ _ _ _ _ _ (by omega)]
        exact h2 j (by omega)
    have no : gG K Z nd n f k = false → mx_E 0 3 m_Ba_castSincere Q 26 [.ref 17, .ref 9, .ref 31, .int (nI at0), .int (nI n), .int (nI (2 ^ w)), .int (nI k)] [] c1 := by
      intro hg
      refine mR 10 rfl (mA2 (mI (by omega)) (mI (by omega))) ?_
      rw [nI_cl (by omega), ev, bW_an lS hw]
      refine mR 2 rfl trivial ?_
      rw [nI_1]
      exact nxt _ (by rw [hg])
    refine mR 3 rfl trivial ?_
    rw [hfr 9 (by decide), hT.1]
    refine mbGe _ _ rfl (by omega) (by omega) (fun h => by omega) (fun _ => ?_)
    refine mR 2 rfl trivial ?_
    refine mx_E_callV (sp_isV _ hT1 hn hk) rfl rfl rfl (fun r c2 hr => ?_)
    obtain ⟨rfl, hz⟩ := hr
    rw [hz]
    cases e : K k with
    | some q =>
      refine mbT rfl (fun _ => ?_) (fun h => by cases h)
      exact no (by unfold gG; rw [e]; rfl)
    | none =>
      refine mbT rfl (fun h => by cases h) (fun _ => ?_)
      refine mR 5 rfl trivial ?_
      refine mx_E_callV (sp_Tr_votesFirst31 _ hT1 hn hk e hat (fun p hp => by rw [hfr 31 (by decide)]; exact hf p hp)) rfl rfl rfl (fun r c2 hr => ?_)
      obtain ⟨rfl, hz⟩ := hr
      rw [hz]
      have hg : gG K Z nd n f k = mlk f n (mset K Z nd (k + 1)) (mset K Z nd (k + 1 + Z (k + 1))) := by unfold gG; rw [e]; rfl
      refine mbT rfl (fun hb => no (by rw [hg, hb])) (fun hb => ?_)
      refine mR 9 rfl (mA2 (mI (by omega)) (mI (by omega))) ?_
      rw [nI_cl (by omega), ev, bW_or]
      refine mR 2 rfl trivial ?_
      rw [nI_1]
      exact nxt _ (by rw [hg, hb])
theorem sp_Ba_castSincere17_31 (c : mx_M) {n nd at0 w : Nat} {K : Nat → Option Nat} {Z : Nat → Nat} {f : Nat → Nat} {S : Nat → Nat} (hT : cT c n K Z nd) (hn : n ≤ 6) (hw : w < 9) (hat : at0 + n ≤ 6) (hf : ∀ p, p < n → f p < n ∧ c 31 (at0 + p) = nI (f p)) (hS : ∀ k, k < nd → c 18 k = nI (S k) ∧ S k < 512) : mx_Spec 0 3 m_Ba_castSincere [.ref 17, .ref 9, .ref 31, .int (nI at0), .int (nI n), .int (nI (2 ^ w))] c (fun r c' => r = none ∧ mfr [18] c c' ∧ ∀ k, k < nd → c' 18 k = nI (bW (S k) w (gG K Z nd n f k))) := by
  refine mx_Spec_E rfl rfl rfl ?_
  refine mR 2 rfl trivial ?_
  exact lp_Ba_castSincere17_31 hT hn hw hat hf hS (fun c' h1 h2 => ⟨rfl, h1, h2⟩) nd 0 c (by omega) (mfr_rf _ _) (fun j hj => absurd hj (Nat.not_lt_zero j)) (fun _ _ => rfl)
theorem lp_Ba_castAbove17_31_in {Q : Option Value → mx_M → Prop} {c : mx_M} {n at0 w p : Nat} {f : Nat → Nat} {S : Nat → Nat → Nat} (hn : n ≤ 6) (hw : w < 9) (hp : p < n) (hat : at0 + n ≤ 6) (hpm : mperm n f) (hf : ∀ p, p < n → c 31 (at0 + p) = nI (f p)) (hS : ∀ x y, x < n → y < n → x ≠ y → S x y < 512)
    (hk : ∀ c', mfr [19] c c' → (∀ x y, x < n → y < n → x ≠ y → c' 19 (6 * x + y) = nI (aVl n w f S (p + 1) (p + 2) x y)) → mx_E 0 2 m_Ba_castAbove Q 2 [.ref 17, .ref 31, .int (nI at0), .int (nI n), .int (nI (2 ^ w)), .int (nI (p + 1)), .null, .null, .null] [] c') :
    ∀ (u q : Nat) (c1 : mx_M), q + u = n → p < q → mfr [19] c c1 → (∀ x y, x < n → y < n → x ≠ y → c1 19 (6 * x + y) = nI (aVl n w f S p q x y)) → mx_E 0 2 m_Ba_castAbove Q 9 [.ref 17, .ref 31, .int (nI at0), .int (nI n), .int (nI (2 ^ w)), .int (nI p), .int (nI q), .null, .null] [] c1
  | 0, q, c1, h, hpq, hfr, hi => by
    have e : q = n := by omega
    subst e
    refine mR 2 rfl trivial ?_
    refine mbGe _ _ rfl (by omega) (by omega) (fun _ => ?_) (fun h => by omega)
    refine mR 2 rfl trivial ?_
    rw [nI_1]
    refine mW (hk c1 hfr (fun x y hx hy hxy => ?_)) ⟨Or.inr rfl, Or.inr rfl, Or.inr rfl, Or.inr rfl, Or.inr rfl, Or.inr rfl, Or.inl rfl, Or.inl rfl, Or.inl rfl, trivial⟩ rfl rfl
    rw [hi x y hx hy hxy, aVl_nx hpm hx hy hxy]
  | u + 1, q, c1, h, hpq, hfr, hi => by
    have hqn : q < n := by omega
    have lp := hpm.1 p hp
    have lq := hpm.1 q hqn
    have hne : f p ≠ f q := fun e => by have := hpm.2 p q hp hqn e; omega
    have r31 : ∀ z, c1 31 z = c 31 z := fun z => by rw [hfr 31 (by decide)]
    have pp := mpos_at hpm hp
    have pq := mpos_at hpm hqn
    refine mR 2 rfl trivial ?_
    refine mbGe _ _ rfl (by omega) (by omega) (fun h => by omega) (fun _ => ?_)
    refine mR 12 rfl (mA2 (by rw [nI_add]; exact mI (by omega)) (by rw [nI_add]; exact mI (by omega))) ?_
    rw [nI_add, nI_add, nI_cl (a := at0 + p) (by omega), nI_cl (a := at0 + q) (by omega), r31, r31, hf p hp, hf q hqn]
    have e1 : nI (f p) * 6 + nI (f q) = nI (6 * f p + f q) := by rw [show (6 : Int32) = nI 6 from rfl, pk_mul, nI_add, Nat.mul_comm]
    have e2 : nI (f q) * 6 + nI (f p) = nI (6 * f q + f p) := by rw [show (6 : Int32) = nI 6 from rfl, pk_mul, nI_add, Nat.mul_comm]
    have v1 : aVl n w f S p q (f p) (f q) = S (f p) (f q) := if_neg (by unfold aDn; rw [pp, pq]; omega)
    have v2 : aVl n w f S p q (f q) (f p) = S (f q) (f p) := if_neg (by unfold aDn; rw [pp, pq]; omega)
    refine mR 12 rfl (mA2 (by rw [e1]; exact mI (by omega)) (by rw [e1]; exact mI (by omega))) ?_
    rw [e1, nI_cl (a := 6 * f p + f q) (by omega), hi _ _ lp lq hne, v1, bW_or]
    obtain ⟨c2, hc2⟩ : ∃ c2, c2 = mx_up c1 19 (6 * f p + f q) (nI (bW (S (f p) (f q)) w true)) := ⟨_, rfl⟩
    rw [← hc2]
    have g2 : c2 19 (6 * f q + f p) = nI (S (f q) (f p)) := by rw [hc2, mx_up_ix _ _ _ _ _ _ (by omega), hi _ _ lq lp (fun e => hne e.symm), v2]
    refine mR 14 rfl (mA2 (by rw [e2]; exact mI (by omega)) (by rw [e2]; exact mI (by omega))) ?_
    rw [e2, nI_cl (a := 6 * f q + f p) (by omega), g2, bW_an (hS _ _ lq lp (fun e => hne e.symm)) hw]
    refine mR 2 rfl trivial ?_
    rw [nI_1]
    refine mW (lp_Ba_castAbove17_31_in hn hw hp hat hpm hf hS hk u (q + 1) _ (by omega) (by omega) (mfr_up (by rw [hc2]; exact mfr_up hfr (by decide)) (by decide)) (fun x y hx hy hxy => ?_)) ⟨Or.inr rfl, Or.inr rfl, Or.inr rfl, Or.inr rfl, Or.inr rfl, Or.inr rfl, Or.inr rfl, Or.inl rfl, Or.inl rfl, trivial⟩ rfl rfl
    by_cases ea : x = f q ∧ y = f p
    · rw [ea.1, ea.2, mx_up_same]
      congr 1
      unfold aVl
      rw [if_pos (by unfold aDn; rw [pp, pq]; omega), show gV n f (f q) (f p) = false from decide_eq_false (by rw [pp, pq]; omega)]
    · rw [mx_up_ix _ _ _ _ _ _ (by omega), hc2]
      by_cases eb : x = f p ∧ y = f q
      · rw [eb.1, eb.2, mx_up_same]
        congr 1
        unfold aVl
        rw [if_pos (by unfold aDn; rw [pp, pq]; omega), show gV n f (f p) (f q) = true from decide_eq_true (by rw [pp, pq]; omega)]
      · rw [mx_up_ix _ _ _ _ _ _ (by omega), hi x y hx hy hxy]
        congr 1
        unfold aVl
        congr 1
        unfold aDn
        have nx := mpos_lt hpm hx
        have ny := mpos_lt hpm hy
        have a1 : ¬ (mpos f n x = q ∧ mpos f n y = p) := fun z => ea ⟨by rw [← nx.2, z.1], by rw [← ny.2, z.2]⟩
        have a2 : ¬ (mpos f n x = p ∧ mpos f n y = q) := fun z => eb ⟨by rw [← nx.2, z.1], by rw [← ny.2, z.2]⟩
        exact propext (by omega)
theorem lp_Ba_castAbove17_31 {Q : Option Value → mx_M → Prop} {c : mx_M} {n at0 w : Nat} {f : Nat → Nat} {S : Nat → Nat → Nat} (hn : n ≤ 6) (hw : w < 9) (hat : at0 + n ≤ 6) (hpm : mperm n f) (hf : ∀ p, p < n → c 31 (at0 + p) = nI (f p)) (hS : ∀ x y, x < n → y < n → x ≠ y → S x y < 512) (hq : ∀ c', mfr [19] c c' → (∀ x y, x < n → y < n → x ≠ y → c' 19 (6 * x + y) = nI (aVl n w f S n (n + 1) x y)) → Q none c') :
    ∀ (u p : Nat) (c1 : mx_M), p + u = n → mfr [19] c c1 → (∀ x y, x < n → y < n → x ≠ y → c1 19 (6 * x + y) = nI (aVl n w f S p (p + 1) x y)) → mx_E 0 2 m_Ba_castAbove Q 2 [.ref 17, .ref 31, .int (nI at0), .int (nI n), .int (nI (2 ^ w)), .int (nI p), .null, .null, .null] [] c1
  | 0, p, c1, h, hfr, hi => by
    have e : p = n := by omega
    subst e
    refine mR 2 rfl trivial ?_
    refine mbGe _ _ rfl (by omega) (by omega) (fun _ => ?_) (fun h => by omega)
    exact mx_E_vret rfl rfl (hq c1 hfr hi)
  | u + 1, p, c1, h, hfr, hi => by
    refine mR 2 rfl trivial ?_
    refine mbGe _ _ rfl (by omega) (by omega) (fun h => by omega) (fun _ => ?_)
    refine mR 4 rfl trivial ?_
    rw [nI_1]
    exact lp_Ba_castAbove17_31_in hn hw (by omega) hat hpm hf hS (fun c2 hf2 h2 => lp_Ba_castAbove17_31 hn hw hat hpm hf hS hq u (p + 1) c2 (by omega) hf2 h2) (n - (p + 1)) (p + 1) c1 (by omega) (by omega) hfr hi
theorem sp_Ba_castAbove17_31 (c : mx_M) {n at0 w : Nat} {f : Nat → Nat} {S : Nat → Nat → Nat} (hn : n ≤ 6) (hw : w < 9) (hat : at0 + n ≤ 6) (hpm : mperm n f) (hf : ∀ p, p < n → c 31 (at0 + p) = nI (f p)) (hS : ∀ x y, x < n → y < n → x ≠ y → c 19 (6 * x + y) = nI (S x y) ∧ S x y < 512) : mx_Spec 0 2 m_Ba_castAbove [.ref 17, .ref 31, .int (nI at0), .int (nI n), .int (nI (2 ^ w))] c (fun r c' => r = none ∧ mfr [19] c c' ∧ ∀ x y, x < n → y < n → x ≠ y → c' 19 (6 * x + y) = nI (bW (S x y) w (gV n f x y))) := by
  refine mx_Spec_E rfl rfl rfl ?_
  refine mR 2 rfl trivial ?_
  refine lp_Ba_castAbove17_31 hn hw hat hpm hf (fun x y hx hy hxy => (hS x y hx hy hxy).2) (fun c' h1 h2 => ⟨rfl, h1, fun x y hx hy hxy => ?_⟩) n 0 c (by omega) (mfr_rf _ _) (fun x y hx hy hxy => ?_)
  · rw [(hS x y hx hy hxy).1, ← aVl_p0 hpm hx hy hxy, aVl_0]
  · rw [h2 x y hx hy hxy]
    congr 1
    have nx := mpos_lt hpm hx
    have ny := mpos_lt hpm hy
    exact if_pos (by unfold aDn; omega)
theorem lp_Ba_castSincere21_31 {Q : Option Value → mx_M → Prop} {c : mx_M} {n nd at0 w : Nat} {K : Nat → Option Nat} {Z : Nat → Nat} {f : Nat → Nat} {S : Nat → Nat} (hT : cT c n K Z nd) (hn : n ≤ 6) (hw : w < 9) (hat : at0 + n ≤ 6) (hf : ∀ p, p < n → f p < n ∧ c 31 (at0 + p) = nI (f p)) (hS : ∀ k, k < nd → c 22 k = nI (S k) ∧ S k < 512) (hq : ∀ c', mfr [22] c c' → (∀ k, k < nd → c' 22 k = nI (bW (S k) w (gG K Z nd n f k))) → Q none c') :
    ∀ (u k : Nat) (c1 : mx_M), k + u = nd → mfr [22] c c1 → (∀ j, j < k → c1 22 j = nI (bW (S j) w (gG K Z nd n f j))) → (∀ j, k ≤ j → c1 22 j = c 22 j) → mx_E 0 3 m_Ba_castSincere Q 2 [.ref 21, .ref 9, .ref 31, .int (nI at0), .int (nI n), .int (nI (2 ^ w)), .int (nI k)] [] c1
  | 0, k, c1, h, hfr, h1, h2 => by
    have e : k = nd := by omega
    have h63 := hT.2.1.2.1
    rw [e] at h1
    rw [e]
    refine mR 3 rfl trivial ?_
    rw [hfr 9 (by decide), hT.1]
    refine mbGe _ _ rfl (by omega) (by omega) (fun _ => ?_) (fun h => by omega)
    exact mx_E_vret rfl rfl (hq c1 hfr h1)
  | u + 1, k, c1, h, hfr, h1, h2 => by
    have h63 := hT.2.1.2.1
    have hk : k < nd := by omega
    have hT1 := cT_fr hT hfr (by decide) (by decide) (by decide) (by decide)
    obtain ⟨eS, lS⟩ := hS k hk
    have ev : c1 22 k = nI (S k) := by rw [h2 k (Nat.le_refl k)]; exact eS
    have nxt : ∀ v, v = nI (bW (S k) w (gG K Z nd n f k)) → mx_E 0 3 m_Ba_castSincere Q 2 [.ref 21, .ref 9, .ref 31, .int (nI at0), .int (nI n), .int (nI (2 ^ w)), .int (nI (k + 1))] [] (mx_up c1 22 k v) := by
      intro v hv
      refine lp_Ba_castSincere21_31 hT hn hw hat hf hS hq u (k + 1) _ (by omega) (mfr_up hfr (by decide)) (fun j hj => ?_) (fun j hj => ?_)
      · by_cases e : j = k
        · rw [e, mx_up_same, hv]
        · rw [mx_up_ix _ _ _ _ _ _ e]
          exact h1 j (by omega)
      · rw [mx_up_ix _ _ _ _ _ _ (by omega)]
        exact h2 j (by omega)
    have no : gG K Z nd n f k = false → mx_E 0 3 m_Ba_castSincere Q 26 [.ref 21, .ref 9, .ref 31, .int (nI at0), .int (nI n), .int (nI (2 ^ w)), .int (nI k)] [] c1 := by
      intro hg
      refine mR 10 rfl (mA2 (mI (by omega)) (mI (by omega))) ?_
      rw [nI_cl (by omega), ev, bW_an lS hw]
      refine mR 2 rfl trivial ?_
      rw [nI_1]
      exact nxt _ (by rw [hg])
    refine mR 3 rfl trivial ?_
    rw [hfr 9 (by decide), hT.1]
    refine mbGe _ _ rfl (by omega) (by omega) (fun h => by omega) (fun _ => ?_)
    refine mR 2 rfl trivial ?_
    refine mx_E_callV (sp_isV _ hT1 hn hk) rfl rfl rfl (fun r c2 hr => ?_)
    obtain ⟨rfl, hz⟩ := hr
    rw [hz]
    cases e : K k with
    | some q =>
      refine mbT rfl (fun _ => ?_) (fun h => by cases h)
      exact no (by unfold gG; rw [e]; rfl)
    | none =>
      refine mbT rfl (fun h => by cases h) (fun _ => ?_)
      refine mR 5 rfl trivial ?_
      refine mx_E_callV (sp_Tr_votesFirst31 _ hT1 hn hk e hat (fun p hp => by rw [hfr 31 (by decide)]; exact hf p hp)) rfl rfl rfl (fun r c2 hr => ?_)
      obtain ⟨rfl, hz⟩ := hr
      rw [hz]
      have hg : gG K Z nd n f k = mlk f n (mset K Z nd (k + 1)) (mset K Z nd (k + 1 + Z (k + 1))) := by unfold gG; rw [e]; rfl
      refine mbT rfl (fun hb => no (by rw [hg, hb])) (fun hb => ?_)
      refine mR 9 rfl (mA2 (mI (by omega)) (mI (by omega))) ?_
      rw [nI_cl (by omega), ev, bW_or]
      refine mR 2 rfl trivial ?_
      rw [nI_1]
      exact nxt _ (by rw [hg, hb])
theorem sp_Ba_castSincere21_31 (c : mx_M) {n nd at0 w : Nat} {K : Nat → Option Nat} {Z : Nat → Nat} {f : Nat → Nat} {S : Nat → Nat} (hT : cT c n K Z nd) (hn : n ≤ 6) (hw : w < 9) (hat : at0 + n ≤ 6) (hf : ∀ p, p < n → f p < n ∧ c 31 (at0 + p) = nI (f p)) (hS : ∀ k, k < nd → c 22 k = nI (S k) ∧ S k < 512) : mx_Spec 0 3 m_Ba_castSincere [.ref 21, .ref 9, .ref 31, .int (nI at0), .int (nI n), .int (nI (2 ^ w))] c (fun r c' => r = none ∧ mfr [22] c c' ∧ ∀ k, k < nd → c' 22 k = nI (bW (S k) w (gG K Z nd n f k))) := by
  refine mx_Spec_E rfl rfl rfl ?_
  refine mR 2 rfl trivial ?_
  exact lp_Ba_castSincere21_31 hT hn hw hat hf hS (fun c' h1 h2 => ⟨rfl, h1, h2⟩) nd 0 c (by omega) (mfr_rf _ _) (fun j hj => absurd hj (Nat.not_lt_zero j)) (fun _ _ => rfl)
theorem lp_Ba_castAbove21_31_in {Q : Option Value → mx_M → Prop} {c : mx_M} {n at0 w p : Nat} {f : Nat → Nat} {S : Nat → Nat → Nat} (hn : n ≤ 6) (hw : w < 9) (hp : p < n) (hat : at0 + n ≤ 6) (hpm : mperm n f) (hf : ∀ p, p < n → c 31 (at0 + p) = nI (f p)) (hS : ∀ x y, x < n → y < n → x ≠ y → S x y < 512)
    (hk : ∀ c', mfr [23] c c' → (∀ x y, x < n → y < n → x ≠ y → c' 23 (6 * x + y) = nI (aVl n w f S (p + 1) (p + 2) x y)) → mx_E 0 2 m_Ba_castAbove Q 2 [.ref 21, .ref 31, .int (nI at0), .int (nI n), .int (nI (2 ^ w)), .int (nI (p + 1)), .null, .null, .null] [] c') :
    ∀ (u q : Nat) (c1 : mx_M), q + u = n → p < q → mfr [23] c c1 → (∀ x y, x < n → y < n → x ≠ y → c1 23 (6 * x + y) = nI (aVl n w f S p q x y)) → mx_E 0 2 m_Ba_castAbove Q 9 [.ref 21, .ref 31, .int (nI at0), .int (nI n), .int (nI (2 ^ w)), .int (nI p), .int (nI q), .null, .null] [] c1
  | 0, q, c1, h, hpq, hfr, hi => by
    have e : q = n := by omega
    subst e
    refine mR 2 rfl trivial ?_
    refine mbGe _ _ rfl (by omega) (by omega) (fun _ => ?_) (fun h => by omega)
    refine mR 2 rfl trivial ?_
    rw [nI_1]
    refine mW (hk c1 hfr (fun x y hx hy hxy => ?_)) ⟨Or.inr rfl, Or.inr rfl, Or.inr rfl, Or.inr rfl, Or.inr rfl, Or.inr rfl, Or.inl rfl, Or.inl rfl, Or.inl rfl, trivial⟩ rfl rfl
    rw [hi x y hx hy hxy, aVl_nx hpm hx hy hxy]
  | u + 1, q, c1, h, hpq, hfr, hi => by
    have hqn : q < n := by omega
    have lp := hpm.1 p hp
    have lq := hpm.1 q hqn
    have hne : f p ≠ f q := fun e => by have := hpm.2 p q hp hqn e; omega
    have r31 : ∀ z, c1 31 z = c 31 z := fun z => by rw [hfr 31 (by decide)]
    have pp := mpos_at hpm hp
    have pq := mpos_at hpm hqn
    refine mR 2 rfl trivial ?_
    refine mbGe _ _ rfl (by omega) (by omega) (fun h => by omega) (fun _ => ?_)
    refine mR 12 rfl (mA2 (by rw [nI_add]; exact mI (by omega)) (by rw [nI_add]; exact mI (by omega))) ?_
    rw [nI_add, nI_add, nI_cl (a := at0 + p) (by omega), nI_cl (a := at0 + q) (by omega), r31, r31, hf p hp, hf q hqn]
    have e1 : nI (f p) * 6 + nI (f q) = nI (6 * f p + f q) := by rw [show (6 : Int32) = nI 6 from rfl, pk_mul, nI_add, Nat.mul_comm]
    have e2 : nI (f q) * 6 + nI (f p) = nI (6 * f q + f p) := by rw [show (6 : Int32) = nI 6 from rfl, pk_mul, nI_add, Nat.mul_comm]
    have v1 : aVl n w f S p q (f p) (f q) = S (f p) (f q) := if_neg (by unfold aDn; rw [pp, pq]; omega)
    have v2 : aVl n w f S p q (f q) (f p) = S (f q) (f p) := if_neg (by unfold aDn; rw [pp, pq]; omega)
    refine mR 12 rfl (mA2 (by rw [e1]; exact mI (by omega)) (by rw [e1]; exact mI (by omega))) ?_
    rw [e1, nI_cl (a := 6 * f p + f q) (by omega), hi _ _ lp lq hne, v1, bW_or]
    obtain ⟨c2, hc2⟩ : ∃ c2, c2 = mx_up c1 23 (6 * f p + f q) (nI (bW (S (f p) (f q)) w true)) := ⟨_, rfl⟩
    rw [← hc2]
    have g2 : c2 23 (6 * f q + f p) = nI (S (f q) (f p)) := by rw [hc2, mx_up_ix _ _ _ _ _ _ (by omega), hi _ _ lq lp (fun e => hne e.symm), v2]
    refine mR 14 rfl (mA2 (by rw [e2]; exact mI (by omega)) (by rw [e2]; exact mI (by omega))) ?_
    rw [e2, nI_cl (a := 6 * f q + f p) (by omega), g2, bW_an (hS _ _ lq lp (fun e => hne e.symm)) hw]
    refine mR 2 rfl trivial ?_
    rw [nI_1]
    refine mW (lp_Ba_castAbove21_31_in hn hw hp hat hpm hf hS hk u (q + 1) _ (by omega) (by omega) (mfr_up (by rw [hc2]; exact mfr_up hfr (by decide)) (by decide)) (fun x y hx hy hxy => ?_)) ⟨Or.inr rfl, Or.inr rfl, Or.inr rfl, Or.inr rfl, Or.inr rfl, Or.inr rfl, Or.inr rfl, Or.inl rfl, Or.inl rfl, trivial⟩ rfl rfl
    by_cases ea : x = f q ∧ y = f p
    · rw [ea.1, ea.2, mx_up_same]
      congr 1
      unfold aVl
      rw [if_pos (by unfold aDn; rw [pp, pq]; omega), show gV n f (f q) (f p) = false from decide_eq_false (by rw [pp, pq]; omega)]
    · rw [mx_up_ix _ _ _ _ _ _ (by omega), hc2]
      by_cases eb : x = f p ∧ y = f q
      · rw [eb.1, eb.2, mx_up_same]
        congr 1
        unfold aVl
        rw [if_pos (by unfold aDn; rw [pp, pq]; omega), show gV n f (f p) (f q) = true from decide_eq_true (by rw [pp, pq]; omega)]
      · rw [mx_up_ix _ _ _ _ _ _ (by omega), hi x y hx hy hxy]
        congr 1
        unfold aVl
        congr 1
        unfold aDn
        have nx := mpos_lt hpm hx
        have ny := mpos_lt hpm hy
        have a1 : ¬ (mpos f n x = q ∧ mpos f n y = p) := fun z => ea ⟨by rw [← nx.2, z.1], by rw [← ny.2, z.2]⟩
        have a2 : ¬ (mpos f n x = p ∧ mpos f n y = q) := fun z => eb ⟨by rw [← nx.2, z.1], by rw [← ny.2, z.2]⟩
        exact propext (by omega)
theorem lp_Ba_castAbove21_31 {Q : Option Value → mx_M → Prop} {c : mx_M} {n at0 w : Nat} {f : Nat → Nat} {S : Nat → Nat → Nat} (hn : n ≤ 6) (hw : w < 9) (hat : at0 + n ≤ 6) (hpm : mperm n f) (hf : ∀ p, p < n → c 31 (at0 + p) = nI (f p)) (hS : ∀ x y, x < n → y < n → x ≠ y → S x y < 512) (hq : ∀ c', mfr [23] c c' → (∀ x y, x < n → y < n → x ≠ y → c' 23 (6 * x + y) = nI (aVl n w f S n (n + 1) x y)) → Q none c') :
    ∀ (u p : Nat) (c1 : mx_M), p + u = n → mfr [23] c c1 → (∀ x y, x < n → y < n → x ≠ y → c1 23 (6 * x + y) = nI (aVl n w f S p (p + 1) x y)) → mx_E 0 2 m_Ba_castAbove Q 2 [.ref 21, .ref 31, .int (nI at0), .int (nI n), .int (nI (2 ^ w)), .int (nI p), .null, .null, .null] [] c1
  | 0, p, c1, h, hfr, hi => by
    have e : p = n := by omega
    subst e
    refine mR 2 rfl trivial ?_
    refine mbGe _ _ rfl (by omega) (by omega) (fun _ => ?_) (fun h => by omega)
    exact mx_E_vret rfl rfl (hq c1 hfr hi)
  | u + 1, p, c1, h, hfr, hi => by
    refine mR 2 rfl trivial ?_
    refine mbGe _ _ rfl (by omega) (by omega) (fun h => by omega) (fun _ => ?_)
    refine mR 4 rfl trivial ?_
    rw [nI_1]
    exact lp_Ba_castAbove21_31_in hn hw (by omega) hat hpm hf hS (fun c2 hf2 h2 => lp_Ba_castAbove21_31 hn hw hat hpm hf hS hq u (p + 1) c2 (by omega) hf2 h2) (n - (p + 1)) (p + 1) c1 (by omega) (by omega) hfr hi
theorem sp_Ba_castAbove21_31 (c : mx_M) {n at0 w : Nat} {f : Nat → Nat} {S : Nat → Nat → Nat} (hn : n ≤ 6) (hw : w < 9) (hat : at0 + n ≤ 6) (hpm : mperm n f) (hf : ∀ p, p < n → c 31 (at0 + p) = nI (f p)) (hS : ∀ x y, x < n → y < n → x ≠ y → c 23 (6 * x + y) = nI (S x y) ∧ S x y < 512) : mx_Spec 0 2 m_Ba_castAbove [.ref 21, .ref 31, .int (nI at0), .int (nI n), .int (nI (2 ^ w))] c (fun r c' => r = none ∧ mfr [23] c c' ∧ ∀ x y, x < n → y < n → x ≠ y → c' 23 (6 * x + y) = nI (bW (S x y) w (gV n f x y))) := by
  refine mx_Spec_E rfl rfl rfl ?_
  refine mR 2 rfl trivial ?_
  refine lp_Ba_castAbove21_31 hn hw hat hpm hf (fun x y hx hy hxy => (hS x y hx hy hxy).2) (fun c' h1 h2 => ⟨rfl, h1, fun x y hx hy hxy => ?_⟩) n 0 c (by omega) (mfr_rf _ _) (fun x y hx hy hxy => ?_)
  · rw [(hS x y hx hy hxy).1, ← aVl_p0 hpm hx hy hxy, aVl_0]
  · rw [h2 x y hx hy hxy]
    congr 1
    have nx := mpos_lt hpm hx
    have ny := mpos_lt hpm hy
    exact if_pos (by unfold aDn; omega)
