/-- all of the first k -/
def mAll (p : Nat → Bool) : Nat → Bool
  | 0 => true
  | k + 1 => mAll p k && p k
theorem mAll_iff {p : Nat → Bool} : ∀ {k : Nat}, mAll p k = true ↔ ∀ j, j < k → p j = true
  | 0 => ⟨fun _ j hj => absurd hj (Nat.not_lt_zero j), fun _ => rfl⟩
  | k + 1 => by
    show (mAll p k && p k) = true ↔ _
    rw [Bool.and_eq_true, mAll_iff]
    constructor
    · intro h j hj
      rcases Nat.lt_or_ge j k with h1 | h1
      · exact h.1 j h1
      · have e : j = k := by omega
        rw [e]
        exact h.2
    · intro h
      exact ⟨fun j hj => h j (by omega), h k (by omega)⟩
/-- of a set: x beats y if x is of it and y isn't -/
def tpC (B : Nat → Nat → Bool) (s x y : Nat) : Bool := !(s.testBit x) || (s.testBit y || B x y)
def tpIs (B : Nat → Nat → Bool) (n s : Nat) : Bool := mAll (fun x => mAll (fun y => tpC B s x y) n) n
/-- the smallest set so, of those below k; the first of them -/
def tpS (B : Nat → Nat → Bool) (n : Nat) : Nat → Nat
  | 0 => 2 ^ n - 1
  | k + 1 => if 0 < k ∧ tpIs B n k = true ∧ mpop k < mpop (tpS B n k) then k else tpS B n k
theorem tpS_lt {B : Nat → Nat → Bool} {n : Nat} (hn : mn n) : ∀ k, k ≤ 2 ^ n → 0 < tpS B n k ∧ tpS B n k < 64
  | 0, _ => by
    show 0 < 2 ^ n - 1 ∧ 2 ^ n - 1 < 64
    rcases mn_cases hn with rfl | rfl | rfl | rfl | rfl <;> decide
  | k + 1, h => by
    have ih := tpS_lt (B := B) hn k (by omega)
    have h64 : 2 ^ n ≤ 64 := by rcases mn_cases hn with rfl | rfl | rfl | rfl | rfl <;> decide
    show 0 < (if 0 < k ∧ tpIs B n k = true ∧ mpop k < mpop (tpS B n k) then k else tpS B n k) ∧ (if 0 < k ∧ tpIs B n k = true ∧ mpop k < mpop (tpS B n k) then k else tpS B n k) < 64
    split
    · rename_i h1
      exact ⟨h1.1, by omega⟩
    · exact ih
theorem tpC_self (B : Nat → Nat → Bool) (s x : Nat) : tpC B s x x = true := by
  unfold tpC
  cases s.testBit x <;> rfl
theorem lp_Mo_isTop_in {Q : Option Value → mx_M → Prop} {c : mx_M} {B : Nat → Nat → Bool} {n s x : Nat} (hn : n ≤ 6) (hs : s < 64) (hx : x < n) (h8 : c 0 8 = nI n) (hB : ∀ x y, x < n → y < n → x ≠ y → c 11 (6 * x + y) = mz (B x y)) {is0 : Bool} (hk : mx_E 1 2 m_Mo_isTop Q 4 [.ref 0, .int (nI s), .int (mz (is0 && mAll (fun y => tpC B s x y) n)), .int (nI (x + 1)), .null] [] c) :
    ∀ (u y : Nat), y + u = n → mx_E 1 2 m_Mo_isTop Q 10 [.ref 0, .int (nI s), .int (mz (is0 && mAll (fun y => tpC B s x y) y)), .int (nI x), .int (nI y)] [] c
  | 0, y, h => by
    have e : y = n := by omega
    subst e
    refine mR 3 rfl trivial ?_
    rw [h8]
    refine mbGe _ _ rfl (by omega) (by omega) (fun _ => ?_) (fun h => by omega)
    refine mR 2 rfl trivial ?_
    exact mW hk ⟨Or.inr rfl, Or.inr rfl, Or.inr rfl, Or.inr (by rw [nI_1]), Or.inl rfl, trivial⟩ rfl rfl
  | u + 1, y, h => by
    have nxt : ∀ t : Bool, t = (is0 && mAll (fun y => tpC B s x y) (y + 1)) → mx_E 1 2 m_Mo_isTop Q 36 [.ref 0, .int (nI s), .int (mz (is0 && mAll (fun y => tpC B s x y) y)), .int (nI x), .int (nI y)] [.int (mz t)] c := by
      intro t ht
      refine mR 3 rfl trivial ?_
      refine mS (lp_Mo_isTop_in hn hs hx h8 hB hk u (y + 1) (by omega)) ?_ rfl rfl
      rw [← ht, nI_1]
    have hst : (is0 && mAll (fun y => tpC B s x y) (y + 1)) = ((is0 && mAll (fun y => tpC B s x y) y) && tpC B s x y) := by
      show (is0 && (mAll (fun y => tpC B s x y) y && tpC B s x y)) = _
      rw [Bool.and_assoc]
    refine mR 3 rfl trivial ?_
    rw [h8]
    refine mbGe _ _ rfl (by omega) (by omega) (fun h => by omega) (fun _ => ?_)
    refine mR 1 rfl trivial ?_
    refine mbT rfl (fun hb => ?_) (fun hb => ?_)
    · refine mR 1 rfl trivial ?_
      exact nxt false (by rw [hst, hb]; rfl)
    · refine mR 2 rfl trivial ?_
      refine mx_E_callS (sp_Mo_has _ s x (by omega) (by omega)) rfl rfl rfl (fun r c1 hr => ?_)
      obtain ⟨rfl, hz⟩ := hr
      rw [hz]
      refine mbT rfl (fun h1 => ?_) (fun h1 => ?_)
      · refine mR 2 rfl trivial ?_
        exact nxt true (by rw [hst, hb]; unfold tpC; rw [h1]; rfl)
      · refine mR 2 rfl trivial ?_
        refine mx_E_callS (sp_Mo_has _ s y (by omega) (by omega)) rfl rfl rfl (fun r c1 hr => ?_)
        obtain ⟨rfl, hz⟩ := hr
        rw [hz]
        refine mbF rfl (fun h2 => ?_) (fun h2 => ?_)
        · refine mR 2 rfl trivial ?_
          exact nxt true (by rw [hst, hb]; unfold tpC; rw [h1, h2]; rfl)
        · refine mR 8 rfl (mA1 (by rw [ix6]; exact mI (by omega))) ?_
          have hne : x ≠ y := fun e => by rw [e, h2] at h1; cases h1
          rw [ix6, nI_cl (by omega), hB x y hx (by omega) hne]
          refine mbT rfl (fun h3 => ?_) (fun h3 => ?_)
          · refine mR 1 rfl trivial ?_
            exact nxt false (by rw [hst, hb]; unfold tpC; rw [h1, h2, h3]; rfl)
          · refine mR 2 rfl trivial ?_
            exact nxt true (by rw [hst, hb]; unfold tpC; rw [h1, h2, h3]; rfl)
theorem lp_Mo_isTop {Q : Option Value → mx_M → Prop} {c : mx_M} {B : Nat → Nat → Bool} {n s : Nat} (hn : n ≤ 6) (hs : s < 64) (h8 : c 0 8 = nI n) (hB : ∀ x y, x < n → y < n → x ≠ y → c 11 (6 * x + y) = mz (B x y)) (hq : Q (some (.int (mz (tpIs B n s)))) c) :
    ∀ (u x : Nat), x + u = n → mx_E 1 2 m_Mo_isTop Q 4 [.ref 0, .int (nI s), .int (mz (mAll (fun x => mAll (fun y => tpC B s x y) n) x)), .int (nI x), .null] [] c
  | 0, x, h => by
    have e : x = n := by omega
    subst e
    refine mR 3 rfl trivial ?_
    rw [h8]
    refine mbGe _ _ rfl (by omega) (by omega) (fun _ => ?_) (fun h => by omega)
    refine mR 1 rfl trivial ?_
    exact mx_E_zret rfl rfl (mz_01 _) hq
  | u + 1, x, h => by
    refine mR 3 rfl trivial ?_
    rw [h8]
    refine mbGe _ _ rfl (by omega) (by omega) (fun h => by omega) (fun _ => ?_)
    refine mR 2 rfl trivial ?_
    have z := lp_Mo_isTop_in (is0 := mAll (fun x => mAll (fun y => tpC B s x y) n) x) hn hs (show x < n by omega) h8 hB (lp_Mo_isTop hn hs h8 hB hq u (x + 1) (by omega)) n 0 (by omega)
    refine mS z ?_ rfl rfl
    rw [show mAll (fun y => tpC B s x y) 0 = true from rfl, Bool.and_true]
    rfl
theorem sp_Mo_isTop (c : mx_M) {B : Nat → Nat → Bool} {n s : Nat} (hn : n ≤ 6) (hs : s < 64) (h8 : c 0 8 = nI n) (hB : ∀ x y, x < n → y < n → x ≠ y → c 11 (6 * x + y) = mz (B x y)) : mx_Spec 1 2 m_Mo_isTop [.ref 0, .int (nI s)] c (fun r c' => r = some (.int (mz (tpIs B n s))) ∧ c' = c) := by
  refine mx_Spec_E rfl rfl rfl ?_
  refine mR 4 rfl trivial ?_
  exact lp_Mo_isTop hn hs h8 hB ⟨rfl, rfl⟩ n 0 (by omega)
theorem lp_Mo_top {Q : Option Value → mx_M → Prop} {c : mx_M} {B : Nat → Nat → Bool} {n : Nat} (hn : mn n) (h8 : c 0 8 = nI n) (hB : ∀ x y, x < n → y < n → x ≠ y → c 11 (6 * x + y) = mz (B x y)) (hq : Q (some (.int (nI (tpS B n (2 ^ n))))) c) :
    ∀ (u k : Nat), 1 ≤ k → k + u = 2 ^ n → mx_E 1 4 m_Mo_top Q 13 [.ref 0, .int (nI (tpS B n k)), .int (nI k)] [] c
  | 0, k, h1, h => by
    have h6 := hn.2
    have h64 : 2 ^ n ≤ 64 := by rcases mn_cases hn with rfl | rfl | rfl | rfl | rfl <;> decide
    have e : k = 2 ^ n := by omega
    rw [e]
    refine mR 5 rfl trivial ?_
    rw [h8, nI_shl1 (by omega)]
    refine mbGe _ _ rfl (by omega) (by omega) (fun _ => ?_) (fun h => by omega)
    refine mR 1 rfl trivial ?_
    exact mx_E_iret rfl rfl hq
  | u + 1, k, h1, h => by
    have h6 := hn.2
    have h64 : 2 ^ n ≤ 64 := by rcases mn_cases hn with rfl | rfl | rfl | rfl | rfl <;> decide
    obtain ⟨l1, l2⟩ := tpS_lt (B := B) hn k (by omega)
    have hs : tpS B n (k + 1) = if 0 < k ∧ tpIs B n k = true ∧ mpop k < mpop (tpS B n k) then k else tpS B n k := rfl
    have hp1 := mpop_le k
    have hp2 := mpop_le (tpS B n k)
    refine mR 5 rfl trivial ?_
    rw [h8, nI_shl1 (by omega)]
    refine mbGe _ _ rfl (by omega) (by omega) (fun h => by omega) (fun _ => ?_)
    have nxt : ∀ v : Nat, v = tpS B n (k + 1) → mx_E 1 4 m_Mo_top Q 31 [.ref 0, .int (nI (tpS B n k)), .int (nI k)] [.int (nI v)] c := by
      intro v hv
      refine mR 3 rfl trivial ?_
      refine mS (lp_Mo_top hn h8 hB hq u (k + 1) (by omega) (by omega)) ?_ rfl rfl
      rw [← hv, nI_1]
    refine mR 2 rfl trivial ?_
    refine mx_E_callV (sp_Mo_isTop _ h6 (by omega) h8 hB) rfl rfl rfl (fun r c1 hr => ?_)
    obtain ⟨rfl, hz⟩ := hr
    rw [hz]
    refine mbT rfl (fun hb => ?_) (fun hb => ?_)
    · refine mR 1 rfl trivial ?_
      exact nxt _ (by rw [hs, if_neg (fun z => by rw [hb] at z; exact absurd z.2.1 (by decide))])
    · refine mR 1 rfl trivial ?_
      refine mx_E_callS (sp_Mo_ones _ k (by omega)) rfl rfl rfl (fun r c1 hr => ?_)
      obtain ⟨rfl, hz⟩ := hr
      rw [hz]
      refine mR 1 rfl trivial ?_
      refine mx_E_callS (sp_Mo_ones _ (tpS B n k) (by omega)) rfl rfl rfl (fun r c1 hr => ?_)
      obtain ⟨rfl, hz⟩ := hr
      rw [hz]
      refine mbGe _ _ rfl (by omega) (by omega) (fun hc => ?_) (fun hc => ?_)
      · refine mR 1 rfl trivial ?_
        exact nxt _ (by rw [hs, if_neg (fun z => by omega)])
      · refine mR 2 rfl trivial ?_
        exact nxt _ (by rw [hs, if_pos ⟨by omega, hb, hc⟩])
/-- who beats whom, all being there -/
def aB (a : mSt) (x y : Nat) : Bool := mbeat (mall a) a.1.2 a.1.1 a.2.1.1 x y
def aTop (a : mSt) : Nat := tpS (aB a) a.1.1 (2 ^ a.1.1)
theorem aTop_lt {a : mSt} (hn : mn a.1.1) : 0 < aTop a ∧ aTop a < 64 := tpS_lt hn _ (Nat.le_refl _)
theorem sp_Mo_top (c : mx_M) {a : mSt} (h : rI c a) (h23 : c 0 23 = nI (mall a)) : mx_Spec 1 4 m_Mo_top [.ref 0] c (fun r c' => r = some (.int (nI (aTop a))) ∧ mfr [11] c c') := by
  obtain ⟨h8, h9, hn, hm⟩ := h.1
  have h6 := hn.2
  have h64 : 2 ^ a.1.1 ≤ 64 := Nat.le_trans (Nat.pow_le_pow_right (show 0 < 2 by decide) h6) (by decide)
  refine mx_Spec_E rfl rfl rfl ?_
  refine mR 3 rfl trivial ?_
  refine mx_E_callV (sp_Mo_beatsBy3 _ (rI_V h h23 (pw_lt hm))) rfl rfl rfl (fun r c1 hr => ?_)
  obtain ⟨rfl, hf, hB⟩ := hr
  have g8 : c1 0 8 = nI a.1.1 := by rw [hf 0 (by decide)]; exact h8
  refine mR 9 rfl trivial ?_
  rw [g8, pw1 (by omega)]
  have hp := Nat.two_pow_pos a.1.1
  exact lp_Mo_top (B := aB a) hn g8 hB ⟨rfl, hf⟩ (2 ^ a.1.1 - 1) 1 (by omega) (by omega)
theorem lowbit0 : ∀ s, s < 64 → 0 < s → fa_first (fun i => s.testBit i) 6 < 6 := by decide +kernel
theorem lowbit (s : Nat) (h : 0 < s) (h2 : s < 64) : fa_first (fun i => s.testBit i) 6 < 6 := lowbit0 s h2 h
theorem lp_Mo_now {Q : Option Value → mx_M → Prop} {c : mx_M} {s : Nat} {v : Int32} (h0 : 0 < s) (hs : s < 64) (hq : Q (some (.int (if mpop s = 1 then nI (fa_first (fun i => s.testBit i) 6) else -9))) c) :
    ∀ (u k : Nat), k + u = fa_first (fun i => s.testBit i) 6 → mx_E 1 6 m_Mo_now Q 46 [.ref 0, .int v, .int (nI s), .int (nI k)] [] c
  | 0, k, h => by
    have hl := lowbit s h0 hs
    have hy := fa_first_yes (fun i => s.testBit i) 6 hl
    have e : k = fa_first (fun i => s.testBit i) 6 := by omega
    rw [e]
    have hp := mpop_le s
    refine mR 2 rfl trivial ?_
    refine mx_E_callS (sp_Mo_has _ s _ (by omega) (by omega)) rfl rfl rfl (fun r c1 hr => ?_)
    obtain ⟨rfl, hz⟩ := hr
    rw [hz, hy]
    refine mbF rfl (fun _ => ?_) (fun h => by cases h)
    refine mR 1 rfl trivial ?_
    refine mx_E_callS (sp_Mo_ones _ s (by omega)) rfl rfl rfl (fun r c1 hr => ?_)
    obtain ⟨rfl, hz⟩ := hr
    rw [hz]
    refine mR 1 rfl trivial ?_
    rw [show (1 : Int32) = nI 1 from rfl]
    refine mbNe _ _ rfl (by omega) (by omega) (fun hc => ?_) (fun hc => ?_)
    · refine mR 1 rfl trivial ?_
      rw [if_neg hc] at hq
      exact mx_E_iret rfl rfl hq
    · refine mR 2 rfl trivial ?_
      rw [if_pos hc] at hq
      exact mx_E_iret rfl rfl hq
  | u + 1, k, h => by
    have hl := lowbit s h0 hs
    have hno := fa_first_no (fun i => s.testBit i) 6 k (by omega)
    refine mR 2 rfl trivial ?_
    refine mx_E_callS (sp_Mo_has _ s k (by omega) (by omega)) rfl rfl rfl (fun r c1 hr => ?_)
    obtain ⟨rfl, hz⟩ := hr
    rw [hz, hno]
    refine mbF rfl (fun h => by cases h) (fun _ => ?_)
    refine mR 2 rfl trivial ?_
    rw [nI_1]
    exact lp_Mo_now h0 hs hq u (k + 1) (by omega)
def aNow (a : mSt) (x : Int32) : Int32 × mSt := ((if x = 0 then nI (aD a) else if x = 1 then nI (aTop a) else if x = 2 then (if mpop (aTop a) = 1 then nI (fa_first (fun i => (aTop a).testBit i) 6) else -9) else if x = 3 then nI (aOut a 0 a.2.1) else if x = 4 then nI (aOut a 1 a.2.1) else if x = 5 then nI a.2.2.2.2.1.1 else -1), a)
theorem qr_now {c : mx_M} {a : mSt} (x : Int32) (h : rI c a) : mx_Spec 1 6 m_Mo_now [.ref 0, .int x] c (fun r c' => r = some (.int (aNow a x).1) ∧ rI c' (aNow a x).2) := by
  have h0 := rI_0 0 h
  have hn := h0.1.2.2.1
  have hm := h0.1.2.2.2
  refine mx_Spec_E rfl rfl rfl ?_
  refine mR 6 rfl trivial ?_
  refine mx_E_callS (sp_Mo_in _ _ _ _) rfl rfl rfl (fun r c1 hr => ?_)
  obtain ⟨rfl, hz⟩ := hr
  rw [hz, show decide ((0 : Int32) ≤ x ∧ x ≤ 5) = mi x 6 from in_mk x 5 (by decide)]
  refine mbF rfl (fun hb => ?_) (fun hb => ?_)
  · obtain ⟨j, hj, rfl⟩ := mi_of (by omega) hb
    refine mR 1 rfl trivial ?_
    refine mx_E_callV (sp_Mo_all _ _ h0.1.2.1 hm) rfl rfl rfl (fun r c1 hr => ?_)
    obtain ⟨rfl, hc1⟩ := hr
    have hI1 : rI c1 a := by rw [hc1]; exact rI_all h0
    have g23 : c1 0 23 = nI (mall a) := by rw [hc1, mx_up_same]; rfl
    have hV := rI_V hI1 g23 (pw_lt hm)
    refine mR 2 rfl trivial ?_
    rcases (show j = 0 ∨ j = 1 ∨ j = 2 ∨ j = 3 ∨ j = 4 ∨ j = 5 by omega) with rfl | rfl | rfl | rfl | rfl | rfl
    · refine mx_E_br rfl rfl (fun _ => ?_) (fun h => absurd (by decide) h)
      refine mR 1 rfl trivial ?_
      refine mx_E_br rfl rfl (fun h => absurd rfl h) (fun _ => ?_)
      refine mR 4 rfl (mA1 (mI (n := 54) (by decide))) ?_
      rw [c54, (rI_W hI1).2.2.1]
      exact mx_E_iret rfl rfl ⟨rfl, hI1⟩
    · refine mx_E_br rfl rfl (fun _ => ?_) (fun h => absurd (by decide) h)
      refine mR 1 rfl trivial ?_
      refine mx_E_br rfl rfl (fun _ => ?_) (fun h => absurd (by decide) h)
      refine mR 1 rfl trivial ?_
      refine mx_E_callV (sp_Mo_top _ hI1 g23) rfl rfl rfl (fun r c2 hr => ?_)
      obtain ⟨rfl, hf⟩ := hr
      have hI2 := rI_fr hI1 (mfr_mo hf (by decide))
      refine mR 3 rfl trivial ?_
      refine mx_E_br rfl rfl (fun h => absurd rfl h) (fun _ => ?_)
      refine mR 1 rfl trivial ?_
      exact mx_E_iret rfl rfl ⟨rfl, hI2⟩
    · refine mx_E_br rfl rfl (fun _ => ?_) (fun h => absurd (by decide) h)
      refine mR 1 rfl trivial ?_
      refine mx_E_br rfl rfl (fun _ => ?_) (fun h => absurd (by decide) h)
      refine mR 1 rfl trivial ?_
      refine mx_E_callV (sp_Mo_top _ hI1 g23) rfl rfl rfl (fun r c2 hr => ?_)
      obtain ⟨rfl, hf⟩ := hr
      have hI2 := rI_fr hI1 (mfr_mo hf (by decide))
      refine mR 3 rfl trivial ?_
      refine mx_E_br rfl rfl (fun _ => ?_) (fun h => absurd (by decide) h)
      refine mR 2 rfl trivial ?_
      exact lp_Mo_now (aTop_lt hn).1 (aTop_lt hn).2 ⟨rfl, hI2⟩ _ 0 (Nat.zero_add _)
    · refine mx_E_br rfl rfl (fun h => absurd h (by decide)) (fun _ => ?_)
      refine mR 2 rfl trivial ?_
      refine mx_E_br rfl rfl (fun _ => ?_) (fun h => absurd (by decide) h)
      refine mR 6 rfl trivial ?_
      refine mx_E_callV (sp_Mo_outcome3 (w := 0) _ hV (by decide)) rfl rfl rfl (fun r c2 hr => ?_)
      obtain ⟨rfl, hf⟩ := hr
      exact mx_E_iret rfl rfl ⟨rfl, rI_fr hI1 (mfr_mo hf (by decide))⟩
    · refine mx_E_br rfl rfl (fun h => absurd h (by decide)) (fun _ => ?_)
      refine mR 2 rfl trivial ?_
      refine mx_E_br rfl rfl (fun _ => ?_) (fun h => absurd (by decide) h)
      refine mR 6 rfl trivial ?_
      refine mx_E_callV (sp_Mo_outcome3 (w := 1) _ hV (by decide)) rfl rfl rfl (fun r c2 hr => ?_)
      obtain ⟨rfl, hf⟩ := hr
      exact mx_E_iret rfl rfl ⟨rfl, rI_fr hI1 (mfr_mo hf (by decide))⟩
    · refine mx_E_br rfl rfl (fun h => absurd h (by decide)) (fun _ => ?_)
      refine mR 2 rfl trivial ?_
      refine mx_E_br rfl rfl (fun h => absurd rfl h) (fun _ => ?_)
      refine mR 3 rfl trivial ?_
      rw [hI1.2.2.2.2.1.1]
      exact mx_E_iret rfl rfl ⟨rfl, hI1⟩
  · refine mR 1 rfl trivial ?_
    refine mx_E_iret rfl rfl ⟨?_, h0⟩
    have q : ∀ j : Nat, j < 6 → ¬ x = nI j := fun j hj e => by
      rw [e, mi_t hj (by decide)] at hb
      cases hb
    unfold aNow
    rw [if_neg (show ¬ x = 0 from q 0 (by decide)), if_neg (show ¬ x = 1 from q 1 (by decide)), if_neg (show ¬ x = 2 from q 2 (by decide)), if_neg (show ¬ x = 3 from q 3 (by decide)), if_neg (show ¬ x = 4 from q 4 (by decide)), if_neg (show ¬ x = 5 from q 5 (by decide))]
