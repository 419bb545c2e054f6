/-- a ranking with a motion put first -/
def mpf (f : Nat → Nat) (n x : Nat) : Nat → Nat := fun p => if p = 0 then x else if p ≤ mpos f n x then f (p - 1) else f p
theorem mpf_perm {n x : Nat} {f : Nat → Nat} (h : mperm n f) (hx : x < n) : mperm n (mpf f n x) := by
  obtain ⟨hp, he⟩ := mpos_lt h hx
  have key : ∀ p, p < n → mpf f n x p = f (if p = 0 then mpos f n x else if p ≤ mpos f n x then p - 1 else p) := by
    intro p hpn
    unfold mpf
    by_cases h1 : p = 0
    · rw [if_pos h1, if_pos h1, he]
    · rw [if_neg h1, if_neg h1]
      by_cases h2 : p ≤ mpos f n x
      · rw [if_pos h2, if_pos h2]
      · rw [if_neg h2, if_neg h2]
  have rng : ∀ p, p < n → (if p = 0 then mpos f n x else if p ≤ mpos f n x then p - 1 else p) < n := by
    intro p hpn
    split
    · exact hp
    · split <;> omega
  refine ⟨fun p hpn => by rw [key p hpn]; exact h.1 _ (rng p hpn), fun p q hpn hqn e => ?_⟩
  rw [key p hpn, key q hqn] at e
  have e2 := h.2 _ _ (rng p hpn) (rng q hqn) e
  by_cases p1 : p = 0
  · rw [if_pos p1] at e2
    by_cases q1 : q = 0
    · omega
    · rw [if_neg q1] at e2
      by_cases q2 : q ≤ mpos f n x
      · rw [if_pos q2] at e2; omega
      · rw [if_neg q2] at e2; omega
  · rw [if_neg p1] at e2
    by_cases p2 : p ≤ mpos f n x
    · rw [if_pos p2] at e2
      by_cases q1 : q = 0
      · rw [if_pos q1] at e2; omega
      · rw [if_neg q1] at e2
        by_cases q2 : q ≤ mpos f n x
        · rw [if_pos q2] at e2; omega
        · rw [if_neg q2] at e2; omega
    · rw [if_neg p2] at e2
      by_cases q1 : q = 0
      · rw [if_pos q1] at e2; omega
      · rw [if_neg q1] at e2
        by_cases q2 : q ≤ mpos f n x
        · rw [if_pos q2] at e2; omega
        · rw [if_neg q2] at e2; omega
theorem lp_Mo_putsFirst {Q : Option Value → mx_M → Prop} {c : mx_M} {n i x p0 : Nat} {f : Nat → Nat} (hn : n ≤ 6) (hi : i < 9) (hx : x < n) (hp0 : p0 < n) (hq : ∀ c', mfr [4] c c' → (∀ q, q < n → c' 4 (6 * i + q) = nI (if q = 0 then x else if q ≤ p0 then f (q - 1) else f q)) → (∀ z, (z < 6 * i ∨ 6 * i + n ≤ z) → c' 4 z = c 4 z) → Q none c') :
    ∀ (p : Nat) (c1 : mx_M), p ≤ p0 → mfr [4] c c1 → (∀ q, q < n → c1 4 (6 * i + q) = nI (if p < q ∧ q ≤ p0 then f (q - 1) else f q)) → (∀ z, (z < 6 * i ∨ 6 * i + n ≤ z) → c1 4 z = c 4 z) → mx_E 1 2 m_Mo_putsFirst Q 6 [.ref 0, .ref 4, .int (nI i), .int (nI x), .int (nI p)] [] c1
  | 0, c1, hp, hf, hv, ho => by
    refine mR 1 rfl trivial ?_
    refine mx_E_br rfl rfl (fun _ => ?_) (fun h => absurd (by decide) h)
    refine mR 6 rfl (mA1 (by rw [show (6 : Int32) = nI 6 from rfl, pk_mul]; exact mI (by omega))) ?_
    rw [show (6 : Int32) = nI 6 from rfl, pk_mul, nI_cl (a := 6 * i) (by omega)]
    refine mx_E_vret rfl rfl (hq _ (mfr_up hf (by decide)) (fun q hqn => ?_) (fun z hz => ?_))
    · by_cases e : q = 0
      · rw [if_pos e, e, Nat.add_zero, mx_up_same]
      · rw [if_neg e, mx_up_ix _ _ _ _ _ _ (by omega), hv q hqn]
        by_cases e2 : q ≤ p0
        · rw [if_pos ⟨by omega, e2⟩, if_pos e2]
        · rw [if_neg (fun z => e2 z.2), if_neg e2]
    · rw [mx_up_ix _ _ _ _ _ _ (by omega)]
      exact ho z hz
  | p + 1, c1, hp, hf, hv, ho => by
    refine mR 1 rfl trivial ?_
    refine mx_E_br rfl rfl (fun h => absurd h (nI_nle (by omega) (by omega))) (fun _ => ?_)
    have e1 : (6 : Int32) * nI i + nI (p + 1) = nI (6 * i + (p + 1)) := ix6 i (p + 1)
    have e2 : nI (6 * i + (p + 1)) - 1 = nI (6 * i + p) := nI_p1 (6 * i + p)
    refine mR 18 rfl (mA2 (by rw [e1, e2]; exact mI (by omega)) (by rw [e1]; exact mI (by omega))) ?_
    rw [e1, e2, nI_cl (a := 6 * i + p) (by omega), nI_cl (a := 6 * i + (p + 1)) (by omega), nI_m1, nI_p1, hv p (by omega), if_neg (by omega)]
    refine lp_Mo_putsFirst hn hi hx hp0 hq p _ (by omega) (mfr_up hf (by decide)) (fun q hqn => ?_) (fun z hz => ?_)
    · by_cases e : q = p + 1
      · rw [e, mx_up_same, if_pos (by omega), Nat.add_sub_cancel]
      · rw [mx_up_ix _ _ _ _ _ _ (by omega), hv q hqn]
        by_cases e3 : p + 1 < q ∧ q ≤ p0
        · rw [if_pos e3, if_pos (by omega)]
        · rw [if_neg e3, if_neg (by omega)]
    · rw [mx_up_ix _ _ _ _ _ _ (by omega)]
      exact ho z hz
theorem sp_Mo_putsFirst (c : mx_M) {n m i x : Nat} {R : Nat → Nat → Nat} (hn : n ≤ 6) (hm : m ≤ 9) (hi : i < m) (hx : x < n) (hR : rRk (c 4) n m R) (hp : mperm n (R i)) : mx_Spec 1 2 m_Mo_putsFirst [.ref 0, .ref 4, .int (nI i), .int (nI x)] c (fun r c' => r = none ∧ mfr [4] c c' ∧ (∀ q, q < n → c' 4 (6 * i + q) = nI (mpf (R i) n x q)) ∧ ∀ z, (z < 6 * i ∨ 6 * i + n ≤ z) → c' 4 z = c 4 z) := by
  obtain ⟨hpl, -⟩ := mpos_lt hp hx
  refine mx_Spec_E rfl rfl rfl ?_
  refine mR 4 rfl trivial ?_
  refine mx_E_callV (sp_Mo_placeOf4 (w := i) _ hn hi hm hR hp hx) rfl rfl rfl (fun r c1 hr => ?_)
  obtain ⟨rfl, hz⟩ := hr
  rw [hz]
  refine mR 1 rfl trivial ?_
  exact lp_Mo_putsFirst (f := R i) hn (by omega) hx hpl (fun c' h1 h2 h3 => ⟨rfl, h1, h2, h3⟩) (mpos (R i) n x) c (Nat.le_refl _) (mfr_rf _ _) (fun q hqn => by rw [if_neg (by omega)]; exact hR i q hi hqn) (fun z _ => rfl)
/-- some members (bits), of the first k, put a motion first -/
def mRs (R : Nat → Nat → Nat) (n x s k : Nat) : Nat → Nat → Nat := fun j => if j < k ∧ s.testBit j = true then mpf (R j) n x else R j
def wOut (a : mSt) (w x s : Nat) : Nat := aOut a w (mRs a.2.1.1 a.1.1 x s a.1.2, a.2.1.2)
def wW (a : mSt) (w x : Nat) : Nat → Option Nat
  | 0 => none
  | s + 1 => match wW a w x s with
    | none => if wOut a w x s = x then some s else none
    | some z => if mpop s < mpop z ∧ wOut a w x s = x then some s else some z
theorem wW_lt (a : mSt) (w x : Nat) : ∀ s z, wW a w x s = some z → z < s
  | 0, z, h => by cases h
  | s + 1, z, h => by
    unfold wW at h
    split at h
    · split at h
      · cases h; omega
      · cases h
    · rename_i z0 hz
      have := wW_lt a w x s z0 hz
      split at h
      · cases h; omega
      · cases h; omega
def wI (q : Option Nat) : Int32 := match q with
  | none => -9
  | some z => nI z
def aWon (a : mSt) (x w y : Int32) : Int32 × mSt := if mi x a.1.1 && mi w 2 && mi y 2 then ((match wW a w.toNatClampNeg x.toNatClampNeg (2 ^ a.1.2) with
  | none => -9
  | some z => if y = 0 then nI (mpop z) else nI z), a) else mBAD a
theorem mRs_0 (R : Nat → Nat → Nat) (n x s : Nat) : mRs R n x s 0 = R := by
  funext j
  unfold mRs
  rw [if_neg (by omega)]
theorem mRs_s0 {R : Nat → Nat → Nat} {n x s k : Nat} (h : s.testBit k = false) : mRs R n x s (k + 1) = mRs R n x s k := by
  funext j
  unfold mRs
  by_cases e : j = k
  · rw [if_neg (by rw [e, h]; simp), if_neg (by omega)]
  · by_cases e2 : j < k ∧ s.testBit j = true
    · rw [if_pos ⟨by omega, e2.2⟩, if_pos e2]
    · rw [if_neg (fun z => e2 ⟨by omega, z.2⟩), if_neg e2]
theorem mRs_s1 {R : Nat → Nat → Nat} {n x s k : Nat} (h : s.testBit k = true) : mRs R n x s (k + 1) = mRr (mRs R n x s k) k (mpf (R k) n x) := by
  funext j
  unfold mRs mRr
  by_cases e : j = k
  · rw [if_pos ⟨by omega, by rw [e]; exact h⟩, if_pos e, e]
  · rw [if_neg e]
    dsimp only
    by_cases e2 : j < k ∧ s.testBit j = true
    · rw [if_pos ⟨by omega, e2.2⟩, if_pos e2]
    · rw [if_neg (fun z => e2 ⟨by omega, z.2⟩), if_neg e2]
theorem lp_Mo_won_in {Q : Option Value → mx_M → Prop} {a : mSt} {x w y s : Nat} {v : Int32} (hx : x < a.1.1) (hs : s < 512) (hk : ∀ c2, rI c2 a → c2 0 23 = nI (mall a) → rP (c2 4) a.1.1 a.1.2 (mRs a.2.1.1 a.1.1 x s a.1.2, a.2.1.2) → mx_E 1 6 m_Mo_won Q 60 [.ref 0, .int (nI x), .int (nI w), .int (nI y), .int v, .int (nI s), .int (nI a.1.2)] [] c2) :
    ∀ (u p : Nat) (c1 : mx_M), p + u = a.1.2 → rI c1 a → c1 0 23 = nI (mall a) → rP (c1 4) a.1.1 a.1.2 (mRs a.2.1.1 a.1.1 x s p, a.2.1.2) → mx_E 1 6 m_Mo_won Q 44 [.ref 0, .int (nI x), .int (nI w), .int (nI y), .int v, .int (nI s), .int (nI p)] [] c1
  | 0, p, c1, h, hI, h23, hP => by
    obtain ⟨h8, h9, hn, hm⟩ := hI.1
    have e : p = a.1.2 := by omega
    rw [e] at hP
    rw [e]
    refine mR 3 rfl trivial ?_
    rw [h9]
    refine mbGe _ _ rfl (by omega) (by omega) (fun _ => ?_) (fun h => by omega)
    exact hk c1 hI h23 hP
  | u + 1, p, c1, h, hI, h23, hP => by
    obtain ⟨h8, h9, hn, hm⟩ := hI.1
    have h6 := hn.2
    refine mR 3 rfl trivial ?_
    rw [h9]
    refine mbGe _ _ rfl (by omega) (by omega) (fun h => by omega) (fun _ => ?_)
    refine mR 2 rfl trivial ?_
    refine mx_E_callS (sp_Mo_has _ s p (by omega) (by omega)) rfl rfl rfl (fun r c2 hr => ?_)
    obtain ⟨rfl, hz⟩ := hr
    rw [hz]
    refine mbT rfl (fun hb => ?_) (fun hb => ?_)
    · refine mR 2 rfl trivial ?_
      rw [nI_1]
      exact lp_Mo_won_in hx hs hk u (p + 1) c1 (by omega) hI h23 (by rw [mRs_s0 hb]; exact hP)
    · refine mR 5 rfl trivial ?_
      have ep : mRs a.2.1.1 a.1.1 x s p p = a.2.1.1 p := by unfold mRs; rw [if_neg (by omega)]
      refine mx_E_callV (sp_Mo_putsFirst (i := p) _ h6 hm (by omega) hx hP.2.1 (hP.1 p (by omega))) rfl rfl rfl (fun r c2 hr => ?_)
      obtain ⟨rfl, f1, f2, f3⟩ := hr
      have hI2 := rI_fS hI (mfS_of f1 (by decide))
      refine mR 2 rfl trivial ?_
      rw [nI_1]
      refine lp_Mo_won_in hx hs hk u (p + 1) c2 (by omega) hI2 (by rw [f1 0 (by decide)]; exact h23) ?_
      rw [mRs_s1 hb, ← ep]
      exact rP_rr h6 hm (show p < a.1.2 by omega) (mpf_perm (hP.1 p (by omega)) hx) hP f2 (fun z _ hz2 => f3 z hz2)
theorem nI_shm {m : Nat} (h : m ≤ 9) : (1 : Int32) <<< (nI m &&& 31) = nI (2 ^ m) := nI_shl1 (by omega)
theorem pw_le {m : Nat} (h : m ≤ 9) : 2 ^ m ≤ 512 := by
  have := Nat.pow_le_pow_right (show 0 < 2 by decide) h
  omega
theorem lp_Mo_won {Q : Option Value → mx_M → Prop} {a : mSt} {x w y : Nat} (hx : x < a.1.1) (hw : w < 2) (hy : y < 2) (hq : ∀ c', rI c' a → Q (some (.int (match wW a w x (2 ^ a.1.2) with
    | none => -9
    | some z => if nI y = 0 then nI (mpop z) else nI z))) c') :
    ∀ (u s : Nat) (c1 : mx_M), s + u = 2 ^ a.1.2 → rI c1 a → c1 0 23 = nI (mall a) → mx_E 1 6 m_Mo_won Q 23 [.ref 0, .int (nI x), .int (nI w), .int (nI y), .int (wI (wW a w x s)), .int (nI s), .null] [] c1
  | 0, s, c1, h, hI, h23 => by
    obtain ⟨h8, h9, hn, hm⟩ := hI.1
    have hp5 := pw_le hm
    have e : s = 2 ^ a.1.2 := by omega
    rw [e]
    refine mR 5 rfl trivial ?_
    rw [h9, nI_shm hm]
    refine mbGe _ _ rfl (by omega) (by omega) (fun _ => ?_) (fun h => by omega)
    have hq2 := hq _ hI
    refine mR 2 rfl trivial ?_
    cases hz : wW a w x (2 ^ a.1.2) with
    | none =>
      rw [hz] at hq2
      refine mx_E_br rfl rfl (fun _ => ?_) (fun h => absurd rfl h)
      refine mR 2 rfl trivial ?_
      exact mx_E_iret rfl rfl hq2
    | some z =>
      rw [hz] at hq2
      have hzl := wW_lt a w x _ z hz
      refine mx_E_br rfl rfl (fun h => absurd h (kI_ne (by omega))) (fun _ => ?_)
      refine mR 2 rfl trivial ?_
      rcases (show y = 0 ∨ y = 1 by omega) with rfl | rfl
      · refine mx_E_br rfl rfl (fun _ => ?_) (fun h => absurd (by decide) h)
        refine mR 1 rfl trivial ?_
        refine mx_E_callS (sp_Mo_ones _ z (by omega)) rfl rfl rfl (fun r c2 hr => ?_)
        obtain ⟨rfl, hz2⟩ := hr
        rw [hz2]
        exact mx_E_iret rfl rfl hq2
      · refine mx_E_br rfl rfl (fun h => absurd (by decide) h) (fun _ => ?_)
        refine mR 2 rfl trivial ?_
        exact mx_E_iret rfl rfl hq2
  | u + 1, s, c1, h, hI, h23 => by
    obtain ⟨h8, h9, hn, hm⟩ := hI.1
    have hp5 := pw_le hm
    have h6 := hn.2
    have hs5 : s < 512 := by omega
    refine mR 5 rfl trivial ?_
    rw [h9, nI_shm hm]
    refine mbGe _ _ rfl (by omega) (by omega) (fun h => by omega) (fun _ => ?_)
    refine mR 2 rfl trivial ?_
    have es : wW a w x (s + 1) = match wW a w x s with
      | none => if wOut a w x s = x then some s else none
      | some z => if mpop s < mpop z ∧ wOut a w x s = x then some s else some z := rfl
    -- tried, if it may be better
    have tried : (wOut a w x s = x → wW a w x (s + 1) = some s) → (wOut a w x s ≠ x → wW a w x (s + 1) = wW a w x s) → mx_E 1 6 m_Mo_won Q 37 [.ref 0, .int (nI x), .int (nI w), .int (nI y), .int (wI (wW a w x s)), .int (nI s), .null] [] c1 := by
      intro ht hf
      refine mR 4 rfl trivial ?_
      refine mx_E_callS (sp_Mo_copies3 _) rfl rfl rfl (fun r c2 hr => ?_)
      obtain ⟨rfl, hc2⟩ := hr
      have f4 : mfr [4] c1 c2 := fun r hr => by rw [hc2]; exact mx_upR_rid _ _ _ _ (fun e => hr (by rw [e]; decide))
      have hI2 := rI_fS hI (mfS_of f4 (by decide))
      refine mR 2 rfl trivial ?_
      refine lp_Mo_won_in hx hs5 (fun c3 hI3 g23 hP => ?_) a.1.2 0 c2 (by omega) hI2 (by rw [f4 0 (by decide)]; exact h23) ?_
      · have hV : rV c3 4 (mall a) a.1.1 a.1.2 (mRs a.2.1.1 a.1.1 x s a.1.2) a.2.1.2.1 a.2.1.2.2.1 a.2.1.2.2.2 := ⟨⟨hI3.1.1, hI3.1.2.1, g23⟩, ⟨hn, hm, pw_lt hm⟩, hP.1, hP.2.1, hP.2.2.1, hP.2.2.2⟩
        have hol : wOut a w x s < a.1.1 := mout_lt hP.2.2.1
        refine mR 4 rfl trivial ?_
        refine mx_E_callV (sp_Mo_outcome4 (w := w) _ hV hw) rfl rfl rfl (fun r c4 hr => ?_)
        obtain ⟨rfl, hf4⟩ := hr
        have hI4 := rI_fS hI3 (mfS_of hf4 (by decide))
        have k23 : c4 0 23 = nI (mall a) := by rw [hf4 0 (by decide)]; exact g23
        refine mR 1 rfl trivial ?_
        refine mbNe (wOut a w x s) x rfl (by omega) (by omega) (fun hne => ?_) (fun heq => ?_)
        · refine mR 4 rfl trivial ?_
          refine mW (lp_Mo_won hx hw hy hq u (s + 1) c4 (by omega) hI4 k23) ⟨Or.inr rfl, Or.inr rfl, Or.inr rfl, Or.inr rfl, Or.inr (by rw [hf hne]), Or.inr (by rw [nI_1]), Or.inl rfl, trivial⟩ rfl rfl
        · refine mR 5 rfl trivial ?_
          refine mW (lp_Mo_won hx hw hy hq u (s + 1) c4 (by omega) hI4 k23) ⟨Or.inr rfl, Or.inr rfl, Or.inr rfl, Or.inr rfl, Or.inr (by rw [ht heq]; rfl), Or.inr (by rw [nI_1]), Or.inl rfl, trivial⟩ rfl rfl
      · rw [mRs_0]
        refine rP_of h6 hm hI2.2.1 (fun k hk => ?_)
        rw [hc2, mx_upR_row, mx_upR_rid _ _ _ 3 (by decide), fb_put_in (by omega) (by omega)]
        rfl
    cases hz : wW a w x s with
    | none =>
      rw [hz] at es tried
      refine mx_E_br rfl rfl (fun _ => ?_) (fun h => absurd rfl h)
      exact tried (fun e => by rw [es]; exact if_pos e) (fun e => by rw [es]; exact if_neg e)
    | some z =>
      rw [hz] at es tried
      have hzl := wW_lt a w x _ z hz
      have q1 := mpop_le s
      have q2 := mpop_le z
      refine mx_E_br rfl rfl (fun h => absurd h (kI_ne (by omega))) (fun _ => ?_)
      refine mR 1 rfl trivial ?_
      refine mx_E_callS (sp_Mo_ones _ s hs5) rfl rfl rfl (fun r c2 hr => ?_)
      obtain ⟨rfl, hz2⟩ := hr
      rw [hz2]
      refine mR 1 rfl trivial ?_
      refine mx_E_callS (sp_Mo_ones _ z (by omega)) rfl rfl rfl (fun r c3 hr => ?_)
      obtain ⟨rfl, hz3⟩ := hr
      rw [hz3]
      refine mbGe _ _ rfl (by omega) (by omega) (fun hc => ?_) (fun hc => ?_)
      · refine mR 2 rfl trivial ?_
        have e2 : wW a w x (s + 1) = some z := by rw [es]; exact if_neg (fun q => by omega)
        exact mW (lp_Mo_won hx hw hy hq u (s + 1) c1 (by omega) hI h23) ⟨Or.inr rfl, Or.inr rfl, Or.inr rfl, Or.inr rfl, Or.inr (by rw [e2]), Or.inr (by rw [nI_1]), Or.inl rfl, trivial⟩ rfl rfl
      · exact tried (fun e => by rw [es]; exact if_pos ⟨hc, e⟩) (fun e => by rw [es]; exact if_neg (fun q => e q.2))
theorem qr_won {c : mx_M} {a : mSt} (x w y : Int32) (h : rI c a) : mx_Spec 1 6 m_Mo_won [.ref 0, .int x, .int w, .int y] c (fun r c' => r = some (.int (aWon a x w y).1) ∧ rI c' (aWon a x w y).2) := by
  have h0 := rI_0 0 h
  obtain ⟨h8, h9, hn, hm⟩ := h0.1
  have h6 := hn.2
  refine mx_Spec_E rfl rfl rfl ?_
  refine mR 5 rfl trivial ?_
  refine mx_E_callV (sp_Mo_isMotion _ x _ h8 (by omega)) rfl rfl rfl (fun r c1 hr => ?_)
  obtain ⟨rfl, hz⟩ := hr
  rw [hz]
  unfold aWon
  refine mbT rfl (fun hb => ?_) (fun hb => ?_)
  · rw [hb]
    refine mR 1 rfl trivial ?_
    exact mx_E_iret rfl rfl ⟨rfl, h0⟩
  · refine mR 1 rfl trivial ?_
    refine mx_E_callS (sp_Mo_isWay _ w) rfl rfl rfl (fun r c1 hr => ?_)
    obtain ⟨rfl, hz⟩ := hr
    rw [hz]
    refine mbT rfl (fun hb2 => ?_) (fun hb2 => ?_)
    · rw [hb2, Bool.and_false]
      refine mR 1 rfl trivial ?_
      exact mx_E_iret rfl rfl ⟨rfl, h0⟩
    · refine mR 3 rfl trivial ?_
      refine mx_E_callS (sp_Mo_in _ _ _ _) rfl rfl rfl (fun r c1 hr => ?_)
      obtain ⟨rfl, hz⟩ := hr
      rw [hz, show decide ((0 : Int32) ≤ y ∧ y ≤ 1) = mi y 2 from in_mk y 1 (by decide)]
      refine mbF rfl (fun hb3 => ?_) (fun hb3 => ?_)
      · rw [hb, hb2, hb3]
        obtain ⟨i, hi, rfl⟩ := mi_of (by omega) hb
        obtain ⟨j, hj, rfl⟩ := mi_of (by omega) hb2
        obtain ⟨l, hl, rfl⟩ := mi_of (by omega) hb3
        rw [nI_cl (a := i) (by omega), nI_cl (a := j) (by omega)]
        refine mR 1 rfl trivial ?_
        refine mx_E_callV (sp_Mo_all _ _ h9 hm) rfl rfl rfl (fun r c2 hr => ?_)
        obtain ⟨rfl, hc2⟩ := hr
        have hI2 : rI c2 a := by rw [hc2]; exact rI_all h0
        have g23 : c2 0 23 = nI (mall a) := by rw [hc2, mx_up_same]; rfl
        refine mR 4 rfl trivial ?_
        exact lp_Mo_won hi hj hl (fun c' hI => ⟨rfl, hI⟩) (2 ^ a.1.2) 0 c2 (by omega) hI2 g23
      · rw [hb3, Bool.and_false]
        refine mR 1 rfl trivial ?_
        exact mx_E_iret rfl rfl ⟨rfl, h0⟩
