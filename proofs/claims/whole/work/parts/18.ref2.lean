/-! the reference: votes and agendas out of a row (3: as things are, 4: tried) -/
/-- nothing but these rows has changed -/
def mfr (S : List Nat) (c c' : mx_M) : Prop := ∀ r, r ∉ S → c' r = c r
theorem mfr_rf (S : List Nat) (c : mx_M) : mfr S c c := fun _ _ => rfl
theorem mfr_tr {S : List Nat} {c c1 c2 : mx_M} (h : mfr S c c1) (h2 : mfr S c1 c2) : mfr S c c2 := fun r hr => (h2 r hr).trans (h r hr)
theorem mfr_mo {S T : List Nat} {c c1 : mx_M} (h : mfr S c c1) (hs : ∀ r, r ∈ S → r ∈ T) : mfr T c c1 := fun r hr => h r (fun q => hr (hs r q))
theorem mfr_up {S : List Nat} {c c1 : mx_M} {i k : Nat} {x : Int32} (h : mfr S c c1) (hi : i ∈ S) : mfr S c (mx_up c1 i k x) := fun r hr => by
  have hne : r ≠ i := fun e => hr (by rw [e]; exact hi)
  rw [mx_up_rid _ _ _ _ _ hne]
  exact h r hr
def rRk (g : Nat → Int32) (n m : Nat) (R : Nat → Nat → Nat) : Prop := ∀ i p, i < m → p < n → g (6 * i + p) = nI (R i p)
def kI (q : Option Nat) : Int32 := match q with
  | none => -9
  | some q => nI q
theorem kI_ne {q : Nat} (h : q < 2147483648) : ¬ nI q = -9 := by
  intro e
  have h1 := nI_toInt h
  rw [e] at h1
  have h2 : ((-9 : Int32)).toInt = -9 := by decide
  omega
def rTb (g : Nat → Int32) (kd : Nat → Option Nat) (sz : Nat → Nat) (nd : Nat) : Prop := g 54 = nI nd ∧ ∀ k, k < nd → g (55 + k) = kI (kd k) ∧ (kd k = none → g (118 + k) = nI (k + 1) ∧ g (181 + k) = nI (k + 1 + sz (k + 1))) ∧ (kd k ≠ none → g (118 + k) = -9 ∧ g (181 + k) = -9)
/-- what the reference sees in row i, with those there: t -/
def rV (c : mx_M) (i t n m : Nat) (R : Nat → Nat → Nat) (kd : Nat → Option Nat) (sz : Nat → Nat) (nd : Nat) : Prop :=
  (c 0 8 = nI n ∧ c 0 9 = nI m ∧ c 0 23 = nI t) ∧ (mn n ∧ m ≤ 9 ∧ t < 512) ∧ (∀ j, j < m → mperm n (R j)) ∧ rRk (c i) n m R ∧ mtree n kd sz nd ∧ rTb (c i) kd sz nd
theorem rV_of {c c' : mx_M} {i t n m : Nat} {R : Nat → Nat → Nat} {kd : Nat → Option Nat} {sz : Nat → Nat} {nd : Nat} (h : rV c i t n m R kd sz nd) (h0 : c' 0 = c 0) (hi : c' i = c i) : rV c' i t n m R kd sz nd := by
  unfold rV at h ⊢
  rw [h0, hi]
  exact h
theorem ix6 (a b : Nat) : 6 * nI a + nI b = nI (6 * a + b) := by rw [show (6 : Int32) = nI 6 from rfl, pk_mul, nI_add]
theorem ixA (a : Nat) {k b : Nat} (h : k = a) : (OfNat.ofNat a : Int32) + nI b = nI (k + b) := by rw [h, fa_lit, nI_add]
theorem nI_cl {a : Nat} (h : a < 2147483648) : (nI a).toNatClampNeg = a := nI_clamp h
theorem nI_p1 (a : Nat) : nI (a + 1) - 1 = nI a := nI_pred a
theorem nI_m1 (a : Nat) : nI a + (-1) = nI a - 1 := by rw [Int32.sub_eq_add_neg]
theorem lp_Mo_placeOf3 {Q : Option Value → mx_M → Prop} {c : mx_M} {n m w x : Nat} {R : Nat → Nat → Nat} (hn : n ≤ 6) (hw : w < m) (hm : m ≤ 9) (hR : rRk (c 3) n m R) (hp : mperm n (R w)) (hx : x < n) (hq : Q (some (.int (nI (mpos (R w) n x)))) c) :
    ∀ (t p : Nat), p + t = mpos (R w) n x → mx_E 1 1 m_Mo_placeOf Q 2 [.ref 0, .ref 3, .int (nI w), .int (nI x), .int (nI p)] [] c
  | 0, p, h => by
    obtain ⟨hl, he⟩ := mpos_lt hp hx
    have e : p = mpos (R w) n x := by omega
    have ev : c 3 ((6 : Int32) * nI w + nI p).toNatClampNeg = nI x := by rw [ix6, nI_cl (by omega), hR w p hw (by omega), e, he]
    refine mR 8 rfl (mA1 (by rw [ix6]; exact mI (by omega))) ?_
    rw [ev]
    refine mbEq x x rfl (by omega) (by omega) (fun _ => ?_) (fun h => absurd rfl h)
    refine mR 1 rfl trivial ?_
    rw [e]
    exact mx_E_iret rfl rfl hq
  | t + 1, p, h => by
    obtain ⟨hl, he⟩ := mpos_lt hp hx
    have ev : c 3 ((6 : Int32) * nI w + nI p).toNatClampNeg = nI (R w p) := by rw [ix6, nI_cl (by omega), hR w p hw (by omega)]
    have hpn : p < n := by omega
    have hlt := hp.1 p hpn
    refine mR 8 rfl (mA1 (by rw [ix6]; exact mI (by omega))) ?_
    rw [ev]
    refine mbEq (R w p) x rfl (by omega) (by omega) (fun h2 => ?_) (fun _ => ?_)
    · rw [← h2, mpos_at hp hpn] at h
      omega
    · refine mR 2 rfl trivial ?_
      rw [nI_1]
      exact lp_Mo_placeOf3 hn hw hm hR hp hx hq t (p + 1) (by omega)
theorem sp_Mo_placeOf3 (c : mx_M) {n m w x : Nat} {R : Nat → Nat → Nat} (hn : n ≤ 6) (hw : w < m) (hm : m ≤ 9) (hR : rRk (c 3) n m R) (hp : mperm n (R w)) (hx : x < n) : mx_Spec 1 1 m_Mo_placeOf [.ref 0, .ref 3, .int (nI w), .int (nI x)] c (fun r c' => r = some (.int (nI (mpos (R w) n x))) ∧ c' = c) := by
  refine mx_Spec_E rfl rfl rfl ?_
  refine mR 2 rfl trivial ?_
  exact lp_Mo_placeOf3 hn hw hm hR hp hx ⟨rfl, rfl⟩ (mpos (R w) n x) 0 (by omega)
theorem lp_Mo_placeOf4 {Q : Option Value → mx_M → Prop} {c : mx_M} {n m w x : Nat} {R : Nat → Nat → Nat} (hn : n ≤ 6) (hw : w < m) (hm : m ≤ 9) (hR : rRk (c 4) n m R) (hp : mperm n (R w)) (hx : x < n) (hq : Q (some (.int (nI (mpos (R w) n x)))) c) :
    ∀ (t p : Nat), p + t = mpos (R w) n x → mx_E 1 1 m_Mo_placeOf Q 2 [.ref 0, .ref 4, .int (nI w), .int (nI x), .int (nI p)] [] c
  | 0, p, h => by
    obtain ⟨hl, he⟩ := mpos_lt hp hx
    have e : p = mpos (R w) n x := by omega
    have ev : c 4 ((6 : Int32) * nI w + nI p).toNatClampNeg = nI x := by rw [ix6, nI_cl (by omega), hR w p hw (by omega), e, he]
    refine mR 8 rfl (mA1 (by rw [ix6]; exact mI (by omega))) ?_
    rw [ev]
    refine mbEq x x rfl (by omega) (by omega) (fun _ => ?_) (fun h => absurd rfl h)
    refine mR 1 rfl trivial ?_
    rw [e]
    exact mx_E_iret rfl rfl hq
  | t + 1, p, h => by
    obtain ⟨hl, he⟩ := mpos_lt hp hx
    have ev : c 4 ((6 : Int32) * nI w + nI p).toNatClampNeg = nI (R w p) := by rw [ix6, nI_cl (by omega), hR w p hw (by omega)]
    have hpn : p < n := by omega
    have hlt := hp.1 p hpn
    refine mR 8 rfl (mA1 (by rw [ix6]; exact mI (by omega))) ?_
    rw [ev]
    refine mbEq (R w p) x rfl (by omega) (by omega) (fun h2 => ?_) (fun _ => ?_)
    · rw [← h2, mpos_at hp hpn] at h
      omega
    · refine mR 2 rfl trivial ?_
      rw [nI_1]
      exact lp_Mo_placeOf4 hn hw hm hR hp hx hq t (p + 1) (by omega)
theorem sp_Mo_placeOf4 (c : mx_M) {n m w x : Nat} {R : Nat → Nat → Nat} (hn : n ≤ 6) (hw : w < m) (hm : m ≤ 9) (hR : rRk (c 4) n m R) (hp : mperm n (R w)) (hx : x < n) : mx_Spec 1 1 m_Mo_placeOf [.ref 0, .ref 4, .int (nI w), .int (nI x)] c (fun r c' => r = some (.int (nI (mpos (R w) n x))) ∧ c' = c) := by
  refine mx_Spec_E rfl rfl rfl ?_
  refine mR 2 rfl trivial ?_
  exact lp_Mo_placeOf4 hn hw hm hR hp hx ⟨rfl, rfl⟩ (mpos (R w) n x) 0 (by omega)
theorem lp_Mo_votesOf3 {Q : Option Value → mx_M → Prop} {c : mx_M} {n m t x y nd : Nat} {R : Nat → Nat → Nat} {kd : Nat → Option Nat} {sz : Nat → Nat} (hV : rV c 3 t n m R kd sz nd) (hx : x < n) (hy : y < n) (hq : Q (some (.int (nI (mvt t m n R x y)))) c) :
    ∀ (u p : Nat), p + u = m → mx_E 1 2 m_Mo_votesOf Q 4 [.ref 0, .ref 3, .int (nI x), .int (nI y), .int (nI (mvt t p n R x y)), .int (nI p)] [] c
  | 0, p, h => by
    have e : p = m := by omega
    subst e
    obtain ⟨⟨h8, h9, h23⟩, ⟨hn, hm, ht⟩, hpm, hR, -⟩ := hV
    refine mR 3 rfl trivial ?_
    rw [h9]
    refine mbGe p p rfl (by omega) (by omega) (fun _ => ?_) (fun h => by omega)
    refine mR 1 rfl trivial ?_
    exact mx_E_iret rfl rfl hq
  | u + 1, p, h => by
    have hV0 := hV
    obtain ⟨⟨h8, h9, h23⟩, ⟨hn, hm, ht⟩, hpm, hR, -⟩ := hV0
    have hs : mvt t (p + 1) n R x y = mvt t p n R x y + (if (t.testBit p && decide (mpos (R p) n x < mpos (R p) n y)) then 1 else 0) := rfl
    refine mR 3 rfl trivial ?_
    rw [h9]
    refine mbGe p m rfl (by omega) (by omega) (fun h => by omega) (fun _ => ?_)
    refine mR 4 rfl trivial ?_
    rw [h23]
    refine mx_E_callS (sp_Mo_has _ t p (by omega) (by omega)) rfl rfl rfl (fun r c1 h => ?_)
    obtain ⟨rfl, h⟩ := h
    subst h
    refine mbT rfl (fun hb => ?_) (fun hb => ?_)
    · refine mR 5 rfl trivial ?_
      refine mS (lp_Mo_votesOf3 hV hx hy hq u (p + 1) (by omega)) ?_ rfl rfl
      rw [hs, hb, nI_1]
      simp
    · have hl1 := mpos_lt (hpm p (by omega)) hx
      have hl2 := mpos_lt (hpm p (by omega)) hy
      refine mR 4 rfl trivial ?_
      refine mx_E_callV (sp_Mo_placeOf3 _ hn.2 (show p < m by omega) hm hR (hpm p (by omega)) hx) rfl rfl rfl (fun r c1 h => ?_)
      obtain ⟨rfl, h⟩ := h
      subst h
      refine mR 4 rfl trivial ?_
      refine mx_E_callV (sp_Mo_placeOf3 _ hn.2 (show p < m by omega) hm hR (hpm p (by omega)) hy) rfl rfl rfl (fun r c1 h => ?_)
      obtain ⟨rfl, h⟩ := h
      subst h
      have h6 := hn.2
      refine mbGe _ _ rfl (by omega) (by omega) (fun hc => ?_) (fun hc => ?_)
      · refine mR 5 rfl trivial ?_
        refine mS (lp_Mo_votesOf3 hV hx hy hq u (p + 1) (by omega)) ?_ rfl rfl
        rw [hs, hb, decide_eq_false (by omega), nI_1]
        simp
      · refine mR 6 rfl trivial ?_
        refine mS (lp_Mo_votesOf3 hV hx hy hq u (p + 1) (by omega)) ?_ rfl rfl
        rw [hs, hb, decide_eq_true (by omega), nI_1, nI_1]
        simp
theorem sp_Mo_votesOf3 (c : mx_M) {n m t x y nd : Nat} {R : Nat → Nat → Nat} {kd : Nat → Option Nat} {sz : Nat → Nat} (hV : rV c 3 t n m R kd sz nd) (hx : x < n) (hy : y < n) : mx_Spec 1 2 m_Mo_votesOf [.ref 0, .ref 3, .int (nI x), .int (nI y)] c (fun r c' => r = some (.int (nI (mvt t m n R x y))) ∧ c' = c) := by
  refine mx_Spec_E rfl rfl rfl ?_
  refine mR 4 rfl trivial ?_
  exact lp_Mo_votesOf3 hV hx hy ⟨rfl, rfl⟩ m 0 (by omega)
theorem lp_Mo_votesOf4 {Q : Option Value → mx_M → Prop} {c : mx_M} {n m t x y nd : Nat} {R : Nat → Nat → Nat} {kd : Nat → Option Nat} {sz : Nat → Nat} (hV : rV c 4 t n m R kd sz nd) (hx : x < n) (hy : y < n) (hq : Q (some (.int (nI (mvt t m n R x y)))) c) :
    ∀ (u p : Nat), p + u = m → mx_E 1 2 m_Mo_votesOf Q 4 [.ref 0, .ref 4, .int (nI x), .int (nI y), .int (nI (mvt t p n R x y)), .int (nI p)] [] c
  | 0, p, h => by
    have e : p = m := by omega
    subst e
    obtain ⟨⟨h8, h9, h23⟩, ⟨hn, hm, ht⟩, hpm, hR, -⟩ := hV
    refine mR 3 rfl trivial ?_
    rw [h9]
    refine mbGe p p rfl (by omega) (by omega) (fun _ => ?_) (fun h => by omega)
    refine mR 1 rfl trivial ?_
    exact mx_E_iret rfl rfl hq
  | u + 1, p, h => by
    have hV0 := hV
    obtain ⟨⟨h8, h9, h23⟩, ⟨hn, hm, ht⟩, hpm, hR, -⟩ := hV0
    have hs : mvt t (p + 1) n R x y = mvt t p n R x y + (if (t.testBit p && decide (mpos (R p) n x < mpos (R p) n y)) then 1 else 0) := rfl
    refine mR 3 rfl trivial ?_
    rw [h9]
    refine mbGe p m rfl (by omega) (by omega) (fun h => by omega) (fun _ => ?_)
    refine mR 4 rfl trivial ?_
    rw [h23]
    refine mx_E_callS (sp_Mo_has _ t p (by omega) (by omega)) rfl rfl rfl (fun r c1 h => ?_)
    obtain ⟨rfl, h⟩ := h
    subst h
    refine mbT rfl (fun hb => ?_) (fun hb => ?_)
    · refine mR 5 rfl trivial ?_
      refine mS (lp_Mo_votesOf4 hV hx hy hq u (p + 1) (by omega)) ?_ rfl rfl
      rw [hs, hb, nI_1]
      simp
    · have hl1 := mpos_lt (hpm p (by omega)) hx
      have hl2 := mpos_lt (hpm p (by omega)) hy
      refine mR 4 rfl trivial ?_
      refine mx_E_callV (sp_Mo_placeOf4 _ hn.2 (show p < m by omega) hm hR (hpm p (by omega)) hx) rfl rfl rfl (fun r c1 h => ?_)
      obtain ⟨rfl, h⟩ := h
      subst h
      refine mR 4 rfl trivial ?_
      refine mx_E_callV (sp_Mo_placeOf4 _ hn.2 (show p < m by omega) hm hR (hpm p (by omega)) hy) rfl rfl rfl (fun r c1 h => ?_)
      obtain ⟨rfl, h⟩ := h
      subst h
      have h6 := hn.2
      refine mbGe _ _ rfl (by omega) (by omega) (fun hc => ?_) (fun hc => ?_)
      · refine mR 5 rfl trivial ?_
        refine mS (lp_Mo_votesOf4 hV hx hy hq u (p + 1) (by omega)) ?_ rfl rfl
        rw [hs, hb, decide_eq_false (by omega), nI_1]
        simp
      · refine mR 6 rfl trivial ?_
        refine mS (lp_Mo_votesOf4 hV hx hy hq u (p + 1) (by omega)) ?_ rfl rfl
        rw [hs, hb, decide_eq_true (by omega), nI_1, nI_1]
        simp
theorem sp_Mo_votesOf4 (c : mx_M) {n m t x y nd : Nat} {R : Nat → Nat → Nat} {kd : Nat → Option Nat} {sz : Nat → Nat} (hV : rV c 4 t n m R kd sz nd) (hx : x < n) (hy : y < n) : mx_Spec 1 2 m_Mo_votesOf [.ref 0, .ref 4, .int (nI x), .int (nI y)] c (fun r c' => r = some (.int (nI (mvt t m n R x y))) ∧ c' = c) := by
  refine mx_Spec_E rfl rfl rfl ?_
  refine mR 4 rfl trivial ?_
  exact lp_Mo_votesOf4 hV hx hy ⟨rfl, rfl⟩ m 0 (by omega)
theorem mz_inj {a b : Bool} : mz a = mz b ↔ a = b := by cases a <;> cases b <;> decide
theorem mlk_all {f : Nat → Nat} {n s1 s2 : Nat} (h : ∀ j, j < n → s1.testBit (f j) = s2.testBit (f j)) : mlk f n s1 s2 = true := by
  unfold mlk
  rw [ff_none (fun j hj => by simp [h j hj]), if_neg (by omega)]
theorem mlk_at {f : Nat → Nat} {n s1 s2 p : Nat} (hp : p < n) (h : ∀ j, j < p → s1.testBit (f j) = s2.testBit (f j)) (hd : s1.testBit (f p) ≠ s2.testBit (f p)) : mlk f n s1 s2 = s1.testBit (f p) := by
  unfold mlk
  rw [ff_at (k := p) hp (by simp [hd]) (fun j hj => by simp [h j hj]), if_pos hp]
theorem lp_Mo_branchOf3 {Q : Option Value → mx_M → Prop} {c : mx_M} {n at0 s1 s2 : Nat} {f : Nat → Nat} (h8 : c 0 8 = nI n) (hn : n ≤ 6) (hat : at0 + n ≤ 244) (hs1 : s1 < 2147483648) (hs2 : s2 < 2147483648) (hf : ∀ p, p < n → f p < n ∧ c 3 (at0 + p) = nI (f p)) (hq : Q (some (.int (mz (!(mlk f n s1 s2))))) c) :
    ∀ (u p : Nat), p + u = n → (∀ j, j < p → s1.testBit (f j) = s2.testBit (f j)) → mx_E 1 2 m_Mo_branchOf Q 2 [.ref 0, .ref 3, .int (nI at0), .int (nI s1), .int (nI s2), .int (nI p), .null] [] c
  | 0, p, h, hi => by
    have e : p = n := by omega
    subst e
    rw [mlk_all hi] at hq
    refine mR 3 rfl trivial ?_
    rw [h8]
    refine mbGe p p rfl (by omega) (by omega) (fun _ => ?_) (fun h => by omega)
    refine mR 1 rfl trivial ?_
    exact mx_E_iret rfl rfl hq
  | u + 1, p, h, hi => by
    obtain ⟨hfp, hv⟩ := hf p (by omega)
    have ev : c 3 (nI at0 + nI p).toNatClampNeg = nI (f p) := by rw [nI_add, nI_cl (by omega), hv]
    refine mR 3 rfl trivial ?_
    rw [h8]
    refine mbGe p n rfl (by omega) (by omega) (fun h => by omega) (fun _ => ?_)
    refine mR 8 rfl (mA1 (by rw [nI_add]; exact mI (by omega))) ?_
    rw [ev]
    refine mx_E_callS (sp_Mo_has _ s1 (f p) hs1 (by omega)) rfl rfl rfl (fun r c1 h => ?_)
    obtain ⟨rfl, h⟩ := h
    subst h
    refine mR 2 rfl trivial ?_
    refine mx_E_callS (sp_Mo_has _ s2 (f p) hs2 (by omega)) rfl rfl rfl (fun r c1 h => ?_)
    obtain ⟨rfl, h⟩ := h
    subst h
    refine mx_E_br rfl rfl (fun hb => ?_) (fun hb => ?_)
    · refine mR 2 rfl trivial ?_
      refine mW (lp_Mo_branchOf3 h8 hn hat hs1 hs2 hf hq u (p + 1) (by omega) (fun j hj => ?_)) ⟨Or.inr rfl, Or.inr rfl, Or.inr rfl, Or.inr rfl, Or.inr rfl, Or.inr (by rw [nI_1]), Or.inl rfl, trivial⟩ rfl rfl
      rcases Nat.lt_or_ge j p with hj2 | hj2
      · exact hi j hj2
      · have e : j = p := by omega
        rw [e]
        exact mz_inj.mp hb
    · have hne : s1.testBit (f p) ≠ s2.testBit (f p) := fun e => hb (by rw [e])
      rw [mlk_at (show p < n by omega) hi hne] at hq
      refine mR 2 rfl trivial ?_
      refine mx_E_callS (sp_Mo_has _ s1 (f p) hs1 (by omega)) rfl rfl rfl (fun r c1 h => ?_)
      obtain ⟨rfl, h⟩ := h
      subst h
      refine mbT rfl (fun ht => ?_) (fun ht => ?_)
      · rw [ht] at hq
        refine mR 1 rfl trivial ?_
        exact mx_E_iret rfl rfl hq
      · rw [ht] at hq
        refine mR 2 rfl trivial ?_
        exact mx_E_iret rfl rfl hq
theorem sp_Mo_branchOf3 (c : mx_M) {n at0 s1 s2 : Nat} {f : Nat → Nat} (h8 : c 0 8 = nI n) (hn : n ≤ 6) (hat : at0 + n ≤ 244) (hs1 : s1 < 2147483648) (hs2 : s2 < 2147483648) (hf : ∀ p, p < n → f p < n ∧ c 3 (at0 + p) = nI (f p)) : mx_Spec 1 2 m_Mo_branchOf [.ref 0, .ref 3, .int (nI at0), .int (nI s1), .int (nI s2)] c (fun r c' => r = some (.int (mz (!(mlk f n s1 s2)))) ∧ c' = c) := by
  refine mx_Spec_E rfl rfl rfl ?_
  refine mR 2 rfl trivial ?_
  exact lp_Mo_branchOf3 h8 hn hat hs1 hs2 hf ⟨rfl, rfl⟩ n 0 (by omega) (fun j hj => by omega)
theorem lp_Mo_branchOf4 {Q : Option Value → mx_M → Prop} {c : mx_M} {n at0 s1 s2 : Nat} {f : Nat → Nat} (h8 : c 0 8 = nI n) (hn : n ≤ 6) (hat : at0 + n ≤ 244) (hs1 : s1 < 2147483648) (hs2 : s2 < 2147483648) (hf : ∀ p, p < n → f p < n ∧ c 4 (at0 + p) = nI (f p)) (hq : Q (some (.int (mz (!(mlk f n s1 s2))))) c) :
    ∀ (u p : Nat), p + u = n → (∀ j, j < p → s1.testBit (f j) = s2.testBit (f j)) → mx_E 1 2 m_Mo_branchOf Q 2 [.ref 0, .ref 4, .int (nI at0), .int (nI s1), .int (nI s2), .int (nI p), .null] [] c
  | 0, p, h, hi => by
    have e : p = n := by omega
    subst e
    rw [mlk_all hi] at hq
    refine mR 3 rfl trivial ?_
    rw [h8]
    refine mbGe p p rfl (by omega) (by omega) (fun _ => ?_) (fun h => by omega)
    refine mR 1 rfl trivial ?_
    exact mx_E_iret rfl rfl hq
  | u + 1, p, h, hi => by
    obtain ⟨hfp, hv⟩ := hf p (by omega)
    have ev : c 4 (nI at0 + nI p).toNatClampNeg = nI (f p) := by rw [nI_add, nI_cl (by omega), hv]
    refine mR 3 rfl trivial ?_
    rw [h8]
    refine mbGe p n rfl (by omega) (by omega) (fun h => by omega) (fun _ => ?_)
    refine mR 8 rfl (mA1 (by rw [nI_add]; exact mI (by omega))) ?_
    rw [ev]
    refine mx_E_callS (sp_Mo_has _ s1 (f p) hs1 (by omega)) rfl rfl rfl (fun r c1 h => ?_)
    obtain ⟨rfl, h⟩ := h
    subst h
    refine mR 2 rfl trivial ?_
    refine mx_E_callS (sp_Mo_has _ s2 (f p) hs2 (by omega)) rfl rfl rfl (fun r c1 h => ?_)
    obtain ⟨rfl, h⟩ := h
    subst h
    refine mx_E_br rfl rfl (fun hb => ?_) (fun hb => ?_)
    · refine mR 2 rfl trivial ?_
      refine mW (lp_Mo_branchOf4 h8 hn hat hs1 hs2 hf hq u (p + 1) (by omega) (fun j hj => ?_)) ⟨Or.inr rfl, Or.inr rfl, Or.inr rfl, Or.inr rfl, Or.inr rfl, Or.inr (by rw [nI_1]), Or.inl rfl, trivial⟩ rfl rfl
      rcases Nat.lt_or_ge j p with hj2 | hj2
      · exact hi j hj2
      · have e : j = p := by omega
        rw [e]
        exact mz_inj.mp hb
    · have hne : s1.testBit (f p) ≠ s2.testBit (f p) := fun e => hb (by rw [e])
      rw [mlk_at (show p < n by omega) hi hne] at hq
      refine mR 2 rfl trivial ?_
      refine mx_E_callS (sp_Mo_has _ s1 (f p) hs1 (by omega)) rfl rfl rfl (fun r c1 h => ?_)
      obtain ⟨rfl, h⟩ := h
      subst h
      refine mbT rfl (fun ht => ?_) (fun ht => ?_)
      · rw [ht] at hq
        refine mR 1 rfl trivial ?_
        exact mx_E_iret rfl rfl hq
      · rw [ht] at hq
        refine mR 2 rfl trivial ?_
        exact mx_E_iret rfl rfl hq
theorem sp_Mo_branchOf4 (c : mx_M) {n at0 s1 s2 : Nat} {f : Nat → Nat} (h8 : c 0 8 = nI n) (hn : n ≤ 6) (hat : at0 + n ≤ 244) (hs1 : s1 < 2147483648) (hs2 : s2 < 2147483648) (hf : ∀ p, p < n → f p < n ∧ c 4 (at0 + p) = nI (f p)) : mx_Spec 1 2 m_Mo_branchOf [.ref 0, .ref 4, .int (nI at0), .int (nI s1), .int (nI s2)] c (fun r c' => r = some (.int (mz (!(mlk f n s1 s2)))) ∧ c' = c) := by
  refine mx_Spec_E rfl rfl rfl ?_
  refine mR 2 rfl trivial ?_
  exact lp_Mo_branchOf4 h8 hn hat hs1 hs2 hf ⟨rfl, rfl⟩ n 0 (by omega) (fun j hj => by omega)
theorem lp_Mo_branchOf14 {Q : Option Value → mx_M → Prop} {c : mx_M} {n at0 s1 s2 : Nat} {f : Nat → Nat} (h8 : c 0 8 = nI n) (hn : n ≤ 6) (hat : at0 + n ≤ 6) (hs1 : s1 < 2147483648) (hs2 : s2 < 2147483648) (hf : ∀ p, p < n → f p < n ∧ c 14 (at0 + p) = nI (f p)) (hq : Q (some (.int (mz (!(mlk f n s1 s2))))) c) :
    ∀ (u p : Nat), p + u = n → (∀ j, j < p → s1.testBit (f j) = s2.testBit (f j)) → mx_E 1 2 m_Mo_branchOf Q 2 [.ref 0, .ref 14, .int (nI at0), .int (nI s1), .int (nI s2), .int (nI p), .null] [] c
  | 0, p, h, hi => by
    have e : p = n := by omega
    subst e
    rw [mlk_all hi] at hq
    refine mR 3 rfl trivial ?_
    rw [h8]
    refine mbGe p p rfl (by omega) (by omega) (fun _ => ?_) (fun h => by omega)
    refine mR 1 rfl trivial ?_
    exact mx_E_iret rfl rfl hq
  | u + 1, p, h, hi => by
    obtain ⟨hfp, hv⟩ := hf p (by omega)
    have ev : c 14 (nI at0 + nI p).toNatClampNeg = nI (f p) := by rw [nI_add, nI_cl (by omega), hv]
    refine mR 3 rfl trivial ?_
    rw [h8]
    refine mbGe p n rfl (by omega) (by omega) (fun h => by omega) (fun _ => ?_)
    refine mR 8 rfl (mA1 (by rw [nI_add]; exact mI (by omega))) ?_
    rw [ev]
    refine mx_E_callS (sp_Mo_has _ s1 (f p) hs1 (by omega)) rfl rfl rfl (fun r c1 h => ?_)
    obtain ⟨rfl, h⟩ := h
    subst h
    refine mR 2 rfl trivial ?_
    refine mx_E_callS (sp_Mo_has _ s2 (f p) hs2 (by omega)) rfl rfl rfl (fun r c1 h => ?_)
    obtain ⟨rfl, h⟩ := h
    subst h
    refine mx_E_br rfl rfl (fun hb => ?_) (fun hb => ?_)
    · refine mR 2 rfl trivial ?_
      refine mW (lp_Mo_branchOf14 h8 hn hat hs1 hs2 hf hq u (p + 1) (by omega) (fun j hj => ?_)) ⟨Or.inr rfl, Or.inr rfl, Or.inr rfl, Or.inr rfl, Or.inr rfl, Or.inr (by rw [nI_1]), Or.inl rfl, trivial⟩ rfl rfl
      rcases Nat.lt_or_ge j p with hj2 | hj2
      · exact hi j hj2
      · have e : j = p := by omega
        rw [e]
        exact mz_inj.mp hb
    · have hne : s1.testBit (f p) ≠ s2.testBit (f p) := fun e => hb (by rw [e])
      rw [mlk_at (show p < n by omega) hi hne] at hq
      refine mR 2 rfl trivial ?_
      refine mx_E_callS (sp_Mo_has _ s1 (f p) hs1 (by omega)) rfl rfl rfl (fun r c1 h => ?_)
      obtain ⟨rfl, h⟩ := h
      subst h
      refine mbT rfl (fun ht => ?_) (fun ht => ?_)
      · rw [ht] at hq
        refine mR 1 rfl trivial ?_
        exact mx_E_iret rfl rfl hq
      · rw [ht] at hq
        refine mR 2 rfl trivial ?_
        exact mx_E_iret rfl rfl hq
theorem sp_Mo_branchOf14 (c : mx_M) {n at0 s1 s2 : Nat} {f : Nat → Nat} (h8 : c 0 8 = nI n) (hn : n ≤ 6) (hat : at0 + n ≤ 6) (hs1 : s1 < 2147483648) (hs2 : s2 < 2147483648) (hf : ∀ p, p < n → f p < n ∧ c 14 (at0 + p) = nI (f p)) : mx_Spec 1 2 m_Mo_branchOf [.ref 0, .ref 14, .int (nI at0), .int (nI s1), .int (nI s2)] c (fun r c' => r = some (.int (mz (!(mlk f n s1 s2)))) ∧ c' = c) := by
  refine mx_Spec_E rfl rfl rfl ?_
  refine mR 2 rfl trivial ?_
  exact lp_Mo_branchOf14 h8 hn hat hs1 hs2 hf ⟨rfl, rfl⟩ n 0 (by omega) (fun j hj => by omega)
theorem rd_kd3 {c : mx_M} {kd : Nat → Option Nat} {sz : Nat → Nat} {nd k : Nat} (hT : rTb (c 3) kd sz nd) (hd : nd ≤ 63) (hk : k < nd) : c 3 ((55 : Int32) + nI k).toNatClampNeg = kI (kd k) := by rw [ixA 55 rfl, nI_cl (by omega)]; exact (hT.2 k hk).1
theorem rd_on3 {c : mx_M} {kd : Nat → Option Nat} {sz : Nat → Nat} {nd k : Nat} (hT : rTb (c 3) kd sz nd) (hd : nd ≤ 63) (hk : k < nd) (e : kd k = none) : c 3 ((118 : Int32) + nI k).toNatClampNeg = nI (k + 1) := by rw [ixA 118 rfl, nI_cl (by omega)]; exact ((hT.2 k hk).2.1 e).1
theorem rd_tw3 {c : mx_M} {kd : Nat → Option Nat} {sz : Nat → Nat} {nd k : Nat} (hT : rTb (c 3) kd sz nd) (hd : nd ≤ 63) (hk : k < nd) (e : kd k = none) : c 3 ((181 : Int32) + nI k).toNatClampNeg = nI (k + 1 + sz (k + 1)) := by rw [ixA 181 rfl, nI_cl (by omega)]; exact ((hT.2 k hk).2.1 e).2
theorem lp_Mo_setsOf3 {Q : Option Value → mx_M → Prop} {c : mx_M} {n m t nd : Nat} {R : Nat → Nat → Nat} {kd : Nat → Option Nat} {sz : Nat → Nat} (hV : rV c 3 t n m R kd sz nd) (hq : ∀ c', mfr [12] c c' → (∀ j, j < nd → c' 12 j = nI (mset kd sz nd j)) → Q none c') :
    ∀ (k : Nat) (c1 : mx_M), k ≤ nd → mfr [12] c c1 → (∀ j, k ≤ j → j < nd → c1 12 j = nI (mset kd sz nd j)) → mx_E 1 1 m_Mo_setsOf Q 6 [.ref 0, .ref 3, .int (nI k - 1)] [] c1
  | 0, c1, hk, hfr, hi => by
    refine mR 1 rfl trivial ?_
    refine mx_E_br rfl rfl (fun _ => ?_) (fun h => absurd (by decide) h)
    exact mx_E_vret rfl rfl (hq c1 hfr (fun j hj => hi j (Nat.zero_le j) hj))
  | k + 1, c1, hk, hfr, hi => by
    have hV0 := hV
    obtain ⟨-, ⟨hn, -, -⟩, -, -, hM, hT0⟩ := hV0
    have hT : rTb (c1 3) kd sz nd := by rw [hfr 3 (by decide)]; exact hT0
    have h63 := hM.2.1
    have hkd := rd_kd3 hT h63 (show k < nd by omega)
    rw [nI_p1]
    refine mR 1 rfl trivial ?_
    refine mx_E_br rfl rfl (fun h => absurd h (nI_pos (by omega))) (fun _ => ?_)
    refine mR 9 rfl (mA1 (by rw [ixA 55 rfl]; exact mI (by omega))) ?_
    rw [hkd]
    cases e : kd k with
    | some q =>
      obtain ⟨hq6, -⟩ := mtree_leaf hM (show k < nd by omega) e
      have h6 := hn.2
      refine mx_E_br rfl rfl (fun h => absurd h (kI_ne (by omega))) (fun _ => ?_)
      rw [e] at hkd
      refine mR 11 rfl (mA2 (by rw [ixA 55 rfl]; exact mI (by omega)) (mI (by omega))) ?_
      rw [hkd]
      have ev : (1 : Int32) <<< (kI (some q) &&& 31) = nI (mset kd sz nd k) := by
        rw [show mset kd sz nd k = 2 ^ q from mF_leaf _ _ (by omega) e]
        exact nI_shl1 (by omega)
      rw [ev, nI_cl (by omega), nI_m1]
      refine lp_Mo_setsOf3 (c := c) hV hq k _ (by omega) (mfr_up hfr (by decide)) (fun j h1 h2 => ?_)
      · rcases Nat.lt_or_ge k j with h3 | h3
        · rw [mx_up_ix _ _ _ _ _ _ (by omega)]
          exact hi j (by omega) h2
        · have e2 : j = k := by omega
          rw [e2, mx_up_same]
    | none =>
      obtain ⟨g1, g2, g3, g4, g5, g6⟩ := mtree_vote hM (show k < nd by omega) e
      refine mx_E_br rfl rfl (fun _ => ?_) (fun h => absurd rfl h)
      have on := rd_on3 hT h63 (show k < nd by omega) e
      have tw := rd_tw3 hT h63 (show k < nd by omega) e
      refine mR 20 rfl (mA5 (by rw [ixA 118 rfl]; exact mI (by omega)) (by rw [on]; exact mI (by omega)) (by rw [ixA 181 rfl]; exact mI (by omega)) (by rw [tw]; exact mI (by omega)) (mI (by omega))) ?_
      rw [on, tw, nI_cl (by omega), nI_cl (by omega), nI_cl (by omega), hi (k + 1) (by omega) (by omega), hi (k + 1 + sz (k + 1)) (by omega) (by omega), fa_or, nI_m1]
      refine lp_Mo_setsOf3 (c := c) hV hq k _ (by omega) (mfr_up hfr (by decide)) (fun j h1 h2 => ?_)
      · rcases Nat.lt_or_ge k j with h3 | h3
        · rw [mx_up_ix _ _ _ _ _ _ (by omega)]
          exact hi j (by omega) h2
        · have e2 : j = k := by omega
          rw [e2, mx_up_same, show mset kd sz nd k = mset kd sz nd (k + 1) ||| mset kd sz nd (k + 1 + sz (k + 1)) from mF_vote _ _ hM (by omega) e]
theorem sp_Mo_setsOf3 (c : mx_M) {n m t nd : Nat} {R : Nat → Nat → Nat} {kd : Nat → Option Nat} {sz : Nat → Nat} (hV : rV c 3 t n m R kd sz nd) : mx_Spec 1 1 m_Mo_setsOf [.ref 0, .ref 3] c (fun r c' => r = none ∧ mfr [12] c c' ∧ ∀ j, j < nd → c' 12 j = nI (mset kd sz nd j)) := by
  refine mx_Spec_E rfl rfl rfl ?_
  refine mR 6 rfl (mA1 (mI (n := 54) (by decide))) ?_
  refine mS (lp_Mo_setsOf3 hV (fun c' h1 h2 => ⟨rfl, h1, h2⟩) nd c (Nat.le_refl nd) (mfr_rf _ _) (fun j h1 h2 => by omega)) ?_ rfl rfl
  rw [show ((54 : Int32)).toNatClampNeg = 54 by decide, hV.2.2.2.2.2.1]
theorem rd_kd4 {c : mx_M} {kd : Nat → Option Nat} {sz : Nat → Nat} {nd k : Nat} (hT : rTb (c 4) kd sz nd) (hd : nd ≤ 63) (hk : k < nd) : c 4 ((55 : Int32) + nI k).toNatClampNeg = kI (kd k) := by rw [ixA 55 rfl, nI_cl (by omega)]; exact (hT.2 k hk).1
theorem rd_on4 {c : mx_M} {kd : Nat → Option Nat} {sz : Nat → Nat} {nd k : Nat} (hT : rTb (c 4) kd sz nd) (hd : nd ≤ 63) (hk : k < nd) (e : kd k = none) : c 4 ((118 : Int32) + nI k).toNatClampNeg = nI (k + 1) := by rw [ixA 118 rfl, nI_cl (by omega)]; exact ((hT.2 k hk).2.1 e).1
theorem rd_tw4 {c : mx_M} {kd : Nat → Option Nat} {sz : Nat → Nat} {nd k : Nat} (hT : rTb (c 4) kd sz nd) (hd : nd ≤ 63) (hk : k < nd) (e : kd k = none) : c 4 ((181 : Int32) + nI k).toNatClampNeg = nI (k + 1 + sz (k + 1)) := by rw [ixA 181 rfl, nI_cl (by omega)]; exact ((hT.2 k hk).2.1 e).2
theorem lp_Mo_setsOf4 {Q : Option Value → mx_M → Prop} {c : mx_M} {n m t nd : Nat} {R : Nat → Nat → Nat} {kd : Nat → Option Nat} {sz : Nat → Nat} (hV : rV c 4 t n m R kd sz nd) (hq : ∀ c', mfr [12] c c' → (∀ j, j < nd → c' 12 j = nI (mset kd sz nd j)) → Q none c') :
    ∀ (k : Nat) (c1 : mx_M), k ≤ nd → mfr [12] c c1 → (∀ j, k ≤ j → j < nd → c1 12 j = nI (mset kd sz nd j)) → mx_E 1 1 m_Mo_setsOf Q 6 [.ref 0, .ref 4, .int (nI k - 1)] [] c1
  | 0, c1, hk, hfr, hi => by
    refine mR 1 rfl trivial ?_
    refine mx_E_br rfl rfl (fun _ => ?_) (fun h => absurd (by decide) h)
    exact mx_E_vret rfl rfl (hq c1 hfr (fun j hj => hi j (Nat.zero_le j) hj))
  | k + 1, c1, hk, hfr, hi => by
    have hV0 := hV
    obtain ⟨-, ⟨hn, -, -⟩, -, -, hM, hT0⟩ := hV0
    have hT : rTb (c1 4) kd sz nd := by rw [hfr 4 (by decide)]; exact hT0
    have h63 := hM.2.1
    have hkd := rd_kd4 hT h63 (show k < nd by omega)
    rw [nI_p1]
    refine mR 1 rfl trivial ?_
    refine mx_E_br rfl rfl (fun h => absurd h (nI_pos (by omega))) (fun _ => ?_)
    refine mR 9 rfl (mA1 (by rw [ixA 55 rfl]; exact mI (by omega))) ?_
    rw [hkd]
    cases e : kd k with
    | some q =>
      obtain ⟨hq6, -⟩ := mtree_leaf hM (show k < nd by omega) e
      have h6 := hn.2
      refine mx_E_br rfl rfl (fun h => absurd h (kI_ne (by omega))) (fun _ => ?_)
      rw [e] at hkd
      refine mR 11 rfl (mA2 (by rw [ixA 55 rfl]; exact mI (by omega)) (mI (by omega))) ?_
      rw [hkd]
      have ev : (1 : Int32) <<< (kI (some q) &&& 31) = nI (mset kd sz nd k) := by
        rw [show mset kd sz nd k = 2 ^ q from mF_leaf _ _ (by omega) e]
        exact nI_shl1 (by omega)
      rw [ev, nI_cl (by omega), nI_m1]
      refine lp_Mo_setsOf4 (c := c) hV hq k _ (by omega) (mfr_up hfr (by decide)) (fun j h1 h2 => ?_)
      · rcases Nat.lt_or_ge k j with h3 | h3
        · rw [mx_up_ix _ _ _ _ _ _ (by omega)]
          exact hi j (by omega) h2
        · have e2 : j = k := by omega
          rw [e2, mx_up_same]
    | none =>
      obtain ⟨g1, g2, g3, g4, g5, g6⟩ := mtree_vote hM (show k < nd by omega) e
      refine mx_E_br rfl rfl (fun _ => ?_) (fun h => absurd rfl h)
      have on := rd_on4 hT h63 (show k < nd by omega) e
      have tw := rd_tw4 hT h63 (show k < nd by omega) e
      refine mR 20 rfl (mA5 (by rw [ixA 118 rfl]; exact mI (by omega)) (by rw [on]; exact mI (by omega)) (by rw [ixA 181 rfl]; exact mI (by omega)) (by rw [tw]; exact mI (by omega)) (mI (by omega))) ?_
      rw [on, tw, nI_cl (by omega), nI_cl (by omega), nI_cl (by omega), hi (k + 1) (by omega) (by omega), hi (k + 1 + sz (k + 1)) (by omega) (by omega), fa_or, nI_m1]
      refine lp_Mo_setsOf4 (c := c) hV hq k _ (by omega) (mfr_up hfr (by decide)) (fun j h1 h2 => ?_)
      · rcases Nat.lt_or_ge k j with h3 | h3
        · rw [mx_up_ix _ _ _ _ _ _ (by omega)]
          exact hi j (by omega) h2
        · have e2 : j = k := by omega
          rw [e2, mx_up_same, show mset kd sz nd k = mset kd sz nd (k + 1) ||| mset kd sz nd (k + 1 + sz (k + 1)) from mF_vote _ _ hM (by omega) e]
theorem sp_Mo_setsOf4 (c : mx_M) {n m t nd : Nat} {R : Nat → Nat → Nat} {kd : Nat → Option Nat} {sz : Nat → Nat} (hV : rV c 4 t n m R kd sz nd) : mx_Spec 1 1 m_Mo_setsOf [.ref 0, .ref 4] c (fun r c' => r = none ∧ mfr [12] c c' ∧ ∀ j, j < nd → c' 12 j = nI (mset kd sz nd j)) := by
  refine mx_Spec_E rfl rfl rfl ?_
  refine mR 6 rfl (mA1 (mI (n := 54) (by decide))) ?_
  refine mS (lp_Mo_setsOf4 hV (fun c' h1 h2 => ⟨rfl, h1, h2⟩) nd c (Nat.le_refl nd) (mfr_rf _ _) (fun j h1 h2 => by omega)) ?_ rfl rfl
  rw [show ((54 : Int32)).toNatClampNeg = 54 by decide, hV.2.2.2.2.2.1]
