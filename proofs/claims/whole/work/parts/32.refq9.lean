/-- the k-th ranking votes as was seen -/
def aHp (a : mSt) (k : Nat) : Bool := aAs a (mo a.1.1 k) a.2.2.2.1.1
/-- ..and votes for the first branch of a vote -/
def aHf (a : mSt) (e k : Nat) : Bool := aHp a k && ((aK a e).isNone && mlk (mo a.1.1 k) a.1.1 (aS a (e + 1)) (aS a (e + 1 + aZ a (e + 1))))
theorem lp_Mo_rankingMany_0 {Q : Option Value → mx_M → Prop} {c : mx_M} (hk : mx_E 1 4 m_Mo_rankingMany Q 19 [.ref 0, .int (nI 63), .null, .null] [] (mx_upR c 17 (fa_fill (fun _ => 0) (c 17) 63))) :
    ∀ (u k : Nat), k + u = 63 → mx_E 1 4 m_Mo_rankingMany Q 9 [.ref 0, .int (nI k), .null, .null] [] (mx_upR c 17 (fa_fill (fun _ => 0) (c 17) k))
  | 0, k, h => by
    have e : k = 63 := by omega
    subst e
    refine mR 2 rfl trivial ?_
    refine mbGe 63 63 rfl (by decide) (by decide) (fun _ => ?_) (fun h => by omega)
    exact hk
  | u + 1, k, h => by
    refine mR 2 rfl trivial ?_
    refine mbGe k 63 rfl (by omega) (by decide) (fun h => by omega) (fun _ => ?_)
    refine mR 7 rfl (mA1 (mI (by omega))) ?_
    rw [nI_cl (by omega), mx_up_put, nI_1, fa_fill_succ (fun _ => 0)]
    exact lp_Mo_rankingMany_0 hk u (k + 1) (by omega)
theorem lp_Mo_rankingMany_in {Q : Option Value → mx_M → Prop} {a : mSt} {k cnt : Nat} (hc : cnt ≤ 720) (hp : aHp a k = true) (hk6 : k < mfact a.1.1)
    (hk : ∀ c2, rI c2 a → (∀ j, j < aD a → c2 12 j = nI (aS a j)) → c2 0 32 = mfst (aHp a) (k + 1) → (∀ j, j < aD a → c2 17 j = nI (fb_ct (aHf a j) (k + 1))) → mx_E 1 4 m_Mo_rankingMany Q 73 [.ref 0, .int (nI cnt), .int (nI k), .null] [] c2) :
    ∀ (u e : Nat) (c1 : mx_M), e + u = aD a → rI c1 a → (∀ j, j < aD a → c1 12 j = nI (aS a j)) → (∀ p, p < a.1.1 → c1 14 p = nI (mo a.1.1 k p)) → c1 0 32 = mfst (aHp a) (k + 1) → (∀ j, j < e → c1 17 j = nI (fb_ct (aHf a j) (k + 1))) → (∀ j, e ≤ j → j < aD a → c1 17 j = nI (fb_ct (aHf a j) k)) → mx_E 1 4 m_Mo_rankingMany Q 47 [.ref 0, .int (nI cnt), .int (nI k), .int (nI e)] [] c1
  | 0, e, c1, h, hI, hS, h14, h32, h17, h17b => by
    have ee : e = aD a := by omega
    have h63 := (rI_W hI).2.1.2.1
    rw [ee] at h17
    rw [ee]
    refine mR 5 rfl (mA1 (mI (n := 54) (by decide))) ?_
    rw [c54, (rI_W hI).2.2.1]
    refine mbGe _ _ rfl (by omega) (by omega) (fun _ => ?_) (fun h => by omega)
    exact mW (hk c1 hI hS h32 h17) ⟨Or.inr rfl, Or.inr rfl, Or.inr rfl, Or.inl rfl, trivial⟩ rfl rfl
  | u + 1, e, c1, h, hI, hS, h14, h32, h17, h17b => by
    obtain ⟨h6, hM, hT⟩ := rI_W hI
    have h63 := hM.2.1
    have he : e < aD a := by omega
    have hn := hI.1.2.2.1
    have hct := fb_ct_le (aHf a e) k
    have hfl := mfact_le a.1.1 (by omega)
    refine mR 5 rfl (mA1 (mI (n := 54) (by decide))) ?_
    rw [c54, hT.1]
    refine mbGe _ _ rfl (by omega) (by omega) (fun h => by omega) (fun _ => ?_)
    refine mR 7 rfl (mA1 (mI (by omega))) ?_
    rw [nI_cl (a := e) (by omega), h17b e (Nat.le_refl e) he]
    have nxt : ∀ (v : Nat), v = fb_ct (aHf a e) (k + 1) → mx_E 1 4 m_Mo_rankingMany Q 47 [.ref 0, .int (nI cnt), .int (nI k), .int (nI (e + 1))] [] (mx_up c1 17 e (nI v)) := by
      intro v hv
      refine lp_Mo_rankingMany_in hc hp hk6 hk u (e + 1) _ (by omega) (rI_fr hI (mfr_up (mfr_rf _ _) (by decide))) ?_ ?_ ?_ ?_ ?_
      · intro j hj
        rw [mx_up_id _ _ _ _ _ _ (by decide)]
        exact hS j hj
      · intro p hp
        rw [mx_up_id _ _ _ _ _ _ (by decide)]
        exact h14 p hp
      · rw [mx_up_id _ _ _ _ _ _ (by decide)]
        exact h32
      · intro j hj
        by_cases q : j = e
        · rw [q, mx_up_same, hv]
        · rw [mx_up_ix _ _ _ _ _ _ q]
          exact h17 j (by omega)
      · intro j hj hj2
        rw [mx_up_ix _ _ _ _ _ _ (by omega)]
        exact h17b j (by omega) hj2
    have hs : fb_ct (aHf a e) (k + 1) = fb_ct (aHf a e) k + (if aHf a e k then 1 else 0) := rfl
    refine mx_E_callV (sp_Mo_isVote _ hI he) rfl rfl rfl (fun r c2 hr => ?_)
    obtain ⟨rfl, hz⟩ := hr
    rw [hz]
    cases ek : aK a e with
    | some q =>
      refine mbT rfl (fun _ => ?_) (fun hb => (by cases hb))
      refine mR 5 rfl (mA1 (mI (by omega))) ?_
      refine mS (nxt (fb_ct (aHf a e) k) ?_) (by rw [nI_1]) rfl (by rw [nI_cl (a := e) (by omega), show (0 : Int32) = nI 0 from rfl, nI_add, Nat.add_zero])
      rw [hs, show aHf a e k = false by unfold aHf; rw [ek]; simp]
      rfl
    | none =>
      refine mbT rfl (fun hb => (by cases hb)) (fun _ => ?_)
      refine mR 2 rfl trivial ?_
      refine mx_E_callV (sp_Mo_branchAt _ (f := mo a.1.1 k) hI he ek hS (fun p hp => ⟨mo_lt hn hk6 hp, h14 p hp⟩)) rfl rfl rfl (fun r c2 hr => ?_)
      obtain ⟨rfl, hz⟩ := hr
      rw [hz]
      have hv : aHf a e k = mlk (mo a.1.1 k) a.1.1 (aS a (e + 1)) (aS a (e + 1 + aZ a (e + 1))) := by unfold aHf; rw [hp, ek]; rfl
      refine mbF rfl (fun hb => ?_) (fun hb => ?_)
      · refine mR 5 rfl (mA1 (mI (by omega))) ?_
        refine mS (nxt (fb_ct (aHf a e) k) ?_) (by rw [nI_1]) rfl (by rw [nI_cl (a := e) (by omega), show (0 : Int32) = nI 0 from rfl, nI_add, Nat.add_zero])
        rw [hs, hv, show mlk (mo a.1.1 k) a.1.1 (aS a (e + 1)) (aS a (e + 1 + aZ a (e + 1))) = false by simpa using hb]
        rfl
      · refine mR 6 rfl (mA1 (mI (by omega))) ?_
        refine mS (nxt (fb_ct (aHf a e) k + 1) ?_) (by rw [nI_1]) rfl (by rw [nI_cl (a := e) (by omega), nI_1])
        rw [hs, hv, show mlk (mo a.1.1 k) a.1.1 (aS a (e + 1)) (aS a (e + 1 + aZ a (e + 1))) = true by simpa using hb]
        rfl
theorem lp_Mo_rankingMany {Q : Option Value → mx_M → Prop} {a : mSt} (hq : ∀ c', rI c' a → c' 0 32 = mfst (aHp a) (mfact a.1.1) → (∀ j, j < aD a → c' 17 j = nI (fb_ct (aHf a j) (mfact a.1.1))) → Q (some (.int (nI (fb_ct (aHp a) (mfact a.1.1))))) c') :
    ∀ (u k : Nat) (c1 : mx_M), k + u = mfact a.1.1 → rI c1 a → (∀ j, j < aD a → c1 12 j = nI (aS a j)) → c1 0 32 = mfst (aHp a) k → (∀ j, j < aD a → c1 17 j = nI (fb_ct (aHf a j) k)) → mx_E 1 4 m_Mo_rankingMany Q 23 [.ref 0, .int (nI (fb_ct (aHp a) k)), .int (nI k), .null] [] c1
  | 0, k, c1, h, hI, hS, h32, h17 => by
    obtain ⟨h8, h9, hn, hm⟩ := hI.1
    have h6 := hn.2
    have hfl := mfact_le a.1.1 (by omega)
    have e : k = mfact a.1.1 := by omega
    rw [e] at h32 h17
    rw [e]
    refine mR 3 rfl trivial ?_
    rw [h8]
    refine mx_E_callS (sp_Mo_orders _ a.1.1 (by omega)) rfl rfl rfl (fun r c2 hr => ?_)
    obtain ⟨rfl, hz⟩ := hr
    rw [hz]
    refine mbGe _ _ rfl (by omega) (by omega) (fun _ => ?_) (fun h => by omega)
    refine mR 1 rfl trivial ?_
    exact mx_E_iret rfl rfl (hq c1 hI h32 h17)
  | u + 1, k, c1, h, hI, hS, h32, h17 => by
    obtain ⟨h8, h9, hn, hm⟩ := hI.1
    have h6 := hn.2
    have hfl := mfact_le a.1.1 (by omega)
    have hk : k < mfact a.1.1 := by omega
    have hct := fb_ct_le (aHp a) k
    refine mR 3 rfl trivial ?_
    rw [h8]
    refine mx_E_callS (sp_Mo_orders _ a.1.1 (by omega)) rfl rfl rfl (fun r c2 hr => ?_)
    obtain ⟨rfl, hz⟩ := hr
    rw [hz]
    refine mbGe _ _ rfl (by omega) (by omega) (fun h => by omega) (fun _ => ?_)
    refine mR 4 rfl trivial ?_
    rw [h8]
    refine mx_E_callV (sp_Mo_orderOf _ a.1.1 k hn hk) rfl rfl rfl (fun r c2 hr => ?_)
    obtain ⟨rfl, hc2⟩ := hr
    have f14 : mfr [14] c1 c2 := fun r hr => by rw [hc2]; exact mx_upR_rid _ _ _ _ (fun e => hr (by rw [e]; decide))
    have h14 : ∀ p, p < a.1.1 → c2 14 p = nI (mo a.1.1 k p) := fun p hp => by rw [hc2, mx_upR_row, fa_fill_in hp]
    have hI2 := rI_fr hI (mfr_mo f14 (by decide))
    have hS2 : ∀ j, j < aD a → c2 12 j = nI (aS a j) := fun j hj => by rw [f14 12 (by decide)]; exact hS j hj
    have g32 : c2 0 32 = mfst (aHp a) k := by rw [f14 0 (by decide)]; exact h32
    have g17 : ∀ j, j < aD a → c2 17 j = nI (fb_ct (aHf a j) k) := fun j hj => by rw [f14 17 (by decide)]; exact h17 j hj
    refine mR 1 rfl trivial ?_
    refine mx_E_callV (sp_Mo_isAsSeen _ (f := mo a.1.1 k) hI2 (fun p hp => ⟨mo_lt hn hk hp, h14 p hp⟩)) rfl rfl rfl (fun r c3 hr => ?_)
    obtain ⟨rfl, hz⟩ := hr
    rw [hz]
    have hs : fb_ct (aHp a) (k + 1) = fb_ct (aHp a) k + (if aHp a k then 1 else 0) := rfl
    refine mbT rfl (fun hb => ?_) (fun hb => ?_)
    · have hb2 : aHp a k = false := hb
      refine mR 2 rfl trivial ?_
      refine mS (lp_Mo_rankingMany hq u (k + 1) c2 (by omega) hI2 hS2 (by rw [g32, mfst_no hb2]) (fun j hj => ?_)) ?_ rfl rfl
      · rw [g17 j hj, show fb_ct (aHf a j) (k + 1) = fb_ct (aHf a j) k + (if aHf a j k then 1 else 0) from rfl, show aHf a j k = false by unfold aHf; rw [hb2]; rfl]
        rfl
      · rw [hs, hb2, nI_1]
        rfl
    · have hb2 : aHp a k = true := hb
      refine mR 2 rfl trivial ?_
      have tail : ∀ c3, c3 = mx_up c2 0 32 (mfst (aHp a) (k + 1)) → mx_E 1 4 m_Mo_rankingMany Q 44 [.ref 0, .int (nI (fb_ct (aHp a) k)), .int (nI k), .null] [] c3 := by
        intro c3 hc3
        refine mR 3 rfl trivial ?_
        rw [nI_1]
        refine lp_Mo_rankingMany_in (by omega) hb2 hk (fun c4 hI4 hS4 h32 h17 => ?_) (aD a) 0 c3 (by omega) (by rw [hc3]; exact rI_up hI2 (by decide) (by decide) (by decide) (by decide) (by decide)) (fun j hj => by rw [hc3, mx_up_id _ _ _ _ _ _ (by decide)]; exact hS2 j hj) (fun p hp => by rw [hc3, mx_up_id _ _ _ _ _ _ (by decide)]; exact h14 p hp) (by rw [hc3, mx_up_same]) (fun j hj => absurd hj (Nat.not_lt_zero j)) (fun j _ hj => by rw [hc3, mx_up_id _ _ _ _ _ _ (by decide)]; exact g17 j hj)
        refine mR 2 rfl trivial ?_
        refine mS (lp_Mo_rankingMany hq u (k + 1) c4 (by omega) hI4 hS4 h32 h17) ?_ rfl rfl
        rw [hs, hb2, nI_1]
        rfl
      by_cases hz : fb_ct (aHp a) k = 0
      · have tl := tail
        rw [hz] at tl
        rw [hz]
        refine mx_E_br rfl rfl (fun h => absurd rfl h) (fun _ => ?_)
        refine mR 3 rfl trivial ?_
        exact tl _ (by rw [mfst_0 hb2 hz])
      · refine mx_E_br rfl rfl (fun _ => ?_) (fun h => absurd (nI_ne0 (by omega) (by omega)) h)
        refine mR 3 rfl trivial ?_
        exact tail _ (by rw [mfst_s hz, g32])
theorem sp_Mo_rankingMany (c : mx_M) {a : mSt} (h : rI c a) : mx_Spec 1 4 m_Mo_rankingMany [.ref 0] c (fun r c' => r = some (.int (nI (fb_ct (aHp a) (mfact a.1.1)))) ∧ rI c' a ∧ c' 0 32 = mfst (aHp a) (mfact a.1.1) ∧ ∀ j, j < aD a → c' 17 j = nI (fb_ct (aHf a j) (mfact a.1.1))) := by
  have h63 := (rI_W h).2.1.2.1
  refine mx_Spec_E rfl rfl rfl ?_
  refine mR 3 rfl trivial ?_
  refine mx_E_callV (sp_Mo_setsOfW _ (rI_W h)) rfl rfl rfl (fun r c1 hr => ?_)
  obtain ⟨rfl, hf, hS⟩ := hr
  have h1 := rI_fr h (mfr_mo hf (by decide))
  refine mR 5 rfl trivial ?_
  obtain ⟨c2, hc2⟩ : ∃ c2, c2 = mx_up c1 0 32 (-9) := ⟨_, rfl⟩
  rw [← hc2]
  have h2 : rI c2 a := by rw [hc2]; exact rI_up h1 (by decide) (by decide) (by decide) (by decide) (by decide)
  refine mS (lp_Mo_rankingMany_0 (c := c2) ?_ 63 0 rfl) rfl rfl (by rw [fa_fill_0, mx_upR_self])
  refine mR 4 rfl trivial ?_
  refine lp_Mo_rankingMany (fun c' q1 q2 q3 => ⟨rfl, q1, q2, q3⟩) (mfact a.1.1) 0 _ (by omega) (rI_fr h2 (fun r hr => mx_upR_rid _ _ _ _ (fun e => hr (by rw [e]; decide)))) (fun j hj => ?_) ?_ (fun j hj => ?_)
  · rw [mx_upR_rid _ _ _ 12 (by decide), hc2, mx_up_id _ _ _ _ _ _ (by decide)]
    exact hS j hj
  · rw [mx_upR_rid _ _ _ 0 (by decide), hc2, mx_up_same]
    rfl
  · rw [mx_upR_row, fa_fill_in (by omega)]
    rfl
def aRankings (a : mSt) (y : Int32) : Int32 × mSt := if mi y 2 then ((if y = 0 then nI (fb_ct (aHp a) (mfact a.1.1)) else mfst (aHp a) (mfact a.1.1)), a) else mBAD a
theorem qr_rankings {c : mx_M} {a : mSt} (y : Int32) (h : rI c a) : mx_Spec 1 5 m_Mo_rankings [.ref 0, .int y] c (fun r c' => r = some (.int (aRankings a y).1) ∧ rI c' (aRankings a y).2) := by
  have h0 := rI_0 0 h
  refine mx_Spec_E rfl rfl rfl ?_
  refine mR 6 rfl trivial ?_
  refine mx_E_callS (sp_Mo_in _ _ _ _) rfl rfl rfl (fun r c1 hr => ?_)
  obtain ⟨rfl, hz⟩ := hr
  rw [hz, show decide ((0 : Int32) ≤ y ∧ y ≤ 1) = mi y 2 from in_mk y 1 (by decide)]
  unfold aRankings
  refine mbF rfl (fun hb => ?_) (fun hb => ?_)
  · rw [hb]
    refine mR 1 rfl trivial ?_
    refine mx_E_callV (sp_Mo_rankingMany _ h0) rfl rfl rfl (fun r c1 hr => ?_)
    obtain ⟨rfl, hI, h32, -⟩ := hr
    refine mR 2 rfl trivial ?_
    refine mx_E_br rfl rfl (fun hc => ?_) (fun hc => ?_)
    · refine mR 2 rfl trivial ?_
      rw [h32]
      refine mx_E_iret rfl rfl ⟨?_, hI⟩
      rw [if_neg hc]
      rfl
    · refine mR 2 rfl trivial ?_
      refine mx_E_iret rfl rfl ⟨?_, hI⟩
      rw [if_pos (Decidable.not_not.mp hc)]
      rfl
  · rw [hb]
    refine mR 1 rfl trivial ?_
    exact mx_E_iret rfl rfl ⟨rfl, h0⟩
/-- of a vote: the greater of those rankings that vote for either branch -/
def aGr (a : mSt) (N e : Nat) : Nat := if N - fb_ct (aHf a e) (mfact a.1.1) < fb_ct (aHf a e) (mfact a.1.1) then fb_ct (aHf a e) (mfact a.1.1) else N - fb_ct (aHf a e) (mfact a.1.1)
/-- the vote with the smallest greater one, of those ahead of e; and how small -/
def aWt (a : mSt) (N : Nat) : Nat → Int32 × Nat
  | 0 => (-9, 9999)
  | e + 1 => if (aK a e).isNone = true ∧ aGr a N e < (aWt a N e).2 then (nI e, aGr a N e) else aWt a N e
theorem aWt_le (a : mSt) (N : Nat) : ∀ e, (aWt a N e).2 ≤ 9999
  | 0 => Nat.le_refl _
  | e + 1 => by
    have ih := aWt_le a N e
    show (if (aK a e).isNone = true ∧ aGr a N e < (aWt a N e).2 then (nI e, aGr a N e) else aWt a N e).2 ≤ 9999
    split
    · rename_i h
      exact Nat.le_of_lt (Nat.lt_of_lt_of_le h.2 ih)
    · exact ih
theorem aHf_le (a : mSt) (e : Nat) : ∀ N, fb_ct (aHf a e) N ≤ fb_ct (aHp a) N
  | 0 => Nat.le_refl _
  | N + 1 => by
    have ih := aHf_le a e N
    show fb_ct (aHf a e) N + (if aHf a e N then 1 else 0) ≤ fb_ct (aHp a) N + (if aHp a N then 1 else 0)
    have e1 : (if aHf a e N then 1 else 0) ≤ (if aHp a N then 1 else 0) := by
      unfold aHf
      cases aHp a N
      · exact Nat.le_refl _
      · simp only [Bool.true_and, if_true]
        split <;> omega
    omega
def aWatch (a : mSt) : Int32 × mSt := ((if 1 < fb_ct (aHp a) (mfact a.1.1) then (aWt a (fb_ct (aHp a) (mfact a.1.1)) (aD a)).1 else -9), a)
theorem lp_Mo_watch {Q : Option Value → mx_M → Prop} {c : mx_M} {a : mSt} {N : Nat} (hI : rI c a) (hN : N = fb_ct (aHp a) (mfact a.1.1)) (h1 : 1 < N) (h17 : ∀ j, j < aD a → c 17 j = nI (fb_ct (aHf a j) (mfact a.1.1))) (hq : Q (some (.int (aWt a N (aD a)).1)) c) :
    ∀ (u e : Nat), e + u = aD a → mx_E 1 5 m_Mo_watch Q 12 [.ref 0, .int (nI N), .int (aWt a N e).1, .int (nI (aWt a N e).2), .int (nI e), .null] [] c
  | 0, e, h => by
    have ee : e = aD a := by omega
    have h63 := (rI_W hI).2.1.2.1
    rw [ee]
    refine mR 5 rfl (mA1 (mI (n := 54) (by decide))) ?_
    rw [c54, (rI_W hI).2.2.1]
    refine mbGe _ _ rfl (by omega) (by omega) (fun _ => ?_) (fun h => by omega)
    refine mR 1 rfl trivial ?_
    exact mx_E_iret rfl rfl hq
  | u + 1, e, h => by
    obtain ⟨h6, hM, hT⟩ := rI_W hI
    have h63 := hM.2.1
    have he : e < aD a := by omega
    have hfl := mfact_le a.1.1 (by omega)
    have hNl := fb_ct_le (aHp a) (mfact a.1.1)
    have hfe := aHf_le a e (mfact a.1.1)
    have hle := aWt_le a N e
    have gr : aGr a N e ≤ N := by unfold aGr; split <;> omega
    refine mR 5 rfl (mA1 (mI (n := 54) (by decide))) ?_
    rw [c54, hT.1]
    refine mbGe _ _ rfl (by omega) (by omega) (fun h => by omega) (fun _ => ?_)
    refine mR 2 rfl trivial ?_
    rw [show (1 : Int32) = nI 1 from rfl]
    refine mbLe _ _ rfl (by omega) (by omega) (fun h => by omega) (fun _ => ?_)
    have hs : aWt a N (e + 1) = if (aK a e).isNone = true ∧ aGr a N e < (aWt a N e).2 then (nI e, aGr a N e) else aWt a N e := rfl
    have tail : ∀ x, x = nI (aGr a N e) → mx_E 1 5 m_Mo_watch Q 43 [.ref 0, .int (nI N), .int (aWt a N e).1, .int (nI (aWt a N e).2), .int (nI e), .null] [.int x] c := by
      intro x hx
      rw [hx]
      refine mR 3 rfl trivial ?_
      refine mx_E_callV (sp_Mo_isVote _ hI he) rfl rfl rfl (fun r c2 hr => ?_)
      obtain ⟨rfl, hz⟩ := hr
      rw [hz]
      refine mbT rfl (fun hb => ?_) (fun hb => ?_)
      · refine mR 2 rfl trivial ?_
        refine mW (lp_Mo_watch hI hN h1 h17 hq u (e + 1) (by omega)) ⟨Or.inr rfl, Or.inr rfl, Or.inr ?_, Or.inr ?_, Or.inr (by rw [nI_1]), Or.inl rfl, trivial⟩ rfl rfl
        · rw [hs, if_neg (fun z => by rw [hb] at z; exact absurd z.1 (by decide))]
        · rw [hs, if_neg (fun z => by rw [hb] at z; exact absurd z.1 (by decide))]
      · refine mR 2 rfl trivial ?_
        refine mbGe _ _ rfl (by omega) (by omega) (fun hc => ?_) (fun hc => ?_)
        · refine mR 2 rfl trivial ?_
          refine mW (lp_Mo_watch hI hN h1 h17 hq u (e + 1) (by omega)) ⟨Or.inr rfl, Or.inr rfl, Or.inr ?_, Or.inr ?_, Or.inr (by rw [nI_1]), Or.inl rfl, trivial⟩ rfl rfl
          · rw [hs, if_neg (fun z => by omega)]
          · rw [hs, if_neg (fun z => by omega)]
        · refine mR 6 rfl trivial ?_
          refine mW (lp_Mo_watch hI hN h1 h17 hq u (e + 1) (by omega)) ⟨Or.inr rfl, Or.inr rfl, Or.inr ?_, Or.inr ?_, Or.inr (by rw [nI_1]), Or.inl rfl, trivial⟩ rfl rfl
          · rw [hs, if_pos ⟨hb, hc⟩]
          · rw [hs, if_pos ⟨hb, hc⟩]
    refine mR 10 rfl (mA2 (mI (by omega)) (mI (by omega))) ?_
    rw [nI_cl (a := e) (by omega), h17 e he, pk_sub (by omega)]
    refine mbLe _ _ rfl (by omega) (by omega) (fun hc => ?_) (fun hc => ?_)
    · refine mR 6 rfl (mA1 (mI (by omega))) ?_
      rw [nI_cl (a := e) (by omega), h17 e he, pk_sub (by omega)]
      exact tail _ (by unfold aGr; rw [if_neg (by omega)])
    · refine mR 5 rfl (mA1 (mI (by omega))) ?_
      rw [nI_cl (a := e) (by omega), h17 e he]
      exact tail _ (by unfold aGr; rw [if_pos (by omega)])
theorem qr_watch {c : mx_M} {a : mSt} (h : rI c a) : mx_Spec 1 5 m_Mo_watch [.ref 0] c (fun r c' => r = some (.int (aWatch a).1) ∧ rI c' (aWatch a).2) := by
  have h0 := rI_0 0 h
  obtain ⟨h6, hM, hT⟩ := rI_W h0
  have hfl := mfact_le a.1.1 (by omega)
  have hNl := fb_ct_le (aHp a) (mfact a.1.1)
  refine mx_Spec_E rfl rfl rfl ?_
  refine mR 4 rfl trivial ?_
  refine mx_E_callV (sp_Mo_rankingMany _ h0) rfl rfl rfl (fun r c1 hr => ?_)
  obtain ⟨rfl, hI, -, h17⟩ := hr
  refine mR 7 rfl trivial ?_
  unfold aWatch
  by_cases h1 : 1 < fb_ct (aHp a) (mfact a.1.1)
  · rw [if_pos h1]
    exact lp_Mo_watch hI rfl h1 h17 ⟨rfl, hI⟩ (aD a) 0 (by omega)
  · rw [if_neg h1]
    refine mR 5 rfl (mA1 (mI (n := 54) (by decide))) ?_
    rw [c54, (rI_W hI).2.2.1]
    have h63 := hM.2.1
    have h1d := hM.1
    refine mbGe 0 _ rfl (by omega) (by omega) (fun h => by omega) (fun _ => ?_)
    refine mR 2 rfl trivial ?_
    rw [show (1 : Int32) = nI 1 from rfl]
    refine mbLe _ _ rfl (by omega) (by omega) (fun _ => ?_) (fun h => by omega)
    refine mR 1 rfl trivial ?_
    exact mx_E_iret rfl rfl ⟨rfl, hI⟩
