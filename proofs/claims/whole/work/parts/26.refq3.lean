/-- the state with what is done noted -/
def aN (a : mSt) : mSt := (a.1, a.2.1, a.2.2.1, a.2.2.2.1, aNote a, a.2.2.2.2.2)
theorem rI_und {c c' : mx_M} {a : mSt} {U : Nat × (Nat → mPic)} (h : rI c a) (h0 : ∀ k, k ≠ 16 → c' 0 k = c 0 k) (hf : mfr [0, 5] c c') (hu : c' 0 16 = nI U.1 ∧ U.1 ≤ 10 ∧ ∀ i, i < U.1 → rP (fun k => c' 5 (244 * i + k)) a.1.1 a.1.2 (U.2 i)) : rI c' (a.1, a.2.1, a.2.2.1, a.2.2.2.1, U, a.2.2.2.2.2) := by
  obtain ⟨g1, g2, g3, g4, g5, g6⟩ := h
  refine ⟨?_, ?_, ?_, ?_, hu, ?_⟩
  · rw [h0 8 (by decide), h0 9 (by decide)]; exact g1
  · rw [hf 3 (by decide)]; exact g2
  · rw [h0 2 (by decide), hf 1 (by decide)]; exact g3
  · rw [h0 22 (by decide), hf 8 (by decide), hf 9 (by decide), hf 10 (by decide)]; exact g4
  · rw [hf 7 (by decide), hf 6 (by decide)]; exact g6
theorem sp_Mo_notes (c : mx_M) {a : mSt} (h : rI c a) : mx_Spec 1 1 m_Mo_notes [.ref 0] c (fun r c' => r = none ∧ rI c' (aN a) ∧ mfr [0, 5] c c' ∧ ∀ k, k ≠ 16 → c' 0 k = c 0 k) := by
  obtain ⟨h8, h9, hn, hm⟩ := h.1
  obtain ⟨u16, u10, uP⟩ := h.2.2.2.2.1
  refine mx_Spec_E rfl rfl rfl ?_
  refine mR 3 rfl trivial ?_
  rw [u16, show (10 : Int32) = nI 10 from rfl]
  refine mbNe _ _ rfl (by omega) (by decide) (fun hu => ?_) (fun hu => ?_)
  · refine mR 2 rfl trivial ?_
    refine mS (lp_Mo_notes2 (w := a.2.2.2.2.1.1) (by omega) u16 ?_ 244 0 rfl) rfl rfl (by rw [fb_put_0, mx_upR_self])
    refine mR 6 rfl trivial ?_
    rw [mx_upR_rid _ _ _ 0 (by decide), u16, nI_1]
    have f1 : ∀ k, k ≠ 16 → mx_up (mx_upR c 5 (fb_put (c 5) (fun j => c 3 j) (244 * a.2.2.2.2.1.1) 244)) 0 16 (nI (a.2.2.2.2.1.1 + 1)) 0 k = c 0 k := fun k hk => by rw [mx_up_ix _ _ _ _ _ _ hk, mx_upR_rid _ _ _ 0 (by decide)]
    have f2 : mfr [0, 5] c (mx_up (mx_upR c 5 (fb_put (c 5) (fun j => c 3 j) (244 * a.2.2.2.2.1.1) 244)) 0 16 (nI (a.2.2.2.2.1.1 + 1))) := mfr_up (fun r hr => mx_upR_rid _ _ _ _ (fun e => hr (by rw [e]; decide))) (by decide)
    refine mx_E_vret rfl rfl ⟨rfl, ?_, f2, f1⟩
    refine rI_und h f1 f2 ?_
    unfold aNote
    rw [if_neg hu]
    refine ⟨mx_up_same _ _ _ _, by show a.2.2.2.2.1.1 + 1 ≤ 10; omega, fun i hi => ?_⟩
    have hi2 : i < a.2.2.2.2.1.1 + 1 := hi
    show rP _ _ _ (if i = a.2.2.2.2.1.1 then a.2.1 else a.2.2.2.2.1.2 i)
    rw [mx_up_rid _ _ _ _ 5 (by decide), mx_upR_row]
    by_cases e : i = a.2.2.2.2.1.1
    · rw [if_pos e]
      exact rP_of hn.2 hm h.2.1 (fun k hk => by rw [e, fb_put_in (by omega) (by omega)]; congr 1; omega)
    · rw [if_neg e]
      exact rP_of hn.2 hm (uP i (by omega)) (fun k hk => by rw [fb_put_out (by omega)])
  · refine mR 2 rfl trivial ?_
    refine mS (lp_Mo_notes1 ?_ 2196 0 rfl) rfl rfl (by rw [fb_put_0, mx_upR_self])
    refine mR 5 rfl trivial ?_
    obtain ⟨c2, hc2⟩ : ∃ c2, c2 = mx_up (mx_upR c 5 (fb_put (c 5) (fun j => c 5 (j + 244)) 0 2196)) 0 16 9 := ⟨_, rfl⟩
    rw [← hc2]
    have k16 : c2 0 16 = nI 9 := by rw [hc2, mx_up_same]; rfl
    have k5 : c2 5 = fb_put (c 5) (fun j => c 5 (j + 244)) 0 2196 := by rw [hc2, mx_up_rid _ _ _ _ 5 (by decide), mx_upR_row]
    have k3 : c2 3 = c 3 := by rw [hc2, mx_up_rid _ _ _ _ 3 (by decide), mx_upR_rid _ _ _ 3 (by decide)]
    refine mS (lp_Mo_notes2 (w := 9) (by omega) k16 ?_ 244 0 rfl) rfl rfl (by rw [fb_put_0, mx_upR_self])
    refine mR 6 rfl trivial ?_
    rw [mx_upR_rid _ _ _ 0 (by decide), k16, nI_1]
    have f1 : ∀ k, k ≠ 16 → mx_up (mx_upR c2 5 (fb_put (c2 5) (fun j => c2 3 j) (244 * 9) 244)) 0 16 (nI (9 + 1)) 0 k = c 0 k := fun k hk => by rw [mx_up_ix _ _ _ _ _ _ hk, mx_upR_rid _ _ _ 0 (by decide), hc2, mx_up_ix _ _ _ _ _ _ hk, mx_upR_rid _ _ _ 0 (by decide)]
    have f2 : mfr [0, 5] c (mx_up (mx_upR c2 5 (fb_put (c2 5) (fun j => c2 3 j) (244 * 9) 244)) 0 16 (nI (9 + 1))) := mfr_up (fun r hr => by
      rw [mx_upR_rid _ _ _ _ (fun e => hr (by rw [e]; decide)), hc2, mx_up_rid _ _ _ _ _ (fun e => hr (by rw [e]; decide)), mx_upR_rid _ _ _ _ (fun e => hr (by rw [e]; decide))]) (by decide)
    refine mx_E_vret rfl rfl ⟨rfl, ?_, f2, f1⟩
    refine rI_und h f1 f2 ?_
    unfold aNote
    rw [if_pos hu]
    refine ⟨mx_up_same _ _ _ _, Nat.le_refl 10, fun i hi => ?_⟩
    have hi2 : i < 10 := hi
    show rP _ _ _ (if i = 9 then a.2.1 else a.2.2.2.2.1.2 (i + 1))
    rw [mx_up_rid _ _ _ _ 5 (by decide), mx_upR_row, k5, k3]
    by_cases e : i = 9
    · rw [if_pos e]
      exact rP_of hn.2 hm h.2.1 (fun k hk => by rw [e, fb_put_in (by omega) (by omega), Nat.add_sub_cancel_left])
    · rw [if_neg e]
      exact rP_of hn.2 hm (uP (i + 1) (by omega)) (fun k hk => by rw [fb_put_out (by omega), fb_put_in (by omega) (by omega)]; congr 1; omega)
/-- two places of a ranking change -/
def mswp (f : Nat → Nat) (y : Nat) : Nat → Nat := fun p => if p = y then f (y + 1) else if p = y + 1 then f y else f p
theorem mswp_perm {n y : Nat} {f : Nat → Nat} (h : mperm n f) (hy : y + 1 < n) : mperm n (mswp f y) := by
  refine ⟨fun p hp => ?_, fun p q hp hq e => ?_⟩
  · unfold mswp
    split
    · exact h.1 _ hy
    · split
      · exact h.1 _ (by omega)
      · exact h.1 _ hp
  · unfold mswp at e
    have key := fun a b ha hb => h.2 a b ha hb
    by_cases p1 : p = y
    · rw [if_pos p1] at e
      by_cases q1 : q = y
      · omega
      · rw [if_neg q1] at e
        by_cases q2 : q = y + 1
        · rw [if_pos q2] at e
          have := key _ _ hy (by omega) e
          omega
        · rw [if_neg q2] at e
          have := key _ _ hy hq e
          omega
    · rw [if_neg p1] at e
      by_cases p2 : p = y + 1
      · rw [if_pos p2] at e
        by_cases q1 : q = y
        · rw [if_pos q1] at e
          have := key _ _ (by omega) hy e
          omega
        · rw [if_neg q1] at e
          by_cases q2 : q = y + 1
          · omega
          · rw [if_neg q2] at e
            have := key _ _ (by omega) hq e
            omega
      · rw [if_neg p2] at e
        by_cases q1 : q = y
        · rw [if_pos q1] at e
          have := key _ _ hp hy e
          omega
        · rw [if_neg q1] at e
          by_cases q2 : q = y + 1
          · rw [if_pos q2] at e
            have := key _ _ hp (by omega) e
            omega
          · rw [if_neg q2] at e
            exact key _ _ hp hq e
/-- the same state with another picture -/
def aPic (a : mSt) (p : mPic) : mSt := (a.1, p, a.2.2)
/-- another ranking of one member -/
def mRr (R : Nat → Nat → Nat) (i : Nat) (f : Nat → Nat) : Nat → Nat → Nat := fun j => if j = i then f else R j
def pRr (p : mPic) (i : Nat) (f : Nat → Nat) : mPic := (mRr p.1 i f, p.2)
def mall (a : mSt) : Nat := 2 ^ a.1.2 - 1
/-- what comes of a picture by a way, all being there -/
def aOut (a : mSt) (w : Nat) (p : mPic) : Nat := mout w (mall a) a.1.2 a.1.1 p.1 p.2.1 p.2.2.1 p.2.2.2
def aRanks (a : mSt) (x y : Int32) : Int32 × mSt := if mi x a.1.2 && mi y (a.1.1 - 1) then (nI (aOut a 1 (pRr a.2.1 x.toNatClampNeg (mswp (a.2.1.1 x.toNatClampNeg) y.toNatClampNeg))), aPic (aN a) (pRr a.2.1 x.toNatClampNeg (mswp (a.2.1.1 x.toNatClampNeg) y.toNatClampNeg))) else mBAD a
theorem rI_pic {c c' : mx_M} {a : mSt} {p : mPic} (h : rI c a) (hf : mfr [3] c c') (hp : rP (c' 3) a.1.1 a.1.2 p) : rI c' (aPic a p) := by
  obtain ⟨g1, g2, g3, g4, g5, g6⟩ := h
  refine ⟨?_, hp, ?_, ?_, ?_, ?_⟩
  · rw [hf 0 (by decide)]; exact g1
  · rw [hf 0 (by decide), hf 1 (by decide)]; exact g3
  · rw [hf 0 (by decide), hf 8 (by decide), hf 9 (by decide), hf 10 (by decide)]; exact g4
  · rw [hf 0 (by decide), hf 5 (by decide)]; exact g5
  · rw [hf 7 (by decide), hf 6 (by decide)]; exact g6
theorem in_m2 (x : Int32) {n : Nat} (h1 : 1 ≤ n) (hn : n < 1000000) : decide ((0 : Int32) ≤ x ∧ x ≤ nI n - 2) = mi x (n - 1) := by
  have h := in_mi x (n := n - 1) (by omega)
  rw [← h]
  congr 2
  rw [show (2 : Int32) = 1 + 1 by decide, ← Int32.sub_sub, show (1 : Int32) = nI 1 from rfl, pk_sub h1]
theorem rP_sw {g : Nat → Int32} {n m i y : Nat} {p : mPic} (hn : n ≤ 6) (hm : m ≤ 9) (hi : i < m) (hy : y + 1 < n) (h : rP g n m p) : rP (upd (upd g (6 * i + y) (nI (p.1 i (y + 1)))) (6 * i + y + 1) (nI (p.1 i y))) n m (pRr p i (mswp (p.1 i) y)) := by
  obtain ⟨h1, h2, h3, h4, h5⟩ := h
  have h63 := h3.2.1
  have out : ∀ x, x ≠ 6 * i + y → x ≠ 6 * i + y + 1 → upd (upd g (6 * i + y) (nI (p.1 i (y + 1)))) (6 * i + y + 1) (nI (p.1 i y)) x = g x := fun x e1 e2 => by rw [upd_ne _ _ _ _ e2, upd_ne _ _ _ _ e1]
  refine ⟨fun j hj => ?_, fun j q hj hq => ?_, h3, by rw [out _ (by omega) (by omega)]; exact h4, fun k hk => ?_⟩
  · show mperm n (if j = i then mswp (p.1 i) y else p.1 j)
    split
    · exact mswp_perm (h1 i hi) hy
    · exact h1 j hj
  · show _ = nI ((if j = i then mswp (p.1 i) y else p.1 j) q)
    by_cases e : j = i
    · rw [if_pos e]
      subst e
      unfold mswp
      by_cases e1 : q = y
      · rw [if_pos e1, e1, upd_ne _ _ _ _ (by omega), upd_same]
      · rw [if_neg e1]
        by_cases e2 : q = y + 1
        · rw [if_pos e2, e2, show 6 * j + (y + 1) = 6 * j + y + 1 by omega, upd_same]
        · rw [if_neg e2, out _ (by omega) (by omega)]
          exact h2 j q hj hq
    · rw [if_neg e, out _ (by omega) (by omega)]
      exact h2 j q hj hq
  · rw [out _ (by omega) (by omega), out _ (by omega) (by omega), out _ (by omega) (by omega)]
    exact h5 k hk
theorem qr_ranks {c : mx_M} {a : mSt} (x y : Int32) (h : rI c a) : mx_Spec 1 6 m_Mo_ranks [.ref 0, .int x, .int y] c (fun r c' => r = some (.int (aRanks a x y).1) ∧ rI c' (aRanks a x y).2) := by
  have h0 := rI_0 0 h
  obtain ⟨h8, h9, hn, hm⟩ := h0.1
  have h6 := hn.2
  have h2 := hn.1
  refine mx_Spec_E rfl rfl rfl ?_
  refine mR 5 rfl trivial ?_
  refine mx_E_callV (sp_Mo_isMember _ x _ h9 (by omega)) rfl rfl rfl (fun r c1 hr => ?_)
  obtain ⟨rfl, rfl⟩ := hr
  unfold aRanks
  refine mbT rfl (fun hb => ?_) (fun hb => ?_)
  · rw [hb]
    refine mR 1 rfl trivial ?_
    exact mx_E_iret rfl rfl ⟨rfl, h0⟩
  · refine mR 6 rfl trivial ?_
    rw [h8]
    refine mx_E_callS (sp_Mo_in _ _ _ _) rfl rfl rfl (fun r c1 hr => ?_)
    obtain ⟨rfl, rfl⟩ := hr
    rw [in_m2 y (by omega) (by omega)]
    refine mbF rfl (fun hb2 => ?_) (fun hb2 => ?_)
    · rw [hb, hb2]
      obtain ⟨i, hi, rfl⟩ := mi_of (by omega) hb
      obtain ⟨j, hj, rfl⟩ := mi_of (by omega) hb2
      rw [nI_cl (a := i) (by omega), nI_cl (a := j) (by omega)]
      refine mR 1 rfl trivial ?_
      refine mx_E_callV (sp_Mo_notes _ h0) rfl rfl rfl (fun r c1 hr => ?_)
      obtain ⟨rfl, hI, -, -⟩ := hr
      have er : ∀ p, p < a.1.1 → c1 3 (6 * i + p) = nI (a.2.1.1 i p) := fun p hp => hI.2.1.2.1 i p hi hp
      refine mR 9 rfl (mA1 (by rw [ix6]; exact mI (by omega))) ?_
      rw [ix6, nI_cl (a := 6 * i + j) (by omega), er j (by omega)]
      refine mR 18 rfl (mA2 (by rw [ix6, nI_1]; exact mI (by omega)) (by rw [ix6]; exact mI (by omega))) ?_
      rw [ix6, nI_1, nI_cl (a := 6 * i + j) (by omega), nI_cl (a := 6 * i + j + 1) (by omega), show 6 * i + j + 1 = 6 * i + (j + 1) by omega, er (j + 1) (by omega)]
      refine mR 11 rfl (mA1 (by rw [ix6, nI_1]; exact mI (by omega))) ?_
      rw [ix6, nI_1, nI_cl (a := 6 * i + j + 1) (by omega)]
      obtain ⟨c2, hc2⟩ : ∃ c2, c2 = mx_up (mx_up c1 3 (6 * i + j) (nI (a.2.1.1 i (j + 1)))) 3 (6 * i + j + 1) (nI (a.2.1.1 i j)) := ⟨_, rfl⟩
      rw [← hc2]
      have hf2 : mfr [3] c1 c2 := by rw [hc2]; exact mfr_up (mfr_up (mfr_rf _ _) (by decide)) (by decide)
      have hp2 : rP (c2 3) a.1.1 a.1.2 (pRr a.2.1 i (mswp (a.2.1.1 i) j)) := by
        rw [hc2, mx_up_row, mx_up_row]
        exact rP_sw h6 hm hi (by omega) hI.2.1
      have hI2 : rI c2 (aPic (aN a) (pRr a.2.1 i (mswp (a.2.1.1 i) j))) := rI_pic hI hf2 hp2
      refine mR 1 rfl trivial ?_
      refine mx_E_callV (sp_Mo_all _ _ hI2.1.2.1 hm) rfl rfl rfl (fun r c3 hr => ?_)
      obtain ⟨rfl, rfl⟩ := hr
      have hI3 := rI_up (k := 23) (x := nI (2 ^ a.1.2 - 1)) hI2 (by decide) (by decide) (by decide) (by decide) (by decide)
      refine mR 4 rfl trivial ?_
      refine mx_E_callV (sp_Mo_outcome3 (w := 1) _ (rI_V hI3 (mx_up_same _ _ _ _) (pw_lt hm)) (by decide)) rfl rfl rfl (fun r c4 hr => ?_)
      obtain ⟨rfl, hf⟩ := hr
      exact mx_E_iret rfl rfl ⟨rfl, rI_fr hI3 (mfr_mo hf (by decide))⟩
    · rw [hb2, Bool.and_false]
      refine mR 1 rfl trivial ?_
      exact mx_E_iret rfl rfl ⟨rfl, h0⟩
/-- the agenda of an order -/
def pOrd (n : Nat) (R : Nat → Nat → Nat) (f : Nat → Nat) : mPic := (R, tK f n (n - 1) (f 0), tZ (n - 1), tL (n - 1))
def aSets (a : mSt) (x : Int32) : Int32 × mSt := if mi x (mfact a.1.1) then (nI (tL (a.1.1 - 1)), aPic (aN a) (pOrd a.1.1 a.2.1.1 (mo a.1.1 x.toNatClampNeg))) else mBAD a
theorem tL_63 {n : Nat} (hn : mn n) : tL (n - 1) ≤ 63 := by
  rcases mn_cases hn with rfl | rfl | rfl | rfl | rfl <;> decide
theorem rP_ord {g : Nat → Int32} {n m : Nat} {R : Nat → Nat → Nat} {f : Nat → Nat} (hn : mn n) (hf : ∀ p, p < n → f p < n) (h1 : ∀ j, j < m → mperm n (R j)) (h2 : rRk g n m R) (h3 : rTb g (tK f n (n - 1) (f 0)) (tZ (n - 1)) (tL (n - 1))) : rP g n m (pOrd n R f) := ⟨h1, h2, mT_tree.mpr ⟨tT hf (n - 1) (f 0) (by have := hn.1; omega) (hf 0 (by have := hn.1; omega)), tL_63 hn⟩, h3⟩
theorem qr_sets {c : mx_M} {a : mSt} (x : Int32) (h : rI c a) : mx_Spec 1 3 m_Mo_sets [.ref 0, .int x] c (fun r c' => r = some (.int (aSets a x).1) ∧ rI c' (aSets a x).2) := by
  have h0 := rI_0 0 h
  obtain ⟨h8, h9, hn, hm⟩ := h0.1
  have h6 := hn.2
  have hfl := mfact_le a.1.1 (by omega)
  refine mx_Spec_E rfl rfl rfl ?_
  refine mR 7 rfl trivial ?_
  rw [h8]
  refine mx_E_callS (sp_Mo_orders _ a.1.1 (by omega)) rfl rfl rfl (fun r c1 hr => ?_)
  obtain ⟨rfl, rfl⟩ := hr
  refine mR 2 rfl trivial ?_
  refine mx_E_callS (sp_Mo_in _ _ _ _) rfl rfl rfl (fun r c1 hr => ?_)
  obtain ⟨rfl, rfl⟩ := hr
  rw [in_mi x (by omega)]
  unfold aSets
  refine mbF rfl (fun hb => ?_) (fun hb => ?_)
  · rw [hb]
    obtain ⟨i, hi, rfl⟩ := mi_of (by omega) hb
    rw [nI_cl (a := i) (by omega)]
    refine mR 1 rfl trivial ?_
    refine mx_E_callV (sp_Mo_notes _ h0) rfl rfl rfl (fun r c1 hr => ?_)
    obtain ⟨rfl, hI, -, -⟩ := hr
    refine mR 4 rfl trivial ?_
    rw [hI.1.1]
    refine mx_E_callV (sp_Mo_orderOf _ a.1.1 i hn hi) rfl rfl rfl (fun r c2 hr => ?_)
    obtain ⟨rfl, rfl⟩ := hr
    have hI2 : rI (mx_upR c1 14 (fa_fill (fun p => nI (mo a.1.1 i p)) (c1 14) a.1.1)) (aN a) := rI_fr hI (fun r hr => mx_upR_rid _ _ _ _ (fun e => hr (by rw [e]; decide)))
    have h14 : ∀ p, p < a.1.1 → (mx_upR c1 14 (fa_fill (fun p => nI (mo a.1.1 i p)) (c1 14) a.1.1)) 14 p = nI (mo a.1.1 i p) := fun p hp => by rw [mx_upR_row, fa_fill_in hp]
    generalize mx_upR c1 14 (fa_fill (fun p => nI (mo a.1.1 i p)) (c1 14) a.1.1) = c2 at hI2 h14
    refine mR 5 rfl trivial ?_
    rw [hI2.1.1]
    refine mx_E_callV (sp_Mo_lays3 _ hn (fun p hp => mo_lt hn hi hp) h14) rfl rfl rfl (fun r c3 hr => ?_)
    obtain ⟨rfl, f1, f2, f3, f4⟩ := hr
    refine mR 4 rfl (mA1 (mI (n := 54) (by decide))) ?_
    rw [c54, f4.1]
    refine mx_E_iret rfl rfl ⟨rfl, ?_⟩
    obtain ⟨g1, g2, g3, g4, g5, g6⟩ := hI2
    refine ⟨?_, ?_, ?_, ?_, ?_, ?_⟩
    · rw [f2 8 (by decide), f2 9 (by decide)]; exact g1
    · exact rP_ord hn (fun p hp => mo_lt hn hi hp) g2.1 (fun j p hj hp => by rw [f3 _ (by have : j < a.1.2 := hj; have : p < a.1.1 := hp; omega)]; exact g2.2.1 j p hj hp) f4
    · rw [f2 2 (by decide), f1 1 (by decide)]; exact g3
    · rw [f2 22 (by decide), f1 8 (by decide), f1 9 (by decide), f1 10 (by decide)]; exact g4
    · rw [f2 16 (by decide), f1 5 (by decide)]; exact g5
    · rw [f1 7 (by decide), f1 6 (by decide)]; exact g6
  · rw [hb]
    refine mR 1 rfl trivial ?_
    exact mx_E_iret rfl rfl ⟨rfl, h0⟩
