/-- a row g becomes g': an agenda is laid out from node b on, below lk -/
def rRw (g g' : Nat → Int32) (b L : Nat) (lk : Option (Nat × Nat)) (K : Nat → Option Nat) (Z : Nat → Nat) : Prop :=
  g' 54 = nI (b + L) ∧
  (∀ j, j < L → g' (55 + (b + j)) = kI (K j) ∧ (K j = none → g' (118 + (b + j)) = nI (b + j + 1) ∧ g' (181 + (b + j)) = nI (b + j + 1 + Z (j + 1))) ∧ (K j ≠ none → g' (118 + (b + j)) = -9 ∧ g' (181 + (b + j)) = -9)) ∧
  (∀ x, lkX lk = some x → g' x = nI b) ∧
  (∀ x, (x < 54 ∨ (55 ≤ x ∧ x < 55 + b) ∨ (118 ≤ x ∧ x < 118 + b) ∨ (181 ≤ x ∧ x < 181 + b)) → lkX lk ≠ some x → g' x = g x)
theorem rRw_join {c1 c2 : mx_M} {g g5 g6 : Nat → Int32} {i b L1 L2 n : Nat} {lk : Option (Nat × Nat)} {K1 K2 : Nat → Option Nat} {Z1 Z2 : Nat → Nat} (hb : b + (1 + L1 + L2) ≤ 63) (hl : lkOk lk b) (t1 : mT n K1 Z1 L1) (t2 : mT n K2 Z2 L2)
    (h2 : rCt c1 c2 i b lk) (hg : c1 i = g) (h5 : rRw (c2 i) g5 (b + 1) L1 (some (b, 0)) K1 Z1) (h6 : rRw g5 g6 (b + 1 + L1) L2 (some (b, 1)) K2 Z2) :
    rRw g g6 b (1 + L1 + L2) lk (jK L1 K1 K2) (jZ L1 L2 Z1 Z2) := by
  obtain ⟨a1, a2, a3, a4, a5, a6, a7⟩ := h2
  obtain ⟨x5, x6, x7, x8⟩ := h5
  obtain ⟨y5, y6, y7, y8⟩ := h6
  have lx1 : lkX (some (b, 0)) = some (118 + b) := rfl
  have lx2 : lkX (some (b, 1)) = some (181 + b) := rfl
  have q1 := t1.1
  have q2 := t2.1
  refine ⟨?_, ?_, ?_, ?_⟩
  · rw [y5]
    congr 1
    omega
  · intro j hj
    match j, hj with
    | 0, _ =>
      have e0 : g6 (55 + b) = -9 := by rw [y8 _ (by omega) (by rw [lx2]; intro z; injection z; omega), x8 _ (by omega) (by rw [lx1]; intro z; injection z; omega)]; exact a3
      have e1 : g6 (118 + b) = nI (b + 1) := by rw [y8 _ (by omega) (by rw [lx2]; intro z; injection z; omega)]; exact x7 _ lx1
      have e2 : g6 (181 + b) = nI (b + 1 + L1) := y7 _ lx2
      refine ⟨e0, fun _ => ⟨e1, ?_⟩, fun h => absurd rfl h⟩
      show g6 (181 + b) = nI (b + 1 + jZ L1 L2 Z1 Z2 (0 + 1))
      rw [e2, jZ_1 (by omega), t1.2.1]
    | j + 1, hj =>
      rcases Nat.lt_or_ge j L1 with hj1 | hj1
      · obtain ⟨g1, g2, g3⟩ := x6 j hj1
        rw [jK_1 hj1]
        have ea : ∀ w, w = 55 ∨ w = 118 ∨ w = 181 → g6 (w + (b + (j + 1))) = g5 (w + (b + 1 + j)) := by
          intro w hw
          rw [show w + (b + (j + 1)) = w + (b + 1 + j) by omega]
          exact y8 _ (by omega) (by rw [lx2]; intro z; injection z; omega)
        rw [ea 55 (by simp), ea 118 (by simp), ea 181 (by simp)]
        refine ⟨g1, fun e => ?_, g3⟩
        obtain ⟨e1, e2⟩ := g2 e
        obtain ⟨-, -, -, -, m5, -⟩ := mT_vote t1 hj1 e
        rw [jZ_1 m5]
        exact ⟨by rw [e1]; congr 1; omega, by rw [e2]; congr 1; omega⟩
      · obtain ⟨k, rfl⟩ : ∃ k, j = L1 + k := ⟨j - L1, by omega⟩
        obtain ⟨g1, g2, g3⟩ := y6 k (by omega)
        rw [jK_2]
        have ea : ∀ w, w + (b + (L1 + k + 1)) = w + (b + 1 + L1 + k) := by intro w; omega
        rw [ea 55, ea 118, ea 181]
        refine ⟨g1, fun e => ?_, g3⟩
        obtain ⟨e1, e2⟩ := g2 e
        rw [show L1 + k + 1 + 1 = L1 + (k + 1) + 1 by omega, jZ_2]
        exact ⟨by rw [e1]; congr 1; omega, by rw [e2]; congr 1; omega⟩
  · intro x hx
    have hlt := lkX_lt hl hx
    rw [y8 _ (by omega) (by rw [lx2]; intro z; injection z; omega), x8 _ (by omega) (by rw [lx1]; intro z; injection z; omega)]
    exact a6 x hx
  · intro x hx hn
    rw [y8 _ (by omega) (by rw [lx2]; intro z; injection z; omega), x8 _ (by omega) (by rw [lx1]; intro z; injection z; omega), a7 x (by omega) (by omega) (by omega) (by omega) hn, hg]
theorem rRw_leaf {c1 c2 : mx_M} {g : Nat → Int32} {i b its : Nat} {lk : Option (Nat × Nat)} (hb : b + 1 ≤ 63) (hl : lkOk lk b) (h2 : rCt c1 c2 i b lk) (hg : c1 i = g) : rRw g (mx_up c2 i (55 + b) (nI its) i) b 1 lk (fun _ => some its) (fun _ => 1) := by
  obtain ⟨a1, a2, a3, a4, a5, a6, a7⟩ := h2
  refine ⟨?_, ?_, ?_, ?_⟩
  · rw [mx_up_ix _ _ _ _ _ _ (by omega)]
    exact a2
  · intro j hj
    have e : j = 0 := by omega
    subst e
    refine ⟨by rw [Nat.add_zero, mx_up_same]; rfl, fun h => (by cases h), fun _ => ?_⟩
    rw [Nat.add_zero, mx_up_ix _ _ _ _ _ _ (by omega), mx_up_ix _ _ _ _ _ _ (by omega)]
    exact ⟨a4, a5⟩
  · intro x hx
    have hlt := lkX_lt hl hx
    rw [mx_up_ix _ _ _ _ _ _ (by omega)]
    exact a6 x hx
  · intro x hx hn
    rw [mx_up_ix _ _ _ _ _ _ (by omega), a7 x (by omega) (by omega) (by omega) (by omega) hn, hg]
abbrev agF : List Nat := [3, 4, 5, 6, 7, 29]
theorem rCt_Fr {c c' : mx_M} {b : Nat} {lk : Option (Nat × Nat)} (h : rCt c c' 2 b lk) : rFr [2, 15] agF c c' := ⟨mfr_mo h.1 (by decide), fun k _ => by rw [h.1 0 (by decide)]⟩
theorem rPi_Fr {c c' : mx_M} {q : Nat} {w1 w2 w3 w4 : Int32} (h : rPi c c' q w1 w2 w3 w4) : rFr [2, 15] agF c c' := ⟨mfr_mo h.1 (by decide), fun k hk => h.2.1 k (fun e => hk (by rw [e]; decide))⟩
theorem rPi_Fr0 {c c' : mx_M} {q : Nat} {w1 w2 w3 w4 : Int32} (h : rPi c c' q w1 w2 w3 w4) : rFr [15] [29] c c' := ⟨mfr_mo h.1 (by decide), fun k hk => h.2.1 k (fun e => hk (by rw [e]; decide))⟩
theorem rCt_Fr0 {c c' : mx_M} {b : Nat} {lk : Option (Nat × Nat)} (h : rCt c c' 2 b lk) : rFr [2] [] c c' := ⟨mfr_mo h.1 (by decide), fun k _ => by rw [h.1 0 (by decide)]⟩
/-- an entry of the pile, of four -/
def rPf (c : mx_M) (w : Nat) (w1 : Int32) (w3 w4 : Int32) : Prop := c 15 (4 * w) = w1 ∧ c 15 (4 * w + 2) = w3 ∧ c 15 (4 * w + 3) = w4
/-- from the loop's head to where the entry is known -/
theorem ag_pop {Q : Option Value → mx_M → Prop} {c : mx_M} {w : Nat} {w1 w3 w4 : Int32} (hw : w < 64) (h29 : c 0 29 = nI (w + 1)) (h7 : c 0 7 = -1) (hp : rPf c w w1 w3 w4) (hk : mx_E 1 5 m_Mo_readsAgenda Q 54 [.ref 0, .int w1, .int w3, .int w4, .null, .null, .null] [] (mx_up c 0 29 (nI w))) : mx_E 1 5 m_Mo_readsAgenda Q 14 [.ref 0, .null, .null, .null, .null, .null, .null] [] c := by
  obtain ⟨e0, e2, e3⟩ := hp
  refine mR 2 rfl trivial ?_
  rw [h29]
  refine mx_E_br rfl rfl (fun h => absurd h (nI_nle (by omega) (by omega))) (fun _ => ?_)
  refine mR 1 rfl trivial ?_
  refine mx_E_callV (sp_Mo_well _ h7) rfl rfl rfl (fun rr c2 hr2 => ?_)
  obtain ⟨rfl, hz⟩ := hr2
  rw [hz]
  refine mbT rfl (fun h => by cases h) (fun _ => ?_)
  refine mR 6 rfl trivial ?_
  rw [h29, nI_p1]
  have g29 : mx_up c 0 29 (nI w) 0 29 = nI w := mx_up_same _ _ _ _
  have g15 : ∀ z, mx_up c 0 29 (nI w) 15 z = c 15 z := fun z => mx_up_id _ _ _ _ _ _ (by decide)
  refine mR 28 rfl (mA3 (by rw [g29, m4q]; exact mI (by omega)) (by rw [g29, m4q, show (2 : Int32) = nI 2 from rfl, ix4]; exact mI (by omega)) (by rw [g29, m4q, show (3 : Int32) = nI 3 from rfl, ix4]; exact mI (by omega))) ?_
  rw [g29, m4q, show nI (4 * w) + (2 : Int32) = nI (4 * w + 2) from ix4 w 2, show nI (4 * w) + (3 : Int32) = nI (4 * w + 3) from ix4 w 3, nI_cl (a := 4 * w) (by omega), nI_cl (a := 4 * w + 2) (by omega), nI_cl (a := 4 * w + 3) (by omega), g15, g15, g15, e0, e2, e3]
  exact hk
theorem lp_Mo_readsAgenda {Q : Option Value → mx_M → Prop} {x : pX} {n : Nat} (hn : n ≤ 6) :
    ∀ (f q b w : Nat) (lk : Option (Nat × Nat)) (c : mx_M), 31 ≤ f + b → q ≤ x.1 → b ≤ 31 → w ≤ 2 * b → lkOk lk b → c 0 29 = nI (w + 1) → rPf c w 0 (lkI lk) (nI (lkB lk)) → c 2 54 = nI b → rTx c x → rTok c x q → c 0 7 = -1 → c 0 10 = nI n →
      (∀ c' r, pAg x n f q b = .ok r → rFr [2, 15] agF c c' → c' 0 29 = nI w → (∀ z, z < 4 * w → c' 15 z = c 15 z) → rRw (c 2) (c' 2) b r.2.2.2 lk r.2.1 r.2.2.1 → rTok c' x r.1 → c' 0 7 = -1 → mx_E 1 5 m_Mo_readsAgenda Q 14 [.ref 0, .null, .null, .null, .null, .null, .null] [] c') →
      (∀ c' e, pAg x n f q b = .error e → rFr [2, 15] agF c c' → c' 0 7 = nI e → e < 1000 → mx_E 1 5 m_Mo_readsAgenda Q 14 [.ref 0, .null, .null, .null, .null, .null, .null] [] c') →
      mx_E 1 5 m_Mo_readsAgenda Q 14 [.ref 0, .null, .null, .null, .null, .null, .null] [] c := by
  intro f
  induction f with
  | zero =>
    intro q b w lk c hfb hq hb hw hl h29 hpf h54 hx ht h7 h10 hk he
    have h120 := hx.2.1
    have hs := tS_le x hq
    refine ag_pop (by omega) h29 h7 hpf ?_
    obtain ⟨c1, hc1⟩ : ∃ c1, c1 = mx_up c 0 29 (nI w) := ⟨_, rfl⟩
    rw [← hc1]
    have hf1 : rFr [] [29] c c1 := by rw [hc1]; exact rFr_up (rFr_rf _ _ _) (by decide)
    have ht1 := rTok_fr ht hf1 (by decide) (by decide) (by decide) (by decide)
    have g7 : c1 0 7 = -1 := by rw [hf1.2 7 (by decide)]; exact h7
    have g10 : c1 0 10 = nI n := by rw [hf1.2 10 (by decide)]; exact h10
    have g54 : c1 2 54 = nI b := by rw [hf1.1 2 (by decide)]; exact h54
    refine mR 2 rfl trivial ?_
    refine mx_E_br rfl rfl (fun _ => ?_) (fun h => absurd (by decide) h)
    have bad : ∀ v : Int32, mx_E 1 5 m_Mo_readsAgenda Q 98 [.ref 0, .int 0, .int (lkI lk), .int (nI (lkB lk)), .int v, .null, .null] [.ref 0] c1 := by
      intro v
      refine mR 1 rfl trivial ?_
      refine mx_E_callV (sp_Mo_takesF _ ht1 g7) rfl rfl rfl (fun rr c2 hr2 => ?_)
      obtain ⟨rfl, hz⟩ := hr2
      have f7 : c2 0 7 = nI (tS x q) := by rw [hz, mx_up_same]
      refine mR 2 rfl trivial ?_
      refine mx_E_callV (sp_Mo_ill _ (by omega) f7) rfl rfl rfl (fun rr c3 hr2 => ?_)
      obtain ⟨rfl, hz3⟩ := hr2
      rw [hz3]
      refine mbT rfl (fun _ => ?_) (fun h => by cases h)
      refine mR 1 rfl trivial ?_
      refine mW (he c2 (tS x q) rfl ?_ f7 (by omega)) ⟨Or.inr rfl, Or.inl rfl, Or.inl rfl, Or.inl rfl, Or.inl rfl, Or.inl rfl, Or.inl rfl, trivial⟩ rfl rfl
      rw [hz]
      exact rFr_up (rFr_mo hf1 (by decide) (by decide)) (by decide)
    have j90 : ∀ v : Int32, mx_E 1 5 m_Mo_readsAgenda Q 90 [.ref 0, .int 0, .int (lkI lk), .int (nI (lkB lk)), .int v, .null, .null] [.ref 0] c1 := by
      intro v
      refine mR 5 rfl (mA1 (mI (n := 54) (by decide))) ?_
      rw [c54, g54, show (31 : Int32) = nI 31 from rfl]
      refine mbGe _ _ rfl (by omega) (by omega) (fun _ => bad v) (fun h => by omega)
    have j84 : ∀ t : Bool, mx_E 1 5 m_Mo_readsAgenda Q 83 [.ref 0, .int 0, .int (lkI lk), .int (nI (lkB lk)), .null, .null, .null] [.int (mz t)] c1 := by
      intro t
      refine mR 3 rfl trivial ?_
      refine mbF rfl (fun _ => j90 _) (fun _ => ?_)
      refine mR 1 rfl trivial ?_
      refine mx_E_callV (sp_Mo_isMotionSign _ hx.2.2.2 ht1 hn g10) rfl rfl rfl (fun rr c2 hr2 => ?_)
      obtain ⟨rfl, hz⟩ := hr2
      rw [hz]
      refine mbT rfl (fun _ => bad _) (fun _ => j90 _)
    refine mR 3 rfl trivial ?_
    refine mx_E_br rfl rfl (fun _ => ?_) (fun _ => ?_)
    · refine mR 1 rfl trivial ?_
      exact j84 false
    · refine mR 3 rfl trivial ?_
      refine mx_E_br rfl rfl (fun _ => ?_) (fun _ => ?_)
      · refine mR 1 rfl trivial ?_
        exact j84 false
      · refine mR 2 rfl trivial ?_
        exact j84 true
  | succ f ih =>
    intro q b w lk c hfb hq hb hw hl h29 hpf h54 hx ht h7 h10 hk he
    have h120 := hx.2.1
    have hs := tS_le x hq
    have hE := tE_le hq
    refine ag_pop (by omega) h29 h7 hpf ?_
    obtain ⟨c1, hc1⟩ : ∃ c1, c1 = mx_up c 0 29 (nI w) := ⟨_, rfl⟩
    rw [← hc1]
    have hf1 : rFr [] [29] c c1 := by rw [hc1]; exact rFr_up (rFr_rf _ _ _) (by decide)
    have ht1 := rTok_fr ht hf1 (by decide) (by decide) (by decide) (by decide)
    have hx1 := rTx_fr hx hf1 (by decide) (by decide)
    have g7 : c1 0 7 = -1 := by rw [hf1.2 7 (by decide)]; exact h7
    have g10 : c1 0 10 = nI n := by rw [hf1.2 10 (by decide)]; exact h10
    have g54 : c1 2 54 = nI b := by rw [hf1.1 2 (by decide)]; exact h54
    have g29 : c1 0 29 = nI w := by rw [hc1, mx_up_same]
    have hkl := kd_lt x q
    refine mR 2 rfl trivial ?_
    refine mx_E_br rfl rfl (fun _ => ?_) (fun h => absurd (by decide) h)
    have bad : ∀ v : Int32, pAg x n (f + 1) q b = .error (tS x q) → mx_E 1 5 m_Mo_readsAgenda Q 98 [.ref 0, .int 0, .int (lkI lk), .int (nI (lkB lk)), .int v, .null, .null] [.ref 0] c1 := by
      intro v hv
      refine mR 1 rfl trivial ?_
      refine mx_E_callV (sp_Mo_takesF _ ht1 g7) rfl rfl rfl (fun rr c2 hr2 => ?_)
      obtain ⟨rfl, hz⟩ := hr2
      have f7 : c2 0 7 = nI (tS x q) := by rw [hz, mx_up_same]
      refine mR 2 rfl trivial ?_
      refine mx_E_callV (sp_Mo_ill _ (by omega) f7) rfl rfl rfl (fun rr c3 hr2 => ?_)
      obtain ⟨rfl, hz3⟩ := hr2
      rw [hz3]
      refine mbT rfl (fun _ => ?_) (fun h => by cases h)
      refine mR 1 rfl trivial ?_
      refine mW (he c2 (tS x q) hv ?_ f7 (by omega)) ⟨Or.inr rfl, Or.inl rfl, Or.inl rfl, Or.inl rfl, Or.inl rfl, Or.inl rfl, Or.inl rfl, trivial⟩ rfl rfl
      rw [hz]
      exact rFr_up (rFr_mo hf1 (by decide) (by decide)) (by decide)
    -- the token is taken
    have good : ∀ t : Bool, (t = true ↔ tC x q = 40) → (pMt n (tC x q)).isSome = true ∨ tC x q = 40 → b < 31 → mx_E 1 5 m_Mo_readsAgenda Q 96 [.ref 0, .int 0, .int (lkI lk), .int (nI (lkB lk)), .int (mz t), .null, .null] [.ref 0] c1 := by
      intro t htt hor hb31
      have hsg : isSg (tC x q) = true := by
        rcases hor with z | z
        · exact pMt_sg hx.2.2.2 hn z
        · rw [z]; decide
      have hv6 : c1 0 6 = tC x q := ht1.2.2.2.1 (kd_sg.mpr hsg)
      refine mR 2 rfl trivial ?_
      refine mx_E_callV (sp_Mo_takesT _ hx1 ht1 hq g7) rfl rfl rfl (fun rr c2 hr2 => ?_)
      obtain ⟨rfl, hf2, ht2⟩ := hr2
      rw [hv6]
      have k7 : c2 0 7 = -1 := by rw [hf2.2 7 (by decide)]; exact g7
      have k54 : c2 2 54 = nI b := by rw [hf2.1 2 (by decide)]; exact g54
      refine mR 2 rfl trivial ?_
      refine mx_E_callV (sp_Mo_well _ k7) rfl rfl rfl (fun rr c3 hr2 => ?_)
      obtain ⟨rfl, hz3⟩ := hr2
      rw [hz3]
      refine mbT rfl (fun h => by cases h) (fun _ => ?_)
      refine mR 4 rfl trivial ?_
      refine mx_E_callS (sp_Mo_comesTo2 _ b lk (by omega) k54 hl) rfl rfl rfl (fun rr c3 hr2 => ?_)
      obtain ⟨rfl, hct⟩ := hr2
      have rw2 : c2 2 = c 2 := by rw [hf2.1 2 (by decide), hf1.1 2 (by decide)]
      have hfc3 : rFr [2, 15] agF c c3 := rFr_tr (rFr_mo hf1 (by decide) (by decide)) (rFr_tr (rFr_mo hf2 (by decide) (by decide)) (rCt_Fr hct))
      have t3 := rTok_fr ht2 (rCt_Fr0 hct) (by decide) (by decide) (by decide) (by decide)
      have p7 : c3 0 7 = -1 := by rw [hct.1 0 (by decide)]; exact k7
      have p29 : c3 0 29 = nI w := by rw [hct.1 0 (by decide), hf2.2 29 (by decide)]; exact g29
      have p15 : ∀ z, c3 15 z = c 15 z := fun z => by rw [hct.1 15 (by decide), hf2.1 15 (by decide), hf1.1 15 (by decide)]
      refine mR 2 rfl trivial ?_
      refine mbT rfl (fun htf => ?_) (fun htf => ?_)
      · have hn40 : ¬ tC x q = 40 := fun z => by rw [htt.mpr z] at htf; cases htf
        have hsm := hor.resolve_right hn40
        cases e : pMt n (tC x q) with
        | none => rw [e] at hsm; cases hsm
        | some m =>
          obtain ⟨hmn, hme⟩ := pMt_lt (by omega) e
          refine mR 10 rfl (mA1 (by rw [ixA 55 rfl]; exact mI (by omega))) ?_
          rw [ixA 55 rfl, nI_cl (a := 55 + b) (by omega), hme]
          have fup : rFr [2] [] c3 (mx_up c3 2 (55 + b) (nI m)) := rFr_row (rFr_rf _ _ _) (by decide) (by decide)
          refine mW (hk (mx_up c3 2 (55 + b) (nI m)) (tE x q, ((fun _ => some m), (fun _ => 1), 1)) ?_ (rFr_tr hfc3 (rFr_mo fup (by decide) (by decide))) ?_ ?_ (rRw_leaf (by omega) hl hct rw2) (rTok_fr t3 fup (by decide) (by decide) (by decide) (by decide)) ?_) ⟨Or.inr rfl, Or.inl rfl, Or.inl rfl, Or.inl rfl, Or.inl rfl, Or.inl rfl, Or.inl rfl, trivial⟩ rfl rfl
          · unfold pAg
            rw [if_neg (by omega), e]
          · rw [mx_up_id _ _ _ _ _ _ (by decide)]; exact p29
          · intro z _
            rw [mx_up_id _ _ _ _ _ _ (by decide)]; exact p15 z
          · rw [mx_up_id _ _ _ _ _ _ (by decide)]; exact p7
      · have h40 := htt.mp htf
        have e : pMt n (tC x q) = none := by
          rw [h40]
          unfold pMt
          rw [if_neg (by rw [(by decide +kernel : ∀ n, n < 7 → mi ((40 : Int32) - 97) n = false) n (by omega)]; decide)]
        have hag : pAg x n (f + 1) q b = (match pAg x n f (tE x q) (b + 1) with
            | .error e => .error e
            | .ok r1 => match pAg x n f r1.1 (b + 1 + r1.2.2.2) with
              | .error e => .error e
              | .ok r2 => if tC x r2.1 = 41 then .ok (tE x r2.1, (jK r1.2.2.2 r1.2.1 r2.2.1, jZ r1.2.2.2 r2.2.2.2 r1.2.2.1 r2.2.2.1, 1 + r1.2.2.2 + r2.2.2.2)) else .error (tS x r2.1)) := by
          show (if 31 ≤ b then Except.error (tS x q) else _) = _
          rw [if_neg (by omega), e]
          dsimp only
          rw [if_pos h40]
          rfl
        refine mR 5 rfl trivial ?_
        refine mx_E_callV (sp_Mo_piles _ w _ _ _ _ (by omega) p29) rfl rfl rfl (fun rr c4 hr2 => ?_)
        obtain ⟨rfl, h4⟩ := hr2
        refine mR 5 rfl trivial ?_
        refine mx_E_callV (sp_Mo_piles _ (w + 1) _ _ _ _ (by omega) h4.2.2.1) rfl rfl rfl (fun rr c5 hr2 => ?_)
        obtain ⟨rfl, h5⟩ := hr2
        refine mR 5 rfl trivial ?_
        refine mx_E_callV (sp_Mo_piles _ (w + 2) _ _ _ _ (by omega) h5.2.2.1) rfl rfl rfl (fun rr c6 hr2 => ?_)
        obtain ⟨rfl, h6⟩ := hr2
        refine mR 2 rfl trivial ?_
        have f36 : rFr [15] [29] c3 c6 := rFr_tr (rPi_Fr0 h4) (rFr_tr (rPi_Fr0 h5) (rPi_Fr0 h6))
        have hfc6 : rFr [2, 15] agF c c6 := rFr_tr hfc3 (rFr_mo f36 (by decide) (by decide))
        have q2 : c6 2 = c3 2 := f36.1 2 (by decide)
        refine mW (ih (tE x q) (b + 1) (w + 2) (some (b, 0)) c6 (by omega) hE.2.1 (by omega) (by omega) (fun u hu => by cases hu; exact ⟨by show b < b + 1; omega, by show (0 : Nat) < 2; decide⟩) h6.2.2.1 ⟨h6.2.2.2.1, h6.2.2.2.2.2.1, h6.2.2.2.2.2.2.1⟩ (by rw [q2]; exact hct.2.1) (rTx_fr hx hfc6 (by decide) (by decide)) (rTok_fr t3 f36 (by decide) (by decide) (by decide) (by decide)) (by rw [f36.2 7 (by decide)]; exact p7) (by rw [hfc6.2 10 (by decide)]; exact h10) (fun c7 r1 e1 hf7 i29 i15 irw it i7 => ?_) (fun c7 z e1 hf7 i7 hz => ?_)) ⟨Or.inr rfl, Or.inl rfl, Or.inl rfl, Or.inl rfl, Or.inl rfl, Or.inl rfl, Or.inl rfl, trivial⟩ rfl rfl
        · obtain ⟨a1, a2, a3, a4⟩ := pAg_le (by omega) f (tE x q) (b + 1) r1 hE.2.1 e1
          have hb1 : ¬ 31 ≤ b + 1 := by
            intro z
            cases f with
            | zero => cases e1
            | succ f =>
              unfold pAg at e1
              rw [if_pos z] at e1
              cases e1
          have hfc7 := rFr_tr hfc6 hf7
          have v15 : ∀ z, z < 4 * (w + 2) → c7 15 z = c5 15 z := fun z hz => by rw [i15 z hz, h6.2.2.2.2.2.2.2 z hz]
          refine ih r1.1 (b + 1 + r1.2.2.2) (w + 1) (some (b, 1)) c7 (by omega) a2 (by omega) (by omega) (fun u hu => by cases hu; exact ⟨by show b < b + 1 + r1.2.2.2; omega, by show (1 : Nat) < 2; decide⟩) i29 ⟨by rw [v15 _ (by omega)]; exact h5.2.2.2.1, by rw [v15 _ (by omega)]; exact h5.2.2.2.2.2.1, by rw [v15 _ (by omega)]; exact h5.2.2.2.2.2.2.1⟩ irw.1 (rTx_fr hx hfc7 (by decide) (by decide)) it i7 (by rw [hfc7.2 10 (by decide)]; exact h10) (fun c8 r2 e2 hf8 j29 j15 jrw jt j7 => ?_) (fun c8 z e2 hf8 j7 hz => ?_)
          · obtain ⟨b1, b2, b3, b4⟩ := pAg_le (by omega) f r1.1 (b + 1 + r1.2.2.2) r2 a2 e2
            have hb2 : ¬ 31 ≤ b + 1 + r1.2.2.2 := by
              intro z
              cases f with
              | zero => cases e2
              | succ f =>
                unfold pAg at e2
                rw [if_pos z] at e2
                cases e2
            have hfc8 := rFr_tr hfc7 hf8
            have w15 : ∀ z, z < 4 * (w + 1) → c8 15 z = c4 15 z := fun z hz => by rw [j15 z hz, v15 z (by omega), h5.2.2.2.2.2.2.2 z hz]
            have hx8 := rTx_fr hx hfc8 (by decide) (by decide)
            have hs2 := tS_le x b2
            have hkl2 := kd_lt x r2.1
            rw [e1] at hag
            dsimp only at hag
            rw [e2] at hag
            dsimp only at hag
            refine ag_pop (w1 := 1) (w3 := 0) (w4 := 0) (by omega) j29 j7 ⟨by rw [w15 _ (by omega)]; exact h4.2.2.2.1, by rw [w15 _ (by omega)]; exact h4.2.2.2.2.2.1, by rw [w15 _ (by omega)]; exact h4.2.2.2.2.2.2.1⟩ ?_
            obtain ⟨c9, hc9⟩ : ∃ c9, c9 = mx_up c8 0 29 (nI w) := ⟨_, rfl⟩
            rw [← hc9]
            have hf9 : rFr [] [29] c8 c9 := by rw [hc9]; exact rFr_up (rFr_rf _ _ _) (by decide)
            have ht9 := rTok_fr jt hf9 (by decide) (by decide) (by decide) (by decide)
            have hx9 := rTx_fr hx8 hf9 (by decide) (by decide)
            have s7 : c9 0 7 = -1 := by rw [hf9.2 7 (by decide)]; exact j7
            have hfc9 := rFr_tr hfc8 (rFr_mo (S' := [2, 15]) (F' := agF) hf9 (by decide) (by decide))
            refine mR 2 rfl trivial ?_
            refine mx_E_br rfl rfl (fun h => absurd rfl h) (fun _ => ?_)
            have nog : ¬ tC x r2.1 = 41 → mx_E 1 5 m_Mo_readsAgenda Q 68 [.ref 0, .int 1, .int 0, .int 0, .null, .null, .null] [.ref 0] c9 := by
              intro hne
              rw [if_neg hne] at hag
              refine mR 1 rfl trivial ?_
              refine mx_E_callV (sp_Mo_takesF _ ht9 s7) rfl rfl rfl (fun rr d2 hr2 => ?_)
              obtain ⟨rfl, hz⟩ := hr2
              refine mR 3 rfl trivial ?_
              refine mW (he d2 (tS x r2.1) hag ?_ (by rw [hz, mx_up_same]) (by omega)) ⟨Or.inr rfl, Or.inl rfl, Or.inl rfl, Or.inl rfl, Or.inl rfl, Or.inl rfl, Or.inl rfl, trivial⟩ rfl rfl
              rw [hz]
              exact rFr_up hfc9 (by decide)
            refine mR 4 rfl trivial ?_
            rw [ht9.2.2.1, show (1 : Int32) = nI 1 from rfl]
            refine mbNe _ _ rfl (by omega) (by decide) (fun hc => ?_) (fun hc => ?_)
            · exact nog (fun z => hc (kd_sg.mpr (by rw [z]; decide)))
            · refine mR 3 rfl trivial ?_
              rw [ht9.2.2.2.1 hc]
              refine mx_E_br rfl rfl (fun hne => nog hne) (fun heq => ?_)
              have h41 := Decidable.not_not.mp heq
              rw [if_pos h41] at hag
              refine mR 2 rfl trivial ?_
              refine mx_E_callV (sp_Mo_takesT _ hx9 ht9 b2 s7) rfl rfl rfl (fun rr d2 hr2 => ?_)
              obtain ⟨rfl, hfd, htd⟩ := hr2
              refine mR 3 rfl trivial ?_
              have row : d2 2 = c8 2 := by rw [hfd.1 2 (by decide), hf9.1 2 (by decide)]
              refine mW (hk d2 _ hag (rFr_tr hfc9 (rFr_mo hfd (by decide) (by decide))) ?_ (fun z hz => ?_) ?_ htd ?_) ⟨Or.inr rfl, Or.inl rfl, Or.inl rfl, Or.inl rfl, Or.inl rfl, Or.inl rfl, Or.inl rfl, trivial⟩ rfl rfl
              · rw [hfd.2 29 (by decide), hc9, mx_up_same]
              · rw [hfd.1 15 (by decide), hf9.1 15 (by decide), w15 z (by omega), h4.2.2.2.2.2.2.2 z hz]
                exact p15 z
              · rw [row]
                have irw2 : rRw (c3 2) (c7 2) (b + 1) r1.2.2.2 (some (b, 0)) r1.2.1 r1.2.2.1 := by rw [← q2]; exact irw
                exact rRw_join (by omega) hl a3 b3 hct rw2 irw2 jrw
              · rw [hfd.2 7 (by decide)]; exact s7
          · rw [e1] at hag
            dsimp only at hag
            rw [e2] at hag
            exact he c8 z hag (rFr_tr hfc7 hf8) j7 hz
        · rw [e1] at hag
          exact he c7 z hag (rFr_tr hfc6 hf7) i7 hz
    have j90 : ∀ t : Bool, (t = true ↔ tC x q = 40) → (pMt n (tC x q)).isSome = true ∨ tC x q = 40 → mx_E 1 5 m_Mo_readsAgenda Q 90 [.ref 0, .int 0, .int (lkI lk), .int (nI (lkB lk)), .int (mz t), .null, .null] [.ref 0] c1 := by
      intro t htt hor
      refine mR 5 rfl (mA1 (mI (n := 54) (by decide))) ?_
      rw [c54, g54, show (31 : Int32) = nI 31 from rfl]
      refine mbGe _ _ rfl (by omega) (by omega) (fun hge => ?_) (fun hlt => good t htt hor hlt)
      refine bad _ ?_
      unfold pAg
      rw [if_pos hge]
    have j84 : ∀ t : Bool, (t = true ↔ tC x q = 40) → mx_E 1 5 m_Mo_readsAgenda Q 83 [.ref 0, .int 0, .int (lkI lk), .int (nI (lkB lk)), .null, .null, .null] [.int (mz t)] c1 := by
      intro t htt
      refine mR 3 rfl trivial ?_
      refine mbF rfl (fun h => j90 t htt (Or.inr (htt.mp h))) (fun hfl => ?_)
      refine mR 1 rfl trivial ?_
      refine mx_E_callV (sp_Mo_isMotionSign _ hx.2.2.2 ht1 hn g10) rfl rfl rfl (fun rr c2 hr2 => ?_)
      obtain ⟨rfl, hz⟩ := hr2
      rw [hz]
      refine mbT rfl (fun hno => ?_) (fun hy => j90 t htt (Or.inl hy))
      refine bad _ ?_
      unfold pAg
      by_cases hge : 31 ≤ b
      · rw [if_pos hge]
      · rw [if_neg hge]
        cases e : pMt n (tC x q) with
        | some m => rw [e] at hno; cases hno
        | none =>
          dsimp only
          rw [if_neg (fun z => by rw [htt.mpr z] at hfl; cases hfl)]
    refine mR 3 rfl trivial ?_
    rw [ht1.2.2.1, show (1 : Int32) = nI 1 from rfl]
    refine mbNe _ _ rfl (by omega) (by decide) (fun hc => ?_) (fun hc => ?_)
    · refine mR 1 rfl trivial ?_
      exact j84 false ⟨fun z => (by cases z), fun z => absurd (kd_sg.mpr (by rw [z]; decide)) hc⟩
    · refine mR 3 rfl trivial ?_
      rw [ht1.2.2.2.1 hc]
      refine mx_E_br rfl rfl (fun hne => ?_) (fun heq => ?_)
      · refine mR 1 rfl trivial ?_
        exact j84 false ⟨fun z => (by cases z), fun z => absurd z hne⟩
      · refine mR 2 rfl trivial ?_
        exact j84 true ⟨fun _ => Decidable.not_not.mp heq, fun _ => rfl⟩
theorem sp_Mo_readsAgenda (c : mx_M) {x : pX} {n q : Nat} (hn : n ≤ 6) (hx : rTx c x) (h10 : c 0 10 = nI n) (hq : q ≤ x.1) (ht : rTok c x q) (h7 : c 0 7 = -1) : mx_Spec 1 5 m_Mo_readsAgenda [.ref 0] c (fun r c' => r = none ∧ rFr [2, 15] agF c c' ∧ pRes c' (pAg x n 31 q 0) (fun v => rTok c' x v.1 ∧ (∀ z, z < 54 → c' 2 z = c 2 z) ∧ rTb (c' 2) v.2.1 v.2.2.1 v.2.2.2)) := by
  refine mx_Spec_E rfl rfl rfl ?_
  refine mR 8 rfl (mA1 (mI (n := 54) (by decide))) ?_
  rw [c54]
  obtain ⟨c1, hc1⟩ : ∃ c1, c1 = mx_up (mx_up c 2 54 0) 0 29 0 := ⟨_, rfl⟩
  rw [← hc1]
  have hf1 : rFr [2] [29] c c1 := by rw [hc1]; exact rFr_up (rFr_row (rFr_rf _ _ _) (by decide) (by decide)) (by decide)
  refine mR 5 rfl trivial ?_
  refine mx_E_callV (sp_Mo_piles _ 0 _ _ _ _ (by decide) (by rw [hc1, mx_up_same]; rfl)) rfl rfl rfl (fun rr c2 hr2 => ?_)
  obtain ⟨rfl, h2⟩ := hr2
  have hf2 : rFr [2, 15] [29] c c2 := rFr_tr (rFr_mo hf1 (by decide) (by decide)) (rFr_mo (rPi_Fr0 h2) (by decide) (by decide))
  have hfa : rFr [2, 15] agF c c2 := rFr_mo hf2 (by decide) (by decide)
  have e2 : ∀ z, z ≠ 54 → c2 2 z = c 2 z := fun z hz => by rw [h2.1 2 (by decide), hc1, mx_up_id _ _ _ _ _ _ (by decide), mx_up_ix _ _ _ _ _ _ hz]
  refine mS (lp_Mo_readsAgenda hn 31 q 0 0 none c2 (by decide) hq (by decide) (by decide) (fun u hu => by cases hu) h2.2.2.1 ⟨h2.2.2.2.1, h2.2.2.2.2.2.1, h2.2.2.2.2.2.2.1⟩ (by rw [h2.1 2 (by decide), hc1, mx_up_id _ _ _ _ _ _ (by decide), mx_up_same]; rfl) (rTx_fr hx hf2 (by decide) (by decide)) (rTok_fr ht hf2 (by decide) (by decide) (by decide) (by decide)) (by rw [hf2.2 7 (by decide)]; exact h7) (by rw [hf2.2 10 (by decide)]; exact h10) (fun c' r hr hf h29 _ hrw htk k7 => ?_) (fun c' z hr hf k7 hz => ?_)) rfl rfl rfl
  · refine mR 2 rfl trivial ?_
    rw [h29]
    refine mx_E_br rfl rfl (fun _ => ?_) (fun h => absurd (by decide) h)
    refine mx_E_vret rfl rfl ⟨rfl, rFr_tr hfa hf, ?_⟩
    rw [hr]
    refine ⟨k7, htk, fun z hz => ?_, ?_⟩
    · rw [hrw.2.2.2 z (Or.inl hz) (fun q => by cases q)]
      exact e2 z (by omega)
    · refine ⟨by rw [hrw.1, Nat.zero_add], fun k hk => ?_⟩
      have z := hrw.2.1 k hk
      rw [Nat.zero_add] at z
      exact z
  · have fin : mx_E 1 5 m_Mo_readsAgenda (fun r c' => r = none ∧ rFr [2, 15] agF c c' ∧ pRes c' (pAg x n 31 q 0) (fun v => rTok c' x v.1 ∧ (∀ z, z < 54 → c' 2 z = c 2 z) ∧ rTb (c' 2) v.2.1 v.2.2.1 v.2.2.2)) 141 [.ref 0, .null, .null, .null, .null, .null, .null] [] c' := by
      refine mx_E_vret rfl rfl ⟨rfl, rFr_tr hfa hf, ?_⟩
      rw [hr]
      exact ⟨k7, hz⟩
    refine mR 2 rfl trivial ?_
    refine mx_E_br rfl rfl (fun _ => fin) (fun _ => ?_)
    refine mR 1 rfl trivial ?_
    refine mx_E_callV (sp_Mo_ill _ hz k7) rfl rfl rfl (fun rr c3 hr2 => ?_)
    obtain ⟨rfl, hz3⟩ := hr2
    rw [hz3]
    exact mbT rfl (fun _ => fin) (fun h => by cases h)
