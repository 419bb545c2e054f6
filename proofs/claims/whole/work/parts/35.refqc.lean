/-! both branches of a vote turned -/
/-- the place from which comes what stands at j -/
def swI (k s1 s2 j : Nat) : Nat := if j < k + 1 then j else if j < k + 1 + s2 then j + s1 else if j < k + 1 + s2 + s1 then j - s2 else j
def swX (k s1 s2 x j : Nat) : Nat := if x ≤ k then swI k s1 s2 (x + j) else x + j
theorem mtree_nest {n nd k : Nat} {kd : Nat → Option Nat} {sz : Nat → Nat} (h : mtree n kd sz nd) (hk : k < nd) : ∀ (f y : Nat), y < nd → nd - y ≤ f → y ≤ k → k < y + sz y → k + sz k ≤ y + sz y
  | 0, y, hy, hf, _, _ => by omega
  | f + 1, y, hy, hf, h1, h2 => by
    by_cases e : y = k
    · rw [e]
      exact Nat.le_refl _
    · cases ek : kd y with
      | some q =>
        have := (mtree_leaf h hy ek).2
        omega
      | none =>
        obtain ⟨g1, g2, g3, g4, g5, g6⟩ := mtree_vote h hy ek
        rcases Nat.lt_or_ge k (y + 1 + sz (y + 1)) with h3 | h3
        · have := mtree_nest h hk f (y + 1) g5 (by omega) (by omega) h3
          omega
        · have := mtree_nest h hk f (y + 1 + sz (y + 1)) g6 (by omega) h3 (by omega)
          omega
theorem mT_congr {n L : Nat} {K K' : Nat → Option Nat} {Z Z' : Nat → Nat} (h : mT n K Z L) (hK : ∀ j, j < L → K' j = K j) (hZ : ∀ j, j < L → Z' j = Z j) : mT n K' Z' L := by
  have h1 := h.1
  refine ⟨h1, by rw [hZ 0 (by omega)]; exact h.2.1, fun k hk => ?_⟩
  rw [hK k hk, hZ k hk]
  rcases h.2.2 k hk with g | g
  · exact Or.inl g
  · obtain ⟨g1, g2, g3, g4, g5⟩ := g
    obtain ⟨-, -, -, -, m5, m6⟩ := mT_vote h hk g1
    rw [hZ (k + 1) m5, hZ (k + 1 + Z (k + 1)) m6]
    exact Or.inr ⟨g1, g2, g3, g4, g5⟩
theorem rLd_congr {c c' : mx_M} {i b L q n : Nat} {lk : Option (Nat × Nat)} {K K' : Nat → Option Nat} {Z Z' : Nat → Nat} (t : mT n K Z L) (h : rLd c c' i b L q lk K Z) (hK : ∀ j, j < L → K' j = K j) (hZ : ∀ j, j < L → Z' j = Z j) : rLd c c' i b L q lk K' Z' := by
  obtain ⟨x1, x2, x3, x4, x5, x6, x7, x8⟩ := h
  refine ⟨x1, x2, x3, x4, x5, fun j hj => ?_, x7, x8⟩
  obtain ⟨g1, g2, g3⟩ := x6 j hj
  rw [hK j hj]
  refine ⟨g1, fun e => ?_, g3⟩
  obtain ⟨-, -, -, -, m5, m6⟩ := mT_vote t hj e
  rw [hZ (j + 1) m5]
  exact g2 e
theorem mx_up_idem {c : mx_M} {i k : Nat} {x : Int32} (h : c i k = x) : mx_up c i k x = c := by
  funext i' k'
  by_cases e : i' = i
  · by_cases e2 : k' = k
    · rw [e, e2, mx_up_same, h]
    · rw [mx_up_ix _ _ _ _ _ _ e2]
  · rw [mx_up_id _ _ _ _ _ _ e]
theorem jK_all {α : Type} {L1 : Nat} {P : Nat → Prop} (h0 : P 0) (h1 : ∀ i, i < L1 → P (i + 1)) (h2 : ∀ i, P (L1 + i + 1)) : ∀ j, P j
  | 0 => h0
  | j + 1 => by
    rcases Nat.lt_or_ge j L1 with h | h
    · exact h1 j h
    · obtain ⟨i, rfl⟩ : ∃ i, j = L1 + i := ⟨j - L1, by omega⟩
      exact h2 i
theorem lp_Mo_swaps {n nd k s1 s2 : Nat} {K : Nat → Option Nat} {Z : Nat → Nat} (hn : n ≤ 6) (hM : mtree n K Z nd) (hk : k < nd) (ek : K k = none) (h1 : s1 = Z (k + 1)) (h2 : s2 = Z (k + 1 + Z (k + 1))) {Q : Option Value → mx_M → Prop} :
    ∀ (f x b q : Nat) (lk : Option (Nat × Nat)) (c : mx_M), Z x ≤ f → x < nd → lkOk lk b → b + Z x ≤ 63 → q + Z x ≤ 63 → c 0 29 = nI (q + 1) → rPe c q x 0 lk → c 3 54 = nI b → rTb (c 4) K Z nd → (∀ c', rLd c c' 3 b (Z x) q lk (fun j => K (swX k s1 s2 x j)) (fun j => Z (swX k s1 s2 x j)) → mT n (fun j => K (swX k s1 s2 x j)) (fun j => Z (swX k s1 s2 x j)) (Z x) → mx_E 1 6 m_Mo_swaps Q 40 [.ref 0, .int (nI k), .null, .null] [] c') → mx_E 1 6 m_Mo_swaps Q 40 [.ref 0, .int (nI k), .null, .null] [] c := by
  have h63 := hM.2.1
  obtain ⟨kg1, kg2, kg3, kg4, kg5, kg6⟩ := mtree_vote hM hk ek
  intro f
  induction f with
  | zero =>
    intro x b q lk c hf hx hl hb hq h29 hpe h54 hT hk2
    rcases hM.2.2.2 x hx with ⟨q', g1, g2, g3⟩ | ⟨g1, g2, g3, g4, g5⟩ <;> omega
  | succ f ih =>
    intro x b q lk c hf hx hl hb hq h29 hpe h54 hT hk2
    obtain ⟨e0, e1, e2, e3⟩ := hpe
    have hZ1 : 1 ≤ Z x := by
      rcases hM.2.2.2 x hx with ⟨q', g1, g2, g3⟩ | ⟨g1, g2, g3, g4, g5⟩ <;> omega
    have hx0 : swX k s1 s2 x 0 = x := by
      unfold swX
      by_cases e : x ≤ k
      · rw [if_pos e]
        unfold swI
        rw [if_pos (by omega), Nat.add_zero]
      · rw [if_neg e, Nat.add_zero]
    refine mR 2 rfl trivial ?_
    rw [h29]
    refine mx_E_br rfl rfl (fun h => absurd h (nI_nle (by omega) (by omega))) (fun _ => ?_)
    refine mR 6 rfl trivial ?_
    rw [h29, nI_p1]
    obtain ⟨c1, hc1⟩ : ∃ c1, c1 = mx_up c 0 29 (nI q) := ⟨_, rfl⟩
    have g29 : c1 0 29 = nI q := by rw [hc1, mx_up_same]
    have g15 : ∀ z, c1 15 z = c 15 z := fun z => by rw [hc1, mx_up_id _ _ _ _ _ _ (by decide)]
    rw [← hc1]
    refine mR 28 rfl (mA3 (by rw [g29, m4q]; exact mI (by omega)) (by rw [g29, m4q, show (2 : Int32) = nI 2 from rfl, ix4]; exact mI (by omega)) (by rw [g29, m4q, show (3 : Int32) = nI 3 from rfl, ix4]; exact mI (by omega))) ?_
    rw [g29, m4q, show nI (4 * q) + (2 : Int32) = nI (4 * q + 2) from ix4 q 2, show nI (4 * q) + (3 : Int32) = nI (4 * q + 3) from ix4 q 3, nI_cl (a := 4 * q) (by omega), nI_cl (a := 4 * q + 2) (by omega), nI_cl (a := 4 * q + 3) (by omega), g15, g15, g15, e0, e2, e3]
    refine mx_E_callS (sp_Mo_comesTo3 _ b lk (by omega) (by rw [hc1, mx_up_id _ _ _ _ _ _ (by decide)]; exact h54) hl) rfl rfl rfl (fun r c2 hr => ?_)
    obtain ⟨rfl, h2c⟩ := hr
    have hT2 : rTb (c2 4) K Z nd := by rw [h2c.1 4 (by decide), hc1, mx_up_rid _ _ _ _ _ (by decide)]; exact hT
    have ekd := rd_kd4 hT2 h63 hx
    refine mR 13 rfl (mA2 (by rw [ixA 55 rfl]; exact mI (by omega)) (by rw [ixA 55 rfl]; exact mI (by omega))) ?_
    rw [ekd, ixA 55 rfl, nI_cl (a := 55 + b) (by omega)]
    cases e : K x with
    | some m =>
      obtain ⟨hm6, hz1⟩ := mtree_leaf hM hx e
      rw [e] at ekd
      refine mR 7 rfl (mA1 (by rw [ixA 55 rfl]; exact mI (by omega))) ?_
      rw [mx_up_id _ _ _ _ 4 _ (by decide), ekd]
      refine mx_E_br rfl rfl (fun _ => ?_) (fun h => absurd (kI_ne (by omega)) h)
      refine mR 1 rfl trivial ?_
      have hL := rLd_leaf (n := n) (its := m) (by decide) (by decide) (by omega) hl hc1 h2c
      have c0 : ∀ j, j < 1 → K (swX k s1 s2 x j) = some m := fun j hj => by
        have ej : j = 0 := by omega
        rw [ej, hx0]
        exact e
      have z0 : ∀ j, j < 1 → Z (swX k s1 s2 x j) = 1 := fun j hj => by
        have ej : j = 0 := by omega
        rw [ej, hx0]
        exact hz1
      refine mW (hk2 _ ?_ ?_) ⟨Or.inr rfl, Or.inr rfl, Or.inl rfl, Or.inl rfl, trivial⟩ rfl rfl
      · rw [hz1]
        exact rLd_congr (mT_leaf hm6) hL c0 z0
      · rw [hz1]
        exact mT_congr (mT_leaf hm6) c0 z0
    | none =>
      obtain ⟨g1, g2, g3, g4, g5, g6⟩ := mtree_vote hM hx e
      rw [e] at ekd
      have on := rd_on4 hT2 h63 hx e
      have tw := rd_tw4 hT2 h63 hx e
      rw [show mx_up c2 3 (55 + b) (kI none) = c2 from mx_up_idem h2c.2.2.1]
      have g29b : c2 0 29 = nI q := by rw [h2c.1 0 (by decide)]; exact g29
      refine mR 7 rfl (mA1 (by rw [ixA 55 rfl]; exact mI (by omega))) ?_
      rw [ekd]
      refine mx_E_br rfl rfl (fun h => absurd rfl h) (fun _ => ?_)
      refine mR 5 rfl trivial ?_
      by_cases exk : x = k
      · subst exk
        refine mbNe _ _ rfl (by omega) (by omega) (fun h => absurd rfl h) (fun _ => ?_)
        refine mR 8 rfl (mA1 (by rw [ixA 118 rfl]; exact mI (by omega))) ?_
        rw [on]
        refine mx_E_callV (sp_Mo_piles _ q _ _ _ _ (by omega) g29b) rfl rfl rfl (fun r c3 hr => ?_)
        obtain ⟨rfl, h3⟩ := hr
        have tw3 : c3 4 ((181 : Int32) + nI x).toNatClampNeg = nI (x + 1 + Z (x + 1)) := by rw [h3.1 4 (by decide)]; exact tw
        refine mR 5 rfl trivial ?_
        refine mbNe _ _ rfl (by omega) (by omega) (fun h => absurd rfl h) (fun _ => ?_)
        refine mR 8 rfl (mA1 (by rw [ixA 181 rfl]; exact mI (by omega))) ?_
        rw [tw3]
        refine mx_E_callV (sp_Mo_piles _ (q + 1) _ _ _ _ (by omega) h3.2.2.1) rfl rfl rfl (fun r c4 hr => ?_)
        obtain ⟨rfl, h4⟩ := hr
        refine mR 1 rfl trivial ?_
        have k4 : rTb (c4 4) K Z nd := by rw [h4.1 4 (by decide), h3.1 4 (by decide)]; exact hT2
        have k54 : c4 3 54 = nI (b + 1) := by rw [h4.1 3 (by decide), h3.1 3 (by decide)]; exact h2c.2.1
        refine mW (ih (x + 1 + Z (x + 1)) (b + 1) (q + 1) (some (b, 0)) c4 (by omega) g6 (fun u hu => by cases hu; exact ⟨by show b < b + 1; omega, by show (0 : Nat) < 2; decide⟩) (by omega) (by omega) h4.2.2.1 ⟨h4.2.2.2.1, h4.2.2.2.2.1, h4.2.2.2.2.2.1, h4.2.2.2.2.2.2.1⟩ k54 k4 (fun c5 h5 t5 => ?_)) ⟨Or.inr rfl, Or.inr rfl, Or.inl rfl, Or.inl rfl, trivial⟩ rfl rfl
        have u : ∀ z, z < 4 * (q + 1) → c5 15 z = c3 15 z := fun z hz => by rw [h5.2.2.2.1 _ (by omega), h4.2.2.2.2.2.2.2 _ (by omega)]
        refine ih (x + 1) (b + 1 + Z (x + 1 + Z (x + 1))) q (some (b, 1)) c5 (by omega) g5 (fun u hu => by cases hu; exact ⟨by show b < b + 1 + Z (x + 1 + Z (x + 1)); omega, by show (1 : Nat) < 2; decide⟩) (by omega) (by omega) h5.2.2.1 ⟨by rw [u _ (by omega)]; exact h3.2.2.2.1, by rw [u _ (by omega)]; exact h3.2.2.2.2.1, by rw [u _ (by omega)]; exact h3.2.2.2.2.2.1, by rw [u _ (by omega)]; exact h3.2.2.2.2.2.2.1⟩ h5.2.2.2.2.1 (by rw [h5.1 4 (by decide)]; exact k4) (fun c6 h6 t6 => ?_)
        have ez : Z x = 1 + Z (x + 1 + Z (x + 1)) + Z (x + 1) := by omega
        have hj := rLd_join (by decide) (by decide) (by omega) hl t5 t6 hc1 h2c h3 h4 h5 h6
        have tj := mT_join t5 t6
        have pj : ∀ j, j < 1 + Z (x + 1 + Z (x + 1)) + Z (x + 1) → K (swX x s1 s2 x j) = jK (Z (x + 1 + Z (x + 1))) (fun j => K (swX x s1 s2 (x + 1 + Z (x + 1)) j)) (fun j => K (swX x s1 s2 (x + 1) j)) j ∧ Z (swX x s1 s2 x j) = jZ (Z (x + 1 + Z (x + 1))) (Z (x + 1)) (fun j => Z (swX x s1 s2 (x + 1 + Z (x + 1)) j)) (fun j => Z (swX x s1 s2 (x + 1) j)) j := by
          refine jK_all (α := Nat) (L1 := Z (x + 1 + Z (x + 1))) ?_ ?_ ?_
          · intro _
            rw [hx0]
            exact ⟨e, ez⟩
          · intro i hi _
            have e1 : swX x s1 s2 x (i + 1) = x + 1 + Z (x + 1) + i := by
              unfold swX swI
              rw [if_pos (Nat.le_refl x), if_neg (by omega), if_pos (by omega), h1]
              omega
            have e2 : swX x s1 s2 (x + 1 + Z (x + 1)) i = x + 1 + Z (x + 1) + i := by
              unfold swX
              rw [if_neg (by omega)]
            rw [jK_1 hi, jZ_1 hi, e1, e2]
            exact ⟨rfl, rfl⟩
          · intro i hi
            have e1 : swX x s1 s2 x (Z (x + 1 + Z (x + 1)) + i + 1) = x + 1 + i := by
              unfold swX swI
              rw [if_pos (Nat.le_refl x), if_neg (by omega), if_neg (by omega), if_pos (by omega), h2]
              omega
            have e2 : swX x s1 s2 (x + 1) i = x + 1 + i := by
              unfold swX
              rw [if_neg (by omega)]
            rw [jK_2, jZ_2, e1, e2]
            exact ⟨rfl, rfl⟩
        refine hk2 c6 ?_ ?_
        · rw [ez]
          exact rLd_congr tj hj (fun j hj => (pj j hj).1) (fun j hj => (pj j hj).2)
        · rw [ez]
          exact mT_congr tj (fun j hj => (pj j hj).1) (fun j hj => (pj j hj).2)
      · refine mbNe _ _ rfl (by omega) (by omega) (fun _ => ?_) (fun h => absurd h exk)
        refine mR 7 rfl (mA1 (by rw [ixA 181 rfl]; exact mI (by omega))) ?_
        rw [tw]
        refine mx_E_callV (sp_Mo_piles _ q _ _ _ _ (by omega) g29b) rfl rfl rfl (fun r c3 hr => ?_)
        obtain ⟨rfl, h3⟩ := hr
        have on3 : c3 4 ((118 : Int32) + nI x).toNatClampNeg = nI (x + 1) := by rw [h3.1 4 (by decide)]; exact on
        refine mR 5 rfl trivial ?_
        refine mbNe _ _ rfl (by omega) (by omega) (fun _ => ?_) (fun h => absurd h exk)
        refine mR 7 rfl (mA1 (by rw [ixA 118 rfl]; exact mI (by omega))) ?_
        rw [on3]
        refine mx_E_callV (sp_Mo_piles _ (q + 1) _ _ _ _ (by omega) h3.2.2.1) rfl rfl rfl (fun r c4 hr => ?_)
        obtain ⟨rfl, h4⟩ := hr
        refine mR 1 rfl trivial ?_
        have k4 : rTb (c4 4) K Z nd := by rw [h4.1 4 (by decide), h3.1 4 (by decide)]; exact hT2
        have k54 : c4 3 54 = nI (b + 1) := by rw [h4.1 3 (by decide), h3.1 3 (by decide)]; exact h2c.2.1
        refine mW (ih (x + 1) (b + 1) (q + 1) (some (b, 0)) c4 (by omega) g5 (fun u hu => by cases hu; exact ⟨by show b < b + 1; omega, by show (0 : Nat) < 2; decide⟩) (by omega) (by omega) h4.2.2.1 ⟨h4.2.2.2.1, h4.2.2.2.2.1, h4.2.2.2.2.2.1, h4.2.2.2.2.2.2.1⟩ k54 k4 (fun c5 h5 t5 => ?_)) ⟨Or.inr rfl, Or.inr rfl, Or.inl rfl, Or.inl rfl, trivial⟩ rfl rfl
        have u : ∀ z, z < 4 * (q + 1) → c5 15 z = c3 15 z := fun z hz => by rw [h5.2.2.2.1 _ (by omega), h4.2.2.2.2.2.2.2 _ (by omega)]
        refine ih (x + 1 + Z (x + 1)) (b + 1 + Z (x + 1)) q (some (b, 1)) c5 (by omega) g6 (fun u hu => by cases hu; exact ⟨by show b < b + 1 + Z (x + 1); omega, by show (1 : Nat) < 2; decide⟩) (by omega) (by omega) h5.2.2.1 ⟨by rw [u _ (by omega)]; exact h3.2.2.2.1, by rw [u _ (by omega)]; exact h3.2.2.2.2.1, by rw [u _ (by omega)]; exact h3.2.2.2.2.2.1, by rw [u _ (by omega)]; exact h3.2.2.2.2.2.2.1⟩ h5.2.2.2.2.1 (by rw [h5.1 4 (by decide)]; exact k4) (fun c6 h6 t6 => ?_)
        have hj := rLd_join (by decide) (by decide) (by omega) hl t5 t6 hc1 h2c h3 h4 h5 h6
        have tj := mT_join t5 t6
        have pj : ∀ j, j < 1 + Z (x + 1) + Z (x + 1 + Z (x + 1)) → K (swX k s1 s2 x j) = jK (Z (x + 1)) (fun j => K (swX k s1 s2 (x + 1) j)) (fun j => K (swX k s1 s2 (x + 1 + Z (x + 1)) j)) j ∧ Z (swX k s1 s2 x j) = jZ (Z (x + 1)) (Z (x + 1 + Z (x + 1))) (fun j => Z (swX k s1 s2 (x + 1) j)) (fun j => Z (swX k s1 s2 (x + 1 + Z (x + 1)) j)) j := by
          refine jK_all (α := Nat) (L1 := Z (x + 1)) ?_ ?_ ?_
          · intro _
            rw [hx0]
            exact ⟨e, g3⟩
          · intro i hi _
            have e1 : swX k s1 s2 x (i + 1) = swX k s1 s2 (x + 1) i := by
              unfold swX
              by_cases q1 : x ≤ k
              · rw [if_pos q1, if_pos (by omega), show x + (i + 1) = x + 1 + i by omega]
              · rw [if_neg q1, if_neg (by omega)]
                omega
            rw [jK_1 hi, jZ_1 hi, e1]
            exact ⟨rfl, rfl⟩
          · intro i hi
            have e1 : swX k s1 s2 x (Z (x + 1) + i + 1) = swX k s1 s2 (x + 1 + Z (x + 1)) i := by
              unfold swX
              by_cases q1 : x ≤ k
              · rw [if_pos q1]
                by_cases q2 : x + 1 + Z (x + 1) ≤ k
                · rw [if_pos q2, show x + (Z (x + 1) + i + 1) = x + 1 + Z (x + 1) + i by omega]
                · rw [if_neg q2]
                  have hne := mtree_nest hM hk (nd - (x + 1)) (x + 1) g5 (Nat.le_refl _) (by omega) (by omega)
                  unfold swI
                  rw [if_neg (by omega), if_neg (by omega), if_neg (by omega)]
                  omega
              · rw [if_neg q1, if_neg (by omega)]
                omega
            rw [jK_2, jZ_2, e1]
            exact ⟨rfl, rfl⟩
        refine hk2 c6 ?_ ?_
        · rw [g3]
          exact rLd_congr tj hj (fun j hj => (pj j hj).1) (fun j hj => (pj j hj).2)
        · rw [g3]
          exact mT_congr tj (fun j hj => (pj j hj).1) (fun j hj => (pj j hj).2)
/-- the picture with the branches of a vote turned -/
def pSwp (p : mPic) (k : Nat) : mPic := (p.1, fun j => p.2.1 (swI k (p.2.2.1 (k + 1)) (p.2.2.1 (k + 1 + p.2.2.1 (k + 1))) j), fun j => p.2.2.1 (swI k (p.2.2.1 (k + 1)) (p.2.2.1 (k + 1 + p.2.2.1 (k + 1))) j), p.2.2.2)
def aSwaps (a : mSt) (x : Int32) : Int32 × mSt := if mi x (aD a) then (match aK a x.toNatClampNeg with
  | some _ => (-2, a)
  | none => (nI (aOut a 0 (pSwp a.2.1 x.toNatClampNeg)), aPic (aN a) (pSwp a.2.1 x.toNatClampNeg))) else mBAD a
theorem qr_swaps {c : mx_M} {a : mSt} (x : Int32) (h : rI c a) : mx_Spec 1 6 m_Mo_swaps [.ref 0, .int x] c (fun r c' => r = some (.int (aSwaps a x).1) ∧ rI c' (aSwaps a x).2) := by
  have h0 := rI_0 0 h
  obtain ⟨h6, hM, hT⟩ := rI_W h0
  have h63 := hM.2.1
  have hm := h0.1.2.2.2
  refine mx_Spec_E rfl rfl rfl ?_
  refine mR 5 rfl trivial ?_
  refine mx_E_callV (sp_Mo_isNode _ x (aD a) hT.1 (by omega)) rfl rfl rfl (fun r c1 hr => ?_)
  obtain ⟨rfl, hz⟩ := hr
  rw [hz]
  unfold aSwaps
  refine mbF rfl (fun hb => ?_) (fun hb => ?_)
  · rw [hb]
    obtain ⟨k, hk, rfl⟩ := mi_of (by omega) hb
    rw [nI_cl (a := k) (by omega)]
    refine mR 7 rfl (mA1 (by rw [ixA 55 rfl]; exact mI (by omega))) ?_
    rw [rd_kd3 hT h63 hk]
    cases e : aK a k with
    | some q =>
      obtain ⟨hq6, -⟩ := mtree_leaf hM hk e
      refine mx_E_br rfl rfl (fun h => absurd h (kI_ne (by omega))) (fun _ => ?_)
      refine mR 1 rfl trivial ?_
      exact mx_E_iret rfl rfl ⟨rfl, h0⟩
    | none =>
      refine mx_E_br rfl rfl (fun _ => ?_) (fun h => absurd rfl h)
      refine mR 1 rfl trivial ?_
      refine mx_E_callV (sp_Mo_notes _ h0) rfl rfl rfl (fun r c1 hr => ?_)
      obtain ⟨rfl, hI1, -, -⟩ := hr
      refine mR 4 rfl trivial ?_
      refine mx_E_callS (sp_Mo_copies3 _) rfl rfl rfl (fun r c2 hr => ?_)
      obtain ⟨rfl, hc2⟩ := hr
      have f2 : mfr [4] c1 c2 := fun r hr => by rw [hc2]; exact mx_upR_rid _ _ _ _ (fun e => hr (by rw [e]; decide))
      have hI2 : rI c2 (aN a) := rI_fr hI1 (mfr_mo f2 (by decide))
      have hT4 : rTb (c2 4) (aK a) (aZ a) (aD a) := by
        have hT1 := (rI_W hI1).2.2
        have z : ∀ w, w < 244 → c2 4 w = c1 3 w := fun w hw => by rw [hc2, mx_upR_row, fb_put_in (by omega) (by omega)]; rfl
        refine ⟨by rw [z _ (by omega)]; exact hT1.1, fun j hj => ?_⟩
        have hj2 : j < aD (aN a) := hj
        rw [z _ (by omega), z _ (by omega), z _ (by omega)]
        exact hT1.2 j hj
      refine mR 8 rfl (mA1 (mI (n := 54) (by decide))) ?_
      rw [c54]
      obtain ⟨c3, hc3⟩ : ∃ c3, c3 = mx_up (mx_up c2 3 54 0) 0 29 0 := ⟨_, rfl⟩
      rw [← hc3]
      refine mR 5 rfl trivial ?_
      refine mx_E_callV (sp_Mo_piles _ 0 _ _ _ _ (by decide) (by rw [hc3, mx_up_same]; rfl)) rfl rfl rfl (fun r c4 hr => ?_)
      obtain ⟨rfl, h3⟩ := hr
      have eZ0 : aZ a 0 = aD a := hM.2.2.1
      refine mS (lp_Mo_swaps h6 hM hk e rfl rfl (aD a) 0 0 0 none c4 (by omega) hM.1 (fun u hu => by cases hu) (by omega) (by omega) h3.2.2.1 ⟨h3.2.2.2.1, h3.2.2.2.2.1, h3.2.2.2.2.2.1, h3.2.2.2.2.2.2.1⟩ (by rw [h3.1 3 (by decide), hc3, mx_up_id _ _ _ _ _ _ (by decide), mx_up_same]; rfl) (by rw [h3.1 4 (by decide), hc3, mx_up_rid _ _ _ _ _ (by decide), mx_up_rid _ _ _ _ _ (by decide)]; exact hT4) (fun c5 h5 t5 => ?_)) rfl rfl rfl
      rw [eZ0] at h5 t5
      obtain ⟨y1, y2, y3, y4, y5, y6, y7, y8⟩ := h5
      have d0 : ∀ w, w ≠ 29 → c5 0 w = c2 0 w := fun w hw => by rw [y2 w hw, h3.2.1 w hw, hc3, mx_up_ix _ _ _ _ _ _ hw, mx_up_id _ _ _ _ _ _ (by decide)]
      have dr : ∀ r, r ∉ [0, 3, 15] → c5 r = c2 r := fun r hr => by
        have hr2 := hr
        simp only [List.mem_cons, List.not_mem_nil, or_false, not_or] at hr
        rw [y1 r hr2, h3.1 r (by simp [hr]), hc3, mx_up_rid _ _ _ _ _ hr.1, mx_up_rid _ _ _ _ _ hr.2.1]
      have d3 : ∀ w, w < 54 → c5 3 w = c2 3 w := fun w hw => by rw [y8 w (Or.inl hw) (fun z => by cases z), h3.1 3 (by decide), hc3, mx_up_rid _ _ _ _ _ (by decide), mx_up_ix _ _ _ _ _ _ (by omega)]
      obtain ⟨g1, g2, g3, g4, g5, g6⟩ := hI2
      have sx : ∀ j, swX k (aZ a (k + 1)) (aZ a (k + 1 + aZ a (k + 1))) 0 j = swI k (aZ a (k + 1)) (aZ a (k + 1 + aZ a (k + 1))) j := fun j => by
        unfold swX
        rw [if_pos (Nat.zero_le k), Nat.zero_add]
      simp only [sx] at t5 y6
      have hP : rP (c5 3) a.1.1 a.1.2 (pSwp a.2.1 k) := by
        refine ⟨g2.1, fun j p hj hp => by rw [d3 _ (by omega)]; exact g2.2.1 j p hj hp, mT_tree.mpr ⟨t5, h63⟩, by rw [y5, Nat.zero_add]; rfl, fun j hj => ?_⟩
        have z := y6 j hj
        rw [Nat.zero_add] at z
        exact z
      have hI5 : rI c5 (aPic (aN a) (pSwp a.2.1 k)) := by
        refine ⟨?_, hP, ?_, ?_, ?_, ?_⟩
        · rw [d0 8 (by decide), d0 9 (by decide)]; exact g1
        · rw [d0 2 (by decide), dr 1 (by decide)]; exact g3
        · rw [d0 22 (by decide), dr 8 (by decide), dr 9 (by decide), dr 10 (by decide)]; exact g4
        · rw [d0 16 (by decide), dr 5 (by decide)]; exact g5
        · rw [dr 7 (by decide), dr 6 (by decide)]; exact g6
      refine mR 2 rfl trivial ?_
      rw [y3]
      refine mx_E_br rfl rfl (fun _ => ?_) (fun h => absurd (by decide) h)
      refine mR 1 rfl trivial ?_
      refine mx_E_callV (sp_Mo_all _ _ hI5.1.2.1 hm) rfl rfl rfl (fun r c6 hr => ?_)
      obtain ⟨rfl, hc6⟩ := hr
      have hI6 : rI c6 (aPic (aN a) (pSwp a.2.1 k)) := by rw [hc6]; exact rI_all hI5
      refine mR 4 rfl trivial ?_
      refine mx_E_callV (sp_Mo_outcome3 (w := 0) _ (rI_V (t := mall a) hI6 (by rw [hc6, mx_up_same]; rfl) (pw_lt hm)) (by decide)) rfl rfl rfl (fun r c7 hr => ?_)
      obtain ⟨rfl, hf⟩ := hr
      exact mx_E_iret rfl rfl ⟨rfl, rI_fr hI6 (mfr_mo hf (by decide))⟩
  · rw [hb]
    refine mR 1 rfl trivial ?_
    exact mx_E_iret rfl rfl ⟨rfl, h0⟩
