/-- an entry of the pile -/
def rPe (c : mx_M) (q : Nat) (its far : Nat) (lk : Option (Nat × Nat)) : Prop := c 15 (4 * q) = nI its ∧ c 15 (4 * q + 1) = nI far ∧ c 15 (4 * q + 2) = lkI lk ∧ c 15 (4 * q + 3) = nI (lkB lk)
theorem m4q (q : Nat) : (4 : Int32) * nI q = nI (4 * q) := by rw [show (4 : Int32) = nI 4 from rfl, pk_mul]
theorem lp_Mo_lays2 {n : Nat} {f : Nat → Nat} (hn : mn n) (hf : ∀ p, p < n → f p < n) {Q : Option Value → mx_M → Prop} :
    ∀ (t its b q : Nat) (lk : Option (Nat × Nat)) (c : mx_M), t < n → its < n → lkOk lk b → b + tL t ≤ 63 → q + tL t ≤ 63 → c 0 29 = nI (q + 1) → rPe c q its (n - t) lk → c 2 54 = nI b → (∀ p, p < n → c 14 p = nI (f p)) → (∀ c', rLd c c' 2 b (tL t) q lk (tK f n t its) (tZ t) → mx_E 1 2 m_Mo_lays Q 16 [.ref 0, .ref 2, .int (nI n), .null, .null, .null] [] c') → mx_E 1 2 m_Mo_lays Q 16 [.ref 0, .ref 2, .int (nI n), .null, .null, .null] [] c := by
  have h6 := hn.2
  intro t
  induction t with
  | zero =>
    intro its b q lk c ht hi hl hb hq h29 hpe h54 h14 hk
    rw [tL_0] at hb hq
    obtain ⟨e0, e1, e2, e3⟩ := hpe
    refine mR 2 rfl trivial ?_
    rw [h29]
    refine mx_E_br rfl rfl (fun h => absurd h (nI_nle (by omega) (by omega))) (fun _ => ?_)
    refine mR 6 rfl trivial ?_
    rw [h29, nI_p1]
    obtain ⟨c1, hc1⟩ : ∃ c1, c1 = mx_up c 0 29 (nI q) := ⟨_, rfl⟩
    have g29 : c1 0 29 = nI q := by rw [hc1, mx_up_same]
    have g15 : ∀ x, c1 15 x = c 15 x := fun x => by rw [hc1, mx_up_id _ _ _ _ _ _ (by decide)]
    rw [← hc1]
    refine mR 37 rfl (mA4 (by rw [g29, m4q]; exact mI (by omega)) (by rw [g29, m4q, show (1 : Int32) = nI 1 from rfl, ix4]; exact mI (by omega)) (by rw [g29, m4q, show (2 : Int32) = nI 2 from rfl, ix4]; exact mI (by omega)) (by rw [g29, m4q, show (3 : Int32) = nI 3 from rfl, ix4]; exact mI (by omega))) ?_
    rw [g29, m4q, show nI (4 * q) + (1 : Int32) = nI (4 * q + 1) from ix4 q 1, show nI (4 * q) + (2 : Int32) = nI (4 * q + 2) from ix4 q 2, show nI (4 * q) + (3 : Int32) = nI (4 * q + 3) from ix4 q 3, nI_cl (a := 4 * q) (by omega), nI_cl (a := 4 * q + 1) (by omega), nI_cl (a := 4 * q + 2) (by omega), nI_cl (a := 4 * q + 3) (by omega), g15, g15, g15, g15, e0, e1, e2, e3]
    refine mx_E_callS (sp_Mo_comesTo2 _ b lk (by omega) (by rw [hc1, mx_up_id _ _ _ _ _ _ (by decide)]; exact h54) hl) rfl rfl rfl (fun r c2 hr => ?_)
    obtain ⟨rfl, h2⟩ := hr
    refine mR 3 rfl trivial ?_
    refine mbNe (n - 0) n rfl (by omega) (by omega) (fun h => by omega) (fun _ => ?_)
    refine mR 8 rfl (mA1 (by rw [ixA 55 rfl]; exact mI (by omega))) ?_
    rw [ixA 55 rfl, nI_cl (a := 55 + b) (by omega)]
    exact mW (hk _ (rLd_leaf (n := n) (by decide) (by decide) (by omega) hl hc1 h2)) ⟨Or.inr rfl, Or.inr rfl, Or.inr rfl, Or.inl rfl, Or.inl rfl, Or.inl rfl, trivial⟩ rfl rfl
  | succ t ih =>
    intro its b q lk c ht hi hl hb hq h29 hpe h54 h14 hk
    have hts := tL_s t
    have htp := tL_pos t
    obtain ⟨e0, e1, e2, e3⟩ := hpe
    refine mR 2 rfl trivial ?_
    rw [h29]
    refine mx_E_br rfl rfl (fun h => absurd h (nI_nle (by omega) (by omega))) (fun _ => ?_)
    refine mR 6 rfl trivial ?_
    rw [h29, nI_p1]
    obtain ⟨c1, hc1⟩ : ∃ c1, c1 = mx_up c 0 29 (nI q) := ⟨_, rfl⟩
    have g29 : c1 0 29 = nI q := by rw [hc1, mx_up_same]
    have g15 : ∀ x, c1 15 x = c 15 x := fun x => by rw [hc1, mx_up_id _ _ _ _ _ _ (by decide)]
    rw [← hc1]
    refine mR 37 rfl (mA4 (by rw [g29, m4q]; exact mI (by omega)) (by rw [g29, m4q, show (1 : Int32) = nI 1 from rfl, ix4]; exact mI (by omega)) (by rw [g29, m4q, show (2 : Int32) = nI 2 from rfl, ix4]; exact mI (by omega)) (by rw [g29, m4q, show (3 : Int32) = nI 3 from rfl, ix4]; exact mI (by omega))) ?_
    rw [g29, m4q, show nI (4 * q) + (1 : Int32) = nI (4 * q + 1) from ix4 q 1, show nI (4 * q) + (2 : Int32) = nI (4 * q + 2) from ix4 q 2, show nI (4 * q) + (3 : Int32) = nI (4 * q + 3) from ix4 q 3, nI_cl (a := 4 * q) (by omega), nI_cl (a := 4 * q + 1) (by omega), nI_cl (a := 4 * q + 2) (by omega), nI_cl (a := 4 * q + 3) (by omega), g15, g15, g15, g15, e0, e1, e2, e3]
    refine mx_E_callS (sp_Mo_comesTo2 _ b lk (by omega) (by rw [hc1, mx_up_id _ _ _ _ _ _ (by decide)]; exact h54) hl) rfl rfl rfl (fun r c2 hr => ?_)
    obtain ⟨rfl, h2⟩ := hr
    have g29b : c2 0 29 = nI q := by rw [h2.1 0 (by decide)]; exact g29
    have g14 : ∀ p, p < n → c2 14 p = nI (f p) := fun p hp => by rw [h2.1 14 (by decide), hc1, mx_up_id _ _ _ _ _ _ (by decide)]; exact h14 p hp
    refine mR 3 rfl trivial ?_
    refine mbNe (n - (t + 1)) n rfl (by omega) (by omega) (fun _ => ?_) (fun h => by omega)
    refine mR 10 rfl (mA1 (mI (by omega))) ?_
    rw [nI_cl (a := n - (t + 1)) (by omega), g14 _ (by omega), nI_1, show n - (t + 1) + 1 = n - t by omega]
    refine mx_E_callV (sp_Mo_piles _ q _ _ _ _ (by omega) g29b) rfl rfl rfl (fun r c3 hr => ?_)
    obtain ⟨rfl, h3⟩ := hr
    refine mR 7 rfl trivial ?_
    rw [nI_1, show n - (t + 1) + 1 = n - t by omega]
    refine mx_E_callV (sp_Mo_piles _ (q + 1) _ _ _ _ (by omega) h3.2.2.1) rfl rfl rfl (fun r c4 hr => ?_)
    obtain ⟨rfl, h4⟩ := hr
    refine mR 1 rfl trivial ?_
    have k14 : ∀ p, p < n → c4 14 p = nI (f p) := fun p hp => by rw [h4.1 14 (by decide), h3.1 14 (by decide)]; exact g14 p hp
    have k54 : c4 2 54 = nI (b + 1) := by rw [h4.1 2 (by decide), h3.1 2 (by decide)]; exact h2.2.1
    refine mW (ih its (b + 1) (q + 1) (some (b, 0)) c4 (by omega) hi (fun u hu => by cases hu; exact ⟨by show b < b + 1; omega, by show (0 : Nat) < 2; decide⟩) (by omega) (by omega) h4.2.2.1 ⟨h4.2.2.2.1, h4.2.2.2.2.1, h4.2.2.2.2.2.1, h4.2.2.2.2.2.2.1⟩ k54 k14 (fun c5 h5 => ?_)) ⟨Or.inr rfl, Or.inr rfl, Or.inr rfl, Or.inl rfl, Or.inl rfl, Or.inl rfl, trivial⟩ rfl rfl
    have u0 : c5 15 (4 * q) = c3 15 (4 * q) := by rw [h5.2.2.2.1 _ (by omega), h4.2.2.2.2.2.2.2 _ (by omega)]
    have u1 : c5 15 (4 * q + 1) = c3 15 (4 * q + 1) := by rw [h5.2.2.2.1 _ (by omega), h4.2.2.2.2.2.2.2 _ (by omega)]
    have u2 : c5 15 (4 * q + 2) = c3 15 (4 * q + 2) := by rw [h5.2.2.2.1 _ (by omega), h4.2.2.2.2.2.2.2 _ (by omega)]
    have u3 : c5 15 (4 * q + 3) = c3 15 (4 * q + 3) := by rw [h5.2.2.2.1 _ (by omega), h4.2.2.2.2.2.2.2 _ (by omega)]
    refine ih (f (n - (t + 1))) (b + 1 + tL t) q (some (b, 1)) c5 (by omega) (hf _ (by omega)) (fun u hu => by cases hu; exact ⟨by show b < b + 1 + tL t; omega, by show (1 : Nat) < 2; decide⟩) (by omega) (by omega) h5.2.2.1 ⟨by rw [u0]; exact h3.2.2.2.1, by rw [u1]; exact h3.2.2.2.2.1, by rw [u2]; exact h3.2.2.2.2.2.1, by rw [u3]; exact h3.2.2.2.2.2.2.1⟩ h5.2.2.2.2.1 (fun p hp => by rw [h5.1 14 (by decide)]; exact k14 p hp) (fun c6 h6 => ?_)
    refine hk c6 ?_
    rw [tL_s]
    exact rLd_join (by decide) (by decide) (by omega) hl (tT hf t its (by omega) hi) (tT hf t _ (by omega) (hf _ (by omega))) hc1 h2 h3 h4 h5 h6
/-- the row holds the agenda of the order f, and all else as it was -/
theorem sp_Mo_lays2 (c : mx_M) {n : Nat} {f : Nat → Nat} (hn : mn n) (hf : ∀ p, p < n → f p < n) (h14 : ∀ p, p < n → c 14 p = nI (f p)) : mx_Spec 1 2 m_Mo_lays [.ref 0, .ref 2, .int (nI n)] c (fun r c' => r = none ∧ mfr [0, 2, 15] c c' ∧ (∀ k, k ≠ 29 → c' 0 k = c 0 k) ∧ (∀ x, x < 54 → c' 2 x = c 2 x) ∧ rTb (c' 2) (tK f n (n - 1) (f 0)) (tZ (n - 1)) (tL (n - 1))) := by
  have h2 := hn.1
  have h6 := hn.2
  have hl63 : tL (n - 1) ≤ 63 := by
    rcases mn_cases hn with rfl | rfl | rfl | rfl | rfl <;> decide
  refine mx_Spec_E rfl rfl rfl ?_
  refine mR 7 rfl (mA1 (mI (n := 54) (by decide))) ?_
  rw [c54]
  obtain ⟨c1, hc1⟩ : ∃ c1, c1 = mx_up (mx_up c 2 54 0) 0 29 0 := ⟨_, rfl⟩
  rw [← hc1]
  have k14 : ∀ p, p < n → c1 14 p = nI (f p) := fun p hp => by rw [hc1, mx_up_id _ _ _ _ _ _ (by decide), mx_up_id _ _ _ _ _ _ (by decide)]; exact h14 p hp
  refine mR 8 rfl (mA1 (mI (n := 0) (by decide))) ?_
  rw [show ((0 : Int32)).toNatClampNeg = 0 by decide, k14 0 (by omega)]
  refine mx_E_callV (sp_Mo_piles _ 0 _ _ _ _ (by decide) (by rw [hc1, mx_up_same]; rfl)) rfl rfl rfl (fun r c2 hr => ?_)
  obtain ⟨rfl, h3⟩ := hr
  refine mS (lp_Mo_lays2 hn hf (n - 1) (f 0) 0 0 none c2 (by omega) (hf 0 (by omega)) (fun u hu => by cases hu) (by omega) (by omega) h3.2.2.1 ⟨h3.2.2.2.1, by rw [show n - (n - 1) = 1 by omega]; exact h3.2.2.2.2.1, h3.2.2.2.2.2.1, h3.2.2.2.2.2.2.1⟩ (by rw [h3.1 2 (by decide), hc1, mx_up_id _ _ _ _ _ _ (by decide), mx_up_same]; rfl) (fun p hp => by rw [h3.1 14 (by decide)]; exact k14 p hp) (fun c' h => ?_)) rfl rfl rfl
  obtain ⟨y1, y2, y3, y4, y5, y6, y7, y8⟩ := h
  refine mR 2 rfl trivial ?_
  rw [y3]
  refine mx_E_br rfl rfl (fun _ => ?_) (fun h => absurd (by decide) h)
  refine mx_E_vret rfl rfl ⟨rfl, ?_, ?_, ?_, ?_⟩
  · intro r hr
    have hr2 := hr
    simp only [List.mem_cons, List.not_mem_nil, or_false, not_or] at hr
    rw [y1 r hr2, h3.1 r (by simp [hr]), hc1, mx_up_rid _ _ _ _ _ hr.1, mx_up_rid _ _ _ _ _ hr.2.1]
  · intro k hk
    rw [y2 k hk, h3.2.1 k hk, hc1, mx_up_ix _ _ _ _ _ _ hk, mx_up_id _ _ _ _ _ _ (by decide)]
  · intro x hx
    rw [y8 x (Or.inl hx) (fun z => by cases z), h3.1 2 (by decide), hc1, mx_up_rid _ _ _ _ _ (by decide), mx_up_ix _ _ _ _ _ _ (by omega)]
  · refine ⟨by rw [y5, Nat.zero_add], fun k hk => ?_⟩
    have z := y6 k hk
    rw [Nat.zero_add] at z
    exact z
theorem lp_Mo_lays3 {n : Nat} {f : Nat → Nat} (hn : mn n) (hf : ∀ p, p < n → f p < n) {Q : Option Value → mx_M → Prop} :
    ∀ (t its b q : Nat) (lk : Option (Nat × Nat)) (c : mx_M), t < n → its < n → lkOk lk b → b + tL t ≤ 63 → q + tL t ≤ 63 → c 0 29 = nI (q + 1) → rPe c q its (n - t) lk → c 3 54 = nI b → (∀ p, p < n → c 14 p = nI (f p)) → (∀ c', rLd c c' 3 b (tL t) q lk (tK f n t its) (tZ t) → mx_E 1 2 m_Mo_lays Q 16 [.ref 0, .ref 3, .int (nI n), .null, .null, .null] [] c') → mx_E 1 2 m_Mo_lays Q 16 [.ref 0, .ref 3, .int (nI n), .null, .null, .null] [] c := by
  have h6 := hn.2
  intro t
  induction t with
  | zero =>
    intro its b q lk c ht hi hl hb hq h29 hpe h54 h14 hk
    rw [tL_0] at hb hq
    obtain ⟨e0, e1, e2, e3⟩ := hpe
    refine mR 2 rfl trivial ?_
    rw [h29]
    refine mx_E_br rfl rfl (fun h => absurd h (nI_nle (by omega) (by omega))) (fun _ => ?_)
    refine mR 6 rfl trivial ?_
    rw [h29, nI_p1]
    obtain ⟨c1, hc1⟩ : ∃ c1, c1 = mx_up c 0 29 (nI q) := ⟨_, rfl⟩
    have g29 : c1 0 29 = nI q := by rw [hc1, mx_up_same]
    have g15 : ∀ x, c1 15 x = c 15 x := fun x => by rw [hc1, mx_up_id _ _ _ _ _ _ (by decide)]
    rw [← hc1]
    refine mR 37 rfl (mA4 (by rw [g29, m4q]; exact mI (by omega)) (by rw [g29, m4q, show (1 : Int32) = nI 1 from rfl, ix4]; exact mI (by omega)) (by rw [g29, m4q, show (2 : Int32) = nI 2 from rfl, ix4]; exact mI (by omega)) (by rw [g29, m4q, show (3 : Int32) = nI 3 from rfl, ix4]; exact mI (by omega))) ?_
    rw [g29, m4q, show nI (4 * q) + (1 : Int32) = nI (4 * q + 1) from ix4 q 1, show nI (4 * q) + (2 : Int32) = nI (4 * q + 2) from ix4 q 2, show nI (4 * q) + (3 : Int32) = nI (4 * q + 3) from ix4 q 3, nI_cl (a := 4 * q) (by omega), nI_cl (a := 4 * q + 1) (by omega), nI_cl (a := 4 * q + 2) (by omega), nI_cl (a := 4 * q + 3) (by omega), g15, g15, g15, g15, e0, e1, e2, e3]
    refine mx_E_callS (sp_Mo_comesTo3 _ b lk (by omega) (by rw [hc1, mx_up_id _ _ _ _ _ _ (by decide)]; exact h54) hl) rfl rfl rfl (fun r c2 hr => ?_)
    obtain ⟨rfl, h2⟩ := hr
    refine mR 3 rfl trivial ?_
    refine mbNe (n - 0) n rfl (by omega) (by omega) (fun h => by omega) (fun _ => ?_)
    refine mR 8 rfl (mA1 (by rw [ixA 55 rfl]; exact mI (by omega))) ?_
    rw [ixA 55 rfl, nI_cl (a := 55 + b) (by omega)]
    exact mW (hk _ (rLd_leaf (n := n) (by decide) (by decide) (by omega) hl hc1 h2)) ⟨Or.inr rfl, Or.inr rfl, Or.inr rfl, Or.inl rfl, Or.inl rfl, Or.inl rfl, trivial⟩ rfl rfl
  | succ t ih =>
    intro its b q lk c ht hi hl hb hq h29 hpe h54 h14 hk
    have hts := tL_s t
    have htp := tL_pos t
    obtain ⟨e0, e1, e2, e3⟩ := hpe
    refine mR 2 rfl trivial ?_
    rw [h29]
    refine mx_E_br rfl rfl (fun h => absurd h (nI_nle (by omega) (by omega))) (fun _ => ?_)
    refine mR 6 rfl trivial ?_
    rw [h29, nI_p1]
    obtain ⟨c1, hc1⟩ : ∃ c1, c1 = mx_up c 0 29 (nI q) := ⟨_, rfl⟩
    have g29 : c1 0 29 = nI q := by rw [hc1, mx_up_same]
    have g15 : ∀ x, c1 15 x = c 15 x := fun x => by rw [hc1, mx_up_id _ _ _ _ _ _ (by decide)]
    rw [← hc1]
    refine mR 37 rfl (mA4 (by rw [g29, m4q]; exact mI (by omega)) (by rw [g29, m4q, show (1 : Int32) = nI 1 from rfl, ix4]; exact mI (by omega)) (by rw [g29, m4q, show (2 : Int32) = nI 2 from rfl, ix4]; exact mI (by omega)) (by rw [g29, m4q, show (3 : Int32) = nI 3 from rfl, ix4]; exact mI (by omega))) ?_
    rw [g29, m4q, show nI (4 * q) + (1 : Int32) = nI (4 * q + 1) from ix4 q 1, show nI (4 * q) + (2 : Int32) = nI (4 * q + 2) from ix4 q 2, show nI (4 * q) + (3 : Int32) = nI (4 * q + 3) from ix4 q 3, nI_cl (a := 4 * q) (by omega), nI_cl (a := 4 * q + 1) (by omega), nI_cl (a := 4 * q + 2) (by omega), nI_cl (a := 4 * q + 3) (by omega), g15, g15, g15, g15, e0, e1, e2, e3]
    refine mx_E_callS (sp_Mo_comesTo3 _ b lk (by omega) (by rw [hc1, mx_up_id _ _ _ _ _ _ (by decide)]; exact h54) hl) rfl rfl rfl (fun r c2 hr => ?_)
    obtain ⟨rfl, h2⟩ := hr
    have g29b : c2 0 29 = nI q := by rw [h2.1 0 (by decide)]; exact g29
    have g14 : ∀ p, p < n → c2 14 p = nI (f p) := fun p hp => by rw [h2.1 14 (by decide), hc1, mx_up_id _ _ _ _ _ _ (by decide)]; exact h14 p hp
    refine mR 3 rfl trivial ?_
    refine mbNe (n - (t + 1)) n rfl (by omega) (by omega) (fun _ => ?_) (fun h => by omega)
    refine mR 10 rfl (mA1 (mI (by omega))) ?_
    rw [nI_cl (a := n - (t + 1)) (by omega), g14 _ (by omega), nI_1, show n - (t + 1) + 1 = n - t by omega]
    refine mx_E_callV (sp_Mo_piles _ q _ _ _ _ (by omega) g29b) rfl rfl rfl (fun r c3 hr => ?_)
    obtain ⟨rfl, h3⟩ := hr
    refine mR 7 rfl trivial ?_
    rw [nI_1, show n - (t + 1) + 1 = n - t by omega]
    refine mx_E_callV (sp_Mo_piles _ (q + 1) _ _ _ _ (by omega) h3.2.2.1) rfl rfl rfl (fun r c4 hr => ?_)
    obtain ⟨rfl, h4⟩ := hr
    refine mR 1 rfl trivial ?_
    have k14 : ∀ p, p < n → c4 14 p = nI (f p) := fun p hp => by rw [h4.1 14 (by decide), h3.1 14 (by decide)]; exact g14 p hp
    have k54 : c4 3 54 = nI (b + 1) := by rw [h4.1 3 (by decide), h3.1 3 (by decide)]; exact h2.2.1
    refine mW (ih its (b + 1) (q + 1) (some (b, 0)) c4 (by omega) hi (fun u hu => by cases hu; exact ⟨by show b < b + 1; omega, by show (0 : Nat) < 2; decide⟩) (by omega) (by omega) h4.2.2.1 ⟨h4.2.2.2.1, h4.2.2.2.2.1, h4.2.2.2.2.2.1, h4.2.2.2.2.2.2.1⟩ k54 k14 (fun c5 h5 => ?_)) ⟨Or.inr rfl, Or.inr rfl, Or.inr rfl, Or.inl rfl, Or.inl rfl, Or.inl rfl, trivial⟩ rfl rfl
    have u0 : c5 15 (4 * q) = c3 15 (4 * q) := by rw [h5.2.2.2.1 _ (by omega), h4.2.2.2.2.2.2.2 _ (by omega)]
    have u1 : c5 15 (4 * q + 1) = c3 15 (4 * q + 1) := by rw [h5.2.2.2.1 _ (by omega), h4.2.2.2.2.2.2.2 _ (by omega)]
    have u2 : c5 15 (4 * q + 2) = c3 15 (4 * q + 2) := by rw [h5.2.2.2.1 _ (by omega), h4.2.2.2.2.2.2.2 _ (by omega)]
    have u3 : c5 15 (4 * q + 3) = c3 15 (4 * q + 3) := by rw [h5.2.2.2.1 _ (by omega), h4.2.2.2.2.2.2.2 _ (by omega)]
    refine ih (f (n - (t + 1))) (b + 1 + tL t) q (some (b, 1)) c5 (by omega) (hf _ (by omega)) (fun u hu => by cases hu; exact ⟨by show b < b + 1 + tL t; omega, by show (1 : Nat) < 2; decide⟩) (by omega) (by omega) h5.2.2.1 ⟨by rw [u0]; exact h3.2.2.2.1, by rw [u1]; exact h3.2.2.2.2.1, by rw [u2]; exact h3.2.2.2.2.2.1, by rw [u3]; exact h3.2.2.2.2.2.2.1⟩ h5.2.2.2.2.1 (fun p hp => by rw [h5.1 14 (by decide)]; exact k14 p hp) (fun c6 h6 => ?_)
    refine hk c6 ?_
    rw [tL_s]
    exact rLd_join (by decide) (by decide) (by omega) hl (tT hf t its (by omega) hi) (tT hf t _ (by omega) (hf _ (by omega))) hc1 h2 h3 h4 h5 h6
/-- the row holds the agenda of the order f, and all else as it was -/
theorem sp_Mo_lays3 (c : mx_M) {n : Nat} {f : Nat → Nat} (hn : mn n) (hf : ∀ p, p < n → f p < n) (h14 : ∀ p, p < n → c 14 p = nI (f p)) : mx_Spec 1 2 m_Mo_lays [.ref 0, .ref 3, .int (nI n)] c (fun r c' => r = none ∧ mfr [0, 3, 15] c c' ∧ (∀ k, k ≠ 29 → c' 0 k = c 0 k) ∧ (∀ x, x < 54 → c' 3 x = c 3 x) ∧ rTb (c' 3) (tK f n (n - 1) (f 0)) (tZ (n - 1)) (tL (n - 1))) := by
  have h2 := hn.1
  have h6 := hn.2
  have hl63 : tL (n - 1) ≤ 63 := by
    rcases mn_cases hn with rfl | rfl | rfl | rfl | rfl <;> decide
  refine mx_Spec_E rfl rfl rfl ?_
  refine mR 7 rfl (mA1 (mI (n := 54) (by decide))) ?_
  rw [c54]
  obtain ⟨c1, hc1⟩ : ∃ c1, c1 = mx_up (mx_up c 3 54 0) 0 29 0 := ⟨_, rfl⟩
  rw [← hc1]
  have k14 : ∀ p, p < n → c1 14 p = nI (f p) := fun p hp => by rw [hc1, mx_up_id _ _ _ _ _ _ (by decide), mx_up_id _ _ _ _ _ _ (by decide)]; exact h14 p hp
  refine mR 8 rfl (mA1 (mI (n := 0) (by decide))) ?_
  rw [show ((0 : Int32)).toNatClampNeg = 0 by decide, k14 0 (by omega)]
  refine mx_E_callV (sp_Mo_piles _ 0 _ _ _ _ (by decide) (by rw [hc1, mx_up_same]; rfl)) rfl rfl rfl (fun r c2 hr => ?_)
  obtain ⟨rfl, h3⟩ := hr
  refine mS (lp_Mo_lays3 hn hf (n - 1) (f 0) 0 0 none c2 (by omega) (hf 0 (by omega)) (fun u hu => by cases hu) (by omega) (by omega) h3.2.2.1 ⟨h3.2.2.2.1, by rw [show n - (n - 1) = 1 by omega]; exact h3.2.2.2.2.1, h3.2.2.2.2.2.1, h3.2.2.2.2.2.2.1⟩ (by rw [h3.1 3 (by decide), hc1, mx_up_id _ _ _ _ _ _ (by decide), mx_up_same]; rfl) (fun p hp => by rw [h3.1 14 (by decide)]; exact k14 p hp) (fun c' h => ?_)) rfl rfl rfl
  obtain ⟨y1, y2, y3, y4, y5, y6, y7, y8⟩ := h
  refine mR 2 rfl trivial ?_
  rw [y3]
  refine mx_E_br rfl rfl (fun _ => ?_) (fun h => absurd (by decide) h)
  refine mx_E_vret rfl rfl ⟨rfl, ?_, ?_, ?_, ?_⟩
  · intro r hr
    have hr2 := hr
    simp only [List.mem_cons, List.not_mem_nil, or_false, not_or] at hr
    rw [y1 r hr2, h3.1 r (by simp [hr]), hc1, mx_up_rid _ _ _ _ _ hr.1, mx_up_rid _ _ _ _ _ hr.2.1]
  · intro k hk
    rw [y2 k hk, h3.2.1 k hk, hc1, mx_up_ix _ _ _ _ _ _ hk, mx_up_id _ _ _ _ _ _ (by decide)]
  · intro x hx
    rw [y8 x (Or.inl hx) (fun z => by cases z), h3.1 3 (by decide), hc1, mx_up_rid _ _ _ _ _ (by decide), mx_up_ix _ _ _ _ _ _ (by omega)]
  · refine ⟨by rw [y5, Nat.zero_add], fun k hk => ?_⟩
    have z := y6 k hk
    rw [Nat.zero_add] at z
    exact z
theorem lp_Mo_lays4 {n : Nat} {f : Nat → Nat} (hn : mn n) (hf : ∀ p, p < n → f p < n) {Q : Option Value → mx_M → Prop} :
    ∀ (t its b q : Nat) (lk : Option (Nat × Nat)) (c : mx_M), t < n → its < n → lkOk lk b → b + tL t ≤ 63 → q + tL t ≤ 63 → c 0 29 = nI (q + 1) → rPe c q its (n - t) lk → c 4 54 = nI b → (∀ p, p < n → c 14 p = nI (f p)) → (∀ c', rLd c c' 4 b (tL t) q lk (tK f n t its) (tZ t) → mx_E 1 2 m_Mo_lays Q 16 [.ref 0, .ref 4, .int (nI n), .null, .null, .null] [] c') → mx_E 1 2 m_Mo_lays Q 16 [.ref 0, .ref 4, .int (nI n), .null, .null, .null] [] c := by
  have h6 := hn.2
  intro t
  induction t with
  | zero =>
    intro its b q lk c ht hi hl hb hq h29 hpe h54 h14 hk
    rw [tL_0] at hb hq
    obtain ⟨e0, e1, e2, e3⟩ := hpe
    refine mR 2 rfl trivial ?_
    rw [h29]
    refine mx_E_br rfl rfl (fun h => absurd h (nI_nle (by omega) (by omega))) (fun _ => ?_)
    refine mR 6 rfl trivial ?_
    rw [h29, nI_p1]
    obtain ⟨c1, hc1⟩ : ∃ c1, c1 = mx_up c 0 29 (nI q) := ⟨_, rfl⟩
    have g29 : c1 0 29 = nI q := by rw [hc1, mx_up_same]
    have g15 : ∀ x, c1 15 x = c 15 x := fun x => by rw [hc1, mx_up_id _ _ _ _ _ _ (by decide)]
    rw [← hc1]
    refine mR 37 rfl (mA4 (by rw [g29, m4q]; exact mI (by omega)) (by rw [g29, m4q, show (1 : Int32) = nI 1 from rfl, ix4]; exact mI (by omega)) (by rw [g29, m4q, show (2 : Int32) = nI 2 from rfl, ix4]; exact mI (by omega)) (by rw [g29, m4q, show (3 : Int32) = nI 3 from rfl, ix4]; exact mI (by omega))) ?_
    rw [g29, m4q, show nI (4 * q) + (1 : Int32) = nI (4 * q + 1) from ix4 q 1, show nI (4 * q) + (2 : Int32) = nI (4 * q + 2) from ix4 q 2, show nI (4 * q) + (3 : Int32) = nI (4 * q + 3) from ix4 q 3, nI_cl (a := 4 * q) (by omega), nI_cl (a := 4 * q + 1) (by omega), nI_cl (a := 4 * q + 2) (by omega), nI_cl (a := 4 * q + 3) (by omega), g15, g15, g15, g15, e0, e1, e2, e3]
    refine mx_E_callS (sp_Mo_comesTo4 _ b lk (by omega) (by rw [hc1, mx_up_id _ _ _ _ _ _ (by decide)]; exact h54) hl) rfl rfl rfl (fun r c2 hr => ?_)
    obtain ⟨rfl, h2⟩ := hr
    refine mR 3 rfl trivial ?_
    refine mbNe (n - 0) n rfl (by omega) (by omega) (fun h => by omega) (fun _ => ?_)
    refine mR 8 rfl (mA1 (by rw [ixA 55 rfl]; exact mI (by omega))) ?_
    rw [ixA 55 rfl, nI_cl (a := 55 + b) (by omega)]
    exact mW (hk _ (rLd_leaf (n := n) (by decide) (by decide) (by omega) hl hc1 h2)) ⟨Or.inr rfl, Or.inr rfl, Or.inr rfl, Or.inl rfl, Or.inl rfl, Or.inl rfl, trivial⟩ rfl rfl
  | succ t ih =>
    intro its b q lk c ht hi hl hb hq h29 hpe h54 h14 hk
    have hts := tL_s t
    have htp := tL_pos t
    obtain ⟨e0, e1, e2, e3⟩ := hpe
    refine mR 2 rfl trivial ?_
    rw [h29]
    refine mx_E_br rfl rfl (fun h => absurd h (nI_nle (by omega) (by omega))) (fun _ => ?_)
    refine mR 6 rfl trivial ?_
    rw [h29, nI_p1]
    obtain ⟨c1, hc1⟩ : ∃ c1, c1 = mx_up c 0 29 (nI q) := ⟨_, rfl⟩
    have g29 : c1 0 29 = nI q := by rw [hc1, mx_up_same]
    have g15 : ∀ x, c1 15 x = c 15 x := fun x => by rw [hc1, mx_up_id _ _ _ _ _ _ (by decide)]
    rw [← hc1]
    refine mR 37 rfl (mA4 (by rw [g29, m4q]; exact mI (by omega)) (by rw [g29, m4q, show (1 : Int32) = nI 1 from rfl, ix4]; exact mI (by omega)) (by rw [g29, m4q, show (2 : Int32) = nI 2 from rfl, ix4]; exact mI (by omega)) (by rw [g29, m4q, show (3 : Int32) = nI 3 from rfl, ix4]; exact mI (by omega))) ?_
    rw [g29, m4q, show nI (4 * q) + (1 : Int32) = nI (4 * q + 1) from ix4 q 1, show nI (4 * q) + (2 : Int32) = nI (4 * q + 2) from ix4 q 2, show nI (4 * q) + (3 : Int32) = nI (4 * q + 3) from ix4 q 3, nI_cl (a := 4 * q) (by omega), nI_cl (a := 4 * q + 1) (by omega), nI_cl (a := 4 * q + 2) (by omega), nI_cl (a := 4 * q + 3) (by omega), g15, g15, g15, g15, e0, e1, e2, e3]
    refine mx_E_callS (sp_Mo_comesTo4 _ b lk (by omega) (by rw [hc1, mx_up_id _ _ _ _ _ _ (by decide)]; exact h54) hl) rfl rfl rfl (fun r c2 hr => ?_)
    obtain ⟨rfl, h2⟩ := hr
    have g29b : c2 0 29 = nI q := by rw [h2.1 0 (by decide)]; exact g29
    have g14 : ∀ p, p < n → c2 14 p = nI (f p) := fun p hp => by rw [h2.1 14 (by decide), hc1, mx_up_id _ _ _ _ _ _ (by decide)]; exact h14 p hp
    refine mR 3 rfl trivial ?_
    refine mbNe (n - (t + 1)) n rfl (by omega) (by omega) (fun _ => ?_) (fun h => by omega)
    refine mR 10 rfl (mA1 (mI (by omega))) ?_
    rw [nI_cl (a := n - (t + 1)) (by omega), g14 _ (by omega), nI_1, show n - (t + 1) + 1 = n - t by omega]
    refine mx_E_callV (sp_Mo_piles _ q _ _ _ _ (by omega) g29b) rfl rfl rfl (fun r c3 hr => ?_)
    obtain ⟨rfl, h3⟩ := hr
    refine mR 7 rfl trivial ?_
    rw [nI_1, show n - (t + 1) + 1 = n - t by omega]
    refine mx_E_callV (sp_Mo_piles _ (q + 1) _ _ _ _ (by omega) h3.2.2.1) rfl rfl rfl (fun r c4 hr => ?_)
    obtain ⟨rfl, h4⟩ := hr
    refine mR 1 rfl trivial ?_
    have k14 : ∀ p, p < n → c4 14 p = nI (f p) := fun p hp => by rw [h4.1 14 (by decide), h3.1 14 (by decide)]; exact g14 p hp
    have k54 : c4 4 54 = nI (b + 1) := by rw [h4.1 4 (by decide), h3.1 4 (by decide)]; exact h2.2.1
    refine mW (ih its (b + 1) (q + 1) (some (b, 0)) c4 (by omega) hi (fun u hu => by cases hu; exact ⟨by show b < b + 1; omega, by show (0 : Nat) < 2; decide⟩) (by omega) (by omega) h4.2.2.1 ⟨h4.2.2.2.1, h4.2.2.2.2.1, h4.2.2.2.2.2.1, h4.2.2.2.2.2.2.1⟩ k54 k14 (fun c5 h5 => ?_)) ⟨Or.inr rfl, Or.inr rfl, Or.inr rfl, Or.inl rfl, Or.inl rfl, Or.inl rfl, trivial⟩ rfl rfl
    have u0 : c5 15 (4 * q) = c3 15 (4 * q) := by rw [h5.2.2.2.1 _ (by omega), h4.2.2.2.2.2.2.2 _ (by omega)]
    have u1 : c5 15 (4 * q + 1) = c3 15 (4 * q + 1) := by rw [h5.2.2.2.1 _ (by omega), h4.2.2.2.2.2.2.2 _ (by omega)]
    have u2 : c5 15 (4 * q + 2) = c3 15 (4 * q + 2) := by rw [h5.2.2.2.1 _ (by omega), h4.2.2.2.2.2.2.2 _ (by omega)]
    have u3 : c5 15 (4 * q + 3) = c3 15 (4 * q + 3) := by rw [h5.2.2.2.1 _ (by omega), h4.2.2.2.2.2.2.2 _ (by omega)]
    refine ih (f (n - (t + 1))) (b + 1 + tL t) q (some (b, 1)) c5 (by omega) (hf _ (by omega)) (fun u hu => by cases hu; exact ⟨by show b < b + 1 + tL t; omega, by show (1 : Nat) < 2; decide⟩) (by omega) (by omega) h5.2.2.1 ⟨by rw [u0]; exact h3.2.2.2.1, by rw [u1]; exact h3.2.2.2.2.1, by rw [u2]; exact h3.2.2.2.2.2.1, by rw [u3]; exact h3.2.2.2.2.2.2.1⟩ h5.2.2.2.2.1 (fun p hp => by rw [h5.1 14 (by decide)]; exact k14 p hp) (fun c6 h6 => ?_)
    refine hk c6 ?_
    rw [tL_s]
    exact rLd_join (by decide) (by decide) (by omega) hl (tT hf t its (by omega) hi) (tT hf t _ (by omega) (hf _ (by omega))) hc1 h2 h3 h4 h5 h6
/-- the row holds the agenda of the order f, and all else as it was -/
theorem sp_Mo_lays4 (c : mx_M) {n : Nat} {f : Nat → Nat} (hn : mn n) (hf : ∀ p, p < n → f p < n) (h14 : ∀ p, p < n → c 14 p = nI (f p)) : mx_Spec 1 2 m_Mo_lays [.ref 0, .ref 4, .int (nI n)] c (fun r c' => r = none ∧ mfr [0, 4, 15] c c' ∧ (∀ k, k ≠ 29 → c' 0 k = c 0 k) ∧ (∀ x, x < 54 → c' 4 x = c 4 x) ∧ rTb (c' 4) (tK f n (n - 1) (f 0)) (tZ (n - 1)) (tL (n - 1))) := by
  have h2 := hn.1
  have h6 := hn.2
  have hl63 : tL (n - 1) ≤ 63 := by
    rcases mn_cases hn with rfl | rfl | rfl | rfl | rfl <;> decide
  refine mx_Spec_E rfl rfl rfl ?_
  refine mR 7 rfl (mA1 (mI (n := 54) (by decide))) ?_
  rw [c54]
  obtain ⟨c1, hc1⟩ : ∃ c1, c1 = mx_up (mx_up c 4 54 0) 0 29 0 := ⟨_, rfl⟩
  rw [← hc1]
  have k14 : ∀ p, p < n → c1 14 p = nI (f p) := fun p hp => by rw [hc1, mx_up_id _ _ _ _ _ _ (by decide), mx_up_id _ _ _ _ _ _ (by decide)]; exact h14 p hp
  refine mR 8 rfl (mA1 (mI (n := 0) (by decide))) ?_
  rw [show ((0 : Int32)).toNatClampNeg = 0 by decide, k14 0 (by omega)]
  refine mx_E_callV (sp_Mo_piles _ 0 _ _ _ _ (by decide) (by rw [hc1, mx_up_same]; rfl)) rfl rfl rfl (fun r c2 hr => ?_)
  obtain ⟨rfl, h3⟩ := hr
  refine mS (lp_Mo_lays4 hn hf (n - 1) (f 0) 0 0 none c2 (by omega) (hf 0 (by omega)) (fun u hu => by cases hu) (by omega) (by omega) h3.2.2.1 ⟨h3.2.2.2.1, by rw [show n - (n - 1) = 1 by omega]; exact h3.2.2.2.2.1, h3.2.2.2.2.2.1, h3.2.2.2.2.2.2.1⟩ (by rw [h3.1 4 (by decide), hc1, mx_up_id _ _ _ _ _ _ (by decide), mx_up_same]; rfl) (fun p hp => by rw [h3.1 14 (by decide)]; exact k14 p hp) (fun c' h => ?_)) rfl rfl rfl
  obtain ⟨y1, y2, y3, y4, y5, y6, y7, y8⟩ := h
  refine mR 2 rfl trivial ?_
  rw [y3]
  refine mx_E_br rfl rfl (fun _ => ?_) (fun h => absurd (by decide) h)
  refine mx_E_vret rfl rfl ⟨rfl, ?_, ?_, ?_, ?_⟩
  · intro r hr
    have hr2 := hr
    simp only [List.mem_cons, List.not_mem_nil, or_false, not_or] at hr
    rw [y1 r hr2, h3.1 r (by simp [hr]), hc1, mx_up_rid _ _ _ _ _ hr.1, mx_up_rid _ _ _ _ _ hr.2.1]
  · intro k hk
    rw [y2 k hk, h3.2.1 k hk, hc1, mx_up_ix _ _ _ _ _ _ hk, mx_up_id _ _ _ _ _ _ (by decide)]
  · intro x hx
    rw [y8 x (Or.inl hx) (fun z => by cases z), h3.1 4 (by decide), hc1, mx_up_rid _ _ _ _ _ (by decide), mx_up_ix _ _ _ _ _ _ (by omega)]
  · refine ⟨by rw [y5, Nat.zero_add], fun k hk => ?_⟩
    have z := y6 k hk
    rw [Nat.zero_add] at z
    exact z
