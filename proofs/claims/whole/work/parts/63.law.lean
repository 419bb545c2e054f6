/-! the letters typed are letters -/
theorem pv_type {a : mSt} (x : Int32) (h : pVal a.2.2.1) : pVal (aType a x).2.2.2.1 := by
  unfold aType
  split
  · rename_i hx
    split
    · exact h
    · intro i hi
      have hi2 : i < a.2.2.1.1 + 1 := hi
      show mi (upd a.2.2.1.2 a.2.2.1.1 x i) 256 = true
      by_cases e : i = a.2.2.1.1
      · rw [e, upd_same]
        exact hx
      · rw [upd_ne _ _ _ _ e]
        exact h i (by omega)
  · exact h
theorem pv_clear {a : mSt} : pVal (aClear a).2.2.2.1 := fun i hi => absurd hi (Nat.not_lt_zero i)
theorem pv_desk {a : mSt} (h : pVal a.2.2.1) : pVal (aDesk a).2.2.2.1 := by
  unfold aDesk
  split
  · exact h
  · exact fun i hi => absurd hi (Nat.not_lt_zero i)
theorem pv_ranking {a : mSt} (x y : Int32) (h : pVal a.2.2.1) : pVal (aRanking a x y).2.2.2.1 := by
  unfold aRanking
  first | exact h | (split <;> first | exact h | (split <;> first | exact h | (split <;> exact h)))
theorem pv_node {a : mSt} (x y : Int32) (h : pVal a.2.2.1) : pVal (aNode a x y).2.2.2.1 := by
  unfold aNode
  first | exact h | (split <;> first | exact h | (split <;> first | exact h | (split <;> exact h)))
theorem pv_votes {a : mSt} (x y : Int32) (h : pVal a.2.2.1) : pVal (aVotes a x y).2.2.2.1 := by
  unfold aVotes
  first | exact h | (split <;> first | exact h | (split <;> first | exact h | (split <;> exact h)))
theorem pv_now {a : mSt} (x : Int32) (h : pVal a.2.2.1) : pVal (aNow a x).2.2.2.1 := by
  unfold aNow
  first | exact h | (split <;> first | exact h | (split <;> first | exact h | (split <;> exact h)))
theorem pv_ranks {a : mSt} (x y : Int32) (h : pVal a.2.2.1) : pVal (aRanks a x y).2.2.2.1 := by
  unfold aRanks
  first | exact h | (split <;> first | exact h | (split <;> first | exact h | (split <;> exact h)))
theorem pv_swaps {a : mSt} (x : Int32) (h : pVal a.2.2.1) : pVal (aSwaps a x).2.2.2.1 := by
  unfold aSwaps
  first | exact h | (split <;> first | exact h | (split <;> first | exact h | (split <;> exact h)))
theorem pv_sets {a : mSt} (x : Int32) (h : pVal a.2.2.1) : pVal (aSets a x).2.2.2.1 := by
  unfold aSets
  first | exact h | (split <;> first | exact h | (split <;> first | exact h | (split <;> exact h)))
theorem pv_undo {a : mSt} (h : pVal a.2.2.1) : pVal (aUndo a).2.2.2.1 := by
  unfold aUndo
  first | exact h | (split <;> first | exact h | (split <;> first | exact h | (split <;> exact h)))
theorem pv_order {a : mSt} (x y : Int32) (h : pVal a.2.2.1) : pVal (aOrder a x y).2.2.2.1 := by
  unfold aOrder
  first | exact h | (split <;> first | exact h | (split <;> first | exact h | (split <;> exact h)))
theorem pv_reach {a : mSt} (x y z : Int32) (h : pVal a.2.2.1) : pVal (aReach a x y z).2.2.2.1 := by
  unfold aReach
  first | exact h | (split <;> first | exact h | (split <;> first | exact h | (split <;> exact h)))
theorem pv_better {a : mSt} (x y z : Int32) (h : pVal a.2.2.1) : pVal (aBetter a x y z).2.2.2.1 := by
  unfold aBetter
  first | exact h | (split <;> first | exact h | (split <;> first | exact h | (split <;> exact h)))
theorem pv_won {a : mSt} (x y z : Int32) (h : pVal a.2.2.1) : pVal (aWon a x y z).2.2.2.1 := by
  unfold aWon
  first | exact h | (split <;> first | exact h | (split <;> first | exact h | (split <;> exact h)))
theorem pv_odds {a : mSt} (x y z w : Int32) (h : pVal a.2.2.1) : pVal (aOdds a x y z w).2.2.2.1 := by
  unfold aOdds
  first | exact h | (split <;> first | exact h | (split <;> first | exact h | (split <;> exact h)))
theorem pv_sees {a : mSt} (x y : Int32) (h : pVal a.2.2.1) : pVal (aSees a x y).2.2.2.1 := by
  unfold aSees
  first | exact h | (split <;> first | exact h | (split <;> first | exact h | (split <;> exact h)))
theorem pv_forget {a : mSt} (h : pVal a.2.2.1) : pVal (aForget a).2.2.2.1 := by
  unfold aForget
  first | exact h | (split <;> first | exact h | (split <;> first | exact h | (split <;> exact h)))
theorem pv_rankings {a : mSt} (x : Int32) (h : pVal a.2.2.1) : pVal (aRankings a x).2.2.2.1 := by
  unfold aRankings
  first | exact h | (split <;> first | exact h | (split <;> first | exact h | (split <;> exact h)))
theorem pv_watch {a : mSt} (h : pVal a.2.2.1) : pVal (aWatch a).2.2.2.1 := by
  unfold aWatch
  first | exact h | (split <;> first | exact h | (split <;> first | exact h | (split <;> exact h)))
theorem pv_keep {a : mSt} (x : Int32) (h : pVal a.2.2.1) : pVal (aKeep a x).2.2.2.1 := by
  unfold aKeep
  first | exact h | (split <;> first | exact h | (split <;> first | exact h | (split <;> exact h)))
theorem pv_back {a : mSt} (x : Int32) (h : pVal a.2.2.1) : pVal (aBack a x).2.2.2.1 := by
  unfold aBack
  first | exact h | (split <;> first | exact h | (split <;> first | exact h | (split <;> exact h)))
theorem pv_count {a : mSt} (x : Int32) (h : pVal a.2.2.1) : pVal (aCount a x).2.2.2.1 := by
  unfold aCount
  first | exact h | (split <;> first | exact h | (split <;> first | exact h | (split <;> exact h)))
/-! the law: arguments, calls, a case -/
/-- n arguments out of the script, behind the i-th -/
def la_as (xs : Nat → Int32) (k : Nat) : Nat → Nat → List Value
  | _, 0 => []
  | i, n + 1 => .int (xs (k + (i + 1))) :: la_as xs k (i + 1) n
theorem la_as_len (xs : Nat → Int32) (k : Nat) : ∀ (n i : Nat), (la_as xs k i n).length = n
  | 0, i => rfl
  | n + 1, i => by
    show (la_as xs k (i + 1) n).length + 1 = n + 1
    rw [la_as_len xs k n (i + 1)]
theorem la_as_tv (ad : Nat → Nat) (xs : Nat → Int32) (k : Nat) : ∀ (n i : Nat), (la_as xs k i n).map (mx_tv ad) = la_as xs k i n
  | 0, i => rfl
  | n + 1, i => by
    show .int (xs (k + (i + 1))) :: (la_as xs k (i + 1) n).map (mx_tv ad) = .int (xs (k + (i + 1))) :: la_as xs k (i + 1) n
    rw [la_as_tv ad xs k n (i + 1)]
def la_ldk : Nat → Nat → Nat → Bool
  | _, 0, _ => true
  | i, n + 1, pc => decide (decode code pc = .ok (.aload_n 0, 1)) && decide (decode code (pc + 1) = .ok (.iload_n 3, 1)) && decide (decode code (pc + 2) = .ok (.iconst ((i : Int) + 1), 1)) && decide (decode code (pc + 3) = .ok (.iadd, 1)) && decide (decode code (pc + 4) = .ok (.iaload, 1)) && la_ldk (i + 1) n (pc + 5)
theorem la_ic : ∀ i : Nat, i < 4 → Int32.ofInt ((i : Int) + 1) = nI (i + 1) := by decide +kernel
/-- what stands fast in the law -/
def la_Fx (D : va_G) (cy : Nat → ClassId) (ad0 ad1 : Nat → Nat) (p : Program) (s : State) (m : MethodId) (meth : Method) (cd : Code) (b L : Nat) (xs : Nat → Int32) : Prop :=
  kx_X 7 code 4 D cy p s m #[Value.ref b] cd ∧ meth.sig.returnType = ret ∧ meth.locks = false ∧ va_X b L xs s s.heap ∧ b < s.heap.size ∧ L ≤ 2560 ∧ ad1 1000 = ad0 1000 ∧ mx_Z (ad0 1000) (fun q => s.heap.size ≤ q) s s.heap ∧ (mx_inj 0 ad0 ∧ mx_inj 1 ad1) ∧ (∀ i, i < mx_N 0 → s.heap.size ≤ ad0 i) ∧ (∀ i, i < mx_N 1 → s.heap.size ≤ ad1 i) ∧ ∀ i j, i < mx_N 0 → j < mx_N 1 → ad0 i ≠ ad1 j
/-- both systems' cells -/
def la_W (D : va_G) (cy : Nat → ClassId) (ad0 ad1 : Nat → Nat) (s : State) (c0 c1 : mx_M) (H : Heap) (locs : List Loc) : Prop := va_P D vwCl (mx_W 0 cy ad0 c0) H ∧ va_P D vwCl (mx_W 1 cy ad1 c1) H ∧ va_S (fun q => s.heap.size ≤ q) s.heap H locs
abbrev la_L (ad0 ad1 : Nat → Nat) (b k : Nat) : List (Nat × Value) := [(3, .int (nI k)), (2, .ref (ad1 0)), (1, .ref (ad0 0)), (0, .ref b)]
section LAW
variable {p : Program} {l : Launch} {e : Env} {s : State} {m : MethodId} {below : List Frame} {meth : Method} {cd : Code} {H : Heap} {locs : List Loc} {Q : State → Prop} {D : va_G} {cy : Nat → ClassId} {ad0 ad1 : Nat → Nat} {b L k : Nat} {xs : Nat → Int32} {ls : Array Slot} {c0 c1 : mx_M}
theorem la_lds (F : la_Fx D cy ad0 ad1 p s m meth cd b L xs) (hk : k + 5 ≤ L) (hS : va_S (fun q => s.heap.size ≤ q) s.heap H locs) (hl : lv_has ls 4 (la_L ad0 ad1 b k)) : ∀ (n i pc : Nat) (rest : List Value), i + n ≤ 4 → la_ldk i n pc = true → W p l e room_1 s m #[Value.ref b] below meth cd H locs 600000 7302250 Q (F0 m (pc + 5 * n) ls ((la_as xs k i n).reverse ++ rest)) → W p l e room_1 s m #[Value.ref b] below meth cd H locs 600000 7302250 Q (F0 m pc ls rest) := by
  intro n
  induction n with
  | zero =>
    intro i pc rest _ _ kk
    have e1 : pc + 5 * 0 = pc := rfl
    rw [e1] at kk
    exact kk
  | succ n ih =>
    intro i pc rest hi hd kk
    obtain ⟨X, -, -, hX, hbl, hL, -⟩ := F
    simp only [la_ldk, Bool.and_eq_true, decide_eq_true_eq] at hd
    obtain ⟨⟨⟨⟨⟨d1, d2⟩, d3⟩, d4⟩, d5⟩, d6⟩ := hd
    refine lv_aload_n X.1 X.2.1 d1 rfl (lv_at hl 3 rfl) ?_
    refine lv_iload_n X.1 X.2.1 d2 rfl (lv_at hl 0 rfl) ?_
    refine lv_iconst (v := nI (i + 1)) X.1 X.2.1 d3 (la_ic i (by omega)) ?_
    refine lv_iadd X.1 X.2.1 d4 ?_
    rw [nI_add]
    refine va_sld X.1 X.2.1 hX hbl (Nat.not_le.mpr hbl) hS (vp_in_nI (show k + (i + 1) < L by omega) (by omega)) d5 ?_
    rw [nI_cl (show k + (i + 1) < 2147483648 by omega)]
    refine ih (i + 1) (pc + 5) (.int (xs (k + (i + 1))) :: rest) (by omega) d6 ?_
    have e1 : pc + 5 + 5 * n = pc + 5 * (n + 1) := by omega
    have e2 : (la_as xs k (i + 1) n).reverse ++ (.int (xs (k + (i + 1))) :: rest) = (la_as xs k i (n + 1)).reverse ++ rest := by
      show _ = (.int (xs (k + (i + 1))) :: la_as xs k (i + 1) n).reverse ++ rest
      rw [List.reverse_cons, List.append_assoc]
      rfl
    rw [e1, e2]
    exact kk
/-- a call of the class -/
theorem la_x {I : mx_M → Prop} {mC d n idx pc : Nat} {As : List Value} {v : Int32} (F : la_Fx D cy ad0 ad1 p s m meth cd b L xs) (hW : la_W D cy ad0 ad1 s c0 c1 H locs) (hl : lv_has ls 4 (la_L ad0 ad1 b k)) (hsp : mx_Spec 0 d mC (.ref 0 :: As) c0 (fun r c' => r = some (.int v) ∧ I c')) (w : Cond.methodLink (mx_cn 7) idx (mx_y mC) ∈ mx_good) (hck : (Nat.blt mC mx_NM && !((mx_ps mC).1) && mx_rcv 0 mC [.ref 0] && Nat.beq n (mx_ps mC).2.1) = true) (hlen : As.length = n) (htv : As.map (mx_tv ad0) = As) (hd : d ≤ 40) (hdg : decode code pc = .ok (.invokevirtual idx, 3))
    (kk : ∀ (c' : mx_M) (H1 : Heap) (locs1 : List Loc), I c' → la_W D cy ad0 ad1 s c' c1 H1 locs1 → W p l e room_1 s m #[Value.ref b] below meth cd H1 locs1 600000 7302250 Q (F0 m (pc + 3) ls [.int v])) : W p l e room_1 s m #[Value.ref b] below meth cd H locs 600000 7302250 Q (F0 m pc ls (As.reverse ++ [.ref (ad0 0)])) := by
  obtain ⟨X, hr, hlk, hX, hbl, hL, ht, hZ, ⟨j0, j1⟩, A0, A1, ap⟩ := F
  obtain ⟨hP0, hP1, hS⟩ := hW
  have z := kx_Zat (sy := 0) hZ hS (fun q h => h) A0
  subst hlen
  refine kx_after (kx_runV (i := 0) (As := As) (rest := []) X hsp (Or.inl (kx_ts X w)) hck hP0 j0 z.1 (by rw [htv]) hl.1 (Nat.zero_le _) ⟨Nat.le_trans (show d + 1 ≤ 41 by omega) (Nat.le_of_ble_eq_true rfl), Nat.le_trans (show 64 * d + 43 ≤ 3000 by omega) (Nat.le_of_ble_eq_true rfl)⟩ ⟨Nat.le_refl _, Nat.le_refl _⟩ hdg) hS z.2 (fun r c' H1 locs1 hq hP' hS' hz hk => ?_)
  obtain ⟨rfl, hI⟩ := hq
  refine kk c' H1 locs1 hI ⟨hP', hP1.kept (fun i q hi => ?_), hS'⟩
  obtain ⟨li, rfl⟩ := mx_W_inv hi
  have hlt := (hP1 i _ hi).lt
  refine hk _ hlt (fun h => ?_)
  rcases h with ⟨j, hj, e⟩ | h
  · exact ap j i hj li e.symm
  · exact Nat.not_le.mpr hlt h
/-- a call of the reference -/
theorem la_m {I : mx_M → Prop} {mC d n idx pc : Nat} {As : List Value} {v v0 : Int32} (F : la_Fx D cy ad0 ad1 p s m meth cd b L xs) (hW : la_W D cy ad0 ad1 s c0 c1 H locs) (hl : lv_has ls 4 (la_L ad0 ad1 b k)) (hsp : mx_Spec 1 d mC (.ref 0 :: As) c1 (fun r c' => r = some (.int v) ∧ I c')) (w : Cond.methodLink (mx_cn 7) idx (mx_y mC) ∈ mx_good) (hck : (Nat.blt mC mx_NM && !((mx_ps mC).1) && mx_rcv 1 mC [.ref 0] && Nat.beq n (mx_ps mC).2.1) = true) (hlen : As.length = n) (htv : As.map (mx_tv ad1) = As) (hd : d ≤ 40) (hdg : decode code pc = .ok (.invokevirtual idx, 3))
    (kk : ∀ (c' : mx_M) (H1 : Heap) (locs1 : List Loc), I c' → la_W D cy ad0 ad1 s c0 c' H1 locs1 → W p l e room_1 s m #[Value.ref b] below meth cd H1 locs1 600000 7302250 Q (F0 m (pc + 3) ls [.int v, .int v0])) : W p l e room_1 s m #[Value.ref b] below meth cd H locs 600000 7302250 Q (F0 m pc ls (As.reverse ++ [.ref (ad1 0), .int v0])) := by
  obtain ⟨X, hr, hlk, hX, hbl, hL, ht, hZ, ⟨j0, j1⟩, A0, A1, ap⟩ := F
  obtain ⟨hP0, hP1, hS⟩ := hW
  rw [← ht] at hZ
  have z := kx_Zat (sy := 1) hZ hS (fun q h => h) A1
  subst hlen
  refine kx_after (kx_runV (i := 0) (As := As) (rest := [.int v0]) X hsp (Or.inl (kx_ts X w)) hck hP1 j1 z.1 (by rw [htv]) hl.1 (show 1 ≤ 8 by decide) ⟨Nat.le_trans (show d + 1 ≤ 41 by omega) (Nat.le_of_ble_eq_true rfl), Nat.le_trans (show 64 * d + 43 ≤ 3000 by omega) (Nat.le_of_ble_eq_true rfl)⟩ ⟨Nat.le_refl _, Nat.le_refl _⟩ hdg) hS z.2 (fun r c' H1 locs1 hq hP' hS' hz hk => ?_)
  obtain ⟨rfl, hI⟩ := hq
  refine kk c' H1 locs1 hI ⟨hP0.kept (fun i q hi => ?_), hP', hS'⟩
  obtain ⟨li, rfl⟩ := mx_W_inv hi
  have hlt := (hP0 i _ hi).lt
  refine hk _ hlt (fun h => ?_)
  rcases h with ⟨j, hj, e⟩ | h
  · exact ap i j li hj e
  · exact Nat.not_le.mpr hlt h
/-- the rows of a case -/
def la_dk (pc n i0 i1 : Nat) (off : Int) : Bool := decide (decode code pc = .ok (.aload_n 1, 1)) && la_ldk 0 n (pc + 1) && decide (decode code (pc + 1 + 5 * n) = .ok (.invokevirtual i0, 3)) && decide (decode code (pc + 1 + 5 * n + 3) = .ok (.aload_n 2, 1)) && la_ldk 0 n (pc + 1 + 5 * n + 4) && decide (decode code (pc + 1 + 5 * n + 4 + 5 * n) = .ok (.invokevirtual i1, 3)) && decide (decode code (pc + 1 + 5 * n + 4 + 5 * n + 3) = .ok (.if_icmp .eq off, 3)) && decide (((pc + 1 + 5 * n + 4 + 5 * n + 3 : Nat) : Int) + off = (769 : Nat))
def la_ck (n mC mR : Nat) : Bool := (Nat.blt mC mx_NM && !((mx_ps mC).1) && mx_rcv 0 mC [.ref 0] && Nat.beq n (mx_ps mC).2.1) && (Nat.blt mR mx_NM && !((mx_ps mR).1) && mx_rcv 1 mR [.ref 0] && Nat.beq n (mx_ps mR).2.1)
theorem la_case {a a' : mSt} {v : Int32} {n pc i0 i1 d0 d1 mC mR : Nat} {off : Int} (F : la_Fx D cy ad0 ad1 p s m meth cd b L xs) (hk : k + 5 ≤ L) (hn : n ≤ 4) (h0 : cI c0 a) (h1 : rI c1 a) (hv : pVal a.2.2.1) (hW : la_W D cy ad0 ad1 s c0 c1 H locs) (hl : lv_has ls 4 (la_L ad0 ad1 b k)) (hdk : la_dk pc n i0 i1 off = true) (w0 : Cond.methodLink (mx_cn 7) i0 (mx_y mC) ∈ mx_good) (w1 : Cond.methodLink (mx_cn 7) i1 (mx_y mR) ∈ mx_good) (hck : la_ck n mC mR = true) (hd : d0 ≤ 40 ∧ d1 ≤ 40)
    (hC : mx_Spec 0 d0 mC (.ref 0 :: la_as xs k 0 n) c0 (fun r c' => r = some (.int v) ∧ cI c' a')) (hR : mx_Spec 1 d1 mR (.ref 0 :: la_as xs k 0 n) c1 (fun r c' => r = some (.int v) ∧ rI c' a')) (hv2 : pVal a'.2.2.1)
    (kk : ∀ (a : mSt) (c0 c1 : mx_M) (H : Heap) (locs : List Loc), cI c0 a → rI c1 a → pVal a.2.2.1 → la_W D cy ad0 ad1 s c0 c1 H locs → W p l e room_1 s m #[Value.ref b] below meth cd H locs 600000 7302250 Q (F0 m 769 ls [])) : W p l e room_1 s m #[Value.ref b] below meth cd H locs 600000 7302250 Q (F0 m pc ls []) := by
  have X := F.1
  simp only [la_dk, Bool.and_eq_true, decide_eq_true_eq] at hdk
  obtain ⟨⟨⟨⟨⟨⟨⟨e1, e2⟩, e3⟩, e4⟩, e5⟩, e6⟩, e7⟩, e8⟩ := hdk
  obtain ⟨ck0, ck1⟩ := Bool.and_eq_true_iff.mp hck
  refine lv_aload_n X.1 X.2.1 e1 rfl (lv_at hl 2 rfl) ?_
  refine la_lds F hk hW.2.2 hl n 0 (pc + 1) [.ref (ad0 0)] (by omega) e2 ?_
  refine la_x F hW hl hC w0 ck0 (la_as_len xs k n 0) (la_as_tv ad0 xs k n 0) hd.1 e3 (fun c0' H1 locs1 hI hW1 => ?_)
  refine lv_aload_n X.1 X.2.1 e4 rfl (lv_at hl 1 rfl) ?_
  refine la_lds F hk hW1.2.2 hl n 0 (pc + 1 + 5 * n + 4) [.ref (ad1 0), .int v] (by omega) e5 ?_
  refine la_m F hW1 hl hR w1 ck1 (la_as_len xs k n 0) (la_as_tv ad1 xs k n 0) hd.2 e6 (fun c1' H2 locs2 hI2 hW2 => ?_)
  refine lv_icmp_eq (tgt := 769) X.1 X.2.1 e7 e8 (fun _ => ?_) (fun h => absurd rfl h)
  exact kk a' c0' c1' H2 locs2 hI hI2 hv2 hW2
end LAW
