/-! the class's constructor: its loops, its end -/
/-- pictures, one behind the other -/
def kPs (cy : Nat → ClassId) : List (Nat × (Nat → Nat)) → va_W
  | [] => []
  | x :: r => kPi cy x.1 x.2 ++ kPs cy r
theorem kPs_add (cy : Nat → ClassId) (x : Nat × (Nat → Nat)) : ∀ Ps : List (Nat × (Nat → Nat)), kPs cy (Ps ++ [x]) = kPs cy Ps ++ kPi cy x.1 x.2
  | [] => by
    show kPi cy x.1 x.2 ++ [] = [] ++ kPi cy x.1 x.2
    rw [List.append_nil, List.nil_append]
  | y :: r => by
    show kPi cy y.1 y.2 ++ kPs cy (r ++ [x]) = (kPi cy y.1 y.2 ++ kPs cy r) ++ kPi cy x.1 x.2
    rw [kPs_add cy x r, List.append_assoc]
theorem kx_len1 {α : Type} {l : List α} {n : Nat} (h : l.length = n + 1) : ∃ (a : α) (t : List α), l = a :: t ∧ t.length = n := by
  cases l with
  | nil => cases h
  | cons a t => exact ⟨a, t, rfl, Nat.succ.inj h⟩
theorem kx_Pset {D : va_G} {cl : List vw_C} {ws : va_W} {H : Heap} {k a n : Nat} {cA : ClassId} {f f' : Nat → Option Nat} (h : va_P D cl ws H) (hk : ws[k]? = some (a, .inl (cA, n, .inr (.inr (.inr (.inr f)))))) (hf : ∀ j, j < n → f j = f' j) : va_P D cl (ws.set k (a, .inl (cA, n, .inr (.inr (.inr (.inr f')))))) H := by
  intro i q hi
  by_cases e : i = k
  · subst e
    have hl := (List.getElem?_eq_some_iff.mp hk).1
    rw [List.getElem?_set_self hl] at hi
    cases hi
    have h2 : H[a]? = some (vp_cell cA (n, .inr (.inr (.inr (.inr f))))) := h i _ hk
    show H[a]? = some (vp_cell cA (n, .inr (.inr (.inr (.inr f')))))
    rw [h2, vp_cell_q, vp_cell_q, kx_arr (F := fun j => va_rf (f j)) (G := fun j => va_rf (f' j)) (fun j hj => by rw [hf j hj])]
  · rw [List.getElem?_set_ne (Ne.symm e)] at hi
    exact h i q hi
/-- the cells at the start -/
def c00 (i : Nat) : Nat → Int32 := bif Nat.beq i 25 then (fun k => nI (35 + 3 * k)) else bif Nat.beq i 26 then (fun k => nI (65 + 3 * k)) else bif Nat.beq i 1 then (fun k => bif Nat.beq k 4 then -1 else 0) else bif (Nat.beq i 3 || Nat.beq i 6 || (Nat.ble 35 i && Nat.beq ((i - 35) % 3) 0)) then (fun k => bif Nat.beq k 2 then 3 else 0) else (fun _ => 0)
set_option maxRecDepth 20000 in
theorem lp_De1 {p : Program} {l : Launch} {e : Env} {R : Room} {s : State} {m : MethodId} {args : Array Value} {below : List Frame} {meth : Method} {cd : Code} {Q : State → Prop} {D : va_G} {cy : Nat → ClassId} {A : Nat → Prop} {h0 qk c0 s0 : Nat} {fs : List Value} {e1 e2 e3 e4 e5 e6 e7 e8 e9 e10 e11 e12 e13 e14 e15 e16 e17 e18 e19 e20 e21 e22 e23 e24 e26 : Nat × va_E} {Y : va_W} (X : kx_X 5 prog_1_method_1_code 2 D cy p s m args cd) (hf : fs[6]? = some (.ref qk)) (hA : ∀ q, s.heap.size ≤ q → A q) (hR : 1 + 1 ≤ R.frames ∧ 8 + (1 + 11) + 12 ≤ R.locals) (hcs : c0 + 30 ≤ R.cells ∧ s0 + 1220 ≤ R.slots)
    (K : ∀ (f : Nat → Option Nat) (Ps : List (Nat × (Nat → Nat))) (H : Heap) (locs : List Loc) (ls : Array Slot), Ps.length = 10 → (∀ (i : Nat) (x : Nat × (Nat → Nat)), Ps[i]? = some x → f i = some x.1) → va_P D vwCl ((h0, .inr (5, fs)) :: e1 :: e2 :: e3 :: e4 :: e5 :: e6 :: e7 :: e8 :: e9 :: e10 :: e11 :: e12 :: e13 :: e14 :: e15 :: e16 :: e17 :: e18 :: e19 :: e20 :: e21 :: e22 :: e23 :: e24 :: (qk, .inl (cy 2, 10, .inr (.inr (.inr (.inr f))))) :: e26 :: (Y ++ kPs cy Ps)) H → va_D A ((h0, .inr (5, fs)) :: e1 :: e2 :: e3 :: e4 :: e5 :: e6 :: e7 :: e8 :: e9 :: e10 :: e11 :: e12 :: e13 :: e14 :: e15 :: e16 :: e17 :: e18 :: e19 :: e20 :: e21 :: e22 :: e23 :: e24 :: (qk, .inl (cy 2, 10, .inr (.inr (.inr (.inr f))))) :: e26 :: (Y ++ kPs cy Ps)) → va_S A s.heap H locs → lv_has ls 2 [(0, .ref h0)] → W p l e R s m args below meth cd H locs (c0 + 30) (s0 + 1220) Q (F0 m 167 ls [])) :
    ∀ (n j : Nat) (f : Nat → Option Nat) (Ps : List (Nat × (Nat → Nat))) (H : Heap) (locs : List Loc) (ls : Array Slot), n + j = 10 → Ps.length = j → (∀ (i : Nat) (x : Nat × (Nat → Nat)), Ps[i]? = some x → f i = some x.1) → va_P D vwCl ((h0, .inr (5, fs)) :: e1 :: e2 :: e3 :: e4 :: e5 :: e6 :: e7 :: e8 :: e9 :: e10 :: e11 :: e12 :: e13 :: e14 :: e15 :: e16 :: e17 :: e18 :: e19 :: e20 :: e21 :: e22 :: e23 :: e24 :: (qk, .inl (cy 2, 10, .inr (.inr (.inr (.inr f))))) :: e26 :: (Y ++ kPs cy Ps)) H → va_D A ((h0, .inr (5, fs)) :: e1 :: e2 :: e3 :: e4 :: e5 :: e6 :: e7 :: e8 :: e9 :: e10 :: e11 :: e12 :: e13 :: e14 :: e15 :: e16 :: e17 :: e18 :: e19 :: e20 :: e21 :: e22 :: e23 :: e24 :: (qk, .inl (cy 2, 10, .inr (.inr (.inr (.inr f))))) :: e26 :: (Y ++ kPs cy Ps)) → va_S A s.heap H locs → lv_has ls 2 [(1, .int (nI j)), (0, .ref h0)] → W p l e R s m args below meth cd H locs (c0 + 3 * j) (s0 + 122 * j) Q (F0 m 142 ls []) := by
  intro n
  induction n with
  | zero =>
    intro j f Ps H locs ls hn hj hPf hP hD hS hl
    have ej : j = 10 := by omega
    subst ej
    refine lv_iload_n X.1 X.2.1 dk_De_142 rfl (lv_at hl 0 rfl) ?_
    refine lv_bipush (v := nI 10) X.1 X.2.1 dk_De_143 (by decide) ?_
    refine lv_icmp_ge (tgt := 167) X.1 X.2.1 dk_De_145 (by decide) (fun h => ?_) (fun h => ?_)
    · exact K f Ps H locs ls hj hPf hP hD hS (lv_sub hl [1] rfl)
    · exact absurd (nI_le (Nat.le_refl _) (by decide)) h
  | succ n ih =>
    intro j f Ps H locs ls hn hj hPf hP hD hS hl
    refine lv_iload_n X.1 X.2.1 dk_De_142 rfl (lv_at hl 0 rfl) ?_
    refine lv_bipush (v := nI 10) X.1 X.2.1 dk_De_143 (by decide) ?_
    refine lv_icmp_ge (tgt := 167) X.1 X.2.1 dk_De_145 (by decide) (fun h => ?_) (fun h => ?_)
    · have := (nI_leI (by decide) (by omega)).mp h
      omega
    · have hlt : j < 10 := by omega
      refine lv_aload_n X.1 X.2.1 dk_De_148 rfl (lv_at hl 1 rfl) ?_
      refine va_get (D := D) (ci := 5) (v := .ref qk) (C := mx_cn 5) (T := mx_T 5) (N := mx_nf 5) X.1 X.2.1 X.2.2.2.2.1 (mx_inG 5 _ (mx_cl7 5 (by decide)).1) X.2.2.2.1 (kx_K X) hP 0 rfl (mx_cl7 5 (by decide)).1 6 (by decide) (kx_ts X (mx_flP_mem (own := 5) (idx := 43) (a := 5) (b := 6) (by decide +kernel))) (fun x h9 => by rw [(mx_cl7 5 (by decide)).2.1 6 (by decide)] at h9; exact h9) hf dk_De_149 ?_
      refine lv_iload_n X.1 X.2.1 dk_De_152 rfl (lv_at hl 0 rfl) ?_
      refine k_mk (ci := 1) X c_Pi_init (by decide) (mx_mem (p := 173) (by decide +kernel) rfl) kw_i1 kw_n1 kw_m1 kw_c1 (k6 := 174) (by decide) kw_f1 hP hD hS hA hl.1 (Nat.le_of_ble_eq_true rfl) hR ⟨by show c0 + 3 * j + 1 + 2 ≤ R.cells; omega, by show s0 + 122 * j + 5 + 117 ≤ R.slots; omega⟩ dk_De_153 dk_De_156 dk_De_157 (fun q g H locs hP hD hS => ?_)
      have hP : va_P D vwCl ((h0, .inr (5, fs)) :: e1 :: e2 :: e3 :: e4 :: e5 :: e6 :: e7 :: e8 :: e9 :: e10 :: e11 :: e12 :: e13 :: e14 :: e15 :: e16 :: e17 :: e18 :: e19 :: e20 :: e21 :: e22 :: e23 :: e24 :: (qk, .inl (cy 2, 10, .inr (.inr (.inr (.inr f))))) :: e26 :: ((Y ++ kPs cy Ps) ++ kPi cy q g)) H := hP
      have hD : va_D A ((h0, .inr (5, fs)) :: e1 :: e2 :: e3 :: e4 :: e5 :: e6 :: e7 :: e8 :: e9 :: e10 :: e11 :: e12 :: e13 :: e14 :: e15 :: e16 :: e17 :: e18 :: e19 :: e20 :: e21 :: e22 :: e23 :: e24 :: (qk, .inl (cy 2, 10, .inr (.inr (.inr (.inr f))))) :: e26 :: ((Y ++ kPs cy Ps) ++ kPi cy q g)) := hD
      have hv : ((h0, .inr (5, fs)) :: e1 :: e2 :: e3 :: e4 :: e5 :: e6 :: e7 :: e8 :: e9 :: e10 :: e11 :: e12 :: e13 :: e14 :: e15 :: e16 :: e17 :: e18 :: e19 :: e20 :: e21 :: e22 :: e23 :: e24 :: (qk, .inl (cy 2, 10, .inr (.inr (.inr (.inr f))))) :: e26 :: ((Y ++ kPs cy Ps) ++ kPi cy q g))[(Y ++ kPs cy Ps).length + 27]? = some (q, .inr (1, [.ref (g 0), .ref (g 1), .int 3, .int 0, .int 0])) := by
        show ((Y ++ kPs cy Ps) ++ kPi cy q g)[(Y ++ kPs cy Ps).length]? = _
        rw [List.getElem?_append_right (Nat.le_refl _), Nat.sub_self]
        rfl
      refine va_astq X.1 X.2.1 (kx_K X) hP hD hS 25 2 ((Y ++ kPs cy Ps).length + 27) 1 (r := (mx_cn 1, mx_T 1, mx_nf 1)) rfl rfl hv (mx_cl7 1 (by decide)).1 (mI hlt) dk_De_160 (fun H locs hP hD hS => ?_)
      have hP : va_P D vwCl ((h0, .inr (5, fs)) :: e1 :: e2 :: e3 :: e4 :: e5 :: e6 :: e7 :: e8 :: e9 :: e10 :: e11 :: e12 :: e13 :: e14 :: e15 :: e16 :: e17 :: e18 :: e19 :: e20 :: e21 :: e22 :: e23 :: e24 :: (qk, .inl (cy 2, 10, .inr (.inr (.inr (.inr (va_up f (nI j).toNatClampNeg (some q))))))) :: e26 :: ((Y ++ kPs cy Ps) ++ kPi cy q g)) H := hP
      have hD : va_D A ((h0, .inr (5, fs)) :: e1 :: e2 :: e3 :: e4 :: e5 :: e6 :: e7 :: e8 :: e9 :: e10 :: e11 :: e12 :: e13 :: e14 :: e15 :: e16 :: e17 :: e18 :: e19 :: e20 :: e21 :: e22 :: e23 :: e24 :: (qk, .inl (cy 2, 10, .inr (.inr (.inr (.inr (va_up f (nI j).toNatClampNeg (some q))))))) :: e26 :: ((Y ++ kPs cy Ps) ++ kPi cy q g)) := hD
      have ew : (Y ++ kPs cy Ps) ++ kPi cy q g = Y ++ kPs cy (Ps ++ [(q, g)]) := by rw [kPs_add, List.append_assoc]
      rw [nI_cl (show j < 2147483648 by omega), ew] at hP hD
      refine lv_iinc (v := nI (j + 1)) (lv' := [(1, .int (nI (j + 1))), (0, .ref h0)]) X.1 X.2.1 dk_De_161 hl (k := 0) rfl (nI_s1 j) (by decide) rfl (fun ls hl => ?_)
      refine lv_goto (tgt := 142) X.1 X.2.1 dk_De_164 (by decide) ?_
      refine W.widen (k := c0 + 3 * (j + 1)) (n := s0 + 122 * (j + 1)) (by show c0 + 3 * j + 1 + 2 ≤ _; omega) (by show s0 + 122 * j + 5 + 117 ≤ _; omega) ?_
      refine ih (j + 1) (va_up f j (some q)) (Ps ++ [(q, g)]) H locs ls (by omega) (by rw [List.length_append, hj]; rfl) (fun i x hx => ?_) hP hD hS hl
      by_cases hi : i = j
      · rw [List.getElem?_append_right (by omega), hj, hi, Nat.sub_self] at hx
        cases hx
        rw [hi, va_up_self]
      · have hlx := (List.getElem?_eq_some_iff.mp hx).1
        rw [List.length_append] at hlx
        have h1 : [(q, g)].length = 1 := rfl
        rw [List.getElem?_append_left (by omega)] at hx
        rw [va_up_ne _ _ hi]
        exact hPf i x hx
set_option maxRecDepth 20000 in
theorem lp_De2 {p : Program} {l : Launch} {e : Env} {R : Room} {s : State} {m : MethodId} {args : Array Value} {below : List Frame} {meth : Method} {cd : Code} {Q : State → Prop} {D : va_G} {cy : Nat → ClassId} {A : Nat → Prop} {h0 qk c0 s0 : Nat} {fs : List Value} {e1 e2 e3 e4 e5 e6 e7 e8 e9 e10 e11 e12 e13 e14 e15 e16 e17 e18 e19 e20 e21 e22 e23 e24 e25 : Nat × va_E} {Y : va_W} (X : kx_X 5 prog_1_method_1_code 2 D cy p s m args cd) (hf : fs[8]? = some (.ref qk)) (hA : ∀ q, s.heap.size ≤ q → A q) (hR : 1 + 1 ≤ R.frames ∧ 8 + (1 + 11) + 12 ≤ R.locals) (hcs : c0 + 6 ≤ R.cells ∧ s0 + 244 ≤ R.slots)
    (K : ∀ (f : Nat → Option Nat) (Ps : List (Nat × (Nat → Nat))) (H : Heap) (locs : List Loc) (ls : Array Slot), Ps.length = 2 → (∀ (i : Nat) (x : Nat × (Nat → Nat)), Ps[i]? = some x → f i = some x.1) → va_P D vwCl ((h0, .inr (5, fs)) :: e1 :: e2 :: e3 :: e4 :: e5 :: e6 :: e7 :: e8 :: e9 :: e10 :: e11 :: e12 :: e13 :: e14 :: e15 :: e16 :: e17 :: e18 :: e19 :: e20 :: e21 :: e22 :: e23 :: e24 :: e25 :: (qk, .inl (cy 2, 2, .inr (.inr (.inr (.inr f))))) :: (Y ++ kPs cy Ps)) H → va_D A ((h0, .inr (5, fs)) :: e1 :: e2 :: e3 :: e4 :: e5 :: e6 :: e7 :: e8 :: e9 :: e10 :: e11 :: e12 :: e13 :: e14 :: e15 :: e16 :: e17 :: e18 :: e19 :: e20 :: e21 :: e22 :: e23 :: e24 :: e25 :: (qk, .inl (cy 2, 2, .inr (.inr (.inr (.inr f))))) :: (Y ++ kPs cy Ps)) → va_S A s.heap H locs → lv_has ls 2 [(0, .ref h0)] → W p l e R s m args below meth cd H locs (c0 + 6) (s0 + 244) Q (F0 m 193 ls [])) :
    ∀ (n j : Nat) (f : Nat → Option Nat) (Ps : List (Nat × (Nat → Nat))) (H : Heap) (locs : List Loc) (ls : Array Slot), n + j = 2 → Ps.length = j → (∀ (i : Nat) (x : Nat × (Nat → Nat)), Ps[i]? = some x → f i = some x.1) → va_P D vwCl ((h0, .inr (5, fs)) :: e1 :: e2 :: e3 :: e4 :: e5 :: e6 :: e7 :: e8 :: e9 :: e10 :: e11 :: e12 :: e13 :: e14 :: e15 :: e16 :: e17 :: e18 :: e19 :: e20 :: e21 :: e22 :: e23 :: e24 :: e25 :: (qk, .inl (cy 2, 2, .inr (.inr (.inr (.inr f))))) :: (Y ++ kPs cy Ps)) H → va_D A ((h0, .inr (5, fs)) :: e1 :: e2 :: e3 :: e4 :: e5 :: e6 :: e7 :: e8 :: e9 :: e10 :: e11 :: e12 :: e13 :: e14 :: e15 :: e16 :: e17 :: e18 :: e19 :: e20 :: e21 :: e22 :: e23 :: e24 :: e25 :: (qk, .inl (cy 2, 2, .inr (.inr (.inr (.inr f))))) :: (Y ++ kPs cy Ps)) → va_S A s.heap H locs → lv_has ls 2 [(1, .int (nI j)), (0, .ref h0)] → W p l e R s m args below meth cd H locs (c0 + 3 * j) (s0 + 122 * j) Q (F0 m 169 ls []) := by
  intro n
  induction n with
  | zero =>
    intro j f Ps H locs ls hn hj hPf hP hD hS hl
    have ej : j = 2 := by omega
    subst ej
    refine lv_iload_n X.1 X.2.1 dk_De_169 rfl (lv_at hl 0 rfl) ?_
    refine lv_iconst (v := nI 2) X.1 X.2.1 dk_De_170 (by decide) ?_
    refine lv_icmp_ge (tgt := 193) X.1 X.2.1 dk_De_171 (by decide) (fun h => ?_) (fun h => ?_)
    · exact K f Ps H locs ls hj hPf hP hD hS (lv_sub hl [1] rfl)
    · exact absurd (nI_le (Nat.le_refl _) (by decide)) h
  | succ n ih =>
    intro j f Ps H locs ls hn hj hPf hP hD hS hl
    refine lv_iload_n X.1 X.2.1 dk_De_169 rfl (lv_at hl 0 rfl) ?_
    refine lv_iconst (v := nI 2) X.1 X.2.1 dk_De_170 (by decide) ?_
    refine lv_icmp_ge (tgt := 193) X.1 X.2.1 dk_De_171 (by decide) (fun h => ?_) (fun h => ?_)
    · have := (nI_leI (by decide) (by omega)).mp h
      omega
    · have hlt : j < 2 := by omega
      refine lv_aload_n X.1 X.2.1 dk_De_174 rfl (lv_at hl 1 rfl) ?_
      refine va_get (D := D) (ci := 5) (v := .ref qk) (C := mx_cn 5) (T := mx_T 5) (N := mx_nf 5) X.1 X.2.1 X.2.2.2.2.1 (mx_inG 5 _ (mx_cl7 5 (by decide)).1) X.2.2.2.1 (kx_K X) hP 0 rfl (mx_cl7 5 (by decide)).1 8 (by decide) (kx_ts X (mx_flP_mem (own := 5) (idx := 51) (a := 5) (b := 8) (by decide +kernel))) (fun x h9 => by rw [(mx_cl7 5 (by decide)).2.1 8 (by decide)] at h9; exact h9) hf dk_De_175 ?_
      refine lv_iload_n X.1 X.2.1 dk_De_178 rfl (lv_at hl 0 rfl) ?_
      refine k_mk (ci := 1) X c_Pi_init (by decide) (mx_mem (p := 173) (by decide +kernel) rfl) kw_i1 kw_n1 kw_m1 kw_c1 (k6 := 174) (by decide) kw_f1 hP hD hS hA hl.1 (Nat.le_of_ble_eq_true rfl) hR ⟨by show c0 + 3 * j + 1 + 2 ≤ R.cells; omega, by show s0 + 122 * j + 5 + 117 ≤ R.slots; omega⟩ dk_De_179 dk_De_182 dk_De_183 (fun q g H locs hP hD hS => ?_)
      have hP : va_P D vwCl ((h0, .inr (5, fs)) :: e1 :: e2 :: e3 :: e4 :: e5 :: e6 :: e7 :: e8 :: e9 :: e10 :: e11 :: e12 :: e13 :: e14 :: e15 :: e16 :: e17 :: e18 :: e19 :: e20 :: e21 :: e22 :: e23 :: e24 :: e25 :: (qk, .inl (cy 2, 2, .inr (.inr (.inr (.inr f))))) :: ((Y ++ kPs cy Ps) ++ kPi cy q g)) H := hP
      have hD : va_D A ((h0, .inr (5, fs)) :: e1 :: e2 :: e3 :: e4 :: e5 :: e6 :: e7 :: e8 :: e9 :: e10 :: e11 :: e12 :: e13 :: e14 :: e15 :: e16 :: e17 :: e18 :: e19 :: e20 :: e21 :: e22 :: e23 :: e24 :: e25 :: (qk, .inl (cy 2, 2, .inr (.inr (.inr (.inr f))))) :: ((Y ++ kPs cy Ps) ++ kPi cy q g)) := hD
      have hv : ((h0, .inr (5, fs)) :: e1 :: e2 :: e3 :: e4 :: e5 :: e6 :: e7 :: e8 :: e9 :: e10 :: e11 :: e12 :: e13 :: e14 :: e15 :: e16 :: e17 :: e18 :: e19 :: e20 :: e21 :: e22 :: e23 :: e24 :: e25 :: (qk, .inl (cy 2, 2, .inr (.inr (.inr (.inr f))))) :: ((Y ++ kPs cy Ps) ++ kPi cy q g))[(Y ++ kPs cy Ps).length + 27]? = some (q, .inr (1, [.ref (g 0), .ref (g 1), .int 3, .int 0, .int 0])) := by
        show ((Y ++ kPs cy Ps) ++ kPi cy q g)[(Y ++ kPs cy Ps).length]? = _
        rw [List.getElem?_append_right (Nat.le_refl _), Nat.sub_self]
        rfl
      refine va_astq X.1 X.2.1 (kx_K X) hP hD hS 26 2 ((Y ++ kPs cy Ps).length + 27) 1 (r := (mx_cn 1, mx_T 1, mx_nf 1)) rfl rfl hv (mx_cl7 1 (by decide)).1 (mI hlt) dk_De_186 (fun H locs hP hD hS => ?_)
      have hP : va_P D vwCl ((h0, .inr (5, fs)) :: e1 :: e2 :: e3 :: e4 :: e5 :: e6 :: e7 :: e8 :: e9 :: e10 :: e11 :: e12 :: e13 :: e14 :: e15 :: e16 :: e17 :: e18 :: e19 :: e20 :: e21 :: e22 :: e23 :: e24 :: e25 :: (qk, .inl (cy 2, 2, .inr (.inr (.inr (.inr (va_up f (nI j).toNatClampNeg (some q))))))) :: ((Y ++ kPs cy Ps) ++ kPi cy q g)) H := hP
      have hD : va_D A ((h0, .inr (5, fs)) :: e1 :: e2 :: e3 :: e4 :: e5 :: e6 :: e7 :: e8 :: e9 :: e10 :: e11 :: e12 :: e13 :: e14 :: e15 :: e16 :: e17 :: e18 :: e19 :: e20 :: e21 :: e22 :: e23 :: e24 :: e25 :: (qk, .inl (cy 2, 2, .inr (.inr (.inr (.inr (va_up f (nI j).toNatClampNeg (some q))))))) :: ((Y ++ kPs cy Ps) ++ kPi cy q g)) := hD
      have ew : (Y ++ kPs cy Ps) ++ kPi cy q g = Y ++ kPs cy (Ps ++ [(q, g)]) := by rw [kPs_add, List.append_assoc]
      rw [nI_cl (show j < 2147483648 by omega), ew] at hP hD
      refine lv_iinc (v := nI (j + 1)) (lv' := [(1, .int (nI (j + 1))), (0, .ref h0)]) X.1 X.2.1 dk_De_187 hl (k := 0) rfl (nI_s1 j) (by decide) rfl (fun ls hl => ?_)
      refine lv_goto (tgt := 169) X.1 X.2.1 dk_De_190 (by decide) ?_
      refine W.widen (k := c0 + 3 * (j + 1)) (n := s0 + 122 * (j + 1)) (by show c0 + 3 * j + 1 + 2 ≤ _; omega) (by show s0 + 122 * j + 5 + 117 ≤ _; omega) ?_
      refine ih (j + 1) (va_up f j (some q)) (Ps ++ [(q, g)]) H locs ls (by omega) (by rw [List.length_append, hj]; rfl) (fun i x hx => ?_) hP hD hS hl
      by_cases hi : i = j
      · rw [List.getElem?_append_right (by omega), hj, hi, Nat.sub_self] at hx
        cases hx
        rw [hi, va_up_self]
      · have hlx := (List.getElem?_eq_some_iff.mp hx).1
        rw [List.length_append] at hlx
        have h1 : [(q, g)].length = 1 := rfl
        rw [List.getElem?_append_left (by omega)] at hx
        rw [va_up_ne _ _ hi]
        exact hPf i x hx
set_option maxRecDepth 20000 in
set_option maxHeartbeats 4000000 in
theorem fin_De {p : Program} {l : Launch} {e : Env} {R : Room} {s : State} {m : MethodId} {below : List Frame} {meth : Method} {cd : Code} {D : va_G} {cy : Nat → ClassId} {A : Nat → Prop} {H : Heap} {locs : List Loc} {ls : Array Slot} {cells slots : Nat} {h0 tO q1 q2 q3 q4 q5 q6 q7 q8 q9 q10 q11 q12 q13 : Nat} {g1 g2 g3 g4 g5 g6 g9 : Nat → Nat} {f g : Nat → Option Nat} {Ps Qs : List (Nat × (Nat → Nat))} (X : kx_X 5 prog_1_method_1_code 2 D cy p s m [Value.ref h0].toArray cd) (hr : meth.sig.returnType = none) (hlocks : meth.locks = false) (hl : lv_has ls 2 [(0, .ref h0)]) (hA : ∀ q, s.heap.size ≤ q → A q) (hZ : mx_Z tO A s s.heap) (hR : 9 ≤ R.frames ∧ 555 ≤ R.locals) (hcs : cells ≤ R.cells ∧ slots ≤ R.slots) (h1 : Ps.length = 10) (h2 : (∀ (i : Nat) (x : Nat × (Nat → Nat)), Ps[i]? = some x → f i = some x.1)) (h3 : Qs.length = 2) (h4 : (∀ (i : Nat) (x : Nat × (Nat → Nat)), Qs[i]? = some x → g i = some x.1)) (hP : va_P D vwCl ((h0, .inr (5, [.ref q1, .ref q2, .ref q3, .ref q4, .ref q5, .ref q6, .ref q7, .int 0, .ref q8, .int 0, .ref q9, .ref q10, .ref q11, .ref q12, .ref q13])) :: (q1, .inr (3, [.ref (g1 0), .ref (g1 1), .int 0, .int 0, .int (-1), .int 0, .int 0])) :: (g1 0, .inl (cy 0, 120, .inl (fun _ => 0))) :: (g1 1, .inr (1, [.ref (g1 2), .ref (g1 3), .int 3, .int 0, .int 0])) :: (g1 2, .inl (cy 0, 54, .inl (fun _ => 0))) :: (g1 3, .inl (cy 0, 63, .inl (fun _ => 0))) :: (q2, .inr (1, [.ref (g2 0), .ref (g2 1), .int 3, .int 0, .int 0])) :: (g2 0, .inl (cy 0, 54, .inl (fun _ => 0))) :: (g2 1, .inl (cy 0, 63, .inl (fun _ => 0))) :: (q3, .inr (4, [.ref (g3 0), .ref (g3 1), .ref (g3 2), .int 0])) :: (g3 0, .inl (cy 0, 63, .inl (fun _ => 0))) :: (g3 1, .inl (cy 0, 63, .inl (fun _ => 0))) :: (g3 2, .inl (cy 0, 63, .inl (fun _ => 0))) :: (q4, .inr (0, [.ref (g4 0), .ref (g4 1), .ref (g4 2)])) :: (g4 0, .inl (cy 0, 63, .inl (fun _ => 0))) :: (g4 1, .inl (cy 0, 36, .inl (fun _ => 0))) :: (g4 2, .inl (cy 0, 63, .inl (fun _ => 0))) :: (q5, .inr (0, [.ref (g5 0), .ref (g5 1), .ref (g5 2)])) :: (g5 0, .inl (cy 0, 63, .inl (fun _ => 0))) :: (g5 1, .inl (cy 0, 36, .inl (fun _ => 0))) :: (g5 2, .inl (cy 0, 63, .inl (fun _ => 0))) :: (q6, .inr (0, [.ref (g6 0), .ref (g6 1), .ref (g6 2)])) :: (g6 0, .inl (cy 0, 63, .inl (fun _ => 0))) :: (g6 1, .inl (cy 0, 36, .inl (fun _ => 0))) :: (g6 2, .inl (cy 0, 63, .inl (fun _ => 0))) :: (q7, .inl (cy 2, 10, .inr (.inr (.inr (.inr f))))) :: (q8, .inl (cy 2, 2, .inr (.inr (.inr (.inr g))))) :: (([(q9, .inr (2, [.ref (g9 0), .ref (g9 1), .ref (g9 2), .int 0])), (g9 0, .inl (cy 0, 6, .inl (fun _ => 0))), (g9 1, .inl (cy 0, 6, .inl (fun _ => 0))), (g9 2, .inl (cy 0, 6, .inl (fun _ => 0))), (q10, .inl (cy 0, 6, .inl (fun _ => 0))), (q11, .inl (cy 0, 6, .inl (fun _ => 0))), (q12, .inl (cy 0, 10, .inl (fun _ => 0))), (q13, .inl (cy 0, 63, .inl (fun _ => 0)))] ++ kPs cy Ps) ++ kPs cy Qs)) H) (hD : va_D A ((h0, .inr (5, [.ref q1, .ref q2, .ref q3, .ref q4, .ref q5, .ref q6, .ref q7, .int 0, .ref q8, .int 0, .ref q9, .ref q10, .ref q11, .ref q12, .ref q13])) :: (q1, .inr (3, [.ref (g1 0), .ref (g1 1), .int 0, .int 0, .int (-1), .int 0, .int 0])) :: (g1 0, .inl (cy 0, 120, .inl (fun _ => 0))) :: (g1 1, .inr (1, [.ref (g1 2), .ref (g1 3), .int 3, .int 0, .int 0])) :: (g1 2, .inl (cy 0, 54, .inl (fun _ => 0))) :: (g1 3, .inl (cy 0, 63, .inl (fun _ => 0))) :: (q2, .inr (1, [.ref (g2 0), .ref (g2 1), .int 3, .int 0, .int 0])) :: (g2 0, .inl (cy 0, 54, .inl (fun _ => 0))) :: (g2 1, .inl (cy 0, 63, .inl (fun _ => 0))) :: (q3, .inr (4, [.ref (g3 0), .ref (g3 1), .ref (g3 2), .int 0])) :: (g3 0, .inl (cy 0, 63, .inl (fun _ => 0))) :: (g3 1, .inl (cy 0, 63, .inl (fun _ => 0))) :: (g3 2, .inl (cy 0, 63, .inl (fun _ => 0))) :: (q4, .inr (0, [.ref (g4 0), .ref (g4 1), .ref (g4 2)])) :: (g4 0, .inl (cy 0, 63, .inl (fun _ => 0))) :: (g4 1, .inl (cy 0, 36, .inl (fun _ => 0))) :: (g4 2, .inl (cy 0, 63, .inl (fun _ => 0))) :: (q5, .inr (0, [.ref (g5 0), .ref (g5 1), .ref (g5 2)])) :: (g5 0, .inl (cy 0, 63, .inl (fun _ => 0))) :: (g5 1, .inl (cy 0, 36, .inl (fun _ => 0))) :: (g5 2, .inl (cy 0, 63, .inl (fun _ => 0))) :: (q6, .inr (0, [.ref (g6 0), .ref (g6 1), .ref (g6 2)])) :: (g6 0, .inl (cy 0, 63, .inl (fun _ => 0))) :: (g6 1, .inl (cy 0, 36, .inl (fun _ => 0))) :: (g6 2, .inl (cy 0, 63, .inl (fun _ => 0))) :: (q7, .inl (cy 2, 10, .inr (.inr (.inr (.inr f))))) :: (q8, .inl (cy 2, 2, .inr (.inr (.inr (.inr g))))) :: (([(q9, .inr (2, [.ref (g9 0), .ref (g9 1), .ref (g9 2), .int 0])), (g9 0, .inl (cy 0, 6, .inl (fun _ => 0))), (g9 1, .inl (cy 0, 6, .inl (fun _ => 0))), (g9 2, .inl (cy 0, 6, .inl (fun _ => 0))), (q10, .inl (cy 0, 6, .inl (fun _ => 0))), (q11, .inl (cy 0, 6, .inl (fun _ => 0))), (q12, .inl (cy 0, 10, .inl (fun _ => 0))), (q13, .inl (cy 0, 63, .inl (fun _ => 0)))] ++ kPs cy Ps) ++ kPs cy Qs))) (hS : va_S A s.heap H locs) : W p l e R s m [Value.ref h0].toArray below meth cd H locs cells slots (MQ below (kx_Qs 0 D cy h0 tO A (fun c => cI c a00)) [Value.ref h0].toArray s cells slots A) (F0 m 193 ls []) := by
  obtain ⟨a0, t0, e0, u0⟩ := kx_len1 h1
  obtain ⟨a1, t1, e1, u1⟩ := kx_len1 u0
  obtain ⟨a2, t2, e2, u2⟩ := kx_len1 u1
  obtain ⟨a3, t3, e3, u3⟩ := kx_len1 u2
  obtain ⟨a4, t4, e4, u4⟩ := kx_len1 u3
  obtain ⟨a5, t5, e5, u5⟩ := kx_len1 u4
  obtain ⟨a6, t6, e6, u6⟩ := kx_len1 u5
  obtain ⟨a7, t7, e7, u7⟩ := kx_len1 u6
  obtain ⟨a8, t8, e8, u8⟩ := kx_len1 u7
  obtain ⟨a9, t9, e9, u9⟩ := kx_len1 u8
  have e10 : t9 = [] := List.eq_nil_of_length_eq_zero u9
  subst e10
  subst e9
  subst e8
  subst e7
  subst e6
  subst e5
  subst e4
  subst e3
  subst e2
  subst e1
  subst e0
  obtain ⟨b0, v0, w0, x0⟩ := kx_len1 h3
  obtain ⟨b1, v1, w1, x1⟩ := kx_len1 x0
  have w2 : v1 = [] := List.eq_nil_of_length_eq_zero x1
  subst w2
  subst w1
  subst w0
  obtain ⟨L, hL⟩ : ∃ L : List Nat, L = [h0, q1, g1 0, g1 1, g1 2, g1 3, q2, g2 0, g2 1, q3, g3 0, g3 1, g3 2, q4, g4 0, g4 1, g4 2, q5, g5 0, g5 1, g5 2, q6, g6 0, g6 1, g6 2, q7, q8, q9, g9 0, g9 1, g9 2, q10, q11, q12, q13, a0.1, a0.2 0, a0.2 1, a1.1, a1.2 0, a1.2 1, a2.1, a2.2 0, a2.2 1, a3.1, a3.2 0, a3.2 1, a4.1, a4.2 0, a4.2 1, a5.1, a5.2 0, a5.2 1, a6.1, a6.2 0, a6.2 1, a7.1, a7.2 0, a7.2 1, a8.1, a8.2 0, a8.2 1, a9.1, a9.2 0, a9.2 1, b0.1, b0.2 0, b0.2 1, b1.1, b1.2 0, b1.2 1] := ⟨_, rfl⟩
  have y1 : ∀ j, j < 10 → f j = some (kad tO L (c00 25 j).toNatClampNeg) := by
    intro j hj
    rw [show c00 25 j = nI (35 + 3 * j) from rfl, nI_cl (show 35 + 3 * j < 2147483648 by omega), hL]
    match j, hj with
    | 0, _ => exact h2 0 a0 rfl
    | 1, _ => exact h2 1 a1 rfl
    | 2, _ => exact h2 2 a2 rfl
    | 3, _ => exact h2 3 a3 rfl
    | 4, _ => exact h2 4 a4 rfl
    | 5, _ => exact h2 5 a5 rfl
    | 6, _ => exact h2 6 a6 rfl
    | 7, _ => exact h2 7 a7 rfl
    | 8, _ => exact h2 8 a8 rfl
    | 9, _ => exact h2 9 a9 rfl
    | k + 10, hj => exact absurd hj (by omega)
  have y2 : ∀ j, j < 2 → g j = some (kad tO L (c00 26 j).toNatClampNeg) := by
    intro j hj
    rw [show c00 26 j = nI (65 + 3 * j) from rfl, nI_cl (show 65 + 3 * j < 2147483648 by omega), hL]
    match j, hj with
    | 0, _ => exact h4 0 b0 rfl
    | 1, _ => exact h4 1 b1 rfl
    | k + 2, hj => exact absurd hj (by omega)
  have hD := (hD.set (p := 25) (e := .inl (cy 2, 10, .inr (.inr (.inr (.inr (fun j => some (kad tO L (c00 25 j).toNatClampNeg))))))) rfl).set (p := 26) (e := .inl (cy 2, 2, .inr (.inr (.inr (.inr (fun j => some (kad tO L (c00 26 j).toNatClampNeg))))))) rfl
  have hP := kx_Pset (kx_Pset hP (k := 25) rfl y1) (k := 26) rfl y2
  have hP : va_P D vwCl (mx_W 0 cy (kad tO L) c00) H := by rw [hL] at hP ⊢; exact hP
  have hD : va_D A (mx_W 0 cy (kad tO L) c00) := by rw [hL] at hD ⊢; exact hD
  obtain ⟨hinj, hAd⟩ := kx_of_D hD
  have k0 : kad tO L 0 = h0 := by rw [hL]; rfl
  exact tl_De (ad := kad tO L) X hr hlocks (by rw [k0]; exact hl) hP hinj hS hA hAd hZ hR hcs rfl rfl rfl rfl (fun i _ => rfl) (fun i _ => rfl) (fun c2 t hI hP2 hF => ⟨⟨(_, c2), rfl, ⟨k0, rfl, hinj, hAd, hI⟩, hP2⟩, hF⟩)
