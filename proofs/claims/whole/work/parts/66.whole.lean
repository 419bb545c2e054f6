/-! the law, from its entry -/
theorem dl_0 : decode code 0 = .ok (.new 7, 3) := by decide +kernel
theorem dl_3 : decode code 3 = .ok (.dup, 1) := by decide +kernel
theorem dl_4 : decode code 4 = .ok (.invokespecial 9, 3) := by decide +kernel
theorem dl_7 : decode code 7 = .ok (.astore_n 1, 1) := by decide +kernel
theorem dl_8 : decode code 8 = .ok (.new 10, 3) := by decide +kernel
theorem dl_11 : decode code 11 = .ok (.dup, 1) := by decide +kernel
theorem dl_12 : decode code 12 = .ok (.invokespecial 12, 3) := by decide +kernel
theorem dl_15 : decode code 15 = .ok (.astore_n 2, 1) := by decide +kernel
theorem dl_16 : decode code 16 = .ok (.iconst 0, 1) := by decide +kernel
theorem dl_17 : decode code 17 = .ok (.istore_n 3, 1) := by decide +kernel
set_option maxHeartbeats 4000000 in
set_option maxRecDepth 20000 in
theorem whole_start {p : Program} {e : Env} {s : State} {m : MethodId} {below : List Frame} {meth : Method} {c : Code} (l : Launch) (hflags : l.flags = flags0) {b L : Nat} {xs : Nat → Int32} (hL : L ≤ 2560) (C0 : lw_At p s m meth c b L xs) : W p l e room_1 s m #[Value.ref b] below meth c s.heap [] 0 0 (lw_Z below #[Value.ref b] s) (entryFrame m ([Value.ref b] : List Value).toArray 4) := by
  obtain ⟨hx, hb, hr, hml, hown, hts, hX, hbl, hlocks, hgv⟩ := C0
  obtain ⟨D, cy, hT⟩ := kx_start hts
  obtain ⟨tO, hZ⟩ := kx_stat hts hgv
  have X : kx_X 7 code 4 D cy p s m #[Value.ref b] c := ⟨hx, hb, hml, hown, fun w hw => hts w (List.mem_filter.mp hw).1, hT⟩
  have hA : ∀ q : Nat, s.heap.size ≤ q → (fun q : Nat => s.heap.size ≤ q) q := fun _ h => h
  have hS : va_S (fun q : Nat => s.heap.size ≤ q) s.heap s.heap [] := va_S.rf
  have hP : va_P D vwCl [] s.heap := fun k q h => by simp at h
  have hD : va_D (fun q : Nat => s.heap.size ≤ q) [] := ⟨fun i j p q h => by simp at h, fun k q h => by simp at h⟩
  have hl := lv_entry ([.ref b]) (n := 4) (Nat.le_of_ble_eq_true rfl)
  rw [lg_entry_eq]
  generalize (lg_sl ([.ref b]) ++ List.replicate (4 - (lg_sl ([.ref b])).length) Slot.unset).toArray = ls at hl ⊢
  have hl : lv_has ls 4 [(0, .ref b)] := hl
  refine k_mkS (tO := tO) (Y := []) X c_De_init (by decide) kw_l5 kw_i5 kw_n5 kw_m5 kw_c5 kw_k5 kw_f5 hP hD hS hA hZ hl.1 (Nat.zero_le _) ⟨by decide +kernel, by decide +kernel⟩ ⟨by decide +kernel, by decide +kernel⟩ dl_0 dl_3 dl_4 (fun q0 ad0 c0 H locs e0 t0 j0 A0 _ I0 _ hP0 hS => ?_)
  refine W.widen (k := 71) (n := 2657) (by decide +kernel) (by decide +kernel) ?_
  refine lv_astore_n (lv' := [(1, .ref q0), (0, .ref b)]) X.1 X.2.1 dl_7 rfl hl (by decide) rfl (fun ls hl => ?_)
  refine k_mkS (tO := tO) (Y := mx_W 0 cy ad0 c0) X c_Mo_init (by decide) kw_l6 kw_i6 kw_n6 kw_m6 kw_c6 kw_k6 kw_f6 hP0 (kx_D_of j0 A0) hS hA hZ hl.1 (Nat.zero_le _) ⟨by decide +kernel, by decide +kernel⟩ ⟨by decide +kernel, by decide +kernel⟩ dl_8 dl_11 dl_12 (fun q1 ad1 c1 H locs e1 t1 j1 A1 ap I1 hP0 hP1 hS => ?_)
  refine W.widen (k := 600000) (n := 7302250) (by decide +kernel) (by decide +kernel) ?_
  refine lv_astore_n (lv' := [(2, .ref q1), (1, .ref q0), (0, .ref b)]) X.1 X.2.1 dl_15 rfl hl (by decide) rfl (fun ls hl => ?_)
  refine lv_iconst (v := nI 0) X.1 X.2.1 dl_16 (by decide) ?_
  refine lv_istore_n (lv' := [(3, .int (nI 0)), (2, .ref q1), (1, .ref q0), (0, .ref b)]) X.1 X.2.1 dl_17 rfl hl (by decide) rfl (fun ls hl => ?_)
  subst e0
  subst e1
  have F : la_Fx D cy ad0 ad1 p s m meth c b L xs := ⟨X, hr, hlocks, hX, hbl, hL, by rw [t0, t1], by rw [t0]; exact hZ, ⟨j0, j1⟩, A0, A1, fun i j hi hj w => ap j hj i _ (mx_W_at hi) w.symm⟩
  exact law_loop F 512 0 a00 c0 c1 H locs ls (by omega) (by decide) I0 I1 (fun i hi => absurd hi (Nat.not_lt_zero i)) ⟨hP0, hP1, hS⟩ hl
