/-! the class's constructor -/
theorem kl_5_10 : (Nat.blt 5 7 && Nat.blt 0 (mx_nf 5) && mx_inF mx_flP 5 10 5 0) = true := by decide +kernel
theorem kl_5_19 : (Nat.blt 5 7 && Nat.blt 1 (mx_nf 5) && mx_inF mx_flP 5 19 5 1) = true := by decide +kernel
theorem kl_5_26 : (Nat.blt 5 7 && Nat.blt 2 (mx_nf 5) && mx_inF mx_flP 5 26 5 2) = true := by decide +kernel
theorem kl_5_33 : (Nat.blt 5 7 && Nat.blt 3 (mx_nf 5) && mx_inF mx_flP 5 33 5 3) = true := by decide +kernel
theorem kl_5_37 : (Nat.blt 5 7 && Nat.blt 4 (mx_nf 5) && mx_inF mx_flP 5 37 5 4) = true := by decide +kernel
theorem kl_5_40 : (Nat.blt 5 7 && Nat.blt 5 (mx_nf 5) && mx_inF mx_flP 5 40 5 5) = true := by decide +kernel
theorem kl_5_43 : (Nat.blt 5 7 && Nat.blt 6 (mx_nf 5) && mx_inF mx_flP 5 43 5 6) = true := by decide +kernel
theorem kl_5_47 : (Nat.blt 5 7 && Nat.blt 7 (mx_nf 5) && mx_inF mx_flP 5 47 5 7) = true := by decide +kernel
theorem kl_5_51 : (Nat.blt 5 7 && Nat.blt 8 (mx_nf 5) && mx_inF mx_flP 5 51 5 8) = true := by decide +kernel
theorem kl_5_54 : (Nat.blt 5 7 && Nat.blt 9 (mx_nf 5) && mx_inF mx_flP 5 54 5 9) = true := by decide +kernel
theorem kl_5_60 : (Nat.blt 5 7 && Nat.blt 10 (mx_nf 5) && mx_inF mx_flP 5 60 5 10) = true := by decide +kernel
theorem kl_5_64 : (Nat.blt 5 7 && Nat.blt 11 (mx_nf 5) && mx_inF mx_flP 5 64 5 11) = true := by decide +kernel
theorem kl_5_68 : (Nat.blt 5 7 && Nat.blt 12 (mx_nf 5) && mx_inF mx_flP 5 68 5 12) = true := by decide +kernel
theorem kl_5_71 : (Nat.blt 5 7 && Nat.blt 13 (mx_nf 5) && mx_inF mx_flP 5 71 5 13) = true := by decide +kernel
theorem kl_5_74 : (Nat.blt 5 7 && Nat.blt 14 (mx_nf 5) && mx_inF mx_flP 5 74 5 14) = true := by decide +kernel
set_option maxRecDepth 20000 in
set_option maxHeartbeats 4000000 in
theorem c_De_init : kx_Sy 0 5 prog_1_method_1_code 2 [.null, .null, .null, .null, .null, .null, .null, .int 0, .null, .int 0, .null, .null, .null, .null, .null] { frames := 10, cells := 70, slots := 2642, locals := 640 } (fun c => cI c a00) := by
  refine kx_ofS (by decide +kernel) (by decide) ?_
  intro l D cy h0 tO p e s m below meth cd A ls X hr hlocks hin hP hD hA hS hZ hl
  refine lv_aload_n X.1 X.2.1 dk_De_0 rfl (lv_at hl 0 rfl) ?_
  refine k_obj X (mx_mem (p := 103) (by decide +kernel) rfl) hl.1 dk_De_1 (Nat.le_of_ble_eq_true rfl) (Nat.le_of_ble_eq_true rfl) ?_
  refine lv_aload_n X.1 X.2.1 dk_De_4 rfl (lv_at hl 0 rfl) ?_
  refine k_mk (ci := 3) X c_Te_init (by decide) (mx_mem (p := 106) (by decide +kernel) rfl) kw_i3 kw_n3 kw_m3 kw_c3 (k6 := 108) (by decide) kw_f3 hP hD hS hA hl.1 (Nat.le_of_ble_eq_true rfl) ⟨(Nat.le_of_ble_eq_true rfl), (Nat.le_of_ble_eq_true rfl)⟩ ⟨(by decide +kernel), (by decide +kernel)⟩ dk_De_5 dk_De_8 dk_De_9 (fun q1 g1 H locs hP hD hS => ?_)
  refine W.widen (k := 5) (n := 249) (by decide +kernel) (by decide +kernel) ?_
  have hP : va_P D vwCl ((h0, .inr (5, [.null, .null, .null, .null, .null, .null, .null, .int 0, .null, .int 0, .null, .null, .null, .null, .null])) :: ([] ++ kTe cy q1 g1)) H := hP
  have hD : va_D A ((h0, .inr (5, [.null, .null, .null, .null, .null, .null, .null, .int 0, .null, .int 0, .null, .null, .null, .null, .null])) :: ([] ++ kTe cy q1 g1)) := hD
  obtain ⟨Y1, hY1⟩ : ∃ Y : va_W, Y = ([] ++ kTe cy q1 g1) := ⟨_, rfl⟩
  rw [← hY1] at hP hD
  refine k_put2 X hin hP hD hS 0 kl_5_10 rfl rfl rfl dk_De_12 (fun H locs hP hD hS => ?_)
  have hP : va_P D vwCl ((h0, .inr (5, [.ref q1, .null, .null, .null, .null, .null, .null, .int 0, .null, .int 0, .null, .null, .null, .null, .null])) :: Y1) H := hP
  have hD : va_D A ((h0, .inr (5, [.ref q1, .null, .null, .null, .null, .null, .null, .int 0, .null, .int 0, .null, .null, .null, .null, .null])) :: Y1) := hD
  refine lv_aload_n X.1 X.2.1 dk_De_15 rfl (lv_at hl 0 rfl) ?_
  refine k_mk (ci := 1) X c_Pi_init (by decide) (mx_mem (p := 173) (by decide +kernel) rfl) kw_i1 kw_n1 kw_m1 kw_c1 (k6 := 174) (by decide) kw_f1 hP hD hS hA hl.1 (Nat.le_of_ble_eq_true rfl) ⟨(Nat.le_of_ble_eq_true rfl), (Nat.le_of_ble_eq_true rfl)⟩ ⟨(by decide +kernel), (by decide +kernel)⟩ dk_De_16 dk_De_19 dk_De_20 (fun q2 g2 H locs hP hD hS => ?_)
  refine W.widen (k := 8) (n := 371) (by decide +kernel) (by decide +kernel) ?_
  have hP : va_P D vwCl ((h0, .inr (5, [.ref q1, .null, .null, .null, .null, .null, .null, .int 0, .null, .int 0, .null, .null, .null, .null, .null])) :: (Y1 ++ kPi cy q2 g2)) H := hP
  have hD : va_D A ((h0, .inr (5, [.ref q1, .null, .null, .null, .null, .null, .null, .int 0, .null, .int 0, .null, .null, .null, .null, .null])) :: (Y1 ++ kPi cy q2 g2)) := hD
  obtain ⟨Y2, hY2⟩ : ∃ Y : va_W, Y = (Y1 ++ kPi cy q2 g2) := ⟨_, rfl⟩
  rw [← hY2] at hP hD
  refine k_put2 X hin hP hD hS 1 kl_5_19 rfl rfl rfl dk_De_23 (fun H locs hP hD hS => ?_)
  have hP : va_P D vwCl ((h0, .inr (5, [.ref q1, .ref q2, .null, .null, .null, .null, .null, .int 0, .null, .int 0, .null, .null, .null, .null, .null])) :: Y2) H := hP
  have hD : va_D A ((h0, .inr (5, [.ref q1, .ref q2, .null, .null, .null, .null, .null, .int 0, .null, .int 0, .null, .null, .null, .null, .null])) :: Y2) := hD
  refine lv_aload_n X.1 X.2.1 dk_De_26 rfl (lv_at hl 0 rfl) ?_
  refine k_mk (ci := 4) X c_Tr_init (by decide) (mx_mem (p := 175) (by decide +kernel) rfl) kw_i4 kw_n4 kw_m4 kw_c4 (k6 := 177) (by decide) kw_f4 hP hD hS hA hl.1 (Nat.le_of_ble_eq_true rfl) ⟨(Nat.le_of_ble_eq_true rfl), (Nat.le_of_ble_eq_true rfl)⟩ ⟨(by decide +kernel), (by decide +kernel)⟩ dk_De_27 dk_De_30 dk_De_31 (fun q3 g3 H locs hP hD hS => ?_)
  refine W.widen (k := 12) (n := 564) (by decide +kernel) (by decide +kernel) ?_
  have hP : va_P D vwCl ((h0, .inr (5, [.ref q1, .ref q2, .null, .null, .null, .null, .null, .int 0, .null, .int 0, .null, .null, .null, .null, .null])) :: (Y2 ++ kTr cy q3 g3)) H := hP
  have hD : va_D A ((h0, .inr (5, [.ref q1, .ref q2, .null, .null, .null, .null, .null, .int 0, .null, .int 0, .null, .null, .null, .null, .null])) :: (Y2 ++ kTr cy q3 g3)) := hD
  obtain ⟨Y3, hY3⟩ : ∃ Y : va_W, Y = (Y2 ++ kTr cy q3 g3) := ⟨_, rfl⟩
  rw [← hY3] at hP hD
  refine k_put2 X hin hP hD hS 2 kl_5_26 rfl rfl rfl dk_De_34 (fun H locs hP hD hS => ?_)
  have hP : va_P D vwCl ((h0, .inr (5, [.ref q1, .ref q2, .ref q3, .null, .null, .null, .null, .int 0, .null, .int 0, .null, .null, .null, .null, .null])) :: Y3) H := hP
  have hD : va_D A ((h0, .inr (5, [.ref q1, .ref q2, .ref q3, .null, .null, .null, .null, .int 0, .null, .int 0, .null, .null, .null, .null, .null])) :: Y3) := hD
  refine lv_aload_n X.1 X.2.1 dk_De_37 rfl (lv_at hl 0 rfl) ?_
  refine k_mk (ci := 0) X c_Ba_init (by decide) (mx_mem (p := 202) (by decide +kernel) rfl) kw_i0 kw_n0 kw_m0 kw_c0 (k6 := 204) (by decide) kw_f0 hP hD hS hA hl.1 (Nat.le_of_ble_eq_true rfl) ⟨(Nat.le_of_ble_eq_true rfl), (Nat.le_of_ble_eq_true rfl)⟩ ⟨(by decide +kernel), (by decide +kernel)⟩ dk_De_38 dk_De_41 dk_De_42 (fun q4 g4 H locs hP hD hS => ?_)
  refine W.widen (k := 16) (n := 729) (by decide +kernel) (by decide +kernel) ?_
  have hP : va_P D vwCl ((h0, .inr (5, [.ref q1, .ref q2, .ref q3, .null, .null, .null, .null, .int 0, .null, .int 0, .null, .null, .null, .null, .null])) :: (Y3 ++ kBa cy q4 g4)) H := hP
  have hD : va_D A ((h0, .inr (5, [.ref q1, .ref q2, .ref q3, .null, .null, .null, .null, .int 0, .null, .int 0, .null, .null, .null, .null, .null])) :: (Y3 ++ kBa cy q4 g4)) := hD
  obtain ⟨Y4, hY4⟩ : ∃ Y : va_W, Y = (Y3 ++ kBa cy q4 g4) := ⟨_, rfl⟩
  rw [← hY4] at hP hD
  refine k_put2 X hin hP hD hS 3 kl_5_33 rfl rfl rfl dk_De_45 (fun H locs hP hD hS => ?_)
  have hP : va_P D vwCl ((h0, .inr (5, [.ref q1, .ref q2, .ref q3, .ref q4, .null, .null, .null, .int 0, .null, .int 0, .null, .null, .null, .null, .null])) :: Y4) H := hP
  have hD : va_D A ((h0, .inr (5, [.ref q1, .ref q2, .ref q3, .ref q4, .null, .null, .null, .int 0, .null, .int 0, .null, .null, .null, .null, .null])) :: Y4) := hD
  refine lv_aload_n X.1 X.2.1 dk_De_48 rfl (lv_at hl 0 rfl) ?_
  refine k_mk (ci := 0) X c_Ba_init (by decide) (mx_mem (p := 202) (by decide +kernel) rfl) kw_i0 kw_n0 kw_m0 kw_c0 (k6 := 204) (by decide) kw_f0 hP hD hS hA hl.1 (Nat.le_of_ble_eq_true rfl) ⟨(Nat.le_of_ble_eq_true rfl), (Nat.le_of_ble_eq_true rfl)⟩ ⟨(by decide +kernel), (by decide +kernel)⟩ dk_De_49 dk_De_52 dk_De_53 (fun q5 g5 H locs hP hD hS => ?_)
  refine W.widen (k := 20) (n := 894) (by decide +kernel) (by decide +kernel) ?_
  have hP : va_P D vwCl ((h0, .inr (5, [.ref q1, .ref q2, .ref q3, .ref q4, .null, .null, .null, .int 0, .null, .int 0, .null, .null, .null, .null, .null])) :: (Y4 ++ kBa cy q5 g5)) H := hP
  have hD : va_D A ((h0, .inr (5, [.ref q1, .ref q2, .ref q3, .ref q4, .null, .null, .null, .int 0, .null, .int 0, .null, .null, .null, .null, .null])) :: (Y4 ++ kBa cy q5 g5)) := hD
  obtain ⟨Y5, hY5⟩ : ∃ Y : va_W, Y = (Y4 ++ kBa cy q5 g5) := ⟨_, rfl⟩
  rw [← hY5] at hP hD
  refine k_put2 X hin hP hD hS 4 kl_5_37 rfl rfl rfl dk_De_56 (fun H locs hP hD hS => ?_)
  have hP : va_P D vwCl ((h0, .inr (5, [.ref q1, .ref q2, .ref q3, .ref q4, .ref q5, .null, .null, .int 0, .null, .int 0, .null, .null, .null, .null, .null])) :: Y5) H := hP
  have hD : va_D A ((h0, .inr (5, [.ref q1, .ref q2, .ref q3, .ref q4, .ref q5, .null, .null, .int 0, .null, .int 0, .null, .null, .null, .null, .null])) :: Y5) := hD
  refine lv_aload_n X.1 X.2.1 dk_De_59 rfl (lv_at hl 0 rfl) ?_
  refine k_mk (ci := 0) X c_Ba_init (by decide) (mx_mem (p := 202) (by decide +kernel) rfl) kw_i0 kw_n0 kw_m0 kw_c0 (k6 := 204) (by decide) kw_f0 hP hD hS hA hl.1 (Nat.le_of_ble_eq_true rfl) ⟨(Nat.le_of_ble_eq_true rfl), (Nat.le_of_ble_eq_true rfl)⟩ ⟨(by decide +kernel), (by decide +kernel)⟩ dk_De_60 dk_De_63 dk_De_64 (fun q6 g6 H locs hP hD hS => ?_)
  refine W.widen (k := 24) (n := 1059) (by decide +kernel) (by decide +kernel) ?_
  have hP : va_P D vwCl ((h0, .inr (5, [.ref q1, .ref q2, .ref q3, .ref q4, .ref q5, .null, .null, .int 0, .null, .int 0, .null, .null, .null, .null, .null])) :: (Y5 ++ kBa cy q6 g6)) H := hP
  have hD : va_D A ((h0, .inr (5, [.ref q1, .ref q2, .ref q3, .ref q4, .ref q5, .null, .null, .int 0, .null, .int 0, .null, .null, .null, .null, .null])) :: (Y5 ++ kBa cy q6 g6)) := hD
  obtain ⟨Y6, hY6⟩ : ∃ Y : va_W, Y = (Y5 ++ kBa cy q6 g6) := ⟨_, rfl⟩
  rw [← hY6] at hP hD
  refine k_put2 X hin hP hD hS 5 kl_5_40 rfl rfl rfl dk_De_67 (fun H locs hP hD hS => ?_)
  have hP : va_P D vwCl ((h0, .inr (5, [.ref q1, .ref q2, .ref q3, .ref q4, .ref q5, .ref q6, .null, .int 0, .null, .int 0, .null, .null, .null, .null, .null])) :: Y6) H := hP
  have hD : va_D A ((h0, .inr (5, [.ref q1, .ref q2, .ref q3, .ref q4, .ref q5, .ref q6, .null, .int 0, .null, .int 0, .null, .null, .null, .null, .null])) :: Y6) := hD
  refine lv_aload_n X.1 X.2.1 dk_De_70 rfl (lv_at hl 0 rfl) ?_
  refine lv_bipush (v := 10) X.1 X.2.1 dk_De_71 (by decide) ?_
  refine k_newQ X (mx_mem (p := 173) (by decide +kernel) rfl) hP hD hS hA 10 (by decide +kernel) (by decide +kernel) (by decide +kernel) (by decide +kernel) (by decide +kernel) dk_De_73 (fun q7 H hP hD hS => ?_)
  refine W.widen (k := 25) (n := 1069) (by decide +kernel) (by decide +kernel) ?_
  have hP : va_P D vwCl ((h0, .inr (5, [.ref q1, .ref q2, .ref q3, .ref q4, .ref q5, .ref q6, .null, .int 0, .null, .int 0, .null, .null, .null, .null, .null])) :: (Y6 ++ [(q7, .inl (cy 2, 10, .inr (.inr (.inr (.inr (fun _ => none))))))])) H := hP
  have hD : va_D A ((h0, .inr (5, [.ref q1, .ref q2, .ref q3, .ref q4, .ref q5, .ref q6, .null, .int 0, .null, .int 0, .null, .null, .null, .null, .null])) :: (Y6 ++ [(q7, .inl (cy 2, 10, .inr (.inr (.inr (.inr (fun _ => none))))))])) := hD
  obtain ⟨Y7, hY7⟩ : ∃ Y : va_W, Y = (Y6 ++ [(q7, .inl (cy 2, 10, .inr (.inr (.inr (.inr (fun _ => none))))))]) := ⟨_, rfl⟩
  rw [← hY7] at hP hD
  refine k_put2 X hin hP hD hS 6 kl_5_43 rfl rfl rfl dk_De_76 (fun H locs hP hD hS => ?_)
  have hP : va_P D vwCl ((h0, .inr (5, [.ref q1, .ref q2, .ref q3, .ref q4, .ref q5, .ref q6, .ref q7, .int 0, .null, .int 0, .null, .null, .null, .null, .null])) :: Y7) H := hP
  have hD : va_D A ((h0, .inr (5, [.ref q1, .ref q2, .ref q3, .ref q4, .ref q5, .ref q6, .ref q7, .int 0, .null, .int 0, .null, .null, .null, .null, .null])) :: Y7) := hD
  refine lv_aload_n X.1 X.2.1 dk_De_79 rfl (lv_at hl 0 rfl) ?_
  refine lv_iconst (v := 0) X.1 X.2.1 dk_De_80 (by decide) ?_
  refine k_put2 X hin hP hD hS 7 kl_5_47 rfl rfl rfl dk_De_81 (fun H locs hP hD hS => ?_)
  have hP : va_P D vwCl ((h0, .inr (5, [.ref q1, .ref q2, .ref q3, .ref q4, .ref q5, .ref q6, .ref q7, .int 0, .null, .int 0, .null, .null, .null, .null, .null])) :: Y7) H := hP
  have hD : va_D A ((h0, .inr (5, [.ref q1, .ref q2, .ref q3, .ref q4, .ref q5, .ref q6, .ref q7, .int 0, .null, .int 0, .null, .null, .null, .null, .null])) :: Y7) := hD
  refine lv_aload_n X.1 X.2.1 dk_De_84 rfl (lv_at hl 0 rfl) ?_
  refine lv_iconst (v := 2) X.1 X.2.1 dk_De_85 (by decide) ?_
  refine k_newQ X (mx_mem (p := 173) (by decide +kernel) rfl) hP hD hS hA 2 (by decide +kernel) (by decide +kernel) (by decide +kernel) (by decide +kernel) (by decide +kernel) dk_De_86 (fun q8 H hP hD hS => ?_)
  refine W.widen (k := 26) (n := 1071) (by decide +kernel) (by decide +kernel) ?_
  have hP : va_P D vwCl ((h0, .inr (5, [.ref q1, .ref q2, .ref q3, .ref q4, .ref q5, .ref q6, .ref q7, .int 0, .null, .int 0, .null, .null, .null, .null, .null])) :: (Y7 ++ [(q8, .inl (cy 2, 2, .inr (.inr (.inr (.inr (fun _ => none))))))])) H := hP
  have hD : va_D A ((h0, .inr (5, [.ref q1, .ref q2, .ref q3, .ref q4, .ref q5, .ref q6, .ref q7, .int 0, .null, .int 0, .null, .null, .null, .null, .null])) :: (Y7 ++ [(q8, .inl (cy 2, 2, .inr (.inr (.inr (.inr (fun _ => none))))))])) := hD
  obtain ⟨Y8, hY8⟩ : ∃ Y : va_W, Y = (Y7 ++ [(q8, .inl (cy 2, 2, .inr (.inr (.inr (.inr (fun _ => none))))))]) := ⟨_, rfl⟩
  rw [← hY8] at hP hD
  refine k_put2 X hin hP hD hS 8 kl_5_51 rfl rfl rfl dk_De_89 (fun H locs hP hD hS => ?_)
  have hP : va_P D vwCl ((h0, .inr (5, [.ref q1, .ref q2, .ref q3, .ref q4, .ref q5, .ref q6, .ref q7, .int 0, .ref q8, .int 0, .null, .null, .null, .null, .null])) :: Y8) H := hP
  have hD : va_D A ((h0, .inr (5, [.ref q1, .ref q2, .ref q3, .ref q4, .ref q5, .ref q6, .ref q7, .int 0, .ref q8, .int 0, .null, .null, .null, .null, .null])) :: Y8) := hD
  refine lv_aload_n X.1 X.2.1 dk_De_92 rfl (lv_at hl 0 rfl) ?_
  refine lv_iconst (v := 0) X.1 X.2.1 dk_De_93 (by decide) ?_
  refine k_put2 X hin hP hD hS 9 kl_5_54 rfl rfl rfl dk_De_94 (fun H locs hP hD hS => ?_)
  have hP : va_P D vwCl ((h0, .inr (5, [.ref q1, .ref q2, .ref q3, .ref q4, .ref q5, .ref q6, .ref q7, .int 0, .ref q8, .int 0, .null, .null, .null, .null, .null])) :: Y8) H := hP
  have hD : va_D A ((h0, .inr (5, [.ref q1, .ref q2, .ref q3, .ref q4, .ref q5, .ref q6, .ref q7, .int 0, .ref q8, .int 0, .null, .null, .null, .null, .null])) :: Y8) := hD
  refine lv_aload_n X.1 X.2.1 dk_De_97 rfl (lv_at hl 0 rfl) ?_
  refine k_mk (ci := 2) X c_Si_init (by decide) (mx_mem (p := 221) (by decide +kernel) rfl) kw_i2 kw_n2 kw_m2 kw_c2 (k6 := 223) (by decide) kw_f2 hP hD hS hA hl.1 (Nat.le_of_ble_eq_true rfl) ⟨(Nat.le_of_ble_eq_true rfl), (Nat.le_of_ble_eq_true rfl)⟩ ⟨(by decide +kernel), (by decide +kernel)⟩ dk_De_98 dk_De_101 dk_De_102 (fun q9 g9 H locs hP hD hS => ?_)
  refine W.widen (k := 30) (n := 1093) (by decide +kernel) (by decide +kernel) ?_
  have hP : va_P D vwCl ((h0, .inr (5, [.ref q1, .ref q2, .ref q3, .ref q4, .ref q5, .ref q6, .ref q7, .int 0, .ref q8, .int 0, .null, .null, .null, .null, .null])) :: (Y8 ++ kSi cy q9 g9)) H := hP
  have hD : va_D A ((h0, .inr (5, [.ref q1, .ref q2, .ref q3, .ref q4, .ref q5, .ref q6, .ref q7, .int 0, .ref q8, .int 0, .null, .null, .null, .null, .null])) :: (Y8 ++ kSi cy q9 g9)) := hD
  obtain ⟨Y9, hY9⟩ : ∃ Y : va_W, Y = (Y8 ++ kSi cy q9 g9) := ⟨_, rfl⟩
  rw [← hY9] at hP hD
  refine k_put2 X hin hP hD hS 10 kl_5_60 rfl rfl rfl dk_De_105 (fun H locs hP hD hS => ?_)
  have hP : va_P D vwCl ((h0, .inr (5, [.ref q1, .ref q2, .ref q3, .ref q4, .ref q5, .ref q6, .ref q7, .int 0, .ref q8, .int 0, .ref q9, .null, .null, .null, .null])) :: Y9) H := hP
  have hD : va_D A ((h0, .inr (5, [.ref q1, .ref q2, .ref q3, .ref q4, .ref q5, .ref q6, .ref q7, .int 0, .ref q8, .int 0, .ref q9, .null, .null, .null, .null])) :: Y9) := hD
  refine lv_aload_n X.1 X.2.1 dk_De_108 rfl (lv_at hl 0 rfl) ?_
  refine lv_bipush (v := 6) X.1 X.2.1 dk_De_109 (by decide) ?_
  refine k_newI X hP hD hS hA 6 (by decide +kernel) (by decide +kernel) (by decide +kernel) (by decide +kernel) (by decide +kernel) dk_De_111 (fun q10 H hP hD hS => ?_)
  refine W.widen (k := 31) (n := 1099) (by decide +kernel) (by decide +kernel) ?_
  have hP : va_P D vwCl ((h0, .inr (5, [.ref q1, .ref q2, .ref q3, .ref q4, .ref q5, .ref q6, .ref q7, .int 0, .ref q8, .int 0, .ref q9, .null, .null, .null, .null])) :: (Y9 ++ [(q10, .inl (cy 0, 6, .inl (fun _ => 0)))])) H := hP
  have hD : va_D A ((h0, .inr (5, [.ref q1, .ref q2, .ref q3, .ref q4, .ref q5, .ref q6, .ref q7, .int 0, .ref q8, .int 0, .ref q9, .null, .null, .null, .null])) :: (Y9 ++ [(q10, .inl (cy 0, 6, .inl (fun _ => 0)))])) := hD
  obtain ⟨Y10, hY10⟩ : ∃ Y : va_W, Y = (Y9 ++ [(q10, .inl (cy 0, 6, .inl (fun _ => 0)))]) := ⟨_, rfl⟩
  rw [← hY10] at hP hD
  refine k_put2 X hin hP hD hS 11 kl_5_64 rfl rfl rfl dk_De_113 (fun H locs hP hD hS => ?_)
  have hP : va_P D vwCl ((h0, .inr (5, [.ref q1, .ref q2, .ref q3, .ref q4, .ref q5, .ref q6, .ref q7, .int 0, .ref q8, .int 0, .ref q9, .ref q10, .null, .null, .null])) :: Y10) H := hP
  have hD : va_D A ((h0, .inr (5, [.ref q1, .ref q2, .ref q3, .ref q4, .ref q5, .ref q6, .ref q7, .int 0, .ref q8, .int 0, .ref q9, .ref q10, .null, .null, .null])) :: Y10) := hD
  refine lv_aload_n X.1 X.2.1 dk_De_116 rfl (lv_at hl 0 rfl) ?_
  refine lv_bipush (v := 6) X.1 X.2.1 dk_De_117 (by decide) ?_
  refine k_newI X hP hD hS hA 6 (by decide +kernel) (by decide +kernel) (by decide +kernel) (by decide +kernel) (by decide +kernel) dk_De_119 (fun q11 H hP hD hS => ?_)
  refine W.widen (k := 32) (n := 1105) (by decide +kernel) (by decide +kernel) ?_
  have hP : va_P D vwCl ((h0, .inr (5, [.ref q1, .ref q2, .ref q3, .ref q4, .ref q5, .ref q6, .ref q7, .int 0, .ref q8, .int 0, .ref q9, .ref q10, .null, .null, .null])) :: (Y10 ++ [(q11, .inl (cy 0, 6, .inl (fun _ => 0)))])) H := hP
  have hD : va_D A ((h0, .inr (5, [.ref q1, .ref q2, .ref q3, .ref q4, .ref q5, .ref q6, .ref q7, .int 0, .ref q8, .int 0, .ref q9, .ref q10, .null, .null, .null])) :: (Y10 ++ [(q11, .inl (cy 0, 6, .inl (fun _ => 0)))])) := hD
  obtain ⟨Y11, hY11⟩ : ∃ Y : va_W, Y = (Y10 ++ [(q11, .inl (cy 0, 6, .inl (fun _ => 0)))]) := ⟨_, rfl⟩
  rw [← hY11] at hP hD
  refine k_put2 X hin hP hD hS 12 kl_5_68 rfl rfl rfl dk_De_121 (fun H locs hP hD hS => ?_)
  have hP : va_P D vwCl ((h0, .inr (5, [.ref q1, .ref q2, .ref q3, .ref q4, .ref q5, .ref q6, .ref q7, .int 0, .ref q8, .int 0, .ref q9, .ref q10, .ref q11, .null, .null])) :: Y11) H := hP
  have hD : va_D A ((h0, .inr (5, [.ref q1, .ref q2, .ref q3, .ref q4, .ref q5, .ref q6, .ref q7, .int 0, .ref q8, .int 0, .ref q9, .ref q10, .ref q11, .null, .null])) :: Y11) := hD
  refine lv_aload_n X.1 X.2.1 dk_De_124 rfl (lv_at hl 0 rfl) ?_
  refine lv_bipush (v := 10) X.1 X.2.1 dk_De_125 (by decide) ?_
  refine k_newI X hP hD hS hA 10 (by decide +kernel) (by decide +kernel) (by decide +kernel) (by decide +kernel) (by decide +kernel) dk_De_127 (fun q12 H hP hD hS => ?_)
  refine W.widen (k := 33) (n := 1115) (by decide +kernel) (by decide +kernel) ?_
  have hP : va_P D vwCl ((h0, .inr (5, [.ref q1, .ref q2, .ref q3, .ref q4, .ref q5, .ref q6, .ref q7, .int 0, .ref q8, .int 0, .ref q9, .ref q10, .ref q11, .null, .null])) :: (Y11 ++ [(q12, .inl (cy 0, 10, .inl (fun _ => 0)))])) H := hP
  have hD : va_D A ((h0, .inr (5, [.ref q1, .ref q2, .ref q3, .ref q4, .ref q5, .ref q6, .ref q7, .int 0, .ref q8, .int 0, .ref q9, .ref q10, .ref q11, .null, .null])) :: (Y11 ++ [(q12, .inl (cy 0, 10, .inl (fun _ => 0)))])) := hD
  obtain ⟨Y12, hY12⟩ : ∃ Y : va_W, Y = (Y11 ++ [(q12, .inl (cy 0, 10, .inl (fun _ => 0)))]) := ⟨_, rfl⟩
  rw [← hY12] at hP hD
  refine k_put2 X hin hP hD hS 13 kl_5_71 rfl rfl rfl dk_De_129 (fun H locs hP hD hS => ?_)
  have hP : va_P D vwCl ((h0, .inr (5, [.ref q1, .ref q2, .ref q3, .ref q4, .ref q5, .ref q6, .ref q7, .int 0, .ref q8, .int 0, .ref q9, .ref q10, .ref q11, .ref q12, .null])) :: Y12) H := hP
  have hD : va_D A ((h0, .inr (5, [.ref q1, .ref q2, .ref q3, .ref q4, .ref q5, .ref q6, .ref q7, .int 0, .ref q8, .int 0, .ref q9, .ref q10, .ref q11, .ref q12, .null])) :: Y12) := hD
  refine lv_aload_n X.1 X.2.1 dk_De_132 rfl (lv_at hl 0 rfl) ?_
  refine lv_bipush (v := 63) X.1 X.2.1 dk_De_133 (by decide) ?_
  refine k_newI X hP hD hS hA 63 (by decide +kernel) (by decide +kernel) (by decide +kernel) (by decide +kernel) (by decide +kernel) dk_De_135 (fun q13 H hP hD hS => ?_)
  refine W.widen (k := 34) (n := 1178) (by decide +kernel) (by decide +kernel) ?_
  have hP : va_P D vwCl ((h0, .inr (5, [.ref q1, .ref q2, .ref q3, .ref q4, .ref q5, .ref q6, .ref q7, .int 0, .ref q8, .int 0, .ref q9, .ref q10, .ref q11, .ref q12, .null])) :: (Y12 ++ [(q13, .inl (cy 0, 63, .inl (fun _ => 0)))])) H := hP
  have hD : va_D A ((h0, .inr (5, [.ref q1, .ref q2, .ref q3, .ref q4, .ref q5, .ref q6, .ref q7, .int 0, .ref q8, .int 0, .ref q9, .ref q10, .ref q11, .ref q12, .null])) :: (Y12 ++ [(q13, .inl (cy 0, 63, .inl (fun _ => 0)))])) := hD
  obtain ⟨Y13, hY13⟩ : ∃ Y : va_W, Y = (Y12 ++ [(q13, .inl (cy 0, 63, .inl (fun _ => 0)))]) := ⟨_, rfl⟩
  rw [← hY13] at hP hD
  refine k_put2 X hin hP hD hS 14 kl_5_74 rfl rfl rfl dk_De_137 (fun H locs hP hD hS => ?_)
  have hP : va_P D vwCl ((h0, .inr (5, [.ref q1, .ref q2, .ref q3, .ref q4, .ref q5, .ref q6, .ref q7, .int 0, .ref q8, .int 0, .ref q9, .ref q10, .ref q11, .ref q12, .ref q13])) :: Y13) H := hP
  have hD : va_D A ((h0, .inr (5, [.ref q1, .ref q2, .ref q3, .ref q4, .ref q5, .ref q6, .ref q7, .int 0, .ref q8, .int 0, .ref q9, .ref q10, .ref q11, .ref q12, .ref q13])) :: Y13) := hD
  have hY : Y13 = [(q1, .inr (3, [.ref (g1 0), .ref (g1 1), .int 0, .int 0, .int (-1), .int 0, .int 0])), (g1 0, .inl (cy 0, 120, .inl (fun _ => 0))), (g1 1, .inr (1, [.ref (g1 2), .ref (g1 3), .int 3, .int 0, .int 0])), (g1 2, .inl (cy 0, 54, .inl (fun _ => 0))), (g1 3, .inl (cy 0, 63, .inl (fun _ => 0))), (q2, .inr (1, [.ref (g2 0), .ref (g2 1), .int 3, .int 0, .int 0])), (g2 0, .inl (cy 0, 54, .inl (fun _ => 0))), (g2 1, .inl (cy 0, 63, .inl (fun _ => 0))), (q3, .inr (4, [.ref (g3 0), .ref (g3 1), .ref (g3 2), .int 0])), (g3 0, .inl (cy 0, 63, .inl (fun _ => 0))), (g3 1, .inl (cy 0, 63, .inl (fun _ => 0))), (g3 2, .inl (cy 0, 63, .inl (fun _ => 0))), (q4, .inr (0, [.ref (g4 0), .ref (g4 1), .ref (g4 2)])), (g4 0, .inl (cy 0, 63, .inl (fun _ => 0))), (g4 1, .inl (cy 0, 36, .inl (fun _ => 0))), (g4 2, .inl (cy 0, 63, .inl (fun _ => 0))), (q5, .inr (0, [.ref (g5 0), .ref (g5 1), .ref (g5 2)])), (g5 0, .inl (cy 0, 63, .inl (fun _ => 0))), (g5 1, .inl (cy 0, 36, .inl (fun _ => 0))), (g5 2, .inl (cy 0, 63, .inl (fun _ => 0))), (q6, .inr (0, [.ref (g6 0), .ref (g6 1), .ref (g6 2)])), (g6 0, .inl (cy 0, 63, .inl (fun _ => 0))), (g6 1, .inl (cy 0, 36, .inl (fun _ => 0))), (g6 2, .inl (cy 0, 63, .inl (fun _ => 0))), (q7, .inl (cy 2, 10, .inr (.inr (.inr (.inr (fun _ => none)))))), (q8, .inl (cy 2, 2, .inr (.inr (.inr (.inr (fun _ => none)))))), (q9, .inr (2, [.ref (g9 0), .ref (g9 1), .ref (g9 2), .int 0])), (g9 0, .inl (cy 0, 6, .inl (fun _ => 0))), (g9 1, .inl (cy 0, 6, .inl (fun _ => 0))), (g9 2, .inl (cy 0, 6, .inl (fun _ => 0))), (q10, .inl (cy 0, 6, .inl (fun _ => 0))), (q11, .inl (cy 0, 6, .inl (fun _ => 0))), (q12, .inl (cy 0, 10, .inl (fun _ => 0))), (q13, .inl (cy 0, 63, .inl (fun _ => 0)))] := by
    subst hY13
    subst hY12
    subst hY11
    subst hY10
    subst hY9
    subst hY8
    subst hY7
    subst hY6
    subst hY5
    subst hY4
    subst hY3
    subst hY2
    subst hY1
    rfl
  rw [hY] at hP hD
  refine lv_iconst (v := nI 0) X.1 X.2.1 dk_De_140 (by decide) ?_
  refine lv_istore_n (lv' := [(1, .int (nI 0)), (0, .ref h0)]) X.1 X.2.1 dk_De_141 rfl hl (by decide) rfl (fun ls hl => ?_)
  refine lp_De1 (c0 := 34) (s0 := 1178) (Y := [(q9, .inr (2, [.ref (g9 0), .ref (g9 1), .ref (g9 2), .int 0])), (g9 0, .inl (cy 0, 6, .inl (fun _ => 0))), (g9 1, .inl (cy 0, 6, .inl (fun _ => 0))), (g9 2, .inl (cy 0, 6, .inl (fun _ => 0))), (q10, .inl (cy 0, 6, .inl (fun _ => 0))), (q11, .inl (cy 0, 6, .inl (fun _ => 0))), (q12, .inl (cy 0, 10, .inl (fun _ => 0))), (q13, .inl (cy 0, 63, .inl (fun _ => 0)))]) X rfl hA ⟨by decide, by decide⟩ ⟨by decide, by decide⟩ (fun f Ps H locs ls h1 h2 hP hD hS hl => ?_) 10 0 (fun _ => none) [] _ _ ls rfl rfl (fun i x hx => by simp at hx) hP hD hS hl
  refine lv_iconst (v := nI 0) X.1 X.2.1 dk_De_167 (by decide) ?_
  refine lv_istore_n (lv' := [(1, .int (nI 0)), (0, .ref h0)]) X.1 X.2.1 dk_De_168 rfl hl (by decide) rfl (fun ls hl => ?_)
  have ex : [(q9, .inr (2, [.ref (g9 0), .ref (g9 1), .ref (g9 2), .int 0])), (g9 0, .inl (cy 0, 6, .inl (fun _ => 0))), (g9 1, .inl (cy 0, 6, .inl (fun _ => 0))), (g9 2, .inl (cy 0, 6, .inl (fun _ => 0))), (q10, .inl (cy 0, 6, .inl (fun _ => 0))), (q11, .inl (cy 0, 6, .inl (fun _ => 0))), (q12, .inl (cy 0, 10, .inl (fun _ => 0))), (q13, .inl (cy 0, 63, .inl (fun _ => 0)))] ++ kPs cy Ps = ([(q9, .inr (2, [.ref (g9 0), .ref (g9 1), .ref (g9 2), .int 0])), (g9 0, .inl (cy 0, 6, .inl (fun _ => 0))), (g9 1, .inl (cy 0, 6, .inl (fun _ => 0))), (g9 2, .inl (cy 0, 6, .inl (fun _ => 0))), (q10, .inl (cy 0, 6, .inl (fun _ => 0))), (q11, .inl (cy 0, 6, .inl (fun _ => 0))), (q12, .inl (cy 0, 10, .inl (fun _ => 0))), (q13, .inl (cy 0, 63, .inl (fun _ => 0)))] ++ kPs cy Ps) ++ kPs cy [] := (List.append_nil _).symm
  rw [ex] at hP hD
  refine lp_De2 (c0 := 64) (s0 := 2398) (Y := [(q9, .inr (2, [.ref (g9 0), .ref (g9 1), .ref (g9 2), .int 0])), (g9 0, .inl (cy 0, 6, .inl (fun _ => 0))), (g9 1, .inl (cy 0, 6, .inl (fun _ => 0))), (g9 2, .inl (cy 0, 6, .inl (fun _ => 0))), (q10, .inl (cy 0, 6, .inl (fun _ => 0))), (q11, .inl (cy 0, 6, .inl (fun _ => 0))), (q12, .inl (cy 0, 10, .inl (fun _ => 0))), (q13, .inl (cy 0, 63, .inl (fun _ => 0)))] ++ kPs cy Ps) X rfl hA ⟨by decide, by decide⟩ ⟨by decide, by decide⟩ (fun g Qs H locs ls h3 h4 hP hD hS hl => ?_) 2 0 (fun _ => none) [] _ _ ls rfl rfl (fun i x hx => by simp at hx) hP hD hS hl
  exact fin_De X hr hlocks hl hA hZ ⟨by decide, by decide⟩ ⟨by decide, by decide⟩ h1 h2 h3 h4 hP hD hS
