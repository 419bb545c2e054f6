/-! a system is made; what holds at the start -/
theorem kw_l5 : Cond.classLink (mx_cn 7) 7 (mx_cn 5) ∈ mx_good := mx_mem (p := 98) (by decide +kernel) rfl
theorem kw_i5 : Cond.instantiable (mx_cn 5) (mx_nf 5) ∈ mx_good := mx_mem (p := 99) (by decide +kernel) rfl
theorem kw_n5 : Cond.initialized (mx_cn 5) ∈ mx_good := mx_mem (p := 87) (by decide +kernel) rfl
theorem kw_m5 : Cond.instanceMethod (kw_y (mx_cn 5)) ∈ mx_good := mx_mem (p := 101) (by decide +kernel) rfl
theorem kw_c5 : Cond.code (kw_y (mx_cn 5)) prog_1_method_1_code 2 none ∈ mx_good := mx_mem (p := 102) (by decide +kernel) rfl
theorem kw_k5 : Cond.methodLink (mx_cn 7) 9 (kw_y (mx_cn 5)) ∈ mx_good := mx_mem (p := 100) (by decide +kernel) rfl
theorem kw_f5 (j : Nat) (h : j < mx_nf 5) : defaultValue (mx_ty 5 j) = vp_V [.null, .null, .null, .null, .null, .null, .null, .int 0, .null, .int 0, .null, .null, .null, .null, .null] j := by
  have h : j < 15 := h
  match j, h with
  | 0, _ => rfl
  | 1, _ => rfl
  | 2, _ => rfl
  | 3, _ => rfl
  | 4, _ => rfl
  | 5, _ => rfl
  | 6, _ => rfl
  | 7, _ => rfl
  | 8, _ => rfl
  | 9, _ => rfl
  | 10, _ => rfl
  | 11, _ => rfl
  | 12, _ => rfl
  | 13, _ => rfl
  | 14, _ => rfl
  | k + 15, h => exact absurd h (by omega)
theorem kw_l6 : Cond.classLink (mx_cn 7) 10 (mx_cn 6) ∈ mx_good := mx_mem (p := 650) (by decide +kernel) rfl
theorem kw_i6 : Cond.instantiable (mx_cn 6) (mx_nf 6) ∈ mx_good := mx_mem (p := 651) (by decide +kernel) rfl
theorem kw_n6 : Cond.initialized (mx_cn 6) ∈ mx_good := mx_mem (p := 95) (by decide +kernel) rfl
theorem kw_m6 : Cond.instanceMethod (kw_y (mx_cn 6)) ∈ mx_good := mx_mem (p := 653) (by decide +kernel) rfl
theorem kw_c6 : Cond.code (kw_y (mx_cn 6)) prog_8_method_1_code 1 none ∈ mx_good := mx_mem (p := 654) (by decide +kernel) rfl
theorem kw_k6 : Cond.methodLink (mx_cn 7) 12 (kw_y (mx_cn 6)) ∈ mx_good := mx_mem (p := 652) (by decide +kernel) rfl
theorem kw_f6 (j : Nat) (h : j < mx_nf 6) : defaultValue (mx_ty 6 j) = vp_V [.int 0, .null, .int 0, .int 0, .int 0, .int 0, .int 0, .int 0, .int 0, .int 0, .int 0, .int 0, .null, .null, .null, .null, .int 0, .null, .null, .null, .null, .null, .int 0, .int 0, .null, .null, .null, .null, .null, .int 0, .null, .null, .int 0] j := by
  have h : j < 33 := h
  match j, h with
  | 0, _ => rfl
  | 1, _ => rfl
  | 2, _ => rfl
  | 3, _ => rfl
  | 4, _ => rfl
  | 5, _ => rfl
  | 6, _ => rfl
  | 7, _ => rfl
  | 8, _ => rfl
  | 9, _ => rfl
  | 10, _ => rfl
  | 11, _ => rfl
  | 12, _ => rfl
  | 13, _ => rfl
  | 14, _ => rfl
  | 15, _ => rfl
  | 16, _ => rfl
  | 17, _ => rfl
  | 18, _ => rfl
  | 19, _ => rfl
  | 20, _ => rfl
  | 21, _ => rfl
  | 22, _ => rfl
  | 23, _ => rfl
  | 24, _ => rfl
  | 25, _ => rfl
  | 26, _ => rfl
  | 27, _ => rfl
  | 28, _ => rfl
  | 29, _ => rfl
  | 30, _ => rfl
  | 31, _ => rfl
  | 32, _ => rfl
  | k + 33, h => exact absurd h (by omega)
theorem k_mkS {p : Program} {l : Launch} {e : Env} {R : Room} {s : State} {m : MethodId} {args : Array Value} {below : List Frame} {meth : Method} {cd : Code} {H : Heap} {locs : List Loc} {cells slots : Nat} {Q : State → Prop} {own nL pc : Nat} {cc : ByteArray} {ls : Array Slot} {rest : List Value} {D : va_G} {cy : Nat → ClassId} {A : Nat → Prop} {Y : va_W} {sy ci i1 i2 nLc tO : Nat} {icd : ByteArray} {fs : List Value} {rm : Room} {I : mx_M → Prop} (X : kx_X own cc nL D cy p s m args cd) (hM : kx_Sy sy ci icd nLc fs rm I) (h7 : ci < 7)
    (w1 : Cond.classLink (mx_cn own) i1 (mx_cn ci) ∈ mx_good) (w2 : Cond.instantiable (mx_cn ci) (mx_nf ci) ∈ mx_good) (w3 : Cond.initialized (mx_cn ci) ∈ mx_good) (w4 : Cond.instanceMethod (kw_y (mx_cn ci)) ∈ mx_good) (w5 : Cond.code (kw_y (mx_cn ci)) icd nLc none ∈ mx_good) (w6 : Cond.methodLink (mx_cn own) i2 (kw_y (mx_cn ci)) ∈ mx_good)
    (hfs : ∀ j, j < mx_nf ci → defaultValue (mx_ty ci j) = vp_V fs j) (hP : va_P D vwCl Y H) (hD : va_D A Y) (hS : va_S A s.heap H locs) (hA : ∀ q, s.heap.size ≤ q → A q) (hZ : mx_Z tO A s s.heap) (hl : ls.size = nL) (hrs : (rest.map fun v => v.category).sum ≤ 7) (hR : rm.frames + 1 ≤ R.frames ∧ 8 + (nLc + 11) + rm.locals ≤ R.locals) (hcs : cells + 1 + rm.cells ≤ R.cells ∧ slots + mx_nf ci + rm.slots ≤ R.slots)
    (d1 : decode cc pc = .ok (.new i1, 3)) (d2 : decode cc (pc + 3) = .ok (.dup, 1)) (d3 : decode cc (pc + 4) = .ok (.invokespecial i2, 3))
    (kk : ∀ (q : Nat) (ad : Nat → Nat) (c : mx_M) (H1 : Heap) (locs1 : List Loc), ad 0 = q → ad 1000 = tO → mx_inj sy ad → (∀ i, i < mx_N sy → A (ad i)) → (∀ i, i < mx_N sy → ∀ (k : Nat) (x : Nat × va_E), Y[k]? = some x → ad i ≠ x.1) → I c → va_P D vwCl Y H1 → va_P D vwCl (mx_W sy cy ad c) H1 → va_S A s.heap H1 locs1 → W p l e R s m args below meth cd H1 locs1 (cells + 1 + rm.cells) (slots + mx_nf ci + rm.slots) Q (F0 m (pc + 7) ls (.ref q :: rest))) : W p l e R s m args below meth cd H locs cells slots Q (F0 m pc ls rest) := by
  obtain ⟨hc, hc1, hty, hnm⟩ := mx_cl7 ci h7
  refine va_new (ci := ci) (fs := fs) (C := mx_cn ci) (T := mx_T ci) (N := mx_nf ci) X.1 X.2.1 X.2.2.2.2.1 (mx_inG ci _ hc) (mx_ty ci) hty X.2.2.2.1 (kx_ts X w1) (kx_ts X w2) (kx_ts X w3) (kx_K X) hP hD hS hA hc hfs (by omega) (by omega) d1 (fun q H1 hP1 hD1 hS1 => ?_)
  refine lv_dup X.1 X.2.1 d2 rfl ?_
  have hq : (Y ++ [(q, (.inr (ci, fs) : va_E))])[Y.length]? = some (q, .inr (ci, fs)) := by
    rw [List.getElem?_append_right (Nat.le_refl _), Nat.sub_self]
    rfl
  have hPc : va_P D vwCl [(q, .inr (ci, fs))] H1 := by
    intro k x hk
    have hz : k < 1 := (List.getElem?_eq_some_iff.mp hk).1
    rw [show k = 0 by omega] at hk
    cases hk
    exact hP1 Y.length _ hq
  have hC : [Y.length].map (fun i => (Y ++ [(q, (.inr (ci, fs) : va_E))])[i]?) = [(q, (.inr (ci, fs) : va_E))].map some := by
    show [(Y ++ [(q, (.inr (ci, fs) : va_E))])[Y.length]?] = _
    rw [hq]
    rfl
  have hFc := va_free (wc := [(q, .inr (ci, fs))]) hD1 hS1 hA [Y.length] hC
  have hZ1 : mx_Z tO (va_A [(q, .inr (ci, fs))] H1.size) s H1 := ⟨(hZ.1.kept hS1.2.1).narrow hFc, (hZ.2.kept hS1.2.1).narrow hFc⟩
  refine va_callv (va_runI (As := []) (rest := .ref q :: rest) (n := 0) (kx_fix X) (hM l D cy q tO H1.size) ⟨callB_of 0 X.2.2.2.2.1 (kx_goodIn w5) rfl rfl rfl (kx_ts X w3) (kx_ts X w6) ⟨(kx_cn7 ci h7).1, (kx_cn7 ci h7).2, by show (parseMethodDescriptor "()V").map (fun d => d.parameters.length) = some 0; decide +kernel⟩ hR, rfl, kx_ts X w4⟩ ⟨fun a U g mk q => ⟨q.1, q.2.1, q.2.2.1, kx_Tcall a g mk q.2.2.2.1, q.2.2.2.2.1.moved (U := U.calling g mk a) (Vm.Alike.refl U.vm), q.2.2.2.2.2.moved (U := U.calling g mk a) (Vm.Alike.refl U.vm)⟩, fun U hU hW => ⟨rfl, by rw [hU], by rw [hU]; exact hPc, kx_Twarm hW X.2.2.2.2.2, by rw [hU]; exact ⟨hZ1.1.moved hW.alike, hZ1.2.moved hW.alike⟩⟩⟩ rfl rfl hl rfl (lv_room (by simp only [List.map_cons, List.sum_cons]; have : (Value.ref q).category = 1 := rfl; omega)) d3 ⟨hcs.1, hcs.2⟩) hS1 (fun q _ h => hFc q h) hFc (fun u t H2 locs2 ht hvm hw hB hz hk hS2 => ?_)
  obtain ⟨u0, u1, hinj, hAd, hI⟩ := hw
  rw [ht] at hB
  have hY : ∀ (k : Nat) (x : Nat × va_E), Y[k]? = some x → (Y ++ [(q, (.inr (ci, fs) : va_E))])[k]? = some x := fun k x hx => by
    rw [List.getElem?_append_left (List.getElem?_eq_some_iff.mp hx).1]
    exact hx
  have out : ∀ (k : Nat) (x : Nat × va_E), Y[k]? = some x → x.1 < H1.size ∧ ¬ va_A [(q, .inr (ci, fs))] H1.size x.1 := by
    intro k x hx
    have hlt := (hP1 k x (hY k x hx)).lt
    refine ⟨hlt, fun h => ?_⟩
    rcases h with ⟨k2, e2, h2⟩ | h2
    · have hz : k2 < 1 := (List.getElem?_eq_some_iff.mp h2).1
      rw [show k2 = 0 by omega] at h2
      cases h2
      have := hD1.1 k Y.length x _ (hY k x hx) hq rfl
      have hlk := (List.getElem?_eq_some_iff.mp hx).1
      omega
    · omega
  exact kk q u.1 u.2 H2 locs2 u0 u1 hinj (fun i hi => hFc _ (hAd i hi)) (fun i hi k x hx e => (out k x hx).2 (by rw [← e]; exact hAd i hi)) hI (fun k x hx => (hP1 k x (hY k x hx)).kept (hk _ (out k x hx).1 (out k x hx).2)) hB hS2
theorem kx_D_of {sy : Nat} {cy : Nat → ClassId} {ad : Nat → Nat} {c : mx_M} {A : Nat → Prop} (h : mx_inj sy ad) (hA : ∀ i, i < mx_N sy → A (ad i)) : va_D A (mx_W sy cy ad c) := by
  refine ⟨fun i j x y hi hj e => ?_, fun k x hk => ?_⟩
  · obtain ⟨li, rfl⟩ := mx_W_inv hi
    obtain ⟨lj, rfl⟩ := mx_W_inv hj
    exact h i j li lj e
  · obtain ⟨lk, rfl⟩ := mx_W_inv hk
    exact hA k lk
theorem kx_inst : ∀ ci, ci < 7 → Cond.instantiable (mx_cn ci) (mx_nf ci) ∈ mx_good := by
  intro ci h
  match ci, h with
  | 0, _ => exact kw_i0
  | 1, _ => exact kw_i1
  | 2, _ => exact kw_i2
  | 3, _ => exact kw_i3
  | 4, _ => exact kw_i4
  | 5, _ => exact kw_i5
  | 6, _ => exact kw_i6
  | k + 7, h => exact absurd h (by omega)
/-- the tables' words, out of the start's -/
theorem kx_start {s : State} {args : Array Value} (hts : ∀ w ∈ lw_tbl, w.before args s = true) : ∃ (D : va_G) (cy : Nat → ClassId), kx_T D cy s := by
  have hg : ∀ w ∈ mx_good, w.before args s = true := fun w hw => hts w (List.mem_filter.mp hw).1
  have hk : ∀ ci : Nat, ∃ x : ClassId × (Nat → Nat), ci < 7 → u_Kn s (mx_cn ci) (mx_T ci) (mx_nf ci) x.1 x.2 := by
    intro ci
    by_cases h : ci < 7
    · obtain ⟨cC, iS, h1⟩ := u_known (C := mx_cn ci) (T := mx_T ci) (N := mx_nf ci) (n := mx_nf ci) hg (mx_inG ci _ (mx_cl7 ci h).1) (hg _ (kx_inst ci h))
      exact ⟨(cC, iS), fun _ => h1⟩
    · exact ⟨(0, fun _ => 0), fun h2 => absurd h2 h⟩
  obtain ⟨D, hD⟩ : ∃ D : va_G, ∀ ci, ci < 7 → u_Kn s (mx_cn ci) (mx_T ci) (mx_nf ci) (D.1 ci) (D.2 ci) := ⟨(fun ci => (Classical.choose (hk ci)).1, fun ci => (Classical.choose (hk ci)).2), fun ci h => Classical.choose_spec (hk ci) h⟩
  have hi : (Cond.arrayClass .int).before args s = true := hg _ (mx_mem (p := 147) (by decide +kernel) rfl)
  have hz : (Cond.arrayClass .boolean).before args s = true := hg _ (mx_mem (p := 788) (by decide +kernel) rfl)
  have hao : (Cond.arrayOver (.object "MotionDesk$Picture")).before args s = true := hts _ (List.mem_of_getElem? (i := 220) (by decide +kernel))
  obtain ⟨c0, k0, m0, a1, a2, a3⟩ := Cond.arrayClass_spec hi
  obtain ⟨c1, k1, m1, b1, b2, b3⟩ := Cond.arrayClass_spec hz
  obtain ⟨m2, c2, k2, g1, g2, g3, g4, g5⟩ := Cond.arrayOver_spec hao
  refine ⟨D, fun i => match i with
    | 0 => c0
    | 1 => c1
    | _ => c2, ?_, ?_, ⟨?_, ?_⟩, va_AO.of hao⟩
  · intro w hw
    refine va_Nw.of (mx_nest_on w hw) (hts w ?_)
    rcases List.mem_append.mp hw with h | h
    · obtain ⟨e, he, rfl⟩ := List.mem_map.mp h
      exact List.mem_of_getElem? (of_decide_eq_true (List.all_eq_true.mp mx_flN_ok e he))
    · obtain ⟨e, he, rfl⟩ := List.mem_map.mp h
      exact List.mem_of_getElem? (of_decide_eq_true (List.all_eq_true.mp mx_mlN_ok e he))
  · intro e he
    exact va_Nw.of rfl (hts _ (List.mem_of_getElem? (of_decide_eq_true (List.all_eq_true.mp kw_inits_ok e he))))
  · intro c q hq
    have h7 : c < 7 := (List.getElem?_eq_some_iff.mp hq).1
    have e := (mx_cl7 c h7).1
    rw [hq] at e
    cases e
    exact hD c h7
  · intro k q hq
    have h3 : k < 3 := (List.getElem?_eq_some_iff.mp hq).1
    match k, h3 with
    | 0, _ =>
      cases hq
      exact ⟨fun n z => ⟨fun k h => (by cases h), k0, a2, m0, a3⟩, a1⟩
    | 1, _ =>
      cases hq
      exact ⟨fun n z => ⟨fun k h => (by cases h), k1, b2, m1, b3⟩, b1⟩
    | 2, _ =>
      cases hq
      exact ⟨fun n z => ⟨fun k h => (by cases h), k2, g3, m2, g4⟩, k2, m2, g3, g4, g1, g5⟩
    | j + 3, h => exact absurd h (by omega)
/-- the static row, out of the start's -/
theorem kx_stat {s : State} {args : Array Value} (hts : ∀ w ∈ lw_tbl, w.before args s = true) (hgv : (Jvm.Cond.and given_1 narrow_1).before args s = true) : ∃ t : Nat, mx_Z t (fun q => s.heap.size ≤ q) s s.heap := by
  have hs := flat_of_before _ hgv
  have hA : ∀ a : Nat, a < s.heap.size → ¬ (fun q => s.heap.size ≤ q) a := fun a h => Nat.not_le.mpr h
  have harr : (Cond.arrayOf (.static "MotionDesk" "ORDERS" "[I") .int).before args s = true := hs _ (by decide +kernel)
  have hlen : (Cond.eq (.length (.static "MotionDesk" "ORDERS" "[I")) (.int 7)).before args s = true := hs _ (by decide +kernel)
  have h0 : (Cond.eq (.elem (.static "MotionDesk" "ORDERS" "[I") (.int 0)) (.int 1)).before args s = true := hs _ (by decide +kernel)
  have h1 : (Cond.eq (.elem (.static "MotionDesk" "ORDERS" "[I") (.int 1)) (.int 1)).before args s = true := hs _ (by decide +kernel)
  have h2 : (Cond.eq (.elem (.static "MotionDesk" "ORDERS" "[I") (.int 2)) (.int 2)).before args s = true := hs _ (by decide +kernel)
  have h3 : (Cond.eq (.elem (.static "MotionDesk" "ORDERS" "[I") (.int 3)) (.int 6)).before args s = true := hs _ (by decide +kernel)
  have h4 : (Cond.eq (.elem (.static "MotionDesk" "ORDERS" "[I") (.int 4)) (.int 24)).before args s = true := hs _ (by decide +kernel)
  have h5 : (Cond.eq (.elem (.static "MotionDesk" "ORDERS" "[I") (.int 5)) (.int 120)).before args s = true := hs _ (by decide +kernel)
  have h6 : (Cond.eq (.elem (.static "MotionDesk" "ORDERS" "[I") (.int 6)) (.int 720)).before args s = true := hs _ (by decide +kernel)
  obtain ⟨t, ht, hT⟩ := va_Tof (N := 7) (f := fun j => .int (mx_ord j)) (by decide) harr (va_eqt hlen) (fun j hj => by
    match j, hj with
    | 0, _ => exact va_eqt h0
    | 1, _ => exact va_eqt h1
    | 2, _ => exact va_eqt h2
    | 3, _ => exact va_eqt h3
    | 4, _ => exact va_eqt h4
    | 5, _ => exact va_eqt h5
    | 6, _ => exact va_eqt h6
    | k + 7, h => exact absurd h (by omega)) hA
  exact ⟨t, va_Zof (hts _ (List.mem_of_getElem? (i := 249) (by decide +kernel))) (hts _ (List.mem_of_getElem? (i := 87) (by decide +kernel))) ht hA, hT⟩
