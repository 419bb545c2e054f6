/-! the rules: links, locals, each instruction -/
theorem mx_mem {p : Nat} {w : Cond} (h : lw_tbl[p]? = some w) (hg : goodWord w = true) : w ∈ mx_good := List.mem_filter.mpr ⟨List.mem_of_getElem? h, hg⟩
theorem mx_flP_mem {own idx a b : Nat} (h : mx_inF mx_flP own idx a b = true) : Cond.fieldLink (mx_cn own) idx (mx_cn a) (mx_T a b).2.1 (mx_T a b).2.2.1 ∈ mx_good := by
  obtain ⟨e, he, hq⟩ := List.any_eq_true.mp h
  have h1 := of_decide_eq_true (List.all_eq_true.mp mx_flP_ok e he)
  simp only [Bool.and_eq_true, beq_iff_eq] at hq
  obtain ⟨⟨⟨rfl, rfl⟩, rfl⟩, rfl⟩ := hq
  exact mx_mem h1 rfl
theorem mx_flN_mem {own idx a b : Nat} (h : mx_inF mx_flN own idx a b = true) : Cond.fieldLinkNest (mx_cn own) idx (mx_cn a) (mx_T a b).2.1 (mx_T a b).2.2.1 "MotionDesk" ∈ mx_nest := by
  obtain ⟨e, he, hq⟩ := List.any_eq_true.mp h
  simp only [Bool.and_eq_true, beq_iff_eq] at hq
  obtain ⟨⟨⟨rfl, rfl⟩, rfl⟩, rfl⟩ := hq
  exact List.mem_append_left _ (List.mem_map.mpr ⟨e, he, rfl⟩)
theorem mx_mlP_mem {own idx a : Nat} (h : mx_inM mx_mlP own idx a = true) : Cond.methodLink (mx_cn own) idx (mx_y a) ∈ mx_good := by
  obtain ⟨e, he, hq⟩ := List.any_eq_true.mp h
  have h1 := of_decide_eq_true (List.all_eq_true.mp mx_mlP_ok e he)
  simp only [Bool.and_eq_true, beq_iff_eq] at hq
  obtain ⟨⟨rfl, rfl⟩, rfl⟩ := hq
  exact mx_mem h1 rfl
theorem mx_mlN_mem {own idx a : Nat} (h : mx_inM mx_mlN own idx a = true) : Cond.methodLinkNest (mx_cn own) idx (mx_y a) "MotionDesk" ∈ mx_nest := by
  obtain ⟨e, he, hq⟩ := List.any_eq_true.mp h
  simp only [Bool.and_eq_true, beq_iff_eq] at hq
  obtain ⟨⟨rfl, rfl⟩, rfl⟩ := hq
  exact List.mem_append_right _ (List.mem_map.mpr ⟨e, he, rfl⟩)
theorem mx_inG (ci : Nat) (q : vw_C) (h : vwCl[ci]? = some q) : ∀ w ∈ u_ws q.1 q.2.1 q.2.2, w ∈ mx_good := by
  match ci, h with
  | 0, h => cases h; exact fun w hw => List.mem_filter.mpr ⟨inX0 w hw, List.all_eq_true.mp (show (u_ws RX0 TX0 3).all goodWord = true by decide +kernel) w hw⟩
  | 1, h => cases h; exact fun w hw => List.mem_filter.mpr ⟨inX1 w hw, List.all_eq_true.mp (show (u_ws RX1 TX1 5).all goodWord = true by decide +kernel) w hw⟩
  | 2, h => cases h; exact fun w hw => List.mem_filter.mpr ⟨inX2 w hw, List.all_eq_true.mp (show (u_ws RX2 TX2 4).all goodWord = true by decide +kernel) w hw⟩
  | 3, h => cases h; exact fun w hw => List.mem_filter.mpr ⟨inX3 w hw, List.all_eq_true.mp (show (u_ws RX3 TX3 7).all goodWord = true by decide +kernel) w hw⟩
  | 4, h => cases h; exact fun w hw => List.mem_filter.mpr ⟨inX4 w hw, List.all_eq_true.mp (show (u_ws RX4 TX4 4).all goodWord = true by decide +kernel) w hw⟩
  | 5, h => cases h; exact fun w hw => List.mem_filter.mpr ⟨inX5 w hw, List.all_eq_true.mp (show (u_ws RX5 TX5 15).all goodWord = true by decide +kernel) w hw⟩
  | 6, h => cases h; exact fun w hw => List.mem_filter.mpr ⟨inX6 w hw, List.all_eq_true.mp (show (u_ws RX6 TX6 33).all goodWord = true by decide +kernel) w hw⟩
  | k + 7, h => simp [vwCl] at h
/-- a class by its number: how many fields, their types -/
def mx_nf (ci : Nat) : Nat := match ci with
  | 0 => 3
  | 1 => 5
  | 2 => 4
  | 3 => 7
  | 4 => 4
  | 5 => 15
  | _ => 33
def mx_ty (ci : Nat) : Nat → FieldType := match ci with
  | 0 => tyX0
  | 1 => tyX1
  | 2 => tyX2
  | 3 => tyX3
  | 4 => tyX4
  | 5 => tyX5
  | _ => tyX6
theorem mx_cl7 (ci : Nat) (h : ci < 7) : vwCl[ci]? = some (mx_cn ci, mx_T ci, mx_nf ci) ∧ (∀ k, k < mx_nf ci → (mx_T ci k).1 = mx_cn ci) ∧ (∀ k, k < mx_nf ci → parseFieldDescriptor (mx_T ci k).2.2.1 = some (mx_ty ci k)) ∧ (∀ a, a < mx_nf ci → ∀ b, b < mx_nf ci → a ≠ b → (mx_T ci a).2.1 ≠ (mx_T ci b).2.1) := by
  match ci, h with
  | 0, _ => exact ⟨rfl, by decide +kernel, tyX0_ok, nmX0⟩
  | 1, _ => exact ⟨rfl, by decide +kernel, tyX1_ok, nmX1⟩
  | 2, _ => exact ⟨rfl, by decide +kernel, tyX2_ok, nmX2⟩
  | 3, _ => exact ⟨rfl, by decide +kernel, tyX3_ok, nmX3⟩
  | 4, _ => exact ⟨rfl, by decide +kernel, tyX4_ok, nmX4⟩
  | 5, _ => exact ⟨rfl, by decide +kernel, tyX5_ok, nmX5⟩
  | 6, _ => exact ⟨rfl, by decide +kernel, tyX6_ok, nmX6⟩
  | k + 7, h => exact absurd h (by omega)
/-- the shapes are those of the classes -/
def mx_shk (sy i : Nat) : Bool := match mx_sh sy i with
  | .inl (ci, fs) => decide (ci < 7) && fs.length == mx_nf ci && (List.range fs.length).all (fun k => match fs[k]? with | some none => decide (mx_ty ci k = .int) | _ => true)
  | .inr _ => true
theorem mx_sh_ok0 : (List.range 71).all (mx_shk 0) = true := by decide +kernel
theorem mx_sh_ok1 : (List.range 18).all (mx_shk 1) = true := by decide +kernel
theorem mx_sh_obj {sy i ci : Nat} {fs : List (Option Nat)} (hi : i < mx_N sy) (h : mx_sh sy i = .inl (ci, fs)) : ci < 7 ∧ fs.length = mx_nf ci ∧ ∀ k, fs[k]? = some none → mx_ty ci k = .int := by
  have hk : mx_shk sy i = true := by
    match sy, hi with
    | 0, hi => exact List.all_eq_true.mp mx_sh_ok0 i (List.mem_range.mpr hi)
    | k + 1, hi => exact List.all_eq_true.mp mx_sh_ok1 i (List.mem_range.mpr hi)
  unfold mx_shk at hk
  rw [h] at hk
  simp only [Bool.and_eq_true, decide_eq_true_eq, beq_iff_eq] at hk
  refine ⟨hk.1.1, hk.1.2, fun k hf => ?_⟩
  have h2 := List.all_eq_true.mp hk.2 k (List.mem_range.mpr (List.getElem?_eq_some_iff.mp hf).1)
  rw [hf] at h2
  simpa using h2
-- locals
def mx_lv (ad : Nat → Nat) (ls : List Value) : List (Nat × Value) := (List.range ls.length).filterMap (fun k => match ls[k]? with
  | some v => if v = .null then none else some (k, mx_tv ad v)
  | none => none)
theorem mx_lv_mem {ad : Nat → Nat} {ls : List Value} {k : Nat} {v : Value} (h : ls[k]? = some v) (hn : v ≠ .null) : (k, mx_tv ad v) ∈ mx_lv ad ls := by
  refine List.mem_filterMap.mpr ⟨k, List.mem_range.mpr (List.getElem?_eq_some_iff.mp h).1, ?_⟩
  rw [h]
  simp [hn]
theorem mx_lv_inv {ad : Nat → Nat} {ls : List Value} {q : Nat × Value} (h : q ∈ mx_lv ad ls) : ∃ v, ls[q.1]? = some v ∧ v ≠ .null ∧ q.2 = mx_tv ad v := by
  obtain ⟨k, -, hk⟩ := List.mem_filterMap.mp h
  cases hv : ls[k]? with
  | none => rw [hv] at hk; cases hk
  | some v =>
    rw [hv] at hk
    by_cases hn : v = .null
    · simp [hn] at hk
    · simp only [hn, if_false] at hk
      cases hk
      exact ⟨v, hv, hn, rfl⟩
theorem mx_L.has {ad : Nat → Nat} {lsA : Array Slot} {nL : Nat} {ls : List Value} (h : mx_L ad lsA nL ls) : lv_has lsA nL (mx_lv ad ls) := by
  refine ⟨h.1, h.2.1, fun q hq => ?_⟩
  obtain ⟨v, h1, h2, h3⟩ := mx_lv_inv hq
  rw [h.2.2.2 q.1 v h1 h2, h3]
theorem mx_tv_cat (ad : Nat → Nat) (v : Value) : (mx_tv ad v).category = v.category := by cases v <;> rfl
theorem mx_cl_len (ls : List Value) (i : Nat) : (mx_cl ls i).length = ls.length := by
  unfold mx_cl
  split
  · rfl
  · split
    · rename_i v _
      cases v.category == 2 <;> simp
    · rfl
theorem mx_cl_at {ls : List Value} {i k : Nat} {w : Value} (h : (mx_cl ls i)[k]? = some w) (hw : w ≠ .null) : ls[k]? = some w ∧ ¬ (k + 1 = i ∧ w.category = 2) := by
  unfold mx_cl at h
  split at h
  · exact ⟨h, by omega⟩
  · rename_i i
    split at h
    · rename_i v hv
      cases hc : v.category == 2 with
      | true =>
        rw [hc] at h
        have h : (ls.set i .null)[k]? = some w := h
        by_cases e : k = i
        · subst e
          rw [List.getElem?_set_self (List.getElem?_eq_some_iff.mp hv).1] at h
          cases h
          exact absurd rfl hw
        · rw [List.getElem?_set_ne (Ne.symm e)] at h
          exact ⟨h, by omega⟩
      | false =>
        rw [hc] at h
        have h0 : ls[k]? = some w := h
        clear h
        refine ⟨h0, fun q => ?_⟩
        have e : k = i := by omega
        rw [e, hv] at h0
        cases h0
        simp [q.2] at hc
    · rename_i hv
      refine ⟨h, fun q => ?_⟩
      have e : k = i := by omega
      rw [e, hv] at h
      cases h
theorem mx_L_s1 {ad : Nat → Nat} {lsA : Array Slot} {nL i : Nat} {ls : List Value} {v : Value} (hlen : ls.length = nL) (hi : i < nL) (h : lv_has lsA nL ((i, mx_tv ad v) :: (mx_lv ad ls).filter (fun q => !(q.1 == i) && !(q.1 + 1 == i && q.2.category == 2)))) : mx_L ad lsA nL (mx_s1 ls i v) := by
  refine ⟨h.1, h.2.1, by unfold mx_s1; rw [List.length_set, mx_cl_len, hlen], fun k w hk hw => ?_⟩
  unfold mx_s1 at hk
  by_cases e : k = i
  · subst e
    rw [List.getElem?_set_self (by rw [mx_cl_len]; omega)] at hk
    cases hk
    exact h.2.2 (k, mx_tv ad v) List.mem_cons_self
  · rw [List.getElem?_set_ne (Ne.symm e)] at hk
    obtain ⟨h1, h2⟩ := mx_cl_at hk hw
    refine h.2.2 (k, mx_tv ad w) (List.mem_cons_of_mem _ (List.mem_filter.mpr ⟨mx_lv_mem h1 hw, ?_⟩))
    simp only [mx_tv_cat, Bool.and_eq_true, Bool.not_eq_true', beq_eq_false_iff_ne, ne_eq, Bool.and_eq_false_iff]
    refine ⟨e, ?_⟩
    by_cases q : k + 1 = i
    · exact Or.inr (fun z => h2 ⟨q, z⟩)
    · exact Or.inl q
theorem mx_L_s2 {ad : Nat → Nat} {lsA : Array Slot} {nL i : Nat} {ls : List Value} {v : Value} (hlen : ls.length = nL) (hi : i + 1 < nL) (h : lv_has lsA nL ((i, mx_tv ad v) :: (mx_lv ad ls).filter (fun q => !(q.1 == i) && (!(q.1 == i + 1) && !(q.1 + 1 == i && q.2.category == 2))))) : mx_L ad lsA nL (mx_s2 ls i v) := by
  refine ⟨h.1, h.2.1, by unfold mx_s2; rw [List.length_set, List.length_set, mx_cl_len, hlen], fun k w hk hw => ?_⟩
  unfold mx_s2 at hk
  by_cases e1 : k = i + 1
  · subst e1
    rw [List.getElem?_set_self (by rw [List.length_set, mx_cl_len]; omega)] at hk
    cases hk
    exact absurd rfl hw
  rw [List.getElem?_set_ne (Ne.symm e1)] at hk
  by_cases e : k = i
  · subst e
    rw [List.getElem?_set_self (by rw [mx_cl_len]; omega)] at hk
    cases hk
    exact h.2.2 (k, mx_tv ad v) List.mem_cons_self
  · rw [List.getElem?_set_ne (Ne.symm e)] at hk
    obtain ⟨h1, h2⟩ := mx_cl_at hk hw
    refine h.2.2 (k, mx_tv ad w) (List.mem_cons_of_mem _ (List.mem_filter.mpr ⟨mx_lv_mem h1 hw, ?_⟩))
    simp only [mx_tv_cat, Bool.and_eq_true, Bool.not_eq_true', beq_eq_false_iff_ne, ne_eq, Bool.and_eq_false_iff]
    refine ⟨e, e1, ?_⟩
    by_cases q : k + 1 = i
    · exact Or.inr (fun z => h2 ⟨q, z⟩)
    · exact Or.inl q
theorem mx_gen {mi pc nx a b : Nat} {x : Int32} {ins : Instr} (h : (mx_dc mi pc ins && mx_nx mi pc ins nx && mx_ex mi ins a b x) = true) : decode (mx_code mi) pc = .ok (ins, mx_len ins) ∧ mx_pc mi nx = pc + mx_len ins ∧ mx_ex mi ins a b x = true := by
  simp only [Bool.and_eq_true] at h
  exact ⟨of_decide_eq_true h.1.1, by have := h.1.2; unfold mx_nx at this; exact beq_iff_eq.mp this, h.2⟩
def mx_all : List Prop → Prop
  | [] => True
  | p :: r => p ∧ mx_all r
theorem mx_all_app {a b : List Prop} (h : mx_all (a ++ b)) : mx_all a ∧ mx_all b := by
  induction a with
  | nil => exact ⟨trivial, h⟩
  | cons p r ih => exact ⟨⟨h.1, (ih h.2).1⟩, (ih h.2).2⟩
section RULES
variable {sy d mi j pc nx a b : Nat} {v : Int32} {Q : Option Value → mx_M → Prop} {ls st : List Value} {c : mx_M} {Ps : List Prop} {j' : Nat} {ls' st' : List Value} {c' : mx_M}

theorem mx_e_iconst {n : Int} (hr : mx_ft mi j = some (pc, (.iconst n), nx, a, b, v)) (hs : mx_step sy (.iconst n) nx a b v ls st c = some (Ps, j', ls', st', c')) (hP0 : mx_all Ps) (k : mx_E sy d mi Q j' ls' st' c') : mx_E sy d mi Q j ls st c := by
  obtain ⟨hck, hpc⟩ := mx_ft_ck hr
  obtain ⟨hdc, hnx, hex⟩ := mx_gen (ins := (.iconst n)) hck
  cases hs
  intro l D cy ad p e s m args below meth cd H locs lsA C hP hS hL
  rw [hpc]
  refine lv_iconst C.1 C.2.1 hdc (of_decide_eq_true hex) ?_
  have z := k l D cy ad p e s m args below meth cd H locs lsA C hP hS hL
  rw [hnx] at z
  exact z
theorem mx_e_bipush {n : Int} (hr : mx_ft mi j = some (pc, (.bipush n), nx, a, b, v)) (hs : mx_step sy (.bipush n) nx a b v ls st c = some (Ps, j', ls', st', c')) (hP0 : mx_all Ps) (k : mx_E sy d mi Q j' ls' st' c') : mx_E sy d mi Q j ls st c := by
  obtain ⟨hck, hpc⟩ := mx_ft_ck hr
  obtain ⟨hdc, hnx, hex⟩ := mx_gen (ins := (.bipush n)) hck
  cases hs
  intro l D cy ad p e s m args below meth cd H locs lsA C hP hS hL
  rw [hpc]
  refine lv_bipush C.1 C.2.1 hdc (of_decide_eq_true hex) ?_
  have z := k l D cy ad p e s m args below meth cd H locs lsA C hP hS hL
  rw [hnx] at z
  exact z
theorem mx_e_sipush {n : Int} (hr : mx_ft mi j = some (pc, (.sipush n), nx, a, b, v)) (hs : mx_step sy (.sipush n) nx a b v ls st c = some (Ps, j', ls', st', c')) (hP0 : mx_all Ps) (k : mx_E sy d mi Q j' ls' st' c') : mx_E sy d mi Q j ls st c := by
  obtain ⟨hck, hpc⟩ := mx_ft_ck hr
  obtain ⟨hdc, hnx, hex⟩ := mx_gen (ins := (.sipush n)) hck
  cases hs
  intro l D cy ad p e s m args below meth cd H locs lsA C hP hS hL
  rw [hpc]
  refine lv_sipush C.1 C.2.1 hdc (of_decide_eq_true hex) ?_
  have z := k l D cy ad p e s m args below meth cd H locs lsA C hP hS hL
  rw [hnx] at z
  exact z
theorem mx_e_lconst {n : Fin 2} (hr : mx_ft mi j = some (pc, (.lconst n), nx, a, b, v)) (hs : mx_step sy (.lconst n) nx a b v ls st c = some (Ps, j', ls', st', c')) (hP0 : mx_all Ps) (k : mx_E sy d mi Q j' ls' st' c') : mx_E sy d mi Q j ls st c := by
  obtain ⟨hck, hpc⟩ := mx_ft_ck hr
  obtain ⟨hdc, hnx, hex⟩ := mx_gen (ins := (.lconst n)) hck
  cases hs
  intro l D cy ad p e s m args below meth cd H locs lsA C hP hS hL
  rw [hpc]
  have hn : (n : Nat) = a := beq_iff_eq.mp hex
  refine lv_lconst C.1 C.2.1 hdc (by rw [hn]) ?_
  have z := k l D cy ad p e s m args below meth cd H locs lsA C hP hS hL
  rw [hnx] at z
  exact z
theorem mx_e_ldc_w {n : Nat} (hr : mx_ft mi j = some (pc, (.ldc_w n), nx, a, b, v)) (hs : mx_step sy (.ldc_w n) nx a b v ls st c = some (Ps, j', ls', st', c')) (hP0 : mx_all Ps) (k : mx_E sy d mi Q j' ls' st' c') : mx_E sy d mi Q j ls st c := by
  obtain ⟨hck, hpc⟩ := mx_ft_ck hr
  obtain ⟨hdc, hnx, hex⟩ := mx_gen (ins := (.ldc_w n)) hck
  cases hs
  intro l D cy ad p e s m args below meth cd H locs lsA C hP hS hL
  rw [hpc]
  obtain ⟨e0, he, hq⟩ := List.any_eq_true.mp hex
  have h1 := of_decide_eq_true (List.all_eq_true.mp mx_csl_ok e0 he)
  simp only [Bool.and_eq_true, beq_iff_eq, decide_eq_true_eq] at hq
  rw [hq.1.1, hq.1.2, hq.2] at h1
  refine lv_ldcw C.1 C.2.1 C.2.2.2.2.1 (C.2.2.2.2.2.1 _ (mx_mem h1 rfl)) hdc ?_
  have z := k l D cy ad p e s m args below meth cd H locs lsA C hP hS hL
  rw [hnx] at z
  exact z
theorem mx_e_ldc2_w {n : Nat} (hr : mx_ft mi j = some (pc, (.ldc2_w n), nx, a, b, v)) (hs : mx_step sy (.ldc2_w n) nx a b v ls st c = some (Ps, j', ls', st', c')) (hP0 : mx_all Ps) (k : mx_E sy d mi Q j' ls' st' c') : mx_E sy d mi Q j ls st c := by
  obtain ⟨hck, hpc⟩ := mx_ft_ck hr
  obtain ⟨hdc, hnx, hex⟩ := mx_gen (ins := (.ldc2_w n)) hck
  cases hs
  intro l D cy ad p e s m args below meth cd H locs lsA C hP hS hL
  rw [hpc]
  obtain ⟨e0, he, hq⟩ := List.any_eq_true.mp hex
  have h1 := of_decide_eq_true (List.all_eq_true.mp mx_cll_ok e0 he)
  simp only [Bool.and_eq_true, beq_iff_eq] at hq
  rw [hq.1.1, hq.1.2, hq.2] at h1
  refine lv_ldc2 C.1 C.2.1 C.2.2.2.2.1 (C.2.2.2.2.2.1 _ (mx_mem h1 rfl)) hdc ?_
  have z := k l D cy ad p e s m args below meth cd H locs lsA C hP hS hL
  rw [hnx] at z
  exact z
theorem mx_e_iload_n {n : Fin 4} (hr : mx_ft mi j = some (pc, (.iload_n n), nx, a, b, v)) (hs : mx_ldI nx a ls st c = some (Ps, j', ls', st', c')) (hP0 : mx_all Ps) (k : mx_E sy d mi Q j' ls' st' c') : mx_E sy d mi Q j ls st c := by
  obtain ⟨hck, hpc⟩ := mx_ft_ck hr
  obtain ⟨hdc, hnx, hex⟩ := mx_gen (ins := (.iload_n n)) hck
  have hn : (n : Nat) = a := beq_iff_eq.mp hex
  unfold mx_ldI at hs
  split at hs
  · rename_i x hx
    cases hs
    intro l D cy ad p e s m args below meth cd H locs lsA C hP hS hL
    rw [hpc]
    refine lv_iload_n C.1 C.2.1 hdc hn (hL.2.2.2 _ _ hx (by simp)) ?_
    have z := k l D cy ad p e s m args below meth cd H locs lsA C hP hS hL
    rw [hnx] at z
    exact z
  · cases hs
theorem mx_e_lload_n {n : Fin 4} (hr : mx_ft mi j = some (pc, (.lload_n n), nx, a, b, v)) (hs : mx_ldL nx a ls st c = some (Ps, j', ls', st', c')) (hP0 : mx_all Ps) (k : mx_E sy d mi Q j' ls' st' c') : mx_E sy d mi Q j ls st c := by
  obtain ⟨hck, hpc⟩ := mx_ft_ck hr
  obtain ⟨hdc, hnx, hex⟩ := mx_gen (ins := (.lload_n n)) hck
  have hn : (n : Nat) = a := beq_iff_eq.mp hex
  unfold mx_ldL at hs
  split at hs
  · rename_i x hx
    cases hs
    intro l D cy ad p e s m args below meth cd H locs lsA C hP hS hL
    rw [hpc]
    refine lv_lload_n C.1 C.2.1 hdc hn (hL.2.2.2 _ _ hx (by simp)) ?_
    have z := k l D cy ad p e s m args below meth cd H locs lsA C hP hS hL
    rw [hnx] at z
    exact z
  · cases hs
theorem mx_e_aload_n {n : Fin 4} (hr : mx_ft mi j = some (pc, (.aload_n n), nx, a, b, v)) (hs : mx_ldA nx a ls st c = some (Ps, j', ls', st', c')) (hP0 : mx_all Ps) (k : mx_E sy d mi Q j' ls' st' c') : mx_E sy d mi Q j ls st c := by
  obtain ⟨hck, hpc⟩ := mx_ft_ck hr
  obtain ⟨hdc, hnx, hex⟩ := mx_gen (ins := (.aload_n n)) hck
  have hn : (n : Nat) = a := beq_iff_eq.mp hex
  unfold mx_ldA at hs
  split at hs
  · rename_i x hx
    cases hs
    intro l D cy ad p e s m args below meth cd H locs lsA C hP hS hL
    rw [hpc]
    refine lv_aload_n C.1 C.2.1 hdc hn (hL.2.2.2 _ _ hx (by simp)) ?_
    have z := k l D cy ad p e s m args below meth cd H locs lsA C hP hS hL
    rw [hnx] at z
    exact z
  · cases hs
theorem mx_e_iload {n : Nat} (hr : mx_ft mi j = some (pc, (.iload n), nx, a, b, v)) (hs : mx_ldI nx a ls st c = some (Ps, j', ls', st', c')) (hP0 : mx_all Ps) (k : mx_E sy d mi Q j' ls' st' c') : mx_E sy d mi Q j ls st c := by
  obtain ⟨hck, hpc⟩ := mx_ft_ck hr
  obtain ⟨hdc, hnx, hex⟩ := mx_gen (ins := (.iload n)) hck
  have hn : (n : Nat) = a := beq_iff_eq.mp hex
  subst hn
  unfold mx_ldI at hs
  split at hs
  · rename_i x hx
    cases hs
    intro l D cy ad p e s m args below meth cd H locs lsA C hP hS hL
    rw [hpc]
    refine lv_iload C.1 C.2.1 hdc (hL.2.2.2 _ _ hx (by simp)) ?_
    have z := k l D cy ad p e s m args below meth cd H locs lsA C hP hS hL
    rw [hnx] at z
    exact z
  · cases hs
theorem mx_e_lload {n : Nat} (hr : mx_ft mi j = some (pc, (.lload n), nx, a, b, v)) (hs : mx_ldL nx a ls st c = some (Ps, j', ls', st', c')) (hP0 : mx_all Ps) (k : mx_E sy d mi Q j' ls' st' c') : mx_E sy d mi Q j ls st c := by
  obtain ⟨hck, hpc⟩ := mx_ft_ck hr
  obtain ⟨hdc, hnx, hex⟩ := mx_gen (ins := (.lload n)) hck
  have hn : (n : Nat) = a := beq_iff_eq.mp hex
  subst hn
  unfold mx_ldL at hs
  split at hs
  · rename_i x hx
    cases hs
    intro l D cy ad p e s m args below meth cd H locs lsA C hP hS hL
    rw [hpc]
    refine lv_lload C.1 C.2.1 hdc (hL.2.2.2 _ _ hx (by simp)) ?_
    have z := k l D cy ad p e s m args below meth cd H locs lsA C hP hS hL
    rw [hnx] at z
    exact z
  · cases hs
theorem mx_e_aload {n : Nat} (hr : mx_ft mi j = some (pc, (.aload n), nx, a, b, v)) (hs : mx_ldA nx a ls st c = some (Ps, j', ls', st', c')) (hP0 : mx_all Ps) (k : mx_E sy d mi Q j' ls' st' c') : mx_E sy d mi Q j ls st c := by
  obtain ⟨hck, hpc⟩ := mx_ft_ck hr
  obtain ⟨hdc, hnx, hex⟩ := mx_gen (ins := (.aload n)) hck
  have hn : (n : Nat) = a := beq_iff_eq.mp hex
  subst hn
  unfold mx_ldA at hs
  split at hs
  · rename_i x hx
    cases hs
    intro l D cy ad p e s m args below meth cd H locs lsA C hP hS hL
    rw [hpc]
    refine lv_aload C.1 C.2.1 hdc (hL.2.2.2 _ _ hx (by simp)) ?_
    have z := k l D cy ad p e s m args below meth cd H locs lsA C hP hS hL
    rw [hnx] at z
    exact z
  · cases hs
theorem mx_e_istore_n {n : Fin 4} (hr : mx_ft mi j = some (pc, (.istore_n n), nx, a, b, v)) (hs : mx_stI nx a ls st c = some (Ps, j', ls', st', c')) (hP0 : mx_all Ps) (k : mx_E sy d mi Q j' ls' st' c') : mx_E sy d mi Q j ls st c := by
  obtain ⟨hck, hpc⟩ := mx_ft_ck hr
  obtain ⟨hdc, hnx, hex⟩ := mx_gen (ins := (.istore_n n)) hck
  have hn : (n : Nat) = a := beq_iff_eq.mp hex
  unfold mx_stI at hs
  split at hs
  · rename_i x r
    cases hb : Nat.blt (a) ls.length with
    | false => rw [hb] at hs; cases hs
    | true =>
      rw [hb] at hs
      dsimp only [cond_true] at hs
      rw [mx_fc_eq] at hs
      cases hs
      have hlt : a < ls.length := by simpa [Nat.blt_eq] using hb
      intro l D cy ad p e s m args below meth cd H locs lsA C hP hS hL
      rw [hpc]
      have hlt2 : a < mx_maxL mi := by rw [← hL.2.2.1]; exact hlt
      refine lv_istore_n C.1 C.2.1 hdc hn hL.has hlt2 rfl (fun lsA' hl' => ?_)
      have z := k l D cy ad p e s m args below meth cd H locs lsA' C hP hS (mx_L_s1 (v := .int x) hL.2.2.1 hlt2 hl')
      rw [hnx] at z
      exact z
  · cases hs
theorem mx_e_istore {n : Nat} (hr : mx_ft mi j = some (pc, (.istore n), nx, a, b, v)) (hs : mx_stI nx a ls st c = some (Ps, j', ls', st', c')) (hP0 : mx_all Ps) (k : mx_E sy d mi Q j' ls' st' c') : mx_E sy d mi Q j ls st c := by
  obtain ⟨hck, hpc⟩ := mx_ft_ck hr
  obtain ⟨hdc, hnx, hex⟩ := mx_gen (ins := (.istore n)) hck
  have hn : (n : Nat) = a := beq_iff_eq.mp hex
  subst hn
  unfold mx_stI at hs
  split at hs
  · rename_i x r
    cases hb : Nat.blt (n) ls.length with
    | false => rw [hb] at hs; cases hs
    | true =>
      rw [hb] at hs
      dsimp only [cond_true] at hs
      rw [mx_fc_eq] at hs
      cases hs
      have hlt : n < ls.length := by simpa [Nat.blt_eq] using hb
      intro l D cy ad p e s m args below meth cd H locs lsA C hP hS hL
      rw [hpc]
      have hlt2 : n < mx_maxL mi := by rw [← hL.2.2.1]; exact hlt
      refine lv_istore C.1 C.2.1 hdc hL.has hlt2 rfl (fun lsA' hl' => ?_)
      have z := k l D cy ad p e s m args below meth cd H locs lsA' C hP hS (mx_L_s1 (v := .int x) hL.2.2.1 hlt2 hl')
      rw [hnx] at z
      exact z
  · cases hs
theorem mx_e_astore_n {n : Fin 4} (hr : mx_ft mi j = some (pc, (.astore_n n), nx, a, b, v)) (hs : mx_stA nx a ls st c = some (Ps, j', ls', st', c')) (hP0 : mx_all Ps) (k : mx_E sy d mi Q j' ls' st' c') : mx_E sy d mi Q j ls st c := by
  obtain ⟨hck, hpc⟩ := mx_ft_ck hr
  obtain ⟨hdc, hnx, hex⟩ := mx_gen (ins := (.astore_n n)) hck
  have hn : (n : Nat) = a := beq_iff_eq.mp hex
  unfold mx_stA at hs
  split at hs
  · rename_i x r
    cases hb : Nat.blt (a) ls.length with
    | false => rw [hb] at hs; cases hs
    | true =>
      rw [hb] at hs
      dsimp only [cond_true] at hs
      rw [mx_fc_eq] at hs
      cases hs
      have hlt : a < ls.length := by simpa [Nat.blt_eq] using hb
      intro l D cy ad p e s m args below meth cd H locs lsA C hP hS hL
      rw [hpc]
      have hlt2 : a < mx_maxL mi := by rw [← hL.2.2.1]; exact hlt
      refine lv_astore_n C.1 C.2.1 hdc hn hL.has hlt2 rfl (fun lsA' hl' => ?_)
      have z := k l D cy ad p e s m args below meth cd H locs lsA' C hP hS (mx_L_s1 (v := .ref x) hL.2.2.1 hlt2 hl')
      rw [hnx] at z
      exact z
  · cases hs
theorem mx_e_astore {n : Nat} (hr : mx_ft mi j = some (pc, (.astore n), nx, a, b, v)) (hs : mx_stA nx a ls st c = some (Ps, j', ls', st', c')) (hP0 : mx_all Ps) (k : mx_E sy d mi Q j' ls' st' c') : mx_E sy d mi Q j ls st c := by
  obtain ⟨hck, hpc⟩ := mx_ft_ck hr
  obtain ⟨hdc, hnx, hex⟩ := mx_gen (ins := (.astore n)) hck
  have hn : (n : Nat) = a := beq_iff_eq.mp hex
  subst hn
  unfold mx_stA at hs
  split at hs
  · rename_i x r
    cases hb : Nat.blt (n) ls.length with
    | false => rw [hb] at hs; cases hs
    | true =>
      rw [hb] at hs
      dsimp only [cond_true] at hs
      rw [mx_fc_eq] at hs
      cases hs
      have hlt : n < ls.length := by simpa [Nat.blt_eq] using hb
      intro l D cy ad p e s m args below meth cd H locs lsA C hP hS hL
      rw [hpc]
      have hlt2 : n < mx_maxL mi := by rw [← hL.2.2.1]; exact hlt
      refine lv_astore C.1 C.2.1 hdc hL.has hlt2 rfl (fun lsA' hl' => ?_)
      have z := k l D cy ad p e s m args below meth cd H locs lsA' C hP hS (mx_L_s1 (v := .ref x) hL.2.2.1 hlt2 hl')
      rw [hnx] at z
      exact z
  · cases hs
theorem mx_e_lstore_n {n : Fin 4} (hr : mx_ft mi j = some (pc, (.lstore_n n), nx, a, b, v)) (hs : mx_stL nx a ls st c = some (Ps, j', ls', st', c')) (hP0 : mx_all Ps) (k : mx_E sy d mi Q j' ls' st' c') : mx_E sy d mi Q j ls st c := by
  obtain ⟨hck, hpc⟩ := mx_ft_ck hr
  obtain ⟨hdc, hnx, hex⟩ := mx_gen (ins := (.lstore_n n)) hck
  have hn : (n : Nat) = a := beq_iff_eq.mp hex
  unfold mx_stL at hs
  split at hs
  · rename_i x r
    cases hb : Nat.blt (a + 1) ls.length with
    | false => rw [hb] at hs; cases hs
    | true =>
      rw [hb] at hs
      dsimp only [cond_true] at hs
      rw [mx_fc_eq] at hs
      cases hs
      have hlt : a + 1 < ls.length := by simpa [Nat.blt_eq] using hb
      intro l D cy ad p e s m args below meth cd H locs lsA C hP hS hL
      rw [hpc]
      have hlt2 : a + 1 < mx_maxL mi := by rw [← hL.2.2.1]; exact hlt
      refine lv_lstore_n C.1 C.2.1 hdc hn hL.has hlt2 rfl (fun lsA' hl' => ?_)
      have z := k l D cy ad p e s m args below meth cd H locs lsA' C hP hS (mx_L_s2 (v := .long x) hL.2.2.1 hlt2 hl')
      rw [hnx] at z
      exact z
  · cases hs
theorem mx_e_lstore {n : Nat} (hr : mx_ft mi j = some (pc, (.lstore n), nx, a, b, v)) (hs : mx_stL nx a ls st c = some (Ps, j', ls', st', c')) (hP0 : mx_all Ps) (k : mx_E sy d mi Q j' ls' st' c') : mx_E sy d mi Q j ls st c := by
  obtain ⟨hck, hpc⟩ := mx_ft_ck hr
  obtain ⟨hdc, hnx, hex⟩ := mx_gen (ins := (.lstore n)) hck
  have hn : (n : Nat) = a := beq_iff_eq.mp hex
  subst hn
  unfold mx_stL at hs
  split at hs
  · rename_i x r
    cases hb : Nat.blt (n + 1) ls.length with
    | false => rw [hb] at hs; cases hs
    | true =>
      rw [hb] at hs
      dsimp only [cond_true] at hs
      rw [mx_fc_eq] at hs
      cases hs
      have hlt : n + 1 < ls.length := by simpa [Nat.blt_eq] using hb
      intro l D cy ad p e s m args below meth cd H locs lsA C hP hS hL
      rw [hpc]
      have hlt2 : n + 1 < mx_maxL mi := by rw [← hL.2.2.1]; exact hlt
      refine lv_lstore C.1 C.2.1 hdc hL.has hlt2 rfl (fun lsA' hl' => ?_)
      have z := k l D cy ad p e s m args below meth cd H locs lsA' C hP hS (mx_L_s2 (v := .long x) hL.2.2.1 hlt2 hl')
      rw [hnx] at z
      exact z
  · cases hs
theorem mx_e_iinc {i : Nat} {n : Int} (hr : mx_ft mi j = some (pc, (.iinc i n), nx, a, b, v)) (hs : mx_step sy (.iinc i n) nx a b v ls st c = some (Ps, j', ls', st', c')) (hP0 : mx_all Ps) (k : mx_E sy d mi Q j' ls' st' c') : mx_E sy d mi Q j ls st c := by
  obtain ⟨hck, hpc⟩ := mx_ft_ck hr
  obtain ⟨hdc, hnx, hex⟩ := mx_gen (ins := (.iinc i n)) hck
  have hex : (i == a && decide (Int32.ofInt n = v)) = true := hex
  simp only [Bool.and_eq_true, beq_iff_eq, decide_eq_true_eq] at hex
  obtain ⟨rfl, hv⟩ := hex
  unfold mx_step at hs
  dsimp only at hs
  split at hs
  · rename_i y hy
    rw [mx_fc_eq] at hs
    cases hs
    intro l D cy ad p e s m args below meth cd H locs lsA C hP hS hL
    rw [hpc]
    have hlt2 : i < mx_maxL mi := by rw [← hL.2.2.1]; exact (List.getElem?_eq_some_iff.mp hy).1
    obtain ⟨k0, hk0⟩ := List.getElem?_of_mem (mx_lv_mem (ad := ad) hy (by simp))
    refine lv_iinc (v := y + v) C.1 C.2.1 hdc hL.has hk0 (by rw [hv]) hlt2 rfl (fun lsA' hl' => ?_)
    have z := k l D cy ad p e s m args below meth cd H locs lsA' C hP hS (mx_L_s1 (v := .int (y + v)) hL.2.2.1 hlt2 hl')
    rw [hnx] at z
    exact z
  · cases hs
theorem mx_e_iadd (hr : mx_ft mi j = some (pc, .iadd, nx, a, b, v)) (hs : mx_step sy .iadd nx a b v ls st c = some (Ps, j', ls', st', c')) (hP0 : mx_all Ps) (k : mx_E sy d mi Q j' ls' st' c') : mx_E sy d mi Q j ls st c := by
  obtain ⟨hck, hpc⟩ := mx_ft_ck hr
  obtain ⟨hdc, hnx, hex⟩ := mx_gen (ins := .iadd) hck
  unfold mx_step at hs
  dsimp only at hs
  split at hs
  · cases hs
    intro l D cy ad p e s m args below meth cd H locs lsA C hP hS hL
    rw [hpc]
    refine lv_iadd C.1 C.2.1 hdc ?_
    have z := k l D cy ad p e s m args below meth cd H locs lsA C hP hS hL
    rw [hnx] at z
    exact z
  · cases hs
theorem mx_e_isub (hr : mx_ft mi j = some (pc, .isub, nx, a, b, v)) (hs : mx_step sy .isub nx a b v ls st c = some (Ps, j', ls', st', c')) (hP0 : mx_all Ps) (k : mx_E sy d mi Q j' ls' st' c') : mx_E sy d mi Q j ls st c := by
  obtain ⟨hck, hpc⟩ := mx_ft_ck hr
  obtain ⟨hdc, hnx, hex⟩ := mx_gen (ins := .isub) hck
  unfold mx_step at hs
  dsimp only at hs
  split at hs
  · cases hs
    intro l D cy ad p e s m args below meth cd H locs lsA C hP hS hL
    rw [hpc]
    refine lv_isub C.1 C.2.1 hdc ?_
    have z := k l D cy ad p e s m args below meth cd H locs lsA C hP hS hL
    rw [hnx] at z
    exact z
  · cases hs
theorem mx_e_imul (hr : mx_ft mi j = some (pc, .imul, nx, a, b, v)) (hs : mx_step sy .imul nx a b v ls st c = some (Ps, j', ls', st', c')) (hP0 : mx_all Ps) (k : mx_E sy d mi Q j' ls' st' c') : mx_E sy d mi Q j ls st c := by
  obtain ⟨hck, hpc⟩ := mx_ft_ck hr
  obtain ⟨hdc, hnx, hex⟩ := mx_gen (ins := .imul) hck
  unfold mx_step at hs
  dsimp only at hs
  split at hs
  · cases hs
    intro l D cy ad p e s m args below meth cd H locs lsA C hP hS hL
    rw [hpc]
    refine lv_imul C.1 C.2.1 hdc ?_
    have z := k l D cy ad p e s m args below meth cd H locs lsA C hP hS hL
    rw [hnx] at z
    exact z
  · cases hs
theorem mx_e_iand (hr : mx_ft mi j = some (pc, .iand, nx, a, b, v)) (hs : mx_step sy .iand nx a b v ls st c = some (Ps, j', ls', st', c')) (hP0 : mx_all Ps) (k : mx_E sy d mi Q j' ls' st' c') : mx_E sy d mi Q j ls st c := by
  obtain ⟨hck, hpc⟩ := mx_ft_ck hr
  obtain ⟨hdc, hnx, hex⟩ := mx_gen (ins := .iand) hck
  unfold mx_step at hs
  dsimp only at hs
  split at hs
  · cases hs
    intro l D cy ad p e s m args below meth cd H locs lsA C hP hS hL
    rw [hpc]
    refine lv_iand C.1 C.2.1 hdc ?_
    have z := k l D cy ad p e s m args below meth cd H locs lsA C hP hS hL
    rw [hnx] at z
    exact z
  · cases hs
theorem mx_e_ior (hr : mx_ft mi j = some (pc, .ior, nx, a, b, v)) (hs : mx_step sy .ior nx a b v ls st c = some (Ps, j', ls', st', c')) (hP0 : mx_all Ps) (k : mx_E sy d mi Q j' ls' st' c') : mx_E sy d mi Q j ls st c := by
  obtain ⟨hck, hpc⟩ := mx_ft_ck hr
  obtain ⟨hdc, hnx, hex⟩ := mx_gen (ins := .ior) hck
  unfold mx_step at hs
  dsimp only at hs
  split at hs
  · cases hs
    intro l D cy ad p e s m args below meth cd H locs lsA C hP hS hL
    rw [hpc]
    refine lv_ior C.1 C.2.1 hdc ?_
    have z := k l D cy ad p e s m args below meth cd H locs lsA C hP hS hL
    rw [hnx] at z
    exact z
  · cases hs
theorem mx_e_ixor (hr : mx_ft mi j = some (pc, .ixor, nx, a, b, v)) (hs : mx_step sy .ixor nx a b v ls st c = some (Ps, j', ls', st', c')) (hP0 : mx_all Ps) (k : mx_E sy d mi Q j' ls' st' c') : mx_E sy d mi Q j ls st c := by
  obtain ⟨hck, hpc⟩ := mx_ft_ck hr
  obtain ⟨hdc, hnx, hex⟩ := mx_gen (ins := .ixor) hck
  unfold mx_step at hs
  dsimp only at hs
  split at hs
  · cases hs
    intro l D cy ad p e s m args below meth cd H locs lsA C hP hS hL
    rw [hpc]
    refine lv_ixor C.1 C.2.1 hdc ?_
    have z := k l D cy ad p e s m args below meth cd H locs lsA C hP hS hL
    rw [hnx] at z
    exact z
  · cases hs
theorem mx_e_ishl (hr : mx_ft mi j = some (pc, .ishl, nx, a, b, v)) (hs : mx_step sy .ishl nx a b v ls st c = some (Ps, j', ls', st', c')) (hP0 : mx_all Ps) (k : mx_E sy d mi Q j' ls' st' c') : mx_E sy d mi Q j ls st c := by
  obtain ⟨hck, hpc⟩ := mx_ft_ck hr
  obtain ⟨hdc, hnx, hex⟩ := mx_gen (ins := .ishl) hck
  unfold mx_step at hs
  dsimp only at hs
  split at hs
  · cases hs
    intro l D cy ad p e s m args below meth cd H locs lsA C hP hS hL
    rw [hpc]
    refine lv_ishl C.1 C.2.1 hdc ?_
    have z := k l D cy ad p e s m args below meth cd H locs lsA C hP hS hL
    rw [hnx] at z
    exact z
  · cases hs
theorem mx_e_ishr (hr : mx_ft mi j = some (pc, .ishr, nx, a, b, v)) (hs : mx_step sy .ishr nx a b v ls st c = some (Ps, j', ls', st', c')) (hP0 : mx_all Ps) (k : mx_E sy d mi Q j' ls' st' c') : mx_E sy d mi Q j ls st c := by
  obtain ⟨hck, hpc⟩ := mx_ft_ck hr
  obtain ⟨hdc, hnx, hex⟩ := mx_gen (ins := .ishr) hck
  unfold mx_step at hs
  dsimp only at hs
  split at hs
  · cases hs
    intro l D cy ad p e s m args below meth cd H locs lsA C hP hS hL
    rw [hpc]
    refine lv_ishr C.1 C.2.1 hdc ?_
    have z := k l D cy ad p e s m args below meth cd H locs lsA C hP hS hL
    rw [hnx] at z
    exact z
  · cases hs
theorem mx_e_iushr (hr : mx_ft mi j = some (pc, .iushr, nx, a, b, v)) (hs : mx_step sy .iushr nx a b v ls st c = some (Ps, j', ls', st', c')) (hP0 : mx_all Ps) (k : mx_E sy d mi Q j' ls' st' c') : mx_E sy d mi Q j ls st c := by
  obtain ⟨hck, hpc⟩ := mx_ft_ck hr
  obtain ⟨hdc, hnx, hex⟩ := mx_gen (ins := .iushr) hck
  unfold mx_step at hs
  dsimp only at hs
  split at hs
  · cases hs
    intro l D cy ad p e s m args below meth cd H locs lsA C hP hS hL
    rw [hpc]
    refine lv_iushr C.1 C.2.1 hdc rfl ?_
    have z := k l D cy ad p e s m args below meth cd H locs lsA C hP hS hL
    rw [hnx] at z
    exact z
  · cases hs
theorem mx_e_ladd (hr : mx_ft mi j = some (pc, .ladd, nx, a, b, v)) (hs : mx_step sy .ladd nx a b v ls st c = some (Ps, j', ls', st', c')) (hP0 : mx_all Ps) (k : mx_E sy d mi Q j' ls' st' c') : mx_E sy d mi Q j ls st c := by
  obtain ⟨hck, hpc⟩ := mx_ft_ck hr
  obtain ⟨hdc, hnx, hex⟩ := mx_gen (ins := .ladd) hck
  unfold mx_step at hs
  dsimp only at hs
  split at hs
  · cases hs
    intro l D cy ad p e s m args below meth cd H locs lsA C hP hS hL
    rw [hpc]
    refine lv_ladd C.1 C.2.1 hdc ?_
    have z := k l D cy ad p e s m args below meth cd H locs lsA C hP hS hL
    rw [hnx] at z
    exact z
  · cases hs
theorem mx_e_lmul (hr : mx_ft mi j = some (pc, .lmul, nx, a, b, v)) (hs : mx_step sy .lmul nx a b v ls st c = some (Ps, j', ls', st', c')) (hP0 : mx_all Ps) (k : mx_E sy d mi Q j' ls' st' c') : mx_E sy d mi Q j ls st c := by
  obtain ⟨hck, hpc⟩ := mx_ft_ck hr
  obtain ⟨hdc, hnx, hex⟩ := mx_gen (ins := .lmul) hck
  unfold mx_step at hs
  dsimp only at hs
  split at hs
  · cases hs
    intro l D cy ad p e s m args below meth cd H locs lsA C hP hS hL
    rw [hpc]
    refine lv_lmul C.1 C.2.1 hdc ?_
    have z := k l D cy ad p e s m args below meth cd H locs lsA C hP hS hL
    rw [hnx] at z
    exact z
  · cases hs
theorem mx_e_idiv (hr : mx_ft mi j = some (pc, .idiv, nx, a, b, v)) (hs : mx_step sy .idiv nx a b v ls st c = some (Ps, j', ls', st', c')) (hP0 : mx_all Ps) (k : mx_E sy d mi Q j' ls' st' c') : mx_E sy d mi Q j ls st c := by
  obtain ⟨hck, hpc⟩ := mx_ft_ck hr
  obtain ⟨hdc, hnx, hex⟩ := mx_gen (ins := .idiv) hck
  unfold mx_step at hs
  dsimp only at hs
  split at hs
  · cases hs
    intro l D cy ad p e s m args below meth cd H locs lsA C hP hS hL
    rw [hpc]
    refine lv_idiv C.1 C.2.1 hdc hP0.1 ?_
    have z := k l D cy ad p e s m args below meth cd H locs lsA C hP hS hL
    rw [hnx] at z
    exact z
  · cases hs
theorem mx_e_irem (hr : mx_ft mi j = some (pc, .irem, nx, a, b, v)) (hs : mx_step sy .irem nx a b v ls st c = some (Ps, j', ls', st', c')) (hP0 : mx_all Ps) (k : mx_E sy d mi Q j' ls' st' c') : mx_E sy d mi Q j ls st c := by
  obtain ⟨hck, hpc⟩ := mx_ft_ck hr
  obtain ⟨hdc, hnx, hex⟩ := mx_gen (ins := .irem) hck
  unfold mx_step at hs
  dsimp only at hs
  split at hs
  · cases hs
    intro l D cy ad p e s m args below meth cd H locs lsA C hP hS hL
    rw [hpc]
    refine lv_irem C.1 C.2.1 hdc hP0.1 ?_
    have z := k l D cy ad p e s m args below meth cd H locs lsA C hP hS hL
    rw [hnx] at z
    exact z
  · cases hs
theorem mx_e_ldiv (hr : mx_ft mi j = some (pc, .ldiv, nx, a, b, v)) (hs : mx_step sy .ldiv nx a b v ls st c = some (Ps, j', ls', st', c')) (hP0 : mx_all Ps) (k : mx_E sy d mi Q j' ls' st' c') : mx_E sy d mi Q j ls st c := by
  obtain ⟨hck, hpc⟩ := mx_ft_ck hr
  obtain ⟨hdc, hnx, hex⟩ := mx_gen (ins := .ldiv) hck
  unfold mx_step at hs
  dsimp only at hs
  split at hs
  · cases hs
    intro l D cy ad p e s m args below meth cd H locs lsA C hP hS hL
    rw [hpc]
    refine lv_ldiv C.1 C.2.1 hdc hP0.1 ?_
    have z := k l D cy ad p e s m args below meth cd H locs lsA C hP hS hL
    rw [hnx] at z
    exact z
  · cases hs
theorem mx_e_lrem (hr : mx_ft mi j = some (pc, .lrem, nx, a, b, v)) (hs : mx_step sy .lrem nx a b v ls st c = some (Ps, j', ls', st', c')) (hP0 : mx_all Ps) (k : mx_E sy d mi Q j' ls' st' c') : mx_E sy d mi Q j ls st c := by
  obtain ⟨hck, hpc⟩ := mx_ft_ck hr
  obtain ⟨hdc, hnx, hex⟩ := mx_gen (ins := .lrem) hck
  unfold mx_step at hs
  dsimp only at hs
  split at hs
  · cases hs
    intro l D cy ad p e s m args below meth cd H locs lsA C hP hS hL
    rw [hpc]
    refine lv_lrem C.1 C.2.1 hdc hP0.1 ?_
    have z := k l D cy ad p e s m args below meth cd H locs lsA C hP hS hL
    rw [hnx] at z
    exact z
  · cases hs
theorem mx_e_lcmp (hr : mx_ft mi j = some (pc, .lcmp, nx, a, b, v)) (hs : mx_step sy .lcmp nx a b v ls st c = some (Ps, j', ls', st', c')) (hP0 : mx_all Ps) (k : mx_E sy d mi Q j' ls' st' c') : mx_E sy d mi Q j ls st c := by
  obtain ⟨hck, hpc⟩ := mx_ft_ck hr
  obtain ⟨hdc, hnx, hex⟩ := mx_gen (ins := .lcmp) hck
  unfold mx_step at hs
  dsimp only at hs
  split at hs
  · cases hs
    intro l D cy ad p e s m args below meth cd H locs lsA C hP hS hL
    rw [hpc]
    refine W.lcmp C.1 C.2.1 hdc ?_
    have z := k l D cy ad p e s m args below meth cd H locs lsA C hP hS hL
    rw [hnx] at z
    exact z
  · cases hs
theorem mx_e_i2l (hr : mx_ft mi j = some (pc, .i2l, nx, a, b, v)) (hs : mx_step sy .i2l nx a b v ls st c = some (Ps, j', ls', st', c')) (hP0 : mx_all Ps) (k : mx_E sy d mi Q j' ls' st' c') : mx_E sy d mi Q j ls st c := by
  obtain ⟨hck, hpc⟩ := mx_ft_ck hr
  obtain ⟨hdc, hnx, hex⟩ := mx_gen (ins := .i2l) hck
  unfold mx_step at hs
  dsimp only at hs
  split at hs
  · cases hs
    intro l D cy ad p e s m args below meth cd H locs lsA C hP hS hL
    rw [hpc]
    refine lv_i2l C.1 C.2.1 hdc rfl ?_
    have z := k l D cy ad p e s m args below meth cd H locs lsA C hP hS hL
    rw [hnx] at z
    exact z
  · cases hs
theorem mx_e_l2i (hr : mx_ft mi j = some (pc, .l2i, nx, a, b, v)) (hs : mx_step sy .l2i nx a b v ls st c = some (Ps, j', ls', st', c')) (hP0 : mx_all Ps) (k : mx_E sy d mi Q j' ls' st' c') : mx_E sy d mi Q j ls st c := by
  obtain ⟨hck, hpc⟩ := mx_ft_ck hr
  obtain ⟨hdc, hnx, hex⟩ := mx_gen (ins := .l2i) hck
  unfold mx_step at hs
  dsimp only at hs
  split at hs
  · cases hs
    intro l D cy ad p e s m args below meth cd H locs lsA C hP hS hL
    rw [hpc]
    refine lv_l2i C.1 C.2.1 hdc rfl ?_
    have z := k l D cy ad p e s m args below meth cd H locs lsA C hP hS hL
    rw [hnx] at z
    exact z
  · cases hs
theorem mx_e_dup2 (hr : mx_ft mi j = some (pc, .dup2, nx, a, b, v)) (hs : mx_step sy .dup2 nx a b v ls st c = some (Ps, j', ls', st', c')) (hP0 : mx_all Ps) (k : mx_E sy d mi Q j' ls' st' c') : mx_E sy d mi Q j ls st c := by
  obtain ⟨hck, hpc⟩ := mx_ft_ck hr
  obtain ⟨hdc, hnx, hex⟩ := mx_gen (ins := .dup2) hck
  unfold mx_step at hs
  dsimp only at hs
  split at hs
  · cases hs
    intro l D cy ad p e s m args below meth cd H locs lsA C hP hS hL
    rw [hpc]
    refine lv_dup2_11 C.1 C.2.1 hdc rfl rfl ?_
    have z := k l D cy ad p e s m args below meth cd H locs lsA C hP hS hL
    rw [hnx] at z
    exact z
  · cases hs
theorem mx_e_pop (hr : mx_ft mi j = some (pc, .pop, nx, a, b, v)) (hs : mx_step sy .pop nx a b v ls st c = some (Ps, j', ls', st', c')) (hP0 : mx_all Ps) (k : mx_E sy d mi Q j' ls' st' c') : mx_E sy d mi Q j ls st c := by
  obtain ⟨hck, hpc⟩ := mx_ft_ck hr
  obtain ⟨hdc, hnx, hex⟩ := mx_gen (ins := .pop) hck
  unfold mx_step at hs
  dsimp only at hs
  split at hs
  · cases hs
    intro l D cy ad p e s m args below meth cd H locs lsA C hP hS hL
    rw [hpc]
    refine lv_pop C.1 C.2.1 hdc rfl ?_
    have z := k l D cy ad p e s m args below meth cd H locs lsA C hP hS hL
    rw [hnx] at z
    exact z
  · cases hs
theorem mx_e_dup (hr : mx_ft mi j = some (pc, .dup, nx, a, b, v)) (hs : mx_step sy .dup nx a b v ls st c = some (Ps, j', ls', st', c')) (hP0 : mx_all Ps) (k : mx_E sy d mi Q j' ls' st' c') : mx_E sy d mi Q j ls st c := by
  obtain ⟨hck, hpc⟩ := mx_ft_ck hr
  obtain ⟨hdc, hnx, hex⟩ := mx_gen (ins := .dup) hck
  unfold mx_step at hs
  dsimp only at hs
  split at hs
  · cases hs
    intro l D cy ad p e s m args below meth cd H locs lsA C hP hS hL
    rw [hpc]
    refine lv_dup C.1 C.2.1 hdc rfl ?_
    have z := k l D cy ad p e s m args below meth cd H locs lsA C hP hS hL
    rw [hnx] at z
    exact z
  · cases hs
    intro l D cy ad p e s m args below meth cd H locs lsA C hP hS hL
    rw [hpc]
    refine lv_dup C.1 C.2.1 hdc rfl ?_
    have z := k l D cy ad p e s m args below meth cd H locs lsA C hP hS hL
    rw [hnx] at z
    exact z
  · cases hs
theorem mx_e_goto {off : Int} (hr : mx_ft mi j = some (pc, (.goto off), nx, a, b, v)) (k : mx_E sy d mi Q nx ls st c) : mx_E sy d mi Q j ls st c := by
  obtain ⟨hck, hpc⟩ := mx_ft_ck hr
  have hck : (mx_dc mi pc (.goto off) && decide ((pc : Int) + off = (mx_pc mi nx : Int))) = true := hck
  simp only [Bool.and_eq_true, decide_eq_true_eq] at hck
  have hdc : decode (mx_code mi) pc = .ok (.goto off, 3) := of_decide_eq_true hck.1
  intro l D cy ad p e s m args below meth cd H locs lsA C hP hS hL
  rw [hpc]
  refine lv_goto C.1 C.2.1 hdc hck.2 ?_
  exact k l D cy ad p e s m args below meth cd H locs lsA C hP hS hL
end RULES
