/-! contracts by mx_E; calls -/
def mx_ws (mi : Nat) : List Cond := .code (mx_y mi) (mx_code mi) (mx_maxL mi) (mx_ret mi) :: mx_good
def mx_Pc (sy : Nat) (D : va_G) (cy : Nat → ClassId) (ad : Nat → Nat) (av : List Value) (c : mx_M) (sz : Nat) : Array Value → State → Prop := va_Pc (av.map (mx_tv ad)) (fun U => U.heap.size = sz ∧ va_P D vwCl (mx_W sy cy ad c) U.heap ∧ va_K D vwCl (mx_tys cy) U ∧ mx_inj sy ad ∧ (∀ w ∈ mx_nest, va_Nw w U) ∧ mx_Z (ad 1000) (mx_A sy ad sz) U U.heap)
/-- method mi, called with av over the cells c, comes to its end, and Q holds of its answer and the cells; d: how deep it may call -/
def mx_Spec (sy d mi : Nat) (av : List Value) (c : mx_M) (Q : Option Value → mx_M → Prop) : Prop :=
  ∀ (l : Launch) (D : va_G) (cy : Nat → ClassId) (ad : Nat → Nat) (sz : Nat), Met l (mx_y mi) (mx_ws mi) (mx_rm d) (mx_Pc sy D cy ad av c sz) (mx_Qc sy D cy ad Q sz) 0 0 (mx_A sy ad sz)
/-- the locals at a method's entry -/
def mx_en : List Value → List Value
  | [] => []
  | v :: r => bif v.category == 2 then v :: .null :: mx_en r else v :: mx_en r
def mx_en0 (nL : Nat) (av : List Value) : List Value := mx_en av ++ List.replicate (nL - (mx_en av).length) .null
theorem mx_en_len (ad : Nat → Nat) : ∀ av : List Value, (lg_sl (av.map (mx_tv ad))).length = (mx_en av).length
  | [] => rfl
  | v :: r => by
    have ih := mx_en_len ad r
    unfold lg_sl at ih ⊢
    simp only [List.map_cons, List.flatMap_cons, List.length_append, mx_tv_cat]
    rw [ih]
    by_cases h : v.category = 2
    · simp [mx_en, h]; omega
    · rw [if_neg h]
      show _ = (bif v.category == 2 then v :: Value.null :: mx_en r else v :: mx_en r).length
      rw [show (v.category == 2) = false by simp [h]]
      show 1 + (mx_en r).length = (mx_en r).length + 1
      omega
theorem mx_en_at (ad : Nat → Nat) : ∀ (av : List Value) (i k : Nat) (v : Value), (mx_en av)[k]? = some v → v ≠ .null → (i + k, mx_tv ad v) ∈ lv_args i (av.map (mx_tv ad))
  | [], i, k, v, h, hn => by simp [mx_en] at h
  | w :: r, i, k, v, h, hn => by
    simp only [List.map_cons, lv_args, mx_tv_cat]
    unfold mx_en at h
    by_cases hw : w.category = 2
    · rw [show (w.category == 2) = true by simp [hw]] at h
      dsimp only [cond_true] at h
      rw [if_pos hw]
      match k, h with
      | 0, h =>
        simp at h
        subst h
        exact List.mem_cons_self
      | 1, h =>
        simp at h
        exact absurd h.symm hn
      | k + 2, h =>
        simp only [List.getElem?_cons_succ] at h
        have := mx_en_at ad r (i + 2) k v h hn
        rw [show i + 2 + k = i + (k + 2) by omega] at this
        exact List.mem_cons_of_mem _ this
    · rw [show (w.category == 2) = false by simp [hw]] at h
      dsimp only [cond_false] at h
      rw [if_neg hw]
      match k, h with
      | 0, h =>
        simp at h
        subst h
        exact List.mem_cons_self
      | k + 1, h =>
        simp only [List.getElem?_cons_succ] at h
        have := mx_en_at ad r (i + 1) k v h hn
        rw [show i + 1 + k = i + (k + 1) by omega] at this
        exact List.mem_cons_of_mem _ this
theorem mx_L_entry {ad : Nat → Nat} {nL : Nat} {av : List Value} (h : (mx_en av).length ≤ nL) : mx_L ad ((lg_sl (av.map (mx_tv ad)) ++ List.replicate (nL - (lg_sl (av.map (mx_tv ad))).length) Slot.unset).toArray) nL (mx_en0 nL av) := by
  have h0 := lv_entry (av.map (mx_tv ad)) (n := nL) (by rw [mx_en_len]; exact h)
  refine ⟨h0.1, h0.2.1, by unfold mx_en0; simp; omega, fun k v hk hv => ?_⟩
  unfold mx_en0 at hk
  by_cases hl : k < (mx_en av).length
  · rw [List.getElem?_append_left hl] at hk
    have := h0.2.2 _ (mx_en_at ad av 0 k v hk hv)
    rwa [Nat.zero_add] at this
  · rw [List.getElem?_append_right (by omega)] at hk
    obtain ⟨h1, h2⟩ := List.getElem?_eq_some_iff.mp hk
    simp at h2
    exact absurd h2.symm hv
theorem mx_mok_of {mi : Nat} (h : Nat.blt mi mx_NM = true) : mx_mck mi = true := mx_mok mi (by simpa [Nat.blt_eq] using h)
theorem mx_Spec_E {sy d mi : Nat} {av : List Value} {c : mx_M} {Q : Option Value → mx_M → Prop} (hm : Nat.blt mi mx_NM = true) (h0 : mx_pc mi 0 = 0) (hl : Nat.ble (mx_en av).length (mx_maxL mi) = true) (h : mx_E sy d mi Q 0 (mx_en0 (mx_maxL mi) av) [] c) : mx_Spec sy d mi av c Q := by
  intro l D cy ad sz
  have hk := mx_mok_of hm
  unfold mx_mck at hk
  simp only [Bool.and_eq_true, decide_eq_true_eq] at hk
  obtain ⟨⟨⟨⟨⟨⟨⟨⟨-, -⟩, -⟩, -⟩, -⟩, hpl⟩, -⟩, hown⟩, -⟩ := hk
  refine Met.ofW (cc := mx_code mi) (maxL := mx_maxL mi) (ret := mx_ret mi) hpl rfl ?_
  intro p e s m args below meth cd s₁ B hml hv
  obtain ⟨rfl, hsz, hP, hK, hinj, hN, hZ⟩ := hv
  subst hsz
  have hts := atoms_spec (ws := mx_ws mi) B.pre
  have C : mx_Ctx sy mi D cy ad p s m (av.map (mx_tv ad)).toArray meth cd := ⟨B.exec, B.bytes, B.returns, hml, by rw [← hown]; exact findClass_of_methodNamed B.named, fun w hw => hts w (List.mem_cons_of_mem _ hw), hN, B.notSynchronized, hK, hinj, hZ⟩
  rw [lg_entry_eq]
  have z := h l D cy ad p e s m (av.map (mx_tv ad)).toArray below meth cd s.heap [] _ C hP va_S.rf (mx_L_entry (Nat.le_of_ble_eq_true hl))
  rw [h0] at z
  exact z
theorem mx_Spec_mono {sy d mi : Nat} {av : List Value} {c : mx_M} {Q Q' : Option Value → mx_M → Prop} (h : mx_Spec sy d mi av c Q) (hq : ∀ r c, Q r c → Q' r c) : mx_Spec sy d mi av c Q' := by
  intro l D cy ad sz
  have z := h l D cy ad sz
  unfold Met at z ⊢
  intro p e ha hc hk s m args below hf hb hP hK
  obtain ⟨t, o, h1, h2, h3, ⟨⟨⟨r, c1, g1, g2, g3⟩, g4⟩, h5⟩⟩ := z p e ha hc hk s m args below hf hb hP hK
  exact ⟨t, o, h1, h2, h3, ⟨⟨⟨r, c1, g1, hq r c1 g2, g3⟩, g4⟩, h5⟩⟩
theorem mx_nest_on : ∀ w ∈ mx_nest, w.onTables = true := by
  intro w hw
  rcases List.mem_append.mp hw with h | h
  · obtain ⟨e, -, rfl⟩ := List.mem_map.mp h
    rfl
  · obtain ⟨e, -, rfl⟩ := List.mem_map.mp h
    rfl
theorem mx_nest_warm {s U : State} (hW : s.WarmedH U.vm) (h : ∀ w ∈ mx_nest, va_Nw w s) : ∀ w ∈ mx_nest, va_Nw w U := by
  intro w hw
  have hz := h w hw
  rcases List.mem_append.mp hw with h | h
  · obtain ⟨e, -, rfl⟩ := List.mem_map.mp h
    exact va_Nw.warmF hW hz
  · obtain ⟨e, -, rfl⟩ := List.mem_map.mp h
    exact va_Nw.warmM hW hz
theorem mx_Pc_blind {sy : Nat} {D : va_G} {cy : Nat → ClassId} {ad : Nat → Nat} {av : List Value} {c : mx_M} {sz : Nat} : FrameBlind (mx_Pc sy D cy ad av c sz) := by
  intro a U g mk q
  obtain ⟨q0, q1, q2, q3, q4, q5, q6⟩ := q
  exact ⟨q0, q1, q2, va_K.moved (u := U) (U := U.calling g mk a) (Vm.Alike.refl U.vm) q3, q4, fun w hw => va_Nw.same (u := U) (U := U.calling g mk a) (mx_nest_on w hw) rfl (q5 w hw), q6.1.moved (U := U.calling g mk a) (Vm.Alike.refl U.vm), q6.2.moved (U := U.calling g mk a) (Vm.Alike.refl U.vm)⟩
theorem mx_A_sub {sy : Nat} {ad : Nat → Nat} {a b : Nat} (h : a ≤ b) : ∀ q, mx_A sy ad b q → mx_A sy ad a q := by
  intro q hq
  rcases hq with h1 | h1
  · exact Or.inl h1
  · exact Or.inr (Nat.le_trans h h1)
theorem mx_pre {sy mi : Nat} {D : va_G} {cy : Nat → ClassId} {ad : Nat → Nat} {p : Program} {s : State} {m : MethodId} {args : Array Value} {meth : Method} {cd : Code} {c : mx_M} {H : Heap} {locs : List Loc} (C : mx_Ctx sy mi D cy ad p s m args meth cd) (hP : va_P D vwCl (mx_W sy cy ad c) H) (hS : va_S (mx_A sy ad s.heap.size) s.heap H locs) (av : List Value) :
    ∀ U : State, U.heap = H → s.WarmedH U.vm → mx_Pc sy D cy ad av c H.size (av.map (mx_tv ad)).toArray U := by
  intro U hU hW
  refine ⟨rfl, by rw [hU], by rw [hU]; exact hP, va_K.moved hW.alike C.K, C.inj, mx_nest_warm hW C.2.2.2.2.2.2.1, ?_⟩
  rw [hU]
  exact ⟨((C.Z.1.kept hS.2.1).narrow (mx_A_sub hS.1)).moved hW.alike, ((C.Z.2.kept hS.2.1).narrow (mx_A_sub hS.1)).moved hW.alike⟩
/-- behind a call -/
theorem mx_after {p : Program} {l : Launch} {e : Env} {R : Room} {s : State} {m : MethodId} {args : Array Value} {below : List Frame} {meth : Method} {cd : Code} {H : Heap} {locs : List Loc} {ZQ : State → Prop} {pc : Nat} {lsA : Array Slot} {st0 rest : List Value} {a : Array Value} {sy : Nat} {D : va_G} {cy : Nat → ClassId} {ad : Nat → Nat} {Q0 : Option Value → mx_M → Prop}
    (hr : va_Run p l e R s m args below meth cd H locs 0 0 0 0 (F0 m pc lsA st0) rest (mx_Qc sy D cy ad Q0 H.size a) (mx_A sy ad H.size)) (hS : va_S (mx_A sy ad s.heap.size) s.heap H locs)
    (kk : ∀ (r : Option Value) (c1 : mx_M) (H1 : Heap) (locs1 : List Loc), Q0 r c1 → va_P D vwCl (mx_W sy cy ad c1) H1 → va_S (mx_A sy ad s.heap.size) s.heap H1 locs1 → W p l e R s m args below meth cd H1 locs1 0 0 ZQ (F0 m (pc + 3) lsA ((r.map (mx_tv ad)).toList ++ rest))) : W p l e R s m args below meth cd H locs 0 0 ZQ (F0 m pc lsA st0) := by
  intro T hT X
  obtain ⟨v, st₀, t, T', L, h0, X', hL, e1, e2, ⟨⟨r, c1, hv, hq, hp⟩, hz, hk⟩, st⟩ := hr T hT X
  have hA := mx_A_sub (sy := sy) (ad := ad) hS.1
  have ev : v = r.map (mx_tv ad) := by injection hv
  subst ev
  rw [h0] at hz hk
  obtain ⟨t2, a1, b1⟩ := kk r c1 T'.heap (locs ++ L) hq (by rw [e1]; exact hp)
    ⟨Nat.le_trans hS.1 (by rw [e1]; exact hz), fun q h1 h2 => by rw [e1, hk q (Nat.lt_of_lt_of_le h1 hS.1) (fun z => h2 (hA q z))]; exact hS.2.1 q h1 h2, fun q hq => by
      rcases List.mem_append.mp hq with h | h
      · exact hS.2.2 q h
      · exact hA _ (hL q h)⟩ T' rfl X'
  exact ⟨t2, st t2 a1, b1⟩
/-- what the tables say of a method -/
theorem mx_words {sy mi k : Nat} {D : va_G} {cy : Nat → ClassId} {ad : Nat → Nat} {p : Program} {s : State} {m : MethodId} {args : Array Value} {meth : Method} {cd : Code} (C : mx_Ctx sy mi D cy ad p s m args meth cd) (hk : mx_mck k = true) :
    (∀ w ∈ mx_ws k, ∀ (a' : Array Value) (U : State), s.WarmedH U.vm → w.before a' U = true) ∧ (Cond.code (mx_y k) (mx_code k) (mx_maxL k) (mx_ret k)).before args s = true ∧ (Cond.initialized (mx_y k).cls).before args s = true ∧ ((mx_y k).cls ≠ "java/lang/invoke/MethodHandle" ∧ (mx_y k).cls ≠ "java/lang/invoke/VarHandle") ∧ (∀ sig, parseMethodDescriptor (mx_y k).desc = some sig → (mx_ps k).2.1 = sig.parameters.length) ∧ mx_maxL k ≤ 24 ∧ (mx_y k).cls = mx_cn (mx_own k) ∧
    ((mx_ps k).1 = true → (Cond.static (mx_y k)).before args s = true) ∧ ((mx_ps k).1 = false → (Cond.instanceMethod (mx_y k)).before args s = true ∧ (Cond.selects (mx_y k).cls (mx_y k) (mx_y k)).before args s = true) := by
  unfold mx_mck at hk
  simp only [Bool.and_eq_true, decide_eq_true_eq] at hk
  obtain ⟨⟨⟨⟨⟨⟨⟨⟨h1, h2⟩, h3⟩, h4⟩, h5⟩, -⟩, h7⟩, h8⟩, h9⟩ := hk
  have hc : Cond.code (mx_y k) (mx_code k) (mx_maxL k) (mx_ret k) ∈ mx_good := mx_mem h1 rfl
  refine ⟨fun w hw a' U hW => ?_, C.ts hc, C.ts (mx_mem h2 rfl), ⟨h3, h4⟩, fun sig hsig => ?_, h7, h8, fun hb => ?_, fun hb => ?_⟩
  · have hg : w ∈ mx_good := by
      rcases List.mem_cons.mp hw with h | h
      · rw [h]; exact hc
      · exact h
    exact word_at hW (good_of_word (List.mem_filter.mp hg).2) (C.ts hg)
  · rw [hsig] at h5
    exact (Option.some.inj h5).symm
  · rw [hb] at h9
    simp only [if_true, decide_eq_true_eq] at h9
    exact C.ts (mx_mem h9 rfl)
  · rw [hb] at h9
    simp only [Bool.false_eq_true, if_false, Bool.and_eq_true, decide_eq_true_eq] at h9
    exact ⟨C.ts (mx_mem h9.1 rfl), C.ts (mx_mem h9.2 rfl)⟩
/-- who is called is an object of the method's class -/
def mx_rcv (sy k : Nat) (av : List Value) : Bool := match av with
  | .ref i :: _ => Nat.blt i (mx_N sy) && (match mx_sh sy i with
    | .inl (ci, _) => ci == mx_own k
    | .inr _ => false)
  | _ => false
theorem mx_cat_sum (ad : Nat → Nat) (rest : List Value) : ((rest.map (mx_tv ad)).map fun v => v.category).sum = (rest.map fun v => v.category).sum := by
  rw [List.map_map]
  congr 1
  exact List.map_congr_left (fun x _ => mx_tv_cat ad x)
section CALL
variable {sy d d1 mi j pc nx a b n : Nat} {v : Int32} {Q Q0 : Option Value → mx_M → Prop} {ls st av rest : List Value} {c : mx_M}
/-- what a call asks, all at once -/
def mx_cv (sy d d1 a b : Nat) (av rest : List Value) : Bool := Nat.blt a mx_NM && Nat.beq av.length b && mx_rcv sy a av && mx_smallB rest && Nat.blt d1 d
def mx_cs (d d1 a b : Nat) (av rest : List Value) : Bool := Nat.blt a mx_NM && Nat.ble b 20 && Nat.beq av.length b && mx_smallB rest && Nat.blt d1 d
theorem mx_E_callV (hsp : mx_Spec sy d1 a av c Q0) (hr : mx_ft mi j = some (pc, .invokevirtual n, nx, a, b, v)) (hst : st = av.reverse ++ rest) (hcv : mx_cv sy d d1 a b av rest = true) (k : ∀ (r : Option Value) (c1 : mx_M), Q0 r c1 → mx_E sy d mi Q nx ls (r.toList ++ rest) c1) : mx_E sy d mi Q j ls st c := by
  unfold mx_cv at hcv
  simp only [Bool.and_eq_true, Nat.beq_eq_true_eq, Nat.blt_eq] at hcv
  obtain ⟨⟨⟨⟨hm0, hlen0⟩, hrc⟩, hsm⟩, hd⟩ := hcv
  have hlen : av.length = b := Nat.eq_of_beq_eq_true hlen0
  have hm : Nat.blt a mx_NM = true := by rw [Nat.blt_eq]; exact hm0
  obtain ⟨hck, hpc⟩ := mx_ft_ck hr
  obtain ⟨hdc, hnx, hex⟩ := mx_gen (ins := .invokevirtual n) hck
  have hex : ((mx_inM mx_mlP (mx_own mi) n a || mx_inM mx_mlN (mx_own mi) n a) && !((mx_ps a).1) && (mx_ps a).2.1 + 1 == b) = true := hex
  simp only [Bool.and_eq_true, Bool.or_eq_true, Bool.not_eq_true', beq_iff_eq] at hex
  obtain ⟨⟨hlk, hns⟩, hb⟩ := hex
  unfold mx_rcv at hrc
  split at hrc
  · rename_i i As
    simp only [Bool.and_eq_true] at hrc
    obtain ⟨hi0, hsh0⟩ := hrc
    have hi : i < mx_N sy := by simpa [Nat.blt_eq] using hi0
    split at hsh0
    · rename_i ci fs hsh
      have hci : ci = mx_own a := beq_iff_eq.mp hsh0
      obtain ⟨h7, -, -⟩ := mx_sh_obj hi hsh
      obtain ⟨hc, -, -, -⟩ := mx_cl7 ci h7
      intro l D cy ad p e s m args below meth cd H locs lsA C hP hS hL
      obtain ⟨w1, w2, w3, w4, w5, w6, w7, -, w9⟩ := mx_words C (mx_mok_of hm)
      obtain ⟨w9a, w9b⟩ := w9 hns
      rw [hpc]
      have he : (mx_W sy cy ad c)[i]? = some (ad i, .inr (ci, mx_fl ad (c i) 0 fs)) := by rw [mx_W_at hi, hsh]; rfl
      have hrv := va_recv C.K hP hc he
      have hcls : (mx_y a).cls = mx_cn ci := by rw [w7, hci]
      have hstk : (F0 m pc lsA (st.map (mx_tv ad))).stack = (As.map (mx_tv ad)).reverse ++ .ref (ad i) :: rest.map (mx_tv ad) := by
        show st.map (mx_tv ad) = _
        rw [hst]
        simp [mx_tv]
      have hn : (As.map (mx_tv ad)).length = (mx_ps a).2.1 := by
        rw [List.length_map]
        have : As.length + 1 = b := hlen
        omega
      have hpre := mx_pre C hP hS (.ref i :: As)
      have hroom : 2 * (F0 m pc lsA (st.map (mx_tv ad))).monitorRoom + ((rest.map (mx_tv ad)).map fun v => v.category).sum ≤ 8 := by
        rw [mx_cat_sum]
        have := Nat.le_of_ble_eq_true hsm
        show 2 * 0 + _ ≤ 8
        omega
      have hfr : (mx_rm d1).frames + 1 ≤ (mx_rm d).frames := hd
      have hlo : 8 + (mx_maxL a + 11) + (mx_rm d1).locals ≤ (mx_rm d).locals := by
        show 8 + (mx_maxL a + 11) + 64 * d1 ≤ 64 * d
        omega
      have fin : va_Run p l e (mx_rm d) s m args below meth cd H locs 0 0 0 0 (F0 m pc lsA (st.map (mx_tv ad))) (rest.map (mx_tv ad)) (mx_Qc sy D cy ad Q0 H.size (Value.ref (ad i) :: As.map (mx_tv ad)).toArray) (mx_A sy ad H.size) := by
        rcases hlk with h | h
        · exact va_runV (C := (mx_y a).cls) ⟨C.1, C.2.1, C.2.2.2.1, C.own, C.2.2.2.2.2.1⟩ (hsp l D cy ad H.size) ⟨⟨rfl, rfl, hfr, hlo, w1, List.mem_cons_self, w2, w3, w4, w5, C.ts (mx_mlP_mem h)⟩, w9a, w9b⟩ ⟨mx_Pc_blind, by rw [hcls]; exact hrv, hpre⟩ rfl hn hL.1 hstk hroom hdc ⟨Nat.le_refl _, Nat.le_refl _⟩
        · exact va_runVN (C := (mx_y a).cls) ⟨C.1, C.2.1, C.2.2.2.1, C.own, C.2.2.2.2.2.1⟩ (hsp l D cy ad H.size) ⟨⟨⟨rfl, rfl, hfr, hlo, w1, List.mem_cons_self⟩, w2, w3, w4, w5, va_Nw.use rfl (C.nw (mx_mlN_mem h))⟩, w9a, w9b⟩ ⟨mx_Pc_blind, by rw [hcls]; exact hrv, hpre⟩ rfl hn hL.1 hstk hroom hdc ⟨Nat.le_refl _, Nat.le_refl _⟩
      refine mx_after fin hS (fun r c1 H1 locs1 hq hP1 hS1 => ?_)
      have z := k r c1 hq l D cy ad p e s m args below meth cd H1 locs1 lsA C hP1 hS1 hL
      rw [hnx, List.map_append] at z
      cases r with
      | none => exact z
      | some r => exact z
    · cases hsh0
  · cases hrc
theorem mx_E_callS (hsp : mx_Spec sy d1 a av c Q0) (hr : mx_ft mi j = some (pc, .invokestatic n, nx, a, b, v)) (hst : st = av.reverse ++ rest) (hcv : mx_cs d d1 a b av rest = true) (k : ∀ (r : Option Value) (c1 : mx_M), Q0 r c1 → mx_E sy d mi Q nx ls (r.toList ++ rest) c1) : mx_E sy d mi Q j ls st c := by
  unfold mx_cs at hcv
  simp only [Bool.and_eq_true, Nat.beq_eq_true_eq, Nat.blt_eq] at hcv
  obtain ⟨⟨⟨⟨hm0, hb9⟩, hlen0⟩, hsm⟩, hd⟩ := hcv
  have hlen : av.length = b := Nat.eq_of_beq_eq_true hlen0
  have hm : Nat.blt a mx_NM = true := by rw [Nat.blt_eq]; exact hm0
  obtain ⟨hck, hpc⟩ := mx_ft_ck hr
  obtain ⟨hdc, hnx, hex⟩ := mx_gen (ins := .invokestatic n) hck
  have hb20 := Nat.le_of_ble_eq_true hb9
  unfold mx_ex at hex
  dsimp only at hex
  rw [if_neg (by omega), if_neg (by omega), if_neg (by omega)] at hex
  simp only [Bool.and_eq_true, Bool.or_eq_true, beq_iff_eq] at hex
  obtain ⟨⟨hlk, hns⟩, hb⟩ := hex
  intro l D cy ad p e s m args below meth cd H locs lsA C hP hS hL
  obtain ⟨w1, w2, w3, w4, w5, w6, w7, w8, -⟩ := mx_words C (mx_mok_of hm)
  have w8a := w8 hns
  rw [hpc]
  have hstk : (F0 m pc lsA (st.map (mx_tv ad))).stack = (av.map (mx_tv ad)).reverse ++ rest.map (mx_tv ad) := by
    show st.map (mx_tv ad) = _
    rw [hst]
    simp
  have hn : (av.map (mx_tv ad)).length = (mx_ps a).2.1 := by
    rw [List.length_map]
    omega
  have hpre := mx_pre C hP hS av
  have hroom : 2 * (F0 m pc lsA (st.map (mx_tv ad))).monitorRoom + ((rest.map (mx_tv ad)).map fun v => v.category).sum ≤ 8 := by
    rw [mx_cat_sum]
    have := Nat.le_of_ble_eq_true hsm
    show 2 * 0 + _ ≤ 8
    omega
  have hfr : (mx_rm d1).frames + 1 ≤ (mx_rm d).frames := hd
  have hlo : 8 + (mx_maxL a + 11) + (mx_rm d1).locals ≤ (mx_rm d).locals := by
    show 8 + (mx_maxL a + 11) + 64 * d1 ≤ 64 * d
    omega
  have fin : va_Run p l e (mx_rm d) s m args below meth cd H locs 0 0 0 0 (F0 m pc lsA (st.map (mx_tv ad))) (rest.map (mx_tv ad)) (mx_Qc sy D cy ad Q0 H.size (av.map (mx_tv ad)).toArray) (mx_A sy ad H.size) := by
    rcases hlk with h | h
    · exact va_runS ⟨C.1, C.2.1, C.2.2.2.1, C.own, C.2.2.2.2.2.1⟩ (hsp l D cy ad H.size) ⟨⟨rfl, rfl, hfr, hlo, w1, List.mem_cons_self, w2, w3, w4, w5, C.ts (mx_mlP_mem h)⟩, w8a⟩ ⟨mx_Pc_blind, hpre⟩ rfl hn hL.1 hstk hroom hdc ⟨Nat.le_refl _, Nat.le_refl _⟩
    · exact va_runSN ⟨C.1, C.2.1, C.2.2.2.1, C.own, C.2.2.2.2.2.1⟩ (hsp l D cy ad H.size) ⟨⟨⟨rfl, rfl, hfr, hlo, w1, List.mem_cons_self⟩, w2, w3, w4, w5, va_Nw.use rfl (C.nw (mx_mlN_mem h))⟩, w8a, trivial⟩ ⟨mx_Pc_blind, hpre⟩ rfl hn hL.1 hstk hroom hdc ⟨Nat.le_refl _, Nat.le_refl _⟩
  refine mx_after fin hS (fun r c1 H1 locs1 hq hP1 hS1 => ?_)
  have z := k r c1 hq l D cy ad p e s m args below meth cd H1 locs1 lsA C hP1 hS1 hL
  rw [hnx, List.map_append] at z
  cases r with
  | none => exact z
  | some r => exact z
end CALL
