/-! the systems' constructors -/
/-- the state at the start -/
def a00 : mSt := ((3, 0), pOrd 3 (fun _ _ => 0) (mo 3 0), (0, fun _ => 0), (0, fun _ => (0, 0, 0)), (0, fun _ => pOrd 3 (fun _ _ => 0) (mo 3 0)), fun _ => none)
/-- addresses by a list; the static row -/
def kad (t : Nat) (L : List Nat) (i : Nat) : Nat := bif Nat.beq i 1000 then t else L.getD i 0
def kx_Sy (sy ci : Nat) (icd : ByteArray) (nL : Nat) (fs : List Value) (rm : Room) (I : mx_M → Prop) : Prop :=
  ∀ (l : Launch) (D : va_G) (cy : Nat → ClassId) (h0 tO sz : Nat), Met l (kw_y (mx_cn ci)) (.code (kw_y (mx_cn ci)) icd nL none :: mx_good) rm (va_Pc [.ref h0] (fun U => U.heap.size = sz ∧ va_P D vwCl [(h0, .inr (ci, fs))] U.heap ∧ kx_T D cy U ∧ mx_Z tO (va_A [(h0, .inr (ci, fs))] sz) U U.heap)) (va_Qv (S := (Nat → Nat) × mx_M) (fun u => u.1 0 = h0 ∧ u.1 1000 = tO ∧ mx_inj sy u.1 ∧ (∀ i, i < mx_N sy → va_A [(h0, .inr (ci, fs))] sz (u.1 i)) ∧ I u.2) (fun u t => va_P D vwCl (mx_W sy cy u.1 u.2) t.heap) (va_A [(h0, .inr (ci, fs))] sz)) rm.cells rm.slots (va_A [(h0, .inr (ci, fs))] sz)
def kx_Qs (sy : Nat) (D : va_G) (cy : Nat → ClassId) (h0 tO : Nat) (A : Nat → Prop) (I : mx_M → Prop) : Array Value → State → Outcome → State → Prop := va_Qv (S := (Nat → Nat) × mx_M) (fun u => u.1 0 = h0 ∧ u.1 1000 = tO ∧ mx_inj sy u.1 ∧ (∀ i, i < mx_N sy → A (u.1 i)) ∧ I u.2) (fun u t => va_P D vwCl (mx_W sy cy u.1 u.2) t.heap) A
theorem kx_ofS {sy ci nL : Nat} {icd : ByteArray} {fs : List Value} {rm : Room} {I : mx_M → Prop} (hpl : plainName (mx_cn ci) = true) (hnL : 1 ≤ nL)
    (body : ∀ (l : Launch) (D : va_G) (cy : Nat → ClassId) (h0 tO : Nat) (p : Program) (e : Env) (s : State) (m : MethodId) (below : List Frame) (meth : Method) (cd : Code) (A : Nat → Prop) (ls : Array Slot), kx_X ci icd nL D cy p s m [Value.ref h0].toArray cd → meth.sig.returnType = none → meth.locks = false → meth.name = "<init>" → va_P D vwCl [(h0, .inr (ci, fs))] s.heap → va_D A [(h0, .inr (ci, fs))] → (∀ q, s.heap.size ≤ q → A q) → va_S A s.heap s.heap [] → mx_Z tO A s s.heap → lv_has ls nL [(0, .ref h0)] →
      W p l e rm s m [Value.ref h0].toArray below meth cd s.heap [] 0 0 (MQ below (kx_Qs sy D cy h0 tO A I) [Value.ref h0].toArray s rm.cells rm.slots A) (F0 m 0 ls [])) : kx_Sy sy ci icd nL fs rm I := by
  intro l D cy h0 tO sz
  refine Met.ofW (cc := icd) (maxL := nL) (ret := none) hpl rfl ?_
  intro p e s m args below meth cd s₁ B hml hv
  obtain ⟨rfl, hsz, hP, hT, hZ⟩ := hv
  subst hsz
  have hts := atoms_spec (ws := .code (kw_y (mx_cn ci)) icd nL none :: mx_good) B.pre
  have X : kx_X ci icd nL D cy p s m [Value.ref h0].toArray cd := ⟨B.exec, B.bytes, hml, findClass_of_methodNamed B.named, fun w hw => hts w (List.mem_cons_of_mem _ hw), hT⟩
  have hl := lv_entry ([.ref h0]) (n := nL) hnL
  rw [lg_entry_eq]
  exact body l D cy h0 tO p e s m below meth cd (va_A [(h0, .inr (ci, fs))] s.heap.size) _ X B.returns B.notSynchronized (name_of_methodNamed B.named B.method).1 hP kx_D1 (fun q h => Or.inr h) va_S.rf hZ hl
section KG
variable {p : Program} {l : Launch} {e : Env} {R : Room} {s : State} {m : MethodId} {args : Array Value} {below : List Frame} {meth : Method} {cd : Code} {H : Heap} {locs : List Loc} {cells slots : Nat} {Q : State → Prop}
variable {own nL pc : Nat} {cc : ByteArray} {ls : Array Slot} {rest : List Value} {D : va_G} {cy : Nat → ClassId} {A : Nat → Prop} {H0 : Heap} {sy : Nat} {ad : Nat → Nat} {c : mx_M}
theorem k_get {i a b idx : Nat} {fs : List (Option Nat)} (v : Value) (X : kx_X own cc nL D cy p s m args cd) (hP : va_P D vwCl (mx_W sy cy ad c) H) (hi : i < mx_N sy) (hsh : mx_sh sy i = .inl (a, fs)) (hlk : (mx_inF mx_flP own idx a b || mx_inF mx_flN own idx a b) = true) (hv : (fs[b]?).map (fun o => match o with | none => Value.int (c i b) | some q => Value.ref (ad q)) = some v) (hdg : decode cc pc = .ok (.getfield idx, 3)) (kk : W p l e R s m args below meth cd H locs cells slots Q (F0 m (pc + 3) ls (v :: rest))) : W p l e R s m args below meth cd H locs cells slots Q (F0 m pc ls (.ref (ad i) :: rest)) := by
  obtain ⟨h7, hlen, -⟩ := mx_sh_obj hi hsh
  obtain ⟨hc, hc1, -, -⟩ := mx_cl7 a h7
  have he : (mx_W sy cy ad c)[i]? = some (ad i, .inr (a, mx_fl ad (c i) 0 fs)) := by rw [mx_W_at hi, hsh]; rfl
  have hv2 : (mx_fl ad (c i) 0 fs)[b]? = some v := by rw [mx_fl_at, Nat.zero_add]; exact hv
  have hbl : b < mx_nf a := by
    have := (List.getElem?_eq_some_iff.mp hv2).1
    rw [mx_fl_len, hlen] at this
    exact this
  rcases (Bool.or_eq_true _ _).mp hlk with h | h
  · exact va_get (D := D) (T := mx_T a) X.1 X.2.1 X.2.2.2.2.1 (mx_inG a _ hc) X.2.2.2.1 (kx_K X) hP i he hc b hbl (kx_ts X (mx_flP_mem h)) (fun x h9 => by rw [hc1 b hbl] at h9; exact h9) hv2 hdg kk
  · exact va_getN (D := D) (T := mx_T a) X.1 X.2.1 X.2.2.2.2.1 (mx_inG a _ hc) X.2.2.2.1 (kx_K X) hP i he hc b hbl (va_Nw.use rfl (X.2.2.2.2.2.1 _ (mx_flN_mem h))) (fun x h9 => by rw [hc1 b hbl] at h9; exact h9) hv2 hdg kk
/-- the static row and the frame, at a later heap -/
theorem kx_Zat (hZ : mx_Z (ad 1000) A s s.heap) (hS : va_S A s.heap H locs) (hA : ∀ q, s.heap.size ≤ q → A q) (hAd : ∀ i, i < mx_N sy → A (ad i)) : mx_Z (ad 1000) (mx_A sy ad H.size) s H ∧ ∀ q, mx_A sy ad H.size q → A q := by
  have hq : ∀ q, mx_A sy ad H.size q → A q := by
    intro q h
    rcases h with ⟨i, hi, rfl⟩ | h
    · exact hAd i hi
    · exact hA q (Nat.le_trans hS.1 h)
  exact ⟨⟨(hZ.1.kept hS.2.1).narrow hq, (hZ.2.kept hS.2.1).narrow hq⟩, hq⟩
theorem k_put2 {Y : va_W} {h0 idx : Nat} {fs : List Value} {v : Value} (X : kx_X own cc nL D cy p s m args cd) (hin : meth.name = "<init>") (hP : va_P D vwCl ((h0, .inr (own, fs)) :: Y) H) (hD : va_D A ((h0, .inr (own, fs)) :: Y)) (hS : va_S A H0 H locs) (b : Nat) (hck : (Nat.blt own 7 && Nat.blt b (mx_nf own) && mx_inF mx_flP own idx own b) = true) (hlen : Nat.beq fs.length (mx_nf own) = true) (hn : narrow (mx_ty own b) v = v) (hfit : fits (mx_ty own b) v = true) (hdg : decode cc pc = .ok (.putfield idx, 3))
    (kk : ∀ (H1 : Heap) (locs1 : List Loc), va_P D vwCl ((h0, .inr (own, fs.set b v)) :: Y) H1 → va_D A ((h0, .inr (own, fs.set b v)) :: Y) → va_S A H0 H1 locs1 → W p l e R s m args below meth cd H1 locs1 cells slots Q (F0 m (pc + 3) ls rest)) : W p l e R s m args below meth cd H locs cells slots Q (F0 m pc ls (v :: .ref h0 :: rest)) := k_put X hin hP hD hS b (by rw [Bool.and_eq_true]; exact ⟨hck, hlen⟩) hn hfit hdg kk
theorem kx_of_D (hD : va_D A (mx_W sy cy ad c)) : mx_inj sy ad ∧ ∀ i, i < mx_N sy → A (ad i) := ⟨fun i j hi hj h => hD.1 i j _ _ (mx_W_at hi) (mx_W_at hj) h, fun i hi => hD.2 i _ (mx_W_at hi)⟩
/-- the reference's constructor, behind its rows -/
theorem tl_Mo (X : kx_X 6 prog_8_method_1_code 1 D cy p s m args cd) (hr : meth.sig.returnType = none) (hlocks : meth.locks = false) (hl : lv_has ls 1 [(0, .ref (ad 0))]) (hP : va_P D vwCl (mx_W 1 cy ad c) H) (hinj : mx_inj 1 ad) (hS : va_S A s.heap H locs) (hA : ∀ q, s.heap.size ≤ q → A q) (hAd : ∀ i, i < mx_N 1 → A (ad i)) (hZ : mx_Z (ad 1000) A s s.heap) (hR : 3 ≤ R.frames ∧ 171 ≤ R.locals) (hcs : cells ≤ R.cells ∧ slots ≤ R.slots) {Qc : Array Value → State → Outcome → State → Prop} (hq : ∀ (c' : mx_M) (t : State), rI c' a00 → va_P D vwCl (mx_W 1 cy ad c') t.heap → va_F A s t → Qc args s (.returned none) t) : W p l e R s m args below meth cd H locs cells slots (MQ below Qc args s cells slots A) (F0 m 145 ls []) := by
  obtain ⟨hR1, hR2⟩ := hR
  have hn3 : mn 3 := ⟨by decide, by decide⟩
  have hk0 : 0 < mfact 3 := by decide
  refine lv_aload_n X.1 X.2.1 dk_Mo_145 rfl (lv_at hl 0 rfl) ?_
  have z := kx_Zat hZ hS hA hAd
  refine kx_after (kx_runV (i := 0) (As := []) (rest := []) X (sp_Mo_begins c) (Or.inl (kx_ts X (mx_mem (p := 656) (by decide +kernel) rfl))) rfl hP hinj z.1 rfl hl.1 (Nat.zero_le _) ⟨by omega, by omega⟩ hcs dk_Mo_146) hS z.2 (fun r c1 H locs hr1 hP hS _ _ => ?_)
  obtain ⟨rfl, f1, e10, e11, e2⟩ := hr1
  refine lv_aload_n X.1 X.2.1 dk_Mo_149 rfl (lv_at hl 0 rfl) ?_
  refine lv_iconst (v := nI 0) X.1 X.2.1 dk_Mo_150 (by decide) ?_
  refine lv_aload_n X.1 X.2.1 dk_Mo_151 rfl (lv_at hl 0 rfl) ?_
  refine k_get (.int (c1 0 10)) X hP (by decide) rfl (b := 10) rfl rfl dk_Mo_152 ?_
  rw [e10]
  have z := kx_Zat hZ hS hA hAd
  refine kx_after (kx_runV (i := 0) (As := [.int (nI 0), .int (nI 3)]) (rest := []) X (sp_Mo_orderOf c1 3 0 hn3 hk0) (Or.inl (kx_ts X (mx_mem (p := 660) (by decide +kernel) rfl))) rfl hP hinj z.1 rfl hl.1 (Nat.zero_le _) ⟨by omega, by omega⟩ hcs dk_Mo_155) hS z.2 (fun r c2 H locs hr2 hP hS _ _ => ?_)
  obtain ⟨rfl, hc2⟩ := hr2
  have f2 : ∀ i, i ≠ 14 → c2 i = c1 i := fun i hi => by rw [hc2, mx_upR_rid _ _ _ _ hi]
  refine lv_aload_n X.1 X.2.1 dk_Mo_158 rfl (lv_at hl 0 rfl) ?_
  refine lv_aload_n X.1 X.2.1 dk_Mo_159 rfl (lv_at hl 0 rfl) ?_
  refine k_get (.ref (ad 2)) X hP (by decide) rfl (b := 12) rfl rfl dk_Mo_160 ?_
  refine lv_aload_n X.1 X.2.1 dk_Mo_163 rfl (lv_at hl 0 rfl) ?_
  refine k_get (.int (c2 0 10)) X hP (by decide) rfl (b := 10) rfl rfl dk_Mo_164 ?_
  rw [f2 0 (by decide), e10]
  have hfl : ∀ p, p < 3 → mo 3 0 p < 3 := fun p hp => mo_lt hn3 hk0 hp
  have z := kx_Zat hZ hS hA hAd
  refine kx_after (kx_runV (i := 0) (As := [.ref 2, .int (nI 3)]) (rest := []) X (sp_Mo_lays2 c2 (f := mo 3 0) hn3 hfl (fun p hp => by rw [hc2, mx_upR_row, fa_fill_in hp])) (Or.inl (kx_ts X (mx_mem (p := 670) (by decide +kernel) rfl))) rfl hP hinj z.1 rfl hl.1 (Nat.zero_le _) ⟨by omega, by omega⟩ hcs dk_Mo_167) hS z.2 (fun r c3 H locs hr3 hP hS _ _ => ?_)
  obtain ⟨rfl, f3, g3, h3, t3⟩ := hr3
  refine lv_aload_n X.1 X.2.1 dk_Mo_170 rfl (lv_at hl 0 rfl) ?_
  have z := kx_Zat hZ hS hA hAd
  have hp : rP (c3 2) 3 0 (pOrd 3 (fun _ _ => 0) (mo 3 0)) := ⟨fun j hj => absurd hj (Nat.not_lt_zero j), fun i q hi => absurd hi (Nat.not_lt_zero i), mT_tree.mpr ⟨tT hfl 2 (mo 3 0 0) (by decide) (hfl 0 (by decide)), tL_63 hn3⟩, t3⟩
  refine kx_after (kx_runV (i := 0) (As := []) (rest := []) X (sp_Mo_settles c3 (T := fun _ => 0) (S := fun _ => (0, 0, 0)) (U := fun _ => pOrd 3 (fun _ _ => 0) (mo 3 0)) hn3 (Nat.zero_le 9) (by rw [g3 10 (by decide), f2 0 (by decide)]; exact e10) (by rw [g3 11 (by decide), f2 0 (by decide)]; exact e11) hp) (Or.inl (kx_ts X (mx_mem (p := 681) (by decide +kernel) rfl))) rfl hP hinj z.1 rfl hl.1 (Nat.zero_le _) ⟨by omega, by omega⟩ hcs dk_Mo_171) hS z.2 (fun r c4 H locs hr4 hP hS _ _ => ?_)
  obtain ⟨rfl, hI⟩ := hr4
  exact W.vret X.1 X.2.1 hr (fun t ht hW => hq c4 t hI (by rw [ht]; exact hP) (hS.F ht)) hS.2.2 dk_Mo_174 hlocks
theorem sp_Pi_empty6 (c : mx_M) (v : Int32) : mx_Spec 0 1 m_Pi_empty [.ref 6, .int v] c (fun r c' => r = none ∧ c' = mx_up (mx_up (mx_up c 6 2 v) 6 3 0) 6 4 0) := by
  refine mx_Spec_E rfl rfl rfl ?_
  refine mR 9 rfl trivial ?_
  exact mx_E_vret rfl rfl ⟨rfl, rfl⟩
/-- the class's constructor, behind its rows -/
theorem tl_De (X : kx_X 5 prog_1_method_1_code 2 D cy p s m args cd) (hr : meth.sig.returnType = none) (hlocks : meth.locks = false) (hl : lv_has ls 2 [(0, .ref (ad 0))]) (hP : va_P D vwCl (mx_W 0 cy ad c) H) (hinj : mx_inj 0 ad) (hS : va_S A s.heap H locs) (hA : ∀ q, s.heap.size ≤ q → A q) (hAd : ∀ i, i < mx_N 0 → A (ad i)) (hZ : mx_Z (ad 1000) A s s.heap) (hR : 9 ≤ R.frames ∧ 555 ≤ R.locals) (hcs : cells ≤ R.cells ∧ slots ≤ R.slots) (i1 : c 1 2 = 0) (i2 : c 27 3 = 0) (i3 : c 0 7 = 0) (i4 : c 0 9 = 0) (i5 : ∀ i, i < 10 → c 25 i = nI (35 + 3 * i)) (i6 : ∀ i, i < 2 → c 26 i = nI (65 + 3 * i)) {Qc : Array Value → State → Outcome → State → Prop} (hq : ∀ (c' : mx_M) (t : State), cI c' a00 → va_P D vwCl (mx_W 0 cy ad c') t.heap → va_F A s t → Qc args s (.returned none) t) : W p l e R s m args below meth cd H locs cells slots (MQ below Qc args s cells slots A) (F0 m 193 ls []) := by
  obtain ⟨hR1, hR2⟩ := hR
  have hn3 : mn 3 := ⟨by decide, by decide⟩
  have hk0 : 0 < mfact 3 := by decide
  refine lv_aload_n X.1 X.2.1 dk_De_193 rfl (lv_at hl 0 rfl) ?_
  refine k_get (.ref (ad 6)) X hP (by decide) rfl (b := 1) rfl rfl dk_De_194 ?_
  refine lv_iconst (v := 3) X.1 X.2.1 dk_De_197 (by decide) ?_
  have z := kx_Zat hZ hS hA hAd
  refine kx_after (kx_runV (i := 6) (As := [.int 3]) (rest := []) X (sp_Pi_empty6 c 3) (Or.inr (va_Nw.use rfl (X.2.2.2.2.2.1 _ (mx_mlN_mem (own := 5) (by rfl))))) rfl hP hinj z.1 rfl hl.1 (Nat.zero_le _) ⟨by omega, by omega⟩ hcs dk_De_198) hS z.2 (fun r c1 H locs hr1 hP hS _ _ => ?_)
  obtain ⟨rfl, hc1⟩ := hr1
  have f1 : ∀ i, i ≠ 6 → c1 i = c i := fun i hi => by rw [hc1, mx_up_rid _ _ _ _ _ hi, mx_up_rid _ _ _ _ _ hi, mx_up_rid _ _ _ _ _ hi]
  have e2 : c1 6 2 = nI 3 := by rw [hc1, mx_up_ix _ _ _ _ _ _ (by decide), mx_up_ix _ _ _ _ _ _ (by decide), mx_up_same]; rfl
  have e3 : c1 6 3 = nI 0 := by rw [hc1, mx_up_ix _ _ _ _ _ _ (by decide), mx_up_same]; rfl
  refine lv_iconst (v := nI 0) X.1 X.2.1 dk_De_201 (by decide) ?_
  refine lv_aload_n X.1 X.2.1 dk_De_202 rfl (lv_at hl 0 rfl) ?_
  refine k_get (.ref (ad 6)) X hP (by decide) rfl (b := 1) rfl rfl dk_De_203 ?_
  refine k_get (.int (c1 6 2)) X hP (by decide) rfl (b := 2) rfl rfl dk_De_206 ?_
  rw [e2]
  refine lv_aload_n X.1 X.2.1 dk_De_209 rfl (lv_at hl 0 rfl) ?_
  refine k_get (.ref (ad 31)) X hP (by decide) rfl (b := 11) rfl rfl dk_De_210 ?_
  have z := kx_Zat hZ hS hA hAd
  refine kx_after (kx_runS (As := [.int (nI 0), .int (nI 3), .ref 31]) (rest := []) X (sp_De_layOrder c1 3 0 hn3 hk0) (kx_ts X (mx_mem (p := 245) (by decide +kernel) rfl)) rfl hP hinj z.1 rfl hl.1 (Nat.zero_le _) ⟨by omega, by omega⟩ hcs dk_De_213) hS z.2 (fun r c2 H locs hr2 hP hS _ _ => ?_)
  obtain ⟨rfl, hc2⟩ := hr2
  have f2 : ∀ i, i ≠ 31 → c2 i = c1 i := fun i hi => by rw [hc2, mx_upR_rid _ _ _ _ hi]
  have hfl : ∀ p, p < 3 → mo 3 0 p < 3 := fun p hp => mo_lt hn3 hk0 hp
  refine lv_aload_n X.1 X.2.1 dk_De_216 rfl (lv_at hl 0 rfl) ?_
  refine k_get (.ref (ad 6)) X hP (by decide) rfl (b := 1) rfl rfl dk_De_217 ?_
  refine lv_aload_n X.1 X.2.1 dk_De_220 rfl (lv_at hl 0 rfl) ?_
  refine k_get (.ref (ad 31)) X hP (by decide) rfl (b := 11) rfl rfl dk_De_221 ?_
  have z := kx_Zat hZ hS hA hAd
  refine kx_after (kx_runV (i := 6) (As := [.ref 31]) (rest := []) X (sp_Pi_plant c2 (f := mo 3 0) hn3 hfl (by rw [f2 6 (by decide)]; exact e2) (fun p hp => by rw [hc2, mx_upR_row, fa_fill_in hp])) (Or.inr (va_Nw.use rfl (X.2.2.2.2.2.1 _ (mx_mlN_mem (own := 5) (by rfl))))) rfl hP hinj z.1 rfl hl.1 (Nat.zero_le _) ⟨by omega, by omega⟩ hcs dk_De_224) hS z.2 (fun r c3 H locs hr3 hP hS _ _ => ?_)
  obtain ⟨rfl, f3, k3, n3, w3⟩ := hr3
  have p3 : cP c3 6 7 8 3 0 (pOrd 3 (fun _ _ => 0) (mo 3 0)) := ⟨by rw [k3 2 (by decide), f2 6 (by decide)]; exact e2, by rw [k3 3 (by decide), f2 6 (by decide)]; exact e3, n3, fun j hj => absurd hj (Nat.not_lt_zero j), fun i q hi => absurd hi (Nat.not_lt_zero i), mT_tree.mpr ⟨tT hfl 2 (mo 3 0 0) (by decide) (hfl 0 (by decide)), tL_63 hn3⟩, w3⟩
  have z3 : ∀ r, r ≠ 6 → r ≠ 8 → r ≠ 31 → c3 r = c r := fun r h1 h2 h3 => by rw [f3 r (by simp; omega), f2 r h3, f1 r h1]
  have hJ : cJ c3 a00 := ⟨⟨hn3, Nat.zero_le 9⟩, p3, ⟨by rw [z3 1 (by decide) (by decide) (by decide), i1]; rfl, Nat.zero_le _, fun i hi => absurd hi (Nat.not_lt_zero i)⟩, ⟨by rw [z3 27 (by decide) (by decide) (by decide), i2]; rfl, Nat.zero_le _, fun i hi => absurd hi (Nat.not_lt_zero i)⟩, ⟨by rw [z3 0 (by decide) (by decide) (by decide), i3]; rfl, Nat.zero_le _, fun i => i, fun i hi => ⟨hi, by rw [z3 25 (by decide) (by decide) (by decide)]; exact i5 i hi⟩, fun i j _ _ h => h, fun i hi => absurd hi (Nat.not_lt_zero i)⟩, ⟨fun i hi => by rw [z3 26 (by decide) (by decide) (by decide)]; exact i6 i hi, 0, by rw [z3 0 (by decide) (by decide) (by decide), i4]; rfl, by decide, fun i hi => ⟨by rw [Nat.zero_testBit]; rfl, fun p w => by cases w⟩⟩⟩
  refine lv_aload_n X.1 X.2.1 dk_De_227 rfl (lv_at hl 0 rfl) ?_
  have z := kx_Zat hZ hS hA hAd
  refine kx_after (kx_runV (i := 0) (As := []) (rest := []) X (sp_De_settle c3 hn3 (Nat.zero_le 9) hJ.2.1) (Or.inl (kx_ts X (mx_mem (p := 262) (by decide +kernel) rfl))) rfl hP hinj z.1 rfl hl.1 (Nat.zero_le _) ⟨by omega, by omega⟩ hcs dk_De_228) hS z.2 (fun r c4 H locs hr4 hP hS _ _ => ?_)
  obtain ⟨rfl, f4, hB⟩ := hr4
  exact W.vret X.1 X.2.1 hr (fun t ht hW => hq c4 t (cI_set hJ f4 hB) (by rw [ht]; exact hP) (hS.F ht)) hS.2.2 dk_De_231 hlocks
end KG
