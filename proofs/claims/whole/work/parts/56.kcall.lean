/-! constructors step by step; calls of a system's methods from any frame (a constructor's, the law's) -/
def kw_y (C : String) : MethodName := ⟨C, "<init>", "()V"⟩
/-- constructors of nest mates: who links, index, whose, place of the word -/
def kw_inits : List (Nat × Nat × Nat × Nat) := [(5, 9, 3, 108), (3, 17, 1, 114), (5, 18, 1, 174), (5, 25, 4, 177), (5, 32, 0, 204), (5, 59, 2, 223)]
abbrev kw_nw (e : Nat × Nat × Nat × Nat) : Cond := .methodLinkNest (mx_cn e.1) e.2.1 (kw_y (mx_cn e.2.2.1)) "MotionDesk"
theorem kw_inits_ok : kw_inits.all (fun e => decide (lw_tbl[e.2.2.2]? = some (kw_nw e))) = true := by decide +kernel
/-- what the tables say, wherever one stands -/
def kx_T (D : va_G) (cy : Nat → ClassId) (s : State) : Prop := (∀ w ∈ mx_nest, va_Nw w s) ∧ (∀ e ∈ kw_inits, va_Nw (kw_nw e) s) ∧ va_K D vwCl (mx_tys cy) s ∧ va_AO "MotionDesk$Picture" s
theorem kx_Twarm {D : va_G} {cy : Nat → ClassId} {s U : State} (hW : s.WarmedH U.vm) (h : kx_T D cy s) : kx_T D cy U := ⟨mx_nest_warm hW h.1, fun e he => va_Nw.warmM hW (h.2.1 e he), va_K.moved hW.alike h.2.2.1, va_AO.moved hW.alike h.2.2.2⟩
theorem kx_Tcall {D : va_G} {cy : Nat → ClassId} {U : State} (a : Array Value) (g : JFrame) (mk : MethodId) (h : kx_T D cy U) : kx_T D cy (U.calling g mk a) := ⟨fun w hw => va_Nw.same (u := U) (U := U.calling g mk a) (mx_nest_on w hw) rfl (h.1 w hw), fun e he => va_Nw.same (u := U) (U := U.calling g mk a) rfl rfl (h.2.1 e he), va_K.moved (u := U) (U := U.calling g mk a) (Vm.Alike.refl U.vm) h.2.2.1, va_AO.moved (u := U) (U := U.calling g mk a) (Vm.Alike.refl U.vm) h.2.2.2⟩
/-- what is known of a frame: the machine, its code, the tables' words -/
def kx_X (own : Nat) (cc : ByteArray) (nL : Nat) (D : va_G) (cy : Nat → ClassId) (p : Program) (s : State) (m : MethodId) (args : Array Value) (cd : Code) : Prop :=
  p.tables.exec = Jvm.exec ∧ cd.code = cc ∧ cd.maxLocals = nL ∧ s.vm.findClass (mx_cn own) = some m.cls ∧ (∀ w ∈ mx_good, w.before args s = true) ∧ kx_T D cy s
theorem kx_cn7 : ∀ ci, ci < 7 → mx_cn ci ≠ "java/lang/invoke/MethodHandle" ∧ mx_cn ci ≠ "java/lang/invoke/VarHandle" := by decide +kernel
theorem kx_goodIn {w : Cond} (h : w ∈ mx_good) : GoodIn mx_good (w :: mx_good) := by
  intro v hv
  have hg : v ∈ mx_good := by
    rcases List.mem_cons.mp hv with e | e
    · rw [e]; exact h
    · exact e
  exact ⟨hg, good_of_word (List.mem_filter.mp hg).2⟩
theorem kx_nd : ∀ n, va_nd (List.range n) = true := by
  have h : ∀ l : List Nat, l.Nodup → va_nd l = true := by
    intro l
    induction l with
    | nil => intro _; rfl
    | cons a l ih =>
      intro hn
      rw [List.nodup_cons] at hn
      simp only [va_nd, Bool.and_eq_true, decide_eq_true_eq]
      exact ⟨hn.1, ih hn.2⟩
  exact fun n => h _ List.nodup_range
theorem kx_rng (Y Z : va_W) : (List.range Y.length).map (fun i => (Y ++ Z)[i]?) = Y.map some := by
  apply List.ext_getElem?
  intro k
  rw [List.getElem?_map, List.getElem?_map]
  by_cases hk : k < Y.length
  · rw [List.getElem?_range hk]
    show some ((Y ++ Z)[k]?) = _
    rw [List.getElem?_append_left hk, List.getElem?_eq_getElem hk]
    rfl
  · rw [List.getElem?_eq_none (by simp; omega), List.getElem?_eq_none (by omega)]
    rfl
/-- the array's contents count up to its length alone -/
theorem kx_arr {cA : ClassId} {n : Nat} {F G : Nat → Value} (h : ∀ j, j < n → F j = G j) : arrV cA n F = arrV cA n G := by
  have e : (Array.ofFn (n := n) fun j => F j.val) = (Array.ofFn (n := n) fun j => G j.val) := by
    congr 1
    funext j
    exact h j.val j.isLt
  unfold arrV
  rw [e]
/-- a nested constructor's contract: the block of cells that it makes -/
def kx_Pc (D : va_G) (cy : Nat → ClassId) (ci h0 : Nat) (fs : List Value) (sz : Nat) : Array Value → State → Prop := va_Pc [.ref h0] (fun U => U.heap.size = sz ∧ va_P D vwCl [(h0, .inr (ci, fs))] U.heap ∧ kx_T D cy U)
def kx_Qc (D : va_G) (Bk : (Nat → Nat) → va_W) (ci h0 : Nat) (fs : List Value) (sz : Nat) : Array Value → State → Outcome → State → Prop := va_Qv (S := Nat → Nat) (fun _ => True) (fun g t => va_P D vwCl (Bk g) t.heap ∧ va_D (va_A [(h0, .inr (ci, fs))] sz) (Bk g)) (va_A [(h0, .inr (ci, fs))] sz)
def kx_In (ci : Nat) (icd : ByteArray) (fs : List Value) (rm : Room) (Bk : (Nat → ClassId) → Nat → (Nat → Nat) → va_W) : Prop :=
  ∀ (l : Launch) (D : va_G) (cy : Nat → ClassId) (h0 sz : Nat), Met l (kw_y (mx_cn ci)) (.code (kw_y (mx_cn ci)) icd 1 none :: mx_good) rm (kx_Pc D cy ci h0 fs sz) (kx_Qc D (Bk cy h0) ci h0 fs sz) rm.cells rm.slots (va_A [(h0, .inr (ci, fs))] sz)
section KX
variable {p : Program} {l : Launch} {e : Env} {R : Room} {s : State} {m : MethodId} {args : Array Value} {below : List Frame} {meth : Method} {cd : Code} {H : Heap} {locs : List Loc} {cells slots : Nat} {Q : State → Prop}
variable {own nL pc : Nat} {cc : ByteArray} {ls : Array Slot} {rest : List Value} {D : va_G} {cy : Nat → ClassId} {A : Nat → Prop} {H0 : Heap} {Y : va_W}
theorem kx_ts (X : kx_X own cc nL D cy p s m args cd) {w : Cond} (h : w ∈ mx_good) : w.before args s = true := X.2.2.2.2.1 w h
theorem kx_K (X : kx_X own cc nL D cy p s m args cd) : va_K D vwCl (mx_tys cy) s := X.2.2.2.2.2.2.2.1
theorem kx_fix (X : kx_X own cc nL D cy p s m args cd) : CallFix p m cd cc nL s args mx_good (mx_cn own) := ⟨X.1, X.2.1, X.2.2.1, X.2.2.2.1, X.2.2.2.2.1⟩
theorem k_newI (X : kx_X own cc nL D cy p s m args cd) (hP : va_P D vwCl Y H) (hD : va_D A Y) (hS : va_S A H0 H locs) (hA : ∀ q, H0.size ≤ q → A q) {n : Int32} (N : Nat) (hn : ¬ n < 0) (hN : n.toNatClampNeg = N) (hb : N * 4 ≤ 536870912) (hc : cells + 1 ≤ R.cells) (hs : slots + N ≤ R.slots) (hdg : decode cc pc = .ok (.newarray .int, 2))
    (kk : ∀ (q : Nat) (H1 : Heap), va_P D vwCl (Y ++ [(q, .inl (cy 0, N, .inl (fun _ => 0)))]) H1 → va_D A (Y ++ [(q, .inl (cy 0, N, .inl (fun _ => 0)))]) → va_S A H0 H1 locs → W p l e R s m args below meth cd H1 locs (cells + 1) (slots + N) Q (F0 m (pc + 2) ls (.ref q :: rest))) : W p l e R s m args below meth cd H locs cells slots Q (F0 m pc ls (.int n :: rest)) := by
  refine va_newa (atype := .int) (ty := .int) (a0 := (N, .inl (fun _ => 0))) X.1 X.2.1 (kx_ts X (mx_mem (p := 147) (by decide +kernel) rfl)) rfl (kx_K X) hP hD hS hA (fun cA => rfl) hn hN hb hc hs hdg (fun q cA H1 hK1 hP1 hD1 hS1 => ?_)
  have e1 : s.vm.findClass "[I" = some cA := va_nm_int (hK1.2 3 (cA, .int) rfl).2
  have e2 : s.vm.findClass "[I" = some (cy 0) := va_nm_int (hK1.2 0 (cy 0, .int) rfl).2
  have e3 : cA = cy 0 := Option.some.inj (e1.symm.trans e2)
  subst e3
  exact kk q H1 hP1 hD1 hS1
theorem k_newB (X : kx_X own cc nL D cy p s m args cd) (hP : va_P D vwCl Y H) (hD : va_D A Y) (hS : va_S A H0 H locs) (hA : ∀ q, H0.size ≤ q → A q) {n : Int32} (N : Nat) (hn : ¬ n < 0) (hN : n.toNatClampNeg = N) (hb : N * 1 ≤ 536870912) (hc : cells + 1 ≤ R.cells) (hs : slots + N ≤ R.slots) (hdg : decode cc pc = .ok (.newarray .boolean, 2))
    (kk : ∀ (q : Nat) (H1 : Heap), va_P D vwCl (Y ++ [(q, .inl (cy 1, N, .inl (fun _ => 0)))]) H1 → va_D A (Y ++ [(q, .inl (cy 1, N, .inl (fun _ => 0)))]) → va_S A H0 H1 locs → W p l e R s m args below meth cd H1 locs (cells + 1) (slots + N) Q (F0 m (pc + 2) ls (.ref q :: rest))) : W p l e R s m args below meth cd H locs cells slots Q (F0 m pc ls (.int n :: rest)) := by
  refine va_newa (atype := .boolean) (ty := .boolean) (a0 := (N, .inl (fun _ => 0))) X.1 X.2.1 (kx_ts X (mx_mem (p := 788) (by decide +kernel) rfl)) rfl (kx_K X) hP hD hS hA (fun cA => rfl) hn hN hb hc hs hdg (fun q cA H1 hK1 hP1 hD1 hS1 => ?_)
  have e1 : s.vm.findClass "[Z" = some cA := va_nm_boolean (hK1.2 3 (cA, .boolean) rfl).2
  have e2 : s.vm.findClass "[Z" = some (cy 1) := va_nm_boolean (hK1.2 1 (cy 1, .boolean) rfl).2
  have e3 : cA = cy 1 := Option.some.inj (e1.symm.trans e2)
  subst e3
  exact kk q H1 hP1 hD1 hS1
theorem k_newQ (X : kx_X own cc nL D cy p s m args cd) {idx : Nat} (hcl : Cond.classLink (mx_cn own) idx "MotionDesk$Picture" ∈ mx_good) (hP : va_P D vwCl Y H) (hD : va_D A Y) (hS : va_S A H0 H locs) (hA : ∀ q, H0.size ≤ q → A q) {n : Int32} (N : Nat) (hn : ¬ n < 0) (hN : n.toNatClampNeg = N) (hb : N * 4 ≤ 536870912) (hc : cells + 1 ≤ R.cells) (hs : slots + N ≤ R.slots) (hdg : decode cc pc = .ok (.anewarray idx, 3))
    (kk : ∀ (q : Nat) (H1 : Heap), va_P D vwCl (Y ++ [(q, .inl (cy 2, N, .inr (.inr (.inr (.inr (fun _ => none))))))]) H1 → va_D A (Y ++ [(q, .inl (cy 2, N, .inr (.inr (.inr (.inr (fun _ => none))))))]) → va_S A H0 H1 locs → W p l e R s m args below meth cd H1 locs (cells + 1) (slots + N) Q (F0 m (pc + 3) ls (.ref q :: rest))) : W p l e R s m args below meth cd H locs cells slots Q (F0 m pc ls (.int n :: rest)) := by
  refine va_newq X.1 X.2.1 X.2.2.2.1 (kx_ts X hcl) X.2.2.2.2.2.2.2.2 (kx_K X) hP hD hS hA hn hN hb hc hs hdg (fun q cA H1 hK1 hP1 hD1 hS1 => ?_)
  obtain ⟨-, -, -, -, -, e1⟩ := (hK1.2 3 (cA, .object "MotionDesk$Picture") rfl).2
  obtain ⟨-, -, -, -, -, e2⟩ := (hK1.2 2 (cy 2, .object "MotionDesk$Picture") rfl).2
  have e3 : cA = cy 2 := Option.some.inj (e1.symm.trans e2)
  subst e3
  exact kk q H1 hP1 hD1 hS1
/-- a field of the object itself, in its constructor -/
theorem k_put {h0 idx : Nat} {fs : List Value} {v : Value} (X : kx_X own cc nL D cy p s m args cd) (hin : meth.name = "<init>") (hP : va_P D vwCl ((h0, .inr (own, fs)) :: Y) H) (hD : va_D A ((h0, .inr (own, fs)) :: Y)) (hS : va_S A H0 H locs) (b : Nat) (hck : (Nat.blt own 7 && Nat.blt b (mx_nf own) && mx_inF mx_flP own idx own b && Nat.beq fs.length (mx_nf own)) = true) (hn : narrow (mx_ty own b) v = v) (hfit : fits (mx_ty own b) v = true) (hdg : decode cc pc = .ok (.putfield idx, 3))
    (kk : ∀ (H1 : Heap) (locs1 : List Loc), va_P D vwCl ((h0, .inr (own, fs.set b v)) :: Y) H1 → va_D A ((h0, .inr (own, fs.set b v)) :: Y) → va_S A H0 H1 locs1 → W p l e R s m args below meth cd H1 locs1 cells slots Q (F0 m (pc + 3) ls rest)) : W p l e R s m args below meth cd H locs cells slots Q (F0 m pc ls (v :: .ref h0 :: rest)) := by
  simp only [Bool.and_eq_true, Nat.blt_eq] at hck
  obtain ⟨⟨⟨h7, hbl⟩, hlk⟩, hlen0⟩ := hck
  have hlen := Nat.eq_of_beq_eq_true hlen0
  obtain ⟨hc, hc1, hty, hnm⟩ := mx_cl7 own h7
  have hl := kx_ts X (mx_flP_mem hlk)
  cases hf : (mx_T own b).2.2.2 with
  | true => exact va_putF (D := D) (T := mx_T own) X.1 X.2.1 X.2.2.2.2.1 (mx_inG own _ hc) (mx_ty own) hty hnm X.2.2.2.1 (kx_K X) hP hD hS 0 rfl hc b hbl hl (fun x h9 => by rw [hc1 b hbl] at h9; exact h9) hf hin (hc1 b hbl) (hty b hbl) hn hfit (by omega) hdg kk
  | false => exact va_put (D := D) (T := mx_T own) X.1 X.2.1 X.2.2.2.2.1 (mx_inG own _ hc) (mx_ty own) hty hnm X.2.2.2.1 (kx_K X) hP hD hS 0 rfl hc b hbl hl (fun x h9 => by rw [hc1 b hbl] at h9; exact h9) hf (hty b hbl) hn hfit (by omega) hdg kk
theorem k_obj {a idx : Nat} (X : kx_X own cc nL D cy p s m args cd) (hlk : Cond.methodLink (mx_cn own) idx Lib.objectInit ∈ mx_good) (hl : ls.size = nL) (hdg : decode cc pc = .ok (.invokespecial idx, 3)) (hf : 1 ≤ R.frames) (hlo : 12 ≤ R.locals) (kk : W p l e R s m args below meth cd H locs cells slots Q (F0 m (pc + 3) ls [])) : W p l e R s m args below meth cd H locs cells slots Q (F0 m pc ls [.ref a]) := by
  refine W.objInit X.1 X.2.1 X.2.2.2.1 (kx_ts X hlk) (kx_ts X (mx_mem (p := 104) (by decide +kernel) rfl)) (kx_ts X (mx_mem (p := 105) (by decide +kernel) rfl)) rfl (by rw [X.2.2.1]; exact hl) rfl hdg hf hlo ?_
  exact W.eq (g2 := F0 m (pc + 3) ls []) rfl kk
/-- an object of a nest mate's is made -/
theorem k_mk {ci i1 i2 k6 : Nat} {icd : ByteArray} {fs : List Value} {rm : Room} {Bk : (Nat → ClassId) → Nat → (Nat → Nat) → va_W} (X : kx_X own cc nL D cy p s m args cd) (hM : kx_In ci icd fs rm Bk) (h7 : ci < 7)
    (w1 : Cond.classLink (mx_cn own) i1 (mx_cn ci) ∈ mx_good) (w2 : Cond.instantiable (mx_cn ci) (mx_nf ci) ∈ mx_good) (w3 : Cond.initialized (mx_cn ci) ∈ mx_good) (w4 : Cond.instanceMethod (kw_y (mx_cn ci)) ∈ mx_good) (w5 : Cond.code (kw_y (mx_cn ci)) icd 1 none ∈ mx_good) (w6 : (own, i2, ci, k6) ∈ kw_inits)
    (hfs : ∀ j, j < mx_nf ci → defaultValue (mx_ty ci j) = vp_V fs j) (hP : va_P D vwCl Y H) (hD : va_D A Y) (hS : va_S A H0 H locs) (hA : ∀ q, H0.size ≤ q → A q) (hl : ls.size = nL) (hrs : (rest.map fun v => v.category).sum ≤ 7) (hR : rm.frames + 1 ≤ R.frames ∧ 8 + (1 + 11) + rm.locals ≤ R.locals) (hcs : cells + 1 + rm.cells ≤ R.cells ∧ slots + mx_nf ci + rm.slots ≤ R.slots)
    (d1 : decode cc pc = .ok (.new i1, 3)) (d2 : decode cc (pc + 3) = .ok (.dup, 1)) (d3 : decode cc (pc + 4) = .ok (.invokespecial i2, 3))
    (kk : ∀ (q : Nat) (g : Nat → Nat) (H1 : Heap) (locs1 : List Loc), va_P D vwCl (Y ++ Bk cy q g) H1 → va_D A (Y ++ Bk cy q g) → va_S A H0 H1 locs1 → W p l e R s m args below meth cd H1 locs1 (cells + 1 + rm.cells) (slots + mx_nf ci + rm.slots) Q (F0 m (pc + 7) ls (.ref q :: rest))) : W p l e R s m args below meth cd H locs cells slots Q (F0 m pc ls rest) := by
  obtain ⟨hc, hc1, hty, hnm⟩ := mx_cl7 ci h7
  refine va_new (ci := ci) (fs := fs) (C := mx_cn ci) (T := mx_T ci) (N := mx_nf ci) X.1 X.2.1 X.2.2.2.2.1 (mx_inG ci _ hc) (mx_ty ci) hty X.2.2.2.1 (kx_ts X w1) (kx_ts X w2) (kx_ts X w3) (kx_K X) hP hD hS hA hc hfs (by omega) (by omega) d1 (fun q H1 hP1 hD1 hS1 => ?_)
  refine lv_dup X.1 X.2.1 d2 rfl ?_
  have hq : (Y ++ [(q, (.inr (ci, fs) : va_E))])[Y.length]? = some (q, .inr (ci, fs)) := by
    rw [List.getElem?_append_right (Nat.le_refl _), Nat.sub_self]
    rfl
  have hPc : va_P D vwCl [(q, .inr (ci, fs))] H1 := by
    intro k x hk
    have hz : k < 1 := (List.getElem?_eq_some_iff.mp hk).1
    rw [show k = 0 by omega] at hk
    cases hk
    exact hP1 Y.length _ hq
  have hC : [Y.length].map (fun i => (Y ++ [(q, (.inr (ci, fs) : va_E))])[i]?) = [(q, (.inr (ci, fs) : va_E))].map some := by
    show [(Y ++ [(q, (.inr (ci, fs) : va_E))])[Y.length]?] = _
    rw [hq]
    rfl
  have hFc := va_free (wc := [(q, .inr (ci, fs))]) hD1 hS1 hA [Y.length] hC
  refine va_callv (va_runIN (As := []) (rest := .ref q :: rest) (host := "MotionDesk") (n := 0) (kx_fix X) (hM l D cy q H1.size) ⟨va_cnB 0 X.2.2.2.2.1 (kx_goodIn w5) rfl rfl rfl (X.2.2.2.2.2.2.1 _ w6) (kx_ts X w3) ⟨(kx_cn7 ci h7).1, (kx_cn7 ci h7).2, by show (parseMethodDescriptor "()V").map (fun d => d.parameters.length) = some 0; decide +kernel⟩ hR, rfl, kx_ts X w4⟩ ⟨fun a U g mk q => ⟨q.1, q.2.1, q.2.2.1, kx_Tcall a g mk q.2.2.2⟩, fun U hU hW => ⟨rfl, by rw [hU], by rw [hU]; exact hPc, kx_Twarm hW X.2.2.2.2.2⟩⟩ rfl rfl hl rfl (lv_room (by simp only [List.map_cons, List.sum_cons]; have : (Value.ref q).category = 1 := rfl; omega)) d3 ⟨hcs.1, hcs.2⟩) hS1 (fun q _ h => hFc q h) hFc (fun g t H2 locs2 ht hvm _ hB hz hk hS2 => ?_)
  obtain ⟨hP2, hD2⟩ := hB
  rw [ht] at hP2
  obtain ⟨hP3, hD3⟩ := va_join (wr := Y) (w1 := Bk cy q g) hP1 hD1 [Y.length] (List.range Y.length) hC (kx_rng Y _) (kx_nd _) (fun i hi h2 => by
    have h3 := List.mem_range.mp hi
    rw [List.mem_singleton.mp h2] at h3
    omega) hk hFc hP2 hD2
  exact kk q g H2 locs2 hP3 hD3 hS2
/-- what the tables say of a method -/
theorem kx_words {k : Nat} (ts : ∀ w ∈ mx_good, w.before args s = true) (hk : mx_mck k = true) :
    (∀ w ∈ mx_ws k, ∀ (a' : Array Value) (U : State), s.WarmedH U.vm → w.before a' U = true) ∧ (Cond.code (mx_y k) (mx_code k) (mx_maxL k) (mx_ret k)).before args s = true ∧ (Cond.initialized (mx_y k).cls).before args s = true ∧ ((mx_y k).cls ≠ "java/lang/invoke/MethodHandle" ∧ (mx_y k).cls ≠ "java/lang/invoke/VarHandle") ∧ (∀ sig, parseMethodDescriptor (mx_y k).desc = some sig → (mx_ps k).2.1 = sig.parameters.length) ∧ mx_maxL k ≤ 24 ∧ (mx_y k).cls = mx_cn (mx_own k) ∧
    ((mx_ps k).1 = true → (Cond.static (mx_y k)).before args s = true) ∧ ((mx_ps k).1 = false → (Cond.instanceMethod (mx_y k)).before args s = true ∧ (Cond.selects (mx_y k).cls (mx_y k) (mx_y k)).before args s = true) := by
  unfold mx_mck at hk
  simp only [Bool.and_eq_true, decide_eq_true_eq] at hk
  obtain ⟨⟨⟨⟨⟨⟨⟨⟨h1, h2⟩, h3⟩, h4⟩, h5⟩, -⟩, h7⟩, h8⟩, h9⟩ := hk
  have hc : Cond.code (mx_y k) (mx_code k) (mx_maxL k) (mx_ret k) ∈ mx_good := mx_mem h1 rfl
  refine ⟨fun w hw a' U hW => ?_, ts _ hc, ts _ (mx_mem h2 rfl), ⟨h3, h4⟩, fun sig hsig => ?_, h7, h8, fun hb => ?_, fun hb => ?_⟩
  · have hg : w ∈ mx_good := by
      rcases List.mem_cons.mp hw with h | h
      · rw [h]; exact hc
      · exact h
    exact word_at hW (good_of_word (List.mem_filter.mp hg).2) (ts _ hg)
  · rw [hsig] at h5
    exact (Option.some.inj h5).symm
  · rw [hb] at h9
    simp only [if_true, decide_eq_true_eq] at h9
    exact ts _ (mx_mem h9 rfl)
  · rw [hb] at h9
    simp only [Bool.false_eq_true, if_false, Bool.and_eq_true, decide_eq_true_eq] at h9
    exact ⟨ts _ (mx_mem h9.1 rfl), ts _ (mx_mem h9.2 rfl)⟩
theorem kx_pre {sy : Nat} {ad : Nat → Nat} {c : mx_M} (X : kx_X own cc nL D cy p s m args cd) (hP : va_P D vwCl (mx_W sy cy ad c) H) (hinj : mx_inj sy ad) (hZ : mx_Z (ad 1000) (mx_A sy ad H.size) s H) (av : List Value) :
    ∀ U : State, U.heap = H → s.WarmedH U.vm → mx_Pc sy D cy ad av c H.size (av.map (mx_tv ad)).toArray U := by
  intro U hU hW
  refine ⟨rfl, by rw [hU], by rw [hU]; exact hP, va_K.moved hW.alike (kx_K X), hinj, mx_nest_warm hW X.2.2.2.2.2.1, ?_⟩
  rw [hU]
  exact ⟨hZ.1.moved hW.alike, hZ.2.moved hW.alike⟩
/-- a system's method is called -/
theorem kx_runV {sy i k d1 idx : Nat} {ad : Nat → Nat} {c : mx_M} {As : List Value} {Q0 : Option Value → mx_M → Prop} {st : List Value} (X : kx_X own cc nL D cy p s m args cd) (hsp : mx_Spec sy d1 k (.ref i :: As) c Q0) (hlk : (Cond.methodLink (mx_cn own) idx (mx_y k)).before args s = true ∨ (Cond.methodLinkNest (mx_cn own) idx (mx_y k) "MotionDesk").before args s = true)
    (hck : (Nat.blt k mx_NM && !((mx_ps k).1) && mx_rcv sy k (.ref i :: As) && Nat.beq As.length (mx_ps k).2.1) = true) (hP : va_P D vwCl (mx_W sy cy ad c) H) (hinj : mx_inj sy ad) (hZ : mx_Z (ad 1000) (mx_A sy ad H.size) s H) (hst : st = (As.map (mx_tv ad)).reverse ++ .ref (ad i) :: rest) (hl : ls.size = nL) (hrs : (rest.map fun v => v.category).sum ≤ 8) (hR : d1 + 1 ≤ R.frames ∧ 64 * d1 + 43 ≤ R.locals) (hcs : cells ≤ R.cells ∧ slots ≤ R.slots) (hdg : decode cc pc = .ok (.invokevirtual idx, 3)) :
    va_Run p l e R s m args below meth cd H locs cells slots 0 0 (F0 m pc ls st) rest (mx_Qc sy D cy ad Q0 H.size (Value.ref (ad i) :: As.map (mx_tv ad)).toArray) (mx_A sy ad H.size) := by
  simp only [Bool.and_eq_true, Nat.blt_eq, Bool.not_eq_true'] at hck
  obtain ⟨⟨⟨hm0, hns⟩, hrc⟩, hlen0⟩ := hck
  have hlen := Nat.eq_of_beq_eq_true hlen0
  have hm : Nat.blt k mx_NM = true := by rw [Nat.blt_eq]; exact hm0
  unfold mx_rcv at hrc
  simp only [Bool.and_eq_true] at hrc
  obtain ⟨hi0, hsh0⟩ := hrc
  have hi : i < mx_N sy := by simpa [Nat.blt_eq] using hi0
  split at hsh0
  · rename_i ci fs hsh
    have hci : ci = mx_own k := beq_iff_eq.mp hsh0
    obtain ⟨h7, -, -⟩ := mx_sh_obj hi hsh
    obtain ⟨hc, -, -, -⟩ := mx_cl7 ci h7
    obtain ⟨w1, w2, w3, w4, w5, w6, w7, -, w9⟩ := kx_words X.2.2.2.2.1 (mx_mok_of hm)
    obtain ⟨w9a, w9b⟩ := w9 hns
    have he : (mx_W sy cy ad c)[i]? = some (ad i, .inr (ci, mx_fl ad (c i) 0 fs)) := by rw [mx_W_at hi, hsh]; rfl
    have hrv := va_recv (kx_K X) hP hc he
    have hcls : (mx_y k).cls = mx_cn ci := by rw [w7, hci]
    have hpre := kx_pre X hP hinj hZ (.ref i :: As)
    have hfr : (mx_rm d1).frames + 1 ≤ R.frames := hR.1
    have hlo : 8 + (mx_maxL k + 11) + (mx_rm d1).locals ≤ R.locals := by
      show 8 + (mx_maxL k + 11) + 64 * d1 ≤ R.locals
      omega
    have hn : (As.map (mx_tv ad)).length = (mx_ps k).2.1 := by rw [List.length_map]; exact hlen
    rcases hlk with h | h
    · exact va_runV (C := (mx_y k).cls) (As := As.map (mx_tv ad)) (kx_fix X) (hsp l D cy ad H.size) ⟨⟨rfl, rfl, hfr, hlo, w1, List.mem_cons_self, w2, w3, w4, w5, h⟩, w9a, w9b⟩ ⟨mx_Pc_blind, by rw [hcls]; exact hrv, hpre⟩ rfl hn hl hst (lv_room hrs) hdg hcs
    · exact va_runVN (C := (mx_y k).cls) (As := As.map (mx_tv ad)) (kx_fix X) (hsp l D cy ad H.size) ⟨⟨⟨rfl, rfl, hfr, hlo, w1, List.mem_cons_self⟩, w2, w3, w4, w5, h⟩, w9a, w9b⟩ ⟨mx_Pc_blind, by rw [hcls]; exact hrv, hpre⟩ rfl hn hl hst (lv_room hrs) hdg hcs
  · cases hsh0
theorem kx_runS {sy k d1 idx : Nat} {ad : Nat → Nat} {c : mx_M} {As : List Value} {Q0 : Option Value → mx_M → Prop} {st : List Value} (X : kx_X own cc nL D cy p s m args cd) (hsp : mx_Spec sy d1 k As c Q0) (hlk : (Cond.methodLink (mx_cn own) idx (mx_y k)).before args s = true)
    (hck : (Nat.blt k mx_NM && (mx_ps k).1 && Nat.beq As.length (mx_ps k).2.1) = true) (hP : va_P D vwCl (mx_W sy cy ad c) H) (hinj : mx_inj sy ad) (hZ : mx_Z (ad 1000) (mx_A sy ad H.size) s H) (hst : st = (As.map (mx_tv ad)).reverse ++ rest) (hl : ls.size = nL) (hrs : (rest.map fun v => v.category).sum ≤ 8) (hR : d1 + 1 ≤ R.frames ∧ 64 * d1 + 43 ≤ R.locals) (hcs : cells ≤ R.cells ∧ slots ≤ R.slots) (hdg : decode cc pc = .ok (.invokestatic idx, 3)) :
    va_Run p l e R s m args below meth cd H locs cells slots 0 0 (F0 m pc ls st) rest (mx_Qc sy D cy ad Q0 H.size (As.map (mx_tv ad)).toArray) (mx_A sy ad H.size) := by
  simp only [Bool.and_eq_true, Nat.blt_eq] at hck
  obtain ⟨⟨hm0, hns⟩, hlen0⟩ := hck
  have hlen := Nat.eq_of_beq_eq_true hlen0
  have hm : Nat.blt k mx_NM = true := by rw [Nat.blt_eq]; exact hm0
  obtain ⟨w1, w2, w3, w4, w5, w6, w7, w8, -⟩ := kx_words X.2.2.2.2.1 (mx_mok_of hm)
  have w8a := w8 hns
  have hpre := kx_pre X hP hinj hZ As
  have hfr : (mx_rm d1).frames + 1 ≤ R.frames := hR.1
  have hlo : 8 + (mx_maxL k + 11) + (mx_rm d1).locals ≤ R.locals := by
    show 8 + (mx_maxL k + 11) + 64 * d1 ≤ R.locals
    omega
  have hn : (As.map (mx_tv ad)).length = (mx_ps k).2.1 := by rw [List.length_map]; exact hlen
  exact va_runS (As := As.map (mx_tv ad)) (kx_fix X) (hsp l D cy ad H.size) ⟨⟨rfl, rfl, hfr, hlo, w1, List.mem_cons_self, w2, w3, w4, w5, hlk⟩, w8a⟩ ⟨mx_Pc_blind, hpre⟩ rfl hn hl hst (lv_room hrs) hdg hcs
/-- behind it -/
theorem kx_after {sy : Nat} {ad : Nat → Nat} {Q0 : Option Value → mx_M → Prop} {st : List Value} {a : Array Value} (hr : va_Run p l e R s m args below meth cd H locs cells slots 0 0 (F0 m pc ls st) rest (mx_Qc sy D cy ad Q0 H.size a) (mx_A sy ad H.size)) (hS : va_S A H0 H locs) (hA : ∀ q, mx_A sy ad H.size q → A q)
    (kk : ∀ (r : Option Value) (c1 : mx_M) (H1 : Heap) (locs1 : List Loc), Q0 r c1 → va_P D vwCl (mx_W sy cy ad c1) H1 → va_S A H0 H1 locs1 → H.size ≤ H1.size → (∀ q : Nat, q < H.size → ¬ mx_A sy ad H.size q → H1[q]? = H[q]?) → W p l e R s m args below meth cd H1 locs1 cells slots Q (F0 m (pc + 3) ls ((r.map (mx_tv ad)).toList ++ rest))) : W p l e R s m args below meth cd H locs cells slots Q (F0 m pc ls st) := by
  intro T hT X
  obtain ⟨v, st₀, t, T', L, h0, X', hL, e1, e2, ⟨⟨r, c1, hv, hq, hp⟩, hz, hk⟩, st⟩ := hr T hT X
  have ev : v = r.map (mx_tv ad) := by injection hv
  subst ev
  rw [h0] at hz hk
  obtain ⟨t2, a1, b1⟩ := kk r c1 T'.heap (locs ++ L) hq (by rw [e1]; exact hp)
    ⟨Nat.le_trans hS.1 (by rw [e1]; exact hz), fun q h1 h2 => by rw [e1, hk q (Nat.lt_of_lt_of_le h1 hS.1) (fun z => h2 (hA q z))]; exact hS.2.1 q h1 h2, fun q hq => by
      rcases List.mem_append.mp hq with h | h
      · exact hS.2.2 q h
      · exact hA _ (hL q h)⟩ (by rw [e1]; exact hz) (fun q h1 h2 => by rw [e1]; exact hk q h1 h2) T' rfl X'
  exact ⟨t2, st t2 a1, b1⟩
end KX
