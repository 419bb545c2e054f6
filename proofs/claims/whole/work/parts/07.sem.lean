/-! what the cells hold, by their numbers; one step; the judgement mx_E -/
abbrev mx_M : Type := Nat → Nat → Int32
def mx_up (c : mx_M) (i k : Nat) (x : Int32) : mx_M := fun i' k' => if i' = i ∧ k' = k then x else c i' k'
def mx_upR (c : mx_M) (i : Nat) (g : Nat → Int32) : mx_M := fun i' => if i' = i then g else c i'
theorem mx_up_R (c : mx_M) (i k : Nat) (x : Int32) : mx_up c i k x = mx_upR c i (upd (c i) k x) := by
  funext i' k'
  unfold mx_up mx_upR upd
  by_cases h : i' = i
  · subst h
    by_cases h2 : k' = k <;> simp [h2]
  · simp [h]
def mx_tv (ad : Nat → Nat) (v : Value) : Value := match v with
  | .ref i => .ref (ad i)
  | v => v
def mx_fl (ad : Nat → Nat) (g : Nat → Int32) : Nat → List (Option Nat) → List Value
  | _, [] => []
  | k, none :: r => .int (g k) :: mx_fl ad g (k + 1) r
  | k, some q :: r => .ref (ad q) :: mx_fl ad g (k + 1) r
def mx_cell (cy : Nat → ClassId) (ad : Nat → Nat) (g : Nat → Int32) (x : mx_Sh) : va_E := match x with
  | .inl (ci, fs) => .inr (ci, mx_fl ad g 0 fs)
  | .inr (0, n) => .inl (cy 0, n, .inl g)
  | .inr (1, n) => .inl (cy 1, n, .inl g)
  | .inr (_, n) => .inl (cy 2, n, .inr (.inr (.inr (.inr (fun j => some (ad (g j).toNatClampNeg))))))
def mx_W (sy : Nat) (cy : Nat → ClassId) (ad : Nat → Nat) (c : mx_M) : va_W := (List.range (mx_N sy)).map (fun i => (ad i, mx_cell cy ad (c i) (mx_sh sy i)))
theorem mx_W_at {sy : Nat} {cy : Nat → ClassId} {ad : Nat → Nat} {c : mx_M} {i : Nat} (h : i < mx_N sy) : (mx_W sy cy ad c)[i]? = some (ad i, mx_cell cy ad (c i) (mx_sh sy i)) := by
  unfold mx_W
  rw [List.getElem?_map, List.getElem?_range h]
  rfl
theorem mx_W_len {sy : Nat} {cy : Nat → ClassId} {ad : Nat → Nat} {c : mx_M} : (mx_W sy cy ad c).length = mx_N sy := by simp [mx_W]
theorem mx_W_inv {sy : Nat} {cy : Nat → ClassId} {ad : Nat → Nat} {c : mx_M} {i : Nat} {q : Nat × va_E} (h : (mx_W sy cy ad c)[i]? = some q) : i < mx_N sy ∧ q = (ad i, mx_cell cy ad (c i) (mx_sh sy i)) := by
  have hl : i < mx_N sy := by
    have := (List.getElem?_eq_some_iff.mp h).1
    rwa [mx_W_len] at this
  refine ⟨hl, ?_⟩
  rw [mx_W_at hl] at h
  exact (Option.some.inj h).symm
theorem mx_W_set {sy : Nat} {cy : Nat → ClassId} {ad : Nat → Nat} {c : mx_M} {i : Nat} {g : Nat → Int32} (h : i < mx_N sy) : (mx_W sy cy ad c).set i (ad i, mx_cell cy ad g (mx_sh sy i)) = mx_W sy cy ad (mx_upR c i g) := by
  apply List.ext_getElem?
  intro k
  by_cases hk : k < mx_N sy
  · rw [mx_W_at hk]
    by_cases e : k = i
    · subst e
      rw [List.getElem?_set_self (by rw [mx_W_len]; exact hk)]
      simp [mx_upR]
    · rw [List.getElem?_set_ne (Ne.symm e), mx_W_at hk]
      simp [mx_upR, e]
  · rw [List.getElem?_eq_none (by rw [List.length_set, mx_W_len]; omega), List.getElem?_eq_none (by rw [mx_W_len]; omega)]
theorem mx_fl_at (ad : Nat → Nat) (g : Nat → Int32) : ∀ (fs : List (Option Nat)) (k b : Nat), (mx_fl ad g k fs)[b]? = (fs[b]?).map (fun o => match o with | none => Value.int (g (k + b)) | some q => Value.ref (ad q))
  | [], k, b => by simp [mx_fl]
  | none :: r, k, 0 => by simp [mx_fl]
  | some q :: r, k, 0 => by simp [mx_fl]
  | none :: r, k, b + 1 => by
    simp only [mx_fl, List.getElem?_cons_succ]
    rw [mx_fl_at ad g r (k + 1) b, show k + 1 + b = k + (b + 1) by omega]
  | some q :: r, k, b + 1 => by
    simp only [mx_fl, List.getElem?_cons_succ]
    rw [mx_fl_at ad g r (k + 1) b, show k + 1 + b = k + (b + 1) by omega]
theorem mx_fl_same (ad : Nat → Nat) {g g' : Nat → Int32} : ∀ (fs : List (Option Nat)) (k : Nat), (∀ j, k ≤ j → g j = g' j) → mx_fl ad g k fs = mx_fl ad g' k fs
  | [], k, h => rfl
  | none :: r, k, h => by
    simp only [mx_fl]
    rw [h k (Nat.le_refl k), mx_fl_same ad r (k + 1) (fun j hj => h j (by omega))]
  | some q :: r, k, h => by
    simp only [mx_fl]
    rw [mx_fl_same ad r (k + 1) (fun j hj => h j (by omega))]
theorem mx_fl_set (ad : Nat → Nat) (g : Nat → Int32) (x : Int32) : ∀ (fs : List (Option Nat)) (k b : Nat), fs[b]? = some none → (mx_fl ad g k fs).set b (.int x) = mx_fl ad (upd g (k + b) x) k fs
  | [], k, b, h => by simp at h
  | none :: r, k, 0, h => by
    simp only [mx_fl, List.set_cons_zero, Nat.add_zero]
    rw [mx_fl_same ad (g := g) (g' := upd g k x) r (k + 1) (fun j hj => by simp [upd, show j ≠ k by omega])]
    simp [upd]
  | some q :: r, k, 0, h => by simp at h
  | none :: r, k, b + 1, h => by
    simp only [mx_fl, List.set_cons_succ]
    rw [mx_fl_set ad g x r (k + 1) b (by simpa using h), show k + 1 + b = k + (b + 1) by omega]
    simp [upd]
  | some q :: r, k, b + 1, h => by
    simp only [mx_fl, List.set_cons_succ]
    rw [mx_fl_set ad g x r (k + 1) b (by simpa using h), show k + 1 + b = k + (b + 1) by omega]
theorem mx_fl_len (ad : Nat → Nat) (g : Nat → Int32) : ∀ (fs : List (Option Nat)) (k : Nat), (mx_fl ad g k fs).length = fs.length
  | [], k => rfl
  | none :: r, k => by simp [mx_fl, mx_fl_len ad g r]
  | some q :: r, k => by simp [mx_fl, mx_fl_len ad g r]
def mx_inj (sy : Nat) (ad : Nat → Nat) : Prop := ∀ i j, i < mx_N sy → j < mx_N sy → ad i = ad j → i = j
def mx_A (sy : Nat) (ad : Nat → Nat) (sz : Nat) : Nat → Prop := fun q => (∃ i, i < mx_N sy ∧ q = ad i) ∨ sz ≤ q
theorem mx_D {sy : Nat} {cy : Nat → ClassId} {ad : Nat → Nat} {c : mx_M} (sz : Nat) (h : mx_inj sy ad) : va_D (mx_A sy ad sz) (mx_W sy cy ad c) := by
  refine ⟨fun i j p q hi hj hpq => ?_, fun k q hk => ?_⟩
  · obtain ⟨li, ei⟩ := mx_W_inv hi
    obtain ⟨lj, ej⟩ := mx_W_inv hj
    subst ei; subst ej
    exact h i j li lj hpq
  · obtain ⟨lk, ek⟩ := mx_W_inv hk
    subst ek
    exact Or.inl ⟨k, lk, rfl⟩
def mx_tys (cy : Nat → ClassId) : List (ClassId × FieldType) := [(cy 0, .int), (cy 1, .boolean), (cy 2, .object "MotionDesk$Picture")]
def mx_ord (k : Nat) : Int32 := match k with
  | 0 => 1
  | 1 => 1
  | 2 => 2
  | 3 => 6
  | 4 => 24
  | 5 => 120
  | _ => 720
def mx_Z (t : Nat) (A : Nat → Prop) (U : State) (H : Heap) : Prop := va_Z "MotionDesk" "ORDERS" "[I" (.ref t) A U H ∧ va_T .int t 7 (fun j => .int (mx_ord j)) A U H
def mx_rm (d : Nat) : Room := { frames := d, cells := 0, slots := 0, locals := 64 * d }
def mx_nest : List Cond := mx_flN.map mx_fwN ++ mx_mlN.map mx_mwN
def mx_Ctx (sy mi : Nat) (D : va_G) (cy : Nat → ClassId) (ad : Nat → Nat) (p : Program) (s : State) (m : MethodId) (args : Array Value) (meth : Method) (cd : Code) : Prop :=
  p.tables.exec = Jvm.exec ∧ cd.code = mx_code mi ∧ meth.sig.returnType = mx_ret mi ∧ cd.maxLocals = mx_maxL mi ∧ s.vm.findClass (mx_cn (mx_own mi)) = some m.cls ∧ (∀ w ∈ mx_good, w.before args s = true) ∧ (∀ w ∈ mx_nest, va_Nw w s) ∧ meth.locks = false ∧ va_K D vwCl (mx_tys cy) s ∧ mx_inj sy ad ∧ mx_Z (ad 1000) (mx_A sy ad s.heap.size) s s.heap
/-- the locals: what isn't .null is there -/
def mx_L (ad : Nat → Nat) (lsA : Array Slot) (nL : Nat) (ls : List Value) : Prop := lsA.size = nL ∧ lv_wf lsA ∧ ls.length = nL ∧ ∀ (k : Nat) (v : Value), ls[k]? = some v → v ≠ .null → lsA[k]? = some (.val (mx_tv ad v))
/-- a method's end -/
def mx_Qc (sy : Nat) (D : va_G) (cy : Nat → ClassId) (ad : Nat → Nat) (Q : Option Value → mx_M → Prop) (sz : Nat) : Array Value → State → Outcome → State → Prop := fun _ st oc t =>
  (∃ (r : Option Value) (c : mx_M), oc = .returned (r.map (mx_tv ad)) ∧ Q r c ∧ va_P D vwCl (mx_W sy cy ad c) t.heap) ∧ va_F (mx_A sy ad sz) st t
/-- from here, with these locals, this stack, these cells, the method comes to its end, and Q holds of its answer and the cells -/
def mx_E (sy d mi : Nat) (Q : Option Value → mx_M → Prop) (j : Nat) (ls st : List Value) (c : mx_M) : Prop :=
  ∀ (l : Launch) (D : va_G) (cy : Nat → ClassId) (ad : Nat → Nat) (p : Program) (e : Env) (s : State) (m : MethodId) (args : Array Value) (below : List Frame) (meth : Method) (cd : Code) (H : Heap) (locs : List Loc) (lsA : Array Slot),
    mx_Ctx sy mi D cy ad p s m args meth cd → va_P D vwCl (mx_W sy cy ad c) H → va_S (mx_A sy ad s.heap.size) s.heap H locs → mx_L ad lsA (mx_maxL mi) ls →
    W p l e (mx_rm d) s m args below meth cd H locs 0 0 (MQ below (mx_Qc sy D cy ad Q s.heap.size) args s 0 0 (mx_A sy ad s.heap.size)) (F0 m (mx_pc mi j) lsA (st.map (mx_tv ad)))
/-- a slot of one word is written: a long ahead of it, if it reached in here, is gone -/
def mx_cl (ls : List Value) (i : Nat) : List Value := match i with
  | 0 => ls
  | i + 1 => match ls[i]? with
    | some v => bif v.category == 2 then ls.set i .null else ls
    | none => ls
def mx_s1 (ls : List Value) (i : Nat) (v : Value) : List Value := (mx_cl ls i).set i v
def mx_s2 (ls : List Value) (i : Nat) (v : Value) : List Value := ((mx_cl ls i).set i v).set (i + 1) .null
/-- the list is looked at to its end -/
def mx_fc {α : Type} : List Value → (List Value → α) → α
  | [], k => k []
  | v :: r, k => mx_fc r (fun r' => k (v :: r'))
theorem mx_fc_eq {α : Type} : ∀ (l : List Value) (k : List Value → α), mx_fc l k = k l
  | [], k => rfl
  | v :: r, k => by
    unfold mx_fc
    rw [mx_fc_eq r]
abbrev mx_R : Type := Option (List Prop × Nat × List Value × List Value × mx_M)
def mx_ii (f : Int32 → Int32 → Int32) (nx : Nat) (ls st : List Value) (c : mx_M) : mx_R := match st with
  | .int y :: .int x :: r => some ([], nx, ls, .int (f x y) :: r, c)
  | _ => none
def mx_ll (f : Int64 → Int64 → Int64) (nx : Nat) (ls st : List Value) (c : mx_M) : mx_R := match st with
  | .long y :: .long x :: r => some ([], nx, ls, .long (f x y) :: r, c)
  | _ => none
def mx_ldI (nx a : Nat) (ls st : List Value) (c : mx_M) : mx_R := match ls[a]? with
  | some (.int x) => some ([], nx, ls, .int x :: st, c)
  | _ => none
def mx_ldL (nx a : Nat) (ls st : List Value) (c : mx_M) : mx_R := match ls[a]? with
  | some (.long x) => some ([], nx, ls, .long x :: st, c)
  | _ => none
def mx_ldA (nx a : Nat) (ls st : List Value) (c : mx_M) : mx_R := match ls[a]? with
  | some (.ref x) => some ([], nx, ls, .ref x :: st, c)
  | _ => none
def mx_stI (nx a : Nat) (ls st : List Value) (c : mx_M) : mx_R := match st with
  | .int x :: r => bif Nat.blt a ls.length then mx_fc (mx_s1 ls a (.int x)) (fun l => some ([], nx, l, r, c)) else none
  | _ => none
def mx_stL (nx a : Nat) (ls st : List Value) (c : mx_M) : mx_R := match st with
  | .long x :: r => bif Nat.blt (a + 1) ls.length then mx_fc (mx_s2 ls a (.long x)) (fun l => some ([], nx, l, r, c)) else none
  | _ => none
def mx_stA (nx a : Nat) (ls st : List Value) (c : mx_M) : mx_R := match st with
  | .ref x :: r => bif Nat.blt a ls.length then mx_fc (mx_s1 ls a (.ref x)) (fun l => some ([], nx, l, r, c)) else none
  | _ => none
def mx_gf (sy nx a b : Nat) (ls st : List Value) (c : mx_M) : mx_R := match st with
  | .ref i :: r => bif Nat.blt i (mx_N sy) then (match mx_sh sy i with
    | .inl (ci, fs) => bif ci == a then (match fs[b]? with
      | some none => some ([], nx, ls, .int (c i b) :: r, c)
      | some (some q) => some ([], nx, ls, .ref q :: r, c)
      | none => none) else none
    | .inr _ => none) else none
  | _ => none
def mx_pf (sy nx a b : Nat) (ls st : List Value) (c : mx_M) : mx_R := match st with
  | .int x :: .ref i :: r => bif Nat.blt i (mx_N sy) then (match mx_sh sy i with
    | .inl (ci, fs) => bif ci == a then (match fs[b]? with
      | some none => some ([], nx, ls, r, mx_up c i b x)
      | _ => none) else none
    | .inr _ => none) else none
  | _ => none
def mx_ial (sy nx : Nat) (ls st : List Value) (c : mx_M) : mx_R := match st with
  | .int k :: .ref i :: r => bif i == 1000 then some ([vp_in k 7], nx, ls, .int (mx_ord k.toNatClampNeg) :: r, c) else bif Nat.blt i (mx_N sy) then (match mx_sh sy i with
    | .inr (0, n) => some ([vp_in k n], nx, ls, .int (c i k.toNatClampNeg) :: r, c)
    | _ => none) else none
  | _ => none
def mx_ias (sy nx : Nat) (ls st : List Value) (c : mx_M) : mx_R := match st with
  | .int x :: .int k :: .ref i :: r => bif Nat.blt i (mx_N sy) then (match mx_sh sy i with
    | .inr (0, n) => some ([vp_in k n], nx, ls, r, mx_up c i k.toNatClampNeg x)
    | _ => none) else none
  | _ => none
def mx_bal (sy nx : Nat) (ls st : List Value) (c : mx_M) : mx_R := match st with
  | .int k :: .ref i :: r => bif Nat.blt i (mx_N sy) then (match mx_sh sy i with
    | .inr (1, n) => some ([vp_in k n], nx, ls, .int (c i k.toNatClampNeg) :: r, c)
    | _ => none) else none
  | _ => none
def mx_bas (sy nx : Nat) (ls st : List Value) (c : mx_M) : mx_R := match st with
  | .int x :: .int k :: .ref i :: r => bif Nat.blt i (mx_N sy) then (match mx_sh sy i with
    | .inr (1, n) => some ([vp_in k n], nx, ls, r, mx_up c i k.toNatClampNeg (vp_nar .boolean x))
    | _ => none) else none
  | _ => none
def mx_aal (sy nx : Nat) (ls st : List Value) (c : mx_M) : mx_R := match st with
  | .int k :: .ref i :: r => bif Nat.blt i (mx_N sy) then (match mx_sh sy i with
    | .inr (2, n) => some ([vp_in k n], nx, ls, .ref (c i k.toNatClampNeg).toNatClampNeg :: r, c)
    | _ => none) else none
  | _ => none
def mx_aas (sy nx : Nat) (ls st : List Value) (c : mx_M) : mx_R := match st with
  | .ref q :: .int k :: .ref i :: r => bif Nat.blt i (mx_N sy) then (match mx_sh sy i with
    | .inr (2, n) => some ([vp_in k n, q < mx_N sy ∧ (∃ fs, mx_sh sy q = .inl (1, fs))], nx, ls, r, mx_up c i k.toNatClampNeg (nI q))
    | _ => none) else none
  | _ => none
def mx_aln (sy nx : Nat) (ls st : List Value) (c : mx_M) : mx_R := match st with
  | .ref i :: r => bif Nat.blt i (mx_N sy) then (match mx_sh sy i with
    | .inr (0, n) => some ([], nx, ls, .int (nI n) :: r, c)
    | _ => none) else none
  | _ => none
def mx_acp (sy nx : Nat) (ls st : List Value) (c : mx_M) : mx_R := match st with
  | .int n :: .int dp :: .ref i1 :: .int sp :: .ref i0 :: r => bif Nat.blt i0 (mx_N sy) then (bif Nat.blt i1 (mx_N sy) then (match mx_sh sy i0 with
    | .inr (0, n0) => (match mx_sh sy i1 with
      | .inr (0, n1) => some ([¬ sp < 0, ¬ dp < 0, ¬ n < 0, sp.toNatClampNeg + n.toNatClampNeg ≤ n0, dp.toNatClampNeg + n.toNatClampNeg ≤ n1], nx, ls, r, mx_upR c i1 (va_cpy (c i0) (c i1) sp.toNatClampNeg dp.toNatClampNeg n.toNatClampNeg))
      | _ => none)
    | _ => none) else none) else none
  | _ => none
/-- one step that neither branches, calls nor ends -/
def mx_step (sy : Nat) (ins : Instr) (nx a b : Nat) (x : Int32) (ls st : List Value) (c : mx_M) : mx_R := match ins with
  | .iconst _ => some ([], nx, ls, .int x :: st, c)
  | .bipush _ => some ([], nx, ls, .int x :: st, c)
  | .sipush _ => some ([], nx, ls, .int x :: st, c)
  | .ldc_w _ => some ([], nx, ls, .int x :: st, c)
  | .lconst _ => some ([], nx, ls, .long (Int64.ofNat a) :: st, c)
  | .ldc2_w _ => some ([], nx, ls, .long (Int64.ofNat a) :: st, c)
  | .iload_n _ => mx_ldI nx a ls st c
  | .iload _ => mx_ldI nx a ls st c
  | .lload_n _ => mx_ldL nx a ls st c
  | .lload _ => mx_ldL nx a ls st c
  | .aload_n _ => mx_ldA nx a ls st c
  | .aload _ => mx_ldA nx a ls st c
  | .istore_n _ => mx_stI nx a ls st c
  | .istore _ => mx_stI nx a ls st c
  | .lstore_n _ => mx_stL nx a ls st c
  | .lstore _ => mx_stL nx a ls st c
  | .astore_n _ => mx_stA nx a ls st c
  | .astore _ => mx_stA nx a ls st c
  | .iinc _ _ => match ls[a]? with
    | some (.int y) => mx_fc (mx_s1 ls a (.int (y + x))) (fun l => some ([], nx, l, st, c))
    | _ => none
  | .iadd => match st with
    | .int y :: .int x :: r => some ([], nx, ls, .int (x + y) :: r, c)
    | _ => none
  | .isub => match st with
    | .int y :: .int x :: r => some ([], nx, ls, .int (x - y) :: r, c)
    | _ => none
  | .imul => match st with
    | .int y :: .int x :: r => some ([], nx, ls, .int (x * y) :: r, c)
    | _ => none
  | .iand => match st with
    | .int y :: .int x :: r => some ([], nx, ls, .int (x &&& y) :: r, c)
    | _ => none
  | .ior => match st with
    | .int y :: .int x :: r => some ([], nx, ls, .int (x ||| y) :: r, c)
    | _ => none
  | .ixor => match st with
    | .int y :: .int x :: r => some ([], nx, ls, .int (x ^^^ y) :: r, c)
    | _ => none
  | .ishl => match st with
    | .int y :: .int x :: r => some ([], nx, ls, .int (x <<< (y &&& 31)) :: r, c)
    | _ => none
  | .ishr => match st with
    | .int y :: .int x :: r => some ([], nx, ls, .int (x >>> (y &&& 31)) :: r, c)
    | _ => none
  | .iushr => match st with
    | .int y :: .int x :: r => some ([], nx, ls, .int ((x.toUInt32 >>> (y.toUInt32 &&& Int32.toUInt32 31)).toInt32) :: r, c)
    | _ => none
  | .idiv => match st with
    | .int y :: .int x :: r => some ([¬ y = 0], nx, ls, .int (x / y) :: r, c)
    | _ => none
  | .irem => match st with
    | .int y :: .int x :: r => some ([¬ y = 0], nx, ls, .int (x - x / y * y) :: r, c)
    | _ => none
  | .ladd => match st with
    | .long y :: .long x :: r => some ([], nx, ls, .long (x + y) :: r, c)
    | _ => none
  | .lmul => match st with
    | .long y :: .long x :: r => some ([], nx, ls, .long (x * y) :: r, c)
    | _ => none
  | .ldiv => match st with
    | .long y :: .long x :: r => some ([¬ y = 0], nx, ls, .long (x / y) :: r, c)
    | _ => none
  | .lrem => match st with
    | .long y :: .long x :: r => some ([¬ y = 0], nx, ls, .long (x - x / y * y) :: r, c)
    | _ => none
  | .lcmp => match st with
    | .long y :: .long x :: r => some ([], nx, ls, .int (lg_cmp x y) :: r, c)
    | _ => none
  | .i2l => match st with
    | .int x :: r => some ([], nx, ls, .long x.toInt64 :: r, c)
    | _ => none
  | .l2i => match st with
    | .long x :: r => some ([], nx, ls, .int x.toInt32 :: r, c)
    | _ => none
  | .dup => match st with
    | .int x :: r => some ([], nx, ls, .int x :: .int x :: r, c)
    | .ref x :: r => some ([], nx, ls, .ref x :: .ref x :: r, c)
    | _ => none
  | .dup2 => match st with
    | .int y :: .ref x :: r => some ([], nx, ls, .int y :: .ref x :: .int y :: .ref x :: r, c)
    | _ => none
  | .pop => match st with
    | .int _ :: r => some ([], nx, ls, r, c)
    | _ => none
  | .goto _ => some ([], nx, ls, st, c)
  | .getfield _ => mx_gf sy nx a b ls st c
  | .putfield _ => mx_pf sy nx a b ls st c
  | .getstatic _ => some ([], nx, ls, .ref 1000 :: st, c)
  | .iaload => mx_ial sy nx ls st c
  | .iastore => mx_ias sy nx ls st c
  | .baload => mx_bal sy nx ls st c
  | .bastore => mx_bas sy nx ls st c
  | .aaload => mx_aal sy nx ls st c
  | .aastore => mx_aas sy nx ls st c
  | .arraylength => mx_aln sy nx ls st c
  | .invokestatic _ => bif b == 99 then mx_acp sy nx ls st c else bif b == 98 then mx_ii (fun x y => if x < y then y else x) nx ls st c else bif b == 97 then mx_ii (fun x y => if y < x then y else x) nx ls st c else none
  | _ => none
/-- a row that is there, and holds -/
def mx_ft (mi j : Nat) : Option mx_Row := bif Nat.blt mi mx_NM && Nat.blt j (mx_n mi) then mx_row mi j else none
theorem mx_ft_ck {mi j pc nx a b : Nat} {ins : Instr} {x : Int32} (h : mx_ft mi j = some (pc, ins, nx, a, b, x)) : mx_ck mi pc ins nx a b x = true ∧ mx_pc mi j = pc := by
  unfold mx_ft at h
  cases hc : Nat.blt mi mx_NM && Nat.blt j (mx_n mi) with
  | false => rw [hc] at h; cases h
  | true =>
    rw [hc] at h
    have h : mx_row mi j = some (pc, ins, nx, a, b, x) := h
    have h1 := Bool.and_eq_true_iff.mp hc
    have hm : mi < mx_NM := by simpa [Nat.blt_eq] using h1.1
    have hj : j < mx_n mi := by simpa [Nat.blt_eq] using h1.2
    have h2 := List.all_eq_true.mp (mx_okM mi hm) j (List.mem_range.mpr hj)
    refine ⟨?_, by unfold mx_pc; rw [h]⟩
    unfold mx_ckj at h2
    rw [h] at h2
    exact h2
