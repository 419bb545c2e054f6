/-! many steps at once; branches; ends; calls -/
section RUN
variable {sy d mi j pc nx a b : Nat} {v : Int32} {Q : Option Value → mx_M → Prop} {ls st : List Value} {c : mx_M} {Ps : List Prop} {j' : Nat} {ls' st' : List Value} {c' : mx_M}
/-- the stack has room for a call of the JDK's -/
def mx_rmy (ins : Instr) (st : List Value) : Prop := match ins with
  | .invokestatic _ => (st.map fun v => v.category).sum ≤ 8
  | _ => True
theorem mx_E_step {ins : Instr} (hr : mx_ft mi j = some (pc, ins, nx, a, b, v)) (hd : 1 ≤ d) (hs : mx_step sy ins nx a b v ls st c = some (Ps, j', ls', st', c')) (hP0 : mx_all Ps) (hrm : mx_rmy ins st') (k : mx_E sy d mi Q j' ls' st' c') : mx_E sy d mi Q j ls st c := by
  cases ins
  case iconst n => exact mx_e_iconst hr hs hP0 k
  case bipush n => exact mx_e_bipush hr hs hP0 k
  case sipush n => exact mx_e_sipush hr hs hP0 k
  case lconst n => exact mx_e_lconst hr hs hP0 k
  case ldc_w n => exact mx_e_ldc_w hr hs hP0 k
  case ldc2_w n => exact mx_e_ldc2_w hr hs hP0 k
  case iload_n n => exact mx_e_iload_n hr hs hP0 k
  case lload_n n => exact mx_e_lload_n hr hs hP0 k
  case aload_n n => exact mx_e_aload_n hr hs hP0 k
  case iload n => exact mx_e_iload hr hs hP0 k
  case lload n => exact mx_e_lload hr hs hP0 k
  case aload n => exact mx_e_aload hr hs hP0 k
  case istore_n n => exact mx_e_istore_n hr hs hP0 k
  case istore n => exact mx_e_istore hr hs hP0 k
  case lstore_n n => exact mx_e_lstore_n hr hs hP0 k
  case lstore n => exact mx_e_lstore hr hs hP0 k
  case astore_n n => exact mx_e_astore_n hr hs hP0 k
  case astore n => exact mx_e_astore hr hs hP0 k
  case iinc i n => exact mx_e_iinc hr hs hP0 k
  case iadd => exact mx_e_iadd hr hs hP0 k
  case isub => exact mx_e_isub hr hs hP0 k
  case imul => exact mx_e_imul hr hs hP0 k
  case iand => exact mx_e_iand hr hs hP0 k
  case ior => exact mx_e_ior hr hs hP0 k
  case ixor => exact mx_e_ixor hr hs hP0 k
  case ishl => exact mx_e_ishl hr hs hP0 k
  case ishr => exact mx_e_ishr hr hs hP0 k
  case iushr => exact mx_e_iushr hr hs hP0 k
  case idiv => exact mx_e_idiv hr hs hP0 k
  case irem => exact mx_e_irem hr hs hP0 k
  case ladd => exact mx_e_ladd hr hs hP0 k
  case lmul => exact mx_e_lmul hr hs hP0 k
  case ldiv => exact mx_e_ldiv hr hs hP0 k
  case lrem => exact mx_e_lrem hr hs hP0 k
  case lcmp => exact mx_e_lcmp hr hs hP0 k
  case i2l => exact mx_e_i2l hr hs hP0 k
  case l2i => exact mx_e_l2i hr hs hP0 k
  case dup => exact mx_e_dup hr hs hP0 k
  case dup2 => exact mx_e_dup2 hr hs hP0 k
  case pop => exact mx_e_pop hr hs hP0 k
  case goto off => cases hs; exact mx_e_goto hr k
  case getfield n => exact mx_e_getfield hr hs hP0 k
  case putfield n => exact mx_e_putfield hr hs hP0 k
  case getstatic n => exact mx_e_getstatic hr hs hP0 k
  case iaload => exact mx_e_iaload hr hs hP0 k
  case iastore => exact mx_e_iastore hr hs hP0 k
  case baload => exact mx_e_baload hr hs hP0 k
  case bastore => exact mx_e_bastore hr hs hP0 k
  case aaload => exact mx_e_aaload hr hs hP0 k
  case aastore => exact mx_e_aastore hr hs hP0 k
  case arraylength => exact mx_e_arraylength hr hs hP0 k
  case invokestatic n =>
    have hrm : (st'.map fun v => v.category).sum ≤ 8 := hrm
    have hs : (bif b == 99 then mx_acp sy nx ls st c else bif b == 98 then mx_ii (fun x y => if x < y then y else x) nx ls st c else bif b == 97 then mx_ii (fun x y => if y < x then y else x) nx ls st c else none) = some (Ps, j', ls', st', c') := hs
    cases h1 : b == 99 with
    | true =>
      rw [h1] at hs
      have e := beq_iff_eq.mp h1
      subst e
      exact mx_e_arraycopy hr hs hP0 hd (fun _ _ _ => trivial) hrm k
    | false =>
      rw [h1] at hs
      dsimp only [cond_false] at hs
      cases h2 : b == 98 with
      | true =>
        rw [h2] at hs
        have e := beq_iff_eq.mp h2
        subst e
        exact mx_e_max hr hs hd hrm k
      | false =>
        rw [h2] at hs
        dsimp only [cond_false] at hs
        cases h3 : b == 97 with
        | true =>
          rw [h3] at hs
          have e := beq_iff_eq.mp h3
          subst e
          exact mx_e_min hr hs hd hrm k
        | false =>
          rw [h3] at hs
          cases hs
  all_goals (have h0 : (none : mx_R) = some (Ps, j', ls', st', c') := hs; cases h0)
def mx_smallB (st : List Value) : Bool := Nat.ble (st.map fun v => v.category).sum 8
def mx_rmB (ins : Instr) (st : List Value) : Bool := match ins with
  | .invokestatic _ => mx_smallB st
  | _ => true
/-- n steps at once -/
def mx_it (sy mi : Nat) : Nat → Nat → List Value → List Value → mx_M → mx_R
  | 0, j, ls, st, c => some ([], j, ls, st, c)
  | n + 1, j, ls, st, c => match mx_ft mi j with
    | some (_, ins, nx, a, b, x) => (match mx_step sy ins nx a b x ls st c with
      | some (Ps, j', ls', st', c') => bif mx_rmB ins st' then (match mx_it sy mi n j' ls' st' c' with
        | some (Ps', r) => (match Ps with
          | [] => some (Ps', r)
          | [p] => some (p :: Ps', r)
          | p :: q => some ((p :: q) ++ Ps', r))
        | none => none) else none
      | none => none)
    | none => none
theorem mx_E_run (n : Nat) {sy d mi j : Nat} {Q : Option Value → mx_M → Prop} {ls st : List Value} {c : mx_M} {Ps : List Prop} {j' : Nat} {ls' st' : List Value} {c' : mx_M} (h : mx_it sy mi n j ls st c = some (Ps, j', ls', st', c')) (hd : 1 ≤ d) (hP : mx_all Ps) (k : mx_E sy d mi Q j' ls' st' c') : mx_E sy d mi Q j ls st c := by
  induction n generalizing j ls st c Ps with
  | zero =>
    have h : some _ = some _ := h
    cases h
    exact k
  | succ n ih =>
    unfold mx_it at h
    split at h
    · rename_i pc ins nx a b x hr
      split at h
      · rename_i Ps1 j1 ls1 st1 c1 hs
        cases hsm : mx_rmB ins st1 with
        | false => rw [hsm] at h; cases h
        | true =>
        rw [hsm] at h
        dsimp only [cond_true] at h
        split at h
        · rename_i Ps2 r hi
          have h : some (Ps1 ++ Ps2, r) = some (Ps, j', ls', st', c') := by
            rw [← h]
            split <;> simp
          cases h
          obtain ⟨p1, p2⟩ := mx_all_app hP
          refine mx_E_step hr hd hs p1 ?_ (ih hi p2)
          unfold mx_rmy
          unfold mx_rmB at hsm
          split
          · exact Nat.le_of_ble_eq_true hsm
          · trivial
        · cases h
      · cases h
    · cases h
/-- what a branch asks, and the stack behind it -/
def mx_cnd (ins : Instr) (st : List Value) : Option (Prop × List Value) := match ins with
  | .ifCond q _ => (match st with
    | .int x :: r => (match q with
      | .eq => some (x = 0, r)
      | .ne => some (¬ x = 0, r)
      | .lt => some (x < 0, r)
      | .ge => some (0 ≤ x, r)
      | .gt => some (0 < x, r)
      | .le => some (x ≤ 0, r))
    | _ => none)
  | .if_icmp q _ => (match st with
    | .int y :: .int x :: r => (match q with
      | .eq => some (x = y, r)
      | .ne => some (¬ x = y, r)
      | .lt => some (x < y, r)
      | .ge => some (y ≤ x, r)
      | .gt => some (y < x, r)
      | .le => some (x ≤ y, r))
    | _ => none)
  | _ => none
theorem mx_E_br {ins : Instr} {P : Prop} (hr : mx_ft mi j = some (pc, ins, nx, a, b, v)) (hc : mx_cnd ins st = some (P, st')) (kt : P → mx_E sy d mi Q a ls st' c) (kf : ¬ P → mx_E sy d mi Q nx ls st' c) : mx_E sy d mi Q j ls st c := by
  obtain ⟨hck, hpc⟩ := mx_ft_ck hr
  cases ins
  case ifCond q off =>
    have hck : (mx_dc mi pc (.ifCond q off) && mx_nx mi pc (.ifCond q off) nx && decide ((pc : Int) + off = (mx_pc mi a : Int))) = true := hck
    simp only [Bool.and_eq_true, decide_eq_true_eq] at hck
    have hdc : decode (mx_code mi) pc = .ok (.ifCond q off, 3) := of_decide_eq_true hck.1.1
    have hnx : mx_pc mi nx = pc + 3 := beq_iff_eq.mp hck.1.2
    unfold mx_cnd at hc
    dsimp only at hc
    split at hc
    · rename_i x r
      intro l D cy ad p e s m args below meth cd H locs lsA C hP hS hL
      rw [hpc]
      have kt' : P → W p l e (mx_rm d) s m args below meth cd H locs 0 0 (MQ below (mx_Qc sy D cy ad Q s.heap.size) args s 0 0 (mx_A sy ad s.heap.size)) (F0 m (mx_pc mi a) lsA (st'.map (mx_tv ad))) := fun q => kt q l D cy ad p e s m args below meth cd H locs lsA C hP hS hL
      have kf' : ¬ P → W p l e (mx_rm d) s m args below meth cd H locs 0 0 (MQ below (mx_Qc sy D cy ad Q s.heap.size) args s 0 0 (mx_A sy ad s.heap.size)) (F0 m (pc + 3) lsA (st'.map (mx_tv ad))) := fun q => by
        have z := kf q l D cy ad p e s m args below meth cd H locs lsA C hP hS hL
        rw [hnx] at z
        exact z
      cases q
      case eq => cases hc; exact lv_if_eq C.1 C.2.1 hdc hck.2 kt' kf'
      case ne => cases hc; exact lv_if_ne C.1 C.2.1 hdc hck.2 kt' (fun z => kf' (fun w => w z))
      case lt => cases hc; exact lv_if_lt C.1 C.2.1 hdc hck.2 kt' kf'
      case ge => cases hc; exact lv_if_ge C.1 C.2.1 hdc hck.2 kt' kf'
      case gt => cases hc; exact lv_if_gt C.1 C.2.1 hdc hck.2 kt' kf'
      case le => cases hc; exact lv_if_le C.1 C.2.1 hdc hck.2 kt' kf'
    · cases hc
  case if_icmp q off =>
    have hck : (mx_dc mi pc (.if_icmp q off) && mx_nx mi pc (.if_icmp q off) nx && decide ((pc : Int) + off = (mx_pc mi a : Int))) = true := hck
    simp only [Bool.and_eq_true, decide_eq_true_eq] at hck
    have hdc : decode (mx_code mi) pc = .ok (.if_icmp q off, 3) := of_decide_eq_true hck.1.1
    have hnx : mx_pc mi nx = pc + 3 := beq_iff_eq.mp hck.1.2
    unfold mx_cnd at hc
    dsimp only at hc
    split at hc
    · rename_i y x r
      intro l D cy ad p e s m args below meth cd H locs lsA C hP hS hL
      rw [hpc]
      have kt' : P → W p l e (mx_rm d) s m args below meth cd H locs 0 0 (MQ below (mx_Qc sy D cy ad Q s.heap.size) args s 0 0 (mx_A sy ad s.heap.size)) (F0 m (mx_pc mi a) lsA (st'.map (mx_tv ad))) := fun q => kt q l D cy ad p e s m args below meth cd H locs lsA C hP hS hL
      have kf' : ¬ P → W p l e (mx_rm d) s m args below meth cd H locs 0 0 (MQ below (mx_Qc sy D cy ad Q s.heap.size) args s 0 0 (mx_A sy ad s.heap.size)) (F0 m (pc + 3) lsA (st'.map (mx_tv ad))) := fun q => by
        have z := kf q l D cy ad p e s m args below meth cd H locs lsA C hP hS hL
        rw [hnx] at z
        exact z
      cases q
      case eq => cases hc; exact lv_icmp_eq C.1 C.2.1 hdc hck.2 kt' kf'
      case ne => cases hc; exact lv_icmp_ne C.1 C.2.1 hdc hck.2 kt' (fun z => kf' (fun w => w z))
      case lt => cases hc; exact lv_icmp_lt C.1 C.2.1 hdc hck.2 kt' kf'
      case ge => cases hc; exact lv_icmp_ge C.1 C.2.1 hdc hck.2 kt' kf'
      case gt => cases hc; exact lv_icmp_gt C.1 C.2.1 hdc hck.2 kt' kf'
      case le => cases hc; exact lv_icmp_le C.1 C.2.1 hdc hck.2 kt' kf'
    · cases hc
  all_goals (have h0 : (none : Option (Prop × List Value)) = some (P, st') := hc; cases h0)
-- ends
theorem mx_E_iret {x : Int32} (hr : mx_ft mi j = some (pc, .ireturn, nx, a, b, v)) (ht : mx_ret mi = some .int) (hq : Q (some (.int x)) c) : mx_E sy d mi Q j ls [.int x] c := by
  obtain ⟨hck, hpc⟩ := mx_ft_ck hr
  have hdc : decode (mx_code mi) pc = .ok (.ireturn, 1) := of_decide_eq_true hck
  intro l D cy ad p e s m args below meth cd H locs lsA C hP hS hL
  rw [hpc]
  exact W.iret (v := x) C.1 C.2.1 (C.2.2.1.trans ht) (fun t ht hW => ⟨⟨some (.int x), c, rfl, hq, by rw [ht]; exact hP⟩, hS.F ht⟩) hS.2.2 hdc C.2.2.2.2.2.2.2.1
theorem mx_E_zret {x : Int32} (hr : mx_ft mi j = some (pc, .ireturn, nx, a, b, v)) (ht : mx_ret mi = some .boolean) (hx : x = 0 ∨ x = 1) (hq : Q (some (.int x)) c) : mx_E sy d mi Q j ls [.int x] c := by
  obtain ⟨hck, hpc⟩ := mx_ft_ck hr
  have hdc : decode (mx_code mi) pc = .ok (.ireturn, 1) := of_decide_eq_true hck
  intro l D cy ad p e s m args below meth cd H locs lsA C hP hS hL
  rw [hpc]
  exact W.zret (v := x) (ty := .boolean) C.1 C.2.1 (C.2.2.1.trans ht) (by rcases hx with h | h <;> rw [h] <;> decide) (fun t ht hW => ⟨⟨some (.int x), c, rfl, hq, by rw [ht]; exact hP⟩, hS.F ht⟩) hS.2.2 hdc C.2.2.2.2.2.2.2.1
theorem mx_E_lret {x : Int64} (hr : mx_ft mi j = some (pc, .lreturn, nx, a, b, v)) (ht : mx_ret mi = some .long) (hq : Q (some (.long x)) c) : mx_E sy d mi Q j ls [.long x] c := by
  obtain ⟨hck, hpc⟩ := mx_ft_ck hr
  have hdc : decode (mx_code mi) pc = .ok (.lreturn, 1) := of_decide_eq_true hck
  intro l D cy ad p e s m args below meth cd H locs lsA C hP hS hL
  rw [hpc]
  exact W.lret (v := x) C.1 C.2.1 (C.2.2.1.trans ht) (fun t ht hW => ⟨⟨some (.long x), c, rfl, hq, by rw [ht]; exact hP⟩, hS.F ht⟩) hS.2.2 hdc C.2.2.2.2.2.2.2.1
theorem mx_E_vret (hr : mx_ft mi j = some (pc, .return_, nx, a, b, v)) (ht : mx_ret mi = none) (hq : Q none c) : mx_E sy d mi Q j ls [] c := by
  obtain ⟨hck, hpc⟩ := mx_ft_ck hr
  have hdc : decode (mx_code mi) pc = .ok (.return_, 1) := of_decide_eq_true hck
  intro l D cy ad p e s m args below meth cd H locs lsA C hP hS hL
  rw [hpc]
  exact W.vret C.1 C.2.1 (C.2.2.1.trans ht) (fun t ht hW => ⟨⟨none, c, rfl, hq, by rw [ht]; exact hP⟩, hS.F ht⟩) hS.2.2 hdc C.2.2.2.2.2.2.2.1
/-- more may hold at the end -/
theorem mx_E_mono {Q' : Option Value → mx_M → Prop} (h : mx_E sy d mi Q j ls st c) (hq : ∀ r c, Q r c → Q' r c) : mx_E sy d mi Q' j ls st c := by
  intro l D cy ad p e s m args below meth cd H locs lsA C hP hS hL T hT X
  obtain ⟨t, h1, o, h2, h3, ⟨⟨⟨r, c1, g1, g2, g3⟩, g4⟩, h5⟩⟩ := h l D cy ad p e s m args below meth cd H locs lsA C hP hS hL T hT X
  exact ⟨t, h1, o, h2, h3, ⟨⟨⟨r, c1, g1, hq r c1 g2, g3⟩, g4⟩, h5⟩⟩
end RUN
