section RULES2
variable {sy d mi j pc nx a b : Nat} {v : Int32} {Q : Option Value → mx_M → Prop} {ls st : List Value} {c : mx_M} {Ps : List Prop} {j' : Nat} {ls' st' : List Value} {c' : mx_M}
theorem mx_Ctx.ts {D : va_G} {cy : Nat → ClassId} {ad : Nat → Nat} {p : Program} {s : State} {m : MethodId} {args : Array Value} {meth : Method} {cd : Code} (C : mx_Ctx sy mi D cy ad p s m args meth cd) {w : Cond} (h : w ∈ mx_good) : w.before args s = true := C.2.2.2.2.2.1 w h
theorem mx_Ctx.nw {D : va_G} {cy : Nat → ClassId} {ad : Nat → Nat} {p : Program} {s : State} {m : MethodId} {args : Array Value} {meth : Method} {cd : Code} (C : mx_Ctx sy mi D cy ad p s m args meth cd) {w : Cond} (h : w ∈ mx_nest) : va_Nw w s := C.2.2.2.2.2.2.1 w h
theorem mx_Ctx.own {D : va_G} {cy : Nat → ClassId} {ad : Nat → Nat} {p : Program} {s : State} {m : MethodId} {args : Array Value} {meth : Method} {cd : Code} (C : mx_Ctx sy mi D cy ad p s m args meth cd) : s.vm.findClass (mx_cn (mx_own mi)) = some m.cls := C.2.2.2.2.1
theorem mx_Ctx.K {D : va_G} {cy : Nat → ClassId} {ad : Nat → Nat} {p : Program} {s : State} {m : MethodId} {args : Array Value} {meth : Method} {cd : Code} (C : mx_Ctx sy mi D cy ad p s m args meth cd) : va_K D vwCl (mx_tys cy) s := C.2.2.2.2.2.2.2.2.1
theorem mx_Ctx.inj {D : va_G} {cy : Nat → ClassId} {ad : Nat → Nat} {p : Program} {s : State} {m : MethodId} {args : Array Value} {meth : Method} {cd : Code} (C : mx_Ctx sy mi D cy ad p s m args meth cd) : mx_inj sy ad := C.2.2.2.2.2.2.2.2.2.1
theorem mx_Ctx.Z {D : va_G} {cy : Nat → ClassId} {ad : Nat → Nat} {p : Program} {s : State} {m : MethodId} {args : Array Value} {meth : Method} {cd : Code} (C : mx_Ctx sy mi D cy ad p s m args meth cd) : mx_Z (ad 1000) (mx_A sy ad s.heap.size) s s.heap := C.2.2.2.2.2.2.2.2.2.2

theorem mx_e_getfield {n : Nat} (hr : mx_ft mi j = some (pc, (.getfield n), nx, a, b, v)) (hs : mx_gf sy nx a b ls st c = some (Ps, j', ls', st', c')) (hP0 : mx_all Ps) (k : mx_E sy d mi Q j' ls' st' c') : mx_E sy d mi Q j ls st c := by
  obtain ⟨hck, hpc⟩ := mx_ft_ck hr
  obtain ⟨hdc, hnx, hex⟩ := mx_gen (ins := (.getfield n)) hck
  unfold mx_gf at hs
  split at hs
  · rename_i i r
    cases hb : Nat.blt i (mx_N sy) with
    | false => rw [hb] at hs; cases hs
    | true =>
    rw [hb] at hs
    have hi : i < mx_N sy := by simpa [Nat.blt_eq] using hb
    dsimp only [cond_true] at hs
    split at hs
    · rename_i ci fs hsh
      cases hcb : ci == a with
      | false => rw [hcb] at hs; cases hs
      | true =>
      rw [hcb] at hs
      dsimp only [cond_true] at hs
      have e1 : ci = a := beq_iff_eq.mp hcb
      subst e1
      obtain ⟨h7, hlen, -⟩ := mx_sh_obj hi hsh
      obtain ⟨hc, hc1, -, -⟩ := mx_cl7 ci h7
      have key : ∀ (l : Launch) (D : va_G) (cy : Nat → ClassId) (ad : Nat → Nat) (p : Program) (e : Env) (s : State) (m : MethodId) (args : Array Value) (below : List Frame) (meth : Method) (cd : Code) (H : Heap) (locs : List Loc) (lsA : Array Slot) (ZQ : State → Prop) (w : Value), mx_Ctx sy mi D cy ad p s m args meth cd → va_P D vwCl (mx_W sy cy ad c) H → (mx_fl ad (c i) 0 fs)[b]? = some w → W p l e (mx_rm d) s m args below meth cd H locs 0 0 ZQ (F0 m (pc + 3) lsA (w :: r.map (mx_tv ad))) → W p l e (mx_rm d) s m args below meth cd H locs 0 0 ZQ (F0 m pc lsA (.ref (ad i) :: r.map (mx_tv ad))) := by
        intro l D cy ad p e s m args below meth cd H locs lsA ZQ w C hP hw kk
        have hbl : b < mx_nf ci := by
          have := (List.getElem?_eq_some_iff.mp hw).1
          rw [mx_fl_len, hlen] at this
          exact this
        have he : (mx_W sy cy ad c)[i]? = some (ad i, .inr (ci, mx_fl ad (c i) 0 fs)) := by rw [mx_W_at hi, hsh]; rfl
        rcases (Bool.or_eq_true _ _).mp hex with h | h
        · exact va_get (D := D) (T := mx_T ci) C.1 C.2.1 C.2.2.2.2.2.1 (mx_inG ci _ hc) C.own C.K hP i he hc b hbl (C.ts (mx_flP_mem h)) (fun x h9 => by rw [hc1 b hbl] at h9; exact h9) hw hdc kk
        · exact va_getN (D := D) (T := mx_T ci) C.1 C.2.1 C.2.2.2.2.2.1 (mx_inG ci _ hc) C.own C.K hP i he hc b hbl (va_Nw.use rfl (C.nw (mx_flN_mem h))) (fun x h9 => by rw [hc1 b hbl] at h9; exact h9) hw hdc kk
      split at hs
      · rename_i hf
        cases hs
        intro l D cy ad p e s m args below meth cd H locs lsA C hP hS hL
        rw [hpc]
        refine key l D cy ad p e s m args below meth cd H locs lsA _ (.int (c i b)) C hP (by rw [mx_fl_at, hf]; simp) ?_
        have z := k l D cy ad p e s m args below meth cd H locs lsA C hP hS hL
        rw [hnx] at z
        exact z
      · rename_i q hf
        cases hs
        intro l D cy ad p e s m args below meth cd H locs lsA C hP hS hL
        rw [hpc]
        refine key l D cy ad p e s m args below meth cd H locs lsA _ (.ref (ad q)) C hP (by rw [mx_fl_at, hf]; simp) ?_
        have z := k l D cy ad p e s m args below meth cd H locs lsA C hP hS hL
        rw [hnx] at z
        exact z
      · cases hs
    · cases hs
  · cases hs
theorem mx_e_putfield {n : Nat} (hr : mx_ft mi j = some (pc, (.putfield n), nx, a, b, v)) (hs : mx_pf sy nx a b ls st c = some (Ps, j', ls', st', c')) (hP0 : mx_all Ps) (k : mx_E sy d mi Q j' ls' st' c') : mx_E sy d mi Q j ls st c := by
  obtain ⟨hck, hpc⟩ := mx_ft_ck hr
  obtain ⟨hdc, hnx, hex⟩ := mx_gen (ins := (.putfield n)) hck
  have hex : ((mx_inF mx_flP (mx_own mi) n a b || mx_inF mx_flN (mx_own mi) n a b) && !((mx_T a b).2.2.2)) = true := hex
  have hex1 := (Bool.and_eq_true_iff.mp hex).1
  have hfin : (mx_T a b).2.2.2 = false := by simpa using (Bool.and_eq_true_iff.mp hex).2
  unfold mx_pf at hs
  split at hs
  · rename_i x i r
    cases hb : Nat.blt i (mx_N sy) with
    | false => rw [hb] at hs; cases hs
    | true =>
    rw [hb] at hs
    have hi : i < mx_N sy := by simpa [Nat.blt_eq] using hb
    dsimp only [cond_true] at hs
    split at hs
    · rename_i ci fs hsh
      cases hcb : ci == a with
      | false => rw [hcb] at hs; cases hs
      | true =>
      rw [hcb] at hs
      dsimp only [cond_true] at hs
      have e1 : ci = a := beq_iff_eq.mp hcb
      subst e1
      obtain ⟨h7, hlen, hint⟩ := mx_sh_obj hi hsh
      obtain ⟨hc, hc1, hty, hnm⟩ := mx_cl7 ci h7
      split at hs
      · rename_i hf
        cases hs
        have hbl : b < mx_nf ci := by
          rw [← hlen]
          exact (List.getElem?_eq_some_iff.mp hf).1
        have hd : parseFieldDescriptor (mx_T ci b).2.2.1 = some .int := by rw [hty b hbl, hint b hf]
        intro l D cy ad p e s m args below meth cd H locs lsA C hP hS hL
        rw [hpc]
        have he : (mx_W sy cy ad c)[i]? = some (ad i, .inr (ci, mx_fl ad (c i) 0 fs)) := by rw [mx_W_at hi, hsh]; rfl
        have hset : (mx_W sy cy ad c).set i (ad i, .inr (ci, (mx_fl ad (c i) 0 fs).set b (.int x))) = mx_W sy cy ad (mx_up c i b x) := by
          rw [mx_up_R, ← mx_W_set hi, hsh, mx_fl_set ad (c i) x fs 0 b hf, Nat.zero_add]
          rfl
        have fin : ∀ (H1 : Heap) (locs1 : List Loc), va_P D vwCl ((mx_W sy cy ad c).set i (ad i, .inr (ci, (mx_fl ad (c i) 0 fs).set b (.int x)))) H1 → va_D (mx_A sy ad s.heap.size) ((mx_W sy cy ad c).set i (ad i, .inr (ci, (mx_fl ad (c i) 0 fs).set b (.int x)))) → va_S (mx_A sy ad s.heap.size) s.heap H1 locs1 → W p l e (mx_rm d) s m args below meth cd H1 locs1 0 0 (MQ below (mx_Qc sy D cy ad Q s.heap.size) args s 0 0 (mx_A sy ad s.heap.size)) (F0 m (pc + 3) lsA (st'.map (mx_tv ad))) := by
          intro H1 locs1 hP1 _ hS1
          rw [hset] at hP1
          have z := k l D cy ad p e s m args below meth cd H1 locs1 lsA C hP1 hS1 hL
          rw [hnx] at z
          exact z
        rcases (Bool.or_eq_true _ _).mp hex1 with h | h
        · exact va_put (D := D) (T := mx_T ci) C.1 C.2.1 C.2.2.2.2.2.1 (mx_inG ci _ hc) (mx_ty ci) hty hnm C.own C.K hP (mx_D s.heap.size C.inj) hS i he hc b hbl (C.ts (mx_flP_mem h)) (fun x h9 => by rw [hc1 b hbl] at h9; exact h9) hfin hd rfl rfl (by rw [mx_fl_len, hlen]; exact hbl) hdc fin
        · exact va_putN (D := D) (T := mx_T ci) C.1 C.2.1 C.2.2.2.2.2.1 (mx_inG ci _ hc) (mx_ty ci) hty hnm C.own C.K hP (mx_D s.heap.size C.inj) hS i he hc b hbl (va_Nw.use rfl (C.nw (mx_flN_mem h))) (fun x h9 => by rw [hc1 b hbl] at h9; exact h9) hfin hd rfl rfl (by rw [mx_fl_len, hlen]; exact hbl) hdc fin
      · cases hs
    · cases hs
  · cases hs
theorem mx_e_getstatic {n : Nat} (hr : mx_ft mi j = some (pc, (.getstatic n), nx, a, b, v)) (hs : mx_step sy (.getstatic n) nx a b v ls st c = some (Ps, j', ls', st', c')) (hP0 : mx_all Ps) (k : mx_E sy d mi Q j' ls' st' c') : mx_E sy d mi Q j ls st c := by
  obtain ⟨hck, hpc⟩ := mx_ft_ck hr
  obtain ⟨hdc, hnx, hex⟩ := mx_gen (ins := (.getstatic n)) hck
  cases hs
  simp only [mx_ex, Bool.and_eq_true, beq_iff_eq] at hex
  intro l D cy ad p e s m args below meth cd H locs lsA C hP hS hL
  rw [hpc]
  have ho := C.own
  rw [hex.1] at ho
  have hw := C.ts (mx_mem mx_so_ok rfl)
  rw [← hex.2] at hw
  refine va_gets C.1 C.2.1 C.Z.1 hS ho hw (fun x h9 => h9) hdc ?_
  have z := k l D cy ad p e s m args below meth cd H locs lsA C hP hS hL
  rw [hnx] at z
  exact z
theorem mx_e_iaload (hr : mx_ft mi j = some (pc, .iaload, nx, a, b, v)) (hs : mx_ial sy nx ls st c = some (Ps, j', ls', st', c')) (hP0 : mx_all Ps) (k : mx_E sy d mi Q j' ls' st' c') : mx_E sy d mi Q j ls st c := by
  obtain ⟨hck, hpc⟩ := mx_ft_ck hr
  obtain ⟨hdc, hnx, hex⟩ := mx_gen (ins := .iaload) hck
  unfold mx_ial at hs
  split at hs
  · rename_i q i r
    cases hz : i == 1000 with
    | true =>
      rw [hz] at hs
      dsimp only [cond_true] at hs
      have e0 : i = 1000 := beq_iff_eq.mp hz
      subst e0
      cases hs
      intro l D cy ad p e s m args below meth cd H locs lsA C hP hS hL
      rw [hpc]
      refine va_ti C.1 C.2.1 C.Z.2 hS hP0.1 rfl hdc ?_
      have z := k l D cy ad p e s m args below meth cd H locs lsA C hP hS hL
      rw [hnx] at z
      exact z
    | false =>
    rw [hz] at hs
    dsimp only [cond_false] at hs
    cases hb : Nat.blt i (mx_N sy) with
    | false => rw [hb] at hs; cases hs
    | true =>
    rw [hb] at hs
    have hi : i < mx_N sy := by simpa [Nat.blt_eq] using hb
    dsimp only [cond_true] at hs
    split at hs
    · rename_i n hsh
      cases hs
      intro l D cy ad p e s m args below meth cd H locs lsA C hP hS hL
      rw [hpc]
      refine va_iald (D := D) C.1 C.2.1 C.K hP i 0 (f := c i) (by rw [mx_W_at hi, hsh]; rfl) rfl hP0.1 hdc ?_
      have z := k l D cy ad p e s m args below meth cd H locs lsA C hP hS hL
      rw [hnx] at z
      exact z
    · cases hs
  · cases hs
theorem mx_e_baload (hr : mx_ft mi j = some (pc, .baload, nx, a, b, v)) (hs : mx_bal sy nx ls st c = some (Ps, j', ls', st', c')) (hP0 : mx_all Ps) (k : mx_E sy d mi Q j' ls' st' c') : mx_E sy d mi Q j ls st c := by
  obtain ⟨hck, hpc⟩ := mx_ft_ck hr
  obtain ⟨hdc, hnx, hex⟩ := mx_gen (ins := .baload) hck
  unfold mx_bal at hs
  split at hs
  · rename_i q i r
    cases hb : Nat.blt i (mx_N sy) with
    | false => rw [hb] at hs; cases hs
    | true =>
    rw [hb] at hs
    have hi : i < mx_N sy := by simpa [Nat.blt_eq] using hb
    dsimp only [cond_true] at hs
    split at hs
    · rename_i n hsh
      cases hs
      intro l D cy ad p e s m args below meth cd H locs lsA C hP hS hL
      rw [hpc]
      refine va_zald (D := D) C.1 C.2.1 C.K hP i 1 (f := c i) (by rw [mx_W_at hi, hsh]; rfl) rfl hP0.1 hdc ?_
      have z := k l D cy ad p e s m args below meth cd H locs lsA C hP hS hL
      rw [hnx] at z
      exact z
    · cases hs
  · cases hs
theorem mx_e_aaload (hr : mx_ft mi j = some (pc, .aaload, nx, a, b, v)) (hs : mx_aal sy nx ls st c = some (Ps, j', ls', st', c')) (hP0 : mx_all Ps) (k : mx_E sy d mi Q j' ls' st' c') : mx_E sy d mi Q j ls st c := by
  obtain ⟨hck, hpc⟩ := mx_ft_ck hr
  obtain ⟨hdc, hnx, hex⟩ := mx_gen (ins := .aaload) hck
  unfold mx_aal at hs
  split at hs
  · rename_i q i r
    cases hb : Nat.blt i (mx_N sy) with
    | false => rw [hb] at hs; cases hs
    | true =>
    rw [hb] at hs
    have hi : i < mx_N sy := by simpa [Nat.blt_eq] using hb
    dsimp only [cond_true] at hs
    split at hs
    · rename_i n hsh
      cases hs
      intro l D cy ad p e s m args below meth cd H locs lsA C hP hS hL
      rw [hpc]
      refine va_aldq (D := D) C.1 C.2.1 C.K hP i 2 (f := fun j => some (ad (c i j).toNatClampNeg)) (by rw [mx_W_at hi, hsh]; rfl) rfl hP0.1 hdc ?_
      have z := k l D cy ad p e s m args below meth cd H locs lsA C hP hS hL
      rw [hnx] at z
      exact z
    · cases hs
  · cases hs
theorem mx_e_iastore (hr : mx_ft mi j = some (pc, .iastore, nx, a, b, v)) (hs : mx_ias sy nx ls st c = some (Ps, j', ls', st', c')) (hP0 : mx_all Ps) (k : mx_E sy d mi Q j' ls' st' c') : mx_E sy d mi Q j ls st c := by
  obtain ⟨hck, hpc⟩ := mx_ft_ck hr
  obtain ⟨hdc, hnx, hex⟩ := mx_gen (ins := .iastore) hck
  unfold mx_ias at hs
  split at hs
  · rename_i x q i r
    cases hb : Nat.blt i (mx_N sy) with
    | false => rw [hb] at hs; cases hs
    | true =>
    rw [hb] at hs
    have hi : i < mx_N sy := by simpa [Nat.blt_eq] using hb
    dsimp only [cond_true] at hs
    split at hs
    · rename_i n hsh
      cases hs
      intro l D cy ad p e s m args below meth cd H locs lsA C hP hS hL
      rw [hpc]
      refine va_iast (D := D) C.1 C.2.1 C.K hP (mx_D s.heap.size C.inj) hS i 0 (f := c i) (by rw [mx_W_at hi, hsh]; rfl) rfl hP0.1 hdc (fun H1 locs1 hP1 _ hS1 => ?_)
      have hset : (mx_W sy cy ad c).set i (ad i, .inl (cy 0, n, .inl (upd (c i) q.toNatClampNeg x))) = mx_W sy cy ad (mx_up c i q.toNatClampNeg x) := by
        rw [mx_up_R, ← mx_W_set hi, hsh]
        rfl
      rw [hset] at hP1
      have z := k l D cy ad p e s m args below meth cd H1 locs1 lsA C hP1 hS1 hL
      rw [hnx] at z
      exact z
    · cases hs
  · cases hs
theorem mx_e_bastore (hr : mx_ft mi j = some (pc, .bastore, nx, a, b, v)) (hs : mx_bas sy nx ls st c = some (Ps, j', ls', st', c')) (hP0 : mx_all Ps) (k : mx_E sy d mi Q j' ls' st' c') : mx_E sy d mi Q j ls st c := by
  obtain ⟨hck, hpc⟩ := mx_ft_ck hr
  obtain ⟨hdc, hnx, hex⟩ := mx_gen (ins := .bastore) hck
  unfold mx_bas at hs
  split at hs
  · rename_i x q i r
    cases hb : Nat.blt i (mx_N sy) with
    | false => rw [hb] at hs; cases hs
    | true =>
    rw [hb] at hs
    have hi : i < mx_N sy := by simpa [Nat.blt_eq] using hb
    dsimp only [cond_true] at hs
    split at hs
    · rename_i n hsh
      cases hs
      intro l D cy ad p e s m args below meth cd H locs lsA C hP hS hL
      rw [hpc]
      refine va_zast (D := D) C.1 C.2.1 C.K hP (mx_D s.heap.size C.inj) hS i 1 (f := c i) (by rw [mx_W_at hi, hsh]; rfl) rfl hP0.1 hdc (fun H1 locs1 hP1 _ hS1 => ?_)
      have hset : (mx_W sy cy ad c).set i (ad i, .inl (cy 1, n, .inl (upd (c i) q.toNatClampNeg (vp_nar .boolean x)))) = mx_W sy cy ad (mx_up c i q.toNatClampNeg (vp_nar .boolean x)) := by
        rw [mx_up_R, ← mx_W_set hi, hsh]
        rfl
      rw [hset] at hP1
      have z := k l D cy ad p e s m args below meth cd H1 locs1 lsA C hP1 hS1 hL
      rw [hnx] at z
      exact z
    · cases hs
  · cases hs
theorem mx_e_aastore (hr : mx_ft mi j = some (pc, .aastore, nx, a, b, v)) (hs : mx_aas sy nx ls st c = some (Ps, j', ls', st', c')) (hP0 : mx_all Ps) (k : mx_E sy d mi Q j' ls' st' c') : mx_E sy d mi Q j ls st c := by
  obtain ⟨hck, hpc⟩ := mx_ft_ck hr
  obtain ⟨hdc, hnx, hex⟩ := mx_gen (ins := .aastore) hck
  unfold mx_aas at hs
  split at hs
  · rename_i y q i r
    cases hb : Nat.blt i (mx_N sy) with
    | false => rw [hb] at hs; cases hs
    | true =>
    rw [hb] at hs
    have hi : i < mx_N sy := by simpa [Nat.blt_eq] using hb
    dsimp only [cond_true] at hs
    split at hs
    · rename_i n hsh
      cases hs
      obtain ⟨h1, ⟨hy, fs, hfs⟩, -⟩ := hP0
      have hN : mx_N sy ≤ 71 := by
        match sy with
        | 0 => exact Nat.le_refl _
        | z + 1 => exact Nat.le_of_ble_eq_true rfl
      intro l D cy ad p e s m args below meth cd H locs lsA C hP hS hL
      rw [hpc]
      refine va_astq (D := D) (r := (mx_cn 1, mx_T 1, mx_nf 1)) C.1 C.2.1 C.K hP (mx_D s.heap.size C.inj) hS i 2 y 1 (f := fun j => some (ad (c i j).toNatClampNeg)) (vs := mx_fl ad (c y) 0 fs) (by rw [mx_W_at hi, hsh]; rfl) rfl (by rw [mx_W_at hy, hfs]; rfl) rfl h1 hdc (fun H1 locs1 hP1 _ hS1 => ?_)
      have hset : (mx_W sy cy ad c).set i (ad i, .inl (cy 2, n, .inr (.inr (.inr (.inr (va_up (fun j => some (ad (c i j).toNatClampNeg)) q.toNatClampNeg (some (ad y)))))))) = mx_W sy cy ad (mx_up c i q.toNatClampNeg (nI y)) := by
        rw [mx_up_R, ← mx_W_set hi, hsh]
        have e9 : va_up (fun j => some (ad (c i j).toNatClampNeg)) q.toNatClampNeg (some (ad y)) = fun j => some (ad (upd (c i) q.toNatClampNeg (nI y) j).toNatClampNeg) := by
          funext j
          unfold va_up upd
          by_cases ej : j = q.toNatClampNeg
          · rw [if_pos ej, if_pos ej, nI_clamp (Nat.lt_of_lt_of_le hy (Nat.le_trans hN (by decide)))]
          · rw [if_neg ej, if_neg ej]
        rw [e9]
        rfl
      rw [hset] at hP1
      have z := k l D cy ad p e s m args below meth cd H1 locs1 lsA C hP1 hS1 hL
      rw [hnx] at z
      exact z
    · cases hs
  · cases hs
theorem mx_e_arraylength (hr : mx_ft mi j = some (pc, .arraylength, nx, a, b, v)) (hs : mx_aln sy nx ls st c = some (Ps, j', ls', st', c')) (hP0 : mx_all Ps) (k : mx_E sy d mi Q j' ls' st' c') : mx_E sy d mi Q j ls st c := by
  obtain ⟨hck, hpc⟩ := mx_ft_ck hr
  obtain ⟨hdc, hnx, hex⟩ := mx_gen (ins := .arraylength) hck
  unfold mx_aln at hs
  split at hs
  · rename_i i r
    cases hb : Nat.blt i (mx_N sy) with
    | false => rw [hb] at hs; cases hs
    | true =>
    rw [hb] at hs
    have hi : i < mx_N sy := by simpa [Nat.blt_eq] using hb
    dsimp only [cond_true] at hs
    split at hs
    · rename_i n hsh
      cases hs
      intro l D cy ad p e s m args below meth cd H locs lsA C hP hS hL
      rw [hpc]
      refine va_alen (D := D) C.1 C.2.1 C.K hP i 0 (x := (n, .inl (c i))) (v := nI n) (by rw [mx_W_at hi, hsh]; rfl) (ty := .int) rfl rfl hdc ?_
      have z := k l D cy ad p e s m args below meth cd H locs lsA C hP hS hL
      rw [hnx] at z
      exact z
    · cases hs
  · cases hs
theorem mx_e_arraycopy {n : Nat} (hr : mx_ft mi j = some (pc, (.invokestatic n), nx, a, 99, v)) (hs : mx_acp sy nx ls st c = some (Ps, j', ls', st', c')) (hP0 : mx_all Ps) (hd : 1 ≤ d) (hrm : ∀ r, st'.length ≤ r → r ≤ 8 → True) (hst : (st'.map fun v => v.category).sum ≤ 8) (k : mx_E sy d mi Q j' ls' st' c') : mx_E sy d mi Q j ls st c := by
  obtain ⟨hck, hpc⟩ := mx_ft_ck hr
  obtain ⟨hdc, hnx, hex⟩ := mx_gen (ins := (.invokestatic n)) hck
  have hex : mx_acl.any (fun e => e.1 == mx_own mi && e.2.1 == n) = true := hex
  obtain ⟨e0, he0, hq0⟩ := List.any_eq_true.mp hex
  have hw0 := of_decide_eq_true (List.all_eq_true.mp mx_acl_ok e0 he0)
  simp only [Bool.and_eq_true, beq_iff_eq] at hq0
  rw [hq0.1, hq0.2] at hw0
  unfold mx_acp at hs
  split at hs
  · rename_i n0 dp i1 sp i0 r
    cases hb0 : Nat.blt i0 (mx_N sy) with
    | false => rw [hb0] at hs; cases hs
    | true =>
    rw [hb0] at hs
    dsimp only [cond_true] at hs
    have hi0 : i0 < mx_N sy := by simpa [Nat.blt_eq] using hb0
    cases hb1 : Nat.blt i1 (mx_N sy) with
    | false => rw [hb1] at hs; cases hs
    | true =>
    rw [hb1] at hs
    dsimp only [cond_true] at hs
    have hi1 : i1 < mx_N sy := by simpa [Nat.blt_eq] using hb1
    split at hs
    · rename_i z0 hs0
      split at hs
      · rename_i z1 hs1
        cases hs
        obtain ⟨q1, q2, q3, q4, q5, -⟩ := hP0
        intro l D cy ad p e s m args below meth cd H locs lsA C hP hS hL
        rw [hpc]
        have hcat : ((st'.map (mx_tv ad)).map fun v => v.category).sum = (st'.map fun v => v.category).sum := by
          rw [List.map_map]
          congr 1
          exact List.map_congr_left (fun x _ => mx_tv_cat ad x)
        refine va_copyi (D := D) C.1 C.2.1 (C.2.2.2.1.trans hL.1.symm) C.own (C.ts (mx_mem hw0 rfl)) (C.ts (mx_mem mx_ac_w.1 rfl)) (C.ts (mx_mem mx_ac_w.2.1 rfl)) (C.ts (mx_mem mx_ac_w.2.2 rfl)) C.K hP (mx_D s.heap.size C.inj) hS i0 i1 0 0 (f := c i0) (g := c i1) (ty := .int) (by rw [mx_W_at hi0, hs0]; rfl) (by rw [mx_W_at hi1, hs1]; rfl) rfl rfl rfl q1 q2 q3 q4 q5 (fun _ _ => rfl) hd (by rw [hcat]; show _ ≤ 64 * d; exact Nat.le_trans (Nat.add_le_add_right hst _) (Nat.le_trans (by decide) (Nat.mul_le_mul_left 64 hd))) hdc (fun H1 locs1 hP1 _ hS1 => ?_)
        have hset : (mx_W sy cy ad c).set i1 (ad i1, .inl (cy 0, z1, .inl (va_cpy (c i0) (c i1) sp.toNatClampNeg dp.toNatClampNeg n0.toNatClampNeg))) = mx_W sy cy ad (mx_upR c i1 (va_cpy (c i0) (c i1) sp.toNatClampNeg dp.toNatClampNeg n0.toNatClampNeg)) := by
          rw [← mx_W_set hi1, hs1]
          rfl
        rw [hset] at hP1
        have z := k l D cy ad p e s m args below meth cd H1 locs1 lsA C hP1 hS1 hL
        rw [hnx] at z
        exact z
      · cases hs
    · cases hs
  · cases hs
theorem mx_e_max {n : Nat} (hr : mx_ft mi j = some (pc, (.invokestatic n), nx, a, 98, v)) (hs : mx_ii (fun x y => if x < y then y else x) nx ls st c = some (Ps, j', ls', st', c')) (hd : 1 ≤ d) (hst : (st'.map fun v => v.category).sum ≤ 8) (k : mx_E sy d mi Q j' ls' st' c') : mx_E sy d mi Q j ls st c := by
  obtain ⟨hck, hpc⟩ := mx_ft_ck hr
  obtain ⟨hdc, hnx, hex⟩ := mx_gen (ins := (.invokestatic n)) hck
  have hex : mx_mxl.any (fun e => e.1 == mx_own mi && e.2.1 == n) = true := hex
  obtain ⟨e0, he0, hq0⟩ := List.any_eq_true.mp hex
  have hw0 := of_decide_eq_true (List.all_eq_true.mp mx_mxl_ok e0 he0)
  simp only [Bool.and_eq_true, beq_iff_eq] at hq0
  rw [hq0.1, hq0.2] at hw0
  unfold mx_ii at hs
  split at hs
  · rename_i y x r
    cases hs
    intro l D cy ad p e s m args below meth cd H locs lsA C hP hS hL
    rw [hpc]
    have hcat : ((r.map (mx_tv ad)).map fun v => v.category).sum ≤ 8 := by
      rw [List.map_map, show (r.map ((fun v => v.category) ∘ mx_tv ad)) = r.map (fun v => v.category) from List.map_congr_left (fun x _ => mx_tv_cat ad x)]
      have h8 : 1 + (r.map fun v => v.category).sum ≤ 8 := hst
      omega
    refine va_mmax C.1 C.2.1 (C.2.2.2.1.trans hL.1.symm) C.own (C.ts (mx_mem hw0 rfl)) (C.ts (mx_mem mx_mxl_w.1 rfl)) (C.ts (mx_mem mx_mxl_w.2.1 rfl)) (C.ts (mx_mem mx_mxl_w.2.2 rfl)) hd (show _ ≤ 64 * d by omega) (Nat.zero_le _) (Nat.zero_le _) hdc ?_
    have z := k l D cy ad p e s m args below meth cd H locs lsA C hP hS hL
    rw [hnx] at z
    exact z
  · cases hs
theorem mx_e_min {n : Nat} (hr : mx_ft mi j = some (pc, (.invokestatic n), nx, a, 97, v)) (hs : mx_ii (fun x y => if y < x then y else x) nx ls st c = some (Ps, j', ls', st', c')) (hd : 1 ≤ d) (hst : (st'.map fun v => v.category).sum ≤ 8) (k : mx_E sy d mi Q j' ls' st' c') : mx_E sy d mi Q j ls st c := by
  obtain ⟨hck, hpc⟩ := mx_ft_ck hr
  obtain ⟨hdc, hnx, hex⟩ := mx_gen (ins := (.invokestatic n)) hck
  have hex : mx_mnl.any (fun e => e.1 == mx_own mi && e.2.1 == n) = true := hex
  obtain ⟨e0, he0, hq0⟩ := List.any_eq_true.mp hex
  have hw0 := of_decide_eq_true (List.all_eq_true.mp mx_mnl_ok e0 he0)
  simp only [Bool.and_eq_true, beq_iff_eq] at hq0
  rw [hq0.1, hq0.2] at hw0
  unfold mx_ii at hs
  split at hs
  · rename_i y x r
    cases hs
    intro l D cy ad p e s m args below meth cd H locs lsA C hP hS hL
    rw [hpc]
    have hcat : ((r.map (mx_tv ad)).map fun v => v.category).sum ≤ 8 := by
      rw [List.map_map, show (r.map ((fun v => v.category) ∘ mx_tv ad)) = r.map (fun v => v.category) from List.map_congr_left (fun x _ => mx_tv_cat ad x)]
      have h8 : 1 + (r.map fun v => v.category).sum ≤ 8 := hst
      omega
    refine va_mmin C.1 C.2.1 (C.2.2.2.1.trans hL.1.symm) C.own (C.ts (mx_mem hw0 rfl)) (C.ts (mx_mem mx_mnl_w.1 rfl)) (C.ts (mx_mem mx_mnl_w.2.1 rfl)) (C.ts (mx_mem mx_mnl_w.2.2 rfl)) hd (show _ ≤ 64 * d by omega) (Nat.zero_le _) (Nat.zero_le _) hdc ?_
    have z := k l D cy ad p e s m args below meth cd H locs lsA C hP hS hL
    rw [hnx] at z
    exact z
  · cases hs
end RULES2
