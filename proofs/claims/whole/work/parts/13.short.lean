/-! short forms of the rules, for proofs -/
section SHORT
variable {sy d mi j pc nx a b : Nat} {v : Int32} {Q : Option Value → mx_M → Prop} {ls st : List Value} {c : mx_M} {Ps : List Prop} {j' : Nat} {ls' st' : List Value} {c' : mx_M}
theorem mR (n : Nat) (h : mx_it sy mi n j ls st c = some (Ps, j', ls', st', c')) (hP : mx_all Ps) (k : mx_E sy d mi Q j' ls' st' c') (hd : 1 ≤ d := by decide) : mx_E sy d mi Q j ls st c := mx_E_run n h hd hP k
theorem mA1 {p : Prop} (h : p) : mx_all [p] := ⟨h, trivial⟩
theorem mA2 {p q : Prop} (h : p) (h2 : q) : mx_all [p, q] := ⟨h, h2, trivial⟩
theorem mA3 {p q r : Prop} (h : p) (h2 : q) (h3 : r) : mx_all [p, q, r] := ⟨h, h2, h3, trivial⟩
theorem mA4 {p q r s : Prop} (h : p) (h2 : q) (h3 : r) (h4 : s) : mx_all [p, q, r, s] := ⟨h, h2, h3, h4, trivial⟩
theorem mA5 {p q r s t : Prop} (h : p) (h2 : q) (h3 : r) (h4 : s) (h5 : t) : mx_all [p, q, r, s, t] := ⟨h, h2, h3, h4, h5, trivial⟩
theorem mA6 {p q r s t u : Prop} (h : p) (h2 : q) (h3 : r) (h4 : s) (h5 : t) (h6 : u) : mx_all [p, q, r, s, t, u] := ⟨h, h2, h3, h4, h5, h6, trivial⟩
theorem mI {n N : Nat} (h : n < N) (hN : N < 2147483648 := by decide) : vp_in (nI n) N := vp_in_nI h hN
/-- an answer that is true or false -/
def mz (t : Bool) : Int32 := if t then 1 else 0
theorem mz_0 (t : Bool) : mz t = 0 ↔ t = false := by cases t <;> decide
theorem mz_01 (t : Bool) : mz t = 0 ∨ mz t = 1 := by cases t <;> decide
theorem mz_nar (t : Bool) : vp_nar .boolean (mz t) = mz t := by cases t <;> decide
theorem mx_up_same (c : mx_M) (i k : Nat) (x : Int32) : mx_up c i k x i k = x := by simp [mx_up]
theorem mx_up_id (c : mx_M) (i k : Nat) (x : Int32) (i' k' : Nat) (h : i' ≠ i) : mx_up c i k x i' k' = c i' k' := by simp [mx_up, h]
theorem mx_up_ix (c : mx_M) (i k : Nat) (x : Int32) (i' k' : Nat) (h : k' ≠ k) : mx_up c i k x i' k' = c i' k' := by simp [mx_up, h]
theorem mx_up_row (c : mx_M) (i k : Nat) (x : Int32) : mx_up c i k x i = upd (c i) k x := by
  funext k'
  by_cases h : k' = k <;> simp [mx_up, upd, h]
theorem mx_up_rid (c : mx_M) (i k : Nat) (x : Int32) (i' : Nat) (h : i' ≠ i) : mx_up c i k x i' = c i' := by
  funext k'
  simp [mx_up, h]
theorem mx_upR_row (c : mx_M) (i : Nat) (g : Nat → Int32) : mx_upR c i g i = g := by simp [mx_upR]
theorem mx_upR_rid (c : mx_M) (i : Nat) (g : Nat → Int32) (i' : Nat) (h : i' ≠ i) : mx_upR c i g i' = c i' := by simp [mx_upR, h]
theorem mx_upR_self (c : mx_M) (i : Nat) : mx_upR c i (c i) = c := by
  funext i'
  by_cases h : i' = i <;> simp [mx_upR, h]
theorem mx_upR_two (c : mx_M) (i : Nat) (g h : Nat → Int32) : mx_upR (mx_upR c i g) i h = mx_upR c i h := by
  funext i'
  by_cases e : i' = i <;> simp [mx_upR, e]
theorem mx_upR_swap (c : mx_M) {i i' : Nat} (g h : Nat → Int32) (ne : i ≠ i') : mx_upR (mx_upR c i g) i' h = mx_upR (mx_upR c i' h) i g := by
  funext k
  by_cases e : k = i
  · subst e
    simp [mx_upR, ne]
  · by_cases e2 : k = i'
    · subst e2
      simp [mx_upR, e]
    · simp [mx_upR, e, e2]
theorem upd_same (f : Nat → Int32) (k : Nat) (x : Int32) : upd f k x k = x := by simp [upd]
theorem upd_ne (f : Nat → Int32) (k : Nat) (x : Int32) (k' : Nat) (h : k' ≠ k) : upd f k x k' = f k' := by simp [upd, h]
-- branches over true and false
theorem mbT {t : Bool} {off : Int} {r : List Value} (hr : mx_ft mi j = some (pc, .ifCond .eq off, nx, a, b, v)) (kt : t = false → mx_E sy d mi Q a ls r c) (kf : t = true → mx_E sy d mi Q nx ls r c) : mx_E sy d mi Q j ls (.int (mz t) :: r) c :=
  mx_E_br hr rfl (fun h => kt ((mz_0 t).mp h)) (fun h => kf (by cases t; exact absurd rfl h; rfl))
theorem mbF {t : Bool} {off : Int} {r : List Value} (hr : mx_ft mi j = some (pc, .ifCond .ne off, nx, a, b, v)) (kt : t = true → mx_E sy d mi Q a ls r c) (kf : t = false → mx_E sy d mi Q nx ls r c) : mx_E sy d mi Q j ls (.int (mz t) :: r) c :=
  mx_E_br hr rfl (fun h => kt (by cases t; exact absurd rfl h; rfl)) (fun h => kf (by cases t; rfl; exact absurd (by decide) h))
theorem mbEq {off : Int} {r : List Value} (p q : Nat) (hr : mx_ft mi j = some (pc, .if_icmp .eq off, nx, a, b, v)) (hp : p < 2147483648) (hq : q < 2147483648) (kt : p = q → mx_E sy d mi Q a ls r c) (kf : p ≠ q → mx_E sy d mi Q nx ls r c) : mx_E sy d mi Q j ls (.int (nI q) :: .int (nI p) :: r) c :=
  mx_E_br hr rfl (fun h => kt ((nI_eq hp hq).mp h)) (fun h => kf (fun z => h (by rw [z])))
theorem mbNe {off : Int} {r : List Value} (p q : Nat) (hr : mx_ft mi j = some (pc, .if_icmp .ne off, nx, a, b, v)) (hp : p < 2147483648) (hq : q < 2147483648) (kt : p ≠ q → mx_E sy d mi Q a ls r c) (kf : p = q → mx_E sy d mi Q nx ls r c) : mx_E sy d mi Q j ls (.int (nI q) :: .int (nI p) :: r) c :=
  mx_E_br hr rfl (fun h => kt (fun z => h (by rw [z]))) (fun h => kf (Decidable.not_not.mp (fun z => h (fun w => z ((nI_eq hp hq).mp w)))))
theorem mbLt {off : Int} {r : List Value} (p q : Nat) (hr : mx_ft mi j = some (pc, .if_icmp .lt off, nx, a, b, v)) (hp : p < 2147483648) (hq : q < 2147483648) (kt : p < q → mx_E sy d mi Q a ls r c) (kf : q ≤ p → mx_E sy d mi Q nx ls r c) : mx_E sy d mi Q j ls (.int (nI q) :: .int (nI p) :: r) c :=
  mx_E_br hr rfl (fun h => kt ((nI_ltI hp hq).mp h)) (fun h => kf (Nat.not_lt.mp (fun z => h ((nI_ltI hp hq).mpr z))))
theorem mbGe {off : Int} {r : List Value} (p q : Nat) (hr : mx_ft mi j = some (pc, .if_icmp .ge off, nx, a, b, v)) (hp : p < 2147483648) (hq : q < 2147483648) (kt : q ≤ p → mx_E sy d mi Q a ls r c) (kf : p < q → mx_E sy d mi Q nx ls r c) : mx_E sy d mi Q j ls (.int (nI q) :: .int (nI p) :: r) c :=
  mx_E_br hr rfl (fun h => kt ((nI_leI hq hp).mp h)) (fun h => kf (Nat.not_le.mp (fun z => h ((nI_leI hq hp).mpr z))))
theorem mbGt {off : Int} {r : List Value} (p q : Nat) (hr : mx_ft mi j = some (pc, .if_icmp .gt off, nx, a, b, v)) (hp : p < 2147483648) (hq : q < 2147483648) (kt : q < p → mx_E sy d mi Q a ls r c) (kf : p ≤ q → mx_E sy d mi Q nx ls r c) : mx_E sy d mi Q j ls (.int (nI q) :: .int (nI p) :: r) c :=
  mx_E_br hr rfl (fun h => kt ((nI_ltI hq hp).mp h)) (fun h => kf (Nat.not_lt.mp (fun z => h ((nI_ltI hq hp).mpr z))))
theorem mbLe {off : Int} {r : List Value} (p q : Nat) (hr : mx_ft mi j = some (pc, .if_icmp .le off, nx, a, b, v)) (hp : p < 2147483648) (hq : q < 2147483648) (kt : p ≤ q → mx_E sy d mi Q a ls r c) (kf : q < p → mx_E sy d mi Q nx ls r c) : mx_E sy d mi Q j ls (.int (nI q) :: .int (nI p) :: r) c :=
  mx_E_br hr rfl (fun h => kt ((nI_leI hp hq).mp h)) (fun h => kf (Nat.not_le.mp (fun z => h ((nI_leI hp hq).mpr z))))
theorem mE {Q' : Option Value → mx_M → Prop} (h : mx_E sy d mi Q j ls st c) (hq : ∀ r c, Q r c → Q' r c) : mx_E sy d mi Q' j ls st c := mx_E_mono h hq
/-- the same, said otherwise: locals, stack, cells -/
theorem mS (h : mx_E sy d mi Q j ls' st' c') (e1 : ls = ls') (e2 : st = st') (e3 : c = c') : mx_E sy d mi Q j ls st c := by rw [e1, e2, e3]; exact h
end SHORT
/-- less may be said of the locals -/
def mwk : List Value → List Value → Prop
  | [], [] => True
  | v :: a, w :: b => (v = .null ∨ w = v) ∧ mwk a b
  | _, _ => False
theorem mwk_len : ∀ {a b : List Value}, mwk a b → a.length = b.length
  | [], [], _ => rfl
  | v :: a, w :: b, h => by
    have := mwk_len h.2
    simp [this]
  | [], w :: b, h => h.elim
  | v :: a, [], h => h.elim
theorem mwk_at : ∀ {a b : List Value}, mwk a b → ∀ (k : Nat) (v : Value), a[k]? = some v → v ≠ .null → b[k]? = some v
  | [], [], _, k, v, h, _ => by simp at h
  | x :: a, w :: b, hw, 0, v, h, hn => by
    simp at h
    subst h
    rcases hw.1 with e | e
    · exact absurd e hn
    · simp [e]
  | x :: a, w :: b, hw, k + 1, v, h, hn => by
    simp only [List.getElem?_cons_succ] at h ⊢
    exact mwk_at hw.2 k v h hn
  | [], w :: b, h, _, _, _, _ => h.elim
  | v :: a, [], h, _, _, _, _ => h.elim
theorem mW {sy d mi j : Nat} {Q : Option Value → mx_M → Prop} {ls ls' st st' : List Value} {c c' : mx_M} (h : mx_E sy d mi Q j ls' st' c') (e1 : mwk ls' ls) (e2 : st = st') (e3 : c = c') : mx_E sy d mi Q j ls st c := by
  subst e2; subst e3
  intro l D cy ad p e s m args below meth cd H locs lsA C hP hS hL
  refine h l D cy ad p e s m args below meth cd H locs lsA C hP hS ⟨hL.1, hL.2.1, (mwk_len e1).trans hL.2.2.1, fun k v hk hv => hL.2.2.2 k v (mwk_at e1 k v hk hv) hv⟩
theorem nI_s1 (a : Nat) : nI a + 1 = nI (a + 1) := nI_1 a
theorem nI_31 {y : Nat} (h : y < 32) : nI y &&& 31 = nI y := (by decide +kernel : ∀ y, y < 32 → nI y &&& 31 = nI y) y h
theorem nI_shl1 {y : Nat} (h : y < 31) : (1 : Int32) <<< (nI y &&& 31) = nI (2 ^ y) := (by decide +kernel : ∀ y, y < 31 → (1 : Int32) <<< (nI y &&& 31) = nI (2 ^ y)) y h
/-- a bit asked for: shifted down, the lowest -/
theorem nI_bit {x y : Nat} (hx : x < 2147483648) (hy : y < 31) : (nI x >>> (nI y &&& 31)) &&& 1 = nI ((x >>> y) % 2) := by
  rw [nI_31 (by omega), pk_shrN hx (nI y) y ((by decide +kernel : ∀ y, y < 31 → ((nI y).toBitVec.smod 32).toNat = y) y hy), show (1 : Int32) = nI (2 ^ 1 - 1) from rfl, fa_mask, Nat.shiftRight_eq_div_pow]
theorem nI_tb {x y : Nat} (hx : x < 2147483648) (hy : y < 31) : ((nI x >>> (nI y &&& 31)) &&& 1 = 1) ↔ x.testBit y = true := by
  rw [nI_bit hx hy, show (1 : Int32) = nI 1 from rfl, nI_eq (by omega) (by omega), Nat.testBit, Nat.one_and_eq_mod_two]
  simp
