/-! the law: its loop -/
theorem dl_18 : decode code 18 = .ok (.iload_n 3, 1) := by decide +kernel
theorem dl_19 : decode code 19 = .ok (.aload_n 0, 1) := by decide +kernel
theorem dl_20 : decode code 20 = .ok (.arraylength, 1) := by decide +kernel
theorem dl_21 : decode code 21 = .ok (.iconst 5, 1) := by decide +kernel
theorem dl_22 : decode code 22 = .ok (.isub, 1) := by decide +kernel
theorem dl_23 : decode code 23 = .ok (.if_icmp .gt 752, 3) := by decide +kernel
theorem dl_26 : decode code 26 = .ok (.aload_n 0, 1) := by decide +kernel
theorem dl_27 : decode code 27 = .ok (.iload_n 3, 1) := by decide +kernel
theorem dl_28 : decode code 28 = .ok (.iaload, 1) := by decide +kernel
theorem dl_29 : decode code 29 = .ok (.bipush 31, 2) := by decide +kernel
theorem dl_31 : decode code 31 = .ok (.iand, 1) := by decide +kernel
theorem dl_32 : decode code 32 = .ok (.tableswitch 737 0 22 #[108, 131, 144, 157, 190, 223, 256, 279, 312, 335, 358, 371, 404, 447, 490, 533, 586, 619, 632, 655, 668, 691, 714], 108) := by decide +kernel
theorem dl_769 : decode code 769 = .ok (.iinc 3 5, 3) := by decide +kernel
theorem dl_772 : decode code 772 = .ok (.goto (-754), 3) := by decide +kernel
theorem dl_775 : decode code 775 = .ok (.iconst 1, 1) := by decide +kernel
theorem dl_776 : decode code 776 = .ok (.ireturn, 1) := by decide +kernel
theorem la_k0 : la_dk 140 1 13 17 611 = true ∧ la_ck 1 m_De_type m_Mo_type = true := by decide +kernel
theorem la_w0 : Cond.methodLink (mx_cn 7) 13 (mx_y m_De_type) ∈ mx_good ∧ Cond.methodLink (mx_cn 7) 17 (mx_y m_Mo_type) ∈ mx_good := ⟨mx_mem (p := 358) (by decide +kernel) rfl, mx_mem (p := 789) (by decide +kernel) rfl⟩
theorem la_k1 : la_dk 163 0 18 22 598 = true ∧ la_ck 0 m_De_clear m_Mo_clear = true := by decide +kernel
theorem la_w1 : Cond.methodLink (mx_cn 7) 18 (mx_y m_De_clear) ∈ mx_good ∧ Cond.methodLink (mx_cn 7) 22 (mx_y m_Mo_clear) ∈ mx_good := ⟨mx_mem (p := 366) (by decide +kernel) rfl, mx_mem (p := 796) (by decide +kernel) rfl⟩
theorem la_k2 : la_dk 176 0 23 26 585 = true ∧ la_ck 0 m_De_desk m_Mo_desk = true := by decide +kernel
theorem la_w2 : Cond.methodLink (mx_cn 7) 23 (mx_y m_De_desk) ∈ mx_good ∧ Cond.methodLink (mx_cn 7) 26 (mx_y m_Mo_desk) ∈ mx_good := ⟨mx_mem (p := 370) (by decide +kernel) rfl, mx_mem (p := 800) (by decide +kernel) rfl⟩
theorem la_k3 : la_dk 189 2 27 31 552 = true ∧ la_ck 2 m_De_ranking m_Mo_ranking = true := by decide +kernel
theorem la_w3 : Cond.methodLink (mx_cn 7) 27 (mx_y m_De_ranking) ∈ mx_good ∧ Cond.methodLink (mx_cn 7) 31 (mx_y m_Mo_ranking) ∈ mx_good := ⟨mx_mem (p := 422) (by decide +kernel) rfl, mx_mem (p := 839) (by decide +kernel) rfl⟩
theorem la_k4 : la_dk 222 2 32 35 519 = true ∧ la_ck 2 m_De_node m_Mo_node = true := by decide +kernel
theorem la_w4 : Cond.methodLink (mx_cn 7) 32 (mx_y m_De_node) ∈ mx_good ∧ Cond.methodLink (mx_cn 7) 35 (mx_y m_Mo_node) ∈ mx_good := ⟨mx_mem (p := 435) (by decide +kernel) rfl, mx_mem (p := 851) (by decide +kernel) rfl⟩
theorem la_k5 : la_dk 255 2 36 39 486 = true ∧ la_ck 2 m_De_votes m_Mo_votes = true := by decide +kernel
theorem la_w5 : Cond.methodLink (mx_cn 7) 36 (mx_y m_De_votes) ∈ mx_good ∧ Cond.methodLink (mx_cn 7) 39 (mx_y m_Mo_votes) ∈ mx_good := ⟨mx_mem (p := 471) (by decide +kernel) rfl, mx_mem (p := 898) (by decide +kernel) rfl⟩
theorem la_k6 : la_dk 288 1 40 43 463 = true ∧ la_ck 1 m_De_now m_Mo_now = true := by decide +kernel
theorem la_w6 : Cond.methodLink (mx_cn 7) 40 (mx_y m_De_now) ∈ mx_good ∧ Cond.methodLink (mx_cn 7) 43 (mx_y m_Mo_now) ∈ mx_good := ⟨mx_mem (p := 475) (by decide +kernel) rfl, mx_mem (p := 902) (by decide +kernel) rfl⟩
theorem la_k7 : la_dk 311 2 44 47 430 = true ∧ la_ck 2 m_De_ranks m_Mo_ranks = true := by decide +kernel
theorem la_w7 : Cond.methodLink (mx_cn 7) 44 (mx_y m_De_ranks) ∈ mx_good ∧ Cond.methodLink (mx_cn 7) 47 (mx_y m_Mo_ranks) ∈ mx_good := ⟨mx_mem (p := 496) (by decide +kernel) rfl, mx_mem (p := 918) (by decide +kernel) rfl⟩
theorem la_k8 : la_dk 344 1 48 51 407 = true ∧ la_ck 1 m_De_swaps m_Mo_swaps = true := by decide +kernel
theorem la_w8 : Cond.methodLink (mx_cn 7) 48 (mx_y m_De_swaps) ∈ mx_good ∧ Cond.methodLink (mx_cn 7) 51 (mx_y m_Mo_swaps) ∈ mx_good := ⟨mx_mem (p := 508) (by decide +kernel) rfl, mx_mem (p := 926) (by decide +kernel) rfl⟩
theorem la_k9 : la_dk 367 1 52 55 384 = true ∧ la_ck 1 m_De_sets m_Mo_sets = true := by decide +kernel
theorem la_w9 : Cond.methodLink (mx_cn 7) 52 (mx_y m_De_sets) ∈ mx_good ∧ Cond.methodLink (mx_cn 7) 55 (mx_y m_Mo_sets) ∈ mx_good := ⟨mx_mem (p := 518) (by decide +kernel) rfl, mx_mem (p := 930) (by decide +kernel) rfl⟩
theorem la_k10 : la_dk 390 0 56 59 371 = true ∧ la_ck 0 m_De_undo m_Mo_undo = true := by decide +kernel
theorem la_w10 : Cond.methodLink (mx_cn 7) 56 (mx_y m_De_undo) ∈ mx_good ∧ Cond.methodLink (mx_cn 7) 59 (mx_y m_Mo_undo) ∈ mx_good := ⟨mx_mem (p := 530) (by decide +kernel) rfl, mx_mem (p := 934) (by decide +kernel) rfl⟩
theorem la_k11 : la_dk 403 2 60 63 338 = true ∧ la_ck 2 m_De_order m_Mo_order = true := by decide +kernel
theorem la_w11 : Cond.methodLink (mx_cn 7) 60 (mx_y m_De_order) ∈ mx_good ∧ Cond.methodLink (mx_cn 7) 63 (mx_y m_Mo_order) ∈ mx_good := ⟨mx_mem (p := 534) (by decide +kernel) rfl, mx_mem (p := 938) (by decide +kernel) rfl⟩
theorem la_k12 : la_dk 436 3 64 68 295 = true ∧ la_ck 3 m_De_reach m_Mo_reach = true := by decide +kernel
theorem la_w12 : Cond.methodLink (mx_cn 7) 64 (mx_y m_De_reach) ∈ mx_good ∧ Cond.methodLink (mx_cn 7) 68 (mx_y m_Mo_reach) ∈ mx_good := ⟨mx_mem (p := 538) (by decide +kernel) rfl, mx_mem (p := 942) (by decide +kernel) rfl⟩
theorem la_k13 : la_dk 479 3 69 72 252 = true ∧ la_ck 3 m_De_better m_Mo_better = true := by decide +kernel
theorem la_w13 : Cond.methodLink (mx_cn 7) 69 (mx_y m_De_better) ∈ mx_good ∧ Cond.methodLink (mx_cn 7) 72 (mx_y m_Mo_better) ∈ mx_good := ⟨mx_mem (p := 559) (by decide +kernel) rfl, mx_mem (p := 949) (by decide +kernel) rfl⟩
theorem la_k14 : la_dk 522 3 73 76 209 = true ∧ la_ck 3 m_De_won m_Mo_won = true := by decide +kernel
theorem la_w14 : Cond.methodLink (mx_cn 7) 73 (mx_y m_De_won) ∈ mx_good ∧ Cond.methodLink (mx_cn 7) 76 (mx_y m_Mo_won) ∈ mx_good := ⟨mx_mem (p := 581) (by decide +kernel) rfl, mx_mem (p := 957) (by decide +kernel) rfl⟩
theorem la_k15 : la_dk 565 4 77 81 156 = true ∧ la_ck 4 m_De_odds m_Mo_odds = true := by decide +kernel
theorem la_w15 : Cond.methodLink (mx_cn 7) 77 (mx_y m_De_odds) ∈ mx_good ∧ Cond.methodLink (mx_cn 7) 81 (mx_y m_Mo_odds) ∈ mx_good := ⟨mx_mem (p := 594) (by decide +kernel) rfl, mx_mem (p := 965) (by decide +kernel) rfl⟩
theorem la_k16 : la_dk 618 2 82 85 123 = true ∧ la_ck 2 m_De_sees m_Mo_sees = true := by decide +kernel
theorem la_w16 : Cond.methodLink (mx_cn 7) 82 (mx_y m_De_sees) ∈ mx_good ∧ Cond.methodLink (mx_cn 7) 85 (mx_y m_Mo_sees) ∈ mx_good := ⟨mx_mem (p := 605) (by decide +kernel) rfl, mx_mem (p := 973) (by decide +kernel) rfl⟩
theorem la_k17 : la_dk 651 0 86 89 110 = true ∧ la_ck 0 m_De_forget m_Mo_forget = true := by decide +kernel
theorem la_w17 : Cond.methodLink (mx_cn 7) 86 (mx_y m_De_forget) ∈ mx_good ∧ Cond.methodLink (mx_cn 7) 89 (mx_y m_Mo_forget) ∈ mx_good := ⟨mx_mem (p := 613) (by decide +kernel) rfl, mx_mem (p := 977) (by decide +kernel) rfl⟩
theorem la_k18 : la_dk 664 1 90 93 87 = true ∧ la_ck 1 m_De_rankings m_Mo_rankings = true := by decide +kernel
theorem la_w18 : Cond.methodLink (mx_cn 7) 90 (mx_y m_De_rankings) ∈ mx_good ∧ Cond.methodLink (mx_cn 7) 93 (mx_y m_Mo_rankings) ∈ mx_good := ⟨mx_mem (p := 617) (by decide +kernel) rfl, mx_mem (p := 981) (by decide +kernel) rfl⟩
theorem la_k19 : la_dk 687 0 94 97 74 = true ∧ la_ck 0 m_De_watch m_Mo_watch = true := by decide +kernel
theorem la_w19 : Cond.methodLink (mx_cn 7) 94 (mx_y m_De_watch) ∈ mx_good ∧ Cond.methodLink (mx_cn 7) 97 (mx_y m_Mo_watch) ∈ mx_good := ⟨mx_mem (p := 626) (by decide +kernel) rfl, mx_mem (p := 1001) (by decide +kernel) rfl⟩
theorem la_k20 : la_dk 700 1 98 101 51 = true ∧ la_ck 1 m_De_keep m_Mo_keep = true := by decide +kernel
theorem la_w20 : Cond.methodLink (mx_cn 7) 98 (mx_y m_De_keep) ∈ mx_good ∧ Cond.methodLink (mx_cn 7) 101 (mx_y m_Mo_keep) ∈ mx_good := ⟨mx_mem (p := 638) (by decide +kernel) rfl, mx_mem (p := 1005) (by decide +kernel) rfl⟩
theorem la_k21 : la_dk 723 1 102 105 28 = true ∧ la_ck 1 m_De_back m_Mo_back = true := by decide +kernel
theorem la_w21 : Cond.methodLink (mx_cn 7) 102 (mx_y m_De_back) ∈ mx_good ∧ Cond.methodLink (mx_cn 7) 105 (mx_y m_Mo_back) ∈ mx_good := ⟨mx_mem (p := 642) (by decide +kernel) rfl, mx_mem (p := 1009) (by decide +kernel) rfl⟩
theorem la_k22 : la_dk 746 1 106 109 5 = true ∧ la_ck 1 m_De_count m_Mo_count = true := by decide +kernel
theorem la_w22 : Cond.methodLink (mx_cn 7) 106 (mx_y m_De_count) ∈ mx_good ∧ Cond.methodLink (mx_cn 7) 109 (mx_y m_Mo_count) ∈ mx_good := ⟨mx_mem (p := 646) (by decide +kernel) rfl, mx_mem (p := 1013) (by decide +kernel) rfl⟩
theorem la_5 : ∀ L, L < 5 → ∀ k, k < 2600 → nI L - 5 < nI k := by decide +kernel
theorem la_le {L k : Nat} (hL : L ≤ 2560) (hk : k < 2600) (h : ¬ (nI L - 5 < nI k)) : k + 5 ≤ L := by
  rcases Nat.lt_or_ge L 5 with h5 | h5
  · exact absurd (la_5 L h5 k hk) h
  · obtain ⟨M, rfl⟩ : ∃ M, L = M + 5 := ⟨L - 5, by omega⟩
    have e : nI (M + 5) - 5 = nI M := by
      rw [← nI_add, show (5 : Int32) = nI 5 from rfl]
      exact Int32.add_sub_cancel _ _
    rw [e] at h
    rcases Nat.lt_or_ge M k with h6 | h6
    · exact absurd (nI_lt h6 (by omega)) h
    · omega
theorem la_t (x : Int32) : ∃ t, t < 32 ∧ x &&& 31 = nI t := by
  refine ⟨x.toBitVec.toNat % 2 ^ 5, Nat.mod_lt _ (by decide), ?_⟩
  have e : x = nI x.toBitVec.toNat := by
    apply Int32.toBitVec_inj.1
    show x.toBitVec = BitVec.ofNat 32 x.toBitVec.toNat
    rw [BitVec.ofNat_toNat, BitVec.setWidth_eq]
  rw [← fa_mask, ← e]
  rfl
set_option maxHeartbeats 4000000 in
theorem law_loop {p : Program} {l : Launch} {e : Env} {s : State} {m : MethodId} {below : List Frame} {meth : Method} {cd : Code} {D : va_G} {cy : Nat → ClassId} {ad0 ad1 : Nat → Nat} {b L : Nat} {xs : Nat → Int32} (F : la_Fx D cy ad0 ad1 p s m meth cd b L xs) :
    ∀ (n k : Nat) (a : mSt) (c0 c1 : mx_M) (H : Heap) (locs : List Loc) (ls : Array Slot), L ≤ k + 5 * n → k < 2600 → cI c0 a → rI c1 a → pVal a.2.2.1 → la_W D cy ad0 ad1 s c0 c1 H locs → lv_has ls 4 (la_L ad0 ad1 b k) → W p l e room_1 s m #[Value.ref b] below meth cd H locs 600000 7302250 (lw_Z below #[Value.ref b] s) (F0 m 18 ls []) := by
  have F1 := F
  obtain ⟨X, hr, hlk, hX, hbl, hL, -⟩ := F1
  intro n
  induction n with
  | zero =>
    intro k a c0 c1 H locs ls hn hk h0 h1 hv hW hl
    have hS := hW.2.2
    refine lv_iload_n X.1 X.2.1 dl_18 rfl (lv_at hl 0 rfl) ?_
    refine lv_aload_n X.1 X.2.1 dl_19 rfl (lv_at hl 3 rfl) ?_
    refine va_slen X.1 X.2.1 hX hbl (Nat.not_le.mpr hbl) hS dl_20 ?_
    refine lv_iconst (v := 5) X.1 X.2.1 dl_21 (by decide) ?_
    refine lv_isub X.1 X.2.1 dl_22 ?_
    refine lv_icmp_gt (tgt := 775) X.1 X.2.1 dl_23 (by decide) (fun h => ?_) (fun h => ?_)
    · refine lv_iconst (v := 1) X.1 X.2.1 dl_775 (by decide) ?_
      exact va_forget hS.2.2 (lw_ret X.1 X.2.1 hr hlk dl_776)
    · have := la_le hL hk h
      omega
  | succ n ih =>
    intro k a c0 c1 H locs ls hn hk h0 h1 hv hW hl
    have hS := hW.2.2
    refine lv_iload_n X.1 X.2.1 dl_18 rfl (lv_at hl 0 rfl) ?_
    refine lv_aload_n X.1 X.2.1 dl_19 rfl (lv_at hl 3 rfl) ?_
    refine va_slen X.1 X.2.1 hX hbl (Nat.not_le.mpr hbl) hS dl_20 ?_
    refine lv_iconst (v := 5) X.1 X.2.1 dl_21 (by decide) ?_
    refine lv_isub X.1 X.2.1 dl_22 ?_
    refine lv_icmp_gt (tgt := 775) X.1 X.2.1 dl_23 (by decide) (fun h => ?_) (fun h => ?_)
    · refine lv_iconst (v := 1) X.1 X.2.1 dl_775 (by decide) ?_
      exact va_forget hS.2.2 (lw_ret X.1 X.2.1 hr hlk dl_776)
    · have h5 : k + 5 ≤ L := la_le hL hk h
      refine lv_aload_n X.1 X.2.1 dl_26 rfl (lv_at hl 3 rfl) ?_
      refine lv_iload_n X.1 X.2.1 dl_27 rfl (lv_at hl 0 rfl) ?_
      refine va_sld X.1 X.2.1 hX hbl (Nat.not_le.mpr hbl) hS (vp_in_nI (show k < L by omega) (by omega)) dl_28 ?_
      refine lv_bipush (v := 31) X.1 X.2.1 dl_29 (by decide) ?_
      refine lv_iand X.1 X.2.1 dl_31 ?_
      have nx : ∀ (a : mSt) (c0 c1 : mx_M) (H : Heap) (locs : List Loc), cI c0 a → rI c1 a → pVal a.2.2.1 → la_W D cy ad0 ad1 s c0 c1 H locs → W p l e room_1 s m #[Value.ref b] below meth cd H locs 600000 7302250 (lw_Z below #[Value.ref b] s) (F0 m 769 ls []) := by
        intro a c0 c1 H locs g0 g1 gv gW
        refine lv_iinc (v := nI (k + 5)) (lv' := la_L ad0 ad1 b (k + 5)) X.1 X.2.1 dl_769 hl (k := 0) rfl (nI_add k 5) (by decide) rfl (fun ls hl => ?_)
        refine lv_goto (tgt := 18) X.1 X.2.1 dl_772 (by decide) ?_
        exact ih (k + 5) a c0 c1 H locs ls (by omega) (by omega) g0 g1 gv gW hl
      obtain ⟨t, ht, et⟩ := la_t (xs (nI k).toNatClampNeg)
      rw [et]
      match t, ht with
      | 0, _ =>
        refine lv_tableIn (tgt := 140) (off := 108) X.1 X.2.1 dl_32 (by decide) (by decide) (by decide +kernel) (by decide) ?_
        exact la_case (n := 1) (i0 := 13) (i1 := 17) (off := 611) (d0 := 2) (d1 := 2) F h5 (by decide) h0 h1 hv hW hl la_k0.1 la_w0.1 la_w0.2 la_k0.2 ⟨by decide, by decide⟩ (qc_type (xs (k + 1)) h0) (qr_type (xs (k + 1)) h1) (pv_type (xs (k + 1)) hv) nx
      | 1, _ =>
        refine lv_tableIn (tgt := 163) (off := 131) X.1 X.2.1 dl_32 (by decide) (by decide) (by decide +kernel) (by decide) ?_
        exact la_case (n := 0) (i0 := 18) (i1 := 22) (off := 598) (d0 := 1) (d1 := 1) F h5 (by decide) h0 h1 hv hW hl la_k1.1 la_w1.1 la_w1.2 la_k1.2 ⟨by decide, by decide⟩ (qc_clear h0) (qr_clear h1) pv_clear nx
      | 2, _ =>
        refine lv_tableIn (tgt := 176) (off := 144) X.1 X.2.1 dl_32 (by decide) (by decide) (by decide +kernel) (by decide) ?_
        exact la_case (n := 0) (i0 := 23) (i1 := 26) (off := 585) (d0 := 38) (d1 := 6) F h5 (by decide) h0 h1 hv hW hl la_k2.1 la_w2.1 la_w2.2 la_k2.2 ⟨by decide, by decide⟩ (qc_desk h0 hv) (qr_desk h1 hv) (pv_desk hv) nx
      | 3, _ =>
        refine lv_tableIn (tgt := 189) (off := 157) X.1 X.2.1 dl_32 (by decide) (by decide) (by decide +kernel) (by decide) ?_
        exact la_case (n := 2) (i0 := 27) (i1 := 31) (off := 552) (d0 := 3) (d1 := 3) F h5 (by decide) h0 h1 hv hW hl la_k3.1 la_w3.1 la_w3.2 la_k3.2 ⟨by decide, by decide⟩ (qc_ranking (xs (k + 1)) (xs (k + 2)) h0) (qr_ranking (xs (k + 1)) (xs (k + 2)) h1) (pv_ranking (xs (k + 1)) (xs (k + 2)) hv) nx
      | 4, _ =>
        refine lv_tableIn (tgt := 222) (off := 190) X.1 X.2.1 dl_32 (by decide) (by decide) (by decide +kernel) (by decide) ?_
        exact la_case (n := 2) (i0 := 32) (i1 := 35) (off := 519) (d0 := 5) (d1 := 5) F h5 (by decide) h0 h1 hv hW hl la_k4.1 la_w4.1 la_w4.2 la_k4.2 ⟨by decide, by decide⟩ (qc_node (xs (k + 1)) (xs (k + 2)) h0) (qr_node (xs (k + 1)) (xs (k + 2)) h1) (pv_node (xs (k + 1)) (xs (k + 2)) hv) nx
      | 5, _ =>
        refine lv_tableIn (tgt := 255) (off := 223) X.1 X.2.1 dl_32 (by decide) (by decide) (by decide +kernel) (by decide) ?_
        exact la_case (n := 2) (i0 := 36) (i1 := 39) (off := 486) (d0 := 3) (d1 := 3) F h5 (by decide) h0 h1 hv hW hl la_k5.1 la_w5.1 la_w5.2 la_k5.2 ⟨by decide, by decide⟩ (qc_votes (xs (k + 1)) (xs (k + 2)) h0) (qr_votes (xs (k + 1)) (xs (k + 2)) h1) (pv_votes (xs (k + 1)) (xs (k + 2)) hv) nx
      | 6, _ =>
        refine lv_tableIn (tgt := 288) (off := 256) X.1 X.2.1 dl_32 (by decide) (by decide) (by decide +kernel) (by decide) ?_
        exact la_case (n := 1) (i0 := 40) (i1 := 43) (off := 463) (d0 := 6) (d1 := 6) F h5 (by decide) h0 h1 hv hW hl la_k6.1 la_w6.1 la_w6.2 la_k6.2 ⟨by decide, by decide⟩ (qc_now (xs (k + 1)) h0) (qr_now (xs (k + 1)) h1) (pv_now (xs (k + 1)) hv) nx
      | 7, _ =>
        refine lv_tableIn (tgt := 311) (off := 279) X.1 X.2.1 dl_32 (by decide) (by decide) (by decide +kernel) (by decide) ?_
        exact la_case (n := 2) (i0 := 44) (i1 := 47) (off := 430) (d0 := 7) (d1 := 6) F h5 (by decide) h0 h1 hv hW hl la_k7.1 la_w7.1 la_w7.2 la_k7.2 ⟨by decide, by decide⟩ (qc_ranks (xs (k + 1)) (xs (k + 2)) h0) (qr_ranks (xs (k + 1)) (xs (k + 2)) h1) (pv_ranks (xs (k + 1)) (xs (k + 2)) hv) nx
      | 8, _ =>
        refine lv_tableIn (tgt := 344) (off := 312) X.1 X.2.1 dl_32 (by decide) (by decide) (by decide +kernel) (by decide) ?_
        exact la_case (n := 1) (i0 := 48) (i1 := 51) (off := 407) (d0 := 7) (d1 := 6) F h5 (by decide) h0 h1 hv hW hl la_k8.1 la_w8.1 la_w8.2 la_k8.2 ⟨by decide, by decide⟩ (qc_swaps (xs (k + 1)) h0) (qr_swaps (xs (k + 1)) h1) (pv_swaps (xs (k + 1)) hv) nx
      | 9, _ =>
        refine lv_tableIn (tgt := 367) (off := 335) X.1 X.2.1 dl_32 (by decide) (by decide) (by decide +kernel) (by decide) ?_
        exact la_case (n := 1) (i0 := 52) (i1 := 55) (off := 384) (d0 := 9) (d1 := 3) F h5 (by decide) h0 h1 hv hW hl la_k9.1 la_w9.1 la_w9.2 la_k9.2 ⟨by decide, by decide⟩ (qc_sets (xs (k + 1)) h0) (qr_sets (xs (k + 1)) h1) (pv_sets (xs (k + 1)) hv) nx
      | 10, _ =>
        refine lv_tableIn (tgt := 390) (off := 358) X.1 X.2.1 dl_32 (by decide) (by decide) (by decide +kernel) (by decide) ?_
        exact la_case (n := 0) (i0 := 56) (i1 := 59) (off := 371) (d0 := 7) (d1 := 1) F h5 (by decide) h0 h1 hv hW hl la_k10.1 la_w10.1 la_w10.2 la_k10.2 ⟨by decide, by decide⟩ (qc_undo h0) (qr_undo h1) (pv_undo hv) nx
      | 11, _ =>
        refine lv_tableIn (tgt := 403) (off := 371) X.1 X.2.1 dl_32 (by decide) (by decide) (by decide +kernel) (by decide) ?_
        exact la_case (n := 2) (i0 := 60) (i1 := 63) (off := 338) (d0 := 3) (d1 := 3) F h5 (by decide) h0 h1 hv hW hl la_k11.1 la_w11.1 la_w11.2 la_k11.2 ⟨by decide, by decide⟩ (qc_order (xs (k + 1)) (xs (k + 2)) h0) (qr_order (xs (k + 1)) (xs (k + 2)) h1) (pv_order (xs (k + 1)) (xs (k + 2)) hv) nx
      | 12, _ =>
        refine lv_tableIn (tgt := 436) (off := 404) X.1 X.2.1 dl_32 (by decide) (by decide) (by decide +kernel) (by decide) ?_
        exact la_case (n := 3) (i0 := 64) (i1 := 68) (off := 295) (d0 := 6) (d1 := 6) F h5 (by decide) h0 h1 hv hW hl la_k12.1 la_w12.1 la_w12.2 la_k12.2 ⟨by decide, by decide⟩ (qc_reach (xs (k + 1)) (xs (k + 2)) (xs (k + 3)) h0) (qr_reach (xs (k + 1)) (xs (k + 2)) (xs (k + 3)) h1) (pv_reach (xs (k + 1)) (xs (k + 2)) (xs (k + 3)) hv) nx
      | 13, _ =>
        refine lv_tableIn (tgt := 479) (off := 447) X.1 X.2.1 dl_32 (by decide) (by decide) (by decide +kernel) (by decide) ?_
        exact la_case (n := 3) (i0 := 69) (i1 := 72) (off := 252) (d0 := 6) (d1 := 6) F h5 (by decide) h0 h1 hv hW hl la_k13.1 la_w13.1 la_w13.2 la_k13.2 ⟨by decide, by decide⟩ (qc_better (xs (k + 1)) (xs (k + 2)) (xs (k + 3)) h0) (qr_better (xs (k + 1)) (xs (k + 2)) (xs (k + 3)) h1) (pv_better (xs (k + 1)) (xs (k + 2)) (xs (k + 3)) hv) nx
      | 14, _ =>
        refine lv_tableIn (tgt := 522) (off := 490) X.1 X.2.1 dl_32 (by decide) (by decide) (by decide +kernel) (by decide) ?_
        exact la_case (n := 3) (i0 := 73) (i1 := 76) (off := 209) (d0 := 6) (d1 := 6) F h5 (by decide) h0 h1 hv hW hl la_k14.1 la_w14.1 la_w14.2 la_k14.2 ⟨by decide, by decide⟩ (qc_won (xs (k + 1)) (xs (k + 2)) (xs (k + 3)) h0) (qr_won (xs (k + 1)) (xs (k + 2)) (xs (k + 3)) h1) (pv_won (xs (k + 1)) (xs (k + 2)) (xs (k + 3)) hv) nx
      | 15, _ =>
        refine lv_tableIn (tgt := 565) (off := 533) X.1 X.2.1 dl_32 (by decide) (by decide) (by decide +kernel) (by decide) ?_
        exact la_case (n := 4) (i0 := 77) (i1 := 81) (off := 156) (d0 := 6) (d1 := 6) F h5 (by decide) h0 h1 hv hW hl la_k15.1 la_w15.1 la_w15.2 la_k15.2 ⟨by decide, by decide⟩ (qc_odds (xs (k + 1)) (xs (k + 2)) (xs (k + 3)) (xs (k + 4)) h0) (qr_odds (xs (k + 1)) (xs (k + 2)) (xs (k + 3)) (xs (k + 4)) h1) (pv_odds (xs (k + 1)) (xs (k + 2)) (xs (k + 3)) (xs (k + 4)) hv) nx
      | 16, _ =>
        refine lv_tableIn (tgt := 618) (off := 586) X.1 X.2.1 dl_32 (by decide) (by decide) (by decide +kernel) (by decide) ?_
        exact la_case (n := 2) (i0 := 82) (i1 := 85) (off := 123) (d0 := 3) (d1 := 3) F h5 (by decide) h0 h1 hv hW hl la_k16.1 la_w16.1 la_w16.2 la_k16.2 ⟨by decide, by decide⟩ (qc_sees (xs (k + 1)) (xs (k + 2)) h0) (qr_sees (xs (k + 1)) (xs (k + 2)) h1) (pv_sees (xs (k + 1)) (xs (k + 2)) hv) nx
      | 17, _ =>
        refine lv_tableIn (tgt := 651) (off := 619) X.1 X.2.1 dl_32 (by decide) (by decide) (by decide +kernel) (by decide) ?_
        exact la_case (n := 0) (i0 := 86) (i1 := 89) (off := 110) (d0 := 1) (d1 := 1) F h5 (by decide) h0 h1 hv hW hl la_k17.1 la_w17.1 la_w17.2 la_k17.2 ⟨by decide, by decide⟩ (qc_forget h0) (qr_forget h1) (pv_forget hv) nx
      | 18, _ =>
        refine lv_tableIn (tgt := 664) (off := 632) X.1 X.2.1 dl_32 (by decide) (by decide) (by decide +kernel) (by decide) ?_
        exact la_case (n := 1) (i0 := 90) (i1 := 93) (off := 87) (d0 := 3) (d1 := 5) F h5 (by decide) h0 h1 hv hW hl la_k18.1 la_w18.1 la_w18.2 la_k18.2 ⟨by decide, by decide⟩ (qc_rankings (xs (k + 1)) h0) (qr_rankings (xs (k + 1)) h1) (pv_rankings (xs (k + 1)) hv) nx
      | 19, _ =>
        refine lv_tableIn (tgt := 687) (off := 655) X.1 X.2.1 dl_32 (by decide) (by decide) (by decide +kernel) (by decide) ?_
        exact la_case (n := 0) (i0 := 94) (i1 := 97) (off := 74) (d0 := 5) (d1 := 5) F h5 (by decide) h0 h1 hv hW hl la_k19.1 la_w19.1 la_w19.2 la_k19.2 ⟨by decide, by decide⟩ (qc_watch h0) (qr_watch h1) (pv_watch hv) nx
      | 20, _ =>
        refine lv_tableIn (tgt := 700) (off := 668) X.1 X.2.1 dl_32 (by decide) (by decide) (by decide +kernel) (by decide) ?_
        exact la_case (n := 1) (i0 := 98) (i1 := 101) (off := 51) (d0 := 2) (d1 := 2) F h5 (by decide) h0 h1 hv hW hl la_k20.1 la_w20.1 la_w20.2 la_k20.2 ⟨by decide, by decide⟩ (qc_keep (xs (k + 1)) h0) (qr_keep (xs (k + 1)) h1) (pv_keep (xs (k + 1)) hv) nx
      | 21, _ =>
        refine lv_tableIn (tgt := 723) (off := 691) X.1 X.2.1 dl_32 (by decide) (by decide) (by decide +kernel) (by decide) ?_
        exact la_case (n := 1) (i0 := 102) (i1 := 105) (off := 28) (d0 := 7) (d1 := 2) F h5 (by decide) h0 h1 hv hW hl la_k21.1 la_w21.1 la_w21.2 la_k21.2 ⟨by decide, by decide⟩ (qc_back (xs (k + 1)) h0) (qr_back (xs (k + 1)) h1) (pv_back (xs (k + 1)) hv) nx
      | 22, _ =>
        refine lv_tableIn (tgt := 746) (off := 714) X.1 X.2.1 dl_32 (by decide) (by decide) (by decide +kernel) (by decide) ?_
        exact la_case (n := 1) (i0 := 106) (i1 := 109) (off := 5) (d0 := 2) (d1 := 2) F h5 (by decide) h0 h1 hv hW hl la_k22.1 la_w22.1 la_w22.2 la_k22.2 ⟨by decide, by decide⟩ (qc_count (xs (k + 1)) h0) (qr_count (xs (k + 1)) h1) (pv_count (xs (k + 1)) hv) nx
      | t + 23, ht =>
        refine lv_tableOut (tgt := 769) X.1 X.2.1 dl_32 (Or.inr (by rw [nI_toInt (show t + 23 < 2 ^ 31 by omega)]; omega)) (by decide) ?_
        exact nx a c0 c1 H locs h0 h1 hv hW
