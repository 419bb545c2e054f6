section
-- ===== PART A: goes FIRST, ahead of the names: the tables' words, and 'selects' of the private methods out of them =====
/-- a private method of a class that the tables say can be made, by its rows of tables_1 -/
def lw_okq (q : MethodName × Nat) : Prop := (q.1.cls ≠ "java/lang/invoke/MethodHandle" ∧ q.1.cls ≠ "java/lang/invoke/VarHandle") ∧ Cond.instantiable q.1.cls q.2 ∈ tables_1 ∧ Cond.privateMethod q.1 ∈ tables_1 ∧ Cond.instanceMethod q.1 ∈ tables_1
theorem lw_p0 : lw_okq (⟨"MotionDesk$Picture", "empty", "(I)V"⟩, 5) := ⟨⟨by decide +kernel, by decide +kernel⟩, List.mem_of_getElem? (i := 27) (by decide +kernel), List.mem_of_getElem? (i := 156) (by decide +kernel), List.mem_of_getElem? (i := 157) (by decide +kernel)⟩
theorem lw_p1 : lw_okq (⟨"MotionDesk$Picture", "plant", "([I)V"⟩, 5) := ⟨⟨by decide +kernel, by decide +kernel⟩, List.mem_of_getElem? (i := 27) (by decide +kernel), List.mem_of_getElem? (i := 165) (by decide +kernel), List.mem_of_getElem? (i := 166) (by decide +kernel)⟩
theorem lw_p2 : lw_okq (⟨"MotionDesk$Picture", "grow", "([III)V"⟩, 5) := ⟨⟨by decide +kernel, by decide +kernel⟩, List.mem_of_getElem? (i := 27) (by decide +kernel), List.mem_of_getElem? (i := 169) (by decide +kernel), List.mem_of_getElem? (i := 170) (by decide +kernel)⟩
theorem lw_p3 : lw_okq (⟨"MotionDesk$Picture", "addNode", "(I)V"⟩, 5) := ⟨⟨by decide +kernel, by decide +kernel⟩, List.mem_of_getElem? (i := 27) (by decide +kernel), List.mem_of_getElem? (i := 173) (by decide +kernel), List.mem_of_getElem? (i := 174) (by decide +kernel)⟩
theorem lw_p4 : lw_okq (⟨"MotionDesk", "settle", "()V"⟩, 15) := ⟨⟨by decide +kernel, by decide +kernel⟩, List.mem_of_getElem? (i := 13) (by decide +kernel), List.mem_of_getElem? (i := 177) (by decide +kernel), List.mem_of_getElem? (i := 178) (by decide +kernel)⟩
theorem lw_p5 : lw_okq (⟨"MotionDesk$Tree", "measure", "(LMotionDesk$Picture;)V"⟩, 4) := ⟨⟨by decide +kernel, by decide +kernel⟩, List.mem_of_getElem? (i := 90) (by decide +kernel), List.mem_of_getElem? (i := 181) (by decide +kernel), List.mem_of_getElem? (i := 182) (by decide +kernel)⟩
theorem lw_p6 : lw_okq (⟨"MotionDesk$Tree", "isVote", "(I)Z"⟩, 4) := ⟨⟨by decide +kernel, by decide +kernel⟩, List.mem_of_getElem? (i := 90) (by decide +kernel), List.mem_of_getElem? (i := 188) (by decide +kernel), List.mem_of_getElem? (i := 189) (by decide +kernel)⟩
theorem lw_p7 : lw_okq (⟨"MotionDesk$Tree", "first", "(I)I"⟩, 4) := ⟨⟨by decide +kernel, by decide +kernel⟩, List.mem_of_getElem? (i := 90) (by decide +kernel), List.mem_of_getElem? (i := 192) (by decide +kernel), List.mem_of_getElem? (i := 193) (by decide +kernel)⟩
theorem lw_p8 : lw_okq (⟨"MotionDesk$Tree", "second", "(I)I"⟩, 4) := ⟨⟨by decide +kernel, by decide +kernel⟩, List.mem_of_getElem? (i := 90) (by decide +kernel), List.mem_of_getElem? (i := 196) (by decide +kernel), List.mem_of_getElem? (i := 197) (by decide +kernel)⟩
theorem lw_p9 : lw_okq (⟨"MotionDesk$Ballots", "castAll", "(LMotionDesk$Tree;LMotionDesk$Picture;)V"⟩, 3) := ⟨⟨by decide +kernel, by decide +kernel⟩, List.mem_of_getElem? (i := 117) (by decide +kernel), List.mem_of_getElem? (i := 200) (by decide +kernel), List.mem_of_getElem? (i := 201) (by decide +kernel)⟩
theorem lw_p10 : lw_okq (⟨"MotionDesk$Ballots", "cast", "(LMotionDesk$Tree;[IIII)V"⟩, 3) := ⟨⟨by decide +kernel, by decide +kernel⟩, List.mem_of_getElem? (i := 117) (by decide +kernel), List.mem_of_getElem? (i := 207) (by decide +kernel), List.mem_of_getElem? (i := 208) (by decide +kernel)⟩
theorem lw_p11 : lw_okq (⟨"MotionDesk$Ballots", "castSincere", "(LMotionDesk$Tree;[IIII)V"⟩, 3) := ⟨⟨by decide +kernel, by decide +kernel⟩, List.mem_of_getElem? (i := 117) (by decide +kernel), List.mem_of_getElem? (i := 211) (by decide +kernel), List.mem_of_getElem? (i := 212) (by decide +kernel)⟩
theorem lw_p12 : lw_okq (⟨"MotionDesk$Tree", "votesFirst", "(I[III)Z"⟩, 4) := ⟨⟨by decide +kernel, by decide +kernel⟩, List.mem_of_getElem? (i := 90) (by decide +kernel), List.mem_of_getElem? (i := 216) (by decide +kernel), List.mem_of_getElem? (i := 217) (by decide +kernel)⟩
theorem lw_p13 : lw_okq (⟨"MotionDesk$Ballots", "castAbove", "([IIII)V"⟩, 3) := ⟨⟨by decide +kernel, by decide +kernel⟩, List.mem_of_getElem? (i := 117) (by decide +kernel), List.mem_of_getElem? (i := 223) (by decide +kernel), List.mem_of_getElem? (i := 224) (by decide +kernel)⟩
theorem lw_p14 : lw_okq (⟨"MotionDesk$Text", "append", "(I)V"⟩, 7) := ⟨⟨by decide +kernel, by decide +kernel⟩, List.mem_of_getElem? (i := 21) (by decide +kernel), List.mem_of_getElem? (i := 277) (by decide +kernel), List.mem_of_getElem? (i := 278) (by decide +kernel)⟩
theorem lw_p15 : lw_okq (⟨"MotionDesk$Text", "read", "()I"⟩, 7) := ⟨⟨by decide +kernel, by decide +kernel⟩, List.mem_of_getElem? (i := 21) (by decide +kernel), List.mem_of_getElem? (i := 289) (by decide +kernel), List.mem_of_getElem? (i := 290) (by decide +kernel)⟩
def lw_privs_1 : List (MethodName × Nat) := [(⟨"MotionDesk$Picture", "empty", "(I)V"⟩, 5), (⟨"MotionDesk$Picture", "plant", "([I)V"⟩, 5), (⟨"MotionDesk$Picture", "grow", "([III)V"⟩, 5), (⟨"MotionDesk$Picture", "addNode", "(I)V"⟩, 5), (⟨"MotionDesk", "settle", "()V"⟩, 15), (⟨"MotionDesk$Tree", "measure", "(LMotionDesk$Picture;)V"⟩, 4), (⟨"MotionDesk$Tree", "isVote", "(I)Z"⟩, 4), (⟨"MotionDesk$Tree", "first", "(I)I"⟩, 4), (⟨"MotionDesk$Tree", "second", "(I)I"⟩, 4), (⟨"MotionDesk$Ballots", "castAll", "(LMotionDesk$Tree;LMotionDesk$Picture;)V"⟩, 3), (⟨"MotionDesk$Ballots", "cast", "(LMotionDesk$Tree;[IIII)V"⟩, 3), (⟨"MotionDesk$Ballots", "castSincere", "(LMotionDesk$Tree;[IIII)V"⟩, 3), (⟨"MotionDesk$Tree", "votesFirst", "(I[III)Z"⟩, 4), (⟨"MotionDesk$Ballots", "castAbove", "([IIII)V"⟩, 3), (⟨"MotionDesk$Text", "append", "(I)V"⟩, 7), (⟨"MotionDesk$Text", "read", "()I"⟩, 7)]
theorem lw_r1 : ∀ q ∈ lw_privs_1, lw_okq q := List.forall_mem_cons.mpr ⟨lw_p0, List.forall_mem_cons.mpr ⟨lw_p1, List.forall_mem_cons.mpr ⟨lw_p2, List.forall_mem_cons.mpr ⟨lw_p3, List.forall_mem_cons.mpr ⟨lw_p4, List.forall_mem_cons.mpr ⟨lw_p5, List.forall_mem_cons.mpr ⟨lw_p6, List.forall_mem_cons.mpr ⟨lw_p7, List.forall_mem_cons.mpr ⟨lw_p8, List.forall_mem_cons.mpr ⟨lw_p9, List.forall_mem_cons.mpr ⟨lw_p10, List.forall_mem_cons.mpr ⟨lw_p11, List.forall_mem_cons.mpr ⟨lw_p12, List.forall_mem_cons.mpr ⟨lw_p13, List.forall_mem_cons.mpr ⟨lw_p14, List.forall_mem_cons.mpr ⟨lw_p15, fun _ h => absurd h List.not_mem_nil⟩⟩⟩⟩⟩⟩⟩⟩⟩⟩⟩⟩⟩⟩⟩⟩
theorem lw_p16 : lw_okq (⟨"MotionDesk$Text", "take", "()V"⟩, 7) := ⟨⟨by decide +kernel, by decide +kernel⟩, List.mem_of_getElem? (i := 21) (by decide +kernel), List.mem_of_getElem? (i := 294) (by decide +kernel), List.mem_of_getElem? (i := 295) (by decide +kernel)⟩
theorem lw_p17 : lw_okq (⟨"MotionDesk$Text", "takeNumber", "()V"⟩, 7) := ⟨⟨by decide +kernel, by decide +kernel⟩, List.mem_of_getElem? (i := 21) (by decide +kernel), List.mem_of_getElem? (i := 301) (by decide +kernel), List.mem_of_getElem? (i := 302) (by decide +kernel)⟩
theorem lw_p18 : lw_okq (⟨"MotionDesk$Text", "readItem", "(I)Z"⟩, 7) := ⟨⟨by decide +kernel, by decide +kernel⟩, List.mem_of_getElem? (i := 21) (by decide +kernel), List.mem_of_getElem? (i := 308) (by decide +kernel), List.mem_of_getElem? (i := 309) (by decide +kernel)⟩
theorem lw_p19 : lw_okq (⟨"MotionDesk$Text", "readMotions", "()Z"⟩, 7) := ⟨⟨by decide +kernel, by decide +kernel⟩, List.mem_of_getElem? (i := 21) (by decide +kernel), List.mem_of_getElem? (i := 312) (by decide +kernel), List.mem_of_getElem? (i := 313) (by decide +kernel)⟩
theorem lw_p20 : lw_okq (⟨"MotionDesk$Text", "readRanking", "()Z"⟩, 7) := ⟨⟨by decide +kernel, by decide +kernel⟩, List.mem_of_getElem? (i := 21) (by decide +kernel), List.mem_of_getElem? (i := 316) (by decide +kernel), List.mem_of_getElem? (i := 317) (by decide +kernel)⟩
theorem lw_p21 : lw_okq (⟨"MotionDesk$Text", "motionOfSign", "()I"⟩, 7) := ⟨⟨by decide +kernel, by decide +kernel⟩, List.mem_of_getElem? (i := 21) (by decide +kernel), List.mem_of_getElem? (i := 320) (by decide +kernel), List.mem_of_getElem? (i := 321) (by decide +kernel)⟩
theorem lw_p22 : lw_okq (⟨"MotionDesk$Text", "readBranch", "()Z"⟩, 7) := ⟨⟨by decide +kernel, by decide +kernel⟩, List.mem_of_getElem? (i := 21) (by decide +kernel), List.mem_of_getElem? (i := 327) (by decide +kernel), List.mem_of_getElem? (i := 328) (by decide +kernel)⟩
theorem lw_p23 : lw_okq (⟨"MotionDesk$Picture", "copy", "(LMotionDesk$Picture;)V"⟩, 5) := ⟨⟨by decide +kernel, by decide +kernel⟩, List.mem_of_getElem? (i := 27) (by decide +kernel), List.mem_of_getElem? (i := 332) (by decide +kernel), List.mem_of_getElem? (i := 333) (by decide +kernel)⟩
theorem lw_p24 : lw_okq (⟨"MotionDesk", "isMember", "(I)Z"⟩, 15) := ⟨⟨by decide +kernel, by decide +kernel⟩, List.mem_of_getElem? (i := 13) (by decide +kernel), List.mem_of_getElem? (i := 341) (by decide +kernel), List.mem_of_getElem? (i := 342) (by decide +kernel)⟩
theorem lw_p25 : lw_okq (⟨"MotionDesk", "isMotion", "(I)Z"⟩, 15) := ⟨⟨by decide +kernel, by decide +kernel⟩, List.mem_of_getElem? (i := 13) (by decide +kernel), List.mem_of_getElem? (i := 346) (by decide +kernel), List.mem_of_getElem? (i := 347) (by decide +kernel)⟩
theorem lw_p26 : lw_okq (⟨"MotionDesk", "everyone", "()I"⟩, 15) := ⟨⟨by decide +kernel, by decide +kernel⟩, List.mem_of_getElem? (i := 13) (by decide +kernel), List.mem_of_getElem? (i := 357) (by decide +kernel), List.mem_of_getElem? (i := 358) (by decide +kernel)⟩
theorem lw_p27 : lw_okq (⟨"MotionDesk$Ballots", "sincere", "(LMotionDesk$Tree;II)I"⟩, 3) := ⟨⟨by decide +kernel, by decide +kernel⟩, List.mem_of_getElem? (i := 117) (by decide +kernel), List.mem_of_getElem? (i := 361) (by decide +kernel), List.mem_of_getElem? (i := 362) (by decide +kernel)⟩
theorem lw_p28 : lw_okq (⟨"MotionDesk$Ballots", "foreseen", "(LMotionDesk$Tree;II)I"⟩, 3) := ⟨⟨by decide +kernel, by decide +kernel⟩, List.mem_of_getElem? (i := 117) (by decide +kernel), List.mem_of_getElem? (i := 373) (by decide +kernel), List.mem_of_getElem? (i := 374) (by decide +kernel)⟩
theorem lw_p29 : lw_okq (⟨"MotionDesk$Ballots", "stronger", "(III)I"⟩, 3) := ⟨⟨by decide +kernel, by decide +kernel⟩, List.mem_of_getElem? (i := 117) (by decide +kernel), List.mem_of_getElem? (i := 377) (by decide +kernel), List.mem_of_getElem? (i := 378) (by decide +kernel)⟩
theorem lw_p30 : lw_okq (⟨"MotionDesk$Ballots", "beats", "(III)Z"⟩, 3) := ⟨⟨by decide +kernel, by decide +kernel⟩, List.mem_of_getElem? (i := 117) (by decide +kernel), List.mem_of_getElem? (i := 381) (by decide +kernel), List.mem_of_getElem? (i := 382) (by decide +kernel)⟩
theorem lw_p31 : lw_okq (⟨"MotionDesk", "top", "()I"⟩, 15) := ⟨⟨by decide +kernel, by decide +kernel⟩, List.mem_of_getElem? (i := 13) (by decide +kernel), List.mem_of_getElem? (i := 394) (by decide +kernel), List.mem_of_getElem? (i := 395) (by decide +kernel)⟩
def lw_privs_2 : List (MethodName × Nat) := [(⟨"MotionDesk$Text", "take", "()V"⟩, 7), (⟨"MotionDesk$Text", "takeNumber", "()V"⟩, 7), (⟨"MotionDesk$Text", "readItem", "(I)Z"⟩, 7), (⟨"MotionDesk$Text", "readMotions", "()Z"⟩, 7), (⟨"MotionDesk$Text", "readRanking", "()Z"⟩, 7), (⟨"MotionDesk$Text", "motionOfSign", "()I"⟩, 7), (⟨"MotionDesk$Text", "readBranch", "()Z"⟩, 7), (⟨"MotionDesk$Picture", "copy", "(LMotionDesk$Picture;)V"⟩, 5), (⟨"MotionDesk", "isMember", "(I)Z"⟩, 15), (⟨"MotionDesk", "isMotion", "(I)Z"⟩, 15), (⟨"MotionDesk", "everyone", "()I"⟩, 15), (⟨"MotionDesk$Ballots", "sincere", "(LMotionDesk$Tree;II)I"⟩, 3), (⟨"MotionDesk$Ballots", "foreseen", "(LMotionDesk$Tree;II)I"⟩, 3), (⟨"MotionDesk$Ballots", "stronger", "(III)I"⟩, 3), (⟨"MotionDesk$Ballots", "beats", "(III)Z"⟩, 3), (⟨"MotionDesk", "top", "()I"⟩, 15)]
theorem lw_r2 : ∀ q ∈ lw_privs_2, lw_okq q := List.forall_mem_cons.mpr ⟨lw_p16, List.forall_mem_cons.mpr ⟨lw_p17, List.forall_mem_cons.mpr ⟨lw_p18, List.forall_mem_cons.mpr ⟨lw_p19, List.forall_mem_cons.mpr ⟨lw_p20, List.forall_mem_cons.mpr ⟨lw_p21, List.forall_mem_cons.mpr ⟨lw_p22, List.forall_mem_cons.mpr ⟨lw_p23, List.forall_mem_cons.mpr ⟨lw_p24, List.forall_mem_cons.mpr ⟨lw_p25, List.forall_mem_cons.mpr ⟨lw_p26, List.forall_mem_cons.mpr ⟨lw_p27, List.forall_mem_cons.mpr ⟨lw_p28, List.forall_mem_cons.mpr ⟨lw_p29, List.forall_mem_cons.mpr ⟨lw_p30, List.forall_mem_cons.mpr ⟨lw_p31, fun _ h => absurd h List.not_mem_nil⟩⟩⟩⟩⟩⟩⟩⟩⟩⟩⟩⟩⟩⟩⟩⟩
theorem lw_p32 : lw_okq (⟨"MotionDesk", "beatsTheRest", "(I)Z"⟩, 15) := ⟨⟨by decide +kernel, by decide +kernel⟩, List.mem_of_getElem? (i := 13) (by decide +kernel), List.mem_of_getElem? (i := 398) (by decide +kernel), List.mem_of_getElem? (i := 399) (by decide +kernel)⟩
theorem lw_p33 : lw_okq (⟨"MotionDesk", "beatsAllOthers", "()I"⟩, 15) := ⟨⟨by decide +kernel, by decide +kernel⟩, List.mem_of_getElem? (i := 13) (by decide +kernel), List.mem_of_getElem? (i := 403) (by decide +kernel), List.mem_of_getElem? (i := 404) (by decide +kernel)⟩
theorem lw_p34 : lw_okq (⟨"MotionDesk", "remember", "()V"⟩, 15) := ⟨⟨by decide +kernel, by decide +kernel⟩, List.mem_of_getElem? (i := 13) (by decide +kernel), List.mem_of_getElem? (i := 415) (by decide +kernel), List.mem_of_getElem? (i := 416) (by decide +kernel)⟩
theorem lw_p35 : lw_okq (⟨"MotionDesk$Picture", "exchange", "(II)V"⟩, 5) := ⟨⟨by decide +kernel, by decide +kernel⟩, List.mem_of_getElem? (i := 27) (by decide +kernel), List.mem_of_getElem? (i := 419) (by decide +kernel), List.mem_of_getElem? (i := 420) (by decide +kernel)⟩
theorem lw_p36 : lw_okq (⟨"MotionDesk$Picture", "turn", "(LMotionDesk$Tree;I)V"⟩, 5) := ⟨⟨by decide +kernel, by decide +kernel⟩, List.mem_of_getElem? (i := 27) (by decide +kernel), List.mem_of_getElem? (i := 427) (by decide +kernel), List.mem_of_getElem? (i := 428) (by decide +kernel)⟩
theorem lw_p37 : lw_okq (⟨"MotionDesk", "isOrder", "(I)Z"⟩, 15) := ⟨⟨by decide +kernel, by decide +kernel⟩, List.mem_of_getElem? (i := 13) (by decide +kernel), List.mem_of_getElem? (i := 437) (by decide +kernel), List.mem_of_getElem? (i := 438) (by decide +kernel)⟩
theorem lw_p38 : lw_okq (⟨"MotionDesk", "orders", "()I"⟩, 15) := ⟨⟨by decide +kernel, by decide +kernel⟩, List.mem_of_getElem? (i := 13) (by decide +kernel), List.mem_of_getElem? (i := 441) (by decide +kernel), List.mem_of_getElem? (i := 442) (by decide +kernel)⟩
theorem lw_p39 : lw_okq (⟨"MotionDesk", "isWay", "(I)Z"⟩, 15) := ⟨⟨by decide +kernel, by decide +kernel⟩, List.mem_of_getElem? (i := 13) (by decide +kernel), List.mem_of_getElem? (i := 457) (by decide +kernel), List.mem_of_getElem? (i := 458) (by decide +kernel)⟩
theorem lw_p40 : lw_okq (⟨"MotionDesk", "outcomeOfRow", "(I)I"⟩, 15) := ⟨⟨by decide +kernel, by decide +kernel⟩, List.mem_of_getElem? (i := 13) (by decide +kernel), List.mem_of_getElem? (i := 461) (by decide +kernel), List.mem_of_getElem? (i := 462) (by decide +kernel)⟩
theorem lw_p41 : lw_okq (⟨"MotionDesk", "sincereOfRow", "()I"⟩, 15) := ⟨⟨by decide +kernel, by decide +kernel⟩, List.mem_of_getElem? (i := 13) (by decide +kernel), List.mem_of_getElem? (i := 465) (by decide +kernel), List.mem_of_getElem? (i := 466) (by decide +kernel)⟩
theorem lw_p42 : lw_okq (⟨"MotionDesk", "foreseenOfRow", "()I"⟩, 15) := ⟨⟨by decide +kernel, by decide +kernel⟩, List.mem_of_getElem? (i := 13) (by decide +kernel), List.mem_of_getElem? (i := 469) (by decide +kernel), List.mem_of_getElem? (i := 470) (by decide +kernel)⟩
theorem lw_p43 : lw_okq (⟨"MotionDesk$Ballots", "outcome", "(LMotionDesk$Tree;II)I"⟩, 3) := ⟨⟨by decide +kernel, by decide +kernel⟩, List.mem_of_getElem? (i := 117) (by decide +kernel), List.mem_of_getElem? (i := 478) (by decide +kernel), List.mem_of_getElem? (i := 479) (by decide +kernel)⟩
theorem lw_p44 : lw_okq (⟨"MotionDesk$Picture", "placeOf", "(II)I"⟩, 5) := ⟨⟨by decide +kernel, by decide +kernel⟩, List.mem_of_getElem? (i := 27) (by decide +kernel), List.mem_of_getElem? (i := 484) (by decide +kernel), List.mem_of_getElem? (i := 485) (by decide +kernel)⟩
theorem lw_p45 : lw_okq (⟨"MotionDesk$Ballots", "copy", "(LMotionDesk$Ballots;)V"⟩, 3) := ⟨⟨by decide +kernel, by decide +kernel⟩, List.mem_of_getElem? (i := 117) (by decide +kernel), List.mem_of_getElem? (i := 488) (by decide +kernel), List.mem_of_getElem? (i := 489) (by decide +kernel)⟩
theorem lw_p46 : lw_okq (⟨"MotionDesk$Picture", "layWithFirst", "(II[I)V"⟩, 5) := ⟨⟨by decide +kernel, by decide +kernel⟩, List.mem_of_getElem? (i := 27) (by decide +kernel), List.mem_of_getElem? (i := 500) (by decide +kernel), List.mem_of_getElem? (i := 501) (by decide +kernel)⟩
theorem lw_p47 : lw_okq (⟨"MotionDesk$Ballots", "mix", "(LMotionDesk$Ballots;LMotionDesk$Ballots;I)V"⟩, 3) := ⟨⟨by decide +kernel, by decide +kernel⟩, List.mem_of_getElem? (i := 117) (by decide +kernel), List.mem_of_getElem? (i := 505) (by decide +kernel), List.mem_of_getElem? (i := 506) (by decide +kernel)⟩
def lw_privs_3 : List (MethodName × Nat) := [(⟨"MotionDesk", "beatsTheRest", "(I)Z"⟩, 15), (⟨"MotionDesk", "beatsAllOthers", "()I"⟩, 15), (⟨"MotionDesk", "remember", "()V"⟩, 15), (⟨"MotionDesk$Picture", "exchange", "(II)V"⟩, 5), (⟨"MotionDesk$Picture", "turn", "(LMotionDesk$Tree;I)V"⟩, 5), (⟨"MotionDesk", "isOrder", "(I)Z"⟩, 15), (⟨"MotionDesk", "orders", "()I"⟩, 15), (⟨"MotionDesk", "isWay", "(I)Z"⟩, 15), (⟨"MotionDesk", "outcomeOfRow", "(I)I"⟩, 15), (⟨"MotionDesk", "sincereOfRow", "()I"⟩, 15), (⟨"MotionDesk", "foreseenOfRow", "()I"⟩, 15), (⟨"MotionDesk$Ballots", "outcome", "(LMotionDesk$Tree;II)I"⟩, 3), (⟨"MotionDesk$Picture", "placeOf", "(II)I"⟩, 5), (⟨"MotionDesk$Ballots", "copy", "(LMotionDesk$Ballots;)V"⟩, 3), (⟨"MotionDesk$Picture", "layWithFirst", "(II[I)V"⟩, 5), (⟨"MotionDesk$Ballots", "mix", "(LMotionDesk$Ballots;LMotionDesk$Ballots;I)V"⟩, 3)]
theorem lw_r3 : ∀ q ∈ lw_privs_3, lw_okq q := List.forall_mem_cons.mpr ⟨lw_p32, List.forall_mem_cons.mpr ⟨lw_p33, List.forall_mem_cons.mpr ⟨lw_p34, List.forall_mem_cons.mpr ⟨lw_p35, List.forall_mem_cons.mpr ⟨lw_p36, List.forall_mem_cons.mpr ⟨lw_p37, List.forall_mem_cons.mpr ⟨lw_p38, List.forall_mem_cons.mpr ⟨lw_p39, List.forall_mem_cons.mpr ⟨lw_p40, List.forall_mem_cons.mpr ⟨lw_p41, List.forall_mem_cons.mpr ⟨lw_p42, List.forall_mem_cons.mpr ⟨lw_p43, List.forall_mem_cons.mpr ⟨lw_p44, List.forall_mem_cons.mpr ⟨lw_p45, List.forall_mem_cons.mpr ⟨lw_p46, List.forall_mem_cons.mpr ⟨lw_p47, fun _ h => absurd h List.not_mem_nil⟩⟩⟩⟩⟩⟩⟩⟩⟩⟩⟩⟩⟩⟩⟩⟩
theorem lw_p48 : lw_okq (⟨"MotionDesk$Sightings", "add", "(III)V"⟩, 4) := ⟨⟨by decide +kernel, by decide +kernel⟩, List.mem_of_getElem? (i := 136) (by decide +kernel), List.mem_of_getElem? (i := 524) (by decide +kernel), List.mem_of_getElem? (i := 525) (by decide +kernel)⟩
theorem lw_p49 : lw_okq (⟨"MotionDesk$Sightings", "agree", "([II)Z"⟩, 4) := ⟨⟨by decide +kernel, by decide +kernel⟩, List.mem_of_getElem? (i := 136) (by decide +kernel), List.mem_of_getElem? (i := 536) (by decide +kernel), List.mem_of_getElem? (i := 537) (by decide +kernel)⟩
theorem lw_p50 : lw_okq (⟨"MotionDesk", "countFirsts", "()I"⟩, 15) := ⟨⟨by decide +kernel, by decide +kernel⟩, List.mem_of_getElem? (i := 13) (by decide +kernel), List.mem_of_getElem? (i := 545) (by decide +kernel), List.mem_of_getElem? (i := 546) (by decide +kernel)⟩
theorem lw_p51 : lw_okq (⟨"MotionDeskModel", "begins", "()V"⟩, 33) := ⟨⟨by decide +kernel, by decide +kernel⟩, List.mem_of_getElem? (i := 565) (by decide +kernel), List.mem_of_getElem? (i := 571) (by decide +kernel), List.mem_of_getElem? (i := 572) (by decide +kernel)⟩
theorem lw_p52 : lw_okq (⟨"MotionDeskModel", "orderOf", "(II)V"⟩, 33) := ⟨⟨by decide +kernel, by decide +kernel⟩, List.mem_of_getElem? (i := 565) (by decide +kernel), List.mem_of_getElem? (i := 575) (by decide +kernel), List.mem_of_getElem? (i := 576) (by decide +kernel)⟩
theorem lw_p53 : lw_okq (⟨"MotionDeskModel", "lays", "([II)V"⟩, 33) := ⟨⟨by decide +kernel, by decide +kernel⟩, List.mem_of_getElem? (i := 565) (by decide +kernel), List.mem_of_getElem? (i := 585) (by decide +kernel), List.mem_of_getElem? (i := 586) (by decide +kernel)⟩
theorem lw_p54 : lw_okq (⟨"MotionDeskModel", "piles", "(IIII)V"⟩, 33) := ⟨⟨by decide +kernel, by decide +kernel⟩, List.mem_of_getElem? (i := 565) (by decide +kernel), List.mem_of_getElem? (i := 589) (by decide +kernel), List.mem_of_getElem? (i := 590) (by decide +kernel)⟩
theorem lw_p55 : lw_okq (⟨"MotionDeskModel", "settles", "()V"⟩, 33) := ⟨⟨by decide +kernel, by decide +kernel⟩, List.mem_of_getElem? (i := 565) (by decide +kernel), List.mem_of_getElem? (i := 596) (by decide +kernel), List.mem_of_getElem? (i := 597) (by decide +kernel)⟩
theorem lw_p56 : lw_okq (⟨"MotionDeskModel", "advances", "()V"⟩, 33) := ⟨⟨by decide +kernel, by decide +kernel⟩, List.mem_of_getElem? (i := 565) (by decide +kernel), List.mem_of_getElem? (i := 719) (by decide +kernel), List.mem_of_getElem? (i := 720) (by decide +kernel)⟩
theorem lw_p57 : lw_okq (⟨"MotionDeskModel", "letterAt", "(I)I"⟩, 33) := ⟨⟨by decide +kernel, by decide +kernel⟩, List.mem_of_getElem? (i := 565) (by decide +kernel), List.mem_of_getElem? (i := 723) (by decide +kernel), List.mem_of_getElem? (i := 724) (by decide +kernel)⟩
theorem lw_p58 : lw_okq (⟨"MotionDeskModel", "isWell", "()Z"⟩, 33) := ⟨⟨by decide +kernel, by decide +kernel⟩, List.mem_of_getElem? (i := 565) (by decide +kernel), List.mem_of_getElem? (i := 730) (by decide +kernel), List.mem_of_getElem? (i := 731) (by decide +kernel)⟩
theorem lw_p59 : lw_okq (⟨"MotionDeskModel", "mayBegin", "(I)Z"⟩, 33) := ⟨⟨by decide +kernel, by decide +kernel⟩, List.mem_of_getElem? (i := 565) (by decide +kernel), List.mem_of_getElem? (i := 734) (by decide +kernel), List.mem_of_getElem? (i := 735) (by decide +kernel)⟩
theorem lw_p60 : lw_okq (⟨"MotionDeskModel", "takes", "(Z)I"⟩, 33) := ⟨⟨by decide +kernel, by decide +kernel⟩, List.mem_of_getElem? (i := 565) (by decide +kernel), List.mem_of_getElem? (i := 738) (by decide +kernel), List.mem_of_getElem? (i := 739) (by decide +kernel)⟩
theorem lw_p61 : lw_okq (⟨"MotionDeskModel", "readsRanking", "()V"⟩, 33) := ⟨⟨by decide +kernel, by decide +kernel⟩, List.mem_of_getElem? (i := 565) (by decide +kernel), List.mem_of_getElem? (i := 742) (by decide +kernel), List.mem_of_getElem? (i := 743) (by decide +kernel)⟩
theorem lw_p62 : lw_okq (⟨"MotionDeskModel", "isMotionSign", "()Z"⟩, 33) := ⟨⟨by decide +kernel, by decide +kernel⟩, List.mem_of_getElem? (i := 565) (by decide +kernel), List.mem_of_getElem? (i := 746) (by decide +kernel), List.mem_of_getElem? (i := 747) (by decide +kernel)⟩
theorem lw_p63 : lw_okq (⟨"MotionDeskModel", "readsAgenda", "()V"⟩, 33) := ⟨⟨by decide +kernel, by decide +kernel⟩, List.mem_of_getElem? (i := 565) (by decide +kernel), List.mem_of_getElem? (i := 750) (by decide +kernel), List.mem_of_getElem? (i := 751) (by decide +kernel)⟩
def lw_privs_4 : List (MethodName × Nat) := [(⟨"MotionDesk$Sightings", "add", "(III)V"⟩, 4), (⟨"MotionDesk$Sightings", "agree", "([II)Z"⟩, 4), (⟨"MotionDesk", "countFirsts", "()I"⟩, 15), (⟨"MotionDeskModel", "begins", "()V"⟩, 33), (⟨"MotionDeskModel", "orderOf", "(II)V"⟩, 33), (⟨"MotionDeskModel", "lays", "([II)V"⟩, 33), (⟨"MotionDeskModel", "piles", "(IIII)V"⟩, 33), (⟨"MotionDeskModel", "settles", "()V"⟩, 33), (⟨"MotionDeskModel", "advances", "()V"⟩, 33), (⟨"MotionDeskModel", "letterAt", "(I)I"⟩, 33), (⟨"MotionDeskModel", "isWell", "()Z"⟩, 33), (⟨"MotionDeskModel", "mayBegin", "(I)Z"⟩, 33), (⟨"MotionDeskModel", "takes", "(Z)I"⟩, 33), (⟨"MotionDeskModel", "readsRanking", "()V"⟩, 33), (⟨"MotionDeskModel", "isMotionSign", "()Z"⟩, 33), (⟨"MotionDeskModel", "readsAgenda", "()V"⟩, 33)]
theorem lw_r4 : ∀ q ∈ lw_privs_4, lw_okq q := List.forall_mem_cons.mpr ⟨lw_p48, List.forall_mem_cons.mpr ⟨lw_p49, List.forall_mem_cons.mpr ⟨lw_p50, List.forall_mem_cons.mpr ⟨lw_p51, List.forall_mem_cons.mpr ⟨lw_p52, List.forall_mem_cons.mpr ⟨lw_p53, List.forall_mem_cons.mpr ⟨lw_p54, List.forall_mem_cons.mpr ⟨lw_p55, List.forall_mem_cons.mpr ⟨lw_p56, List.forall_mem_cons.mpr ⟨lw_p57, List.forall_mem_cons.mpr ⟨lw_p58, List.forall_mem_cons.mpr ⟨lw_p59, List.forall_mem_cons.mpr ⟨lw_p60, List.forall_mem_cons.mpr ⟨lw_p61, List.forall_mem_cons.mpr ⟨lw_p62, List.forall_mem_cons.mpr ⟨lw_p63, fun _ h => absurd h List.not_mem_nil⟩⟩⟩⟩⟩⟩⟩⟩⟩⟩⟩⟩⟩⟩⟩⟩
theorem lw_p64 : lw_okq (⟨"MotionDeskModel", "isMember", "(I)Z"⟩, 33) := ⟨⟨by decide +kernel, by decide +kernel⟩, List.mem_of_getElem? (i := 565) (by decide +kernel), List.mem_of_getElem? (i := 758) (by decide +kernel), List.mem_of_getElem? (i := 759) (by decide +kernel)⟩
theorem lw_p65 : lw_okq (⟨"MotionDeskModel", "isMotion", "(I)Z"⟩, 33) := ⟨⟨by decide +kernel, by decide +kernel⟩, List.mem_of_getElem? (i := 565) (by decide +kernel), List.mem_of_getElem? (i := 762) (by decide +kernel), List.mem_of_getElem? (i := 763) (by decide +kernel)⟩
theorem lw_p66 : lw_okq (⟨"MotionDeskModel", "isNode", "(I)Z"⟩, 33) := ⟨⟨by decide +kernel, by decide +kernel⟩, List.mem_of_getElem? (i := 565) (by decide +kernel), List.mem_of_getElem? (i := 770) (by decide +kernel), List.mem_of_getElem? (i := 771) (by decide +kernel)⟩
theorem lw_p67 : lw_okq (⟨"MotionDeskModel", "all", "()V"⟩, 33) := ⟨⟨by decide +kernel, by decide +kernel⟩, List.mem_of_getElem? (i := 565) (by decide +kernel), List.mem_of_getElem? (i := 774) (by decide +kernel), List.mem_of_getElem? (i := 775) (by decide +kernel)⟩
theorem lw_p68 : lw_okq (⟨"MotionDeskModel", "setsOf", "([I)V"⟩, 33) := ⟨⟨by decide +kernel, by decide +kernel⟩, List.mem_of_getElem? (i := 565) (by decide +kernel), List.mem_of_getElem? (i := 778) (by decide +kernel), List.mem_of_getElem? (i := 779) (by decide +kernel)⟩
theorem lw_p69 : lw_okq (⟨"MotionDeskModel", "sincere", "([II)I"⟩, 33) := ⟨⟨by decide +kernel, by decide +kernel⟩, List.mem_of_getElem? (i := 565) (by decide +kernel), List.mem_of_getElem? (i := 782) (by decide +kernel), List.mem_of_getElem? (i := 783) (by decide +kernel)⟩
theorem lw_p70 : lw_okq (⟨"MotionDeskModel", "votesFirst", "([II)I"⟩, 33) := ⟨⟨by decide +kernel, by decide +kernel⟩, List.mem_of_getElem? (i := 565) (by decide +kernel), List.mem_of_getElem? (i := 786) (by decide +kernel), List.mem_of_getElem? (i := 787) (by decide +kernel)⟩
theorem lw_p71 : lw_okq (⟨"MotionDeskModel", "branchOf", "([IIII)I"⟩, 33) := ⟨⟨by decide +kernel, by decide +kernel⟩, List.mem_of_getElem? (i := 565) (by decide +kernel), List.mem_of_getElem? (i := 790) (by decide +kernel), List.mem_of_getElem? (i := 791) (by decide +kernel)⟩
theorem lw_p72 : lw_okq (⟨"MotionDeskModel", "foreseen", "([II)I"⟩, 33) := ⟨⟨by decide +kernel, by decide +kernel⟩, List.mem_of_getElem? (i := 565) (by decide +kernel), List.mem_of_getElem? (i := 797) (by decide +kernel), List.mem_of_getElem? (i := 798) (by decide +kernel)⟩
theorem lw_p73 : lw_okq (⟨"MotionDeskModel", "beatsBy", "([I)V"⟩, 33) := ⟨⟨by decide +kernel, by decide +kernel⟩, List.mem_of_getElem? (i := 565) (by decide +kernel), List.mem_of_getElem? (i := 801) (by decide +kernel), List.mem_of_getElem? (i := 802) (by decide +kernel)⟩
theorem lw_p74 : lw_okq (⟨"MotionDeskModel", "votesOf", "([III)I"⟩, 33) := ⟨⟨by decide +kernel, by decide +kernel⟩, List.mem_of_getElem? (i := 565) (by decide +kernel), List.mem_of_getElem? (i := 805) (by decide +kernel), List.mem_of_getElem? (i := 806) (by decide +kernel)⟩
theorem lw_p75 : lw_okq (⟨"MotionDeskModel", "placeOf", "([III)I"⟩, 33) := ⟨⟨by decide +kernel, by decide +kernel⟩, List.mem_of_getElem? (i := 565) (by decide +kernel), List.mem_of_getElem? (i := 809) (by decide +kernel), List.mem_of_getElem? (i := 810) (by decide +kernel)⟩
theorem lw_p76 : lw_okq (⟨"MotionDeskModel", "outcome", "([II)I"⟩, 33) := ⟨⟨by decide +kernel, by decide +kernel⟩, List.mem_of_getElem? (i := 565) (by decide +kernel), List.mem_of_getElem? (i := 821) (by decide +kernel), List.mem_of_getElem? (i := 822) (by decide +kernel)⟩
theorem lw_p77 : lw_okq (⟨"MotionDeskModel", "top", "()I"⟩, 33) := ⟨⟨by decide +kernel, by decide +kernel⟩, List.mem_of_getElem? (i := 565) (by decide +kernel), List.mem_of_getElem? (i := 825) (by decide +kernel), List.mem_of_getElem? (i := 826) (by decide +kernel)⟩
theorem lw_p78 : lw_okq (⟨"MotionDeskModel", "isTop", "(I)Z"⟩, 33) := ⟨⟨by decide +kernel, by decide +kernel⟩, List.mem_of_getElem? (i := 565) (by decide +kernel), List.mem_of_getElem? (i := 829) (by decide +kernel), List.mem_of_getElem? (i := 830) (by decide +kernel)⟩
theorem lw_p79 : lw_okq (⟨"MotionDeskModel", "notes", "()V"⟩, 33) := ⟨⟨by decide +kernel, by decide +kernel⟩, List.mem_of_getElem? (i := 565) (by decide +kernel), List.mem_of_getElem? (i := 837) (by decide +kernel), List.mem_of_getElem? (i := 838) (by decide +kernel)⟩
def lw_privs_5 : List (MethodName × Nat) := [(⟨"MotionDeskModel", "isMember", "(I)Z"⟩, 33), (⟨"MotionDeskModel", "isMotion", "(I)Z"⟩, 33), (⟨"MotionDeskModel", "isNode", "(I)Z"⟩, 33), (⟨"MotionDeskModel", "all", "()V"⟩, 33), (⟨"MotionDeskModel", "setsOf", "([I)V"⟩, 33), (⟨"MotionDeskModel", "sincere", "([II)I"⟩, 33), (⟨"MotionDeskModel", "votesFirst", "([II)I"⟩, 33), (⟨"MotionDeskModel", "branchOf", "([IIII)I"⟩, 33), (⟨"MotionDeskModel", "foreseen", "([II)I"⟩, 33), (⟨"MotionDeskModel", "beatsBy", "([I)V"⟩, 33), (⟨"MotionDeskModel", "votesOf", "([III)I"⟩, 33), (⟨"MotionDeskModel", "placeOf", "([III)I"⟩, 33), (⟨"MotionDeskModel", "outcome", "([II)I"⟩, 33), (⟨"MotionDeskModel", "top", "()I"⟩, 33), (⟨"MotionDeskModel", "isTop", "(I)Z"⟩, 33), (⟨"MotionDeskModel", "notes", "()V"⟩, 33)]
theorem lw_r5 : ∀ q ∈ lw_privs_5, lw_okq q := List.forall_mem_cons.mpr ⟨lw_p64, List.forall_mem_cons.mpr ⟨lw_p65, List.forall_mem_cons.mpr ⟨lw_p66, List.forall_mem_cons.mpr ⟨lw_p67, List.forall_mem_cons.mpr ⟨lw_p68, List.forall_mem_cons.mpr ⟨lw_p69, List.forall_mem_cons.mpr ⟨lw_p70, List.forall_mem_cons.mpr ⟨lw_p71, List.forall_mem_cons.mpr ⟨lw_p72, List.forall_mem_cons.mpr ⟨lw_p73, List.forall_mem_cons.mpr ⟨lw_p74, List.forall_mem_cons.mpr ⟨lw_p75, List.forall_mem_cons.mpr ⟨lw_p76, List.forall_mem_cons.mpr ⟨lw_p77, List.forall_mem_cons.mpr ⟨lw_p78, List.forall_mem_cons.mpr ⟨lw_p79, fun _ h => absurd h List.not_mem_nil⟩⟩⟩⟩⟩⟩⟩⟩⟩⟩⟩⟩⟩⟩⟩⟩
theorem lw_p80 : lw_okq (⟨"MotionDeskModel", "tells", "([III)V"⟩, 33) := ⟨⟨by decide +kernel, by decide +kernel⟩, List.mem_of_getElem? (i := 565) (by decide +kernel), List.mem_of_getElem? (i := 868) (by decide +kernel), List.mem_of_getElem? (i := 869) (by decide +kernel)⟩
theorem lw_p81 : lw_okq (⟨"MotionDeskModel", "putsFirst", "([III)V"⟩, 33) := ⟨⟨by decide +kernel, by decide +kernel⟩, List.mem_of_getElem? (i := 565) (by decide +kernel), List.mem_of_getElem? (i := 876) (by decide +kernel), List.mem_of_getElem? (i := 877) (by decide +kernel)⟩
theorem lw_p82 : lw_okq (⟨"MotionDeskModel", "rankingMany", "()I"⟩, 33) := ⟨⟨by decide +kernel, by decide +kernel⟩, List.mem_of_getElem? (i := 565) (by decide +kernel), List.mem_of_getElem? (i := 900) (by decide +kernel), List.mem_of_getElem? (i := 901) (by decide +kernel)⟩
theorem lw_p83 : lw_okq (⟨"MotionDeskModel", "isAsSeen", "()Z"⟩, 33) := ⟨⟨by decide +kernel, by decide +kernel⟩, List.mem_of_getElem? (i := 565) (by decide +kernel), List.mem_of_getElem? (i := 904) (by decide +kernel), List.mem_of_getElem? (i := 905) (by decide +kernel)⟩
theorem lw_p84 : lw_okq (⟨"MotionDeskModel", "isVote", "(I)Z"⟩, 33) := ⟨⟨by decide +kernel, by decide +kernel⟩, List.mem_of_getElem? (i := 565) (by decide +kernel), List.mem_of_getElem? (i := 908) (by decide +kernel), List.mem_of_getElem? (i := 909) (by decide +kernel)⟩
theorem lw_p85 : lw_okq (⟨"MotionDeskModel", "branchAt", "(I)I"⟩, 33) := ⟨⟨by decide +kernel, by decide +kernel⟩, List.mem_of_getElem? (i := 565) (by decide +kernel), List.mem_of_getElem? (i := 912) (by decide +kernel), List.mem_of_getElem? (i := 913) (by decide +kernel)⟩
def lw_privs_6 : List (MethodName × Nat) := [(⟨"MotionDeskModel", "tells", "([III)V"⟩, 33), (⟨"MotionDeskModel", "putsFirst", "([III)V"⟩, 33), (⟨"MotionDeskModel", "rankingMany", "()I"⟩, 33), (⟨"MotionDeskModel", "isAsSeen", "()Z"⟩, 33), (⟨"MotionDeskModel", "isVote", "(I)Z"⟩, 33), (⟨"MotionDeskModel", "branchAt", "(I)I"⟩, 33)]
theorem lw_r6 : ∀ q ∈ lw_privs_6, lw_okq q := List.forall_mem_cons.mpr ⟨lw_p80, List.forall_mem_cons.mpr ⟨lw_p81, List.forall_mem_cons.mpr ⟨lw_p82, List.forall_mem_cons.mpr ⟨lw_p83, List.forall_mem_cons.mpr ⟨lw_p84, List.forall_mem_cons.mpr ⟨lw_p85, fun _ h => absurd h List.not_mem_nil⟩⟩⟩⟩⟩⟩
def lw_privs : List (MethodName × Nat) := lw_privs_1 ++ (lw_privs_2 ++ (lw_privs_3 ++ (lw_privs_4 ++ (lw_privs_5 ++ (lw_privs_6)))))
def lw_tbl : List Cond := k2_sels lw_privs ++ tables_1
theorem lw_privs_ok : ∀ q ∈ lw_privs, lw_okq q := by
  show ∀ q ∈ lw_privs_1 ++ (lw_privs_2 ++ (lw_privs_3 ++ (lw_privs_4 ++ (lw_privs_5 ++ (lw_privs_6))))), lw_okq q
  exact List.forall_mem_append.mpr ⟨lw_r1, List.forall_mem_append.mpr ⟨lw_r2, List.forall_mem_append.mpr ⟨lw_r3, List.forall_mem_append.mpr ⟨lw_r4, List.forall_mem_append.mpr ⟨lw_r5, lw_r6⟩⟩⟩⟩⟩
end
section
def RX0 : String := "MotionDesk$Ballots"
def TX0 : u_T := fun k => match k with
  | 0 => ("MotionDesk$Ballots", "forFirst", "[I", true)
  | 1 => ("MotionDesk$Ballots", "above", "[I", true)
  | _ => ("MotionDesk$Ballots", "comesOf", "[I", true)
def tyX0 : Nat → FieldType := fun k => match k with
  | 0 => .array .int
  | 1 => .array .int
  | _ => .array .int
abbrev wsX00 : List Cond := u_ws RX0 TX0 3
theorem nmX0 : ∀ a, a < 3 → ∀ b, b < 3 → a ≠ b → (TX0 a).2.1 ≠ (TX0 b).2.1 := by decide +kernel
theorem tyX0_ok : ∀ k, k < 3 → parseFieldDescriptor (TX0 k).2.2.1 = some (tyX0 k) := by decide +kernel
def RX1 : String := "MotionDesk$Picture"
def TX1 : u_T := fun k => match k with
  | 0 => ("MotionDesk$Picture", "ranked", "[I", true)
  | 1 => ("MotionDesk$Picture", "kinds", "[I", true)
  | 2 => ("MotionDesk$Picture", "motions", "I", false)
  | 3 => ("MotionDesk$Picture", "members", "I", false)
  | _ => ("MotionDesk$Picture", "nodes", "I", false)
def tyX1 : Nat → FieldType := fun k => match k with
  | 0 => .array .int
  | 1 => .array .int
  | 2 => .int
  | 3 => .int
  | _ => .int
abbrev wsX10 : List Cond := u_ws RX1 TX1 5
theorem nmX1 : ∀ a, a < 5 → ∀ b, b < 5 → a ≠ b → (TX1 a).2.1 ≠ (TX1 b).2.1 := by decide +kernel
theorem tyX1_ok : ∀ k, k < 5 → parseFieldDescriptor (TX1 k).2.2.1 = some (tyX1 k) := by decide +kernel
def RX2 : String := "MotionDesk$Sightings"
def TX2 : u_T := fun k => match k with
  | 0 => ("MotionDesk$Sightings", "firsts", "[I", true)
  | 1 => ("MotionDesk$Sightings", "seconds", "[I", true)
  | 2 => ("MotionDesk$Sightings", "branches", "[I", true)
  | _ => ("MotionDesk$Sightings", "size", "I", false)
def tyX2 : Nat → FieldType := fun k => match k with
  | 0 => .array .int
  | 1 => .array .int
  | 2 => .array .int
  | _ => .int
abbrev wsX20 : List Cond := u_ws RX2 TX2 4
theorem nmX2 : ∀ a, a < 4 → ∀ b, b < 4 → a ≠ b → (TX2 a).2.1 ≠ (TX2 b).2.1 := by decide +kernel
theorem tyX2_ok : ∀ k, k < 4 → parseFieldDescriptor (TX2 k).2.2.1 = some (tyX2 k) := by decide +kernel
def RX3 : String := "MotionDesk$Text"
def TX3 : u_T := fun k => match k with
  | 0 => ("MotionDesk$Text", "letters", "[I", true)
  | 1 => ("MotionDesk$Text", "told", "LMotionDesk$Picture;", true)
  | 2 => ("MotionDesk$Text", "length", "I", false)
  | 3 => ("MotionDesk$Text", "at", "I", false)
  | 4 => ("MotionDesk$Text", "sign", "I", false)
  | 5 => ("MotionDesk$Text", "signAt", "I", false)
  | _ => ("MotionDesk$Text", "number", "I", false)
def tyX3 : Nat → FieldType := fun k => match k with
  | 0 => .array .int
  | 1 => .object "MotionDesk$Picture"
  | 2 => .int
  | 3 => .int
  | 4 => .int
  | 5 => .int
  | _ => .int
abbrev wsX30 : List Cond := u_ws RX3 TX3 7
theorem nmX3 : ∀ a, a < 7 → ∀ b, b < 7 → a ≠ b → (TX3 a).2.1 ≠ (TX3 b).2.1 := by decide +kernel
theorem tyX3_ok : ∀ k, k < 7 → parseFieldDescriptor (TX3 k).2.2.1 = some (tyX3 k) := by decide +kernel
def RX4 : String := "MotionDesk$Tree"
def TX4 : u_T := fun k => match k with
  | 0 => ("MotionDesk$Tree", "kinds", "[I", true)
  | 1 => ("MotionDesk$Tree", "sizes", "[I", true)
  | 2 => ("MotionDesk$Tree", "motionsOf", "[I", true)
  | _ => ("MotionDesk$Tree", "nodes", "I", false)
def tyX4 : Nat → FieldType := fun k => match k with
  | 0 => .array .int
  | 1 => .array .int
  | 2 => .array .int
  | _ => .int
abbrev wsX40 : List Cond := u_ws RX4 TX4 4
theorem nmX4 : ∀ a, a < 4 → ∀ b, b < 4 → a ≠ b → (TX4 a).2.1 ≠ (TX4 b).2.1 := by decide +kernel
theorem tyX4_ok : ∀ k, k < 4 → parseFieldDescriptor (TX4 k).2.2.1 = some (tyX4 k) := by decide +kernel
def RX5 : String := "MotionDesk"
def TX5 : u_T := fun k => match k with
  | 0 => ("MotionDesk", "text", "LMotionDesk$Text;", true)
  | 1 => ("MotionDesk", "standing", "LMotionDesk$Picture;", true)
  | 2 => ("MotionDesk", "tree", "LMotionDesk$Tree;", true)
  | 3 => ("MotionDesk", "ballots", "LMotionDesk$Ballots;", true)
  | 4 => ("MotionDesk", "changed", "LMotionDesk$Ballots;", true)
  | 5 => ("MotionDesk", "supposed", "LMotionDesk$Ballots;", true)
  | 6 => ("MotionDesk", "known", "[LMotionDesk$Picture;", true)
  | 7 => ("MotionDesk", "knownCount", "I", false)
  | 8 => ("MotionDesk", "images", "[LMotionDesk$Picture;", true)
  | 9 => ("MotionDesk", "imagesKept", "I", false)
  | 10 => ("MotionDesk", "sightings", "LMotionDesk$Sightings;", true)
  | 11 => ("MotionDesk", "row", "[I", true)
  | 12 => ("MotionDesk", "outcomes", "[I", true)
  | 13 => ("MotionDesk", "presentCounts", "[I", true)
  | _ => ("MotionDesk", "firstCounts", "[I", true)
def tyX5 : Nat → FieldType := fun k => match k with
  | 0 => .object "MotionDesk$Text"
  | 1 => .object "MotionDesk$Picture"
  | 2 => .object "MotionDesk$Tree"
  | 3 => .object "MotionDesk$Ballots"
  | 4 => .object "MotionDesk$Ballots"
  | 5 => .object "MotionDesk$Ballots"
  | 6 => .array (.object "MotionDesk$Picture")
  | 7 => .int
  | 8 => .array (.object "MotionDesk$Picture")
  | 9 => .int
  | 10 => .object "MotionDesk$Sightings"
  | 11 => .array .int
  | 12 => .array .int
  | 13 => .array .int
  | _ => .array .int
abbrev wsX50 : List Cond := u_ws RX5 TX5 15
theorem nmX5 : ∀ a, a < 15 → ∀ b, b < 15 → a ≠ b → (TX5 a).2.1 ≠ (TX5 b).2.1 := by decide +kernel
theorem tyX5_ok : ∀ k, k < 15 → parseFieldDescriptor (TX5 k).2.2.1 = some (tyX5 k) := by decide +kernel
def RX6 : String := "MotionDeskModel"
def TX6 : u_T := fun k => match k with
  | 0 => ("MotionDeskModel", "thrown", "I", false)
  | 1 => ("MotionDeskModel", "text", "[I", true)
  | 2 => ("MotionDeskModel", "typed", "I", false)
  | 3 => ("MotionDeskModel", "spot", "I", false)
  | 4 => ("MotionDeskModel", "token", "I", false)
  | 5 => ("MotionDeskModel", "start", "I", false)
  | 6 => ("MotionDeskModel", "value", "I", false)
  | 7 => ("MotionDeskModel", "fault", "I", false)
  | 8 => ("MotionDeskModel", "motions", "I", false)
  | 9 => ("MotionDeskModel", "members", "I", false)
  | 10 => ("MotionDeskModel", "draftMotions", "I", false)
  | 11 => ("MotionDeskModel", "draftMembers", "I", false)
  | 12 => ("MotionDeskModel", "draft", "[I", true)
  | 13 => ("MotionDeskModel", "s", "[I", true)
  | 14 => ("MotionDeskModel", "w", "[I", true)
  | 15 => ("MotionDeskModel", "undos", "[I", true)
  | 16 => ("MotionDeskModel", "undoMany", "I", false)
  | 17 => ("MotionDeskModel", "kept", "[I", true)
  | 18 => ("MotionDeskModel", "isKept", "[Z", true)
  | 19 => ("MotionDeskModel", "seenOne", "[I", true)
  | 20 => ("MotionDeskModel", "seenTwo", "[I", true)
  | 21 => ("MotionDeskModel", "seenBranch", "[I", true)
  | 22 => ("MotionDeskModel", "seenMany", "I", false)
  | 23 => ("MotionDeskModel", "there", "I", false)
  | 24 => ("MotionDeskModel", "beats", "[Z", true)
  | 25 => ("MotionDeskModel", "sets", "[I", true)
  | 26 => ("MotionDeskModel", "comes", "[I", true)
  | 27 => ("MotionDeskModel", "order", "[I", true)
  | 28 => ("MotionDeskModel", "pile", "[I", true)
  | 29 => ("MotionDeskModel", "piled", "I", false)
  | 30 => ("MotionDeskModel", "best", "[I", true)
  | 31 => ("MotionDeskModel", "firsts", "[I", true)
  | _ => ("MotionDeskModel", "rankingFirst", "I", false)
def tyX6 : Nat → FieldType := fun k => match k with
  | 0 => .int
  | 1 => .array .int
  | 2 => .int
  | 3 => .int
  | 4 => .int
  | 5 => .int
  | 6 => .int
  | 7 => .int
  | 8 => .int
  | 9 => .int
  | 10 => .int
  | 11 => .int
  | 12 => .array .int
  | 13 => .array .int
  | 14 => .array .int
  | 15 => .array .int
  | 16 => .int
  | 17 => .array .int
  | 18 => .array .boolean
  | 19 => .array .int
  | 20 => .array .int
  | 21 => .array .int
  | 22 => .int
  | 23 => .int
  | 24 => .array .boolean
  | 25 => .array .int
  | 26 => .array .int
  | 27 => .array .int
  | 28 => .array .int
  | 29 => .int
  | 30 => .array .int
  | 31 => .array .int
  | _ => .int
abbrev wsX60 : List Cond := u_ws RX6 TX6 33
theorem nmX6 : ∀ a, a < 33 → ∀ b, b < 33 → a ≠ b → (TX6 a).2.1 ≠ (TX6 b).2.1 := by decide +kernel
theorem tyX6_ok : ∀ k, k < 33 → parseFieldDescriptor (TX6 k).2.2.1 = some (tyX6 k) := by decide +kernel
abbrev vwCl : List vw_C := [(RX0, TX0, 3), (RX1, TX1, 5), (RX2, TX2, 4), (RX3, TX3, 7), (RX4, TX4, 4), (RX5, TX5, 15), (RX6, TX6, 33)]
theorem inX0 : ∀ w ∈ wsX00, w ∈ lw_tbl := by decide +kernel
theorem inX1 : ∀ w ∈ wsX10, w ∈ lw_tbl := by decide +kernel
theorem inX2 : ∀ w ∈ wsX20, w ∈ lw_tbl := by decide +kernel
theorem inX3 : ∀ w ∈ wsX30, w ∈ lw_tbl := by decide +kernel
theorem inX4 : ∀ w ∈ wsX40, w ∈ lw_tbl := by decide +kernel
theorem inX5 : ∀ w ∈ wsX50, w ∈ lw_tbl := by decide +kernel
theorem inX6 : ∀ w ∈ wsX60, w ∈ lw_tbl := by decide +kernel
def mx_cn (k : Nat) : String := match k with
  | 0 => "MotionDesk$Ballots"
  | 1 => "MotionDesk$Picture"
  | 2 => "MotionDesk$Sightings"
  | 3 => "MotionDesk$Text"
  | 4 => "MotionDesk$Tree"
  | 5 => "MotionDesk"
  | 6 => "MotionDeskModel"
  | 7 => "MotionDeskLaw"
  | 8 => "java/lang/Integer"
  | 9 => "java/lang/Math"
  | 10 => "java/util/Arrays"
  | _ => ""
end
section
abbrev mx_Row : Type := Nat × Instr × Nat × Nat × Nat × Int32
/-- MotionDesk$Ballots.castAll(LMotionDesk$Tree;LMotionDesk$Picture;)V -/
def mr_Ba_castAll (j : Nat) : Option mx_Row := bif Nat.ble 30 j then none else (bif Nat.ble 15 j then (bif Nat.ble 22 j then (bif Nat.ble 26 j then (bif Nat.ble 28 j then (bif Nat.ble 29 j then (some (52, .return_, 30, 0, 0, 0)) else (some (49, .goto (-31), 10, 0, 0, 0))) else (bif Nat.ble 27 j then (some (46, .iinc 3 1, 28, 3, 0, 1)) else (some (43, .invokevirtual 39, 27, 1, 6, 0)))) else (bif Nat.ble 24 j then (bif Nat.ble 25 j then (some (42, .ishl, 26, 0, 0, 0)) else (some (41, .iload_n 3, 25, 3, 0, 0))) else (bif Nat.ble 23 j then (some (40, .iconst 1, 24, 0, 0, 1)) else (some (37, .getfield 36, 23, 1, 2, 0))))) else (bif Nat.ble 18 j then (bif Nat.ble 20 j then (bif Nat.ble 21 j then (some (36, .aload_n 2, 22, 2, 0, 0)) else (some (35, .imul, 21, 0, 0, 0))) else (bif Nat.ble 19 j then (some (33, .bipush 6, 20, 0, 0, 6)) else (some (32, .iload_n 3, 19, 3, 0, 0)))) else (bif Nat.ble 16 j then (bif Nat.ble 17 j then (some (29, .getfield 33, 18, 1, 0, 0)) else (some (28, .aload_n 2, 17, 2, 0, 0))) else (some (27, .aload_n 1, 16, 1, 0, 0))))) else (bif Nat.ble 7 j then (bif Nat.ble 11 j then (bif Nat.ble 13 j then (bif Nat.ble 14 j then (some (26, .aload_n 0, 15, 0, 0, 0)) else (some (23, .if_icmp .ge 29, 14, 29, 0, 0))) else (bif Nat.ble 12 j then (some (20, .getfield 27, 13, 1, 3, 0)) else (some (19, .aload_n 2, 12, 2, 0, 0)))) else (bif Nat.ble 9 j then (bif Nat.ble 10 j then (some (18, .iload_n 3, 11, 3, 0, 0)) else (some (17, .istore_n 3, 10, 3, 0, 0))) else (bif Nat.ble 8 j then (some (16, .iconst 0, 9, 0, 0, 0)) else (some (13, .invokestatic 21, 8, 149, 2, 0))))) else (bif Nat.ble 3 j then (bif Nat.ble 5 j then (bif Nat.ble 6 j then (some (12, .iconst 0, 7, 0, 0, 0)) else (some (9, .getfield 15, 6, 0, 1, 0))) else (bif Nat.ble 4 j then (some (8, .aload_n 0, 5, 0, 0, 0)) else (some (5, .invokestatic 21, 4, 149, 2, 0)))) else (bif Nat.ble 1 j then (bif Nat.ble 2 j then (some (4, .iconst 0, 3, 0, 0, 0)) else (some (1, .getfield 9, 2, 0, 0, 0))) else (some (0, .aload_n 0, 1, 0, 0, 0))))))
/-- MotionDesk$Ballots.cast(LMotionDesk$Tree;[IIII)V -/
def mr_Ba_cast (j : Nat) : Option mx_Row := bif Nat.ble 14 j then none else (bif Nat.ble 7 j then (bif Nat.ble 10 j then (bif Nat.ble 12 j then (bif Nat.ble 13 j then (some (21, .return_, 14, 0, 0, 0)) else (some (18, .invokevirtual 46, 13, 3, 5, 0))) else (bif Nat.ble 11 j then (some (16, .iload 5, 12, 5, 0, 0)) else (some (14, .iload 4, 11, 4, 0, 0)))) else (bif Nat.ble 8 j then (bif Nat.ble 9 j then (some (13, .iload_n 3, 10, 3, 0, 0)) else (some (12, .aload_n 2, 9, 2, 0, 0))) else (some (11, .aload_n 0, 8, 0, 0, 0)))) else (bif Nat.ble 3 j then (bif Nat.ble 5 j then (bif Nat.ble 6 j then (some (8, .invokevirtual 43, 7, 2, 6, 0)) else (some (6, .iload 5, 6, 5, 0, 0))) else (bif Nat.ble 4 j then (some (4, .iload 4, 5, 4, 0, 0)) else (some (3, .iload_n 3, 4, 3, 0, 0)))) else (bif Nat.ble 1 j then (bif Nat.ble 2 j then (some (2, .aload_n 2, 3, 2, 0, 0)) else (some (1, .aload_n 1, 2, 1, 0, 0))) else (some (0, .aload_n 0, 1, 0, 0, 0)))))
/-- MotionDesk$Ballots.castSincere(LMotionDesk$Tree;[IIII)V -/
def mr_Ba_castSincere (j : Nat) : Option mx_Row := bif Nat.ble 39 j then none else (bif Nat.ble 19 j then (bif Nat.ble 29 j then (bif Nat.ble 34 j then (bif Nat.ble 36 j then (bif Nat.ble 37 j then (bif Nat.ble 38 j then (some (69, .return_, 39, 0, 0, 0)) else (some (66, .goto (-63), 2, 0, 0, 0))) else (some (63, .iinc 6 1, 37, 6, 0, 1))) else (bif Nat.ble 35 j then (some (62, .iastore, 36, 0, 0, 0)) else (some (61, .iand, 35, 0, 0, 0)))) else (bif Nat.ble 31 j then (bif Nat.ble 32 j then (bif Nat.ble 33 j then (some (60, .ixor, 34, 0, 0, 0)) else (some (59, .iconst (-1), 33, 0, 0, (-1)))) else (some (57, .iload 5, 32, 5, 0, 0))) else (bif Nat.ble 30 j then (some (56, .iaload, 31, 0, 0, 0)) else (some (55, .dup2, 30, 0, 0, 0))))) else (bif Nat.ble 24 j then (bif Nat.ble 26 j then (bif Nat.ble 27 j then (bif Nat.ble 28 j then (some (53, .iload 6, 29, 6, 0, 0)) else (some (50, .getfield 9, 28, 0, 0, 0))) else (some (49, .aload_n 0, 27, 0, 0, 0))) else (bif Nat.ble 25 j then (some (46, .goto 17, 36, 0, 0, 0)) else (some (45, .iastore, 25, 0, 0, 0)))) else (bif Nat.ble 21 j then (bif Nat.ble 22 j then (bif Nat.ble 23 j then (some (44, .ior, 24, 0, 0, 0)) else (some (42, .iload 5, 23, 5, 0, 0))) else (some (41, .iaload, 22, 0, 0, 0))) else (bif Nat.ble 20 j then (some (40, .dup2, 21, 0, 0, 0)) else (some (38, .iload 6, 20, 6, 0, 0)))))) else (bif Nat.ble 9 j then (bif Nat.ble 14 j then (bif Nat.ble 16 j then (bif Nat.ble 17 j then (bif Nat.ble 18 j then (some (35, .getfield 9, 19, 0, 0, 0)) else (some (34, .aload_n 0, 18, 0, 0, 0))) else (some (31, .ifCond .eq 18, 17, 26, 0, 0))) else (bif Nat.ble 15 j then (some (28, .invokevirtual 59, 16, 36, 5, 0)) else (some (26, .iload 4, 15, 4, 0, 0)))) else (bif Nat.ble 11 j then (bif Nat.ble 12 j then (bif Nat.ble 13 j then (some (25, .iload_n 3, 14, 3, 0, 0)) else (some (24, .aload_n 2, 13, 2, 0, 0))) else (some (22, .iload 6, 12, 6, 0, 0))) else (bif Nat.ble 10 j then (some (21, .aload_n 1, 11, 1, 0, 0)) else (some (18, .ifCond .eq 31, 10, 26, 0, 0))))) else (bif Nat.ble 4 j then (bif Nat.ble 6 j then (bif Nat.ble 7 j then (bif Nat.ble 8 j then (some (15, .invokevirtual 55, 9, 33, 2, 0)) else (some (13, .iload 6, 8, 6, 0, 0))) else (some (12, .aload_n 1, 7, 1, 0, 0))) else (bif Nat.ble 5 j then (some (9, .if_icmp .ge 60, 6, 38, 0, 0)) else (some (6, .getfield 50, 5, 4, 3, 0)))) else (bif Nat.ble 2 j then (bif Nat.ble 3 j then (some (5, .aload_n 1, 4, 1, 0, 0)) else (some (3, .iload 6, 3, 6, 0, 0))) else (bif Nat.ble 1 j then (some (1, .istore 6, 2, 6, 0, 0)) else (some (0, .iconst 0, 1, 0, 0, 0)))))))
/-- MotionDesk$Ballots.castAbove([IIII)V -/
def mr_Ba_castAbove (j : Nat) : Option mx_Row := bif Nat.ble 55 j then none else (bif Nat.ble 27 j then (bif Nat.ble 41 j then (bif Nat.ble 48 j then (bif Nat.ble 51 j then (bif Nat.ble 53 j then (bif Nat.ble 54 j then (some (87, .return_, 55, 0, 0, 0)) else (some (84, .goto (-81), 2, 0, 0, 0))) else (bif Nat.ble 52 j then (some (81, .iinc 5 1, 53, 5, 0, 1)) else (some (78, .goto (-63), 9, 0, 0, 0)))) else (bif Nat.ble 49 j then (bif Nat.ble 50 j then (some (75, .iinc 6 1, 51, 6, 0, 1)) else (some (74, .iastore, 50, 0, 0, 0))) else (some (73, .iand, 49, 0, 0, 0)))) else (bif Nat.ble 44 j then (bif Nat.ble 46 j then (bif Nat.ble 47 j then (some (72, .ixor, 48, 0, 0, 0)) else (some (71, .iconst (-1), 47, 0, 0, (-1)))) else (bif Nat.ble 45 j then (some (69, .iload 4, 46, 4, 0, 0)) else (some (68, .iaload, 45, 0, 0, 0)))) else (bif Nat.ble 42 j then (bif Nat.ble 43 j then (some (67, .dup2, 44, 0, 0, 0)) else (some (66, .iadd, 43, 0, 0, 0))) else (some (64, .iload 7, 42, 7, 0, 0))))) else (bif Nat.ble 34 j then (bif Nat.ble 37 j then (bif Nat.ble 39 j then (bif Nat.ble 40 j then (some (63, .imul, 41, 0, 0, 0)) else (some (61, .bipush 6, 40, 0, 0, 6))) else (bif Nat.ble 38 j then (some (59, .iload 8, 39, 8, 0, 0)) else (some (56, .getfield 15, 38, 0, 1, 0)))) else (bif Nat.ble 35 j then (bif Nat.ble 36 j then (some (55, .aload_n 0, 37, 0, 0, 0)) else (some (54, .iastore, 36, 0, 0, 0))) else (some (53, .ior, 35, 0, 0, 0)))) else (bif Nat.ble 30 j then (bif Nat.ble 32 j then (bif Nat.ble 33 j then (some (51, .iload 4, 34, 4, 0, 0)) else (some (50, .iaload, 33, 0, 0, 0))) else (bif Nat.ble 31 j then (some (49, .dup2, 32, 0, 0, 0)) else (some (48, .iadd, 31, 0, 0, 0)))) else (bif Nat.ble 28 j then (bif Nat.ble 29 j then (some (46, .iload 8, 30, 8, 0, 0)) else (some (45, .imul, 29, 0, 0, 0))) else (some (43, .bipush 6, 28, 0, 0, 6)))))) else (bif Nat.ble 13 j then (bif Nat.ble 20 j then (bif Nat.ble 23 j then (bif Nat.ble 25 j then (bif Nat.ble 26 j then (some (41, .iload 7, 27, 7, 0, 0)) else (some (38, .getfield 15, 26, 0, 1, 0))) else (bif Nat.ble 24 j then (some (37, .aload_n 0, 25, 0, 0, 0)) else (some (35, .istore 8, 24, 8, 0, 0)))) else (bif Nat.ble 21 j then (bif Nat.ble 22 j then (some (34, .iaload, 23, 0, 0, 0)) else (some (33, .iadd, 22, 0, 0, 0))) else (some (31, .iload 6, 21, 6, 0, 0)))) else (bif Nat.ble 16 j then (bif Nat.ble 18 j then (bif Nat.ble 19 j then (some (30, .iload_n 2, 20, 2, 0, 0)) else (some (29, .aload_n 1, 19, 1, 0, 0))) else (bif Nat.ble 17 j then (some (27, .istore 7, 18, 7, 0, 0)) else (some (26, .iaload, 17, 0, 0, 0)))) else (bif Nat.ble 14 j then (bif Nat.ble 15 j then (some (25, .iadd, 16, 0, 0, 0)) else (some (23, .iload 5, 15, 5, 0, 0))) else (some (22, .iload_n 2, 14, 2, 0, 0))))) else (bif Nat.ble 6 j then (bif Nat.ble 9 j then (bif Nat.ble 11 j then (bif Nat.ble 12 j then (some (21, .aload_n 1, 13, 1, 0, 0)) else (some (18, .if_icmp .ge 63, 12, 52, 0, 0))) else (bif Nat.ble 10 j then (some (17, .iload_n 3, 11, 3, 0, 0)) else (some (15, .iload 6, 10, 6, 0, 0)))) else (bif Nat.ble 7 j then (bif Nat.ble 8 j then (some (13, .istore 6, 9, 6, 0, 0)) else (some (12, .iadd, 8, 0, 0, 0))) else (some (11, .iconst 1, 7, 0, 0, 1)))) else (bif Nat.ble 3 j then (bif Nat.ble 4 j then (bif Nat.ble 5 j then (some (9, .iload 5, 6, 5, 0, 0)) else (some (6, .if_icmp .ge 81, 5, 54, 0, 0))) else (some (5, .iload_n 3, 4, 3, 0, 0))) else (bif Nat.ble 1 j then (bif Nat.ble 2 j then (some (3, .iload 5, 3, 5, 0, 0)) else (some (1, .istore 5, 2, 5, 0, 0))) else (some (0, .iconst 0, 1, 0, 0, 0)))))))
/-- MotionDesk$Ballots.sincere(LMotionDesk$Tree;II)I -/
def mr_Ba_sincere (j : Nat) : Option mx_Row := bif Nat.ble 42 j then none else (bif Nat.ble 21 j then (bif Nat.ble 31 j then (bif Nat.ble 36 j then (bif Nat.ble 39 j then (bif Nat.ble 40 j then (bif Nat.ble 41 j then (some (82, .ireturn, 42, 0, 0, 0)) else (some (81, .iaload, 41, 0, 0, 0))) else (some (79, .iload 5, 40, 5, 0, 0))) else (bif Nat.ble 37 j then (bif Nat.ble 38 j then (some (76, .getfield 92, 39, 4, 0, 0)) else (some (75, .aload_n 1, 38, 1, 0, 0))) else (some (72, .goto (-60), 7, 0, 0, 0)))) else (bif Nat.ble 33 j then (bif Nat.ble 34 j then (bif Nat.ble 35 j then (some (69, .iinc 6 1, 36, 6, 0, 1)) else (some (67, .istore 5, 35, 5, 0, 0))) else (some (64, .invokevirtual 89, 34, 35, 2, 0))) else (bif Nat.ble 32 j then (some (62, .iload 5, 33, 5, 0, 0)) else (some (61, .aload_n 1, 32, 1, 0, 0))))) else (bif Nat.ble 26 j then (bif Nat.ble 28 j then (bif Nat.ble 29 j then (bif Nat.ble 30 j then (some (58, .goto 9, 34, 0, 0, 0)) else (some (55, .invokevirtual 86, 30, 34, 2, 0))) else (some (53, .iload 5, 29, 5, 0, 0))) else (bif Nat.ble 27 j then (some (52, .aload_n 1, 28, 1, 0, 0)) else (some (49, .if_icmp .lt 12, 27, 31, 0, 0)))) else (bif Nat.ble 23 j then (bif Nat.ble 24 j then (bif Nat.ble 25 j then (some (48, .isub, 26, 0, 0, 0)) else (some (46, .iload 7, 25, 7, 0, 0))) else (some (44, .iload 4, 24, 4, 0, 0))) else (bif Nat.ble 22 j then (some (42, .iload 7, 23, 7, 0, 0)) else (some (40, .istore 7, 22, 7, 0, 0)))))) else (bif Nat.ble 10 j then (bif Nat.ble 15 j then (bif Nat.ble 18 j then (bif Nat.ble 19 j then (bif Nat.ble 20 j then (some (37, .invokestatic 69, 21, 147, 1, 0)) else (some (36, .iand, 20, 0, 0, 0))) else (some (35, .iload_n 3, 19, 3, 0, 0))) else (bif Nat.ble 16 j then (bif Nat.ble 17 j then (some (34, .iaload, 18, 0, 0, 0)) else (some (32, .iload 5, 17, 5, 0, 0))) else (some (29, .getfield 9, 16, 0, 0, 0)))) else (bif Nat.ble 12 j then (bif Nat.ble 13 j then (bif Nat.ble 14 j then (some (28, .aload_n 0, 15, 0, 0, 0)) else (some (25, .ifCond .eq 50, 14, 37, 0, 0))) else (some (22, .invokevirtual 55, 13, 33, 2, 0))) else (bif Nat.ble 11 j then (some (20, .iload 5, 12, 5, 0, 0)) else (some (19, .aload_n 1, 11, 1, 0, 0))))) else (bif Nat.ble 5 j then (bif Nat.ble 7 j then (bif Nat.ble 8 j then (bif Nat.ble 9 j then (some (16, .if_icmp .ge 59, 10, 37, 0, 0)) else (some (14, .bipush 63, 9, 0, 0, 63))) else (some (12, .iload 6, 8, 6, 0, 0))) else (bif Nat.ble 6 j then (some (10, .istore 6, 7, 6, 0, 0)) else (some (9, .iconst 0, 6, 0, 0, 0)))) else (bif Nat.ble 2 j then (bif Nat.ble 3 j then (bif Nat.ble 4 j then (some (7, .istore 5, 5, 5, 0, 0)) else (some (6, .iload_n 2, 4, 2, 0, 0))) else (some (4, .istore 4, 3, 4, 0, 0))) else (bif Nat.ble 1 j then (some (1, .invokestatic 69, 2, 147, 1, 0)) else (some (0, .iload_n 3, 1, 3, 0, 0)))))))
/-- MotionDesk$Ballots.foreseen(LMotionDesk$Tree;II)I -/
def mr_Ba_foreseen (j : Nat) : Option mx_Row := bif Nat.ble 49 j then none else (bif Nat.ble 24 j then (bif Nat.ble 36 j then (bif Nat.ble 42 j then (bif Nat.ble 45 j then (bif Nat.ble 47 j then (bif Nat.ble 48 j then (some (87, .ireturn, 49, 0, 0, 0)) else (some (86, .iaload, 48, 0, 0, 0))) else (bif Nat.ble 46 j then (some (85, .iload_n 2, 47, 2, 0, 0)) else (some (82, .getfield 18, 46, 0, 2, 0)))) else (bif Nat.ble 43 j then (bif Nat.ble 44 j then (some (81, .aload_n 0, 45, 0, 0, 0)) else (some (78, .goto (-62), 11, 0, 0, 0))) else (some (75, .iinc 5 (-1), 43, 5, 0, (-1))))) else (bif Nat.ble 39 j then (bif Nat.ble 40 j then (bif Nat.ble 41 j then (some (74, .iastore, 42, 0, 0, 0)) else (some (73, .iaload, 41, 0, 0, 0))) else (some (71, .iload 5, 40, 5, 0, 0))) else (bif Nat.ble 37 j then (bif Nat.ble 38 j then (some (68, .getfield 92, 39, 4, 0, 0)) else (some (67, .aload_n 1, 38, 1, 0, 0))) else (some (64, .goto 10, 41, 0, 0, 0))))) else (bif Nat.ble 30 j then (bif Nat.ble 33 j then (bif Nat.ble 34 j then (bif Nat.ble 35 j then (some (61, .invokevirtual 98, 36, 6, 4, 0)) else (some (60, .iload_n 3, 35, 3, 0, 0))) else (some (59, .iaload, 34, 0, 0, 0))) else (bif Nat.ble 31 j then (bif Nat.ble 32 j then (some (56, .invokevirtual 89, 33, 35, 2, 0)) else (some (54, .iload 5, 32, 5, 0, 0))) else (some (53, .aload_n 1, 31, 1, 0, 0)))) else (bif Nat.ble 27 j then (bif Nat.ble 28 j then (bif Nat.ble 29 j then (some (50, .getfield 18, 30, 0, 2, 0)) else (some (49, .aload_n 0, 29, 0, 0, 0))) else (some (48, .iaload, 28, 0, 0, 0))) else (bif Nat.ble 25 j then (bif Nat.ble 26 j then (some (45, .invokevirtual 86, 27, 34, 2, 0)) else (some (43, .iload 5, 26, 5, 0, 0))) else (some (42, .aload_n 1, 25, 1, 0, 0)))))) else (bif Nat.ble 12 j then (bif Nat.ble 18 j then (bif Nat.ble 21 j then (bif Nat.ble 22 j then (bif Nat.ble 23 j then (some (39, .getfield 18, 24, 0, 2, 0)) else (some (38, .aload_n 0, 23, 0, 0, 0))) else (some (37, .aload_n 0, 22, 0, 0, 0))) else (bif Nat.ble 19 j then (bif Nat.ble 20 j then (some (34, .ifCond .eq 33, 21, 37, 0, 0)) else (some (31, .invokevirtual 55, 20, 33, 2, 0))) else (some (29, .iload 5, 19, 5, 0, 0)))) else (bif Nat.ble 15 j then (bif Nat.ble 16 j then (bif Nat.ble 17 j then (some (28, .aload_n 1, 18, 1, 0, 0)) else (some (26, .iload 5, 17, 5, 0, 0))) else (some (23, .getfield 18, 16, 0, 2, 0))) else (bif Nat.ble 13 j then (bif Nat.ble 14 j then (some (22, .aload_n 0, 15, 0, 0, 0)) else (some (19, .if_icmp .lt 62, 14, 44, 0, 0))) else (some (18, .iload_n 2, 13, 2, 0, 0))))) else (bif Nat.ble 6 j then (bif Nat.ble 9 j then (bif Nat.ble 10 j then (bif Nat.ble 11 j then (some (16, .iload 5, 12, 5, 0, 0)) else (some (14, .istore 5, 11, 5, 0, 0))) else (some (13, .isub, 10, 0, 0, 0))) else (bif Nat.ble 7 j then (bif Nat.ble 8 j then (some (12, .iconst 1, 9, 0, 0, 1)) else (some (10, .iload 4, 8, 4, 0, 0))) else (some (8, .istore 4, 7, 4, 0, 0)))) else (bif Nat.ble 3 j then (bif Nat.ble 4 j then (bif Nat.ble 5 j then (some (7, .iadd, 6, 0, 0, 0)) else (some (6, .iaload, 5, 0, 0, 0))) else (some (5, .iload_n 2, 4, 2, 0, 0))) else (bif Nat.ble 1 j then (bif Nat.ble 2 j then (some (2, .getfield 95, 3, 4, 1, 0)) else (some (1, .aload_n 1, 2, 1, 0, 0))) else (some (0, .iload_n 2, 1, 2, 0, 0)))))))
/-- MotionDesk$Ballots.stronger(III)I -/
def mr_Ba_stronger (j : Nat) : Option mx_Row := bif Nat.ble 13 j then none else (bif Nat.ble 6 j then (bif Nat.ble 9 j then (bif Nat.ble 11 j then (bif Nat.ble 12 j then (some (20, .ireturn, 13, 0, 0, 0)) else (some (19, .iload_n 2, 12, 2, 0, 0))) else (bif Nat.ble 10 j then (some (16, .goto 4, 12, 0, 0, 0)) else (some (15, .iload_n 1, 10, 1, 0, 0)))) else (bif Nat.ble 7 j then (bif Nat.ble 8 j then (some (12, .ifCond .eq 7, 9, 11, 0, 0)) else (some (9, .invokevirtual 75, 8, 7, 4, 0))) else (some (8, .iload_n 3, 7, 3, 0, 0)))) else (bif Nat.ble 3 j then (bif Nat.ble 4 j then (bif Nat.ble 5 j then (some (7, .iload_n 2, 6, 2, 0, 0)) else (some (6, .iload_n 1, 5, 1, 0, 0))) else (some (5, .aload_n 0, 4, 0, 0, 0))) else (bif Nat.ble 1 j then (bif Nat.ble 2 j then (some (2, .if_icmp .eq 13, 3, 9, 0, 0)) else (some (1, .iload_n 2, 2, 2, 0, 0))) else (some (0, .iload_n 1, 1, 1, 0, 0)))))
/-- MotionDesk$Ballots.beats(III)Z -/
def mr_Ba_beats (j : Nat) : Option mx_Row := bif Nat.ble 30 j then none else (bif Nat.ble 15 j then (bif Nat.ble 22 j then (bif Nat.ble 26 j then (bif Nat.ble 28 j then (bif Nat.ble 29 j then (some (51, .ireturn, 30, 0, 0, 0)) else (some (50, .iconst 0, 29, 0, 0, 0))) else (bif Nat.ble 27 j then (some (47, .goto 4, 29, 0, 0, 0)) else (some (46, .iconst 1, 27, 0, 0, 1)))) else (bif Nat.ble 24 j then (bif Nat.ble 25 j then (some (43, .if_icmp .ge 7, 26, 28, 0, 0)) else (some (42, .iload_n 2, 25, 2, 0, 0))) else (bif Nat.ble 23 j then (some (41, .iload_n 1, 24, 1, 0, 0)) else (some (38, .if_icmp .ne 12, 23, 28, 0, 0))))) else (bif Nat.ble 18 j then (bif Nat.ble 20 j then (bif Nat.ble 21 j then (some (36, .iload 5, 22, 5, 0, 0)) else (some (34, .iload 4, 21, 4, 0, 0))) else (bif Nat.ble 19 j then (some (31, .if_icmp .gt 15, 20, 26, 0, 0)) else (some (29, .iload 5, 19, 5, 0, 0)))) else (bif Nat.ble 16 j then (bif Nat.ble 17 j then (some (27, .iload 4, 18, 4, 0, 0)) else (some (25, .istore 5, 17, 5, 0, 0))) else (some (24, .isub, 16, 0, 0, 0))))) else (bif Nat.ble 7 j then (bif Nat.ble 11 j then (bif Nat.ble 13 j then (bif Nat.ble 14 j then (some (22, .iload 4, 15, 4, 0, 0)) else (some (19, .invokestatic 69, 14, 147, 1, 0))) else (bif Nat.ble 12 j then (some (18, .iload_n 3, 13, 3, 0, 0)) else (some (16, .istore 4, 12, 4, 0, 0)))) else (bif Nat.ble 9 j then (bif Nat.ble 10 j then (some (13, .invokestatic 69, 11, 147, 1, 0)) else (some (12, .iand, 10, 0, 0, 0))) else (bif Nat.ble 8 j then (some (11, .iload_n 3, 9, 3, 0, 0)) else (some (10, .iaload, 8, 0, 0, 0))))) else (bif Nat.ble 3 j then (bif Nat.ble 5 j then (bif Nat.ble 6 j then (some (9, .iadd, 7, 0, 0, 0)) else (some (8, .iload_n 2, 6, 2, 0, 0))) else (bif Nat.ble 4 j then (some (7, .imul, 5, 0, 0, 0)) else (some (5, .bipush 6, 4, 0, 0, 6)))) else (bif Nat.ble 1 j then (bif Nat.ble 2 j then (some (4, .iload_n 1, 3, 1, 0, 0)) else (some (1, .getfield 15, 2, 0, 1, 0))) else (some (0, .aload_n 0, 1, 0, 0, 0))))))
/-- MotionDesk$Ballots.outcome(LMotionDesk$Tree;II)I -/
def mr_Ba_outcome (j : Nat) : Option mx_Row := bif Nat.ble 14 j then none else (bif Nat.ble 7 j then (bif Nat.ble 10 j then (bif Nat.ble 12 j then (bif Nat.ble 13 j then (some (21, .ireturn, 14, 0, 0, 0)) else (some (18, .invokevirtual 83, 13, 5, 4, 0))) else (bif Nat.ble 11 j then (some (17, .iload_n 3, 12, 3, 0, 0)) else (some (16, .iconst 0, 11, 0, 0, 0)))) else (bif Nat.ble 8 j then (bif Nat.ble 9 j then (some (15, .aload_n 1, 10, 1, 0, 0)) else (some (14, .aload_n 0, 9, 0, 0, 0))) else (some (11, .goto 10, 13, 0, 0, 0)))) else (bif Nat.ble 3 j then (bif Nat.ble 5 j then (bif Nat.ble 6 j then (some (8, .invokevirtual 79, 7, 4, 4, 0)) else (some (7, .iload_n 3, 6, 3, 0, 0))) else (bif Nat.ble 4 j then (some (6, .iconst 0, 5, 0, 0, 0)) else (some (5, .aload_n 1, 4, 1, 0, 0)))) else (bif Nat.ble 1 j then (bif Nat.ble 2 j then (some (4, .aload_n 0, 3, 0, 0, 0)) else (some (1, .ifCond .ne 13, 2, 8, 0, 0))) else (some (0, .iload_n 2, 1, 2, 0, 0)))))
/-- MotionDesk$Ballots.copy(LMotionDesk$Ballots;)V -/
def mr_Ba_copy (j : Nat) : Option mx_Row := bif Nat.ble 21 j then none else (bif Nat.ble 10 j then (bif Nat.ble 15 j then (bif Nat.ble 18 j then (bif Nat.ble 19 j then (bif Nat.ble 20 j then (some (36, .return_, 21, 0, 0, 0)) else (some (33, .invokestatic 63, 20, 0, 99, 0))) else (some (32, .arraylength, 19, 0, 0, 0))) else (bif Nat.ble 16 j then (bif Nat.ble 17 j then (some (29, .getfield 15, 18, 0, 1, 0)) else (some (28, .aload_n 0, 17, 0, 0, 0))) else (some (27, .iconst 0, 16, 0, 0, 0)))) else (bif Nat.ble 12 j then (bif Nat.ble 13 j then (bif Nat.ble 14 j then (some (24, .getfield 15, 15, 0, 1, 0)) else (some (23, .aload_n 0, 14, 0, 0, 0))) else (some (22, .iconst 0, 13, 0, 0, 0))) else (bif Nat.ble 11 j then (some (19, .getfield 15, 12, 0, 1, 0)) else (some (18, .aload_n 1, 11, 1, 0, 0))))) else (bif Nat.ble 5 j then (bif Nat.ble 7 j then (bif Nat.ble 8 j then (bif Nat.ble 9 j then (some (15, .invokestatic 63, 10, 0, 99, 0)) else (some (14, .arraylength, 9, 0, 0, 0))) else (some (11, .getfield 9, 8, 0, 0, 0))) else (bif Nat.ble 6 j then (some (10, .aload_n 0, 7, 0, 0, 0)) else (some (9, .iconst 0, 6, 0, 0, 0)))) else (bif Nat.ble 2 j then (bif Nat.ble 3 j then (bif Nat.ble 4 j then (some (6, .getfield 9, 5, 0, 0, 0)) else (some (5, .aload_n 0, 4, 0, 0, 0))) else (some (4, .iconst 0, 3, 0, 0, 0))) else (bif Nat.ble 1 j then (some (1, .getfield 9, 2, 0, 0, 0)) else (some (0, .aload_n 1, 1, 1, 0, 0))))))
/-- MotionDesk$Ballots.mix(LMotionDesk$Ballots;LMotionDesk$Ballots;I)V -/
def mr_Ba_mix (j : Nat) : Option mx_Row := bif Nat.ble 53 j then none else (bif Nat.ble 26 j then (bif Nat.ble 39 j then (bif Nat.ble 46 j then (bif Nat.ble 49 j then (bif Nat.ble 51 j then (bif Nat.ble 52 j then (some (88, .return_, 53, 0, 0, 0)) else (some (85, .goto (-38), 28, 0, 0, 0))) else (bif Nat.ble 50 j then (some (82, .iinc 4 1, 51, 4, 0, 1)) else (some (81, .iastore, 50, 0, 0, 0)))) else (bif Nat.ble 47 j then (bif Nat.ble 48 j then (some (80, .ior, 49, 0, 0, 0)) else (some (79, .iand, 48, 0, 0, 0))) else (some (78, .iload_n 3, 47, 3, 0, 0)))) else (bif Nat.ble 42 j then (bif Nat.ble 44 j then (bif Nat.ble 45 j then (some (77, .iaload, 46, 0, 0, 0)) else (some (75, .iload 4, 45, 4, 0, 0))) else (bif Nat.ble 43 j then (some (72, .getfield 15, 44, 0, 1, 0)) else (some (71, .aload_n 2, 43, 2, 0, 0)))) else (bif Nat.ble 40 j then (bif Nat.ble 41 j then (some (70, .iand, 42, 0, 0, 0)) else (some (69, .ixor, 41, 0, 0, 0))) else (some (68, .iconst (-1), 40, 0, 0, (-1)))))) else (bif Nat.ble 32 j then (bif Nat.ble 35 j then (bif Nat.ble 37 j then (bif Nat.ble 38 j then (some (67, .iload_n 3, 39, 3, 0, 0)) else (some (66, .iaload, 38, 0, 0, 0))) else (bif Nat.ble 36 j then (some (64, .iload 4, 37, 4, 0, 0)) else (some (61, .getfield 15, 36, 0, 1, 0)))) else (bif Nat.ble 33 j then (bif Nat.ble 34 j then (some (60, .aload_n 1, 35, 1, 0, 0)) else (some (58, .iload 4, 34, 4, 0, 0))) else (some (55, .getfield 15, 33, 0, 1, 0)))) else (bif Nat.ble 29 j then (bif Nat.ble 30 j then (bif Nat.ble 31 j then (some (54, .aload_n 0, 32, 0, 0, 0)) else (some (51, .if_icmp .ge 37, 31, 52, 0, 0))) else (some (49, .bipush 36, 30, 0, 0, 36))) else (bif Nat.ble 27 j then (bif Nat.ble 28 j then (some (47, .iload 4, 29, 4, 0, 0)) else (some (45, .istore 4, 28, 4, 0, 0))) else (some (44, .iconst 0, 27, 0, 0, 0)))))) else (bif Nat.ble 13 j then (bif Nat.ble 19 j then (bif Nat.ble 22 j then (bif Nat.ble 24 j then (bif Nat.ble 25 j then (some (41, .goto (-38), 2, 0, 0, 0)) else (some (38, .iinc 4 1, 25, 4, 0, 1))) else (bif Nat.ble 23 j then (some (37, .iastore, 24, 0, 0, 0)) else (some (36, .ior, 23, 0, 0, 0)))) else (bif Nat.ble 20 j then (bif Nat.ble 21 j then (some (35, .iand, 22, 0, 0, 0)) else (some (34, .iload_n 3, 21, 3, 0, 0))) else (some (33, .iaload, 20, 0, 0, 0)))) else (bif Nat.ble 16 j then (bif Nat.ble 17 j then (bif Nat.ble 18 j then (some (31, .iload 4, 19, 4, 0, 0)) else (some (28, .getfield 9, 18, 0, 0, 0))) else (some (27, .aload_n 2, 17, 2, 0, 0))) else (bif Nat.ble 14 j then (bif Nat.ble 15 j then (some (26, .iand, 16, 0, 0, 0)) else (some (25, .ixor, 15, 0, 0, 0))) else (some (24, .iconst (-1), 14, 0, 0, (-1)))))) else (bif Nat.ble 6 j then (bif Nat.ble 9 j then (bif Nat.ble 11 j then (bif Nat.ble 12 j then (some (23, .iload_n 3, 13, 3, 0, 0)) else (some (22, .iaload, 12, 0, 0, 0))) else (bif Nat.ble 10 j then (some (20, .iload 4, 11, 4, 0, 0)) else (some (17, .getfield 9, 10, 0, 0, 0)))) else (bif Nat.ble 7 j then (bif Nat.ble 8 j then (some (16, .aload_n 1, 9, 1, 0, 0)) else (some (14, .iload 4, 8, 4, 0, 0))) else (some (11, .getfield 9, 7, 0, 0, 0)))) else (bif Nat.ble 3 j then (bif Nat.ble 4 j then (bif Nat.ble 5 j then (some (10, .aload_n 0, 6, 0, 0, 0)) else (some (7, .if_icmp .ge 37, 5, 26, 0, 0))) else (some (5, .bipush 63, 4, 0, 0, 63))) else (bif Nat.ble 1 j then (bif Nat.ble 2 j then (some (3, .iload 4, 3, 4, 0, 0)) else (some (1, .istore 4, 2, 4, 0, 0))) else (some (0, .iconst 0, 1, 0, 0, 0)))))))
/-- MotionDesk$Picture.empty(I)V -/
def mr_Pi_empty (j : Nat) : Option mx_Row := bif Nat.ble 10 j then none else (bif Nat.ble 5 j then (bif Nat.ble 7 j then (bif Nat.ble 8 j then (bif Nat.ble 9 j then (some (15, .return_, 10, 0, 0, 0)) else (some (12, .putfield 25, 9, 1, 4, 0))) else (some (11, .iconst 0, 8, 0, 0, 0))) else (bif Nat.ble 6 j then (some (10, .aload_n 0, 7, 0, 0, 0)) else (some (7, .putfield 22, 6, 1, 3, 0)))) else (bif Nat.ble 2 j then (bif Nat.ble 3 j then (bif Nat.ble 4 j then (some (6, .iconst 0, 5, 0, 0, 0)) else (some (5, .aload_n 0, 4, 0, 0, 0))) else (some (2, .putfield 18, 3, 1, 2, 0))) else (bif Nat.ble 1 j then (some (1, .iload_n 1, 2, 1, 0, 0)) else (some (0, .aload_n 0, 1, 0, 0, 0)))))
/-- MotionDesk$Picture.plant([I)V -/
def mr_Pi_plant (j : Nat) : Option mx_Row := bif Nat.ble 11 j then none else (bif Nat.ble 5 j then (bif Nat.ble 8 j then (bif Nat.ble 9 j then (bif Nat.ble 10 j then (some (14, .return_, 11, 0, 0, 0)) else (some (11, .invokevirtual 34, 10, 13, 4, 0))) else (some (10, .iconst 1, 9, 0, 0, 1))) else (bif Nat.ble 6 j then (bif Nat.ble 7 j then (some (9, .iaload, 8, 0, 0, 0)) else (some (8, .iconst 0, 7, 0, 0, 0))) else (some (7, .aload_n 1, 6, 1, 0, 0)))) else (bif Nat.ble 2 j then (bif Nat.ble 3 j then (bif Nat.ble 4 j then (some (6, .aload_n 1, 5, 1, 0, 0)) else (some (5, .aload_n 0, 4, 0, 0, 0))) else (some (2, .putfield 25, 3, 1, 4, 0))) else (bif Nat.ble 1 j then (some (1, .iconst 0, 2, 0, 0, 0)) else (some (0, .aload_n 0, 1, 0, 0, 0)))))
/-- MotionDesk$Picture.grow([III)V -/
def mr_Pi_grow (j : Nat) : Option mx_Row := bif Nat.ble 31 j then none else (bif Nat.ble 15 j then (bif Nat.ble 23 j then (bif Nat.ble 27 j then (bif Nat.ble 29 j then (bif Nat.ble 30 j then (some (45, .return_, 31, 0, 0, 0)) else (some (42, .invokevirtual 34, 30, 13, 4, 0))) else (bif Nat.ble 28 j then (some (41, .iadd, 29, 0, 0, 0)) else (some (40, .iconst 1, 28, 0, 0, 1)))) else (bif Nat.ble 25 j then (bif Nat.ble 26 j then (some (39, .iload_n 3, 27, 3, 0, 0)) else (some (38, .iaload, 26, 0, 0, 0))) else (bif Nat.ble 24 j then (some (37, .iload_n 3, 25, 3, 0, 0)) else (some (36, .aload_n 1, 24, 1, 0, 0))))) else (bif Nat.ble 19 j then (bif Nat.ble 21 j then (bif Nat.ble 22 j then (some (35, .aload_n 1, 23, 1, 0, 0)) else (some (34, .aload_n 0, 22, 0, 0, 0))) else (bif Nat.ble 20 j then (some (31, .invokevirtual 34, 21, 13, 4, 0)) else (some (30, .iadd, 20, 0, 0, 0)))) else (bif Nat.ble 17 j then (bif Nat.ble 18 j then (some (29, .iconst 1, 19, 0, 0, 1)) else (some (28, .iload_n 3, 18, 3, 0, 0))) else (bif Nat.ble 16 j then (some (27, .iload_n 2, 17, 2, 0, 0)) else (some (26, .aload_n 1, 16, 1, 0, 0)))))) else (bif Nat.ble 7 j then (bif Nat.ble 11 j then (bif Nat.ble 13 j then (bif Nat.ble 14 j then (some (25, .aload_n 0, 15, 0, 0, 0)) else (some (22, .invokevirtual 38, 14, 14, 2, 0))) else (bif Nat.ble 12 j then (some (21, .iconst (-1), 13, 0, 0, (-1))) else (some (20, .aload_n 0, 12, 0, 0, 0)))) else (bif Nat.ble 9 j then (bif Nat.ble 10 j then (some (19, .return_, 11, 0, 0, 0)) else (some (16, .invokevirtual 38, 10, 14, 2, 0))) else (bif Nat.ble 8 j then (some (15, .iload_n 2, 9, 2, 0, 0)) else (some (14, .aload_n 0, 8, 0, 0, 0))))) else (bif Nat.ble 3 j then (bif Nat.ble 5 j then (bif Nat.ble 6 j then (some (11, .if_icmp .lt 9, 7, 11, 0, 0)) else (some (9, .bipush 6, 6, 0, 0, 6))) else (bif Nat.ble 4 j then (some (8, .iload_n 3, 5, 3, 0, 0)) else (some (5, .if_icmp .ge 9, 4, 7, 0, 0)))) else (bif Nat.ble 1 j then (bif Nat.ble 2 j then (some (2, .getfield 18, 3, 1, 2, 0)) else (some (1, .aload_n 0, 2, 0, 0, 0))) else (some (0, .iload_n 3, 1, 3, 0, 0))))))
/-- MotionDesk$Picture.addNode(I)V -/
def mr_Pi_addNode (j : Nat) : Option mx_Row := bif Nat.ble 17 j then none else (bif Nat.ble 8 j then (bif Nat.ble 12 j then (bif Nat.ble 14 j then (bif Nat.ble 15 j then (bif Nat.ble 16 j then (some (29, .return_, 17, 0, 0, 0)) else (some (26, .putfield 25, 16, 1, 4, 0))) else (some (25, .iadd, 15, 0, 0, 0))) else (bif Nat.ble 13 j then (some (24, .iconst 1, 14, 0, 0, 1)) else (some (21, .getfield 25, 13, 1, 4, 0)))) else (bif Nat.ble 10 j then (bif Nat.ble 11 j then (some (20, .dup, 12, 0, 0, 0)) else (some (19, .aload_n 0, 11, 0, 0, 0))) else (bif Nat.ble 9 j then (some (18, .iastore, 10, 0, 0, 0)) else (some (17, .iload_n 1, 9, 1, 0, 0))))) else (bif Nat.ble 4 j then (bif Nat.ble 6 j then (bif Nat.ble 7 j then (some (14, .getfield 25, 8, 1, 4, 0)) else (some (13, .aload_n 0, 7, 0, 0, 0))) else (bif Nat.ble 5 j then (some (10, .getfield 15, 6, 1, 1, 0)) else (some (9, .aload_n 0, 5, 0, 0, 0)))) else (bif Nat.ble 2 j then (bif Nat.ble 3 j then (some (6, .if_icmp .ge 23, 4, 16, 0, 0)) else (some (4, .bipush 63, 3, 0, 0, 63))) else (bif Nat.ble 1 j then (some (1, .getfield 25, 2, 1, 4, 0)) else (some (0, .aload_n 0, 1, 0, 0, 0))))))
/-- MotionDesk$Picture.copy(LMotionDesk$Picture;)V -/
def mr_Pi_copy (j : Nat) : Option mx_Row := bif Nat.ble 33 j then none else (bif Nat.ble 16 j then (bif Nat.ble 24 j then (bif Nat.ble 28 j then (bif Nat.ble 30 j then (bif Nat.ble 31 j then (bif Nat.ble 32 j then (some (60, .return_, 33, 0, 0, 0)) else (some (57, .putfield 25, 32, 1, 4, 0))) else (some (54, .getfield 25, 31, 1, 4, 0))) else (bif Nat.ble 29 j then (some (53, .aload_n 1, 30, 1, 0, 0)) else (some (52, .aload_n 0, 29, 0, 0, 0)))) else (bif Nat.ble 26 j then (bif Nat.ble 27 j then (some (49, .putfield 22, 28, 1, 3, 0)) else (some (46, .getfield 22, 27, 1, 3, 0))) else (bif Nat.ble 25 j then (some (45, .aload_n 1, 26, 1, 0, 0)) else (some (44, .aload_n 0, 25, 0, 0, 0))))) else (bif Nat.ble 20 j then (bif Nat.ble 22 j then (bif Nat.ble 23 j then (some (41, .putfield 18, 24, 1, 2, 0)) else (some (38, .getfield 18, 23, 1, 2, 0))) else (bif Nat.ble 21 j then (some (37, .aload_n 1, 22, 1, 0, 0)) else (some (36, .aload_n 0, 21, 0, 0, 0)))) else (bif Nat.ble 18 j then (bif Nat.ble 19 j then (some (33, .invokestatic 28, 20, 0, 99, 0)) else (some (32, .arraylength, 19, 0, 0, 0))) else (bif Nat.ble 17 j then (some (29, .getfield 15, 18, 1, 1, 0)) else (some (28, .aload_n 0, 17, 0, 0, 0)))))) else (bif Nat.ble 8 j then (bif Nat.ble 12 j then (bif Nat.ble 14 j then (bif Nat.ble 15 j then (some (27, .iconst 0, 16, 0, 0, 0)) else (some (24, .getfield 15, 15, 1, 1, 0))) else (bif Nat.ble 13 j then (some (23, .aload_n 0, 14, 0, 0, 0)) else (some (22, .iconst 0, 13, 0, 0, 0)))) else (bif Nat.ble 10 j then (bif Nat.ble 11 j then (some (19, .getfield 15, 12, 1, 1, 0)) else (some (18, .aload_n 1, 11, 1, 0, 0))) else (bif Nat.ble 9 j then (some (15, .invokestatic 28, 10, 0, 99, 0)) else (some (14, .arraylength, 9, 0, 0, 0))))) else (bif Nat.ble 4 j then (bif Nat.ble 6 j then (bif Nat.ble 7 j then (some (11, .getfield 9, 8, 1, 0, 0)) else (some (10, .aload_n 0, 7, 0, 0, 0))) else (bif Nat.ble 5 j then (some (9, .iconst 0, 6, 0, 0, 0)) else (some (6, .getfield 9, 5, 1, 0, 0)))) else (bif Nat.ble 2 j then (bif Nat.ble 3 j then (some (5, .aload_n 0, 4, 0, 0, 0)) else (some (4, .iconst 0, 3, 0, 0, 0))) else (bif Nat.ble 1 j then (some (1, .getfield 9, 2, 1, 0, 0)) else (some (0, .aload_n 1, 1, 1, 0, 0)))))))
/-- MotionDesk$Picture.exchange(II)V -/
def mr_Pi_exchange (j : Nat) : Option mx_Row := bif Nat.ble 29 j then none else (bif Nat.ble 14 j then (bif Nat.ble 21 j then (bif Nat.ble 25 j then (bif Nat.ble 27 j then (bif Nat.ble 28 j then (some (39, .return_, 29, 0, 0, 0)) else (some (38, .iastore, 28, 0, 0, 0))) else (bif Nat.ble 26 j then (some (36, .iload 4, 27, 4, 0, 0)) else (some (35, .iadd, 26, 0, 0, 0)))) else (bif Nat.ble 23 j then (bif Nat.ble 24 j then (some (34, .iconst 1, 25, 0, 0, 1)) else (some (33, .iload_n 3, 24, 3, 0, 0))) else (bif Nat.ble 22 j then (some (30, .getfield 9, 23, 1, 0, 0)) else (some (29, .aload_n 0, 22, 0, 0, 0))))) else (bif Nat.ble 17 j then (bif Nat.ble 19 j then (bif Nat.ble 20 j then (some (28, .iastore, 21, 0, 0, 0)) else (some (27, .iaload, 20, 0, 0, 0))) else (bif Nat.ble 18 j then (some (26, .iadd, 19, 0, 0, 0)) else (some (25, .iconst 1, 18, 0, 0, 1)))) else (bif Nat.ble 15 j then (bif Nat.ble 16 j then (some (24, .iload_n 3, 17, 3, 0, 0)) else (some (21, .getfield 9, 16, 1, 0, 0))) else (some (20, .aload_n 0, 15, 0, 0, 0))))) else (bif Nat.ble 7 j then (bif Nat.ble 10 j then (bif Nat.ble 12 j then (bif Nat.ble 13 j then (some (19, .iload_n 3, 14, 3, 0, 0)) else (some (16, .getfield 9, 13, 1, 0, 0))) else (bif Nat.ble 11 j then (some (15, .aload_n 0, 12, 0, 0, 0)) else (some (13, .istore 4, 11, 4, 0, 0)))) else (bif Nat.ble 8 j then (bif Nat.ble 9 j then (some (12, .iaload, 10, 0, 0, 0)) else (some (11, .iload_n 3, 9, 3, 0, 0))) else (some (8, .getfield 9, 8, 1, 0, 0)))) else (bif Nat.ble 3 j then (bif Nat.ble 5 j then (bif Nat.ble 6 j then (some (7, .aload_n 0, 7, 0, 0, 0)) else (some (6, .istore_n 3, 6, 3, 0, 0))) else (bif Nat.ble 4 j then (some (5, .iadd, 5, 0, 0, 0)) else (some (4, .iload_n 2, 4, 2, 0, 0)))) else (bif Nat.ble 1 j then (bif Nat.ble 2 j then (some (3, .imul, 3, 0, 0, 0)) else (some (1, .bipush 6, 2, 0, 0, 6))) else (some (0, .iload_n 1, 1, 1, 0, 0))))))
/-- MotionDesk$Picture.turn(LMotionDesk$Tree;I)V -/
def mr_Pi_turn (j : Nat) : Option mx_Row := bif Nat.ble 37 j then none else (bif Nat.ble 18 j then (bif Nat.ble 27 j then (bif Nat.ble 32 j then (bif Nat.ble 34 j then (bif Nat.ble 35 j then (bif Nat.ble 36 j then (some (64, .return_, 37, 0, 0, 0)) else (some (61, .invokestatic 28, 36, 0, 99, 0))) else (some (59, .iload 5, 35, 5, 0, 0))) else (bif Nat.ble 33 j then (some (58, .iadd, 34, 0, 0, 0)) else (some (56, .iload 6, 33, 6, 0, 0)))) else (bif Nat.ble 29 j then (bif Nat.ble 30 j then (bif Nat.ble 31 j then (some (55, .iload_n 3, 32, 3, 0, 0)) else (some (52, .getfield 15, 31, 1, 1, 0))) else (some (51, .aload_n 0, 30, 0, 0, 0))) else (bif Nat.ble 28 j then (some (50, .iload_n 3, 29, 3, 0, 0)) else (some (47, .getfield 54, 28, 4, 0, 0))))) else (bif Nat.ble 22 j then (bif Nat.ble 24 j then (bif Nat.ble 25 j then (bif Nat.ble 26 j then (some (46, .aload_n 1, 27, 1, 0, 0)) else (some (43, .invokestatic 28, 26, 0, 99, 0))) else (some (41, .iload 6, 25, 6, 0, 0))) else (bif Nat.ble 23 j then (some (40, .iload_n 3, 24, 3, 0, 0)) else (some (37, .getfield 15, 23, 1, 1, 0)))) else (bif Nat.ble 20 j then (bif Nat.ble 21 j then (some (36, .aload_n 0, 22, 0, 0, 0)) else (some (34, .iload 4, 21, 4, 0, 0))) else (bif Nat.ble 19 j then (some (31, .getfield 54, 20, 4, 0, 0)) else (some (30, .aload_n 1, 19, 1, 0, 0)))))) else (bif Nat.ble 9 j then (bif Nat.ble 13 j then (bif Nat.ble 15 j then (bif Nat.ble 16 j then (bif Nat.ble 17 j then (some (28, .istore 6, 18, 6, 0, 0)) else (some (27, .iaload, 17, 0, 0, 0))) else (some (25, .iload 4, 16, 4, 0, 0))) else (bif Nat.ble 14 j then (some (22, .getfield 51, 15, 4, 1, 0)) else (some (21, .aload_n 1, 14, 1, 0, 0)))) else (bif Nat.ble 11 j then (bif Nat.ble 12 j then (some (19, .istore 5, 13, 5, 0, 0)) else (some (18, .iaload, 12, 0, 0, 0))) else (bif Nat.ble 10 j then (some (17, .iload_n 3, 11, 3, 0, 0)) else (some (14, .getfield 51, 10, 4, 1, 0))))) else (bif Nat.ble 4 j then (bif Nat.ble 6 j then (bif Nat.ble 7 j then (bif Nat.ble 8 j then (some (13, .aload_n 1, 9, 1, 0, 0)) else (some (11, .istore 4, 8, 4, 0, 0))) else (some (8, .invokevirtual 48, 7, 35, 2, 0))) else (bif Nat.ble 5 j then (some (7, .iload_n 2, 6, 2, 0, 0)) else (some (6, .aload_n 1, 5, 1, 0, 0)))) else (bif Nat.ble 2 j then (bif Nat.ble 3 j then (some (5, .istore_n 3, 4, 3, 0, 0)) else (some (2, .invokevirtual 42, 3, 34, 2, 0))) else (bif Nat.ble 1 j then (some (1, .iload_n 2, 2, 2, 0, 0)) else (some (0, .aload_n 1, 1, 1, 0, 0)))))))
/-- MotionDesk$Picture.placeOf(II)I -/
def mr_Pi_placeOf (j : Nat) : Option mx_Row := bif Nat.ble 23 j then none else (bif Nat.ble 11 j then (bif Nat.ble 17 j then (bif Nat.ble 20 j then (bif Nat.ble 21 j then (bif Nat.ble 22 j then (some (37, .ireturn, 23, 0, 0, 0)) else (some (34, .getfield 18, 22, 1, 2, 0))) else (some (33, .aload_n 0, 21, 0, 0, 0))) else (bif Nat.ble 18 j then (bif Nat.ble 19 j then (some (30, .goto (-28), 2, 0, 0, 0)) else (some (27, .iinc 3 1, 19, 3, 0, 1))) else (some (26, .ireturn, 18, 0, 0, 0)))) else (bif Nat.ble 14 j then (bif Nat.ble 15 j then (bif Nat.ble 16 j then (some (25, .iload_n 3, 17, 3, 0, 0)) else (some (22, .if_icmp .ne 5, 16, 18, 0, 0))) else (some (21, .iload_n 2, 15, 2, 0, 0))) else (bif Nat.ble 12 j then (bif Nat.ble 13 j then (some (20, .iaload, 14, 0, 0, 0)) else (some (19, .iadd, 13, 0, 0, 0))) else (some (18, .iload_n 3, 12, 3, 0, 0))))) else (bif Nat.ble 5 j then (bif Nat.ble 8 j then (bif Nat.ble 9 j then (bif Nat.ble 10 j then (some (17, .imul, 11, 0, 0, 0)) else (some (15, .bipush 6, 10, 0, 0, 6))) else (some (14, .iload_n 1, 9, 1, 0, 0))) else (bif Nat.ble 6 j then (bif Nat.ble 7 j then (some (11, .getfield 9, 8, 1, 0, 0)) else (some (10, .aload_n 0, 7, 0, 0, 0))) else (some (7, .if_icmp .ge 26, 6, 20, 0, 0)))) else (bif Nat.ble 2 j then (bif Nat.ble 3 j then (bif Nat.ble 4 j then (some (4, .getfield 18, 5, 1, 2, 0)) else (some (3, .aload_n 0, 4, 0, 0, 0))) else (some (2, .iload_n 3, 3, 3, 0, 0))) else (bif Nat.ble 1 j then (some (1, .istore_n 3, 2, 3, 0, 0)) else (some (0, .iconst 0, 1, 0, 0, 0))))))
/-- MotionDesk$Picture.layWithFirst(II[I)V -/
def mr_Pi_layWithFirst (j : Nat) : Option mx_Row := bif Nat.ble 36 j then none else (bif Nat.ble 18 j then (bif Nat.ble 27 j then (bif Nat.ble 31 j then (bif Nat.ble 33 j then (bif Nat.ble 34 j then (bif Nat.ble 35 j then (some (63, .return_, 36, 0, 0, 0)) else (some (60, .goto (-50), 8, 0, 0, 0))) else (some (57, .iinc 5 1, 34, 5, 0, 1))) else (bif Nat.ble 32 j then (some (54, .iinc 4 1, 33, 4, 0, 1)) else (some (53, .iastore, 32, 0, 0, 0)))) else (bif Nat.ble 29 j then (bif Nat.ble 30 j then (some (51, .iload 6, 31, 6, 0, 0)) else (some (49, .iload 4, 30, 4, 0, 0))) else (bif Nat.ble 28 j then (some (48, .aload_n 3, 29, 3, 0, 0)) else (some (45, .if_icmp .ge 12, 28, 33, 0, 0))))) else (bif Nat.ble 22 j then (bif Nat.ble 24 j then (bif Nat.ble 25 j then (bif Nat.ble 26 j then (some (42, .getfield 18, 27, 1, 2, 0)) else (some (41, .aload_n 0, 26, 0, 0, 0))) else (some (39, .iload 4, 25, 4, 0, 0))) else (bif Nat.ble 23 j then (some (36, .if_icmp .eq 21, 24, 33, 0, 0)) else (some (35, .iload_n 2, 23, 2, 0, 0)))) else (bif Nat.ble 20 j then (bif Nat.ble 21 j then (some (33, .iload 6, 22, 6, 0, 0)) else (some (31, .istore 6, 21, 6, 0, 0))) else (bif Nat.ble 19 j then (some (30, .iaload, 20, 0, 0, 0)) else (some (29, .iadd, 19, 0, 0, 0)))))) else (bif Nat.ble 9 j then (bif Nat.ble 13 j then (bif Nat.ble 15 j then (bif Nat.ble 16 j then (bif Nat.ble 17 j then (some (27, .iload 5, 18, 5, 0, 0)) else (some (26, .imul, 17, 0, 0, 0))) else (some (24, .bipush 6, 16, 0, 0, 6))) else (bif Nat.ble 14 j then (some (23, .iload_n 1, 15, 1, 0, 0)) else (some (20, .getfield 9, 14, 1, 0, 0)))) else (bif Nat.ble 11 j then (bif Nat.ble 12 j then (some (19, .aload_n 0, 13, 0, 0, 0)) else (some (16, .if_icmp .ge 47, 12, 35, 0, 0))) else (bif Nat.ble 10 j then (some (13, .getfield 18, 11, 1, 2, 0)) else (some (12, .aload_n 0, 10, 0, 0, 0))))) else (bif Nat.ble 4 j then (bif Nat.ble 6 j then (bif Nat.ble 7 j then (bif Nat.ble 8 j then (some (10, .iload 5, 9, 5, 0, 0)) else (some (8, .istore 5, 8, 5, 0, 0))) else (some (7, .iconst 0, 7, 0, 0, 0))) else (bif Nat.ble 5 j then (some (5, .istore 4, 6, 4, 0, 0)) else (some (4, .iconst 1, 5, 0, 0, 1)))) else (bif Nat.ble 2 j then (bif Nat.ble 3 j then (some (3, .iastore, 4, 0, 0, 0)) else (some (2, .iload_n 2, 3, 2, 0, 0))) else (bif Nat.ble 1 j then (some (1, .iconst 0, 2, 0, 0, 0)) else (some (0, .aload_n 3, 1, 3, 0, 0)))))))
/-- MotionDesk$Sightings.add(III)V -/
def mr_Si_add (j : Nat) : Option mx_Row := bif Nat.ble 29 j then none else (bif Nat.ble 14 j then (bif Nat.ble 21 j then (bif Nat.ble 25 j then (bif Nat.ble 27 j then (bif Nat.ble 28 j then (some (49, .return_, 29, 0, 0, 0)) else (some (46, .putfield 21, 28, 2, 3, 0))) else (bif Nat.ble 26 j then (some (45, .iadd, 27, 0, 0, 0)) else (some (44, .iconst 1, 26, 0, 0, 1)))) else (bif Nat.ble 23 j then (bif Nat.ble 24 j then (some (41, .getfield 21, 25, 2, 3, 0)) else (some (40, .dup, 24, 0, 0, 0))) else (bif Nat.ble 22 j then (some (39, .aload_n 0, 23, 0, 0, 0)) else (some (38, .iastore, 22, 0, 0, 0))))) else (bif Nat.ble 17 j then (bif Nat.ble 19 j then (bif Nat.ble 20 j then (some (37, .iload_n 3, 21, 3, 0, 0)) else (some (34, .getfield 21, 20, 2, 3, 0))) else (bif Nat.ble 18 j then (some (33, .aload_n 0, 19, 0, 0, 0)) else (some (30, .getfield 18, 18, 2, 2, 0)))) else (bif Nat.ble 15 j then (bif Nat.ble 16 j then (some (29, .aload_n 0, 17, 0, 0, 0)) else (some (28, .iastore, 16, 0, 0, 0))) else (some (27, .iload_n 2, 15, 2, 0, 0))))) else (bif Nat.ble 7 j then (bif Nat.ble 10 j then (bif Nat.ble 12 j then (bif Nat.ble 13 j then (some (24, .getfield 21, 14, 2, 3, 0)) else (some (23, .aload_n 0, 13, 0, 0, 0))) else (bif Nat.ble 11 j then (some (20, .getfield 15, 12, 2, 1, 0)) else (some (19, .aload_n 0, 11, 0, 0, 0)))) else (bif Nat.ble 8 j then (bif Nat.ble 9 j then (some (18, .iastore, 10, 0, 0, 0)) else (some (17, .iload_n 1, 9, 1, 0, 0))) else (some (14, .getfield 21, 8, 2, 3, 0)))) else (bif Nat.ble 3 j then (bif Nat.ble 5 j then (bif Nat.ble 6 j then (some (13, .aload_n 0, 7, 0, 0, 0)) else (some (10, .getfield 9, 6, 2, 0, 0))) else (bif Nat.ble 4 j then (some (9, .aload_n 0, 5, 0, 0, 0)) else (some (6, .if_icmp .ge 43, 4, 28, 0, 0)))) else (bif Nat.ble 1 j then (bif Nat.ble 2 j then (some (4, .bipush 6, 3, 0, 0, 6)) else (some (1, .getfield 21, 2, 2, 3, 0))) else (some (0, .aload_n 0, 1, 0, 0, 0))))))
/-- MotionDesk$Sightings.agree([II)Z -/
def mr_Si_agree (j : Nat) : Option mx_Row := bif Nat.ble 33 j then none else (bif Nat.ble 16 j then (bif Nat.ble 24 j then (bif Nat.ble 28 j then (bif Nat.ble 30 j then (bif Nat.ble 31 j then (bif Nat.ble 32 j then (some (54, .ireturn, 33, 0, 0, 0)) else (some (53, .iconst 1, 32, 0, 0, 1))) else (some (50, .goto (-48), 2, 0, 0, 0))) else (bif Nat.ble 29 j then (some (47, .iinc 3 1, 30, 3, 0, 1)) else (some (46, .ireturn, 29, 0, 0, 0)))) else (bif Nat.ble 26 j then (bif Nat.ble 27 j then (some (45, .iconst 0, 28, 0, 0, 0)) else (some (42, .if_icmp .eq 5, 27, 29, 0, 0))) else (bif Nat.ble 25 j then (some (41, .iconst 0, 26, 0, 0, 0)) else (some (38, .goto 4, 26, 0, 0, 0))))) else (bif Nat.ble 20 j then (bif Nat.ble 22 j then (bif Nat.ble 23 j then (some (37, .iconst 1, 24, 0, 0, 1)) else (some (34, .ifCond .ne 7, 23, 25, 0, 0))) else (bif Nat.ble 21 j then (some (33, .iaload, 22, 0, 0, 0)) else (some (32, .iload_n 3, 21, 3, 0, 0)))) else (bif Nat.ble 18 j then (bif Nat.ble 19 j then (some (29, .getfield 18, 20, 2, 2, 0)) else (some (28, .aload_n 0, 19, 0, 0, 0))) else (bif Nat.ble 17 j then (some (25, .invokestatic 25, 18, 39, 5, 0)) else (some (24, .iaload, 17, 0, 0, 0)))))) else (bif Nat.ble 8 j then (bif Nat.ble 12 j then (bif Nat.ble 14 j then (bif Nat.ble 15 j then (some (23, .iload_n 3, 16, 3, 0, 0)) else (some (20, .getfield 15, 15, 2, 1, 0))) else (bif Nat.ble 13 j then (some (19, .aload_n 0, 14, 0, 0, 0)) else (some (18, .iaload, 13, 0, 0, 0)))) else (bif Nat.ble 10 j then (bif Nat.ble 11 j then (some (17, .iload_n 3, 12, 3, 0, 0)) else (some (14, .getfield 9, 11, 2, 0, 0))) else (bif Nat.ble 9 j then (some (13, .aload_n 0, 10, 0, 0, 0)) else (some (12, .iload_n 2, 9, 2, 0, 0))))) else (bif Nat.ble 4 j then (bif Nat.ble 6 j then (bif Nat.ble 7 j then (some (11, .iconst 0, 8, 0, 0, 0)) else (some (10, .aload_n 1, 7, 1, 0, 0))) else (bif Nat.ble 5 j then (some (7, .if_icmp .ge 46, 6, 31, 0, 0)) else (some (4, .getfield 21, 5, 2, 3, 0)))) else (bif Nat.ble 2 j then (bif Nat.ble 3 j then (some (3, .aload_n 0, 4, 0, 0, 0)) else (some (2, .iload_n 3, 3, 3, 0, 0))) else (bif Nat.ble 1 j then (some (1, .istore_n 3, 2, 3, 0, 0)) else (some (0, .iconst 0, 1, 0, 0, 0)))))))
/-- MotionDesk$Text.append(I)V -/
def mr_Te_append (j : Nat) : Option mx_Row := bif Nat.ble 17 j then none else (bif Nat.ble 8 j then (bif Nat.ble 12 j then (bif Nat.ble 14 j then (bif Nat.ble 15 j then (bif Nat.ble 16 j then (some (29, .return_, 17, 0, 0, 0)) else (some (26, .putfield 22, 16, 3, 2, 0))) else (some (25, .iadd, 15, 0, 0, 0))) else (bif Nat.ble 13 j then (some (24, .iconst 1, 14, 0, 0, 1)) else (some (21, .getfield 22, 13, 3, 2, 0)))) else (bif Nat.ble 10 j then (bif Nat.ble 11 j then (some (20, .dup, 12, 0, 0, 0)) else (some (19, .aload_n 0, 11, 0, 0, 0))) else (bif Nat.ble 9 j then (some (18, .iastore, 10, 0, 0, 0)) else (some (17, .iload_n 1, 9, 1, 0, 0))))) else (bif Nat.ble 4 j then (bif Nat.ble 6 j then (bif Nat.ble 7 j then (some (14, .getfield 22, 8, 3, 2, 0)) else (some (13, .aload_n 0, 7, 0, 0, 0))) else (bif Nat.ble 5 j then (some (10, .getfield 9, 6, 3, 0, 0)) else (some (9, .aload_n 0, 5, 0, 0, 0)))) else (bif Nat.ble 2 j then (bif Nat.ble 3 j then (some (6, .if_icmp .ge 23, 4, 16, 0, 0)) else (some (4, .bipush 120, 3, 0, 0, 120))) else (bif Nat.ble 1 j then (some (1, .getfield 22, 2, 3, 2, 0)) else (some (0, .aload_n 0, 1, 0, 0, 0))))))
/-- MotionDesk$Text.read()I -/
def mr_Te_read (j : Nat) : Option mx_Row := bif Nat.ble 38 j then none else (bif Nat.ble 19 j then (bif Nat.ble 28 j then (bif Nat.ble 33 j then (bif Nat.ble 35 j then (bif Nat.ble 36 j then (bif Nat.ble 37 j then (some (67, .ireturn, 38, 0, 0, 0)) else (some (66, .iconst (-1), 37, 0, 0, (-1)))) else (some (63, .goto (-48), 9, 0, 0, 0))) else (bif Nat.ble 34 j then (some (60, .iinc 1 1, 35, 1, 0, 1)) else (some (59, .ireturn, 34, 0, 0, 0)))) else (bif Nat.ble 30 j then (bif Nat.ble 31 j then (bif Nat.ble 32 j then (some (58, .iconst (-1), 33, 0, 0, (-1))) else (some (55, .if_icmp .eq 5, 32, 34, 0, 0))) else (some (53, .bipush 59, 31, 0, 0, 59))) else (bif Nat.ble 29 j then (some (50, .getfield 29, 30, 3, 4, 0)) else (some (49, .aload_n 0, 29, 0, 0, 0))))) else (bif Nat.ble 23 j then (bif Nat.ble 25 j then (bif Nat.ble 26 j then (bif Nat.ble 27 j then (some (46, .invokevirtual 42, 28, 24, 1, 0)) else (some (45, .aload_n 0, 27, 0, 0, 0))) else (some (44, .ireturn, 26, 0, 0, 0))) else (bif Nat.ble 24 j then (some (43, .iconst (-1), 25, 0, 0, (-1))) else (some (40, .ifCond .ne 5, 24, 26, 0, 0)))) else (bif Nat.ble 21 j then (bif Nat.ble 22 j then (some (37, .invokevirtual 45, 23, 27, 2, 0)) else (some (36, .iload_n 1, 22, 1, 0, 0))) else (bif Nat.ble 20 j then (some (35, .aload_n 0, 21, 0, 0, 0)) else (some (34, .ireturn, 20, 0, 0, 0)))))) else (bif Nat.ble 9 j then (bif Nat.ble 14 j then (bif Nat.ble 16 j then (bif Nat.ble 17 j then (bif Nat.ble 18 j then (some (33, .iload_n 1, 19, 1, 0, 0)) else (some (30, .if_icmp .ne 5, 18, 20, 0, 0))) else (some (29, .iconst (-1), 17, 0, 0, (-1)))) else (bif Nat.ble 15 j then (some (26, .getfield 29, 16, 3, 4, 0)) else (some (25, .aload_n 0, 15, 0, 0, 0)))) else (bif Nat.ble 11 j then (bif Nat.ble 12 j then (bif Nat.ble 13 j then (some (22, .invokevirtual 42, 14, 24, 1, 0)) else (some (21, .aload_n 0, 13, 0, 0, 0))) else (some (18, .if_icmp .gt 48, 12, 36, 0, 0))) else (bif Nat.ble 10 j then (some (16, .bipush 120, 11, 0, 0, 120)) else (some (15, .iload_n 1, 10, 1, 0, 0))))) else (bif Nat.ble 4 j then (bif Nat.ble 6 j then (bif Nat.ble 7 j then (bif Nat.ble 8 j then (some (14, .istore_n 1, 9, 1, 0, 0)) else (some (13, .iconst 0, 8, 0, 0, 0))) else (some (10, .invokevirtual 38, 7, 11, 2, 0))) else (bif Nat.ble 5 j then (some (9, .iconst 3, 6, 0, 0, 3)) else (some (6, .getfield 18, 5, 3, 1, 0)))) else (bif Nat.ble 2 j then (bif Nat.ble 3 j then (some (5, .aload_n 0, 4, 0, 0, 0)) else (some (2, .putfield 26, 3, 3, 3, 0))) else (bif Nat.ble 1 j then (some (1, .iconst 0, 2, 0, 0, 0)) else (some (0, .aload_n 0, 1, 0, 0, 0)))))))
/-- MotionDesk$Text.take()V -/
def mr_Te_take (j : Nat) : Option mx_Row := bif Nat.ble 59 j then none else (bif Nat.ble 29 j then (bif Nat.ble 44 j then (bif Nat.ble 51 j then (bif Nat.ble 55 j then (bif Nat.ble 57 j then (bif Nat.ble 58 j then (some (116, .return_, 59, 0, 0, 0)) else (some (113, .putfield 26, 58, 3, 3, 0))) else (bif Nat.ble 56 j then (some (112, .iadd, 57, 0, 0, 0)) else (some (111, .iconst 1, 56, 0, 0, 1)))) else (bif Nat.ble 53 j then (bif Nat.ble 54 j then (some (108, .getfield 26, 55, 3, 3, 0)) else (some (107, .dup, 54, 0, 0, 0))) else (bif Nat.ble 52 j then (some (106, .aload_n 0, 53, 0, 0, 0)) else (some (103, .putfield 29, 52, 3, 4, 0))))) else (bif Nat.ble 47 j then (bif Nat.ble 49 j then (bif Nat.ble 50 j then (some (102, .iaload, 51, 0, 0, 0)) else (some (99, .getfield 26, 50, 3, 3, 0))) else (bif Nat.ble 48 j then (some (98, .aload_n 0, 49, 0, 0, 0)) else (some (95, .getfield 9, 48, 3, 0, 0)))) else (bif Nat.ble 45 j then (bif Nat.ble 46 j then (some (94, .aload_n 0, 47, 0, 0, 0)) else (some (93, .aload_n 0, 46, 0, 0, 0))) else (some (90, .goto 26, 58, 0, 0, 0))))) else (bif Nat.ble 36 j then (bif Nat.ble 40 j then (bif Nat.ble 42 j then (bif Nat.ble 43 j then (some (87, .invokevirtual 85, 44, 26, 1, 0)) else (some (86, .aload_n 0, 43, 0, 0, 0))) else (bif Nat.ble 41 j then (some (83, .putfield 29, 42, 3, 4, 0)) else (some (81, .bipush 48, 41, 0, 0, 48)))) else (bif Nat.ble 38 j then (bif Nat.ble 39 j then (some (80, .aload_n 0, 40, 0, 0, 0)) else (some (77, .ifCond .eq 16, 39, 45, 0, 0))) else (bif Nat.ble 37 j then (some (74, .invokestatic 82, 38, 25, 1, 0)) else (some (73, .iaload, 37, 0, 0, 0))))) else (bif Nat.ble 32 j then (bif Nat.ble 34 j then (bif Nat.ble 35 j then (some (70, .getfield 26, 36, 3, 3, 0)) else (some (69, .aload_n 0, 35, 0, 0, 0))) else (bif Nat.ble 33 j then (some (66, .getfield 9, 34, 3, 0, 0)) else (some (65, .aload_n 0, 33, 0, 0, 0)))) else (bif Nat.ble 30 j then (bif Nat.ble 31 j then (some (62, .goto 54, 58, 0, 0, 0)) else (some (59, .putfield 29, 31, 3, 4, 0))) else (some (58, .iconst (-1), 30, 0, 0, (-1))))))) else (bif Nat.ble 14 j then (bif Nat.ble 21 j then (bif Nat.ble 25 j then (bif Nat.ble 27 j then (bif Nat.ble 28 j then (some (57, .aload_n 0, 29, 0, 0, 0)) else (some (54, .if_icmp .lt 11, 28, 32, 0, 0))) else (bif Nat.ble 26 j then (some (51, .getfield 22, 27, 3, 2, 0)) else (some (50, .aload_n 0, 26, 0, 0, 0)))) else (bif Nat.ble 23 j then (bif Nat.ble 24 j then (some (47, .getfield 26, 25, 3, 3, 0)) else (some (46, .aload_n 0, 24, 0, 0, 0))) else (bif Nat.ble 22 j then (some (43, .putfield 32, 23, 3, 5, 0)) else (some (40, .getfield 26, 22, 3, 3, 0))))) else (bif Nat.ble 17 j then (bif Nat.ble 19 j then (bif Nat.ble 20 j then (some (39, .aload_n 0, 21, 0, 0, 0)) else (some (38, .aload_n 0, 20, 0, 0, 0))) else (bif Nat.ble 18 j then (some (35, .goto (-35), 0, 0, 0, 0)) else (some (32, .putfield 26, 18, 3, 3, 0)))) else (bif Nat.ble 15 j then (bif Nat.ble 16 j then (some (31, .iadd, 17, 0, 0, 0)) else (some (30, .iconst 1, 16, 0, 0, 1))) else (some (27, .getfield 26, 15, 3, 3, 0))))) else (bif Nat.ble 7 j then (bif Nat.ble 10 j then (bif Nat.ble 12 j then (bif Nat.ble 13 j then (some (26, .dup, 14, 0, 0, 0)) else (some (25, .aload_n 0, 13, 0, 0, 0))) else (bif Nat.ble 11 j then (some (22, .if_icmp .ne 16, 12, 19, 0, 0)) else (some (20, .bipush 32, 11, 0, 0, 32)))) else (bif Nat.ble 8 j then (bif Nat.ble 9 j then (some (19, .iaload, 10, 0, 0, 0)) else (some (16, .getfield 26, 9, 3, 3, 0))) else (some (15, .aload_n 0, 8, 0, 0, 0)))) else (bif Nat.ble 3 j then (bif Nat.ble 5 j then (bif Nat.ble 6 j then (some (12, .getfield 9, 7, 3, 0, 0)) else (some (11, .aload_n 0, 6, 0, 0, 0))) else (bif Nat.ble 4 j then (some (8, .if_icmp .ge 30, 5, 19, 0, 0)) else (some (5, .getfield 22, 4, 3, 2, 0)))) else (bif Nat.ble 1 j then (bif Nat.ble 2 j then (some (4, .aload_n 0, 3, 0, 0, 0)) else (some (1, .getfield 26, 2, 3, 3, 0))) else (some (0, .aload_n 0, 1, 0, 0, 0)))))))
/-- MotionDesk$Text.isDigit(I)Z -/
def mr_Te_isDigit (j : Nat) : Option mx_Row := bif Nat.ble 10 j then none else (bif Nat.ble 5 j then (bif Nat.ble 7 j then (bif Nat.ble 8 j then (bif Nat.ble 9 j then (some (17, .ireturn, 10, 0, 0, 0)) else (some (16, .iconst 0, 9, 0, 0, 0))) else (some (13, .goto 4, 9, 0, 0, 0))) else (bif Nat.ble 6 j then (some (12, .iconst 1, 7, 0, 0, 1)) else (some (9, .if_icmp .gt 7, 6, 8, 0, 0)))) else (bif Nat.ble 2 j then (bif Nat.ble 3 j then (bif Nat.ble 4 j then (some (7, .bipush 57, 5, 0, 0, 57)) else (some (6, .iload_n 0, 4, 0, 0, 0))) else (some (3, .if_icmp .lt 13, 3, 8, 0, 0))) else (bif Nat.ble 1 j then (some (1, .bipush 48, 2, 0, 0, 48)) else (some (0, .iload_n 0, 1, 0, 0, 0)))))
/-- MotionDesk$Text.takeNumber()V -/
def mr_Te_takeNumber (j : Nat) : Option mx_Row := bif Nat.ble 60 j then none else (bif Nat.ble 30 j then (bif Nat.ble 45 j then (bif Nat.ble 52 j then (bif Nat.ble 56 j then (bif Nat.ble 58 j then (bif Nat.ble 59 j then (some (113, .return_, 60, 0, 0, 0)) else (some (110, .putfield 35, 59, 3, 6, 0))) else (bif Nat.ble 57 j then (some (108, .bipush 100, 58, 0, 0, 100)) else (some (107, .aload_n 0, 57, 0, 0, 0)))) else (bif Nat.ble 54 j then (bif Nat.ble 55 j then (some (104, .ifCond .eq 9, 56, 59, 0, 0)) else (some (103, .iload_n 1, 55, 1, 0, 0))) else (bif Nat.ble 53 j then (some (100, .goto (-93), 5, 0, 0, 0)) else (some (97, .putfield 26, 53, 3, 3, 0))))) else (bif Nat.ble 48 j then (bif Nat.ble 50 j then (bif Nat.ble 51 j then (some (96, .iadd, 52, 0, 0, 0)) else (some (95, .iconst 1, 51, 0, 0, 1))) else (bif Nat.ble 49 j then (some (92, .getfield 26, 50, 3, 3, 0)) else (some (91, .dup, 49, 0, 0, 0)))) else (bif Nat.ble 46 j then (bif Nat.ble 47 j then (some (90, .aload_n 0, 48, 0, 0, 0)) else (some (87, .putfield 35, 47, 3, 6, 0))) else (some (84, .invokestatic 88, 46, 0, 97, 0))))) else (bif Nat.ble 37 j then (bif Nat.ble 41 j then (bif Nat.ble 43 j then (bif Nat.ble 44 j then (some (82, .bipush 100, 45, 0, 0, 100)) else (some (81, .isub, 44, 0, 0, 0))) else (bif Nat.ble 42 j then (some (79, .bipush 48, 43, 0, 0, 48)) else (some (78, .iadd, 42, 0, 0, 0)))) else (bif Nat.ble 39 j then (bif Nat.ble 40 j then (some (77, .iaload, 41, 0, 0, 0)) else (some (74, .getfield 26, 40, 3, 3, 0))) else (bif Nat.ble 38 j then (some (73, .aload_n 0, 39, 0, 0, 0)) else (some (70, .getfield 9, 38, 3, 0, 0))))) else (bif Nat.ble 33 j then (bif Nat.ble 35 j then (bif Nat.ble 36 j then (some (69, .aload_n 0, 37, 0, 0, 0)) else (some (68, .imul, 36, 0, 0, 0))) else (bif Nat.ble 34 j then (some (66, .bipush 10, 35, 0, 0, 10)) else (some (63, .getfield 35, 34, 3, 6, 0)))) else (bif Nat.ble 31 j then (bif Nat.ble 32 j then (some (62, .aload_n 0, 33, 0, 0, 0)) else (some (61, .aload_n 0, 32, 0, 0, 0))) else (some (60, .istore_n 1, 31, 1, 0, 0)))))) else (bif Nat.ble 15 j then (bif Nat.ble 22 j then (bif Nat.ble 26 j then (bif Nat.ble 28 j then (bif Nat.ble 29 j then (some (59, .iconst 0, 30, 0, 0, 0)) else (some (56, .goto 4, 30, 0, 0, 0))) else (bif Nat.ble 27 j then (some (55, .iconst 1, 28, 0, 0, 1)) else (some (52, .ifCond .ne 7, 27, 29, 0, 0)))) else (bif Nat.ble 24 j then (bif Nat.ble 25 j then (some (49, .getfield 35, 26, 3, 6, 0)) else (some (48, .aload_n 0, 25, 0, 0, 0))) else (bif Nat.ble 23 j then (some (45, .if_icmp .le 14, 24, 29, 0, 0)) else (some (42, .getfield 32, 23, 3, 5, 0))))) else (bif Nat.ble 18 j then (bif Nat.ble 20 j then (bif Nat.ble 21 j then (some (41, .aload_n 0, 22, 0, 0, 0)) else (some (38, .getfield 26, 21, 3, 3, 0))) else (bif Nat.ble 19 j then (some (37, .aload_n 0, 20, 0, 0, 0)) else (some (34, .ifCond .ne 21, 19, 27, 0, 0)))) else (bif Nat.ble 16 j then (bif Nat.ble 17 j then (some (33, .iload_n 1, 18, 1, 0, 0)) else (some (30, .ifCond .eq 73, 17, 54, 0, 0))) else (some (27, .invokestatic 82, 16, 25, 1, 0))))) else (bif Nat.ble 7 j then (bif Nat.ble 11 j then (bif Nat.ble 13 j then (bif Nat.ble 14 j then (some (26, .iaload, 15, 0, 0, 0)) else (some (23, .getfield 26, 14, 3, 3, 0))) else (bif Nat.ble 12 j then (some (22, .aload_n 0, 13, 0, 0, 0)) else (some (19, .getfield 9, 12, 3, 0, 0)))) else (bif Nat.ble 9 j then (bif Nat.ble 10 j then (some (18, .aload_n 0, 11, 0, 0, 0)) else (some (15, .if_icmp .ge 88, 10, 54, 0, 0))) else (bif Nat.ble 8 j then (some (12, .getfield 22, 9, 3, 2, 0)) else (some (11, .aload_n 0, 8, 0, 0, 0))))) else (bif Nat.ble 3 j then (bif Nat.ble 5 j then (bif Nat.ble 6 j then (some (8, .getfield 26, 7, 3, 3, 0)) else (some (7, .aload_n 0, 6, 0, 0, 0))) else (bif Nat.ble 4 j then (some (6, .istore_n 1, 5, 1, 0, 0)) else (some (5, .iconst 0, 4, 0, 0, 0)))) else (bif Nat.ble 1 j then (bif Nat.ble 2 j then (some (2, .putfield 35, 3, 3, 6, 0)) else (some (1, .iconst 0, 2, 0, 0, 0))) else (some (0, .aload_n 0, 1, 0, 0, 0)))))))
/-- MotionDesk$Text.readItem(I)Z -/
def mr_Te_readItem (j : Nat) : Option mx_Row := bif Nat.ble 37 j then none else (bif Nat.ble 18 j then (bif Nat.ble 27 j then (bif Nat.ble 32 j then (bif Nat.ble 34 j then (bif Nat.ble 35 j then (bif Nat.ble 36 j then (some (106, .ireturn, 37, 0, 0, 0)) else (some (105, .iconst 0, 36, 0, 0, 0))) else (some (104, .ireturn, 35, 0, 0, 0))) else (bif Nat.ble 33 j then (some (103, .iconst 0, 34, 0, 0, 0)) else (some (100, .goto 4, 34, 0, 0, 0)))) else (bif Nat.ble 29 j then (bif Nat.ble 30 j then (bif Nat.ble 31 j then (some (99, .iconst 1, 32, 0, 0, 1)) else (some (96, .ifCond .eq 7, 31, 33, 0, 0))) else (some (93, .invokevirtual 62, 30, 31, 1, 0))) else (bif Nat.ble 28 j then (some (92, .aload_n 0, 29, 0, 0, 0)) else (some (89, .ifCond .ne 14, 28, 33, 0, 0))))) else (bif Nat.ble 22 j then (bif Nat.ble 24 j then (bif Nat.ble 25 j then (bif Nat.ble 26 j then (some (86, .getfield 59, 27, 1, 4, 0)) else (some (83, .getfield 18, 26, 3, 1, 0))) else (some (82, .aload_n 0, 25, 0, 0, 0))) else (bif Nat.ble 23 j then (some (81, .ireturn, 24, 0, 0, 0)) else (some (80, .iconst 0, 23, 0, 0, 0)))) else (bif Nat.ble 20 j then (bif Nat.ble 21 j then (some (77, .goto 4, 23, 0, 0, 0)) else (some (76, .iconst 1, 21, 0, 0, 1))) else (bif Nat.ble 19 j then (some (73, .ifCond .eq 7, 20, 22, 0, 0)) else (some (70, .invokevirtual 56, 19, 29, 1, 0)))))) else (bif Nat.ble 9 j then (bif Nat.ble 13 j then (bif Nat.ble 15 j then (bif Nat.ble 16 j then (bif Nat.ble 17 j then (some (69, .aload_n 0, 18, 0, 0, 0)) else (some (66, .if_icmp .ge 14, 17, 22, 0, 0))) else (some (64, .bipush 9, 16, 0, 0, 9))) else (bif Nat.ble 14 j then (some (61, .getfield 53, 15, 1, 3, 0)) else (some (58, .getfield 18, 14, 3, 1, 0)))) else (bif Nat.ble 11 j then (bif Nat.ble 12 j then (some (57, .aload_n 0, 13, 0, 0, 0)) else (some (56, .ireturn, 12, 0, 0, 0))) else (bif Nat.ble 10 j then (some (55, .iconst 0, 11, 0, 0, 0)) else (some (52, .goto 4, 11, 0, 0, 0))))) else (bif Nat.ble 4 j then (bif Nat.ble 6 j then (bif Nat.ble 7 j then (bif Nat.ble 8 j then (some (51, .iconst 1, 9, 0, 0, 1)) else (some (48, .ifCond .eq 7, 8, 10, 0, 0))) else (some (45, .invokevirtual 49, 7, 28, 1, 0))) else (bif Nat.ble 5 j then (some (44, .aload_n 0, 6, 0, 0, 0)) else (some (41, .ifCond .ne 14, 5, 10, 0, 0)))) else (bif Nat.ble 2 j then (bif Nat.ble 3 j then (some (40, .iload_n 1, 4, 1, 0, 0)) else (some (4, .lookupswitch 101 #[(103, 78), (110, 36), (114, 53)], 3, 0, 0, 0))) else (bif Nat.ble 1 j then (some (1, .getfield 29, 2, 3, 4, 0)) else (some (0, .aload_n 0, 1, 0, 0, 0)))))))
/-- MotionDesk$Text.readMotions()Z -/
def mr_Te_readMotions (j : Nat) : Option mx_Row := bif Nat.ble 23 j then none else (bif Nat.ble 11 j then (bif Nat.ble 17 j then (bif Nat.ble 20 j then (bif Nat.ble 21 j then (bif Nat.ble 22 j then (some (44, .ireturn, 23, 0, 0, 0)) else (some (43, .iconst 1, 22, 0, 0, 1))) else (some (40, .putfield 65, 21, 1, 2, 0))) else (bif Nat.ble 18 j then (bif Nat.ble 19 j then (some (37, .getfield 35, 20, 3, 6, 0)) else (some (36, .aload_n 0, 19, 0, 0, 0))) else (some (33, .getfield 18, 18, 3, 1, 0)))) else (bif Nat.ble 14 j then (bif Nat.ble 15 j then (bif Nat.ble 16 j then (some (32, .aload_n 0, 17, 0, 0, 0)) else (some (31, .ireturn, 16, 0, 0, 0))) else (some (30, .iconst 0, 15, 0, 0, 0))) else (bif Nat.ble 12 j then (bif Nat.ble 13 j then (some (27, .if_icmp .le 5, 14, 16, 0, 0)) else (some (25, .bipush 6, 13, 0, 0, 6))) else (some (22, .getfield 35, 12, 3, 6, 0))))) else (bif Nat.ble 5 j then (bif Nat.ble 8 j then (bif Nat.ble 9 j then (bif Nat.ble 10 j then (some (21, .aload_n 0, 11, 0, 0, 0)) else (some (18, .if_icmp .lt 12, 10, 14, 0, 0))) else (some (17, .iconst 2, 9, 0, 0, 2))) else (bif Nat.ble 6 j then (bif Nat.ble 7 j then (some (14, .getfield 35, 8, 3, 6, 0)) else (some (13, .aload_n 0, 7, 0, 0, 0))) else (some (10, .if_icmp .ne 20, 6, 14, 0, 0)))) else (bif Nat.ble 2 j then (bif Nat.ble 3 j then (bif Nat.ble 4 j then (some (8, .bipush 48, 5, 0, 0, 48)) else (some (5, .getfield 29, 4, 3, 4, 0))) else (some (4, .aload_n 0, 3, 0, 0, 0))) else (bif Nat.ble 1 j then (some (1, .invokevirtual 42, 2, 24, 1, 0)) else (some (0, .aload_n 0, 1, 0, 0, 0))))))
/-- MotionDesk$Text.readRanking()Z -/
def mr_Te_readRanking (j : Nat) : Option mx_Row := bif Nat.ble 55 j then none else (bif Nat.ble 27 j then (bif Nat.ble 41 j then (bif Nat.ble 48 j then (bif Nat.ble 51 j then (bif Nat.ble 53 j then (bif Nat.ble 54 j then (some (88, .ireturn, 55, 0, 0, 0)) else (some (87, .iconst 1, 54, 0, 0, 1))) else (bif Nat.ble 52 j then (some (84, .putfield 53, 53, 1, 3, 0)) else (some (83, .iadd, 52, 0, 0, 0)))) else (bif Nat.ble 49 j then (bif Nat.ble 50 j then (some (82, .iconst 1, 51, 0, 0, 1)) else (some (79, .getfield 53, 50, 1, 3, 0))) else (some (78, .dup, 49, 0, 0, 0)))) else (bif Nat.ble 44 j then (bif Nat.ble 46 j then (bif Nat.ble 47 j then (some (75, .getfield 18, 48, 3, 1, 0)) else (some (74, .aload_n 0, 47, 0, 0, 0))) else (bif Nat.ble 45 j then (some (71, .goto (-67), 4, 0, 0, 0)) else (some (68, .iinc 2 1, 45, 2, 0, 1)))) else (bif Nat.ble 42 j then (bif Nat.ble 43 j then (some (67, .iastore, 44, 0, 0, 0)) else (some (66, .iload_n 3, 43, 3, 0, 0))) else (some (65, .iadd, 42, 0, 0, 0))))) else (bif Nat.ble 34 j then (bif Nat.ble 37 j then (bif Nat.ble 39 j then (bif Nat.ble 40 j then (some (64, .iload_n 2, 41, 2, 0, 0)) else (some (63, .imul, 40, 0, 0, 0))) else (bif Nat.ble 38 j then (some (61, .bipush 6, 39, 0, 0, 6)) else (some (58, .getfield 53, 38, 1, 3, 0)))) else (bif Nat.ble 35 j then (bif Nat.ble 36 j then (some (55, .getfield 18, 37, 3, 1, 0)) else (some (54, .aload_n 0, 36, 0, 0, 0))) else (some (51, .getfield 72, 35, 1, 0, 0)))) else (bif Nat.ble 30 j then (bif Nat.ble 32 j then (bif Nat.ble 33 j then (some (48, .getfield 18, 34, 3, 1, 0)) else (some (47, .aload_n 0, 33, 0, 0, 0))) else (bif Nat.ble 31 j then (some (46, .istore_n 1, 32, 1, 0, 0)) else (some (45, .ior, 31, 0, 0, 0)))) else (bif Nat.ble 28 j then (bif Nat.ble 29 j then (some (44, .ishl, 30, 0, 0, 0)) else (some (43, .iload_n 3, 29, 3, 0, 0))) else (some (42, .iconst 1, 28, 0, 0, 1)))))) else (bif Nat.ble 13 j then (bif Nat.ble 20 j then (bif Nat.ble 23 j then (bif Nat.ble 25 j then (bif Nat.ble 26 j then (some (41, .iload_n 1, 27, 1, 0, 0)) else (some (40, .ireturn, 26, 0, 0, 0))) else (bif Nat.ble 24 j then (some (39, .iconst 0, 25, 0, 0, 0)) else (some (36, .if_icmp .ne 5, 24, 26, 0, 0)))) else (bif Nat.ble 21 j then (bif Nat.ble 22 j then (some (35, .iconst 1, 23, 0, 0, 1)) else (some (34, .iand, 22, 0, 0, 0))) else (some (33, .iconst 1, 21, 0, 0, 1)))) else (bif Nat.ble 16 j then (bif Nat.ble 18 j then (bif Nat.ble 19 j then (some (32, .ishr, 20, 0, 0, 0)) else (some (31, .iload_n 3, 19, 3, 0, 0))) else (bif Nat.ble 17 j then (some (30, .iload_n 1, 18, 1, 0, 0)) else (some (27, .if_icmp .eq 12, 17, 24, 0, 0)))) else (bif Nat.ble 14 j then (bif Nat.ble 15 j then (some (25, .bipush (-9), 16, 0, 0, (-9))) else (some (24, .iload_n 3, 15, 3, 0, 0))) else (some (23, .istore_n 3, 14, 3, 0, 0))))) else (bif Nat.ble 6 j then (bif Nat.ble 9 j then (bif Nat.ble 11 j then (bif Nat.ble 12 j then (some (20, .invokevirtual 68, 13, 30, 1, 0)) else (some (19, .aload_n 0, 12, 0, 0, 0))) else (bif Nat.ble 10 j then (some (16, .invokevirtual 42, 11, 24, 1, 0)) else (some (15, .aload_n 0, 10, 0, 0, 0)))) else (bif Nat.ble 7 j then (bif Nat.ble 8 j then (some (12, .if_icmp .ge 62, 9, 46, 0, 0)) else (some (9, .getfield 65, 8, 1, 2, 0))) else (some (6, .getfield 18, 7, 3, 1, 0)))) else (bif Nat.ble 3 j then (bif Nat.ble 4 j then (bif Nat.ble 5 j then (some (5, .aload_n 0, 6, 0, 0, 0)) else (some (4, .iload_n 2, 5, 2, 0, 0))) else (some (3, .istore_n 2, 4, 2, 0, 0))) else (bif Nat.ble 1 j then (bif Nat.ble 2 j then (some (2, .iconst 0, 3, 0, 0, 0)) else (some (1, .istore_n 1, 2, 1, 0, 0))) else (some (0, .iconst 0, 1, 0, 0, 0)))))))
/-- MotionDesk$Text.motionOfSign()I -/
def mr_Te_motionOfSign (j : Nat) : Option mx_Row := bif Nat.ble 16 j then none else (bif Nat.ble 8 j then (bif Nat.ble 12 j then (bif Nat.ble 14 j then (bif Nat.ble 15 j then (some (32, .ireturn, 16, 0, 0, 0)) else (some (30, .bipush (-9), 15, 0, 0, (-9)))) else (bif Nat.ble 13 j then (some (27, .goto 5, 15, 0, 0, 0)) else (some (26, .isub, 13, 0, 0, 0)))) else (bif Nat.ble 10 j then (bif Nat.ble 11 j then (some (24, .bipush 97, 12, 0, 0, 97)) else (some (21, .getfield 29, 11, 3, 4, 0))) else (bif Nat.ble 9 j then (some (20, .aload_n 0, 10, 0, 0, 0)) else (some (17, .ifCond .eq 13, 9, 14, 0, 0))))) else (bif Nat.ble 4 j then (bif Nat.ble 6 j then (bif Nat.ble 7 j then (some (14, .invokestatic 78, 8, 43, 2, 0)) else (some (11, .getfield 65, 7, 1, 2, 0))) else (bif Nat.ble 5 j then (some (8, .getfield 18, 6, 3, 1, 0)) else (some (7, .aload_n 0, 5, 0, 0, 0)))) else (bif Nat.ble 2 j then (bif Nat.ble 3 j then (some (6, .isub, 4, 0, 0, 0)) else (some (4, .bipush 97, 3, 0, 0, 97))) else (bif Nat.ble 1 j then (some (1, .getfield 29, 2, 3, 4, 0)) else (some (0, .aload_n 0, 1, 0, 0, 0))))))
/-- MotionDesk$Text.readBranch()Z -/
def mr_Te_readBranch (j : Nat) : Option mx_Row := bif Nat.ble 49 j then none else (bif Nat.ble 24 j then (bif Nat.ble 36 j then (bif Nat.ble 42 j then (bif Nat.ble 45 j then (bif Nat.ble 47 j then (bif Nat.ble 48 j then (some (92, .ireturn, 49, 0, 0, 0)) else (some (91, .iconst 0, 48, 0, 0, 0))) else (bif Nat.ble 46 j then (some (88, .goto 4, 48, 0, 0, 0)) else (some (87, .iconst 1, 46, 0, 0, 1)))) else (bif Nat.ble 43 j then (bif Nat.ble 44 j then (some (84, .if_icmp .ne 7, 45, 47, 0, 0)) else (some (82, .bipush 41, 44, 0, 0, 41))) else (some (79, .getfield 29, 43, 3, 4, 0)))) else (bif Nat.ble 39 j then (bif Nat.ble 40 j then (bif Nat.ble 41 j then (some (78, .aload_n 0, 42, 0, 0, 0)) else (some (75, .invokevirtual 42, 41, 24, 1, 0))) else (some (74, .aload_n 0, 40, 0, 0, 0))) else (bif Nat.ble 37 j then (bif Nat.ble 38 j then (some (73, .ireturn, 39, 0, 0, 0)) else (some (72, .iconst 0, 38, 0, 0, 0))) else (some (69, .ifCond .ne 5, 37, 39, 0, 0))))) else (bif Nat.ble 30 j then (bif Nat.ble 33 j then (bif Nat.ble 34 j then (bif Nat.ble 35 j then (some (66, .invokevirtual 62, 36, 31, 1, 0)) else (some (65, .aload_n 0, 35, 0, 0, 0))) else (some (62, .ifCond .eq 10, 34, 37, 0, 0))) else (bif Nat.ble 31 j then (bif Nat.ble 32 j then (some (59, .invokevirtual 62, 33, 31, 1, 0)) else (some (58, .aload_n 0, 32, 0, 0, 0))) else (some (55, .invokevirtual 75, 31, 14, 2, 0)))) else (bif Nat.ble 27 j then (bif Nat.ble 28 j then (bif Nat.ble 29 j then (some (54, .iconst (-1), 30, 0, 0, (-1))) else (some (51, .getfield 18, 29, 3, 1, 0))) else (some (50, .aload_n 0, 28, 0, 0, 0))) else (bif Nat.ble 25 j then (bif Nat.ble 26 j then (some (49, .ireturn, 27, 0, 0, 0)) else (some (48, .iconst 0, 26, 0, 0, 0))) else (some (45, .if_icmp .eq 5, 25, 27, 0, 0)))))) else (bif Nat.ble 12 j then (bif Nat.ble 18 j then (bif Nat.ble 21 j then (bif Nat.ble 22 j then (bif Nat.ble 23 j then (some (43, .bipush 40, 24, 0, 0, 40)) else (some (40, .getfield 29, 23, 3, 4, 0))) else (some (39, .aload_n 0, 22, 0, 0, 0))) else (bif Nat.ble 19 j then (bif Nat.ble 20 j then (some (38, .ireturn, 21, 0, 0, 0)) else (some (37, .iconst 1, 20, 0, 0, 1))) else (some (34, .invokevirtual 75, 19, 14, 2, 0)))) else (bif Nat.ble 15 j then (bif Nat.ble 16 j then (bif Nat.ble 17 j then (some (33, .iload_n 1, 18, 1, 0, 0)) else (some (30, .getfield 18, 17, 3, 1, 0))) else (some (29, .aload_n 0, 16, 0, 0, 0))) else (bif Nat.ble 13 j then (bif Nat.ble 14 j then (some (26, .if_icmp .eq 13, 15, 21, 0, 0)) else (some (24, .bipush (-9), 14, 0, 0, (-9)))) else (some (23, .iload_n 1, 13, 1, 0, 0))))) else (bif Nat.ble 6 j then (bif Nat.ble 9 j then (bif Nat.ble 10 j then (bif Nat.ble 11 j then (some (22, .istore_n 1, 12, 1, 0, 0)) else (some (19, .invokevirtual 68, 11, 30, 1, 0))) else (some (18, .aload_n 0, 10, 0, 0, 0))) else (bif Nat.ble 7 j then (bif Nat.ble 8 j then (some (17, .ireturn, 9, 0, 0, 0)) else (some (16, .iconst 0, 8, 0, 0, 0))) else (some (13, .if_icmp .lt 5, 7, 9, 0, 0)))) else (bif Nat.ble 3 j then (bif Nat.ble 4 j then (bif Nat.ble 5 j then (some (11, .bipush 31, 6, 0, 0, 31)) else (some (8, .getfield 59, 5, 1, 4, 0))) else (some (5, .getfield 18, 4, 3, 1, 0))) else (bif Nat.ble 1 j then (bif Nat.ble 2 j then (some (4, .aload_n 0, 3, 0, 0, 0)) else (some (1, .invokevirtual 42, 2, 24, 1, 0))) else (some (0, .aload_n 0, 1, 0, 0, 0)))))))
/-- MotionDesk$Tree.measure(LMotionDesk$Picture;)V -/
def mr_Tr_measure (j : Nat) : Option mx_Row := bif Nat.ble 80 j then none else (bif Nat.ble 40 j then (bif Nat.ble 60 j then (bif Nat.ble 70 j then (bif Nat.ble 75 j then (bif Nat.ble 77 j then (bif Nat.ble 78 j then (bif Nat.ble 79 j then (some (131, .return_, 80, 0, 0, 0)) else (some (128, .goto (-95), 19, 0, 0, 0))) else (some (125, .iinc 2 (-1), 78, 2, 0, (-1)))) else (bif Nat.ble 76 j then (some (124, .iastore, 77, 0, 0, 0)) else (some (123, .ishl, 76, 0, 0, 0)))) else (bif Nat.ble 72 j then (bif Nat.ble 73 j then (bif Nat.ble 74 j then (some (122, .iaload, 75, 0, 0, 0)) else (some (121, .iload_n 2, 74, 2, 0, 0))) else (some (118, .getfield 9, 73, 4, 0, 0))) else (bif Nat.ble 71 j then (some (117, .aload_n 0, 72, 0, 0, 0)) else (some (116, .iconst 1, 71, 0, 0, 1))))) else (bif Nat.ble 65 j then (bif Nat.ble 67 j then (bif Nat.ble 68 j then (bif Nat.ble 69 j then (some (115, .iload_n 2, 70, 2, 0, 0)) else (some (112, .getfield 18, 69, 4, 2, 0))) else (some (111, .aload_n 0, 68, 0, 0, 0))) else (bif Nat.ble 66 j then (some (110, .iastore, 67, 0, 0, 0)) else (some (109, .iconst 1, 66, 0, 0, 1)))) else (bif Nat.ble 62 j then (bif Nat.ble 63 j then (bif Nat.ble 64 j then (some (108, .iload_n 2, 65, 2, 0, 0)) else (some (105, .getfield 15, 64, 4, 1, 0))) else (some (104, .aload_n 0, 63, 0, 0, 0))) else (bif Nat.ble 61 j then (some (101, .goto 24, 77, 0, 0, 0)) else (some (100, .iastore, 61, 0, 0, 0)))))) else (bif Nat.ble 50 j then (bif Nat.ble 55 j then (bif Nat.ble 57 j then (bif Nat.ble 58 j then (bif Nat.ble 59 j then (some (99, .ior, 60, 0, 0, 0)) else (some (98, .iaload, 59, 0, 0, 0))) else (some (95, .invokevirtual 43, 58, 35, 2, 0))) else (bif Nat.ble 56 j then (some (94, .iload_n 2, 57, 2, 0, 0)) else (some (93, .aload_n 0, 56, 0, 0, 0)))) else (bif Nat.ble 52 j then (bif Nat.ble 53 j then (bif Nat.ble 54 j then (some (90, .getfield 18, 55, 4, 2, 0)) else (some (89, .aload_n 0, 54, 0, 0, 0))) else (some (88, .iaload, 53, 0, 0, 0))) else (bif Nat.ble 51 j then (some (85, .invokevirtual 39, 52, 34, 2, 0)) else (some (84, .iload_n 2, 51, 2, 0, 0))))) else (bif Nat.ble 45 j then (bif Nat.ble 47 j then (bif Nat.ble 48 j then (bif Nat.ble 49 j then (some (83, .aload_n 0, 50, 0, 0, 0)) else (some (80, .getfield 18, 49, 4, 2, 0))) else (some (79, .aload_n 0, 48, 0, 0, 0))) else (bif Nat.ble 46 j then (some (78, .iload_n 2, 47, 2, 0, 0)) else (some (75, .getfield 18, 46, 4, 2, 0)))) else (bif Nat.ble 42 j then (bif Nat.ble 43 j then (bif Nat.ble 44 j then (some (74, .aload_n 0, 45, 0, 0, 0)) else (some (73, .iastore, 44, 0, 0, 0))) else (some (72, .iadd, 43, 0, 0, 0))) else (bif Nat.ble 41 j then (some (71, .iaload, 42, 0, 0, 0)) else (some (68, .invokevirtual 43, 41, 35, 2, 0))))))) else (bif Nat.ble 20 j then (bif Nat.ble 30 j then (bif Nat.ble 35 j then (bif Nat.ble 37 j then (bif Nat.ble 38 j then (bif Nat.ble 39 j then (some (67, .iload_n 2, 40, 2, 0, 0)) else (some (66, .aload_n 0, 39, 0, 0, 0))) else (some (63, .getfield 15, 38, 4, 1, 0))) else (bif Nat.ble 36 j then (some (62, .aload_n 0, 37, 0, 0, 0)) else (some (61, .iadd, 36, 0, 0, 0)))) else (bif Nat.ble 32 j then (bif Nat.ble 33 j then (bif Nat.ble 34 j then (some (60, .iaload, 35, 0, 0, 0)) else (some (57, .invokevirtual 39, 34, 34, 2, 0))) else (some (56, .iload_n 2, 33, 2, 0, 0))) else (bif Nat.ble 31 j then (some (55, .aload_n 0, 32, 0, 0, 0)) else (some (52, .getfield 15, 31, 4, 1, 0))))) else (bif Nat.ble 25 j then (bif Nat.ble 27 j then (bif Nat.ble 28 j then (bif Nat.ble 29 j then (some (51, .aload_n 0, 30, 0, 0, 0)) else (some (50, .iconst 1, 29, 0, 0, 1))) else (some (49, .iload_n 2, 28, 2, 0, 0))) else (bif Nat.ble 26 j then (some (46, .getfield 15, 27, 4, 1, 0)) else (some (45, .aload_n 0, 26, 0, 0, 0)))) else (bif Nat.ble 22 j then (bif Nat.ble 23 j then (bif Nat.ble 24 j then (some (42, .ifCond .eq 62, 25, 62, 0, 0)) else (some (39, .invokevirtual 35, 24, 33, 2, 0))) else (some (38, .iload_n 2, 23, 2, 0, 0))) else (bif Nat.ble 21 j then (some (37, .aload_n 0, 22, 0, 0, 0)) else (some (34, .ifCond .lt 97, 21, 79, 0, 0)))))) else (bif Nat.ble 10 j then (bif Nat.ble 15 j then (bif Nat.ble 17 j then (bif Nat.ble 18 j then (bif Nat.ble 19 j then (some (33, .iload_n 2, 20, 2, 0, 0)) else (some (32, .istore_n 2, 19, 2, 0, 0))) else (some (31, .isub, 18, 0, 0, 0))) else (bif Nat.ble 16 j then (some (30, .iconst 1, 17, 0, 0, 1)) else (some (27, .getfield 21, 16, 4, 3, 0)))) else (bif Nat.ble 12 j then (bif Nat.ble 13 j then (bif Nat.ble 14 j then (some (26, .aload_n 0, 15, 0, 0, 0)) else (some (23, .putfield 21, 14, 4, 3, 0))) else (some (20, .getfield 34, 13, 1, 4, 0))) else (bif Nat.ble 11 j then (some (19, .aload_n 1, 12, 1, 0, 0)) else (some (18, .aload_n 0, 11, 0, 0, 0))))) else (bif Nat.ble 5 j then (bif Nat.ble 7 j then (bif Nat.ble 8 j then (bif Nat.ble 9 j then (some (15, .invokestatic 28, 10, 0, 99, 0)) else (some (14, .arraylength, 9, 0, 0, 0))) else (some (11, .getfield 9, 8, 4, 0, 0))) else (bif Nat.ble 6 j then (some (10, .aload_n 0, 7, 0, 0, 0)) else (some (9, .iconst 0, 6, 0, 0, 0)))) else (bif Nat.ble 2 j then (bif Nat.ble 3 j then (bif Nat.ble 4 j then (some (6, .getfield 9, 5, 4, 0, 0)) else (some (5, .aload_n 0, 4, 0, 0, 0))) else (some (4, .iconst 0, 3, 0, 0, 0))) else (bif Nat.ble 1 j then (some (1, .getfield 25, 2, 1, 1, 0)) else (some (0, .aload_n 1, 1, 1, 0, 0))))))))
/-- MotionDesk$Tree.isVote(I)Z -/
def mr_Tr_isVote (j : Nat) : Option mx_Row := bif Nat.ble 10 j then none else (bif Nat.ble 5 j then (bif Nat.ble 7 j then (bif Nat.ble 8 j then (bif Nat.ble 9 j then (some (15, .ireturn, 10, 0, 0, 0)) else (some (14, .iconst 0, 9, 0, 0, 0))) else (some (11, .goto 4, 9, 0, 0, 0))) else (bif Nat.ble 6 j then (some (10, .iconst 1, 7, 0, 0, 1)) else (some (7, .if_icmp .ne 7, 6, 8, 0, 0)))) else (bif Nat.ble 2 j then (bif Nat.ble 3 j then (bif Nat.ble 4 j then (some (6, .iconst (-1), 5, 0, 0, (-1))) else (some (5, .iaload, 4, 0, 0, 0))) else (some (4, .iload_n 1, 3, 1, 0, 0))) else (bif Nat.ble 1 j then (some (1, .getfield 9, 2, 4, 0, 0)) else (some (0, .aload_n 0, 1, 0, 0, 0)))))
/-- MotionDesk$Tree.first(I)I -/
def mr_Tr_first (j : Nat) : Option mx_Row := bif Nat.ble 4 j then none else (bif Nat.ble 2 j then (bif Nat.ble 3 j then (some (3, .ireturn, 4, 0, 0, 0)) else (some (2, .iadd, 3, 0, 0, 0))) else (bif Nat.ble 1 j then (some (1, .iconst 1, 2, 0, 0, 1)) else (some (0, .iload_n 1, 1, 1, 0, 0))))
/-- MotionDesk$Tree.second(I)I -/
def mr_Tr_second (j : Nat) : Option mx_Row := bif Nat.ble 11 j then none else (bif Nat.ble 5 j then (bif Nat.ble 8 j then (bif Nat.ble 9 j then (bif Nat.ble 10 j then (some (12, .ireturn, 11, 0, 0, 0)) else (some (11, .iadd, 10, 0, 0, 0))) else (some (10, .iaload, 9, 0, 0, 0))) else (bif Nat.ble 6 j then (bif Nat.ble 7 j then (some (9, .iadd, 8, 0, 0, 0)) else (some (8, .iconst 1, 7, 0, 0, 1))) else (some (7, .iload_n 1, 6, 1, 0, 0)))) else (bif Nat.ble 2 j then (bif Nat.ble 3 j then (bif Nat.ble 4 j then (some (4, .getfield 15, 5, 4, 1, 0)) else (some (3, .aload_n 0, 4, 0, 0, 0))) else (some (2, .iadd, 3, 0, 0, 0))) else (bif Nat.ble 1 j then (some (1, .iconst 1, 2, 0, 0, 1)) else (some (0, .iload_n 1, 1, 1, 0, 0)))))
/-- MotionDesk$Tree.votesFirst(I[III)Z -/
def mr_Tr_votesFirst (j : Nat) : Option mx_Row := bif Nat.ble 17 j then none else (bif Nat.ble 8 j then (bif Nat.ble 12 j then (bif Nat.ble 14 j then (bif Nat.ble 15 j then (bif Nat.ble 16 j then (some (27, .ireturn, 17, 0, 0, 0)) else (some (24, .invokestatic 46, 16, 39, 5, 0))) else (some (23, .iaload, 15, 0, 0, 0))) else (bif Nat.ble 13 j then (some (20, .invokevirtual 43, 14, 35, 2, 0)) else (some (19, .iload_n 1, 13, 1, 0, 0)))) else (bif Nat.ble 10 j then (bif Nat.ble 11 j then (some (18, .aload_n 0, 12, 0, 0, 0)) else (some (15, .getfield 18, 11, 4, 2, 0))) else (bif Nat.ble 9 j then (some (14, .aload_n 0, 10, 0, 0, 0)) else (some (13, .iaload, 9, 0, 0, 0))))) else (bif Nat.ble 4 j then (bif Nat.ble 6 j then (bif Nat.ble 7 j then (some (10, .invokevirtual 39, 8, 34, 2, 0)) else (some (9, .iload_n 1, 7, 1, 0, 0))) else (bif Nat.ble 5 j then (some (8, .aload_n 0, 6, 0, 0, 0)) else (some (5, .getfield 18, 5, 4, 2, 0)))) else (bif Nat.ble 2 j then (bif Nat.ble 3 j then (some (4, .aload_n 0, 4, 0, 0, 0)) else (some (2, .iload 4, 3, 4, 0, 0))) else (bif Nat.ble 1 j then (some (1, .iload_n 3, 2, 3, 0, 0)) else (some (0, .aload_n 2, 1, 2, 0, 0))))))
/-- MotionDesk.layOrder(II[I)V -/
def mr_De_layOrder (j : Nat) : Option mx_Row := bif Nat.ble 53 j then none else (bif Nat.ble 26 j then (bif Nat.ble 39 j then (bif Nat.ble 46 j then (bif Nat.ble 49 j then (bif Nat.ble 51 j then (bif Nat.ble 52 j then (some (90, .return_, 53, 0, 0, 0)) else (some (87, .goto (-79), 6, 0, 0, 0))) else (bif Nat.ble 50 j then (some (84, .iinc 5 1, 51, 5, 0, 1)) else (some (81, .goto (-52), 19, 0, 0, 0)))) else (bif Nat.ble 47 j then (bif Nat.ble 48 j then (some (78, .iinc 7 1, 49, 7, 0, 1)) else (some (77, .istore_n 3, 48, 3, 0, 0))) else (some (76, .isub, 47, 0, 0, 0)))) else (bif Nat.ble 42 j then (bif Nat.ble 44 j then (bif Nat.ble 45 j then (some (74, .iload 6, 46, 6, 0, 0)) else (some (73, .iload_n 3, 45, 3, 0, 0))) else (bif Nat.ble 43 j then (some (70, .goto 14, 50, 0, 0, 0)) else (some (68, .istore 4, 43, 4, 0, 0)))) else (bif Nat.ble 40 j then (bif Nat.ble 41 j then (some (67, .ior, 42, 0, 0, 0)) else (some (66, .ishl, 41, 0, 0, 0))) else (some (64, .iload 7, 40, 7, 0, 0))))) else (bif Nat.ble 32 j then (bif Nat.ble 35 j then (bif Nat.ble 37 j then (bif Nat.ble 38 j then (some (63, .iconst 1, 39, 0, 0, 1)) else (some (61, .iload 4, 38, 4, 0, 0))) else (bif Nat.ble 36 j then (some (60, .iastore, 37, 0, 0, 0)) else (some (58, .iload 7, 36, 7, 0, 0)))) else (bif Nat.ble 33 j then (bif Nat.ble 34 j then (some (56, .iload 5, 35, 5, 0, 0)) else (some (55, .aload_n 2, 34, 2, 0, 0))) else (some (52, .if_icmp .ge 21, 33, 44, 0, 0)))) else (bif Nat.ble 29 j then (bif Nat.ble 30 j then (bif Nat.ble 31 j then (some (50, .iload 6, 32, 6, 0, 0)) else (some (49, .iload_n 3, 31, 3, 0, 0))) else (some (46, .goto 32, 48, 0, 0, 0))) else (bif Nat.ble 27 j then (bif Nat.ble 28 j then (some (43, .if_icmp .ne 6, 29, 30, 0, 0)) else (some (42, .iconst 1, 28, 0, 0, 1))) else (some (41, .iand, 27, 0, 0, 0)))))) else (bif Nat.ble 13 j then (bif Nat.ble 19 j then (bif Nat.ble 22 j then (bif Nat.ble 24 j then (bif Nat.ble 25 j then (some (40, .iconst 1, 26, 0, 0, 1)) else (some (39, .ishr, 25, 0, 0, 0))) else (bif Nat.ble 23 j then (some (37, .iload 7, 24, 7, 0, 0)) else (some (35, .iload 4, 23, 4, 0, 0)))) else (bif Nat.ble 20 j then (bif Nat.ble 21 j then (some (32, .if_icmp .ge 52, 22, 50, 0, 0)) else (some (31, .iload_n 1, 21, 1, 0, 0))) else (some (29, .iload 7, 20, 7, 0, 0)))) else (bif Nat.ble 16 j then (bif Nat.ble 17 j then (bif Nat.ble 18 j then (some (27, .istore 7, 19, 7, 0, 0)) else (some (26, .iconst 0, 18, 0, 0, 0))) else (some (24, .istore 6, 17, 6, 0, 0))) else (bif Nat.ble 14 j then (bif Nat.ble 15 j then (some (23, .iaload, 16, 0, 0, 0)) else (some (22, .isub, 15, 0, 0, 0))) else (some (20, .iload 5, 14, 5, 0, 0))))) else (bif Nat.ble 6 j then (bif Nat.ble 9 j then (bif Nat.ble 11 j then (bif Nat.ble 12 j then (some (19, .isub, 13, 0, 0, 0)) else (some (18, .iconst 1, 12, 0, 0, 1))) else (bif Nat.ble 10 j then (some (17, .iload_n 1, 11, 1, 0, 0)) else (some (14, .getstatic 266, 10, 0, 0, 0)))) else (bif Nat.ble 7 j then (bif Nat.ble 8 j then (some (11, .if_icmp .ge 79, 9, 52, 0, 0)) else (some (10, .iload_n 1, 8, 1, 0, 0))) else (some (8, .iload 5, 7, 5, 0, 0)))) else (bif Nat.ble 3 j then (bif Nat.ble 4 j then (bif Nat.ble 5 j then (some (6, .istore 5, 6, 5, 0, 0)) else (some (5, .iconst 0, 5, 0, 0, 0))) else (some (3, .istore 4, 4, 4, 0, 0))) else (bif Nat.ble 1 j then (bif Nat.ble 2 j then (some (2, .iconst 0, 3, 0, 0, 0)) else (some (1, .istore_n 3, 2, 3, 0, 0))) else (some (0, .iload_n 0, 1, 0, 0, 0)))))))
/-- MotionDesk.settle()V -/
def mr_De_settle (j : Nat) : Option mx_Row := bif Nat.ble 13 j then none else (bif Nat.ble 6 j then (bif Nat.ble 9 j then (bif Nat.ble 11 j then (bif Nat.ble 12 j then (some (26, .return_, 13, 0, 0, 0)) else (some (23, .invokevirtual 272, 12, 0, 3, 0))) else (bif Nat.ble 10 j then (some (20, .getfield 19, 11, 5, 1, 0)) else (some (19, .aload_n 0, 10, 0, 0, 0)))) else (bif Nat.ble 7 j then (bif Nat.ble 8 j then (some (16, .getfield 26, 9, 5, 2, 0)) else (some (15, .aload_n 0, 8, 0, 0, 0))) else (some (12, .getfield 33, 7, 5, 3, 0)))) else (bif Nat.ble 3 j then (bif Nat.ble 4 j then (bif Nat.ble 5 j then (some (11, .aload_n 0, 6, 0, 0, 0)) else (some (8, .invokevirtual 269, 5, 32, 2, 0))) else (some (5, .getfield 19, 4, 5, 1, 0))) else (bif Nat.ble 1 j then (bif Nat.ble 2 j then (some (4, .aload_n 0, 3, 0, 0, 0)) else (some (1, .getfield 26, 2, 5, 2, 0))) else (some (0, .aload_n 0, 1, 0, 0, 0)))))
/-- MotionDesk.likesFirst([IIIII)Z -/
def mr_De_likesFirst (j : Nat) : Option mx_Row := bif Nat.ble 37 j then none else (bif Nat.ble 18 j then (bif Nat.ble 27 j then (bif Nat.ble 32 j then (bif Nat.ble 34 j then (bif Nat.ble 35 j then (bif Nat.ble 36 j then (some (57, .ireturn, 37, 0, 0, 0)) else (some (56, .iconst 1, 36, 0, 0, 1))) else (some (53, .goto (-44), 6, 0, 0, 0))) else (bif Nat.ble 33 j then (some (50, .iinc 6 1, 34, 6, 0, 1)) else (some (49, .ireturn, 33, 0, 0, 0)))) else (bif Nat.ble 29 j then (bif Nat.ble 30 j then (bif Nat.ble 31 j then (some (48, .iconst 0, 32, 0, 0, 0)) else (some (45, .goto 4, 32, 0, 0, 0))) else (some (44, .iconst 1, 30, 0, 0, 1))) else (bif Nat.ble 28 j then (some (41, .if_icmp .ne 7, 29, 31, 0, 0)) else (some (40, .iconst 1, 28, 0, 0, 1))))) else (bif Nat.ble 22 j then (bif Nat.ble 24 j then (bif Nat.ble 25 j then (bif Nat.ble 26 j then (some (39, .iand, 27, 0, 0, 0)) else (some (38, .iconst 1, 26, 0, 0, 1))) else (some (37, .ishr, 25, 0, 0, 0))) else (bif Nat.ble 23 j then (some (35, .iload 7, 24, 7, 0, 0)) else (some (34, .iload_n 3, 23, 3, 0, 0)))) else (bif Nat.ble 20 j then (bif Nat.ble 21 j then (some (31, .if_icmp .ne 19, 22, 33, 0, 0)) else (some (30, .iconst 1, 21, 0, 0, 1))) else (bif Nat.ble 19 j then (some (29, .iand, 20, 0, 0, 0)) else (some (28, .iconst 1, 19, 0, 0, 1)))))) else (bif Nat.ble 9 j then (bif Nat.ble 13 j then (bif Nat.ble 15 j then (bif Nat.ble 16 j then (bif Nat.ble 17 j then (some (27, .ishr, 18, 0, 0, 0)) else (some (25, .iload 7, 17, 7, 0, 0))) else (some (23, .iload 5, 16, 5, 0, 0))) else (bif Nat.ble 14 j then (some (21, .istore 7, 15, 7, 0, 0)) else (some (20, .iaload, 14, 0, 0, 0)))) else (bif Nat.ble 11 j then (bif Nat.ble 12 j then (some (19, .iadd, 13, 0, 0, 0)) else (some (17, .iload 6, 12, 6, 0, 0))) else (bif Nat.ble 10 j then (some (16, .iload_n 1, 11, 1, 0, 0)) else (some (15, .aload_n 0, 10, 0, 0, 0))))) else (bif Nat.ble 4 j then (bif Nat.ble 6 j then (bif Nat.ble 7 j then (bif Nat.ble 8 j then (some (12, .if_icmp .ge 44, 9, 35, 0, 0)) else (some (11, .iload_n 2, 8, 2, 0, 0))) else (some (9, .iload 6, 7, 6, 0, 0))) else (bif Nat.ble 5 j then (some (7, .istore 6, 6, 6, 0, 0)) else (some (6, .iconst 0, 5, 0, 0, 0)))) else (bif Nat.ble 2 j then (bif Nat.ble 3 j then (some (4, .istore 5, 4, 5, 0, 0)) else (some (3, .ixor, 3, 0, 0, 0))) else (bif Nat.ble 1 j then (some (1, .iload 4, 2, 4, 0, 0)) else (some (0, .iload_n 3, 1, 3, 0, 0)))))))
/-- MotionDesk.type(I)I -/
def mr_De_type (j : Nat) : Option mx_Row := bif Nat.ble 22 j then none else (bif Nat.ble 11 j then (bif Nat.ble 16 j then (bif Nat.ble 19 j then (bif Nat.ble 20 j then (bif Nat.ble 21 j then (some (43, .ireturn, 22, 0, 0, 0)) else (some (40, .getfield 95, 21, 3, 2, 0))) else (some (37, .getfield 10, 20, 5, 0, 0))) else (bif Nat.ble 17 j then (bif Nat.ble 18 j then (some (36, .aload_n 0, 19, 0, 0, 0)) else (some (33, .invokevirtual 98, 18, 22, 2, 0))) else (some (32, .iload_n 1, 17, 1, 0, 0)))) else (bif Nat.ble 13 j then (bif Nat.ble 14 j then (bif Nat.ble 15 j then (some (29, .getfield 10, 16, 5, 0, 0)) else (some (28, .aload_n 0, 15, 0, 0, 0))) else (some (27, .ireturn, 14, 0, 0, 0))) else (bif Nat.ble 12 j then (some (25, .bipush (-3), 13, 0, 0, (-3))) else (some (22, .if_icmp .lt 6, 12, 14, 0, 0))))) else (bif Nat.ble 5 j then (bif Nat.ble 8 j then (bif Nat.ble 9 j then (bif Nat.ble 10 j then (some (20, .bipush 120, 11, 0, 0, 120)) else (some (17, .getfield 95, 10, 3, 2, 0))) else (some (14, .getfield 10, 9, 5, 0, 0))) else (bif Nat.ble 6 j then (bif Nat.ble 7 j then (some (13, .aload_n 0, 8, 0, 0, 0)) else (some (12, .ireturn, 7, 0, 0, 0))) else (some (11, .iconst (-1), 6, 0, 0, (-1))))) else (bif Nat.ble 2 j then (bif Nat.ble 3 j then (bif Nat.ble 4 j then (some (8, .if_icmp .le 5, 5, 7, 0, 0)) else (some (5, .sipush 255, 4, 0, 0, 255))) else (some (4, .iload_n 1, 3, 1, 0, 0))) else (bif Nat.ble 1 j then (some (1, .ifCond .lt 10, 2, 5, 0, 0)) else (some (0, .iload_n 1, 1, 1, 0, 0))))))
/-- MotionDesk.clear()I -/
def mr_De_clear (j : Nat) : Option mx_Row := bif Nat.ble 10 j then none else (bif Nat.ble 5 j then (bif Nat.ble 7 j then (bif Nat.ble 8 j then (bif Nat.ble 9 j then (some (17, .ireturn, 10, 0, 0, 0)) else (some (16, .iload_n 1, 9, 1, 0, 0))) else (some (13, .putfield 95, 8, 3, 2, 0))) else (bif Nat.ble 6 j then (some (12, .iconst 0, 7, 0, 0, 0)) else (some (9, .getfield 10, 6, 5, 0, 0)))) else (bif Nat.ble 2 j then (bif Nat.ble 3 j then (bif Nat.ble 4 j then (some (8, .aload_n 0, 5, 0, 0, 0)) else (some (7, .istore_n 1, 4, 1, 0, 0))) else (some (4, .getfield 95, 3, 3, 2, 0))) else (bif Nat.ble 1 j then (some (1, .getfield 10, 2, 5, 0, 0)) else (some (0, .aload_n 0, 1, 0, 0, 0)))))
/-- MotionDesk.desk()I -/
def mr_De_desk (j : Nat) : Option mx_Row := bif Nat.ble 52 j then none else (bif Nat.ble 26 j then (bif Nat.ble 39 j then (bif Nat.ble 45 j then (bif Nat.ble 48 j then (bif Nat.ble 50 j then (bif Nat.ble 51 j then (some (104, .ireturn, 52, 0, 0, 0)) else (some (103, .iload_n 1, 51, 1, 0, 0))) else (bif Nat.ble 49 j then (some (100, .invokevirtual 92, 50, 38, 1, 0)) else (some (99, .aload_n 0, 49, 0, 0, 0)))) else (bif Nat.ble 46 j then (bif Nat.ble 47 j then (some (96, .putfield 118, 48, 2, 3, 0)) else (some (95, .iconst 0, 47, 0, 0, 0))) else (some (92, .getfield 60, 46, 5, 10, 0)))) else (bif Nat.ble 42 j then (bif Nat.ble 43 j then (bif Nat.ble 44 j then (some (91, .aload_n 0, 45, 0, 0, 0)) else (some (88, .putfield 54, 44, 5, 9, 0))) else (some (87, .iconst 0, 43, 0, 0, 0))) else (bif Nat.ble 40 j then (bif Nat.ble 41 j then (some (86, .aload_n 0, 42, 0, 0, 0)) else (some (83, .putfield 47, 41, 5, 7, 0))) else (some (82, .iconst 0, 40, 0, 0, 0))))) else (bif Nat.ble 32 j then (bif Nat.ble 35 j then (bif Nat.ble 37 j then (bif Nat.ble 38 j then (some (81, .aload_n 0, 39, 0, 0, 0)) else (some (78, .putfield 95, 38, 3, 2, 0))) else (bif Nat.ble 36 j then (some (77, .iconst 0, 37, 0, 0, 0)) else (some (74, .getfield 10, 36, 5, 0, 0)))) else (bif Nat.ble 33 j then (bif Nat.ble 34 j then (some (73, .aload_n 0, 35, 0, 0, 0)) else (some (70, .invokevirtual 88, 34, 12, 2, 0))) else (some (67, .getfield 64, 33, 5, 11, 0)))) else (bif Nat.ble 29 j then (bif Nat.ble 30 j then (bif Nat.ble 31 j then (some (66, .aload_n 0, 32, 0, 0, 0)) else (some (63, .getfield 19, 31, 5, 1, 0))) else (some (62, .aload_n 0, 30, 0, 0, 0))) else (bif Nat.ble 27 j then (bif Nat.ble 28 j then (some (59, .invokestatic 84, 29, 37, 3, 0)) else (some (56, .getfield 64, 28, 5, 11, 0))) else (some (55, .aload_n 0, 27, 0, 0, 0)))))) else (bif Nat.ble 13 j then (bif Nat.ble 19 j then (bif Nat.ble 22 j then (bif Nat.ble 24 j then (bif Nat.ble 25 j then (some (52, .getfield 81, 26, 1, 2, 0)) else (some (49, .getfield 19, 25, 5, 1, 0))) else (bif Nat.ble 23 j then (some (48, .aload_n 0, 24, 0, 0, 0)) else (some (47, .iconst 0, 23, 0, 0, 0)))) else (bif Nat.ble 20 j then (bif Nat.ble 21 j then (some (44, .ifCond .ne 29, 22, 34, 0, 0)) else (some (41, .getfield 115, 21, 1, 4, 0))) else (some (38, .getfield 19, 20, 5, 1, 0)))) else (bif Nat.ble 16 j then (bif Nat.ble 17 j then (bif Nat.ble 18 j then (some (37, .aload_n 0, 19, 0, 0, 0)) else (some (34, .invokevirtual 111, 18, 15, 2, 0))) else (some (31, .getfield 108, 17, 3, 1, 0))) else (bif Nat.ble 14 j then (bif Nat.ble 15 j then (some (28, .getfield 10, 16, 5, 0, 0)) else (some (27, .aload_n 0, 15, 0, 0, 0))) else (some (24, .getfield 19, 14, 5, 1, 0))))) else (bif Nat.ble 6 j then (bif Nat.ble 9 j then (bif Nat.ble 11 j then (bif Nat.ble 12 j then (some (23, .aload_n 0, 13, 0, 0, 0)) else (some (22, .ireturn, 12, 0, 0, 0))) else (bif Nat.ble 10 j then (some (21, .isub, 11, 0, 0, 0)) else (some (18, .getfield 105, 10, 3, 5, 0)))) else (bif Nat.ble 7 j then (bif Nat.ble 8 j then (some (15, .getfield 10, 9, 5, 0, 0)) else (some (14, .aload_n 0, 8, 0, 0, 0))) else (some (12, .bipush (-10), 7, 0, 0, (-10))))) else (bif Nat.ble 3 j then (bif Nat.ble 4 j then (bif Nat.ble 5 j then (some (9, .ifCond .ge 14, 6, 12, 0, 0)) else (some (8, .iload_n 1, 5, 1, 0, 0))) else (some (7, .istore_n 1, 4, 1, 0, 0))) else (bif Nat.ble 1 j then (bif Nat.ble 2 j then (some (4, .invokevirtual 101, 3, 23, 1, 0)) else (some (1, .getfield 10, 2, 5, 0, 0))) else (some (0, .aload_n 0, 1, 0, 0, 0)))))))
/-- MotionDesk.within(II)Z -/
def mr_De_within (j : Nat) : Option mx_Row := bif Nat.ble 9 j then none else (bif Nat.ble 4 j then (bif Nat.ble 6 j then (bif Nat.ble 7 j then (bif Nat.ble 8 j then (some (14, .ireturn, 9, 0, 0, 0)) else (some (13, .iconst 0, 8, 0, 0, 0))) else (some (10, .goto 4, 8, 0, 0, 0))) else (bif Nat.ble 5 j then (some (9, .iconst 1, 6, 0, 0, 1)) else (some (6, .if_icmp .ge 7, 5, 7, 0, 0)))) else (bif Nat.ble 2 j then (bif Nat.ble 3 j then (some (5, .iload_n 1, 4, 1, 0, 0)) else (some (4, .iload_n 0, 3, 0, 0, 0))) else (bif Nat.ble 1 j then (some (1, .ifCond .lt 12, 2, 7, 0, 0)) else (some (0, .iload_n 0, 1, 0, 0, 0)))))
/-- MotionDesk.ranking(II)I -/
def mr_De_ranking (j : Nat) : Option mx_Row := bif Nat.ble 20 j then none else (bif Nat.ble 10 j then (bif Nat.ble 15 j then (bif Nat.ble 17 j then (bif Nat.ble 18 j then (bif Nat.ble 19 j then (some (32, .ireturn, 20, 0, 0, 0)) else (some (31, .iaload, 19, 0, 0, 0))) else (some (30, .iadd, 18, 0, 0, 0))) else (bif Nat.ble 16 j then (some (29, .iload_n 2, 17, 2, 0, 0)) else (some (28, .imul, 16, 0, 0, 0)))) else (bif Nat.ble 12 j then (bif Nat.ble 13 j then (bif Nat.ble 14 j then (some (26, .bipush 6, 15, 0, 0, 6)) else (some (25, .iload_n 1, 14, 1, 0, 0))) else (some (22, .getfield 128, 13, 1, 0, 0))) else (bif Nat.ble 11 j then (some (19, .getfield 19, 12, 5, 1, 0)) else (some (18, .aload_n 0, 11, 0, 0, 0))))) else (bif Nat.ble 5 j then (bif Nat.ble 7 j then (bif Nat.ble 8 j then (bif Nat.ble 9 j then (some (17, .ireturn, 10, 0, 0, 0)) else (some (16, .iconst (-1), 9, 0, 0, (-1)))) else (some (13, .ifCond .ne 5, 8, 10, 0, 0))) else (bif Nat.ble 6 j then (some (10, .invokevirtual 125, 7, 46, 2, 0)) else (some (9, .iload_n 2, 6, 2, 0, 0)))) else (bif Nat.ble 2 j then (bif Nat.ble 3 j then (bif Nat.ble 4 j then (some (8, .aload_n 0, 5, 0, 0, 0)) else (some (5, .ifCond .eq 11, 4, 8, 0, 0))) else (some (2, .invokevirtual 121, 3, 45, 2, 0))) else (bif Nat.ble 1 j then (some (1, .iload_n 1, 2, 1, 0, 0)) else (some (0, .aload_n 0, 1, 0, 0, 0))))))
/-- MotionDesk.isMember(I)Z -/
def mr_De_isMember (j : Nat) : Option mx_Row := bif Nat.ble 6 j then none else (bif Nat.ble 3 j then (bif Nat.ble 4 j then (bif Nat.ble 5 j then (some (11, .ireturn, 6, 0, 0, 0)) else (some (8, .invokestatic 132, 5, 43, 2, 0))) else (some (5, .getfield 223, 4, 1, 3, 0))) else (bif Nat.ble 1 j then (bif Nat.ble 2 j then (some (2, .getfield 19, 3, 5, 1, 0)) else (some (1, .aload_n 0, 2, 0, 0, 0))) else (some (0, .iload_n 1, 1, 1, 0, 0))))
/-- MotionDesk.isMotion(I)Z -/
def mr_De_isMotion (j : Nat) : Option mx_Row := bif Nat.ble 6 j then none else (bif Nat.ble 3 j then (bif Nat.ble 4 j then (bif Nat.ble 5 j then (some (11, .ireturn, 6, 0, 0, 0)) else (some (8, .invokestatic 132, 5, 43, 2, 0))) else (some (5, .getfield 81, 4, 1, 2, 0))) else (bif Nat.ble 1 j then (bif Nat.ble 2 j then (some (2, .getfield 19, 3, 5, 1, 0)) else (some (1, .aload_n 0, 2, 0, 0, 0))) else (some (0, .iload_n 1, 1, 1, 0, 0))))
/-- MotionDesk.node(II)I -/
def mr_De_node (j : Nat) : Option mx_Row := bif Nat.ble 78 j then none else (bif Nat.ble 39 j then (bif Nat.ble 58 j then (bif Nat.ble 68 j then (bif Nat.ble 73 j then (bif Nat.ble 75 j then (bif Nat.ble 76 j then (bif Nat.ble 77 j then (some (183, .ireturn, 78, 0, 0, 0)) else (some (180, .invokestatic 165, 77, 147, 1, 0))) else (some (179, .iaload, 76, 0, 0, 0))) else (bif Nat.ble 74 j then (some (178, .iload_n 1, 75, 1, 0, 0)) else (some (175, .getfield 162, 74, 0, 0, 0)))) else (bif Nat.ble 70 j then (bif Nat.ble 71 j then (bif Nat.ble 72 j then (some (172, .getfield 33, 73, 5, 3, 0)) else (some (171, .aload_n 0, 72, 0, 0, 0))) else (some (170, .ireturn, 71, 0, 0, 0))) else (bif Nat.ble 69 j then (some (167, .invokevirtual 159, 70, 5, 4, 0)) else (some (164, .invokevirtual 152, 69, 48, 1, 0))))) else (bif Nat.ble 63 j then (bif Nat.ble 65 j then (bif Nat.ble 66 j then (bif Nat.ble 67 j then (some (163, .aload_n 0, 68, 0, 0, 0)) else (some (162, .iload_n 1, 67, 1, 0, 0))) else (some (159, .getfield 26, 66, 5, 2, 0))) else (bif Nat.ble 64 j then (some (158, .aload_n 0, 65, 0, 0, 0)) else (some (155, .getfield 33, 64, 5, 3, 0)))) else (bif Nat.ble 60 j then (bif Nat.ble 61 j then (bif Nat.ble 62 j then (some (154, .aload_n 0, 63, 0, 0, 0)) else (some (153, .ireturn, 62, 0, 0, 0))) else (some (150, .invokevirtual 155, 61, 4, 4, 0))) else (bif Nat.ble 59 j then (some (147, .invokevirtual 152, 60, 48, 1, 0)) else (some (146, .aload_n 0, 59, 0, 0, 0)))))) else (bif Nat.ble 48 j then (bif Nat.ble 53 j then (bif Nat.ble 55 j then (bif Nat.ble 56 j then (bif Nat.ble 57 j then (some (145, .iload_n 1, 58, 1, 0, 0)) else (some (142, .getfield 26, 57, 5, 2, 0))) else (some (141, .aload_n 0, 56, 0, 0, 0))) else (bif Nat.ble 54 j then (some (138, .getfield 33, 55, 5, 3, 0)) else (some (137, .aload_n 0, 54, 0, 0, 0)))) else (bif Nat.ble 50 j then (bif Nat.ble 51 j then (bif Nat.ble 52 j then (some (136, .ireturn, 53, 0, 0, 0)) else (some (135, .iaload, 52, 0, 0, 0))) else (some (134, .iload_n 1, 51, 1, 0, 0))) else (bif Nat.ble 49 j then (some (131, .getfield 149, 50, 4, 2, 0)) else (some (128, .getfield 26, 49, 5, 2, 0))))) else (bif Nat.ble 43 j then (bif Nat.ble 45 j then (bif Nat.ble 46 j then (bif Nat.ble 47 j then (some (127, .aload_n 0, 48, 0, 0, 0)) else (some (126, .ireturn, 47, 0, 0, 0))) else (some (124, .bipush (-9), 46, 0, 0, (-9)))) else (bif Nat.ble 44 j then (some (121, .goto 5, 46, 0, 0, 0)) else (some (118, .invokevirtual 146, 44, 35, 2, 0)))) else (bif Nat.ble 41 j then (bif Nat.ble 42 j then (some (117, .iload_n 1, 43, 1, 0, 0)) else (some (114, .getfield 26, 42, 5, 2, 0))) else (bif Nat.ble 40 j then (some (113, .aload_n 0, 41, 0, 0, 0)) else (some (110, .ifCond .eq 14, 40, 45, 0, 0))))))) else (bif Nat.ble 19 j then (bif Nat.ble 29 j then (bif Nat.ble 34 j then (bif Nat.ble 36 j then (bif Nat.ble 37 j then (bif Nat.ble 38 j then (some (109, .iload_n 3, 39, 3, 0, 0)) else (some (108, .ireturn, 38, 0, 0, 0))) else (some (106, .bipush (-9), 37, 0, 0, (-9)))) else (bif Nat.ble 35 j then (some (103, .goto 5, 37, 0, 0, 0)) else (some (100, .invokevirtual 142, 35, 34, 2, 0)))) else (bif Nat.ble 31 j then (bif Nat.ble 32 j then (bif Nat.ble 33 j then (some (99, .iload_n 1, 34, 1, 0, 0)) else (some (96, .getfield 26, 33, 5, 2, 0))) else (some (95, .aload_n 0, 32, 0, 0, 0))) else (bif Nat.ble 30 j then (some (92, .ifCond .eq 14, 31, 36, 0, 0)) else (some (91, .iload_n 3, 30, 3, 0, 0))))) else (bif Nat.ble 24 j then (bif Nat.ble 26 j then (bif Nat.ble 27 j then (bif Nat.ble 28 j then (some (90, .ireturn, 29, 0, 0, 0)) else (some (89, .iaload, 28, 0, 0, 0))) else (some (88, .iload_n 1, 27, 1, 0, 0))) else (bif Nat.ble 25 j then (some (85, .getfield 139, 26, 4, 0, 0)) else (some (82, .getfield 26, 25, 5, 2, 0)))) else (bif Nat.ble 21 j then (bif Nat.ble 22 j then (bif Nat.ble 23 j then (some (81, .aload_n 0, 24, 0, 0, 0)) else (some (78, .goto 12, 28, 0, 0, 0))) else (some (76, .bipush (-9), 22, 0, 0, (-9)))) else (bif Nat.ble 20 j then (some (73, .ifCond .eq 8, 21, 23, 0, 0)) else (some (72, .iload_n 3, 20, 3, 0, 0)))))) else (bif Nat.ble 9 j then (bif Nat.ble 14 j then (bif Nat.ble 16 j then (bif Nat.ble 17 j then (bif Nat.ble 18 j then (some (35, .tableswitch 136 0 5 #[37, 56, 74, 92, 102, 119], 19, 0, 0, 0)) else (some (34, .iload_n 2, 18, 2, 0, 0))) else (some (33, .istore_n 3, 17, 3, 0, 0))) else (bif Nat.ble 15 j then (some (30, .invokevirtual 136, 16, 33, 2, 0)) else (some (29, .iload_n 1, 15, 1, 0, 0)))) else (bif Nat.ble 11 j then (bif Nat.ble 12 j then (bif Nat.ble 13 j then (some (26, .getfield 26, 14, 5, 2, 0)) else (some (25, .aload_n 0, 13, 0, 0, 0))) else (some (24, .ireturn, 12, 0, 0, 0))) else (bif Nat.ble 10 j then (some (23, .iconst (-1), 11, 0, 0, (-1))) else (some (20, .ifCond .ne 5, 10, 12, 0, 0))))) else (bif Nat.ble 4 j then (bif Nat.ble 6 j then (bif Nat.ble 7 j then (bif Nat.ble 8 j then (some (17, .invokestatic 132, 9, 43, 2, 0)) else (some (15, .bipush 7, 8, 0, 0, 7))) else (some (14, .iload_n 2, 7, 2, 0, 0))) else (bif Nat.ble 5 j then (some (11, .ifCond .eq 12, 6, 10, 0, 0)) else (some (8, .invokestatic 132, 5, 43, 2, 0)))) else (bif Nat.ble 2 j then (bif Nat.ble 3 j then (some (5, .getfield 131, 4, 4, 3, 0)) else (some (2, .getfield 26, 3, 5, 2, 0))) else (bif Nat.ble 1 j then (some (1, .aload_n 0, 2, 0, 0, 0)) else (some (0, .iload_n 1, 1, 1, 0, 0))))))))
/-- MotionDesk.everyone()I -/
def mr_De_everyone (j : Nat) : Option mx_Row := bif Nat.ble 8 j then none else (bif Nat.ble 4 j then (bif Nat.ble 6 j then (bif Nat.ble 7 j then (some (11, .ireturn, 8, 0, 0, 0)) else (some (10, .isub, 7, 0, 0, 0))) else (bif Nat.ble 5 j then (some (9, .iconst 1, 6, 0, 0, 1)) else (some (8, .ishl, 5, 0, 0, 0)))) else (bif Nat.ble 2 j then (bif Nat.ble 3 j then (some (5, .getfield 223, 4, 1, 3, 0)) else (some (2, .getfield 19, 3, 5, 1, 0))) else (bif Nat.ble 1 j then (some (1, .aload_n 0, 2, 0, 0, 0)) else (some (0, .iconst 1, 1, 0, 0, 1)))))
/-- MotionDesk.votes(II)I -/
def mr_De_votes (j : Nat) : Option mx_Row := bif Nat.ble 24 j then none else (bif Nat.ble 12 j then (bif Nat.ble 18 j then (bif Nat.ble 21 j then (bif Nat.ble 22 j then (bif Nat.ble 23 j then (some (40, .ireturn, 24, 0, 0, 0)) else (some (37, .invokestatic 165, 23, 147, 1, 0))) else (some (36, .iaload, 22, 0, 0, 0))) else (bif Nat.ble 19 j then (bif Nat.ble 20 j then (some (35, .iadd, 21, 0, 0, 0)) else (some (34, .iload_n 2, 20, 2, 0, 0))) else (some (33, .imul, 19, 0, 0, 0)))) else (bif Nat.ble 15 j then (bif Nat.ble 16 j then (bif Nat.ble 17 j then (some (31, .bipush 6, 18, 0, 0, 6)) else (some (30, .iload_n 1, 17, 1, 0, 0))) else (some (27, .getfield 170, 16, 0, 1, 0))) else (bif Nat.ble 13 j then (bif Nat.ble 14 j then (some (24, .getfield 33, 15, 5, 3, 0)) else (some (23, .aload_n 0, 14, 0, 0, 0))) else (some (22, .ireturn, 13, 0, 0, 0))))) else (bif Nat.ble 6 j then (bif Nat.ble 9 j then (bif Nat.ble 10 j then (bif Nat.ble 11 j then (some (21, .iconst (-1), 12, 0, 0, (-1))) else (some (18, .if_icmp .ne 5, 11, 13, 0, 0))) else (some (17, .iload_n 2, 10, 2, 0, 0))) else (bif Nat.ble 7 j then (bif Nat.ble 8 j then (some (16, .iload_n 1, 9, 1, 0, 0)) else (some (13, .ifCond .eq 8, 8, 11, 0, 0))) else (some (10, .invokevirtual 125, 7, 46, 2, 0)))) else (bif Nat.ble 3 j then (bif Nat.ble 4 j then (bif Nat.ble 5 j then (some (9, .iload_n 2, 6, 2, 0, 0)) else (some (8, .aload_n 0, 5, 0, 0, 0))) else (some (5, .ifCond .eq 16, 4, 11, 0, 0))) else (bif Nat.ble 1 j then (bif Nat.ble 2 j then (some (2, .invokevirtual 125, 3, 46, 2, 0)) else (some (1, .iload_n 1, 2, 1, 0, 0))) else (some (0, .aload_n 0, 1, 0, 0, 0))))))
/-- MotionDesk.now(I)I -/
def mr_De_now (j : Nat) : Option mx_Row := bif Nat.ble 35 j then none else (bif Nat.ble 17 j then (bif Nat.ble 26 j then (bif Nat.ble 30 j then (bif Nat.ble 32 j then (bif Nat.ble 33 j then (bif Nat.ble 34 j then (some (98, .ireturn, 35, 0, 0, 0)) else (some (97, .iconst (-1), 34, 0, 0, (-1)))) else (some (96, .ireturn, 33, 0, 0, 0))) else (bif Nat.ble 31 j then (some (93, .getfield 47, 32, 5, 7, 0)) else (some (92, .aload_n 0, 31, 0, 0, 0)))) else (bif Nat.ble 28 j then (bif Nat.ble 29 j then (some (91, .ireturn, 30, 0, 0, 0)) else (some (88, .invokevirtual 159, 29, 5, 4, 0))) else (bif Nat.ble 27 j then (some (85, .invokevirtual 152, 28, 48, 1, 0)) else (some (84, .aload_n 0, 27, 0, 0, 0))))) else (bif Nat.ble 21 j then (bif Nat.ble 23 j then (bif Nat.ble 24 j then (bif Nat.ble 25 j then (some (83, .iconst 0, 26, 0, 0, 0)) else (some (80, .getfield 26, 25, 5, 2, 0))) else (some (79, .aload_n 0, 24, 0, 0, 0))) else (bif Nat.ble 22 j then (some (76, .getfield 33, 23, 5, 3, 0)) else (some (75, .aload_n 0, 22, 0, 0, 0)))) else (bif Nat.ble 19 j then (bif Nat.ble 20 j then (some (74, .ireturn, 21, 0, 0, 0)) else (some (71, .invokevirtual 155, 20, 4, 4, 0))) else (bif Nat.ble 18 j then (some (68, .invokevirtual 152, 19, 48, 1, 0)) else (some (67, .aload_n 0, 18, 0, 0, 0)))))) else (bif Nat.ble 8 j then (bif Nat.ble 12 j then (bif Nat.ble 14 j then (bif Nat.ble 15 j then (bif Nat.ble 16 j then (some (66, .iconst 0, 17, 0, 0, 0)) else (some (63, .getfield 26, 16, 5, 2, 0))) else (some (62, .aload_n 0, 15, 0, 0, 0))) else (bif Nat.ble 13 j then (some (59, .getfield 33, 14, 5, 3, 0)) else (some (58, .aload_n 0, 13, 0, 0, 0)))) else (bif Nat.ble 10 j then (bif Nat.ble 11 j then (some (57, .ireturn, 12, 0, 0, 0)) else (some (54, .invokevirtual 176, 11, 53, 1, 0))) else (bif Nat.ble 9 j then (some (53, .aload_n 0, 10, 0, 0, 0)) else (some (52, .ireturn, 9, 0, 0, 0))))) else (bif Nat.ble 4 j then (bif Nat.ble 6 j then (bif Nat.ble 7 j then (some (49, .invokevirtual 173, 8, 51, 1, 0)) else (some (48, .aload_n 0, 7, 0, 0, 0))) else (bif Nat.ble 5 j then (some (47, .ireturn, 6, 0, 0, 0)) else (some (44, .getfield 131, 5, 4, 3, 0)))) else (bif Nat.ble 2 j then (bif Nat.ble 3 j then (some (41, .getfield 26, 4, 5, 2, 0)) else (some (40, .aload_n 0, 3, 0, 0, 0))) else (bif Nat.ble 1 j then (some (1, .tableswitch 96 0 5 #[39, 47, 52, 57, 74, 91], 2, 0, 0, 0)) else (some (0, .iload_n 1, 1, 1, 0, 0)))))))
/-- MotionDesk.top()I -/
def mr_De_top (j : Nat) : Option mx_Row := bif Nat.ble 30 j then none else (bif Nat.ble 15 j then (bif Nat.ble 22 j then (bif Nat.ble 26 j then (bif Nat.ble 28 j then (bif Nat.ble 29 j then (some (49, .ireturn, 30, 0, 0, 0)) else (some (48, .iload_n 2, 29, 2, 0, 0))) else (bif Nat.ble 27 j then (some (45, .goto (-29), 12, 0, 0, 0)) else (some (42, .iinc 3 1, 27, 3, 0, 1)))) else (bif Nat.ble 24 j then (bif Nat.ble 25 j then (some (41, .istore_n 2, 26, 2, 0, 0)) else (some (40, .iload_n 3, 25, 3, 0, 0))) else (bif Nat.ble 23 j then (some (37, .ifCond .eq 5, 24, 26, 0, 0)) else (some (34, .invokevirtual 276, 23, 52, 2, 0))))) else (bif Nat.ble 18 j then (bif Nat.ble 20 j then (bif Nat.ble 21 j then (some (33, .iload_n 3, 22, 3, 0, 0)) else (some (32, .aload_n 0, 21, 0, 0, 0))) else (bif Nat.ble 19 j then (some (29, .if_icmp .ge 13, 20, 26, 0, 0)) else (some (26, .invokestatic 165, 19, 147, 1, 0)))) else (bif Nat.ble 16 j then (bif Nat.ble 17 j then (some (25, .iload_n 2, 18, 2, 0, 0)) else (some (22, .invokestatic 165, 17, 147, 1, 0))) else (some (21, .iload_n 3, 16, 3, 0, 0))))) else (bif Nat.ble 7 j then (bif Nat.ble 11 j then (bif Nat.ble 13 j then (bif Nat.ble 14 j then (some (18, .if_icmp .ge 30, 15, 28, 0, 0)) else (some (17, .iload_n 1, 14, 1, 0, 0))) else (bif Nat.ble 12 j then (some (16, .iload_n 3, 13, 3, 0, 0)) else (some (15, .istore_n 3, 12, 3, 0, 0)))) else (bif Nat.ble 9 j then (bif Nat.ble 10 j then (some (14, .iconst 1, 11, 0, 0, 1)) else (some (13, .istore_n 2, 10, 2, 0, 0))) else (bif Nat.ble 8 j then (some (12, .iload_n 1, 9, 1, 0, 0)) else (some (11, .istore_n 1, 8, 1, 0, 0))))) else (bif Nat.ble 3 j then (bif Nat.ble 5 j then (bif Nat.ble 6 j then (some (10, .isub, 7, 0, 0, 0)) else (some (9, .iconst 1, 6, 0, 0, 1))) else (bif Nat.ble 4 j then (some (8, .ishl, 5, 0, 0, 0)) else (some (5, .getfield 81, 4, 1, 2, 0)))) else (bif Nat.ble 1 j then (bif Nat.ble 2 j then (some (2, .getfield 19, 3, 5, 1, 0)) else (some (1, .aload_n 0, 2, 0, 0, 0))) else (some (0, .iconst 1, 1, 0, 0, 1))))))
/-- MotionDesk.beatsTheRest(I)Z -/
def mr_De_beatsTheRest (j : Nat) : Option mx_Row := bif Nat.ble 49 j then none else (bif Nat.ble 24 j then (bif Nat.ble 36 j then (bif Nat.ble 42 j then (bif Nat.ble 45 j then (bif Nat.ble 47 j then (bif Nat.ble 48 j then (some (86, .ireturn, 49, 0, 0, 0)) else (some (85, .iconst 1, 48, 0, 0, 1))) else (bif Nat.ble 46 j then (some (82, .goto (-80), 2, 0, 0, 0)) else (some (79, .iinc 2 1, 46, 2, 0, 1)))) else (bif Nat.ble 43 j then (bif Nat.ble 44 j then (some (76, .goto (-61), 9, 0, 0, 0)) else (some (73, .iinc 3 1, 44, 3, 0, 1))) else (some (72, .ireturn, 43, 0, 0, 0)))) else (bif Nat.ble 39 j then (bif Nat.ble 40 j then (bif Nat.ble 41 j then (some (71, .iconst 0, 42, 0, 0, 0)) else (some (68, .ifCond .ne 5, 41, 43, 0, 0))) else (some (65, .invokevirtual 279, 40, 7, 4, 0))) else (bif Nat.ble 37 j then (bif Nat.ble 38 j then (some (62, .invokevirtual 152, 39, 48, 1, 0)) else (some (61, .aload_n 0, 38, 0, 0, 0))) else (some (60, .iload_n 3, 37, 3, 0, 0))))) else (bif Nat.ble 30 j then (bif Nat.ble 33 j then (bif Nat.ble 34 j then (bif Nat.ble 35 j then (some (59, .iload_n 2, 36, 2, 0, 0)) else (some (56, .getfield 33, 35, 5, 3, 0))) else (some (55, .aload_n 0, 34, 0, 0, 0))) else (bif Nat.ble 31 j then (bif Nat.ble 32 j then (some (52, .ifCond .eq 21, 33, 43, 0, 0)) else (some (50, .iload 4, 32, 4, 0, 0))) else (some (48, .istore 4, 31, 4, 0, 0)))) else (bif Nat.ble 27 j then (bif Nat.ble 28 j then (bif Nat.ble 29 j then (some (47, .iconst 0, 30, 0, 0, 0)) else (some (44, .goto 4, 30, 0, 0, 0))) else (some (43, .iconst 1, 28, 0, 0, 1))) else (bif Nat.ble 25 j then (bif Nat.ble 26 j then (some (40, .ifCond .ne 7, 27, 29, 0, 0)) else (some (39, .iand, 26, 0, 0, 0))) else (some (38, .iconst 1, 25, 0, 0, 1)))))) else (bif Nat.ble 12 j then (bif Nat.ble 18 j then (bif Nat.ble 21 j then (bif Nat.ble 22 j then (bif Nat.ble 23 j then (some (37, .ishr, 24, 0, 0, 0)) else (some (36, .iload_n 3, 23, 3, 0, 0))) else (some (35, .iload_n 1, 22, 1, 0, 0))) else (bif Nat.ble 19 j then (bif Nat.ble 20 j then (some (32, .if_icmp .ne 15, 21, 29, 0, 0)) else (some (31, .iconst 1, 20, 0, 0, 1))) else (some (30, .iand, 19, 0, 0, 0)))) else (bif Nat.ble 15 j then (bif Nat.ble 16 j then (bif Nat.ble 17 j then (some (29, .iconst 1, 18, 0, 0, 1)) else (some (28, .ishr, 17, 0, 0, 0))) else (some (27, .iload_n 2, 16, 2, 0, 0))) else (bif Nat.ble 13 j then (bif Nat.ble 14 j then (some (26, .iload_n 1, 15, 1, 0, 0)) else (some (23, .if_icmp .ge 56, 14, 45, 0, 0))) else (some (20, .getfield 81, 13, 1, 2, 0))))) else (bif Nat.ble 6 j then (bif Nat.ble 9 j then (bif Nat.ble 10 j then (bif Nat.ble 11 j then (some (17, .getfield 19, 12, 5, 1, 0)) else (some (16, .aload_n 0, 11, 0, 0, 0))) else (some (15, .iload_n 3, 10, 3, 0, 0))) else (bif Nat.ble 7 j then (bif Nat.ble 8 j then (some (14, .istore_n 3, 9, 3, 0, 0)) else (some (13, .iconst 0, 8, 0, 0, 0))) else (some (10, .if_icmp .ge 75, 7, 47, 0, 0)))) else (bif Nat.ble 3 j then (bif Nat.ble 4 j then (bif Nat.ble 5 j then (some (7, .getfield 81, 6, 1, 2, 0)) else (some (4, .getfield 19, 5, 5, 1, 0))) else (some (3, .aload_n 0, 4, 0, 0, 0))) else (bif Nat.ble 1 j then (bif Nat.ble 2 j then (some (2, .iload_n 2, 3, 2, 0, 0)) else (some (1, .istore_n 2, 2, 2, 0, 0))) else (some (0, .iconst 0, 1, 0, 0, 0)))))))
/-- MotionDesk.beatsAllOthers()I -/
def mr_De_beatsAllOthers (j : Nat) : Option mx_Row := bif Nat.ble 12 j then none else (bif Nat.ble 6 j then (bif Nat.ble 9 j then (bif Nat.ble 10 j then (bif Nat.ble 11 j then (some (22, .ireturn, 12, 0, 0, 0)) else (some (20, .bipush (-9), 11, 0, 0, (-9)))) else (some (17, .goto 5, 11, 0, 0, 0))) else (bif Nat.ble 7 j then (bif Nat.ble 8 j then (some (14, .invokestatic 283, 9, 148, 1, 0)) else (some (13, .iload_n 1, 8, 1, 0, 0))) else (some (10, .if_icmp .ne 10, 7, 10, 0, 0)))) else (bif Nat.ble 3 j then (bif Nat.ble 4 j then (bif Nat.ble 5 j then (some (9, .iconst 1, 6, 0, 0, 1)) else (some (6, .invokestatic 165, 5, 147, 1, 0))) else (some (5, .iload_n 1, 4, 1, 0, 0))) else (bif Nat.ble 1 j then (bif Nat.ble 2 j then (some (4, .istore_n 1, 3, 1, 0, 0)) else (some (1, .invokevirtual 173, 2, 51, 1, 0))) else (some (0, .aload_n 0, 1, 0, 0, 0)))))
/-- MotionDesk.ranks(II)I -/
def mr_De_ranks (j : Nat) : Option mx_Row := bif Nat.ble 32 j then none else (bif Nat.ble 16 j then (bif Nat.ble 24 j then (bif Nat.ble 28 j then (bif Nat.ble 30 j then (bif Nat.ble 31 j then (some (59, .ireturn, 32, 0, 0, 0)) else (some (56, .invokevirtual 159, 31, 5, 4, 0))) else (bif Nat.ble 29 j then (some (53, .invokevirtual 152, 30, 48, 1, 0)) else (some (52, .aload_n 0, 29, 0, 0, 0)))) else (bif Nat.ble 26 j then (bif Nat.ble 27 j then (some (51, .iconst 0, 28, 0, 0, 0)) else (some (48, .getfield 26, 27, 5, 2, 0))) else (bif Nat.ble 25 j then (some (47, .aload_n 0, 26, 0, 0, 0)) else (some (44, .getfield 33, 25, 5, 3, 0))))) else (bif Nat.ble 20 j then (bif Nat.ble 22 j then (bif Nat.ble 23 j then (some (43, .aload_n 0, 24, 0, 0, 0)) else (some (40, .invokevirtual 92, 23, 38, 1, 0))) else (bif Nat.ble 21 j then (some (39, .aload_n 0, 22, 0, 0, 0)) else (some (36, .invokevirtual 182, 21, 16, 3, 0)))) else (bif Nat.ble 18 j then (bif Nat.ble 19 j then (some (35, .iload_n 2, 20, 2, 0, 0)) else (some (34, .iload_n 1, 19, 1, 0, 0))) else (bif Nat.ble 17 j then (some (31, .getfield 19, 18, 5, 1, 0)) else (some (30, .aload_n 0, 17, 0, 0, 0)))))) else (bif Nat.ble 8 j then (bif Nat.ble 12 j then (bif Nat.ble 14 j then (bif Nat.ble 15 j then (some (27, .invokevirtual 179, 16, 55, 1, 0)) else (some (26, .aload_n 0, 15, 0, 0, 0))) else (bif Nat.ble 13 j then (some (25, .ireturn, 14, 0, 0, 0)) else (some (24, .iconst (-1), 13, 0, 0, (-1))))) else (bif Nat.ble 10 j then (bif Nat.ble 11 j then (some (21, .ifCond .ne 5, 12, 14, 0, 0)) else (some (18, .invokestatic 132, 11, 43, 2, 0))) else (bif Nat.ble 9 j then (some (17, .isub, 10, 0, 0, 0)) else (some (16, .iconst 1, 9, 0, 0, 1))))) else (bif Nat.ble 4 j then (bif Nat.ble 6 j then (bif Nat.ble 7 j then (some (13, .getfield 81, 8, 1, 2, 0)) else (some (10, .getfield 19, 7, 5, 1, 0))) else (bif Nat.ble 5 j then (some (9, .aload_n 0, 6, 0, 0, 0)) else (some (8, .iload_n 2, 5, 2, 0, 0)))) else (bif Nat.ble 2 j then (bif Nat.ble 3 j then (some (5, .ifCond .eq 19, 4, 12, 0, 0)) else (some (2, .invokevirtual 121, 3, 45, 2, 0))) else (bif Nat.ble 1 j then (some (1, .iload_n 1, 2, 1, 0, 0)) else (some (0, .aload_n 0, 1, 0, 0, 0)))))))
/-- MotionDesk.remember()V -/
def mr_De_remember (j : Nat) : Option mx_Row := bif Nat.ble 49 j then none else (bif Nat.ble 24 j then (bif Nat.ble 36 j then (bif Nat.ble 42 j then (bif Nat.ble 45 j then (bif Nat.ble 47 j then (bif Nat.ble 48 j then (some (84, .return_, 49, 0, 0, 0)) else (some (81, .putfield 47, 48, 5, 7, 0))) else (bif Nat.ble 46 j then (some (80, .iadd, 47, 0, 0, 0)) else (some (79, .iconst 1, 46, 0, 0, 1)))) else (bif Nat.ble 43 j then (bif Nat.ble 44 j then (some (76, .getfield 47, 45, 5, 7, 0)) else (some (75, .dup, 44, 0, 0, 0))) else (some (74, .aload_n 0, 43, 0, 0, 0)))) else (bif Nat.ble 39 j then (bif Nat.ble 40 j then (bif Nat.ble 41 j then (some (71, .invokevirtual 111, 42, 15, 2, 0)) else (some (68, .getfield 19, 41, 5, 1, 0))) else (some (67, .aload_n 0, 40, 0, 0, 0))) else (bif Nat.ble 37 j then (bif Nat.ble 38 j then (some (66, .aaload, 39, 0, 0, 0)) else (some (63, .getfield 47, 38, 5, 7, 0))) else (some (62, .aload_n 0, 37, 0, 0, 0))))) else (bif Nat.ble 30 j then (bif Nat.ble 33 j then (bif Nat.ble 34 j then (bif Nat.ble 35 j then (some (59, .getfield 43, 36, 5, 6, 0)) else (some (58, .aload_n 0, 35, 0, 0, 0))) else (some (55, .putfield 47, 34, 5, 7, 0))) else (bif Nat.ble 31 j then (bif Nat.ble 32 j then (some (53, .bipush 9, 33, 0, 0, 9)) else (some (52, .aload_n 0, 32, 0, 0, 0))) else (some (51, .aastore, 31, 0, 0, 0)))) else (bif Nat.ble 27 j then (bif Nat.ble 28 j then (bif Nat.ble 29 j then (some (50, .aload_n 1, 30, 1, 0, 0)) else (some (48, .bipush 9, 29, 0, 0, 9))) else (some (45, .getfield 43, 28, 5, 6, 0))) else (bif Nat.ble 25 j then (bif Nat.ble 26 j then (some (44, .aload_n 0, 27, 0, 0, 0)) else (some (41, .goto (-23), 11, 0, 0, 0))) else (some (38, .iinc 2 1, 25, 2, 0, 1)))))) else (bif Nat.ble 12 j then (bif Nat.ble 18 j then (bif Nat.ble 21 j then (bif Nat.ble 22 j then (bif Nat.ble 23 j then (some (37, .aastore, 24, 0, 0, 0)) else (some (36, .aaload, 23, 0, 0, 0))) else (some (35, .iload_n 2, 22, 2, 0, 0))) else (bif Nat.ble 19 j then (bif Nat.ble 20 j then (some (32, .getfield 43, 21, 5, 6, 0)) else (some (31, .aload_n 0, 20, 0, 0, 0))) else (some (30, .isub, 19, 0, 0, 0)))) else (bif Nat.ble 15 j then (bif Nat.ble 16 j then (bif Nat.ble 17 j then (some (29, .iconst 1, 18, 0, 0, 1)) else (some (28, .iload_n 2, 17, 2, 0, 0))) else (some (25, .getfield 43, 16, 5, 6, 0))) else (bif Nat.ble 13 j then (bif Nat.ble 14 j then (some (24, .aload_n 0, 15, 0, 0, 0)) else (some (21, .if_icmp .ge 23, 14, 26, 0, 0))) else (some (19, .bipush 10, 13, 0, 0, 10))))) else (bif Nat.ble 6 j then (bif Nat.ble 9 j then (bif Nat.ble 10 j then (bif Nat.ble 11 j then (some (18, .iload_n 2, 12, 2, 0, 0)) else (some (17, .istore_n 2, 11, 2, 0, 0))) else (some (16, .iconst 1, 10, 0, 0, 1))) else (bif Nat.ble 7 j then (bif Nat.ble 8 j then (some (15, .astore_n 1, 9, 1, 0, 0)) else (some (14, .aaload, 8, 0, 0, 0))) else (some (13, .iconst 0, 7, 0, 0, 0)))) else (bif Nat.ble 3 j then (bif Nat.ble 4 j then (bif Nat.ble 5 j then (some (10, .getfield 43, 6, 5, 6, 0)) else (some (9, .aload_n 0, 5, 0, 0, 0))) else (some (6, .if_icmp .lt 52, 4, 34, 0, 0))) else (bif Nat.ble 1 j then (bif Nat.ble 2 j then (some (4, .bipush 10, 3, 0, 0, 10)) else (some (1, .getfield 47, 2, 5, 7, 0))) else (some (0, .aload_n 0, 1, 0, 0, 0)))))))
/-- MotionDesk.swaps(I)I -/
def mr_De_swaps (j : Nat) : Option mx_Row := bif Nat.ble 34 j then none else (bif Nat.ble 17 j then (bif Nat.ble 25 j then (bif Nat.ble 29 j then (bif Nat.ble 31 j then (bif Nat.ble 32 j then (bif Nat.ble 33 j then (some (66, .ireturn, 34, 0, 0, 0)) else (some (63, .invokevirtual 155, 33, 4, 4, 0))) else (some (60, .invokevirtual 152, 32, 48, 1, 0))) else (bif Nat.ble 30 j then (some (59, .aload_n 0, 31, 0, 0, 0)) else (some (58, .iconst 0, 30, 0, 0, 0)))) else (bif Nat.ble 27 j then (bif Nat.ble 28 j then (some (55, .getfield 26, 29, 5, 2, 0)) else (some (54, .aload_n 0, 28, 0, 0, 0))) else (bif Nat.ble 26 j then (some (51, .getfield 33, 27, 5, 3, 0)) else (some (50, .aload_n 0, 26, 0, 0, 0))))) else (bif Nat.ble 21 j then (bif Nat.ble 23 j then (bif Nat.ble 24 j then (some (47, .invokevirtual 92, 25, 38, 1, 0)) else (some (46, .aload_n 0, 24, 0, 0, 0))) else (bif Nat.ble 22 j then (some (43, .invokevirtual 186, 23, 17, 3, 0)) else (some (42, .iload_n 1, 22, 1, 0, 0)))) else (bif Nat.ble 19 j then (bif Nat.ble 20 j then (some (39, .getfield 26, 21, 5, 2, 0)) else (some (38, .aload_n 0, 20, 0, 0, 0))) else (bif Nat.ble 18 j then (some (35, .getfield 19, 19, 5, 1, 0)) else (some (34, .aload_n 0, 18, 0, 0, 0)))))) else (bif Nat.ble 8 j then (bif Nat.ble 12 j then (bif Nat.ble 14 j then (bif Nat.ble 15 j then (bif Nat.ble 16 j then (some (31, .invokevirtual 179, 17, 55, 1, 0)) else (some (30, .aload_n 0, 16, 0, 0, 0))) else (some (29, .ireturn, 15, 0, 0, 0))) else (bif Nat.ble 13 j then (some (27, .bipush (-2), 14, 0, 0, (-2))) else (some (24, .ifCond .ne 6, 13, 15, 0, 0)))) else (bif Nat.ble 10 j then (bif Nat.ble 11 j then (some (21, .invokevirtual 136, 12, 33, 2, 0)) else (some (20, .iload_n 1, 11, 1, 0, 0))) else (bif Nat.ble 9 j then (some (17, .getfield 26, 10, 5, 2, 0)) else (some (16, .aload_n 0, 9, 0, 0, 0))))) else (bif Nat.ble 4 j then (bif Nat.ble 6 j then (bif Nat.ble 7 j then (some (15, .ireturn, 8, 0, 0, 0)) else (some (14, .iconst (-1), 7, 0, 0, (-1)))) else (bif Nat.ble 5 j then (some (11, .ifCond .ne 5, 6, 8, 0, 0)) else (some (8, .invokestatic 132, 5, 43, 2, 0)))) else (bif Nat.ble 2 j then (bif Nat.ble 3 j then (some (5, .getfield 131, 4, 4, 3, 0)) else (some (2, .getfield 26, 3, 5, 2, 0))) else (bif Nat.ble 1 j then (some (1, .aload_n 0, 2, 0, 0, 0)) else (some (0, .iload_n 1, 1, 1, 0, 0)))))))
/-- MotionDesk.sets(I)I -/
def mr_De_sets (j : Nat) : Option mx_Row := bif Nat.ble 26 j then none else (bif Nat.ble 13 j then (bif Nat.ble 19 j then (bif Nat.ble 22 j then (bif Nat.ble 24 j then (bif Nat.ble 25 j then (some (51, .ireturn, 26, 0, 0, 0)) else (some (48, .getfield 131, 25, 4, 3, 0))) else (bif Nat.ble 23 j then (some (45, .getfield 26, 24, 5, 2, 0)) else (some (44, .aload_n 0, 23, 0, 0, 0)))) else (bif Nat.ble 20 j then (bif Nat.ble 21 j then (some (41, .invokevirtual 92, 22, 38, 1, 0)) else (some (40, .aload_n 0, 21, 0, 0, 0))) else (some (37, .invokevirtual 88, 20, 12, 2, 0)))) else (bif Nat.ble 16 j then (bif Nat.ble 17 j then (bif Nat.ble 18 j then (some (34, .getfield 64, 19, 5, 11, 0)) else (some (33, .aload_n 0, 18, 0, 0, 0))) else (some (30, .getfield 19, 17, 5, 1, 0))) else (bif Nat.ble 14 j then (bif Nat.ble 15 j then (some (29, .aload_n 0, 16, 0, 0, 0)) else (some (26, .invokestatic 84, 15, 37, 3, 0))) else (some (23, .getfield 64, 14, 5, 11, 0))))) else (bif Nat.ble 6 j then (bif Nat.ble 9 j then (bif Nat.ble 11 j then (bif Nat.ble 12 j then (some (22, .aload_n 0, 13, 0, 0, 0)) else (some (19, .getfield 81, 12, 1, 2, 0))) else (bif Nat.ble 10 j then (some (16, .getfield 19, 11, 5, 1, 0)) else (some (15, .aload_n 0, 10, 0, 0, 0)))) else (bif Nat.ble 7 j then (bif Nat.ble 8 j then (some (14, .iload_n 1, 9, 1, 0, 0)) else (some (11, .invokevirtual 179, 8, 55, 1, 0))) else (some (10, .aload_n 0, 7, 0, 0, 0)))) else (bif Nat.ble 3 j then (bif Nat.ble 4 j then (bif Nat.ble 5 j then (some (9, .ireturn, 6, 0, 0, 0)) else (some (8, .iconst (-1), 5, 0, 0, (-1)))) else (some (5, .ifCond .ne 5, 4, 6, 0, 0))) else (bif Nat.ble 1 j then (bif Nat.ble 2 j then (some (2, .invokevirtual 190, 3, 58, 2, 0)) else (some (1, .iload_n 1, 2, 1, 0, 0))) else (some (0, .aload_n 0, 1, 0, 0, 0))))))
/-- MotionDesk.isOrder(I)Z -/
def mr_De_isOrder (j : Nat) : Option mx_Row := bif Nat.ble 5 j then none else (bif Nat.ble 2 j then (bif Nat.ble 3 j then (bif Nat.ble 4 j then (some (8, .ireturn, 5, 0, 0, 0)) else (some (5, .invokestatic 132, 4, 43, 2, 0))) else (some (2, .invokevirtual 196, 3, 59, 1, 0))) else (bif Nat.ble 1 j then (some (1, .aload_n 0, 2, 0, 0, 0)) else (some (0, .iload_n 1, 1, 1, 0, 0))))
/-- MotionDesk.orders()I -/
def mr_De_orders (j : Nat) : Option mx_Row := bif Nat.ble 6 j then none else (bif Nat.ble 3 j then (bif Nat.ble 4 j then (bif Nat.ble 5 j then (some (11, .ireturn, 6, 0, 0, 0)) else (some (10, .iaload, 5, 0, 0, 0))) else (some (7, .getfield 81, 4, 1, 2, 0))) else (bif Nat.ble 1 j then (bif Nat.ble 2 j then (some (4, .getfield 19, 3, 5, 1, 0)) else (some (3, .aload_n 0, 2, 0, 0, 0))) else (some (0, .getstatic 266, 1, 0, 0, 0))))
/-- MotionDesk.undo()I -/
def mr_De_undo (j : Nat) : Option mx_Row := bif Nat.ble 24 j then none else (bif Nat.ble 12 j then (bif Nat.ble 18 j then (bif Nat.ble 21 j then (bif Nat.ble 22 j then (bif Nat.ble 23 j then (some (44, .ireturn, 24, 0, 0, 0)) else (some (41, .getfield 47, 23, 5, 7, 0))) else (some (40, .aload_n 0, 22, 0, 0, 0))) else (bif Nat.ble 19 j then (bif Nat.ble 20 j then (some (37, .invokevirtual 92, 21, 38, 1, 0)) else (some (36, .aload_n 0, 20, 0, 0, 0))) else (some (33, .invokevirtual 111, 19, 15, 2, 0)))) else (bif Nat.ble 15 j then (bif Nat.ble 16 j then (bif Nat.ble 17 j then (some (32, .aaload, 18, 0, 0, 0)) else (some (29, .getfield 47, 17, 5, 7, 0))) else (some (28, .aload_n 0, 16, 0, 0, 0))) else (bif Nat.ble 13 j then (bif Nat.ble 14 j then (some (25, .getfield 43, 15, 5, 6, 0)) else (some (24, .aload_n 0, 14, 0, 0, 0))) else (some (21, .getfield 19, 13, 5, 1, 0))))) else (bif Nat.ble 6 j then (bif Nat.ble 9 j then (bif Nat.ble 10 j then (bif Nat.ble 11 j then (some (20, .aload_n 0, 12, 0, 0, 0)) else (some (17, .putfield 47, 11, 5, 7, 0))) else (some (16, .isub, 10, 0, 0, 0))) else (bif Nat.ble 7 j then (bif Nat.ble 8 j then (some (15, .iconst 1, 9, 0, 0, 1)) else (some (12, .getfield 47, 8, 5, 7, 0))) else (some (11, .dup, 7, 0, 0, 0)))) else (bif Nat.ble 3 j then (bif Nat.ble 4 j then (bif Nat.ble 5 j then (some (10, .aload_n 0, 6, 0, 0, 0)) else (some (9, .ireturn, 5, 0, 0, 0))) else (some (7, .bipush (-2), 4, 0, 0, (-2)))) else (bif Nat.ble 1 j then (bif Nat.ble 2 j then (some (4, .ifCond .gt 6, 3, 5, 0, 0)) else (some (1, .getfield 47, 2, 5, 7, 0))) else (some (0, .aload_n 0, 1, 0, 0, 0))))))
/-- MotionDesk.order(II)I -/
def mr_De_order (j : Nat) : Option mx_Row := bif Nat.ble 22 j then none else (bif Nat.ble 11 j then (bif Nat.ble 16 j then (bif Nat.ble 19 j then (bif Nat.ble 20 j then (bif Nat.ble 21 j then (some (39, .ireturn, 22, 0, 0, 0)) else (some (38, .iaload, 21, 0, 0, 0))) else (some (37, .iload_n 2, 20, 2, 0, 0))) else (bif Nat.ble 17 j then (bif Nat.ble 18 j then (some (34, .getfield 64, 19, 5, 11, 0)) else (some (33, .aload_n 0, 18, 0, 0, 0))) else (some (30, .invokestatic 84, 17, 37, 3, 0)))) else (bif Nat.ble 13 j then (bif Nat.ble 14 j then (bif Nat.ble 15 j then (some (27, .getfield 64, 16, 5, 11, 0)) else (some (26, .aload_n 0, 15, 0, 0, 0))) else (some (23, .getfield 81, 14, 1, 2, 0))) else (bif Nat.ble 12 j then (some (20, .getfield 19, 13, 5, 1, 0)) else (some (19, .aload_n 0, 12, 0, 0, 0))))) else (bif Nat.ble 5 j then (bif Nat.ble 8 j then (bif Nat.ble 9 j then (bif Nat.ble 10 j then (some (18, .iload_n 1, 11, 1, 0, 0)) else (some (17, .ireturn, 10, 0, 0, 0))) else (some (16, .iconst (-1), 9, 0, 0, (-1)))) else (bif Nat.ble 6 j then (bif Nat.ble 7 j then (some (13, .ifCond .ne 5, 8, 10, 0, 0)) else (some (10, .invokevirtual 125, 7, 46, 2, 0))) else (some (9, .iload_n 2, 6, 2, 0, 0)))) else (bif Nat.ble 2 j then (bif Nat.ble 3 j then (bif Nat.ble 4 j then (some (8, .aload_n 0, 5, 0, 0, 0)) else (some (5, .ifCond .eq 11, 4, 8, 0, 0))) else (some (2, .invokevirtual 190, 3, 58, 2, 0))) else (bif Nat.ble 1 j then (some (1, .iload_n 1, 2, 1, 0, 0)) else (some (0, .aload_n 0, 1, 0, 0, 0))))))
/-- MotionDesk.reach(III)I -/
def mr_De_reach (j : Nat) : Option mx_Row := bif Nat.ble 50 j then none else (bif Nat.ble 25 j then (bif Nat.ble 37 j then (bif Nat.ble 43 j then (bif Nat.ble 46 j then (bif Nat.ble 48 j then (bif Nat.ble 49 j then (some (101, .ireturn, 50, 0, 0, 0)) else (some (99, .iload 5, 49, 5, 0, 0))) else (bif Nat.ble 47 j then (some (96, .goto 5, 49, 0, 0, 0)) else (some (94, .iload 4, 47, 4, 0, 0)))) else (bif Nat.ble 44 j then (bif Nat.ble 45 j then (some (91, .ifCond .ne 8, 46, 48, 0, 0)) else (some (90, .iload_n 3, 45, 3, 0, 0))) else (some (87, .goto (-51), 20, 0, 0, 0)))) else (bif Nat.ble 40 j then (bif Nat.ble 41 j then (bif Nat.ble 42 j then (some (84, .iinc 6 1, 43, 6, 0, 1)) else (some (82, .istore 5, 42, 5, 0, 0))) else (some (80, .iload 6, 41, 6, 0, 0))) else (bif Nat.ble 38 j then (bif Nat.ble 39 j then (some (77, .if_icmp .ne 7, 40, 42, 0, 0)) else (some (75, .bipush (-9), 39, 0, 0, (-9)))) else (some (73, .iload 5, 38, 5, 0, 0))))) else (bif Nat.ble 31 j then (bif Nat.ble 34 j then (bif Nat.ble 35 j then (bif Nat.ble 36 j then (some (70, .iinc 4 1, 37, 4, 0, 1)) else (some (67, .if_icmp .ne 17, 36, 42, 0, 0))) else (some (66, .iload_n 1, 35, 1, 0, 0))) else (bif Nat.ble 32 j then (bif Nat.ble 33 j then (some (63, .invokevirtual 199, 34, 64, 2, 0)) else (some (62, .iload_n 2, 33, 2, 0, 0))) else (some (61, .aload_n 0, 32, 0, 0, 0)))) else (bif Nat.ble 28 j then (bif Nat.ble 29 j then (bif Nat.ble 30 j then (some (58, .invokestatic 84, 31, 37, 3, 0)) else (some (55, .getfield 64, 30, 5, 11, 0))) else (some (54, .aload_n 0, 29, 0, 0, 0))) else (bif Nat.ble 26 j then (bif Nat.ble 27 j then (some (51, .getfield 81, 28, 1, 2, 0)) else (some (48, .getfield 19, 27, 5, 1, 0))) else (some (47, .aload_n 0, 26, 0, 0, 0)))))) else (bif Nat.ble 12 j then (bif Nat.ble 18 j then (bif Nat.ble 21 j then (bif Nat.ble 23 j then (bif Nat.ble 24 j then (some (45, .iload 6, 25, 6, 0, 0)) else (some (42, .if_icmp .ge 48, 24, 44, 0, 0))) else (bif Nat.ble 22 j then (some (39, .invokevirtual 196, 23, 59, 1, 0)) else (some (38, .aload_n 0, 22, 0, 0, 0)))) else (bif Nat.ble 19 j then (bif Nat.ble 20 j then (some (36, .iload 6, 21, 6, 0, 0)) else (some (34, .istore 6, 20, 6, 0, 0))) else (some (33, .iconst 0, 19, 0, 0, 0)))) else (bif Nat.ble 15 j then (bif Nat.ble 16 j then (bif Nat.ble 17 j then (some (31, .istore 5, 18, 5, 0, 0)) else (some (29, .bipush (-9), 17, 0, 0, (-9)))) else (some (27, .istore 4, 16, 4, 0, 0))) else (bif Nat.ble 13 j then (bif Nat.ble 14 j then (some (26, .iconst 0, 15, 0, 0, 0)) else (some (25, .ireturn, 14, 0, 0, 0))) else (some (24, .iconst (-1), 13, 0, 0, (-1)))))) else (bif Nat.ble 6 j then (bif Nat.ble 9 j then (bif Nat.ble 10 j then (bif Nat.ble 11 j then (some (21, .ifCond .ne 5, 12, 14, 0, 0)) else (some (18, .invokestatic 132, 11, 43, 2, 0))) else (some (17, .iconst 2, 10, 0, 0, 2))) else (bif Nat.ble 7 j then (bif Nat.ble 8 j then (some (16, .iload_n 3, 9, 3, 0, 0)) else (some (13, .ifCond .eq 11, 8, 12, 0, 0))) else (some (10, .invokevirtual 193, 7, 63, 2, 0)))) else (bif Nat.ble 3 j then (bif Nat.ble 4 j then (bif Nat.ble 5 j then (some (9, .iload_n 2, 6, 2, 0, 0)) else (some (8, .aload_n 0, 5, 0, 0, 0))) else (some (5, .ifCond .eq 19, 4, 12, 0, 0))) else (bif Nat.ble 1 j then (bif Nat.ble 2 j then (some (2, .invokevirtual 125, 3, 46, 2, 0)) else (some (1, .iload_n 1, 2, 1, 0, 0))) else (some (0, .aload_n 0, 1, 0, 0, 0)))))))
/-- MotionDesk.isWay(I)Z -/
def mr_De_isWay (j : Nat) : Option mx_Row := bif Nat.ble 4 j then none else (bif Nat.ble 2 j then (bif Nat.ble 3 j then (some (5, .ireturn, 4, 0, 0, 0)) else (some (2, .invokestatic 132, 3, 43, 2, 0))) else (bif Nat.ble 1 j then (some (1, .iconst 2, 2, 0, 0, 2)) else (some (0, .iload_n 1, 1, 1, 0, 0))))
/-- MotionDesk.outcomeOfRow(I)I -/
def mr_De_outcomeOfRow (j : Nat) : Option mx_Row := bif Nat.ble 8 j then none else (bif Nat.ble 4 j then (bif Nat.ble 6 j then (bif Nat.ble 7 j then (some (15, .ireturn, 8, 0, 0, 0)) else (some (12, .invokevirtual 289, 7, 66, 1, 0))) else (bif Nat.ble 5 j then (some (11, .aload_n 0, 6, 0, 0, 0)) else (some (8, .goto 7, 7, 0, 0, 0)))) else (bif Nat.ble 2 j then (bif Nat.ble 3 j then (some (5, .invokevirtual 286, 4, 65, 1, 0)) else (some (4, .aload_n 0, 3, 0, 0, 0))) else (bif Nat.ble 1 j then (some (1, .ifCond .ne 10, 2, 5, 0, 0)) else (some (0, .iload_n 1, 1, 1, 0, 0)))))
/-- MotionDesk.sincereOfRow()I -/
def mr_De_sincereOfRow (j : Nat) : Option mx_Row := bif Nat.ble 42 j then none else (bif Nat.ble 21 j then (bif Nat.ble 31 j then (bif Nat.ble 36 j then (bif Nat.ble 39 j then (bif Nat.ble 40 j then (bif Nat.ble 41 j then (some (70, .ireturn, 42, 0, 0, 0)) else (some (69, .iload_n 1, 41, 1, 0, 0))) else (some (66, .goto (-57), 7, 0, 0, 0))) else (bif Nat.ble 37 j then (bif Nat.ble 38 j then (some (63, .iinc 2 1, 39, 2, 0, 1)) else (some (62, .istore_n 1, 38, 1, 0, 0))) else (some (61, .iaload, 37, 0, 0, 0)))) else (bif Nat.ble 33 j then (bif Nat.ble 34 j then (bif Nat.ble 35 j then (some (60, .iload_n 2, 36, 2, 0, 0)) else (some (57, .getfield 64, 35, 5, 11, 0))) else (some (56, .aload_n 0, 34, 0, 0, 0))) else (bif Nat.ble 32 j then (some (53, .if_icmp .ge 10, 33, 38, 0, 0)) else (some (52, .isub, 32, 0, 0, 0))))) else (bif Nat.ble 26 j then (bif Nat.ble 28 j then (bif Nat.ble 29 j then (bif Nat.ble 30 j then (some (51, .iload_n 3, 31, 3, 0, 0)) else (some (48, .getfield 223, 30, 1, 3, 0))) else (some (45, .getfield 19, 29, 5, 1, 0))) else (bif Nat.ble 27 j then (some (44, .aload_n 0, 28, 0, 0, 0)) else (some (43, .iload_n 3, 27, 3, 0, 0)))) else (bif Nat.ble 23 j then (bif Nat.ble 24 j then (bif Nat.ble 25 j then (some (42, .istore_n 3, 26, 3, 0, 0)) else (some (39, .invokestatic 165, 25, 147, 1, 0))) else (some (38, .iaload, 24, 0, 0, 0))) else (bif Nat.ble 22 j then (some (37, .iadd, 23, 0, 0, 0)) else (some (36, .iaload, 22, 0, 0, 0)))))) else (bif Nat.ble 10 j then (bif Nat.ble 15 j then (bif Nat.ble 18 j then (bif Nat.ble 19 j then (bif Nat.ble 20 j then (some (35, .iload_n 2, 21, 2, 0, 0)) else (some (32, .getfield 64, 20, 5, 11, 0))) else (some (31, .aload_n 0, 19, 0, 0, 0))) else (bif Nat.ble 16 j then (bif Nat.ble 17 j then (some (30, .imul, 18, 0, 0, 0)) else (some (28, .bipush 6, 17, 0, 0, 6))) else (some (27, .iload_n 1, 16, 1, 0, 0)))) else (bif Nat.ble 12 j then (bif Nat.ble 13 j then (bif Nat.ble 14 j then (some (24, .getfield 170, 15, 0, 1, 0)) else (some (21, .getfield 33, 14, 5, 3, 0))) else (some (20, .aload_n 0, 13, 0, 0, 0))) else (bif Nat.ble 11 j then (some (17, .if_icmp .ge 52, 12, 40, 0, 0)) else (some (14, .getfield 81, 11, 1, 2, 0))))) else (bif Nat.ble 5 j then (bif Nat.ble 7 j then (bif Nat.ble 8 j then (bif Nat.ble 9 j then (some (11, .getfield 19, 10, 5, 1, 0)) else (some (10, .aload_n 0, 9, 0, 0, 0))) else (some (9, .iload_n 2, 8, 2, 0, 0))) else (bif Nat.ble 6 j then (some (8, .istore_n 2, 7, 2, 0, 0)) else (some (7, .iconst 1, 6, 0, 0, 1)))) else (bif Nat.ble 2 j then (bif Nat.ble 3 j then (bif Nat.ble 4 j then (some (6, .istore_n 1, 5, 1, 0, 0)) else (some (5, .iaload, 4, 0, 0, 0))) else (some (4, .iconst 0, 3, 0, 0, 0))) else (bif Nat.ble 1 j then (some (1, .getfield 64, 2, 5, 11, 0)) else (some (0, .aload_n 0, 1, 0, 0, 0)))))))
/-- MotionDesk.foreseenOfRow()I -/
def mr_De_foreseenOfRow (j : Nat) : Option mx_Row := bif Nat.ble 67 j then none else (bif Nat.ble 33 j then (bif Nat.ble 50 j then (bif Nat.ble 58 j then (bif Nat.ble 62 j then (bif Nat.ble 64 j then (bif Nat.ble 65 j then (bif Nat.ble 66 j then (some (117, .ireturn, 67, 0, 0, 0)) else (some (116, .iaload, 66, 0, 0, 0))) else (some (115, .iaload, 65, 0, 0, 0))) else (bif Nat.ble 63 j then (some (114, .iconst 0, 64, 0, 0, 0)) else (some (111, .getfield 64, 63, 5, 11, 0)))) else (bif Nat.ble 60 j then (bif Nat.ble 61 j then (some (110, .aload_n 0, 62, 0, 0, 0)) else (some (107, .getfield 68, 61, 5, 12, 0))) else (bif Nat.ble 59 j then (some (106, .aload_n 0, 60, 0, 0, 0)) else (some (103, .goto (-67), 20, 0, 0, 0))))) else (bif Nat.ble 54 j then (bif Nat.ble 56 j then (bif Nat.ble 57 j then (some (100, .iinc 1 (-1), 58, 1, 0, (-1))) else (some (97, .goto (-42), 33, 0, 0, 0))) else (bif Nat.ble 55 j then (some (94, .iinc 3 1, 56, 3, 0, 1)) else (some (93, .iastore, 55, 0, 0, 0)))) else (bif Nat.ble 52 j then (bif Nat.ble 53 j then (some (90, .invokevirtual 292, 54, 6, 4, 0)) else (some (87, .invokevirtual 152, 53, 48, 1, 0))) else (bif Nat.ble 51 j then (some (86, .aload_n 0, 52, 0, 0, 0)) else (some (85, .iload_n 2, 51, 2, 0, 0)))))) else (bif Nat.ble 41 j then (bif Nat.ble 45 j then (bif Nat.ble 47 j then (bif Nat.ble 48 j then (bif Nat.ble 49 j then (some (84, .iaload, 50, 0, 0, 0)) else (some (82, .iload 4, 49, 4, 0, 0))) else (some (79, .getfield 68, 48, 5, 12, 0))) else (bif Nat.ble 46 j then (some (78, .aload_n 0, 47, 0, 0, 0)) else (some (75, .getfield 33, 46, 5, 3, 0)))) else (bif Nat.ble 43 j then (bif Nat.ble 44 j then (some (74, .aload_n 0, 45, 0, 0, 0)) else (some (72, .iload 4, 44, 4, 0, 0))) else (bif Nat.ble 42 j then (some (69, .getfield 68, 43, 5, 12, 0)) else (some (68, .aload_n 0, 42, 0, 0, 0))))) else (bif Nat.ble 37 j then (bif Nat.ble 39 j then (bif Nat.ble 40 j then (some (66, .istore 4, 41, 4, 0, 0)) else (some (65, .iaload, 40, 0, 0, 0))) else (bif Nat.ble 38 j then (some (64, .iload_n 3, 39, 3, 0, 0)) else (some (61, .getfield 64, 38, 5, 11, 0)))) else (bif Nat.ble 35 j then (bif Nat.ble 36 j then (some (60, .aload_n 0, 37, 0, 0, 0)) else (some (57, .if_icmp .ge 43, 36, 57, 0, 0))) else (bif Nat.ble 34 j then (some (56, .iload_n 1, 35, 1, 0, 0)) else (some (55, .iload_n 3, 34, 3, 0, 0))))))) else (bif Nat.ble 16 j then (bif Nat.ble 24 j then (bif Nat.ble 28 j then (bif Nat.ble 30 j then (bif Nat.ble 31 j then (bif Nat.ble 32 j then (some (54, .istore_n 3, 33, 3, 0, 0)) else (some (53, .iconst 0, 32, 0, 0, 0))) else (some (52, .istore_n 2, 31, 2, 0, 0))) else (bif Nat.ble 29 j then (some (51, .iaload, 30, 0, 0, 0)) else (some (50, .iaload, 29, 0, 0, 0)))) else (bif Nat.ble 26 j then (bif Nat.ble 27 j then (some (49, .iload_n 1, 28, 1, 0, 0)) else (some (46, .getfield 64, 27, 5, 11, 0))) else (bif Nat.ble 25 j then (some (45, .aload_n 0, 26, 0, 0, 0)) else (some (42, .getfield 68, 25, 5, 12, 0))))) else (bif Nat.ble 20 j then (bif Nat.ble 22 j then (bif Nat.ble 23 j then (some (41, .aload_n 0, 24, 0, 0, 0)) else (some (38, .if_icmp .lt 68, 23, 59, 0, 0))) else (bif Nat.ble 21 j then (some (37, .iconst 1, 22, 0, 0, 1)) else (some (36, .iload_n 1, 21, 1, 0, 0)))) else (bif Nat.ble 18 j then (bif Nat.ble 19 j then (some (35, .istore_n 1, 20, 1, 0, 0)) else (some (34, .isub, 19, 0, 0, 0))) else (bif Nat.ble 17 j then (some (33, .iconst 1, 18, 0, 0, 1)) else (some (30, .getfield 81, 17, 1, 2, 0)))))) else (bif Nat.ble 8 j then (bif Nat.ble 12 j then (bif Nat.ble 14 j then (bif Nat.ble 15 j then (some (27, .getfield 19, 16, 5, 1, 0)) else (some (26, .aload_n 0, 15, 0, 0, 0))) else (bif Nat.ble 13 j then (some (23, .goto (-21), 2, 0, 0, 0)) else (some (20, .iinc 1 1, 13, 1, 0, 1)))) else (bif Nat.ble 10 j then (bif Nat.ble 11 j then (some (19, .iastore, 12, 0, 0, 0)) else (some (18, .iload_n 1, 11, 1, 0, 0))) else (bif Nat.ble 9 j then (some (17, .iload_n 1, 10, 1, 0, 0)) else (some (14, .getfield 68, 9, 5, 12, 0))))) else (bif Nat.ble 4 j then (bif Nat.ble 6 j then (bif Nat.ble 7 j then (some (13, .aload_n 0, 8, 0, 0, 0)) else (some (10, .if_icmp .ge 16, 7, 14, 0, 0))) else (bif Nat.ble 5 j then (some (7, .getfield 81, 6, 1, 2, 0)) else (some (4, .getfield 19, 5, 5, 1, 0)))) else (bif Nat.ble 2 j then (bif Nat.ble 3 j then (some (3, .aload_n 0, 4, 0, 0, 0)) else (some (2, .iload_n 1, 3, 1, 0, 0))) else (bif Nat.ble 1 j then (some (1, .istore_n 1, 2, 1, 0, 0)) else (some (0, .iconst 0, 1, 0, 0, 0))))))))
/-- MotionDesk.better(III)I -/
def mr_De_better (j : Nat) : Option mx_Row := bif Nat.ble 122 j then none else (bif Nat.ble 61 j then (bif Nat.ble 91 j then (bif Nat.ble 106 j then (bif Nat.ble 114 j then (bif Nat.ble 118 j then (bif Nat.ble 120 j then (bif Nat.ble 121 j then (some (242, .ireturn, 122, 0, 0, 0)) else (some (240, .iload 7, 121, 7, 0, 0))) else (bif Nat.ble 119 j then (some (237, .goto 5, 121, 0, 0, 0)) else (some (234, .invokevirtual 220, 119, 44, 3, 0)))) else (bif Nat.ble 116 j then (bif Nat.ble 117 j then (some (232, .iload 6, 118, 6, 0, 0)) else (some (231, .iload_n 1, 117, 1, 0, 0))) else (bif Nat.ble 115 j then (some (230, .aload_n 0, 116, 0, 0, 0)) else (some (227, .if_icmp .ne 13, 115, 120, 0, 0))))) else (bif Nat.ble 110 j then (bif Nat.ble 112 j then (bif Nat.ble 113 j then (some (226, .iconst 1, 114, 0, 0, 1)) else (some (225, .iload_n 3, 113, 3, 0, 0))) else (bif Nat.ble 111 j then (some (224, .ireturn, 112, 0, 0, 0)) else (some (222, .iload 5, 111, 5, 0, 0)))) else (bif Nat.ble 108 j then (bif Nat.ble 109 j then (some (219, .ifCond .ne 6, 110, 112, 0, 0)) else (some (218, .iload_n 3, 109, 3, 0, 0))) else (bif Nat.ble 107 j then (some (215, .goto (-134), 42, 0, 0, 0)) else (some (212, .iinc 8 1, 107, 8, 0, 1)))))) else (bif Nat.ble 98 j then (bif Nat.ble 102 j then (bif Nat.ble 104 j then (bif Nat.ble 105 j then (some (210, .istore 7, 106, 7, 0, 0)) else (some (208, .iload 8, 105, 8, 0, 0))) else (bif Nat.ble 103 j then (some (206, .istore 6, 104, 6, 0, 0)) else (some (204, .iload 9, 103, 9, 0, 0)))) else (bif Nat.ble 100 j then (bif Nat.ble 101 j then (some (201, .if_icmp .ge 11, 102, 106, 0, 0)) else (some (199, .iload 6, 101, 6, 0, 0))) else (bif Nat.ble 99 j then (some (197, .iload 9, 100, 9, 0, 0)) else (some (194, .iinc 5 1, 99, 5, 0, 1))))) else (bif Nat.ble 94 j then (bif Nat.ble 96 j then (bif Nat.ble 97 j then (some (191, .if_icmp .ge 6, 98, 99, 0, 0)) else (some (189, .iload 4, 97, 4, 0, 0))) else (bif Nat.ble 95 j then (some (187, .iload 9, 96, 9, 0, 0)) else (some (185, .istore 9, 95, 9, 0, 0)))) else (bif Nat.ble 92 j then (bif Nat.ble 93 j then (some (182, .invokevirtual 205, 94, 18, 3, 0)) else (some (179, .invokevirtual 202, 93, 8, 4, 0))) else (some (176, .invokevirtual 152, 92, 48, 1, 0)))))) else (bif Nat.ble 76 j then (bif Nat.ble 83 j then (bif Nat.ble 87 j then (bif Nat.ble 89 j then (bif Nat.ble 90 j then (some (175, .aload_n 0, 91, 0, 0, 0)) else (some (174, .iload_n 2, 90, 2, 0, 0))) else (bif Nat.ble 88 j then (some (171, .getfield 26, 89, 5, 2, 0)) else (some (170, .aload_n 0, 88, 0, 0, 0)))) else (bif Nat.ble 85 j then (bif Nat.ble 86 j then (some (167, .getfield 37, 87, 5, 4, 0)) else (some (166, .aload_n 0, 86, 0, 0, 0))) else (bif Nat.ble 84 j then (some (165, .iload_n 1, 85, 1, 0, 0)) else (some (162, .getfield 19, 84, 5, 1, 0))))) else (bif Nat.ble 79 j then (bif Nat.ble 81 j then (bif Nat.ble 82 j then (some (161, .aload_n 0, 83, 0, 0, 0)) else (some (158, .invokevirtual 216, 82, 3, 5, 0))) else (bif Nat.ble 80 j then (some (157, .ishl, 81, 0, 0, 0)) else (some (156, .iload_n 1, 80, 1, 0, 0)))) else (bif Nat.ble 77 j then (bif Nat.ble 78 j then (some (155, .iconst 1, 79, 0, 0, 1)) else (some (152, .getfield 81, 78, 1, 2, 0))) else (some (149, .getfield 19, 77, 5, 1, 0))))) else (bif Nat.ble 68 j then (bif Nat.ble 72 j then (bif Nat.ble 74 j then (bif Nat.ble 75 j then (some (148, .aload_n 0, 76, 0, 0, 0)) else (some (147, .iconst 0, 75, 0, 0, 0))) else (bif Nat.ble 73 j then (some (144, .getfield 64, 74, 5, 11, 0)) else (some (143, .aload_n 0, 73, 0, 0, 0)))) else (bif Nat.ble 70 j then (bif Nat.ble 71 j then (some (140, .getfield 37, 72, 5, 4, 0)) else (some (139, .aload_n 0, 71, 0, 0, 0))) else (bif Nat.ble 69 j then (some (136, .goto 25, 82, 0, 0, 0)) else (some (133, .invokevirtual 212, 69, 2, 6, 0))))) else (bif Nat.ble 64 j then (bif Nat.ble 66 j then (bif Nat.ble 67 j then (some (132, .ishl, 68, 0, 0, 0)) else (some (131, .iload_n 1, 67, 1, 0, 0))) else (bif Nat.ble 65 j then (some (130, .iconst 1, 66, 0, 0, 1)) else (some (127, .getfield 81, 65, 1, 2, 0)))) else (bif Nat.ble 62 j then (bif Nat.ble 63 j then (some (124, .getfield 19, 64, 5, 1, 0)) else (some (123, .aload_n 0, 63, 0, 0, 0))) else (some (122, .iconst 0, 62, 0, 0, 0))))))) else (bif Nat.ble 30 j then (bif Nat.ble 45 j then (bif Nat.ble 53 j then (bif Nat.ble 57 j then (bif Nat.ble 59 j then (bif Nat.ble 60 j then (some (119, .getfield 64, 61, 5, 11, 0)) else (some (118, .aload_n 0, 60, 0, 0, 0))) else (bif Nat.ble 58 j then (some (115, .getfield 26, 59, 5, 2, 0)) else (some (114, .aload_n 0, 58, 0, 0, 0)))) else (bif Nat.ble 55 j then (bif Nat.ble 56 j then (some (111, .getfield 37, 57, 5, 4, 0)) else (some (110, .aload_n 0, 56, 0, 0, 0))) else (bif Nat.ble 54 j then (some (107, .ifCond .ne 32, 55, 70, 0, 0)) else (some (106, .iload_n 2, 54, 2, 0, 0))))) else (bif Nat.ble 49 j then (bif Nat.ble 51 j then (bif Nat.ble 52 j then (some (103, .invokestatic 84, 53, 37, 3, 0)) else (some (100, .getfield 64, 52, 5, 11, 0))) else (bif Nat.ble 50 j then (some (99, .aload_n 0, 51, 0, 0, 0)) else (some (96, .getfield 81, 50, 1, 2, 0)))) else (bif Nat.ble 47 j then (bif Nat.ble 48 j then (some (93, .getfield 19, 49, 5, 1, 0)) else (some (92, .aload_n 0, 48, 0, 0, 0))) else (bif Nat.ble 46 j then (some (90, .iload 8, 47, 8, 0, 0)) else (some (87, .if_icmp .ge 131, 46, 108, 0, 0)))))) else (bif Nat.ble 37 j then (bif Nat.ble 41 j then (bif Nat.ble 43 j then (bif Nat.ble 44 j then (some (84, .invokevirtual 196, 45, 59, 1, 0)) else (some (83, .aload_n 0, 44, 0, 0, 0))) else (bif Nat.ble 42 j then (some (81, .iload 8, 43, 8, 0, 0)) else (some (79, .istore 8, 42, 8, 0, 0)))) else (bif Nat.ble 39 j then (bif Nat.ble 40 j then (some (78, .iconst 0, 41, 0, 0, 0)) else (some (75, .invokevirtual 209, 40, 9, 2, 0))) else (bif Nat.ble 38 j then (some (72, .getfield 33, 39, 5, 3, 0)) else (some (71, .aload_n 0, 38, 0, 0, 0))))) else (bif Nat.ble 33 j then (bif Nat.ble 35 j then (bif Nat.ble 36 j then (some (68, .getfield 37, 37, 5, 4, 0)) else (some (67, .aload_n 0, 36, 0, 0, 0))) else (bif Nat.ble 34 j then (some (65, .istore 7, 35, 7, 0, 0)) else (some (64, .iconst 0, 34, 0, 0, 0)))) else (bif Nat.ble 31 j then (bif Nat.ble 32 j then (some (62, .istore 6, 33, 6, 0, 0)) else (some (59, .getfield 81, 32, 1, 2, 0))) else (some (56, .getfield 19, 31, 5, 1, 0)))))) else (bif Nat.ble 15 j then (bif Nat.ble 22 j then (bif Nat.ble 26 j then (bif Nat.ble 28 j then (bif Nat.ble 29 j then (some (55, .aload_n 0, 30, 0, 0, 0)) else (some (53, .istore 5, 29, 5, 0, 0))) else (bif Nat.ble 27 j then (some (52, .iconst 0, 28, 0, 0, 0)) else (some (50, .istore 4, 27, 4, 0, 0)))) else (bif Nat.ble 24 j then (bif Nat.ble 25 j then (some (47, .invokevirtual 205, 26, 18, 3, 0)) else (some (44, .invokevirtual 202, 25, 8, 4, 0))) else (bif Nat.ble 23 j then (some (41, .invokevirtual 152, 24, 48, 1, 0)) else (some (40, .aload_n 0, 23, 0, 0, 0))))) else (bif Nat.ble 18 j then (bif Nat.ble 20 j then (bif Nat.ble 21 j then (some (39, .iload_n 2, 22, 2, 0, 0)) else (some (36, .getfield 26, 21, 5, 2, 0))) else (bif Nat.ble 19 j then (some (35, .aload_n 0, 20, 0, 0, 0)) else (some (32, .getfield 33, 19, 5, 3, 0)))) else (bif Nat.ble 16 j then (bif Nat.ble 17 j then (some (31, .aload_n 0, 18, 0, 0, 0)) else (some (30, .iload_n 1, 17, 1, 0, 0))) else (some (27, .getfield 19, 16, 5, 1, 0))))) else (bif Nat.ble 7 j then (bif Nat.ble 11 j then (bif Nat.ble 13 j then (bif Nat.ble 14 j then (some (26, .aload_n 0, 15, 0, 0, 0)) else (some (25, .ireturn, 14, 0, 0, 0))) else (bif Nat.ble 12 j then (some (24, .iconst (-1), 13, 0, 0, (-1))) else (some (21, .ifCond .ne 5, 12, 14, 0, 0)))) else (bif Nat.ble 9 j then (bif Nat.ble 10 j then (some (18, .invokestatic 132, 11, 43, 2, 0)) else (some (17, .iconst 3, 10, 0, 0, 3))) else (bif Nat.ble 8 j then (some (16, .iload_n 3, 9, 3, 0, 0)) else (some (13, .ifCond .eq 11, 8, 12, 0, 0))))) else (bif Nat.ble 3 j then (bif Nat.ble 5 j then (bif Nat.ble 6 j then (some (10, .invokevirtual 193, 7, 63, 2, 0)) else (some (9, .iload_n 2, 6, 2, 0, 0))) else (bif Nat.ble 4 j then (some (8, .aload_n 0, 5, 0, 0, 0)) else (some (5, .ifCond .eq 19, 4, 12, 0, 0)))) else (bif Nat.ble 1 j then (bif Nat.ble 2 j then (some (2, .invokevirtual 121, 3, 45, 2, 0)) else (some (1, .iload_n 1, 2, 1, 0, 0))) else (some (0, .aload_n 0, 1, 0, 0, 0))))))))
/-- MotionDesk.won(III)I -/
def mr_De_won (j : Nat) : Option mx_Row := bif Nat.ble 93 j then none else (bif Nat.ble 46 j then (bif Nat.ble 69 j then (bif Nat.ble 81 j then (bif Nat.ble 87 j then (bif Nat.ble 90 j then (bif Nat.ble 91 j then (bif Nat.ble 92 j then (some (191, .ireturn, 93, 0, 0, 0)) else (some (189, .iload 5, 92, 5, 0, 0))) else (some (186, .goto 5, 92, 0, 0, 0))) else (bif Nat.ble 88 j then (bif Nat.ble 89 j then (some (184, .iload 4, 90, 4, 0, 0)) else (some (181, .if_icmp .eq 8, 89, 91, 0, 0))) else (some (179, .bipush (-9), 88, 0, 0, (-9))))) else (bif Nat.ble 84 j then (bif Nat.ble 85 j then (bif Nat.ble 86 j then (some (177, .iload 5, 87, 5, 0, 0)) else (some (174, .ifCond .ne 15, 86, 91, 0, 0))) else (some (173, .iload_n 3, 85, 3, 0, 0))) else (bif Nat.ble 82 j then (bif Nat.ble 83 j then (some (170, .goto (-71), 50, 0, 0, 0)) else (some (167, .iinc 6 1, 83, 6, 0, 1))) else (some (165, .istore 5, 82, 5, 0, 0))))) else (bif Nat.ble 75 j then (bif Nat.ble 78 j then (bif Nat.ble 79 j then (bif Nat.ble 80 j then (some (163, .iload 6, 81, 6, 0, 0)) else (some (161, .istore 4, 80, 4, 0, 0))) else (some (159, .iload 7, 79, 7, 0, 0))) else (bif Nat.ble 76 j then (bif Nat.ble 77 j then (some (156, .if_icmp .ne 11, 78, 82, 0, 0)) else (some (155, .iload_n 1, 77, 1, 0, 0))) else (some (152, .invokevirtual 202, 76, 8, 4, 0)))) else (bif Nat.ble 72 j then (bif Nat.ble 73 j then (bif Nat.ble 74 j then (some (149, .invokevirtual 152, 75, 48, 1, 0)) else (some (148, .aload_n 0, 74, 0, 0, 0))) else (some (147, .iload_n 2, 73, 2, 0, 0))) else (bif Nat.ble 70 j then (bif Nat.ble 71 j then (some (144, .getfield 26, 72, 5, 2, 0)) else (some (143, .aload_n 0, 71, 0, 0, 0))) else (some (140, .getfield 37, 70, 5, 4, 0)))))) else (bif Nat.ble 57 j then (bif Nat.ble 63 j then (bif Nat.ble 66 j then (bif Nat.ble 67 j then (bif Nat.ble 68 j then (some (139, .aload_n 0, 69, 0, 0, 0)) else (some (136, .invokevirtual 232, 68, 10, 4, 0))) else (some (134, .iload 6, 67, 6, 0, 0))) else (bif Nat.ble 64 j then (bif Nat.ble 65 j then (some (131, .getfield 40, 66, 5, 5, 0)) else (some (130, .aload_n 0, 65, 0, 0, 0))) else (some (127, .getfield 33, 64, 5, 3, 0)))) else (bif Nat.ble 60 j then (bif Nat.ble 61 j then (bif Nat.ble 62 j then (some (126, .aload_n 0, 63, 0, 0, 0)) else (some (123, .getfield 37, 62, 5, 4, 0))) else (some (122, .aload_n 0, 61, 0, 0, 0))) else (bif Nat.ble 58 j then (bif Nat.ble 59 j then (some (119, .if_icmp .ge 48, 60, 82, 0, 0)) else (some (117, .iload 4, 59, 4, 0, 0))) else (some (115, .iload 7, 58, 7, 0, 0))))) else (bif Nat.ble 51 j then (bif Nat.ble 54 j then (bif Nat.ble 55 j then (bif Nat.ble 56 j then (some (113, .istore 7, 57, 7, 0, 0)) else (some (110, .invokestatic 165, 56, 147, 1, 0))) else (some (108, .iload 6, 55, 6, 0, 0))) else (bif Nat.ble 52 j then (bif Nat.ble 53 j then (some (105, .if_icmp .gt 68, 54, 84, 0, 0)) else (some (102, .invokevirtual 152, 53, 48, 1, 0))) else (some (101, .aload_n 0, 52, 0, 0, 0)))) else (bif Nat.ble 48 j then (bif Nat.ble 49 j then (bif Nat.ble 50 j then (some (99, .iload 6, 51, 6, 0, 0)) else (some (97, .istore 6, 50, 6, 0, 0))) else (some (96, .iconst 0, 49, 0, 0, 0))) else (bif Nat.ble 47 j then (some (94, .istore 5, 48, 5, 0, 0)) else (some (92, .bipush (-9), 47, 0, 0, (-9)))))))) else (bif Nat.ble 23 j then (bif Nat.ble 34 j then (bif Nat.ble 40 j then (bif Nat.ble 43 j then (bif Nat.ble 44 j then (bif Nat.ble 45 j then (some (90, .istore 4, 46, 4, 0, 0)) else (some (88, .bipush 10, 45, 0, 0, 10))) else (some (85, .goto (-56), 16, 0, 0, 0))) else (bif Nat.ble 41 j then (bif Nat.ble 42 j then (some (82, .iinc 4 1, 43, 4, 0, 1)) else (some (79, .invokevirtual 229, 42, 1, 6, 0))) else (some (78, .ishl, 41, 0, 0, 0)))) else (bif Nat.ble 37 j then (bif Nat.ble 38 j then (bif Nat.ble 39 j then (some (76, .iload 4, 40, 4, 0, 0)) else (some (75, .iconst 1, 39, 0, 0, 1))) else (some (72, .getfield 81, 38, 1, 2, 0))) else (bif Nat.ble 35 j then (bif Nat.ble 36 j then (some (69, .getfield 19, 37, 5, 1, 0)) else (some (68, .aload_n 0, 36, 0, 0, 0))) else (some (67, .iconst 0, 35, 0, 0, 0))))) else (bif Nat.ble 28 j then (bif Nat.ble 31 j then (bif Nat.ble 32 j then (bif Nat.ble 33 j then (some (64, .getfield 64, 34, 5, 11, 0)) else (some (63, .aload_n 0, 33, 0, 0, 0))) else (some (60, .getfield 26, 32, 5, 2, 0))) else (bif Nat.ble 29 j then (bif Nat.ble 30 j then (some (59, .aload_n 0, 31, 0, 0, 0)) else (some (56, .getfield 40, 30, 5, 5, 0))) else (some (55, .aload_n 0, 29, 0, 0, 0)))) else (bif Nat.ble 25 j then (bif Nat.ble 26 j then (bif Nat.ble 27 j then (some (52, .invokevirtual 226, 28, 19, 4, 0)) else (some (49, .getfield 64, 27, 5, 11, 0))) else (some (48, .aload_n 0, 26, 0, 0, 0))) else (bif Nat.ble 24 j then (some (47, .iload_n 1, 25, 1, 0, 0)) else (some (45, .iload 4, 24, 4, 0, 0)))))) else (bif Nat.ble 11 j then (bif Nat.ble 17 j then (bif Nat.ble 20 j then (bif Nat.ble 21 j then (bif Nat.ble 22 j then (some (42, .getfield 19, 23, 5, 1, 0)) else (some (41, .aload_n 0, 22, 0, 0, 0))) else (some (38, .if_icmp .ge 50, 21, 44, 0, 0))) else (bif Nat.ble 18 j then (bif Nat.ble 19 j then (some (35, .getfield 223, 20, 1, 3, 0)) else (some (32, .getfield 19, 19, 5, 1, 0))) else (some (31, .aload_n 0, 18, 0, 0, 0)))) else (bif Nat.ble 14 j then (bif Nat.ble 15 j then (bif Nat.ble 16 j then (some (29, .iload 4, 17, 4, 0, 0)) else (some (27, .istore 4, 16, 4, 0, 0))) else (some (26, .iconst 0, 15, 0, 0, 0))) else (bif Nat.ble 12 j then (bif Nat.ble 13 j then (some (25, .ireturn, 14, 0, 0, 0)) else (some (24, .iconst (-1), 13, 0, 0, (-1)))) else (some (21, .ifCond .ne 5, 12, 14, 0, 0))))) else (bif Nat.ble 5 j then (bif Nat.ble 8 j then (bif Nat.ble 9 j then (bif Nat.ble 10 j then (some (18, .invokestatic 132, 11, 43, 2, 0)) else (some (17, .iconst 2, 10, 0, 0, 2))) else (some (16, .iload_n 3, 9, 3, 0, 0))) else (bif Nat.ble 6 j then (bif Nat.ble 7 j then (some (13, .ifCond .eq 11, 8, 12, 0, 0)) else (some (10, .invokevirtual 193, 7, 63, 2, 0))) else (some (9, .iload_n 2, 6, 2, 0, 0)))) else (bif Nat.ble 2 j then (bif Nat.ble 3 j then (bif Nat.ble 4 j then (some (8, .aload_n 0, 5, 0, 0, 0)) else (some (5, .ifCond .eq 19, 4, 12, 0, 0))) else (some (2, .invokevirtual 125, 3, 46, 2, 0))) else (bif Nat.ble 1 j then (some (1, .iload_n 1, 2, 1, 0, 0)) else (some (0, .aload_n 0, 1, 0, 0, 0))))))))
/-- MotionDesk.odds(IIII)I -/
def mr_De_odds (j : Nat) : Option mx_Row := bif Nat.ble 106 j then none else (bif Nat.ble 53 j then (bif Nat.ble 79 j then (bif Nat.ble 92 j then (bif Nat.ble 99 j then (bif Nat.ble 102 j then (bif Nat.ble 104 j then (bif Nat.ble 105 j then (some (205, .ireturn, 106, 0, 0, 0)) else (some (204, .l2i, 105, 0, 0, 0))) else (bif Nat.ble 103 j then (some (203, .ldiv, 104, 0, 0, 0)) else (some (201, .lload 9, 103, 9, 0, 0)))) else (bif Nat.ble 100 j then (bif Nat.ble 101 j then (some (199, .lload 7, 102, 7, 0, 0)) else (some (196, .goto 5, 102, 0, 0, 0))) else (some (194, .lload 5, 100, 5, 0, 0)))) else (bif Nat.ble 95 j then (bif Nat.ble 97 j then (bif Nat.ble 98 j then (some (191, .ifCond .ne 8, 99, 101, 0, 0)) else (some (189, .iload 4, 98, 4, 0, 0))) else (bif Nat.ble 96 j then (some (188, .ireturn, 97, 0, 0, 0)) else (some (186, .bipush (-9), 96, 0, 0, (-9))))) else (bif Nat.ble 93 j then (bif Nat.ble 94 j then (some (183, .ifCond .ne 6, 95, 97, 0, 0)) else (some (182, .lcmp, 94, 0, 0, 0))) else (some (181, .lconst 0, 93, 0, 0, 0))))) else (bif Nat.ble 85 j then (bif Nat.ble 88 j then (bif Nat.ble 90 j then (bif Nat.ble 91 j then (some (179, .lload 9, 92, 9, 0, 0)) else (some (177, .lstore 9, 91, 9, 0, 0))) else (bif Nat.ble 89 j then (some (174, .invokestatic 246, 90, 71, 2, 0)) else (some (172, .lload 7, 89, 7, 0, 0)))) else (bif Nat.ble 86 j then (bif Nat.ble 87 j then (some (170, .lload 5, 88, 5, 0, 0)) else (some (168, .lstore 7, 87, 7, 0, 0))) else (some (165, .invokestatic 242, 86, 70, 2, 0)))) else (bif Nat.ble 82 j then (bif Nat.ble 83 j then (bif Nat.ble 84 j then (some (162, .getfield 223, 85, 1, 3, 0)) else (some (159, .getfield 19, 84, 5, 1, 0))) else (some (158, .aload_n 0, 83, 0, 0, 0))) else (bif Nat.ble 80 j then (bif Nat.ble 81 j then (some (156, .bipush 10, 82, 0, 0, 10)) else (some (153, .goto (-53), 52, 0, 0, 0))) else (some (150, .iinc 7 1, 80, 7, 0, 1)))))) else (bif Nat.ble 66 j then (bif Nat.ble 72 j then (bif Nat.ble 75 j then (bif Nat.ble 77 j then (bif Nat.ble 78 j then (some (148, .lstore 5, 79, 5, 0, 0)) else (some (147, .ladd, 78, 0, 0, 0))) else (bif Nat.ble 76 j then (some (146, .lmul, 77, 0, 0, 0)) else (some (143, .invokestatic 242, 76, 70, 2, 0)))) else (bif Nat.ble 73 j then (bif Nat.ble 74 j then (some (142, .isub, 75, 0, 0, 0)) else (some (140, .iload 7, 74, 7, 0, 0))) else (some (137, .getfield 223, 73, 1, 3, 0)))) else (bif Nat.ble 69 j then (bif Nat.ble 70 j then (bif Nat.ble 71 j then (some (134, .getfield 19, 72, 5, 1, 0)) else (some (133, .aload_n 0, 71, 0, 0, 0))) else (some (132, .iload_n 1, 70, 1, 0, 0))) else (bif Nat.ble 67 j then (bif Nat.ble 68 j then (some (131, .lmul, 69, 0, 0, 0)) else (some (128, .invokestatic 242, 68, 70, 2, 0))) else (some (126, .iload 7, 67, 7, 0, 0))))) else (bif Nat.ble 59 j then (bif Nat.ble 62 j then (bif Nat.ble 64 j then (bif Nat.ble 65 j then (some (125, .isub, 66, 0, 0, 0)) else (some (124, .iload_n 1, 65, 1, 0, 0))) else (bif Nat.ble 63 j then (some (122, .bipush 10, 64, 0, 0, 10)) else (some (121, .i2l, 63, 0, 0, 0)))) else (bif Nat.ble 60 j then (bif Nat.ble 61 j then (some (120, .iaload, 62, 0, 0, 0)) else (some (118, .iload 7, 61, 7, 0, 0))) else (some (115, .getfield 71, 60, 5, 13, 0)))) else (bif Nat.ble 56 j then (bif Nat.ble 57 j then (bif Nat.ble 58 j then (some (114, .aload_n 0, 59, 0, 0, 0)) else (some (112, .lload 5, 58, 5, 0, 0))) else (some (109, .if_icmp .gt 47, 57, 81, 0, 0))) else (bif Nat.ble 54 j then (bif Nat.ble 55 j then (some (106, .getfield 223, 56, 1, 3, 0)) else (some (103, .getfield 19, 55, 5, 1, 0))) else (some (102, .aload_n 0, 54, 0, 0, 0))))))) else (bif Nat.ble 26 j then (bif Nat.ble 39 j then (bif Nat.ble 46 j then (bif Nat.ble 49 j then (bif Nat.ble 51 j then (bif Nat.ble 52 j then (some (100, .iload 7, 53, 7, 0, 0)) else (some (98, .istore 7, 52, 7, 0, 0))) else (bif Nat.ble 50 j then (some (97, .iconst 0, 51, 0, 0, 0)) else (some (95, .lstore 5, 50, 5, 0, 0)))) else (bif Nat.ble 47 j then (bif Nat.ble 48 j then (some (94, .lconst 0, 49, 0, 0, 0)) else (some (91, .goto (-44), 24, 0, 0, 0))) else (some (88, .iinc 5 1, 47, 5, 0, 1)))) else (bif Nat.ble 42 j then (bif Nat.ble 44 j then (bif Nat.ble 45 j then (some (87, .iastore, 46, 0, 0, 0)) else (some (86, .iadd, 45, 0, 0, 0))) else (bif Nat.ble 43 j then (some (85, .iconst 1, 44, 0, 0, 1)) else (some (84, .iaload, 43, 0, 0, 0)))) else (bif Nat.ble 40 j then (bif Nat.ble 41 j then (some (83, .dup2, 42, 0, 0, 0)) else (some (80, .invokestatic 165, 41, 147, 1, 0))) else (some (78, .iload 5, 40, 5, 0, 0))))) else (bif Nat.ble 32 j then (bif Nat.ble 35 j then (bif Nat.ble 37 j then (bif Nat.ble 38 j then (some (75, .getfield 71, 39, 5, 13, 0)) else (some (74, .aload_n 0, 38, 0, 0, 0))) else (bif Nat.ble 36 j then (some (71, .if_icmp .ne 17, 37, 46, 0, 0)) else (some (70, .iload_n 2, 36, 2, 0, 0)))) else (bif Nat.ble 33 j then (bif Nat.ble 34 j then (some (67, .invokevirtual 202, 35, 8, 4, 0)) else (some (65, .iload 5, 34, 5, 0, 0))) else (some (64, .iload_n 3, 33, 3, 0, 0)))) else (bif Nat.ble 29 j then (bif Nat.ble 30 j then (bif Nat.ble 31 j then (some (61, .getfield 26, 32, 5, 2, 0)) else (some (60, .aload_n 0, 31, 0, 0, 0))) else (some (57, .getfield 33, 30, 5, 3, 0))) else (bif Nat.ble 27 j then (bif Nat.ble 28 j then (some (56, .aload_n 0, 29, 0, 0, 0)) else (some (53, .if_icmp .gt 41, 28, 48, 0, 0))) else (some (50, .invokevirtual 152, 27, 48, 1, 0)))))) else (bif Nat.ble 13 j then (bif Nat.ble 19 j then (bif Nat.ble 22 j then (bif Nat.ble 24 j then (bif Nat.ble 25 j then (some (49, .aload_n 0, 26, 0, 0, 0)) else (some (47, .iload 5, 25, 5, 0, 0))) else (bif Nat.ble 23 j then (some (45, .istore 5, 24, 5, 0, 0)) else (some (44, .iconst 0, 23, 0, 0, 0)))) else (bif Nat.ble 20 j then (bif Nat.ble 21 j then (some (41, .invokestatic 236, 22, 149, 2, 0)) else (some (40, .iconst 0, 21, 0, 0, 0))) else (some (37, .getfield 71, 20, 5, 13, 0)))) else (bif Nat.ble 16 j then (bif Nat.ble 17 j then (bif Nat.ble 18 j then (some (36, .aload_n 0, 19, 0, 0, 0)) else (some (35, .ireturn, 18, 0, 0, 0))) else (some (34, .iconst (-1), 17, 0, 0, (-1)))) else (bif Nat.ble 14 j then (bif Nat.ble 15 j then (some (31, .ifCond .ne 5, 16, 18, 0, 0)) else (some (28, .invokestatic 132, 15, 43, 2, 0))) else (some (27, .iconst 2, 14, 0, 0, 2))))) else (bif Nat.ble 6 j then (bif Nat.ble 9 j then (bif Nat.ble 11 j then (bif Nat.ble 12 j then (some (25, .iload 4, 13, 4, 0, 0)) else (some (22, .ifCond .eq 12, 12, 16, 0, 0))) else (bif Nat.ble 10 j then (some (19, .invokevirtual 193, 11, 63, 2, 0)) else (some (18, .iload_n 3, 10, 3, 0, 0)))) else (bif Nat.ble 7 j then (bif Nat.ble 8 j then (some (17, .aload_n 0, 9, 0, 0, 0)) else (some (14, .ifCond .eq 20, 8, 16, 0, 0))) else (some (11, .invokevirtual 125, 7, 46, 2, 0)))) else (bif Nat.ble 3 j then (bif Nat.ble 4 j then (bif Nat.ble 5 j then (some (10, .iload_n 2, 6, 2, 0, 0)) else (some (9, .aload_n 0, 5, 0, 0, 0))) else (some (6, .ifCond .eq 28, 4, 16, 0, 0))) else (bif Nat.ble 1 j then (bif Nat.ble 2 j then (some (3, .invokestatic 132, 3, 43, 2, 0)) else (some (1, .bipush 11, 2, 0, 0, 11))) else (some (0, .iload_n 1, 1, 1, 0, 0))))))))
/-- MotionDesk.power(II)J -/
def mr_De_power (j : Nat) : Option mx_Row := bif Nat.ble 16 j then none else (bif Nat.ble 8 j then (bif Nat.ble 12 j then (bif Nat.ble 14 j then (bif Nat.ble 15 j then (some (23, .lreturn, 16, 0, 0, 0)) else (some (22, .lload_n 2, 15, 2, 0, 0))) else (bif Nat.ble 13 j then (some (19, .goto (-14), 4, 0, 0, 0)) else (some (16, .iinc 4 1, 13, 4, 0, 1)))) else (bif Nat.ble 10 j then (bif Nat.ble 11 j then (some (15, .lstore_n 2, 12, 2, 0, 0)) else (some (14, .lmul, 11, 0, 0, 0))) else (bif Nat.ble 9 j then (some (13, .i2l, 10, 0, 0, 0)) else (some (12, .iload_n 0, 9, 0, 0, 0))))) else (bif Nat.ble 4 j then (bif Nat.ble 6 j then (bif Nat.ble 7 j then (some (11, .lload_n 2, 8, 2, 0, 0)) else (some (8, .if_icmp .ge 14, 7, 14, 0, 0))) else (bif Nat.ble 5 j then (some (7, .iload_n 1, 6, 1, 0, 0)) else (some (5, .iload 4, 5, 4, 0, 0)))) else (bif Nat.ble 2 j then (bif Nat.ble 3 j then (some (3, .istore 4, 4, 4, 0, 0)) else (some (2, .iconst 0, 3, 0, 0, 0))) else (bif Nat.ble 1 j then (some (1, .lstore_n 2, 2, 2, 0, 0)) else (some (0, .lconst 1, 1, 1, 0, 0))))))
/-- MotionDesk.commonDivisor(JJ)J -/
def mr_De_commonDivisor (j : Nat) : Option mx_Row := bif Nat.ble 25 j then none else (bif Nat.ble 12 j then (bif Nat.ble 18 j then (bif Nat.ble 21 j then (bif Nat.ble 23 j then (bif Nat.ble 24 j then (some (47, .lreturn, 25, 0, 0, 0)) else (some (45, .lload 4, 24, 4, 0, 0))) else (bif Nat.ble 22 j then (some (42, .goto (-33), 6, 0, 0, 0)) else (some (39, .iinc 8 1, 22, 8, 0, 1)))) else (bif Nat.ble 19 j then (bif Nat.ble 20 j then (some (37, .lstore 6, 21, 6, 0, 0)) else (some (35, .lload 9, 20, 9, 0, 0))) else (some (33, .lstore 4, 19, 4, 0, 0)))) else (bif Nat.ble 15 j then (bif Nat.ble 16 j then (bif Nat.ble 17 j then (some (31, .lload 6, 18, 6, 0, 0)) else (some (29, .lstore 9, 17, 9, 0, 0))) else (some (28, .lrem, 16, 0, 0, 0))) else (bif Nat.ble 13 j then (bif Nat.ble 14 j then (some (26, .lload 6, 15, 6, 0, 0)) else (some (24, .lload 4, 14, 4, 0, 0))) else (some (21, .ifCond .eq 24, 13, 23, 0, 0))))) else (bif Nat.ble 6 j then (bif Nat.ble 9 j then (bif Nat.ble 10 j then (bif Nat.ble 11 j then (some (20, .lcmp, 12, 0, 0, 0)) else (some (19, .lconst 0, 11, 0, 0, 0))) else (some (17, .lload 6, 10, 6, 0, 0))) else (bif Nat.ble 7 j then (bif Nat.ble 8 j then (some (14, .if_icmp .ge 31, 9, 23, 0, 0)) else (some (11, .sipush 1000, 8, 0, 0, 1000))) else (some (9, .iload 8, 7, 8, 0, 0)))) else (bif Nat.ble 3 j then (bif Nat.ble 4 j then (bif Nat.ble 5 j then (some (7, .istore 8, 6, 8, 0, 0)) else (some (6, .iconst 0, 5, 0, 0, 0))) else (some (4, .lstore 6, 4, 6, 0, 0))) else (bif Nat.ble 1 j then (bif Nat.ble 2 j then (some (3, .lload_n 2, 3, 2, 0, 0)) else (some (1, .lstore 4, 2, 4, 0, 0))) else (some (0, .lload_n 0, 1, 0, 0, 0))))))
/-- MotionDesk.sees(II)I -/
def mr_De_sees (j : Nat) : Option mx_Row := bif Nat.ble 50 j then none else (bif Nat.ble 25 j then (bif Nat.ble 37 j then (bif Nat.ble 43 j then (bif Nat.ble 46 j then (bif Nat.ble 48 j then (bif Nat.ble 49 j then (some (100, .ireturn, 50, 0, 0, 0)) else (some (97, .getfield 118, 49, 2, 3, 0))) else (bif Nat.ble 47 j then (some (94, .getfield 60, 48, 5, 10, 0)) else (some (93, .aload_n 0, 47, 0, 0, 0)))) else (bif Nat.ble 44 j then (bif Nat.ble 45 j then (some (90, .invokevirtual 250, 46, 20, 4, 0)) else (some (89, .iload_n 2, 45, 2, 0, 0))) else (some (88, .iaload, 44, 0, 0, 0)))) else (bif Nat.ble 40 j then (bif Nat.ble 41 j then (bif Nat.ble 42 j then (some (85, .invokevirtual 146, 43, 35, 2, 0)) else (some (84, .iload_n 1, 42, 1, 0, 0))) else (some (81, .getfield 26, 41, 5, 2, 0))) else (bif Nat.ble 38 j then (bif Nat.ble 39 j then (some (80, .aload_n 0, 40, 0, 0, 0)) else (some (77, .getfield 149, 39, 4, 2, 0))) else (some (74, .getfield 26, 38, 5, 2, 0))))) else (bif Nat.ble 31 j then (bif Nat.ble 34 j then (bif Nat.ble 35 j then (bif Nat.ble 36 j then (some (73, .aload_n 0, 37, 0, 0, 0)) else (some (72, .iaload, 36, 0, 0, 0))) else (some (69, .invokevirtual 142, 35, 34, 2, 0))) else (bif Nat.ble 32 j then (bif Nat.ble 33 j then (some (68, .iload_n 1, 34, 1, 0, 0)) else (some (65, .getfield 26, 33, 5, 2, 0))) else (some (64, .aload_n 0, 32, 0, 0, 0)))) else (bif Nat.ble 28 j then (bif Nat.ble 29 j then (bif Nat.ble 30 j then (some (61, .getfield 149, 31, 4, 2, 0)) else (some (58, .getfield 26, 30, 5, 2, 0))) else (some (57, .aload_n 0, 29, 0, 0, 0))) else (bif Nat.ble 26 j then (bif Nat.ble 27 j then (some (54, .getfield 60, 28, 5, 10, 0)) else (some (53, .aload_n 0, 27, 0, 0, 0))) else (some (52, .ireturn, 26, 0, 0, 0)))))) else (bif Nat.ble 12 j then (bif Nat.ble 18 j then (bif Nat.ble 21 j then (bif Nat.ble 23 j then (bif Nat.ble 24 j then (some (50, .bipush (-3), 25, 0, 0, (-3))) else (some (47, .if_icmp .lt 6, 24, 26, 0, 0))) else (bif Nat.ble 22 j then (some (45, .bipush 6, 23, 0, 0, 6)) else (some (42, .getfield 118, 22, 2, 3, 0)))) else (bif Nat.ble 19 j then (bif Nat.ble 20 j then (some (39, .getfield 60, 21, 5, 10, 0)) else (some (38, .aload_n 0, 20, 0, 0, 0))) else (some (37, .ireturn, 19, 0, 0, 0)))) else (bif Nat.ble 15 j then (bif Nat.ble 16 j then (bif Nat.ble 17 j then (some (35, .bipush (-2), 18, 0, 0, (-2))) else (some (32, .ifCond .ne 6, 17, 19, 0, 0))) else (some (29, .invokevirtual 136, 16, 33, 2, 0))) else (bif Nat.ble 13 j then (bif Nat.ble 14 j then (some (28, .iload_n 1, 15, 1, 0, 0)) else (some (25, .getfield 26, 14, 5, 2, 0))) else (some (24, .aload_n 0, 13, 0, 0, 0))))) else (bif Nat.ble 6 j then (bif Nat.ble 9 j then (bif Nat.ble 10 j then (bif Nat.ble 11 j then (some (23, .ireturn, 12, 0, 0, 0)) else (some (22, .iconst (-1), 11, 0, 0, (-1)))) else (some (19, .ifCond .ne 5, 10, 12, 0, 0))) else (bif Nat.ble 7 j then (bif Nat.ble 8 j then (some (16, .invokestatic 132, 9, 43, 2, 0)) else (some (15, .iconst 2, 8, 0, 0, 2))) else (some (14, .iload_n 2, 7, 2, 0, 0)))) else (bif Nat.ble 3 j then (bif Nat.ble 4 j then (bif Nat.ble 5 j then (some (11, .ifCond .eq 11, 6, 10, 0, 0)) else (some (8, .invokestatic 132, 5, 43, 2, 0))) else (some (5, .getfield 131, 4, 4, 3, 0))) else (bif Nat.ble 1 j then (bif Nat.ble 2 j then (some (2, .getfield 26, 3, 5, 2, 0)) else (some (1, .aload_n 0, 2, 0, 0, 0))) else (some (0, .iload_n 1, 1, 1, 0, 0)))))))
/-- MotionDesk.forget()I -/
def mr_De_forget (j : Nat) : Option mx_Row := bif Nat.ble 10 j then none else (bif Nat.ble 5 j then (bif Nat.ble 7 j then (bif Nat.ble 8 j then (bif Nat.ble 9 j then (some (17, .ireturn, 10, 0, 0, 0)) else (some (16, .iload_n 1, 9, 1, 0, 0))) else (some (13, .putfield 118, 8, 2, 3, 0))) else (bif Nat.ble 6 j then (some (12, .iconst 0, 7, 0, 0, 0)) else (some (9, .getfield 60, 6, 5, 10, 0)))) else (bif Nat.ble 2 j then (bif Nat.ble 3 j then (bif Nat.ble 4 j then (some (8, .aload_n 0, 5, 0, 0, 0)) else (some (7, .istore_n 1, 4, 1, 0, 0))) else (some (4, .getfield 118, 3, 2, 3, 0))) else (bif Nat.ble 1 j then (some (1, .getfield 60, 2, 5, 10, 0)) else (some (0, .aload_n 0, 1, 0, 0, 0)))))
/-- MotionDesk.rankings(I)I -/
def mr_De_rankings (j : Nat) : Option mx_Row := bif Nat.ble 46 j then none else (bif Nat.ble 23 j then (bif Nat.ble 34 j then (bif Nat.ble 40 j then (bif Nat.ble 43 j then (bif Nat.ble 44 j then (bif Nat.ble 45 j then (some (91, .ireturn, 46, 0, 0, 0)) else (some (90, .iload_n 3, 45, 3, 0, 0))) else (some (87, .goto 4, 45, 0, 0, 0))) else (bif Nat.ble 41 j then (bif Nat.ble 42 j then (some (86, .iload_n 2, 43, 2, 0, 0)) else (some (83, .ifCond .ne 7, 42, 44, 0, 0))) else (some (82, .iload_n 1, 41, 1, 0, 0)))) else (bif Nat.ble 37 j then (bif Nat.ble 38 j then (bif Nat.ble 39 j then (some (79, .goto (-61), 12, 0, 0, 0)) else (some (76, .iinc 4 1, 39, 4, 0, 1))) else (some (75, .istore_n 3, 38, 3, 0, 0))) else (bif Nat.ble 35 j then (bif Nat.ble 36 j then (some (73, .iload 4, 37, 4, 0, 0)) else (some (70, .if_icmp .ne 6, 36, 38, 0, 0))) else (some (68, .bipush (-9), 35, 0, 0, (-9)))))) else (bif Nat.ble 28 j then (bif Nat.ble 31 j then (bif Nat.ble 32 j then (bif Nat.ble 33 j then (some (67, .iload_n 3, 34, 3, 0, 0)) else (some (64, .iinc 2 1, 33, 2, 0, 1))) else (some (61, .ifCond .eq 15, 32, 38, 0, 0))) else (bif Nat.ble 29 j then (bif Nat.ble 30 j then (some (58, .invokevirtual 254, 31, 21, 3, 0)) else (some (55, .getfield 81, 30, 1, 2, 0))) else (some (52, .getfield 19, 29, 5, 1, 0)))) else (bif Nat.ble 25 j then (bif Nat.ble 26 j then (bif Nat.ble 27 j then (some (51, .aload_n 0, 28, 0, 0, 0)) else (some (48, .getfield 64, 27, 5, 11, 0))) else (some (47, .aload_n 0, 26, 0, 0, 0))) else (bif Nat.ble 24 j then (some (44, .getfield 60, 25, 5, 10, 0)) else (some (43, .aload_n 0, 24, 0, 0, 0)))))) else (bif Nat.ble 11 j then (bif Nat.ble 17 j then (bif Nat.ble 20 j then (bif Nat.ble 21 j then (bif Nat.ble 22 j then (some (40, .invokestatic 84, 23, 37, 3, 0)) else (some (37, .getfield 64, 22, 5, 11, 0))) else (some (36, .aload_n 0, 21, 0, 0, 0))) else (bif Nat.ble 18 j then (bif Nat.ble 19 j then (some (33, .getfield 81, 20, 1, 2, 0)) else (some (30, .getfield 19, 19, 5, 1, 0))) else (some (29, .aload_n 0, 18, 0, 0, 0)))) else (bif Nat.ble 14 j then (bif Nat.ble 15 j then (bif Nat.ble 16 j then (some (27, .iload 4, 17, 4, 0, 0)) else (some (24, .if_icmp .ge 58, 16, 40, 0, 0))) else (some (21, .invokevirtual 196, 15, 59, 1, 0))) else (bif Nat.ble 12 j then (bif Nat.ble 13 j then (some (20, .aload_n 0, 14, 0, 0, 0)) else (some (18, .iload 4, 13, 4, 0, 0))) else (some (16, .istore 4, 12, 4, 0, 0))))) else (bif Nat.ble 5 j then (bif Nat.ble 8 j then (bif Nat.ble 9 j then (bif Nat.ble 10 j then (some (15, .iconst 0, 11, 0, 0, 0)) else (some (14, .istore_n 3, 10, 3, 0, 0))) else (some (12, .bipush (-9), 9, 0, 0, (-9)))) else (bif Nat.ble 6 j then (bif Nat.ble 7 j then (some (11, .istore_n 2, 8, 2, 0, 0)) else (some (10, .iconst 0, 7, 0, 0, 0))) else (some (9, .ireturn, 6, 0, 0, 0)))) else (bif Nat.ble 2 j then (bif Nat.ble 3 j then (bif Nat.ble 4 j then (some (8, .iconst (-1), 5, 0, 0, (-1))) else (some (5, .ifCond .ne 5, 4, 6, 0, 0))) else (some (2, .invokestatic 132, 3, 43, 2, 0))) else (bif Nat.ble 1 j then (some (1, .iconst 2, 2, 0, 0, 2)) else (some (0, .iload_n 1, 1, 1, 0, 0)))))))
/-- MotionDesk.watch()I -/
def mr_De_watch (j : Nat) : Option mx_Row := bif Nat.ble 49 j then none else (bif Nat.ble 24 j then (bif Nat.ble 36 j then (bif Nat.ble 42 j then (bif Nat.ble 45 j then (bif Nat.ble 47 j then (bif Nat.ble 48 j then (some (87, .ireturn, 49, 0, 0, 0)) else (some (86, .iload_n 2, 48, 2, 0, 0))) else (bif Nat.ble 46 j then (some (83, .goto (-60), 16, 0, 0, 0)) else (some (80, .iinc 4 1, 46, 4, 0, 1)))) else (bif Nat.ble 43 j then (bif Nat.ble 44 j then (some (79, .istore_n 2, 45, 2, 0, 0)) else (some (77, .iload 4, 44, 4, 0, 0))) else (some (76, .istore_n 3, 43, 3, 0, 0)))) else (bif Nat.ble 39 j then (bif Nat.ble 40 j then (bif Nat.ble 41 j then (some (74, .iload 5, 42, 5, 0, 0)) else (some (71, .if_icmp .ge 9, 41, 45, 0, 0))) else (some (70, .iload_n 3, 40, 3, 0, 0))) else (bif Nat.ble 37 j then (bif Nat.ble 38 j then (some (68, .iload 5, 39, 5, 0, 0)) else (some (65, .ifCond .eq 15, 38, 45, 0, 0))) else (some (62, .invokevirtual 136, 37, 33, 2, 0))))) else (bif Nat.ble 30 j then (bif Nat.ble 33 j then (bif Nat.ble 34 j then (bif Nat.ble 35 j then (some (60, .iload 4, 36, 4, 0, 0)) else (some (57, .getfield 26, 35, 5, 2, 0))) else (some (56, .aload_n 0, 34, 0, 0, 0))) else (bif Nat.ble 31 j then (bif Nat.ble 32 j then (some (54, .istore 5, 33, 5, 0, 0)) else (some (51, .invokestatic 261, 32, 0, 98, 0))) else (some (50, .isub, 31, 0, 0, 0)))) else (bif Nat.ble 27 j then (bif Nat.ble 28 j then (bif Nat.ble 29 j then (some (49, .iaload, 30, 0, 0, 0)) else (some (47, .iload 4, 29, 4, 0, 0))) else (some (44, .getfield 74, 28, 5, 14, 0))) else (bif Nat.ble 25 j then (bif Nat.ble 26 j then (some (43, .aload_n 0, 27, 0, 0, 0)) else (some (42, .iload_n 1, 26, 1, 0, 0))) else (some (41, .iaload, 25, 0, 0, 0)))))) else (bif Nat.ble 12 j then (bif Nat.ble 18 j then (bif Nat.ble 21 j then (bif Nat.ble 22 j then (bif Nat.ble 23 j then (some (39, .iload 4, 24, 4, 0, 0)) else (some (36, .getfield 74, 23, 5, 14, 0))) else (some (35, .aload_n 0, 22, 0, 0, 0))) else (bif Nat.ble 19 j then (bif Nat.ble 20 j then (some (32, .if_icmp .ge 54, 21, 47, 0, 0)) else (some (29, .getfield 131, 20, 4, 3, 0))) else (some (26, .getfield 26, 19, 5, 2, 0)))) else (bif Nat.ble 15 j then (bif Nat.ble 16 j then (bif Nat.ble 17 j then (some (25, .aload_n 0, 18, 0, 0, 0)) else (some (23, .iload 4, 17, 4, 0, 0))) else (some (21, .istore 4, 16, 4, 0, 0))) else (bif Nat.ble 13 j then (bif Nat.ble 14 j then (some (20, .iconst 0, 15, 0, 0, 0)) else (some (19, .istore_n 3, 14, 3, 0, 0))) else (some (18, .iadd, 13, 0, 0, 0))))) else (bif Nat.ble 6 j then (bif Nat.ble 9 j then (bif Nat.ble 10 j then (bif Nat.ble 11 j then (some (17, .iconst 1, 12, 0, 0, 1)) else (some (16, .iload_n 1, 11, 1, 0, 0))) else (some (15, .istore_n 2, 10, 2, 0, 0))) else (bif Nat.ble 7 j then (bif Nat.ble 8 j then (some (13, .bipush (-9), 9, 0, 0, (-9))) else (some (12, .ireturn, 8, 0, 0, 0))) else (some (10, .bipush (-9), 7, 0, 0, (-9))))) else (bif Nat.ble 3 j then (bif Nat.ble 4 j then (bif Nat.ble 5 j then (some (7, .if_icmp .gt 6, 6, 8, 0, 0)) else (some (6, .iconst 1, 5, 0, 0, 1))) else (some (5, .iload_n 1, 4, 1, 0, 0))) else (bif Nat.ble 1 j then (bif Nat.ble 2 j then (some (4, .istore_n 1, 3, 1, 0, 0)) else (some (1, .invokevirtual 258, 2, 76, 1, 0))) else (some (0, .aload_n 0, 1, 0, 0, 0)))))))
/-- MotionDesk.countFirsts()I -/
def mr_De_countFirsts (j : Nat) : Option mx_Row := bif Nat.ble 67 j then none else (bif Nat.ble 33 j then (bif Nat.ble 50 j then (bif Nat.ble 58 j then (bif Nat.ble 62 j then (bif Nat.ble 64 j then (bif Nat.ble 65 j then (bif Nat.ble 66 j then (some (132, .ireturn, 67, 0, 0, 0)) else (some (131, .iload_n 1, 66, 1, 0, 0))) else (some (128, .goto (-116), 8, 0, 0, 0))) else (bif Nat.ble 63 j then (some (125, .iinc 2 1, 64, 2, 0, 1)) else (some (122, .goto (-58), 32, 0, 0, 0)))) else (bif Nat.ble 60 j then (bif Nat.ble 61 j then (some (119, .iinc 3 1, 62, 3, 0, 1)) else (some (118, .iastore, 61, 0, 0, 0))) else (bif Nat.ble 59 j then (some (117, .iadd, 60, 0, 0, 0)) else (some (116, .iconst 1, 59, 0, 0, 1))))) else (bif Nat.ble 54 j then (bif Nat.ble 56 j then (bif Nat.ble 57 j then (some (115, .iaload, 58, 0, 0, 0)) else (some (114, .dup2, 57, 0, 0, 0))) else (bif Nat.ble 55 j then (some (113, .iload_n 3, 56, 3, 0, 0)) else (some (110, .getfield 74, 55, 5, 14, 0)))) else (bif Nat.ble 52 j then (bif Nat.ble 53 j then (some (109, .aload_n 0, 54, 0, 0, 0)) else (some (106, .ifCond .eq 13, 53, 61, 0, 0))) else (bif Nat.ble 51 j then (some (103, .invokevirtual 296, 52, 36, 5, 0)) else (some (100, .getfield 81, 51, 1, 2, 0)))))) else (bif Nat.ble 41 j then (bif Nat.ble 45 j then (bif Nat.ble 47 j then (bif Nat.ble 48 j then (bif Nat.ble 49 j then (some (97, .getfield 19, 50, 5, 1, 0)) else (some (96, .aload_n 0, 49, 0, 0, 0))) else (some (95, .iconst 0, 48, 0, 0, 0))) else (bif Nat.ble 46 j then (some (92, .getfield 64, 47, 5, 11, 0)) else (some (91, .aload_n 0, 46, 0, 0, 0)))) else (bif Nat.ble 43 j then (bif Nat.ble 44 j then (some (90, .iload_n 3, 45, 3, 0, 0)) else (some (87, .getfield 26, 44, 5, 2, 0))) else (bif Nat.ble 42 j then (some (86, .aload_n 0, 43, 0, 0, 0)) else (some (83, .ifCond .eq 36, 42, 61, 0, 0))))) else (bif Nat.ble 37 j then (bif Nat.ble 39 j then (bif Nat.ble 40 j then (some (80, .invokevirtual 136, 41, 33, 2, 0)) else (some (79, .iload_n 3, 40, 3, 0, 0))) else (bif Nat.ble 38 j then (some (76, .getfield 26, 39, 5, 2, 0)) else (some (75, .aload_n 0, 38, 0, 0, 0)))) else (bif Nat.ble 35 j then (bif Nat.ble 36 j then (some (72, .if_icmp .ge 53, 37, 63, 0, 0)) else (some (69, .getfield 131, 36, 4, 3, 0))) else (bif Nat.ble 34 j then (some (66, .getfield 26, 35, 5, 2, 0)) else (some (65, .aload_n 0, 34, 0, 0, 0))))))) else (bif Nat.ble 16 j then (bif Nat.ble 24 j then (bif Nat.ble 28 j then (bif Nat.ble 30 j then (bif Nat.ble 31 j then (bif Nat.ble 32 j then (some (64, .iload_n 3, 33, 3, 0, 0)) else (some (63, .istore_n 3, 32, 3, 0, 0))) else (some (62, .iconst 0, 31, 0, 0, 0))) else (bif Nat.ble 29 j then (some (59, .iinc 1 1, 30, 1, 0, 1)) else (some (56, .goto 69, 63, 0, 0, 0)))) else (bif Nat.ble 26 j then (bif Nat.ble 27 j then (some (53, .ifCond .ne 6, 28, 29, 0, 0)) else (some (50, .invokevirtual 254, 27, 21, 3, 0))) else (bif Nat.ble 25 j then (some (47, .getfield 81, 26, 1, 2, 0)) else (some (44, .getfield 19, 25, 5, 1, 0))))) else (bif Nat.ble 20 j then (bif Nat.ble 22 j then (bif Nat.ble 23 j then (some (43, .aload_n 0, 24, 0, 0, 0)) else (some (40, .getfield 64, 23, 5, 11, 0))) else (bif Nat.ble 21 j then (some (39, .aload_n 0, 22, 0, 0, 0)) else (some (36, .getfield 60, 21, 5, 10, 0)))) else (bif Nat.ble 18 j then (bif Nat.ble 19 j then (some (35, .aload_n 0, 20, 0, 0, 0)) else (some (32, .invokestatic 84, 19, 37, 3, 0))) else (bif Nat.ble 17 j then (some (29, .getfield 64, 18, 5, 11, 0)) else (some (28, .aload_n 0, 17, 0, 0, 0)))))) else (bif Nat.ble 8 j then (bif Nat.ble 12 j then (bif Nat.ble 14 j then (bif Nat.ble 15 j then (some (25, .getfield 81, 16, 1, 2, 0)) else (some (22, .getfield 19, 15, 5, 1, 0))) else (bif Nat.ble 13 j then (some (21, .aload_n 0, 14, 0, 0, 0)) else (some (20, .iload_n 2, 13, 2, 0, 0)))) else (bif Nat.ble 10 j then (bif Nat.ble 11 j then (some (17, .if_icmp .ge 114, 12, 65, 0, 0)) else (some (14, .invokevirtual 196, 11, 59, 1, 0))) else (bif Nat.ble 9 j then (some (13, .aload_n 0, 10, 0, 0, 0)) else (some (12, .iload_n 2, 9, 2, 0, 0))))) else (bif Nat.ble 4 j then (bif Nat.ble 6 j then (bif Nat.ble 7 j then (some (11, .istore_n 2, 8, 2, 0, 0)) else (some (10, .iconst 0, 7, 0, 0, 0))) else (bif Nat.ble 5 j then (some (9, .istore_n 1, 6, 1, 0, 0)) else (some (8, .iconst 0, 5, 0, 0, 0)))) else (bif Nat.ble 2 j then (bif Nat.ble 3 j then (some (5, .invokestatic 236, 4, 149, 2, 0)) else (some (4, .iconst 0, 3, 0, 0, 0))) else (bif Nat.ble 1 j then (some (1, .getfield 74, 2, 5, 14, 0)) else (some (0, .aload_n 0, 1, 0, 0, 0))))))))
/-- MotionDesk.keep(I)I -/
def mr_De_keep (j : Nat) : Option mx_Row := bif Nat.ble 25 j then none else (bif Nat.ble 12 j then (bif Nat.ble 18 j then (bif Nat.ble 21 j then (bif Nat.ble 23 j then (bif Nat.ble 24 j then (some (42, .ireturn, 25, 0, 0, 0)) else (some (39, .getfield 131, 24, 4, 3, 0))) else (bif Nat.ble 22 j then (some (36, .getfield 26, 23, 5, 2, 0)) else (some (35, .aload_n 0, 22, 0, 0, 0)))) else (bif Nat.ble 19 j then (bif Nat.ble 20 j then (some (32, .putfield 54, 21, 5, 9, 0)) else (some (31, .ior, 20, 0, 0, 0))) else (some (30, .ishl, 19, 0, 0, 0)))) else (bif Nat.ble 15 j then (bif Nat.ble 16 j then (bif Nat.ble 17 j then (some (29, .iload_n 1, 18, 1, 0, 0)) else (some (28, .iconst 1, 17, 0, 0, 1))) else (some (25, .getfield 54, 16, 5, 9, 0))) else (bif Nat.ble 13 j then (bif Nat.ble 14 j then (some (24, .dup, 15, 0, 0, 0)) else (some (23, .aload_n 0, 14, 0, 0, 0))) else (some (20, .invokevirtual 111, 13, 15, 2, 0))))) else (bif Nat.ble 6 j then (bif Nat.ble 9 j then (bif Nat.ble 10 j then (bif Nat.ble 11 j then (some (17, .getfield 19, 12, 5, 1, 0)) else (some (16, .aload_n 0, 11, 0, 0, 0))) else (some (15, .aaload, 10, 0, 0, 0))) else (bif Nat.ble 7 j then (bif Nat.ble 8 j then (some (14, .iload_n 1, 9, 1, 0, 0)) else (some (11, .getfield 51, 8, 5, 8, 0))) else (some (10, .aload_n 0, 7, 0, 0, 0)))) else (bif Nat.ble 3 j then (bif Nat.ble 4 j then (bif Nat.ble 5 j then (some (9, .ireturn, 6, 0, 0, 0)) else (some (8, .iconst (-1), 5, 0, 0, (-1)))) else (some (5, .ifCond .ne 5, 4, 6, 0, 0))) else (bif Nat.ble 1 j then (bif Nat.ble 2 j then (some (2, .invokestatic 132, 3, 43, 2, 0)) else (some (1, .iconst 2, 2, 0, 0, 2))) else (some (0, .iload_n 1, 1, 1, 0, 0))))))
/-- MotionDesk.back(I)I -/
def mr_De_back (j : Nat) : Option mx_Row := bif Nat.ble 31 j then none else (bif Nat.ble 15 j then (bif Nat.ble 23 j then (bif Nat.ble 27 j then (bif Nat.ble 29 j then (bif Nat.ble 30 j then (some (53, .ireturn, 31, 0, 0, 0)) else (some (50, .getfield 131, 30, 4, 3, 0))) else (bif Nat.ble 28 j then (some (47, .getfield 26, 29, 5, 2, 0)) else (some (46, .aload_n 0, 28, 0, 0, 0)))) else (bif Nat.ble 25 j then (bif Nat.ble 26 j then (some (43, .invokevirtual 92, 27, 38, 1, 0)) else (some (42, .aload_n 0, 26, 0, 0, 0))) else (bif Nat.ble 24 j then (some (39, .putfield 47, 25, 5, 7, 0)) else (some (38, .iconst 0, 24, 0, 0, 0))))) else (bif Nat.ble 19 j then (bif Nat.ble 21 j then (bif Nat.ble 22 j then (some (37, .aload_n 0, 23, 0, 0, 0)) else (some (34, .invokevirtual 111, 22, 15, 2, 0))) else (bif Nat.ble 20 j then (some (33, .aaload, 21, 0, 0, 0)) else (some (32, .iload_n 1, 20, 1, 0, 0)))) else (bif Nat.ble 17 j then (bif Nat.ble 18 j then (some (29, .getfield 51, 19, 5, 8, 0)) else (some (28, .aload_n 0, 18, 0, 0, 0))) else (bif Nat.ble 16 j then (some (25, .getfield 19, 17, 5, 1, 0)) else (some (24, .aload_n 0, 16, 0, 0, 0)))))) else (bif Nat.ble 7 j then (bif Nat.ble 11 j then (bif Nat.ble 13 j then (bif Nat.ble 14 j then (some (23, .ireturn, 15, 0, 0, 0)) else (some (21, .bipush (-2), 14, 0, 0, (-2)))) else (bif Nat.ble 12 j then (some (18, .ifCond .ne 6, 13, 15, 0, 0)) else (some (17, .iand, 12, 0, 0, 0)))) else (bif Nat.ble 9 j then (bif Nat.ble 10 j then (some (16, .iconst 1, 11, 0, 0, 1)) else (some (15, .ishr, 10, 0, 0, 0))) else (bif Nat.ble 8 j then (some (14, .iload_n 1, 9, 1, 0, 0)) else (some (11, .getfield 54, 8, 5, 9, 0))))) else (bif Nat.ble 3 j then (bif Nat.ble 5 j then (bif Nat.ble 6 j then (some (10, .aload_n 0, 7, 0, 0, 0)) else (some (9, .ireturn, 6, 0, 0, 0))) else (bif Nat.ble 4 j then (some (8, .iconst (-1), 5, 0, 0, (-1))) else (some (5, .ifCond .ne 5, 4, 6, 0, 0)))) else (bif Nat.ble 1 j then (bif Nat.ble 2 j then (some (2, .invokestatic 132, 3, 43, 2, 0)) else (some (1, .iconst 2, 2, 0, 0, 2))) else (some (0, .iload_n 1, 1, 1, 0, 0))))))
/-- MotionDesk.count(I)I -/
def mr_De_count (j : Nat) : Option mx_Row := bif Nat.ble 23 j then none else (bif Nat.ble 11 j then (bif Nat.ble 17 j then (bif Nat.ble 20 j then (bif Nat.ble 21 j then (bif Nat.ble 22 j then (some (74, .ireturn, 23, 0, 0, 0)) else (some (73, .iconst (-1), 22, 0, 0, (-1)))) else (some (72, .ireturn, 21, 0, 0, 0))) else (bif Nat.ble 18 j then (bif Nat.ble 19 j then (some (69, .getfield 95, 20, 3, 2, 0)) else (some (66, .getfield 10, 19, 5, 0, 0))) else (some (65, .aload_n 0, 18, 0, 0, 0)))) else (bif Nat.ble 14 j then (bif Nat.ble 15 j then (bif Nat.ble 16 j then (some (64, .ireturn, 17, 0, 0, 0)) else (some (61, .getfield 118, 16, 2, 3, 0))) else (some (58, .getfield 60, 15, 5, 10, 0))) else (bif Nat.ble 12 j then (bif Nat.ble 13 j then (some (57, .aload_n 0, 14, 0, 0, 0)) else (some (56, .ireturn, 13, 0, 0, 0))) else (some (53, .invokevirtual 196, 12, 59, 1, 0))))) else (bif Nat.ble 5 j then (bif Nat.ble 8 j then (bif Nat.ble 9 j then (bif Nat.ble 10 j then (some (52, .aload_n 0, 11, 0, 0, 0)) else (some (51, .ireturn, 10, 0, 0, 0))) else (some (48, .getfield 223, 9, 1, 3, 0))) else (bif Nat.ble 6 j then (bif Nat.ble 7 j then (some (45, .getfield 19, 8, 5, 1, 0)) else (some (44, .aload_n 0, 7, 0, 0, 0))) else (some (43, .ireturn, 6, 0, 0, 0)))) else (bif Nat.ble 2 j then (bif Nat.ble 3 j then (bif Nat.ble 4 j then (some (40, .getfield 81, 5, 1, 2, 0)) else (some (37, .getfield 19, 4, 5, 1, 0))) else (some (36, .aload_n 0, 3, 0, 0, 0))) else (bif Nat.ble 1 j then (some (1, .tableswitch 72 0 4 #[35, 43, 51, 56, 64], 2, 0, 0, 0)) else (some (0, .iload_n 1, 1, 1, 0, 0))))))
/-- MotionDeskModel.begins()V -/
def mr_Mo_begins (j : Nat) : Option mx_Row := bif Nat.ble 19 j then none else (bif Nat.ble 9 j then (bif Nat.ble 14 j then (bif Nat.ble 16 j then (bif Nat.ble 17 j then (bif Nat.ble 18 j then (some (32, .return_, 19, 0, 0, 0)) else (some (29, .goto (-17), 8, 0, 0, 0))) else (some (26, .iinc 1 1, 17, 1, 0, 1))) else (bif Nat.ble 15 j then (some (25, .iastore, 16, 0, 0, 0)) else (some (24, .iconst 0, 15, 0, 0, 0)))) else (bif Nat.ble 11 j then (bif Nat.ble 12 j then (bif Nat.ble 13 j then (some (23, .iload_n 1, 14, 1, 0, 0)) else (some (20, .getfield 13, 13, 6, 12, 0))) else (some (19, .aload_n 0, 12, 0, 0, 0))) else (bif Nat.ble 10 j then (some (16, .if_icmp .ge 16, 11, 18, 0, 0)) else (some (13, .sipush 244, 10, 0, 0, 244))))) else (bif Nat.ble 4 j then (bif Nat.ble 6 j then (bif Nat.ble 7 j then (bif Nat.ble 8 j then (some (12, .iload_n 1, 9, 1, 0, 0)) else (some (11, .istore_n 1, 8, 1, 0, 0))) else (some (10, .iconst 0, 7, 0, 0, 0))) else (bif Nat.ble 5 j then (some (7, .putfield 138, 6, 6, 11, 0)) else (some (6, .iconst 0, 5, 0, 0, 0)))) else (bif Nat.ble 2 j then (bif Nat.ble 3 j then (some (5, .aload_n 0, 4, 0, 0, 0)) else (some (2, .putfield 65, 3, 6, 10, 0))) else (bif Nat.ble 1 j then (some (1, .iconst 3, 2, 0, 0, 3)) else (some (0, .aload_n 0, 1, 0, 0, 0))))))
/-- MotionDeskModel.orderOf(II)V -/
def mr_Mo_orderOf (j : Nat) : Option mx_Row := bif Nat.ble 58 j then none else (bif Nat.ble 29 j then (bif Nat.ble 43 j then (bif Nat.ble 50 j then (bif Nat.ble 54 j then (bif Nat.ble 56 j then (bif Nat.ble 57 j then (some (104, .return_, 58, 0, 0, 0)) else (some (101, .goto (-93), 6, 0, 0, 0))) else (bif Nat.ble 55 j then (some (98, .iinc 5 1, 56, 5, 0, 1)) else (some (96, .istore 4, 55, 4, 0, 0)))) else (bif Nat.ble 52 j then (bif Nat.ble 53 j then (some (95, .ior, 54, 0, 0, 0)) else (some (94, .ishl, 53, 0, 0, 0))) else (bif Nat.ble 51 j then (some (92, .iload 8, 52, 8, 0, 0)) else (some (91, .iconst 1, 51, 0, 0, 1))))) else (bif Nat.ble 46 j then (bif Nat.ble 48 j then (bif Nat.ble 49 j then (some (89, .iload 4, 50, 4, 0, 0)) else (some (88, .iastore, 49, 0, 0, 0))) else (bif Nat.ble 47 j then (some (86, .iload 8, 48, 8, 0, 0)) else (some (84, .iload 5, 47, 5, 0, 0)))) else (bif Nat.ble 44 j then (bif Nat.ble 45 j then (some (81, .getfield 50, 46, 6, 27, 0)) else (some (80, .aload_n 0, 45, 0, 0, 0))) else (some (77, .goto (-38), 26, 0, 0, 0))))) else (bif Nat.ble 36 j then (bif Nat.ble 39 j then (bif Nat.ble 41 j then (bif Nat.ble 42 j then (some (74, .iinc 8 1, 43, 8, 0, 1)) else (some (72, .istore 7, 42, 7, 0, 0))) else (bif Nat.ble 40 j then (some (71, .isub, 41, 0, 0, 0)) else (some (70, .iconst 1, 40, 0, 0, 1)))) else (bif Nat.ble 37 j then (bif Nat.ble 38 j then (some (67, .goto 4, 40, 0, 0, 0)) else (some (66, .iconst 0, 38, 0, 0, 0))) else (some (63, .ifCond .eq 7, 37, 39, 0, 0)))) else (bif Nat.ble 32 j then (bif Nat.ble 34 j then (bif Nat.ble 35 j then (some (60, .invokestatic 87, 36, 83, 2, 0)) else (some (58, .iload 8, 35, 8, 0, 0))) else (bif Nat.ble 33 j then (some (56, .iload 4, 34, 4, 0, 0)) else (some (54, .iload 7, 33, 7, 0, 0)))) else (bif Nat.ble 30 j then (bif Nat.ble 31 j then (some (51, .ifCond .le 29, 32, 44, 0, 0)) else (some (49, .iload 7, 31, 7, 0, 0))) else (some (46, .ifCond .ne 8, 30, 32, 0, 0)))))) else (bif Nat.ble 14 j then (bif Nat.ble 21 j then (bif Nat.ble 25 j then (bif Nat.ble 27 j then (bif Nat.ble 28 j then (some (43, .invokestatic 87, 29, 83, 2, 0)) else (some (41, .iload 8, 28, 8, 0, 0))) else (bif Nat.ble 26 j then (some (39, .iload 4, 27, 4, 0, 0)) else (some (37, .istore 8, 26, 8, 0, 0)))) else (bif Nat.ble 23 j then (bif Nat.ble 24 j then (some (36, .iconst 0, 25, 0, 0, 0)) else (some (35, .istore_n 3, 24, 3, 0, 0))) else (bif Nat.ble 22 j then (some (34, .irem, 23, 0, 0, 0)) else (some (32, .iload 6, 22, 6, 0, 0))))) else (bif Nat.ble 17 j then (bif Nat.ble 19 j then (bif Nat.ble 20 j then (some (31, .iload_n 3, 21, 3, 0, 0)) else (some (29, .istore 7, 20, 7, 0, 0))) else (bif Nat.ble 18 j then (some (28, .idiv, 19, 0, 0, 0)) else (some (26, .iload 6, 18, 6, 0, 0)))) else (bif Nat.ble 15 j then (bif Nat.ble 16 j then (some (25, .iload_n 3, 17, 3, 0, 0)) else (some (23, .istore 6, 16, 6, 0, 0))) else (some (20, .invokestatic 83, 15, 82, 1, 0))))) else (bif Nat.ble 7 j then (bif Nat.ble 10 j then (bif Nat.ble 12 j then (bif Nat.ble 13 j then (some (19, .isub, 14, 0, 0, 0)) else (some (17, .iload 5, 13, 5, 0, 0))) else (bif Nat.ble 11 j then (some (16, .isub, 12, 0, 0, 0)) else (some (15, .iconst 1, 11, 0, 0, 1)))) else (bif Nat.ble 8 j then (bif Nat.ble 9 j then (some (14, .iload_n 2, 10, 2, 0, 0)) else (some (11, .if_icmp .ge 93, 9, 57, 0, 0))) else (some (10, .iload_n 2, 8, 2, 0, 0)))) else (bif Nat.ble 3 j then (bif Nat.ble 5 j then (bif Nat.ble 6 j then (some (8, .iload 5, 7, 5, 0, 0)) else (some (6, .istore 5, 6, 5, 0, 0))) else (bif Nat.ble 4 j then (some (5, .iconst 0, 5, 0, 0, 0)) else (some (3, .istore 4, 4, 4, 0, 0)))) else (bif Nat.ble 1 j then (bif Nat.ble 2 j then (some (2, .iconst 0, 3, 0, 0, 0)) else (some (1, .istore_n 3, 2, 3, 0, 0))) else (some (0, .iload_n 1, 1, 1, 0, 0)))))))
/-- MotionDeskModel.orders(I)I -/
def mr_Mo_orders (j : Nat) : Option mx_Row := bif Nat.ble 15 j then none else (bif Nat.ble 7 j then (bif Nat.ble 11 j then (bif Nat.ble 13 j then (bif Nat.ble 14 j then (some (20, .ireturn, 15, 0, 0, 0)) else (some (19, .iload_n 1, 14, 1, 0, 0))) else (bif Nat.ble 12 j then (some (16, .goto (-12), 4, 0, 0, 0)) else (some (13, .iinc 2 1, 12, 2, 0, 1)))) else (bif Nat.ble 9 j then (bif Nat.ble 10 j then (some (12, .istore_n 1, 11, 1, 0, 0)) else (some (11, .imul, 10, 0, 0, 0))) else (bif Nat.ble 8 j then (some (10, .iload_n 2, 9, 2, 0, 0)) else (some (9, .iload_n 1, 8, 1, 0, 0))))) else (bif Nat.ble 3 j then (bif Nat.ble 5 j then (bif Nat.ble 6 j then (some (6, .if_icmp .gt 13, 7, 13, 0, 0)) else (some (5, .iload_n 0, 6, 0, 0, 0))) else (bif Nat.ble 4 j then (some (4, .iload_n 2, 5, 2, 0, 0)) else (some (3, .istore_n 2, 4, 2, 0, 0)))) else (bif Nat.ble 1 j then (bif Nat.ble 2 j then (some (2, .iconst 2, 3, 0, 0, 2)) else (some (1, .istore_n 1, 2, 1, 0, 0))) else (some (0, .iconst 1, 1, 0, 0, 1)))))
/-- MotionDeskModel.has(II)Z -/
def mr_Mo_has (j : Nat) : Option mx_Row := bif Nat.ble 11 j then none else (bif Nat.ble 5 j then (bif Nat.ble 8 j then (bif Nat.ble 9 j then (bif Nat.ble 10 j then (some (14, .ireturn, 11, 0, 0, 0)) else (some (13, .iconst 0, 10, 0, 0, 0))) else (some (10, .goto 4, 10, 0, 0, 0))) else (bif Nat.ble 6 j then (bif Nat.ble 7 j then (some (9, .iconst 1, 8, 0, 0, 1)) else (some (6, .if_icmp .ne 7, 7, 9, 0, 0))) else (some (5, .iconst 1, 6, 0, 0, 1)))) else (bif Nat.ble 2 j then (bif Nat.ble 3 j then (bif Nat.ble 4 j then (some (4, .iand, 5, 0, 0, 0)) else (some (3, .iconst 1, 4, 0, 0, 1))) else (some (2, .ishr, 3, 0, 0, 0))) else (bif Nat.ble 1 j then (some (1, .iload_n 1, 2, 1, 0, 0)) else (some (0, .iload_n 0, 1, 0, 0, 0)))))
/-- MotionDeskModel.lays([II)V -/
def mr_Mo_lays (j : Nat) : Option mx_Row := bif Nat.ble 95 j then none else (bif Nat.ble 47 j then (bif Nat.ble 71 j then (bif Nat.ble 83 j then (bif Nat.ble 89 j then (bif Nat.ble 92 j then (bif Nat.ble 93 j then (bif Nat.ble 94 j then (some (149, .return_, 95, 0, 0, 0)) else (some (146, .goto (-123), 16, 0, 0, 0))) else (some (143, .invokevirtual 94, 93, 85, 5, 0))) else (bif Nat.ble 90 j then (bif Nat.ble 91 j then (some (142, .iconst 0, 92, 0, 0, 0)) else (some (140, .iload 5, 91, 5, 0, 0))) else (some (139, .iadd, 90, 0, 0, 0)))) else (bif Nat.ble 86 j then (bif Nat.ble 87 j then (bif Nat.ble 88 j then (some (138, .iconst 1, 89, 0, 0, 1)) else (some (136, .iload 4, 88, 4, 0, 0))) else (some (135, .iload_n 3, 87, 3, 0, 0))) else (bif Nat.ble 84 j then (bif Nat.ble 85 j then (some (134, .aload_n 0, 86, 0, 0, 0)) else (some (131, .invokevirtual 94, 85, 85, 5, 0))) else (some (130, .iconst 1, 84, 0, 0, 1))))) else (bif Nat.ble 77 j then (bif Nat.ble 80 j then (bif Nat.ble 81 j then (bif Nat.ble 82 j then (some (128, .iload 5, 83, 5, 0, 0)) else (some (127, .iadd, 82, 0, 0, 0))) else (some (126, .iconst 1, 81, 0, 0, 1))) else (bif Nat.ble 78 j then (bif Nat.ble 79 j then (some (124, .iload 4, 80, 4, 0, 0)) else (some (123, .iaload, 79, 0, 0, 0))) else (some (121, .iload 4, 78, 4, 0, 0)))) else (bif Nat.ble 74 j then (bif Nat.ble 75 j then (bif Nat.ble 76 j then (some (118, .getfield 50, 77, 6, 27, 0)) else (some (117, .aload_n 0, 76, 0, 0, 0))) else (some (116, .aload_n 0, 75, 0, 0, 0))) else (bif Nat.ble 72 j then (bif Nat.ble 73 j then (some (113, .goto 33, 93, 0, 0, 0)) else (some (112, .iastore, 73, 0, 0, 0))) else (some (111, .iload_n 3, 72, 3, 0, 0)))))) else (bif Nat.ble 59 j then (bif Nat.ble 65 j then (bif Nat.ble 68 j then (bif Nat.ble 69 j then (bif Nat.ble 70 j then (some (110, .iadd, 71, 0, 0, 0)) else (some (108, .iload 5, 70, 5, 0, 0))) else (some (106, .bipush 55, 69, 0, 0, 55))) else (bif Nat.ble 66 j then (bif Nat.ble 67 j then (some (105, .aload_n 1, 68, 1, 0, 0)) else (some (102, .if_icmp .ne 14, 67, 74, 0, 0))) else (some (101, .iload_n 2, 66, 2, 0, 0)))) else (bif Nat.ble 62 j then (bif Nat.ble 63 j then (bif Nat.ble 64 j then (some (99, .iload 4, 65, 4, 0, 0)) else (some (97, .istore 5, 64, 5, 0, 0))) else (some (94, .invokestatic 98, 63, 86, 3, 0))) else (bif Nat.ble 60 j then (bif Nat.ble 61 j then (some (93, .iaload, 62, 0, 0, 0)) else (some (92, .iadd, 61, 0, 0, 0))) else (some (91, .iconst 3, 60, 0, 0, 3))))) else (bif Nat.ble 53 j then (bif Nat.ble 56 j then (bif Nat.ble 57 j then (bif Nat.ble 58 j then (some (90, .imul, 59, 0, 0, 0)) else (some (87, .getfield 91, 58, 6, 29, 0))) else (some (86, .aload_n 0, 57, 0, 0, 0))) else (bif Nat.ble 54 j then (bif Nat.ble 55 j then (some (85, .iconst 4, 56, 0, 0, 4)) else (some (82, .getfield 53, 55, 6, 28, 0))) else (some (81, .aload_n 0, 54, 0, 0, 0)))) else (bif Nat.ble 50 j then (bif Nat.ble 51 j then (bif Nat.ble 52 j then (some (80, .iaload, 53, 0, 0, 0)) else (some (79, .iadd, 52, 0, 0, 0))) else (some (78, .iconst 2, 51, 0, 0, 2))) else (bif Nat.ble 48 j then (bif Nat.ble 49 j then (some (77, .imul, 50, 0, 0, 0)) else (some (74, .getfield 91, 49, 6, 29, 0))) else (some (73, .aload_n 0, 48, 0, 0, 0))))))) else (bif Nat.ble 23 j then (bif Nat.ble 35 j then (bif Nat.ble 41 j then (bif Nat.ble 44 j then (bif Nat.ble 45 j then (bif Nat.ble 46 j then (some (72, .iconst 4, 47, 0, 0, 4)) else (some (69, .getfield 53, 46, 6, 28, 0))) else (some (68, .aload_n 0, 45, 0, 0, 0))) else (bif Nat.ble 42 j then (bif Nat.ble 43 j then (some (67, .aload_n 1, 44, 1, 0, 0)) else (some (65, .istore 4, 43, 4, 0, 0))) else (some (64, .iaload, 42, 0, 0, 0)))) else (bif Nat.ble 38 j then (bif Nat.ble 39 j then (bif Nat.ble 40 j then (some (63, .iadd, 41, 0, 0, 0)) else (some (62, .iconst 1, 40, 0, 0, 1))) else (some (61, .imul, 39, 0, 0, 0))) else (bif Nat.ble 36 j then (bif Nat.ble 37 j then (some (58, .getfield 91, 38, 6, 29, 0)) else (some (57, .aload_n 0, 37, 0, 0, 0))) else (some (56, .iconst 4, 36, 0, 0, 4))))) else (bif Nat.ble 29 j then (bif Nat.ble 32 j then (bif Nat.ble 33 j then (bif Nat.ble 34 j then (some (53, .getfield 53, 35, 6, 28, 0)) else (some (52, .aload_n 0, 34, 0, 0, 0))) else (some (51, .istore_n 3, 33, 3, 0, 0))) else (bif Nat.ble 30 j then (bif Nat.ble 31 j then (some (50, .iaload, 32, 0, 0, 0)) else (some (49, .imul, 31, 0, 0, 0))) else (some (46, .getfield 91, 30, 6, 29, 0)))) else (bif Nat.ble 26 j then (bif Nat.ble 27 j then (bif Nat.ble 28 j then (some (45, .aload_n 0, 29, 0, 0, 0)) else (some (44, .iconst 4, 28, 0, 0, 4))) else (some (41, .getfield 53, 27, 6, 28, 0))) else (bif Nat.ble 24 j then (bif Nat.ble 25 j then (some (40, .aload_n 0, 26, 0, 0, 0)) else (some (37, .putfield 91, 25, 6, 29, 0))) else (some (36, .isub, 24, 0, 0, 0)))))) else (bif Nat.ble 11 j then (bif Nat.ble 17 j then (bif Nat.ble 20 j then (bif Nat.ble 21 j then (bif Nat.ble 22 j then (some (35, .iconst 1, 23, 0, 0, 1)) else (some (32, .getfield 91, 22, 6, 29, 0))) else (some (31, .dup, 21, 0, 0, 0))) else (bif Nat.ble 18 j then (bif Nat.ble 19 j then (some (30, .aload_n 0, 20, 0, 0, 0)) else (some (27, .ifCond .le 122, 19, 94, 0, 0))) else (some (24, .getfield 91, 18, 6, 29, 0)))) else (bif Nat.ble 14 j then (bif Nat.ble 15 j then (bif Nat.ble 16 j then (some (23, .aload_n 0, 17, 0, 0, 0)) else (some (20, .invokevirtual 94, 16, 85, 5, 0))) else (some (19, .iconst 0, 15, 0, 0, 0))) else (bif Nat.ble 12 j then (bif Nat.ble 13 j then (some (18, .iconst (-1), 14, 0, 0, (-1))) else (some (17, .iconst 1, 13, 0, 0, 1))) else (some (16, .iaload, 12, 0, 0, 0))))) else (bif Nat.ble 5 j then (bif Nat.ble 8 j then (bif Nat.ble 9 j then (bif Nat.ble 10 j then (some (15, .iconst 0, 11, 0, 0, 0)) else (some (12, .getfield 50, 10, 6, 27, 0))) else (some (11, .aload_n 0, 9, 0, 0, 0))) else (bif Nat.ble 6 j then (bif Nat.ble 7 j then (some (10, .aload_n 0, 8, 0, 0, 0)) else (some (7, .putfield 91, 7, 6, 29, 0))) else (some (6, .iconst 0, 6, 0, 0, 0)))) else (bif Nat.ble 2 j then (bif Nat.ble 3 j then (bif Nat.ble 4 j then (some (5, .aload_n 0, 5, 0, 0, 0)) else (some (4, .iastore, 4, 0, 0, 0))) else (some (3, .iconst 0, 3, 0, 0, 0))) else (bif Nat.ble 1 j then (some (1, .bipush 54, 2, 0, 0, 54)) else (some (0, .aload_n 1, 1, 1, 0, 0))))))))
/-- MotionDeskModel.piles(IIII)V -/
def mr_Mo_piles (j : Nat) : Option mx_Row := bif Nat.ble 45 j then none else (bif Nat.ble 22 j then (bif Nat.ble 33 j then (bif Nat.ble 39 j then (bif Nat.ble 42 j then (bif Nat.ble 43 j then (bif Nat.ble 44 j then (some (65, .return_, 45, 0, 0, 0)) else (some (62, .putfield 91, 44, 6, 29, 0))) else (some (61, .iadd, 43, 0, 0, 0))) else (bif Nat.ble 40 j then (bif Nat.ble 41 j then (some (60, .iconst 1, 42, 0, 0, 1)) else (some (57, .getfield 91, 41, 6, 29, 0))) else (some (56, .dup, 40, 0, 0, 0)))) else (bif Nat.ble 36 j then (bif Nat.ble 37 j then (bif Nat.ble 38 j then (some (55, .aload_n 0, 39, 0, 0, 0)) else (some (54, .iastore, 38, 0, 0, 0))) else (some (52, .iload 4, 37, 4, 0, 0))) else (bif Nat.ble 34 j then (bif Nat.ble 35 j then (some (51, .iadd, 36, 0, 0, 0)) else (some (50, .iconst 3, 35, 0, 0, 3))) else (some (49, .imul, 34, 0, 0, 0))))) else (bif Nat.ble 27 j then (bif Nat.ble 30 j then (bif Nat.ble 31 j then (bif Nat.ble 32 j then (some (46, .getfield 91, 33, 6, 29, 0)) else (some (45, .aload_n 0, 32, 0, 0, 0))) else (some (44, .iconst 4, 31, 0, 0, 4))) else (bif Nat.ble 28 j then (bif Nat.ble 29 j then (some (41, .getfield 53, 30, 6, 28, 0)) else (some (40, .aload_n 0, 29, 0, 0, 0))) else (some (39, .iastore, 28, 0, 0, 0)))) else (bif Nat.ble 24 j then (bif Nat.ble 25 j then (bif Nat.ble 26 j then (some (38, .iload_n 3, 27, 3, 0, 0)) else (some (37, .iadd, 26, 0, 0, 0))) else (some (36, .iconst 2, 25, 0, 0, 2))) else (bif Nat.ble 23 j then (some (35, .imul, 24, 0, 0, 0)) else (some (32, .getfield 91, 23, 6, 29, 0)))))) else (bif Nat.ble 11 j then (bif Nat.ble 16 j then (bif Nat.ble 19 j then (bif Nat.ble 20 j then (bif Nat.ble 21 j then (some (31, .aload_n 0, 22, 0, 0, 0)) else (some (30, .iconst 4, 21, 0, 0, 4))) else (some (27, .getfield 53, 20, 6, 28, 0))) else (bif Nat.ble 17 j then (bif Nat.ble 18 j then (some (26, .aload_n 0, 19, 0, 0, 0)) else (some (25, .iastore, 18, 0, 0, 0))) else (some (24, .iload_n 2, 17, 2, 0, 0)))) else (bif Nat.ble 13 j then (bif Nat.ble 14 j then (bif Nat.ble 15 j then (some (23, .iadd, 16, 0, 0, 0)) else (some (22, .iconst 1, 15, 0, 0, 1))) else (some (21, .imul, 14, 0, 0, 0))) else (bif Nat.ble 12 j then (some (18, .getfield 91, 13, 6, 29, 0)) else (some (17, .aload_n 0, 12, 0, 0, 0))))) else (bif Nat.ble 5 j then (bif Nat.ble 8 j then (bif Nat.ble 9 j then (bif Nat.ble 10 j then (some (16, .iconst 4, 11, 0, 0, 4)) else (some (13, .getfield 53, 10, 6, 28, 0))) else (some (12, .aload_n 0, 9, 0, 0, 0))) else (bif Nat.ble 6 j then (bif Nat.ble 7 j then (some (11, .iastore, 8, 0, 0, 0)) else (some (10, .iload_n 1, 7, 1, 0, 0))) else (some (9, .imul, 6, 0, 0, 0)))) else (bif Nat.ble 2 j then (bif Nat.ble 3 j then (bif Nat.ble 4 j then (some (6, .getfield 91, 5, 6, 29, 0)) else (some (5, .aload_n 0, 4, 0, 0, 0))) else (some (4, .iconst 4, 3, 0, 0, 4))) else (bif Nat.ble 1 j then (some (1, .getfield 53, 2, 6, 28, 0)) else (some (0, .aload_n 0, 1, 0, 0, 0)))))))
/-- MotionDeskModel.comesTo([III)I -/
def mr_Mo_comesTo (j : Nat) : Option mx_Row := bif Nat.ble 43 j then none else (bif Nat.ble 21 j then (bif Nat.ble 32 j then (bif Nat.ble 37 j then (bif Nat.ble 40 j then (bif Nat.ble 41 j then (bif Nat.ble 42 j then (some (60, .ireturn, 43, 0, 0, 0)) else (some (59, .iload_n 3, 42, 3, 0, 0))) else (some (58, .iastore, 41, 0, 0, 0))) else (bif Nat.ble 38 j then (bif Nat.ble 39 j then (some (57, .iadd, 40, 0, 0, 0)) else (some (56, .iconst 1, 39, 0, 0, 1))) else (some (55, .iaload, 38, 0, 0, 0)))) else (bif Nat.ble 34 j then (bif Nat.ble 35 j then (bif Nat.ble 36 j then (some (54, .dup2, 37, 0, 0, 0)) else (some (52, .bipush 54, 36, 0, 0, 54))) else (some (51, .aload_n 0, 35, 0, 0, 0))) else (bif Nat.ble 33 j then (some (50, .iastore, 34, 0, 0, 0)) else (some (49, .iload_n 3, 33, 3, 0, 0))))) else (bif Nat.ble 26 j then (bif Nat.ble 29 j then (bif Nat.ble 30 j then (bif Nat.ble 31 j then (some (48, .iadd, 32, 0, 0, 0)) else (some (47, .iload_n 1, 31, 1, 0, 0))) else (some (44, .sipush 181, 30, 0, 0, 181))) else (bif Nat.ble 27 j then (bif Nat.ble 28 j then (some (41, .goto 6, 30, 0, 0, 0)) else (some (39, .bipush 118, 28, 0, 0, 118))) else (some (36, .ifCond .ne 8, 27, 29, 0, 0)))) else (bif Nat.ble 23 j then (bif Nat.ble 24 j then (bif Nat.ble 25 j then (some (35, .iload_n 2, 26, 2, 0, 0)) else (some (34, .aload_n 0, 25, 0, 0, 0))) else (some (31, .ifCond .lt 20, 24, 34, 0, 0))) else (bif Nat.ble 22 j then (some (30, .iload_n 1, 23, 1, 0, 0)) else (some (29, .iastore, 22, 0, 0, 0)))))) else (bif Nat.ble 10 j then (bif Nat.ble 15 j then (bif Nat.ble 18 j then (bif Nat.ble 19 j then (bif Nat.ble 20 j then (some (27, .bipush (-9), 21, 0, 0, (-9))) else (some (26, .iadd, 20, 0, 0, 0))) else (some (25, .iload_n 3, 19, 3, 0, 0))) else (bif Nat.ble 16 j then (bif Nat.ble 17 j then (some (22, .sipush 181, 18, 0, 0, 181)) else (some (21, .aload_n 0, 17, 0, 0, 0))) else (some (20, .iastore, 16, 0, 0, 0)))) else (bif Nat.ble 12 j then (bif Nat.ble 13 j then (bif Nat.ble 14 j then (some (18, .bipush (-9), 15, 0, 0, (-9))) else (some (17, .iadd, 14, 0, 0, 0))) else (some (16, .iload_n 3, 13, 3, 0, 0))) else (bif Nat.ble 11 j then (some (14, .bipush 118, 12, 0, 0, 118)) else (some (13, .aload_n 0, 11, 0, 0, 0))))) else (bif Nat.ble 5 j then (bif Nat.ble 7 j then (bif Nat.ble 8 j then (bif Nat.ble 9 j then (some (12, .iastore, 10, 0, 0, 0)) else (some (10, .bipush (-9), 9, 0, 0, (-9)))) else (some (9, .iadd, 8, 0, 0, 0))) else (bif Nat.ble 6 j then (some (8, .iload_n 3, 7, 3, 0, 0)) else (some (6, .bipush 55, 6, 0, 0, 55)))) else (bif Nat.ble 2 j then (bif Nat.ble 3 j then (bif Nat.ble 4 j then (some (5, .aload_n 0, 5, 0, 0, 0)) else (some (4, .istore_n 3, 4, 3, 0, 0))) else (some (3, .iaload, 3, 0, 0, 0))) else (bif Nat.ble 1 j then (some (1, .bipush 54, 2, 0, 0, 54)) else (some (0, .aload_n 0, 1, 0, 0, 0)))))))
/-- MotionDeskModel.settles()V -/
def mr_Mo_settles (j : Nat) : Option mx_Row := bif Nat.ble 33 j then none else (bif Nat.ble 16 j then (bif Nat.ble 24 j then (bif Nat.ble 28 j then (bif Nat.ble 30 j then (bif Nat.ble 31 j then (bif Nat.ble 32 j then (some (56, .return_, 33, 0, 0, 0)) else (some (55, .bastore, 32, 0, 0, 0))) else (some (54, .iconst 0, 31, 0, 0, 0))) else (bif Nat.ble 29 j then (some (53, .iconst 1, 30, 0, 0, 1)) else (some (50, .getfield 28, 29, 6, 18, 0)))) else (bif Nat.ble 26 j then (bif Nat.ble 27 j then (some (49, .aload_n 0, 28, 0, 0, 0)) else (some (48, .bastore, 27, 0, 0, 0))) else (bif Nat.ble 25 j then (some (47, .iconst 0, 26, 0, 0, 0)) else (some (46, .iconst 0, 25, 0, 0, 0))))) else (bif Nat.ble 20 j then (bif Nat.ble 22 j then (bif Nat.ble 23 j then (some (43, .getfield 28, 24, 6, 18, 0)) else (some (42, .aload_n 0, 23, 0, 0, 0))) else (bif Nat.ble 21 j then (some (39, .putfield 170, 22, 6, 16, 0)) else (some (38, .iconst 0, 21, 0, 0, 0)))) else (bif Nat.ble 18 j then (bif Nat.ble 19 j then (some (37, .aload_n 0, 20, 0, 0, 0)) else (some (34, .putfield 167, 19, 6, 22, 0))) else (bif Nat.ble 17 j then (some (33, .iconst 0, 18, 0, 0, 0)) else (some (32, .aload_n 0, 17, 0, 0, 0)))))) else (bif Nat.ble 8 j then (bif Nat.ble 12 j then (bif Nat.ble 14 j then (bif Nat.ble 15 j then (some (29, .putfield 106, 16, 6, 2, 0)) else (some (28, .iconst 0, 15, 0, 0, 0))) else (bif Nat.ble 13 j then (some (27, .aload_n 0, 14, 0, 0, 0)) else (some (24, .invokestatic 163, 13, 88, 2, 0)))) else (bif Nat.ble 10 j then (bif Nat.ble 11 j then (some (21, .getfield 16, 12, 6, 13, 0)) else (some (20, .aload_n 0, 11, 0, 0, 0))) else (bif Nat.ble 9 j then (some (17, .getfield 13, 10, 6, 12, 0)) else (some (16, .aload_n 0, 9, 0, 0, 0))))) else (bif Nat.ble 4 j then (bif Nat.ble 6 j then (bif Nat.ble 7 j then (some (13, .putfield 160, 8, 6, 9, 0)) else (some (10, .getfield 138, 7, 6, 11, 0))) else (bif Nat.ble 5 j then (some (9, .aload_n 0, 6, 0, 0, 0)) else (some (8, .aload_n 0, 5, 0, 0, 0)))) else (bif Nat.ble 2 j then (bif Nat.ble 3 j then (some (5, .putfield 157, 4, 6, 8, 0)) else (some (2, .getfield 65, 3, 6, 10, 0))) else (bif Nat.ble 1 j then (some (1, .aload_n 0, 2, 0, 0, 0)) else (some (0, .aload_n 0, 1, 0, 0, 0)))))))
/-- MotionDeskModel.copies([I[I)V -/
def mr_Mo_copies (j : Nat) : Option mx_Row := bif Nat.ble 14 j then none else (bif Nat.ble 7 j then (bif Nat.ble 10 j then (bif Nat.ble 12 j then (bif Nat.ble 13 j then (some (21, .return_, 14, 0, 0, 0)) else (some (18, .goto (-16), 2, 0, 0, 0))) else (bif Nat.ble 11 j then (some (15, .iinc 2 1, 12, 2, 0, 1)) else (some (14, .iastore, 11, 0, 0, 0)))) else (bif Nat.ble 8 j then (bif Nat.ble 9 j then (some (13, .iaload, 10, 0, 0, 0)) else (some (12, .iload_n 2, 9, 2, 0, 0))) else (some (11, .aload_n 0, 8, 0, 0, 0)))) else (bif Nat.ble 3 j then (bif Nat.ble 5 j then (bif Nat.ble 6 j then (some (10, .iload_n 2, 7, 2, 0, 0)) else (some (9, .aload_n 1, 6, 1, 0, 0))) else (bif Nat.ble 4 j then (some (6, .if_icmp .ge 15, 5, 13, 0, 0)) else (some (3, .sipush 244, 4, 0, 0, 244)))) else (bif Nat.ble 1 j then (bif Nat.ble 2 j then (some (2, .iload_n 2, 3, 2, 0, 0)) else (some (1, .istore_n 2, 2, 2, 0, 0))) else (some (0, .iconst 0, 1, 0, 0, 0)))))
/-- MotionDeskModel.type(I)I -/
def mr_Mo_type (j : Nat) : Option mx_Row := bif Nat.ble 31 j then none else (bif Nat.ble 15 j then (bif Nat.ble 23 j then (bif Nat.ble 27 j then (bif Nat.ble 29 j then (bif Nat.ble 30 j then (some (54, .ireturn, 31, 0, 0, 0)) else (some (51, .getfield 106, 30, 6, 2, 0))) else (bif Nat.ble 28 j then (some (50, .aload_n 0, 29, 0, 0, 0)) else (some (47, .putfield 106, 28, 6, 2, 0)))) else (bif Nat.ble 25 j then (bif Nat.ble 26 j then (some (46, .iadd, 27, 0, 0, 0)) else (some (45, .iconst 1, 26, 0, 0, 1))) else (bif Nat.ble 24 j then (some (42, .getfield 106, 25, 6, 2, 0)) else (some (41, .dup, 24, 0, 0, 0))))) else (bif Nat.ble 19 j then (bif Nat.ble 21 j then (bif Nat.ble 22 j then (some (40, .aload_n 0, 23, 0, 0, 0)) else (some (39, .iastore, 22, 0, 0, 0))) else (bif Nat.ble 20 j then (some (38, .iload_n 1, 21, 1, 0, 0)) else (some (35, .getfield 106, 20, 6, 2, 0)))) else (bif Nat.ble 17 j then (bif Nat.ble 18 j then (some (34, .aload_n 0, 19, 0, 0, 0)) else (some (31, .getfield 7, 18, 6, 1, 0))) else (bif Nat.ble 16 j then (some (30, .aload_n 0, 17, 0, 0, 0)) else (some (29, .ireturn, 16, 0, 0, 0)))))) else (bif Nat.ble 7 j then (bif Nat.ble 11 j then (bif Nat.ble 13 j then (bif Nat.ble 14 j then (some (27, .bipush (-3), 15, 0, 0, (-3))) else (some (24, .if_icmp .ne 6, 14, 16, 0, 0))) else (bif Nat.ble 12 j then (some (22, .bipush 120, 13, 0, 0, 120)) else (some (19, .getfield 106, 12, 6, 2, 0)))) else (bif Nat.ble 9 j then (bif Nat.ble 10 j then (some (18, .aload_n 0, 11, 0, 0, 0)) else (some (17, .ireturn, 10, 0, 0, 0))) else (bif Nat.ble 8 j then (some (16, .iconst (-1), 9, 0, 0, (-1))) else (some (13, .ifCond .ne 5, 8, 10, 0, 0))))) else (bif Nat.ble 3 j then (bif Nat.ble 5 j then (bif Nat.ble 6 j then (some (10, .invokestatic 102, 7, 90, 3, 0)) else (some (7, .sipush 255, 6, 0, 0, 255))) else (bif Nat.ble 4 j then (some (6, .iconst 0, 5, 0, 0, 0)) else (some (5, .iload_n 1, 4, 1, 0, 0)))) else (bif Nat.ble 1 j then (bif Nat.ble 2 j then (some (2, .putfield 80, 3, 6, 0, 0)) else (some (1, .iconst 0, 2, 0, 0, 0))) else (some (0, .aload_n 0, 1, 0, 0, 0))))))
/-- MotionDeskModel.in(III)Z -/
def mr_Mo_in (j : Nat) : Option mx_Row := bif Nat.ble 10 j then none else (bif Nat.ble 5 j then (bif Nat.ble 7 j then (bif Nat.ble 8 j then (bif Nat.ble 9 j then (some (15, .ireturn, 10, 0, 0, 0)) else (some (14, .iconst 0, 9, 0, 0, 0))) else (some (11, .goto 4, 9, 0, 0, 0))) else (bif Nat.ble 6 j then (some (10, .iconst 1, 7, 0, 0, 1)) else (some (7, .if_icmp .gt 7, 6, 8, 0, 0)))) else (bif Nat.ble 2 j then (bif Nat.ble 3 j then (bif Nat.ble 4 j then (some (6, .iload_n 2, 5, 2, 0, 0)) else (some (5, .iload_n 0, 4, 0, 0, 0))) else (some (2, .if_icmp .lt 12, 3, 8, 0, 0))) else (bif Nat.ble 1 j then (some (1, .iload_n 1, 2, 1, 0, 0)) else (some (0, .iload_n 0, 1, 0, 0, 0)))))
/-- MotionDeskModel.clear()I -/
def mr_Mo_clear (j : Nat) : Option mx_Row := bif Nat.ble 11 j then none else (bif Nat.ble 5 j then (bif Nat.ble 8 j then (bif Nat.ble 9 j then (bif Nat.ble 10 j then (some (16, .ireturn, 11, 0, 0, 0)) else (some (15, .iload_n 1, 10, 1, 0, 0))) else (some (12, .putfield 106, 9, 6, 2, 0))) else (bif Nat.ble 6 j then (bif Nat.ble 7 j then (some (11, .iconst 0, 8, 0, 0, 0)) else (some (10, .aload_n 0, 7, 0, 0, 0))) else (some (9, .istore_n 1, 6, 1, 0, 0)))) else (bif Nat.ble 2 j then (bif Nat.ble 3 j then (bif Nat.ble 4 j then (some (6, .getfield 106, 5, 6, 2, 0)) else (some (5, .aload_n 0, 4, 0, 0, 0))) else (some (2, .putfield 80, 3, 6, 0, 0))) else (bif Nat.ble 1 j then (some (1, .iconst 0, 2, 0, 0, 0)) else (some (0, .aload_n 0, 1, 0, 0, 0)))))
/-- MotionDeskModel.desk()I -/
def mr_Mo_desk (j : Nat) : Option mx_Row := bif Nat.ble 113 j then none else (bif Nat.ble 56 j then (bif Nat.ble 84 j then (bif Nat.ble 98 j then (bif Nat.ble 105 j then (bif Nat.ble 109 j then (bif Nat.ble 111 j then (bif Nat.ble 112 j then (some (221, .ireturn, 113, 0, 0, 0)) else (some (220, .iload_n 1, 112, 1, 0, 0))) else (bif Nat.ble 110 j then (some (217, .invokevirtual 77, 111, 87, 1, 0)) else (some (216, .aload_n 0, 110, 0, 0, 0)))) else (bif Nat.ble 107 j then (bif Nat.ble 108 j then (some (213, .invokevirtual 73, 109, 84, 3, 0)) else (some (210, .getfield 65, 108, 6, 10, 0))) else (bif Nat.ble 106 j then (some (209, .aload_n 0, 107, 0, 0, 0)) else (some (206, .getfield 13, 106, 6, 12, 0))))) else (bif Nat.ble 101 j then (bif Nat.ble 103 j then (bif Nat.ble 104 j then (some (205, .aload_n 0, 105, 0, 0, 0)) else (some (204, .aload_n 0, 104, 0, 0, 0))) else (bif Nat.ble 102 j then (some (201, .invokevirtual 69, 103, 81, 3, 0)) else (some (198, .getfield 65, 102, 6, 10, 0)))) else (bif Nat.ble 99 j then (bif Nat.ble 100 j then (some (197, .aload_n 0, 101, 0, 0, 0)) else (some (196, .iconst 0, 100, 0, 0, 0))) else (some (195, .aload_n 0, 99, 0, 0, 0))))) else (bif Nat.ble 91 j then (bif Nat.ble 94 j then (bif Nat.ble 96 j then (bif Nat.ble 97 j then (some (192, .ifCond .ne 24, 98, 109, 0, 0)) else (some (191, .iaload, 97, 0, 0, 0))) else (bif Nat.ble 95 j then (some (189, .bipush 54, 96, 0, 0, 54)) else (some (186, .getfield 13, 95, 6, 12, 0)))) else (bif Nat.ble 92 j then (bif Nat.ble 93 j then (some (185, .aload_n 0, 94, 0, 0, 0)) else (some (184, .ireturn, 93, 0, 0, 0))) else (some (183, .isub, 92, 0, 0, 0)))) else (bif Nat.ble 87 j then (bif Nat.ble 89 j then (bif Nat.ble 90 j then (some (180, .getfield 128, 91, 6, 7, 0)) else (some (179, .aload_n 0, 90, 0, 0, 0))) else (bif Nat.ble 88 j then (some (177, .bipush (-10), 89, 0, 0, (-10))) else (some (174, .ifCond .ne 11, 88, 93, 0, 0)))) else (bif Nat.ble 85 j then (bif Nat.ble 86 j then (some (171, .invokevirtual 131, 87, 96, 1, 0)) else (some (170, .aload_n 0, 86, 0, 0, 0))) else (some (167, .goto (-142), 15, 0, 0, 0)))))) else (bif Nat.ble 70 j then (bif Nat.ble 77 j then (bif Nat.ble 80 j then (bif Nat.ble 82 j then (bif Nat.ble 83 j then (some (164, .iinc 1 1, 84, 1, 0, 1)) else (some (163, .pop, 83, 0, 0, 0))) else (bif Nat.ble 81 j then (some (160, .invokevirtual 144, 82, 98, 2, 0)) else (some (159, .iconst 0, 81, 0, 0, 0)))) else (bif Nat.ble 78 j then (bif Nat.ble 79 j then (some (156, .goto 4, 81, 0, 0, 0)) else (some (155, .iconst 1, 79, 0, 0, 1))) else (some (152, .if_icmp .ne 7, 78, 80, 0, 0)))) else (bif Nat.ble 73 j then (bif Nat.ble 75 j then (bif Nat.ble 76 j then (some (151, .iconst 3, 77, 0, 0, 3)) else (some (148, .getfield 118, 76, 6, 4, 0))) else (bif Nat.ble 74 j then (some (147, .aload_n 0, 75, 0, 0, 0)) else (some (146, .aload_n 0, 74, 0, 0, 0)))) else (bif Nat.ble 71 j then (bif Nat.ble 72 j then (some (143, .invokevirtual 154, 73, 101, 1, 0)) else (some (142, .aload_n 0, 72, 0, 0, 0))) else (some (139, .ifCond .eq 7, 71, 73, 0, 0))))) else (bif Nat.ble 63 j then (bif Nat.ble 66 j then (bif Nat.ble 68 j then (bif Nat.ble 69 j then (some (136, .invokevirtual 131, 70, 96, 1, 0)) else (some (135, .aload_n 0, 69, 0, 0, 0))) else (bif Nat.ble 67 j then (some (132, .goto 14, 73, 0, 0, 0)) else (some (129, .invokevirtual 151, 67, 99, 1, 0)))) else (bif Nat.ble 64 j then (bif Nat.ble 65 j then (some (128, .aload_n 0, 66, 0, 0, 0)) else (some (125, .if_icmp .ne 10, 65, 68, 0, 0))) else (some (123, .bipush 114, 64, 0, 0, 114)))) else (bif Nat.ble 59 j then (bif Nat.ble 61 j then (bif Nat.ble 62 j then (some (122, .iload_n 2, 63, 2, 0, 0)) else (some (119, .ifCond .eq 16, 62, 68, 0, 0))) else (bif Nat.ble 60 j then (some (116, .invokevirtual 131, 61, 96, 1, 0)) else (some (115, .aload_n 0, 60, 0, 0, 0)))) else (bif Nat.ble 57 j then (bif Nat.ble 58 j then (some (112, .goto 34, 73, 0, 0, 0)) else (some (109, .putfield 65, 58, 6, 10, 0))) else (some (106, .invokevirtual 144, 57, 98, 2, 0))))))) else (bif Nat.ble 28 j then (bif Nat.ble 42 j then (bif Nat.ble 49 j then (bif Nat.ble 52 j then (bif Nat.ble 54 j then (bif Nat.ble 55 j then (some (105, .iconst 0, 56, 0, 0, 0)) else (some (102, .goto 4, 56, 0, 0, 0))) else (bif Nat.ble 53 j then (some (101, .iconst 1, 54, 0, 0, 1)) else (some (98, .ifCond .eq 7, 53, 55, 0, 0)))) else (bif Nat.ble 50 j then (bif Nat.ble 51 j then (some (95, .invokestatic 102, 52, 90, 3, 0)) else (some (93, .bipush 6, 51, 0, 0, 6))) else (some (92, .iconst 2, 50, 0, 0, 2)))) else (bif Nat.ble 45 j then (bif Nat.ble 47 j then (bif Nat.ble 48 j then (some (89, .getfield 121, 49, 6, 6, 0)) else (some (88, .aload_n 0, 48, 0, 0, 0))) else (bif Nat.ble 46 j then (some (85, .if_icmp .ne 20, 47, 55, 0, 0)) else (some (84, .iconst 2, 46, 0, 0, 2)))) else (bif Nat.ble 43 j then (bif Nat.ble 44 j then (some (81, .getfield 118, 45, 6, 4, 0)) else (some (80, .aload_n 0, 44, 0, 0, 0))) else (some (79, .aload_n 0, 43, 0, 0, 0))))) else (bif Nat.ble 35 j then (bif Nat.ble 38 j then (bif Nat.ble 40 j then (bif Nat.ble 41 j then (some (78, .aload_n 0, 42, 0, 0, 0)) else (some (75, .if_icmp .ne 40, 41, 59, 0, 0))) else (bif Nat.ble 39 j then (some (73, .bipush 110, 40, 0, 0, 110)) else (some (72, .iload_n 2, 39, 2, 0, 0)))) else (bif Nat.ble 36 j then (bif Nat.ble 37 j then (some (69, .ifCond .eq 46, 38, 59, 0, 0)) else (some (66, .invokevirtual 131, 37, 96, 1, 0))) else (some (65, .aload_n 0, 36, 0, 0, 0)))) else (bif Nat.ble 31 j then (bif Nat.ble 33 j then (bif Nat.ble 34 j then (some (64, .istore_n 2, 35, 2, 0, 0)) else (some (61, .invokevirtual 144, 34, 98, 2, 0))) else (bif Nat.ble 32 j then (some (60, .iconst 0, 33, 0, 0, 0)) else (some (57, .goto 4, 33, 0, 0, 0)))) else (bif Nat.ble 29 j then (bif Nat.ble 30 j then (some (56, .iconst 1, 31, 0, 0, 1)) else (some (53, .ifCond .eq 7, 30, 32, 0, 0))) else (some (50, .invokevirtual 148, 29, 97, 2, 0)))))) else (bif Nat.ble 14 j then (bif Nat.ble 21 j then (bif Nat.ble 24 j then (bif Nat.ble 26 j then (bif Nat.ble 27 j then (some (49, .iload_n 1, 28, 1, 0, 0)) else (some (48, .aload_n 0, 27, 0, 0, 0))) else (bif Nat.ble 25 j then (some (45, .if_icmp .ne 15, 26, 32, 0, 0)) else (some (44, .iconst 1, 25, 0, 0, 1)))) else (bif Nat.ble 22 j then (bif Nat.ble 23 j then (some (41, .getfield 118, 24, 6, 4, 0)) else (some (40, .aload_n 0, 23, 0, 0, 0))) else (some (39, .aload_n 0, 22, 0, 0, 0)))) else (bif Nat.ble 17 j then (bif Nat.ble 19 j then (bif Nat.ble 20 j then (some (36, .ifCond .eq 134, 21, 85, 0, 0)) else (some (33, .getfield 118, 20, 6, 4, 0))) else (bif Nat.ble 18 j then (some (32, .aload_n 0, 19, 0, 0, 0)) else (some (29, .ifCond .eq 141, 18, 85, 0, 0)))) else (bif Nat.ble 15 j then (bif Nat.ble 16 j then (some (26, .invokevirtual 131, 17, 96, 1, 0)) else (some (25, .aload_n 0, 16, 0, 0, 0))) else (some (22, .invokevirtual 135, 15, 93, 1, 0))))) else (bif Nat.ble 7 j then (bif Nat.ble 10 j then (bif Nat.ble 12 j then (bif Nat.ble 13 j then (some (21, .aload_n 0, 14, 0, 0, 0)) else (some (20, .istore_n 1, 13, 1, 0, 0))) else (bif Nat.ble 11 j then (some (19, .iconst 0, 12, 0, 0, 0)) else (some (16, .invokevirtual 62, 11, 80, 1, 0)))) else (bif Nat.ble 8 j then (bif Nat.ble 9 j then (some (15, .aload_n 0, 10, 0, 0, 0)) else (some (12, .putfield 109, 9, 6, 3, 0))) else (some (11, .iconst 0, 8, 0, 0, 0)))) else (bif Nat.ble 3 j then (bif Nat.ble 5 j then (bif Nat.ble 6 j then (some (10, .aload_n 0, 7, 0, 0, 0)) else (some (7, .putfield 128, 6, 6, 7, 0))) else (bif Nat.ble 4 j then (some (6, .iconst (-1), 5, 0, 0, (-1))) else (some (5, .aload_n 0, 4, 0, 0, 0)))) else (bif Nat.ble 1 j then (bif Nat.ble 2 j then (some (2, .putfield 80, 3, 6, 0, 0)) else (some (1, .iconst 0, 2, 0, 0, 0))) else (some (0, .aload_n 0, 1, 0, 0, 0))))))))
/-- MotionDeskModel.advances()V -/
def mr_Mo_advances (j : Nat) : Option mx_Row := bif Nat.ble 114 j then none else (bif Nat.ble 57 j then (bif Nat.ble 85 j then (bif Nat.ble 99 j then (bif Nat.ble 106 j then (bif Nat.ble 110 j then (bif Nat.ble 112 j then (bif Nat.ble 113 j then (some (222, .return_, 114, 0, 0, 0)) else (some (219, .putfield 118, 113, 6, 4, 0))) else (bif Nat.ble 111 j then (some (218, .iconst 4, 112, 0, 0, 4)) else (some (215, .goto 4, 112, 0, 0, 0)))) else (bif Nat.ble 108 j then (bif Nat.ble 109 j then (some (214, .iconst 1, 110, 0, 0, 1)) else (some (211, .ifCond .eq 7, 109, 111, 0, 0))) else (bif Nat.ble 107 j then (some (208, .invokestatic 124, 108, 95, 1, 0)) else (some (207, .iload_n 1, 107, 1, 0, 0))))) else (bif Nat.ble 102 j then (bif Nat.ble 104 j then (bif Nat.ble 105 j then (some (204, .goto 15, 112, 0, 0, 0)) else (some (203, .iconst 3, 105, 0, 0, 3))) else (bif Nat.ble 103 j then (some (200, .if_icmp .ne 7, 104, 106, 0, 0)) else (some (198, .bipush 59, 103, 0, 0, 59)))) else (bif Nat.ble 100 j then (bif Nat.ble 101 j then (some (197, .iload_n 1, 102, 1, 0, 0)) else (some (196, .aload_n 0, 101, 0, 0, 0))) else (some (193, .putfield 121, 100, 6, 6, 0))))) else (bif Nat.ble 92 j then (bif Nat.ble 95 j then (bif Nat.ble 97 j then (bif Nat.ble 98 j then (some (192, .iload_n 1, 99, 1, 0, 0)) else (some (191, .aload_n 0, 98, 0, 0, 0))) else (bif Nat.ble 96 j then (some (188, .putfield 109, 97, 6, 3, 0)) else (some (187, .iadd, 96, 0, 0, 0)))) else (bif Nat.ble 93 j then (bif Nat.ble 94 j then (some (186, .iconst 1, 95, 0, 0, 1)) else (some (183, .getfield 109, 94, 6, 3, 0))) else (some (182, .dup, 93, 0, 0, 0)))) else (bif Nat.ble 88 j then (bif Nat.ble 90 j then (bif Nat.ble 91 j then (some (181, .aload_n 0, 92, 0, 0, 0)) else (some (178, .goto 44, 113, 0, 0, 0))) else (bif Nat.ble 89 j then (some (175, .putfield 118, 90, 6, 4, 0)) else (some (174, .iconst 2, 89, 0, 0, 2)))) else (bif Nat.ble 86 j then (bif Nat.ble 87 j then (some (171, .goto 4, 89, 0, 0, 0)) else (some (170, .iconst 4, 87, 0, 0, 4))) else (some (167, .if_icmp .le 7, 86, 88, 0, 0)))))) else (bif Nat.ble 71 j then (bif Nat.ble 78 j then (bif Nat.ble 81 j then (bif Nat.ble 83 j then (bif Nat.ble 84 j then (some (166, .iconst 1, 85, 0, 0, 1)) else (some (165, .isub, 84, 0, 0, 0))) else (bif Nat.ble 82 j then (some (162, .getfield 115, 83, 6, 5, 0)) else (some (161, .aload_n 0, 82, 0, 0, 0)))) else (bif Nat.ble 79 j then (bif Nat.ble 80 j then (some (158, .getfield 109, 81, 6, 3, 0)) else (some (157, .aload_n 0, 80, 0, 0, 0))) else (some (154, .if_icmp .ne 20, 79, 88, 0, 0)))) else (bif Nat.ble 74 j then (bif Nat.ble 76 j then (bif Nat.ble 77 j then (some (152, .bipush 48, 78, 0, 0, 48)) else (some (151, .iload_n 1, 77, 1, 0, 0))) else (bif Nat.ble 75 j then (some (148, .if_icmp .gt 22, 76, 86, 0, 0)) else (some (146, .bipush 99, 75, 0, 0, 99)))) else (bif Nat.ble 72 j then (bif Nat.ble 73 j then (some (143, .getfield 121, 74, 6, 6, 0)) else (some (142, .aload_n 0, 73, 0, 0, 0))) else (some (141, .aload_n 0, 72, 0, 0, 0))))) else (bif Nat.ble 64 j then (bif Nat.ble 67 j then (bif Nat.ble 69 j then (bif Nat.ble 70 j then (some (138, .goto (-67), 36, 0, 0, 0)) else (some (135, .putfield 109, 70, 6, 3, 0))) else (bif Nat.ble 68 j then (some (134, .iadd, 69, 0, 0, 0)) else (some (133, .iconst 1, 68, 0, 0, 1)))) else (bif Nat.ble 65 j then (bif Nat.ble 66 j then (some (130, .getfield 109, 67, 6, 3, 0)) else (some (129, .dup, 66, 0, 0, 0))) else (some (128, .aload_n 0, 65, 0, 0, 0)))) else (bif Nat.ble 60 j then (bif Nat.ble 62 j then (bif Nat.ble 63 j then (some (125, .putfield 121, 64, 6, 6, 0)) else (some (124, .isub, 63, 0, 0, 0))) else (bif Nat.ble 61 j then (some (122, .bipush 48, 62, 0, 0, 48)) else (some (121, .iadd, 61, 0, 0, 0)))) else (bif Nat.ble 58 j then (bif Nat.ble 59 j then (some (118, .invokevirtual 112, 60, 94, 2, 0)) else (some (115, .getfield 109, 59, 6, 3, 0))) else (some (114, .aload_n 0, 58, 0, 0, 0))))))) else (bif Nat.ble 28 j then (bif Nat.ble 42 j then (bif Nat.ble 49 j then (bif Nat.ble 53 j then (bif Nat.ble 55 j then (bif Nat.ble 56 j then (some (113, .aload_n 0, 57, 0, 0, 0)) else (some (112, .imul, 56, 0, 0, 0))) else (bif Nat.ble 54 j then (some (109, .getfield 121, 55, 6, 6, 0)) else (some (108, .aload_n 0, 54, 0, 0, 0)))) else (bif Nat.ble 51 j then (bif Nat.ble 52 j then (some (106, .bipush 10, 53, 0, 0, 10)) else (some (103, .goto 22, 63, 0, 0, 0))) else (bif Nat.ble 50 j then (some (100, .getfield 121, 51, 6, 6, 0)) else (some (99, .aload_n 0, 50, 0, 0, 0))))) else (bif Nat.ble 45 j then (bif Nat.ble 47 j then (bif Nat.ble 48 j then (some (96, .if_icmp .le 10, 49, 52, 0, 0)) else (some (94, .bipush 99, 48, 0, 0, 99))) else (bif Nat.ble 46 j then (some (91, .getfield 121, 47, 6, 6, 0)) else (some (90, .aload_n 0, 46, 0, 0, 0)))) else (bif Nat.ble 43 j then (bif Nat.ble 44 j then (some (89, .aload_n 0, 45, 0, 0, 0)) else (some (86, .ifCond .eq 55, 44, 71, 0, 0))) else (some (83, .invokestatic 102, 43, 90, 3, 0))))) else (bif Nat.ble 35 j then (bif Nat.ble 38 j then (bif Nat.ble 40 j then (bif Nat.ble 41 j then (some (81, .bipush 57, 42, 0, 0, 57)) else (some (79, .bipush 48, 41, 0, 0, 48))) else (bif Nat.ble 39 j then (some (76, .invokevirtual 112, 40, 94, 2, 0)) else (some (73, .getfield 109, 39, 6, 3, 0)))) else (bif Nat.ble 36 j then (bif Nat.ble 37 j then (some (72, .aload_n 0, 38, 0, 0, 0)) else (some (71, .aload_n 0, 37, 0, 0, 0))) else (some (68, .putfield 121, 36, 6, 6, 0)))) else (bif Nat.ble 31 j then (bif Nat.ble 33 j then (bif Nat.ble 34 j then (some (67, .iconst 0, 35, 0, 0, 0)) else (some (66, .aload_n 0, 34, 0, 0, 0))) else (bif Nat.ble 32 j then (some (63, .ifCond .eq 118, 33, 91, 0, 0)) else (some (60, .invokestatic 102, 32, 90, 3, 0)))) else (bif Nat.ble 29 j then (bif Nat.ble 30 j then (some (58, .bipush 57, 31, 0, 0, 57)) else (some (56, .bipush 48, 30, 0, 0, 48))) else (some (55, .iload_n 1, 29, 1, 0, 0)))))) else (bif Nat.ble 14 j then (bif Nat.ble 21 j then (bif Nat.ble 24 j then (bif Nat.ble 26 j then (bif Nat.ble 27 j then (some (52, .goto 170, 113, 0, 0, 0)) else (some (49, .putfield 118, 27, 6, 4, 0))) else (bif Nat.ble 25 j then (some (48, .iconst 0, 26, 0, 0, 0)) else (some (47, .aload_n 0, 25, 0, 0, 0)))) else (bif Nat.ble 22 j then (bif Nat.ble 23 j then (some (44, .ifCond .ge 11, 24, 28, 0, 0)) else (some (43, .iload_n 1, 23, 1, 0, 0))) else (some (42, .istore_n 1, 22, 1, 0, 0)))) else (bif Nat.ble 17 j then (bif Nat.ble 19 j then (bif Nat.ble 20 j then (some (39, .invokevirtual 112, 21, 94, 2, 0)) else (some (36, .getfield 109, 20, 6, 3, 0))) else (bif Nat.ble 18 j then (some (35, .aload_n 0, 19, 0, 0, 0)) else (some (34, .aload_n 0, 18, 0, 0, 0)))) else (bif Nat.ble 15 j then (bif Nat.ble 16 j then (some (31, .putfield 115, 17, 6, 5, 0)) else (some (28, .getfield 109, 16, 6, 3, 0))) else (some (27, .aload_n 0, 15, 0, 0, 0))))) else (bif Nat.ble 7 j then (bif Nat.ble 10 j then (bif Nat.ble 12 j then (bif Nat.ble 13 j then (some (26, .aload_n 0, 14, 0, 0, 0)) else (some (23, .goto (-23), 0, 0, 0, 0))) else (bif Nat.ble 11 j then (some (20, .putfield 109, 12, 6, 3, 0)) else (some (19, .iadd, 11, 0, 0, 0)))) else (bif Nat.ble 8 j then (bif Nat.ble 9 j then (some (18, .iconst 1, 10, 0, 0, 1)) else (some (15, .getfield 109, 9, 6, 3, 0))) else (some (14, .dup, 8, 0, 0, 0)))) else (bif Nat.ble 3 j then (bif Nat.ble 5 j then (bif Nat.ble 6 j then (some (13, .aload_n 0, 7, 0, 0, 0)) else (some (10, .if_icmp .ne 16, 6, 13, 0, 0))) else (bif Nat.ble 4 j then (some (8, .bipush 32, 5, 0, 0, 32)) else (some (5, .invokevirtual 112, 4, 94, 2, 0)))) else (bif Nat.ble 1 j then (bif Nat.ble 2 j then (some (2, .getfield 109, 3, 6, 3, 0)) else (some (1, .aload_n 0, 2, 0, 0, 0))) else (some (0, .aload_n 0, 1, 0, 0, 0))))))))
/-- MotionDeskModel.letterAt(I)I -/
def mr_Mo_letterAt (j : Nat) : Option mx_Row := bif Nat.ble 11 j then none else (bif Nat.ble 5 j then (bif Nat.ble 8 j then (bif Nat.ble 9 j then (bif Nat.ble 10 j then (some (18, .ireturn, 11, 0, 0, 0)) else (some (17, .iconst (-1), 10, 0, 0, (-1)))) else (some (14, .goto 4, 10, 0, 0, 0))) else (bif Nat.ble 6 j then (bif Nat.ble 7 j then (some (13, .iaload, 8, 0, 0, 0)) else (some (12, .iload_n 1, 7, 1, 0, 0))) else (some (9, .getfield 7, 6, 6, 1, 0)))) else (bif Nat.ble 2 j then (bif Nat.ble 3 j then (bif Nat.ble 4 j then (some (8, .aload_n 0, 5, 0, 0, 0)) else (some (5, .if_icmp .ge 12, 4, 9, 0, 0))) else (some (2, .getfield 106, 3, 6, 2, 0))) else (bif Nat.ble 1 j then (some (1, .aload_n 0, 2, 0, 0, 0)) else (some (0, .iload_n 1, 1, 1, 0, 0)))))
/-- MotionDeskModel.isSign(I)Z -/
def mr_Mo_isSign (j : Nat) : Option mx_Row := bif Nat.ble 21 j then none else (bif Nat.ble 10 j then (bif Nat.ble 15 j then (bif Nat.ble 18 j then (bif Nat.ble 19 j then (bif Nat.ble 20 j then (some (40, .ireturn, 21, 0, 0, 0)) else (some (39, .iconst 0, 20, 0, 0, 0))) else (some (36, .goto 4, 20, 0, 0, 0))) else (bif Nat.ble 16 j then (bif Nat.ble 17 j then (some (35, .iconst 1, 18, 0, 0, 1)) else (some (32, .if_icmp .ne 7, 17, 19, 0, 0))) else (some (30, .bipush 41, 16, 0, 0, 41)))) else (bif Nat.ble 12 j then (bif Nat.ble 13 j then (bif Nat.ble 14 j then (some (29, .iload_n 0, 15, 0, 0, 0)) else (some (26, .if_icmp .eq 9, 14, 17, 0, 0))) else (some (24, .bipush 40, 13, 0, 0, 40))) else (bif Nat.ble 11 j then (some (23, .iload_n 0, 12, 0, 0, 0)) else (some (20, .if_icmp .eq 15, 11, 17, 0, 0))))) else (bif Nat.ble 5 j then (bif Nat.ble 7 j then (bif Nat.ble 8 j then (bif Nat.ble 9 j then (some (18, .bipush 114, 10, 0, 0, 114)) else (some (17, .iload_n 0, 9, 0, 0, 0))) else (some (14, .if_icmp .eq 21, 8, 17, 0, 0))) else (bif Nat.ble 6 j then (some (12, .bipush 110, 7, 0, 0, 110)) else (some (11, .iload_n 0, 6, 0, 0, 0)))) else (bif Nat.ble 2 j then (bif Nat.ble 3 j then (bif Nat.ble 4 j then (some (8, .ifCond .ne 27, 5, 17, 0, 0)) else (some (5, .invokestatic 102, 4, 90, 3, 0))) else (some (3, .bipush 103, 3, 0, 0, 103))) else (bif Nat.ble 1 j then (some (1, .bipush 97, 2, 0, 0, 97)) else (some (0, .iload_n 0, 1, 0, 0, 0))))))
/-- MotionDeskModel.isWell()Z -/
def mr_Mo_isWell (j : Nat) : Option mx_Row := bif Nat.ble 7 j then none else (bif Nat.ble 3 j then (bif Nat.ble 5 j then (bif Nat.ble 6 j then (some (12, .ireturn, 7, 0, 0, 0)) else (some (11, .iconst 0, 6, 0, 0, 0))) else (bif Nat.ble 4 j then (some (8, .goto 4, 6, 0, 0, 0)) else (some (7, .iconst 1, 4, 0, 0, 1)))) else (bif Nat.ble 1 j then (bif Nat.ble 2 j then (some (4, .ifCond .ge 7, 3, 5, 0, 0)) else (some (1, .getfield 128, 2, 6, 7, 0))) else (some (0, .aload_n 0, 1, 0, 0, 0))))
/-- MotionDeskModel.mayBegin(I)Z -/
def mr_Mo_mayBegin (j : Nat) : Option mx_Row := bif Nat.ble 35 j then none else (bif Nat.ble 17 j then (bif Nat.ble 26 j then (bif Nat.ble 30 j then (bif Nat.ble 32 j then (bif Nat.ble 33 j then (bif Nat.ble 34 j then (some (71, .ireturn, 35, 0, 0, 0)) else (some (70, .iconst 0, 34, 0, 0, 0))) else (some (67, .goto 4, 34, 0, 0, 0))) else (bif Nat.ble 31 j then (some (66, .iconst 1, 32, 0, 0, 1)) else (some (63, .ifCond .ne 7, 31, 33, 0, 0)))) else (bif Nat.ble 28 j then (bif Nat.ble 29 j then (some (62, .iaload, 30, 0, 0, 0)) else (some (60, .bipush 54, 29, 0, 0, 54))) else (bif Nat.ble 27 j then (some (57, .getfield 13, 28, 6, 12, 0)) else (some (56, .aload_n 0, 27, 0, 0, 0))))) else (bif Nat.ble 21 j then (bif Nat.ble 23 j then (bif Nat.ble 24 j then (bif Nat.ble 25 j then (some (53, .if_icmp .ne 17, 26, 33, 0, 0)) else (some (51, .bipush 103, 25, 0, 0, 103))) else (some (48, .getfield 121, 24, 6, 6, 0))) else (bif Nat.ble 22 j then (some (47, .aload_n 0, 23, 0, 0, 0)) else (some (44, .goto 27, 34, 0, 0, 0)))) else (bif Nat.ble 19 j then (bif Nat.ble 20 j then (some (43, .iconst 0, 21, 0, 0, 0)) else (some (40, .goto 31, 34, 0, 0, 0))) else (bif Nat.ble 18 j then (some (39, .iconst 1, 19, 0, 0, 1)) else (some (36, .if_icmp .ge 7, 18, 20, 0, 0)))))) else (bif Nat.ble 8 j then (bif Nat.ble 12 j then (bif Nat.ble 14 j then (bif Nat.ble 15 j then (bif Nat.ble 16 j then (some (34, .bipush 9, 17, 0, 0, 9)) else (some (31, .getfield 138, 16, 6, 11, 0))) else (some (30, .aload_n 0, 15, 0, 0, 0))) else (bif Nat.ble 13 j then (some (27, .if_icmp .ne 20, 14, 22, 0, 0)) else (some (25, .bipush 114, 13, 0, 0, 114)))) else (bif Nat.ble 10 j then (bif Nat.ble 11 j then (some (22, .getfield 121, 12, 6, 6, 0)) else (some (21, .aload_n 0, 11, 0, 0, 0))) else (bif Nat.ble 9 j then (some (18, .goto 53, 34, 0, 0, 0)) else (some (17, .iconst 0, 9, 0, 0, 0))))) else (bif Nat.ble 4 j then (bif Nat.ble 6 j then (bif Nat.ble 7 j then (some (14, .goto 57, 34, 0, 0, 0)) else (some (13, .iconst 1, 7, 0, 0, 1))) else (bif Nat.ble 5 j then (some (10, .ifCond .ne 7, 6, 8, 0, 0)) else (some (9, .iload_n 1, 5, 1, 0, 0)))) else (bif Nat.ble 2 j then (bif Nat.ble 3 j then (some (6, .if_icmp .ne 15, 4, 10, 0, 0)) else (some (4, .bipush 110, 3, 0, 0, 110))) else (bif Nat.ble 1 j then (some (1, .getfield 121, 2, 6, 6, 0)) else (some (0, .aload_n 0, 1, 0, 0, 0)))))))
/-- MotionDeskModel.takes(Z)I -/
def mr_Mo_takes (j : Nat) : Option mx_Row := bif Nat.ble 20 j then none else (bif Nat.ble 10 j then (bif Nat.ble 15 j then (bif Nat.ble 17 j then (bif Nat.ble 18 j then (bif Nat.ble 19 j then (some (33, .ireturn, 20, 0, 0, 0)) else (some (32, .iload_n 2, 19, 2, 0, 0))) else (some (29, .invokevirtual 135, 18, 93, 1, 0))) else (bif Nat.ble 16 j then (some (28, .aload_n 0, 17, 0, 0, 0)) else (some (27, .istore_n 2, 16, 2, 0, 0)))) else (bif Nat.ble 12 j then (bif Nat.ble 13 j then (bif Nat.ble 14 j then (some (24, .getfield 121, 15, 6, 6, 0)) else (some (23, .aload_n 0, 14, 0, 0, 0))) else (some (22, .ireturn, 13, 0, 0, 0))) else (bif Nat.ble 11 j then (some (21, .iconst 0, 12, 0, 0, 0)) else (some (18, .putfield 128, 11, 6, 7, 0))))) else (bif Nat.ble 5 j then (bif Nat.ble 7 j then (bif Nat.ble 8 j then (bif Nat.ble 9 j then (some (15, .getfield 115, 10, 6, 5, 0)) else (some (14, .aload_n 0, 9, 0, 0, 0))) else (some (13, .aload_n 0, 8, 0, 0, 0))) else (bif Nat.ble 6 j then (some (10, .ifCond .ne 13, 7, 13, 0, 0)) else (some (9, .iload_n 1, 6, 1, 0, 0)))) else (bif Nat.ble 2 j then (bif Nat.ble 3 j then (bif Nat.ble 4 j then (some (8, .ireturn, 5, 0, 0, 0)) else (some (7, .iconst 0, 4, 0, 0, 0))) else (some (4, .ifCond .ne 5, 3, 5, 0, 0))) else (bif Nat.ble 1 j then (some (1, .invokevirtual 131, 2, 96, 1, 0)) else (some (0, .aload_n 0, 1, 0, 0, 0))))))
/-- MotionDeskModel.readsRanking()V -/
def mr_Mo_readsRanking (j : Nat) : Option mx_Row := bif Nat.ble 57 j then none else (bif Nat.ble 28 j then (bif Nat.ble 42 j then (bif Nat.ble 49 j then (bif Nat.ble 53 j then (bif Nat.ble 55 j then (bif Nat.ble 56 j then (some (97, .return_, 57, 0, 0, 0)) else (some (94, .putfield 138, 56, 6, 11, 0))) else (bif Nat.ble 54 j then (some (93, .iadd, 55, 0, 0, 0)) else (some (92, .iconst 1, 54, 0, 0, 1)))) else (bif Nat.ble 51 j then (bif Nat.ble 52 j then (some (89, .getfield 138, 53, 6, 11, 0)) else (some (88, .dup, 52, 0, 0, 0))) else (bif Nat.ble 50 j then (some (87, .aload_n 0, 51, 0, 0, 0)) else (some (84, .goto (-80), 4, 0, 0, 0))))) else (bif Nat.ble 45 j then (bif Nat.ble 47 j then (bif Nat.ble 48 j then (some (81, .iinc 2 1, 49, 2, 0, 1)) else (some (80, .istore_n 1, 48, 1, 0, 0))) else (bif Nat.ble 46 j then (some (79, .ior, 47, 0, 0, 0)) else (some (78, .ishl, 46, 0, 0, 0)))) else (bif Nat.ble 43 j then (bif Nat.ble 44 j then (some (77, .iload_n 3, 45, 3, 0, 0)) else (some (76, .iconst 1, 44, 0, 0, 1))) else (some (75, .iload_n 1, 43, 1, 0, 0))))) else (bif Nat.ble 35 j then (bif Nat.ble 38 j then (bif Nat.ble 40 j then (bif Nat.ble 41 j then (some (74, .iastore, 42, 0, 0, 0)) else (some (73, .iload_n 3, 41, 3, 0, 0))) else (bif Nat.ble 39 j then (some (72, .iadd, 40, 0, 0, 0)) else (some (71, .iload_n 2, 39, 2, 0, 0)))) else (bif Nat.ble 36 j then (bif Nat.ble 37 j then (some (70, .imul, 38, 0, 0, 0)) else (some (67, .getfield 138, 37, 6, 11, 0))) else (some (66, .aload_n 0, 36, 0, 0, 0)))) else (bif Nat.ble 31 j then (bif Nat.ble 33 j then (bif Nat.ble 34 j then (some (64, .bipush 6, 35, 0, 0, 6)) else (some (61, .getfield 13, 34, 6, 12, 0))) else (bif Nat.ble 32 j then (some (60, .aload_n 0, 33, 0, 0, 0)) else (some (57, .ifCond .eq 24, 32, 48, 0, 0)))) else (bif Nat.ble 29 j then (bif Nat.ble 30 j then (some (54, .invokevirtual 131, 31, 96, 1, 0)) else (some (53, .aload_n 0, 30, 0, 0, 0))) else (some (52, .istore_n 3, 29, 3, 0, 0)))))) else (bif Nat.ble 14 j then (bif Nat.ble 21 j then (bif Nat.ble 24 j then (bif Nat.ble 26 j then (bif Nat.ble 27 j then (some (51, .isub, 28, 0, 0, 0)) else (some (49, .bipush 97, 27, 0, 0, 97))) else (bif Nat.ble 25 j then (some (46, .invokevirtual 144, 26, 98, 2, 0)) else (some (45, .iconst 0, 25, 0, 0, 0)))) else (bif Nat.ble 22 j then (bif Nat.ble 23 j then (some (42, .goto 4, 25, 0, 0, 0)) else (some (41, .iconst 1, 23, 0, 0, 1))) else (some (38, .ifCond .ne 7, 22, 24, 0, 0)))) else (bif Nat.ble 17 j then (bif Nat.ble 19 j then (bif Nat.ble 20 j then (some (35, .invokestatic 87, 21, 83, 2, 0)) else (some (34, .isub, 20, 0, 0, 0))) else (bif Nat.ble 18 j then (some (32, .bipush 97, 19, 0, 0, 97)) else (some (29, .getfield 121, 18, 6, 6, 0)))) else (bif Nat.ble 15 j then (bif Nat.ble 16 j then (some (28, .aload_n 0, 17, 0, 0, 0)) else (some (27, .iload_n 1, 16, 1, 0, 0))) else (some (24, .ifCond .eq 21, 15, 24, 0, 0))))) else (bif Nat.ble 7 j then (bif Nat.ble 10 j then (bif Nat.ble 12 j then (bif Nat.ble 13 j then (some (21, .invokevirtual 141, 14, 100, 1, 0)) else (some (20, .aload_n 0, 13, 0, 0, 0))) else (bif Nat.ble 11 j then (some (19, .aload_n 0, 12, 0, 0, 0)) else (some (16, .ifCond .eq 71, 11, 50, 0, 0)))) else (bif Nat.ble 8 j then (bif Nat.ble 9 j then (some (13, .invokevirtual 131, 10, 96, 1, 0)) else (some (12, .aload_n 0, 9, 0, 0, 0))) else (some (9, .if_icmp .ge 78, 8, 50, 0, 0)))) else (bif Nat.ble 3 j then (bif Nat.ble 5 j then (bif Nat.ble 6 j then (some (6, .getfield 65, 7, 6, 10, 0)) else (some (5, .aload_n 0, 6, 0, 0, 0))) else (bif Nat.ble 4 j then (some (4, .iload_n 2, 5, 2, 0, 0)) else (some (3, .istore_n 2, 4, 2, 0, 0)))) else (bif Nat.ble 1 j then (bif Nat.ble 2 j then (some (2, .iconst 0, 3, 0, 0, 0)) else (some (1, .istore_n 1, 2, 1, 0, 0))) else (some (0, .iconst 0, 1, 0, 0, 0)))))))
/-- MotionDeskModel.isMotionSign()Z -/
def mr_Mo_isMotionSign (j : Nat) : Option mx_Row := bif Nat.ble 19 j then none else (bif Nat.ble 9 j then (bif Nat.ble 14 j then (bif Nat.ble 16 j then (bif Nat.ble 17 j then (bif Nat.ble 18 j then (some (34, .ireturn, 19, 0, 0, 0)) else (some (33, .iconst 0, 18, 0, 0, 0))) else (some (30, .goto 4, 18, 0, 0, 0))) else (bif Nat.ble 15 j then (some (29, .iconst 1, 16, 0, 0, 1)) else (some (26, .ifCond .eq 7, 15, 17, 0, 0)))) else (bif Nat.ble 11 j then (bif Nat.ble 12 j then (bif Nat.ble 13 j then (some (23, .invokestatic 102, 14, 90, 3, 0)) else (some (22, .isub, 13, 0, 0, 0))) else (some (21, .iconst 1, 12, 0, 0, 1))) else (bif Nat.ble 10 j then (some (20, .iadd, 11, 0, 0, 0)) else (some (17, .getfield 65, 10, 6, 10, 0))))) else (bif Nat.ble 4 j then (bif Nat.ble 6 j then (bif Nat.ble 7 j then (bif Nat.ble 8 j then (some (16, .aload_n 0, 9, 0, 0, 0)) else (some (14, .bipush 97, 8, 0, 0, 97))) else (some (12, .bipush 97, 7, 0, 0, 97))) else (bif Nat.ble 5 j then (some (9, .getfield 121, 6, 6, 6, 0)) else (some (8, .aload_n 0, 5, 0, 0, 0)))) else (bif Nat.ble 2 j then (bif Nat.ble 3 j then (some (5, .if_icmp .ne 28, 4, 17, 0, 0)) else (some (4, .iconst 1, 3, 0, 0, 1))) else (bif Nat.ble 1 j then (some (1, .getfield 118, 2, 6, 4, 0)) else (some (0, .aload_n 0, 1, 0, 0, 0))))))
/-- MotionDeskModel.readsAgenda()V -/
def mr_Mo_readsAgenda (j : Nat) : Option mx_Row := bif Nat.ble 142 j then none else (bif Nat.ble 71 j then (bif Nat.ble 106 j then (bif Nat.ble 124 j then (bif Nat.ble 133 j then (bif Nat.ble 137 j then (bif Nat.ble 139 j then (bif Nat.ble 140 j then (bif Nat.ble 141 j then (some (249, .return_, 142, 0, 0, 0)) else (some (246, .goto (-225), 14, 0, 0, 0))) else (some (245, .iastore, 140, 0, 0, 0))) else (bif Nat.ble 138 j then (some (244, .isub, 139, 0, 0, 0)) else (some (242, .bipush 97, 138, 0, 0, 97)))) else (bif Nat.ble 135 j then (bif Nat.ble 136 j then (some (240, .iload 5, 137, 5, 0, 0)) else (some (239, .iadd, 136, 0, 0, 0))) else (bif Nat.ble 134 j then (some (237, .iload 6, 135, 6, 0, 0)) else (some (235, .bipush 55, 134, 0, 0, 55))))) else (bif Nat.ble 128 j then (bif Nat.ble 130 j then (bif Nat.ble 131 j then (bif Nat.ble 132 j then (some (232, .getfield 13, 133, 6, 12, 0)) else (some (231, .aload_n 0, 132, 0, 0, 0))) else (some (228, .goto 18, 140, 0, 0, 0))) else (bif Nat.ble 129 j then (some (225, .invokevirtual 94, 130, 85, 5, 0)) else (some (224, .iconst 0, 129, 0, 0, 0)))) else (bif Nat.ble 126 j then (bif Nat.ble 127 j then (some (222, .iload 6, 128, 6, 0, 0)) else (some (221, .iconst 0, 127, 0, 0, 0))) else (bif Nat.ble 125 j then (some (220, .iconst 0, 126, 0, 0, 0)) else (some (219, .aload_n 0, 125, 0, 0, 0)))))) else (bif Nat.ble 115 j then (bif Nat.ble 119 j then (bif Nat.ble 121 j then (bif Nat.ble 122 j then (bif Nat.ble 123 j then (some (216, .invokevirtual 94, 124, 85, 5, 0)) else (some (215, .iconst 1, 123, 0, 0, 1))) else (some (213, .iload 6, 122, 6, 0, 0))) else (bif Nat.ble 120 j then (some (212, .iconst 0, 121, 0, 0, 0)) else (some (211, .iconst 0, 120, 0, 0, 0)))) else (bif Nat.ble 117 j then (bif Nat.ble 118 j then (some (210, .aload_n 0, 119, 0, 0, 0)) else (some (207, .invokevirtual 94, 118, 85, 5, 0))) else (bif Nat.ble 116 j then (some (206, .iconst 0, 117, 0, 0, 0)) else (some (205, .iconst 0, 116, 0, 0, 0))))) else (bif Nat.ble 110 j then (bif Nat.ble 112 j then (bif Nat.ble 113 j then (bif Nat.ble 114 j then (some (204, .iconst 0, 115, 0, 0, 0)) else (some (203, .iconst 1, 114, 0, 0, 1))) else (some (202, .aload_n 0, 113, 0, 0, 0))) else (bif Nat.ble 111 j then (some (199, .ifCond .eq 32, 112, 131, 0, 0)) else (some (197, .iload 4, 111, 4, 0, 0)))) else (bif Nat.ble 108 j then (bif Nat.ble 109 j then (some (195, .istore 6, 110, 6, 0, 0)) else (some (192, .invokestatic 98, 109, 86, 3, 0))) else (bif Nat.ble 107 j then (some (191, .iload_n 3, 108, 3, 0, 0)) else (some (190, .iload_n 2, 107, 2, 0, 0))))))) else (bif Nat.ble 88 j then (bif Nat.ble 97 j then (bif Nat.ble 101 j then (bif Nat.ble 103 j then (bif Nat.ble 104 j then (bif Nat.ble 105 j then (some (187, .getfield 13, 106, 6, 12, 0)) else (some (186, .aload_n 0, 105, 0, 0, 0))) else (some (183, .ifCond .eq 63, 104, 140, 0, 0))) else (bif Nat.ble 102 j then (some (180, .invokevirtual 131, 103, 96, 1, 0)) else (some (179, .aload_n 0, 102, 0, 0, 0)))) else (bif Nat.ble 99 j then (bif Nat.ble 100 j then (some (177, .istore 5, 101, 5, 0, 0)) else (some (174, .invokevirtual 144, 100, 98, 2, 0))) else (bif Nat.ble 98 j then (some (173, .iconst 0, 99, 0, 0, 0)) else (some (170, .goto 4, 99, 0, 0, 0))))) else (bif Nat.ble 92 j then (bif Nat.ble 94 j then (bif Nat.ble 95 j then (bif Nat.ble 96 j then (some (169, .iconst 1, 97, 0, 0, 1)) else (some (166, .if_icmp .ge 7, 96, 98, 0, 0))) else (some (164, .bipush 31, 95, 0, 0, 31))) else (bif Nat.ble 93 j then (some (163, .iaload, 94, 0, 0, 0)) else (some (161, .bipush 54, 93, 0, 0, 54)))) else (bif Nat.ble 90 j then (bif Nat.ble 91 j then (some (158, .getfield 13, 92, 6, 12, 0)) else (some (157, .aload_n 0, 91, 0, 0, 0))) else (bif Nat.ble 89 j then (some (154, .ifCond .eq 19, 90, 98, 0, 0)) else (some (151, .invokevirtual 141, 89, 100, 1, 0)))))) else (bif Nat.ble 79 j then (bif Nat.ble 83 j then (bif Nat.ble 85 j then (bif Nat.ble 86 j then (bif Nat.ble 87 j then (some (150, .aload_n 0, 88, 0, 0, 0)) else (some (147, .ifCond .ne 10, 87, 90, 0, 0))) else (some (145, .iload 4, 86, 4, 0, 0))) else (bif Nat.ble 84 j then (some (144, .aload_n 0, 85, 0, 0, 0)) else (some (142, .istore 4, 84, 4, 0, 0)))) else (bif Nat.ble 81 j then (bif Nat.ble 82 j then (some (141, .iconst 0, 83, 0, 0, 0)) else (some (138, .goto 4, 83, 0, 0, 0))) else (bif Nat.ble 80 j then (some (137, .iconst 1, 81, 0, 0, 1)) else (some (134, .if_icmp .ne 7, 80, 82, 0, 0))))) else (bif Nat.ble 75 j then (bif Nat.ble 77 j then (bif Nat.ble 78 j then (some (132, .bipush 40, 79, 0, 0, 40)) else (some (129, .getfield 121, 78, 6, 6, 0))) else (bif Nat.ble 76 j then (some (128, .aload_n 0, 77, 0, 0, 0)) else (some (125, .if_icmp .ne 16, 76, 82, 0, 0)))) else (bif Nat.ble 73 j then (bif Nat.ble 74 j then (some (124, .iconst 1, 75, 0, 0, 1)) else (some (121, .getfield 118, 74, 6, 4, 0))) else (bif Nat.ble 72 j then (some (120, .aload_n 0, 73, 0, 0, 0)) else (some (117, .goto 129, 140, 0, 0, 0)))))))) else (bif Nat.ble 35 j then (bif Nat.ble 53 j then (bif Nat.ble 62 j then (bif Nat.ble 66 j then (bif Nat.ble 68 j then (bif Nat.ble 69 j then (bif Nat.ble 70 j then (some (116, .pop, 71, 0, 0, 0)) else (some (113, .invokevirtual 144, 70, 98, 2, 0))) else (some (112, .iconst 0, 69, 0, 0, 0))) else (bif Nat.ble 67 j then (some (109, .goto 4, 69, 0, 0, 0)) else (some (108, .iconst 1, 67, 0, 0, 1)))) else (bif Nat.ble 64 j then (bif Nat.ble 65 j then (some (105, .if_icmp .ne 7, 66, 68, 0, 0)) else (some (103, .bipush 41, 65, 0, 0, 41))) else (bif Nat.ble 63 j then (some (100, .getfield 121, 64, 6, 6, 0)) else (some (99, .aload_n 0, 63, 0, 0, 0))))) else (bif Nat.ble 57 j then (bif Nat.ble 59 j then (bif Nat.ble 60 j then (bif Nat.ble 61 j then (some (96, .if_icmp .ne 16, 62, 68, 0, 0)) else (some (95, .iconst 1, 61, 0, 0, 1))) else (some (92, .getfield 118, 60, 6, 4, 0))) else (bif Nat.ble 58 j then (some (91, .aload_n 0, 59, 0, 0, 0)) else (some (90, .aload_n 0, 58, 0, 0, 0)))) else (bif Nat.ble 55 j then (bif Nat.ble 56 j then (some (87, .if_icmp .ne 33, 57, 72, 0, 0)) else (some (86, .iconst 1, 56, 0, 0, 1))) else (bif Nat.ble 54 j then (some (85, .iload_n 1, 55, 1, 0, 0)) else (some (84, .istore_n 3, 54, 3, 0, 0)))))) else (bif Nat.ble 44 j then (bif Nat.ble 48 j then (bif Nat.ble 50 j then (bif Nat.ble 51 j then (bif Nat.ble 52 j then (some (83, .iaload, 53, 0, 0, 0)) else (some (82, .iadd, 52, 0, 0, 0))) else (some (81, .iconst 3, 51, 0, 0, 3))) else (bif Nat.ble 49 j then (some (80, .imul, 50, 0, 0, 0)) else (some (77, .getfield 91, 49, 6, 29, 0)))) else (bif Nat.ble 46 j then (bif Nat.ble 47 j then (some (76, .aload_n 0, 48, 0, 0, 0)) else (some (75, .iconst 4, 47, 0, 0, 4))) else (bif Nat.ble 45 j then (some (72, .getfield 53, 46, 6, 28, 0)) else (some (71, .aload_n 0, 45, 0, 0, 0))))) else (bif Nat.ble 39 j then (bif Nat.ble 41 j then (bif Nat.ble 42 j then (bif Nat.ble 43 j then (some (70, .istore_n 2, 44, 2, 0, 0)) else (some (69, .iaload, 43, 0, 0, 0))) else (some (68, .iadd, 42, 0, 0, 0))) else (bif Nat.ble 40 j then (some (67, .iconst 2, 41, 0, 0, 2)) else (some (66, .imul, 40, 0, 0, 0)))) else (bif Nat.ble 37 j then (bif Nat.ble 38 j then (some (63, .getfield 91, 39, 6, 29, 0)) else (some (62, .aload_n 0, 38, 0, 0, 0))) else (bif Nat.ble 36 j then (some (61, .iconst 4, 37, 0, 0, 4)) else (some (58, .getfield 53, 36, 6, 28, 0))))))) else (bif Nat.ble 17 j then (bif Nat.ble 26 j then (bif Nat.ble 30 j then (bif Nat.ble 32 j then (bif Nat.ble 33 j then (bif Nat.ble 34 j then (some (57, .aload_n 0, 35, 0, 0, 0)) else (some (56, .istore_n 1, 34, 1, 0, 0))) else (some (55, .iaload, 33, 0, 0, 0))) else (bif Nat.ble 31 j then (some (54, .imul, 32, 0, 0, 0)) else (some (51, .getfield 91, 31, 6, 29, 0)))) else (bif Nat.ble 28 j then (bif Nat.ble 29 j then (some (50, .aload_n 0, 30, 0, 0, 0)) else (some (49, .iconst 4, 29, 0, 0, 4))) else (bif Nat.ble 27 j then (some (46, .getfield 53, 28, 6, 28, 0)) else (some (45, .aload_n 0, 27, 0, 0, 0))))) else (bif Nat.ble 21 j then (bif Nat.ble 23 j then (bif Nat.ble 24 j then (bif Nat.ble 25 j then (some (42, .putfield 91, 26, 6, 29, 0)) else (some (41, .isub, 25, 0, 0, 0))) else (some (40, .iconst 1, 24, 0, 0, 1))) else (bif Nat.ble 22 j then (some (37, .getfield 91, 23, 6, 29, 0)) else (some (36, .dup, 22, 0, 0, 0)))) else (bif Nat.ble 19 j then (bif Nat.ble 20 j then (some (35, .aload_n 0, 21, 0, 0, 0)) else (some (32, .ifCond .eq 217, 20, 141, 0, 0))) else (bif Nat.ble 18 j then (some (29, .invokevirtual 131, 19, 96, 1, 0)) else (some (28, .aload_n 0, 18, 0, 0, 0)))))) else (bif Nat.ble 8 j then (bif Nat.ble 12 j then (bif Nat.ble 14 j then (bif Nat.ble 15 j then (bif Nat.ble 16 j then (some (25, .ifCond .le 224, 17, 141, 0, 0)) else (some (22, .getfield 91, 16, 6, 29, 0))) else (some (21, .aload_n 0, 15, 0, 0, 0))) else (bif Nat.ble 13 j then (some (18, .invokevirtual 94, 14, 85, 5, 0)) else (some (17, .iconst 0, 13, 0, 0, 0)))) else (bif Nat.ble 10 j then (bif Nat.ble 11 j then (some (16, .iconst (-1), 12, 0, 0, (-1))) else (some (15, .iconst 0, 11, 0, 0, 0))) else (bif Nat.ble 9 j then (some (14, .iconst 0, 10, 0, 0, 0)) else (some (13, .aload_n 0, 9, 0, 0, 0))))) else (bif Nat.ble 4 j then (bif Nat.ble 6 j then (bif Nat.ble 7 j then (some (10, .putfield 91, 8, 6, 29, 0)) else (some (9, .iconst 0, 7, 0, 0, 0))) else (bif Nat.ble 5 j then (some (8, .aload_n 0, 6, 0, 0, 0)) else (some (7, .iastore, 5, 0, 0, 0)))) else (bif Nat.ble 2 j then (bif Nat.ble 3 j then (some (6, .iconst 0, 4, 0, 0, 0)) else (some (4, .bipush 54, 3, 0, 0, 54))) else (bif Nat.ble 1 j then (some (1, .getfield 13, 2, 6, 12, 0)) else (some (0, .aload_n 0, 1, 0, 0, 0)))))))))
/-- MotionDeskModel.ranking(II)I -/
def mr_Mo_ranking (j : Nat) : Option mx_Row := bif Nat.ble 22 j then none else (bif Nat.ble 11 j then (bif Nat.ble 16 j then (bif Nat.ble 19 j then (bif Nat.ble 20 j then (bif Nat.ble 21 j then (some (36, .ireturn, 22, 0, 0, 0)) else (some (35, .iconst (-1), 21, 0, 0, (-1)))) else (some (32, .goto 4, 21, 0, 0, 0))) else (bif Nat.ble 17 j then (bif Nat.ble 18 j then (some (31, .iaload, 19, 0, 0, 0)) else (some (30, .iadd, 18, 0, 0, 0))) else (some (29, .iload_n 2, 17, 2, 0, 0)))) else (bif Nat.ble 13 j then (bif Nat.ble 14 j then (bif Nat.ble 15 j then (some (28, .imul, 16, 0, 0, 0)) else (some (27, .iload_n 1, 15, 1, 0, 0))) else (some (25, .bipush 6, 14, 0, 0, 6))) else (bif Nat.ble 12 j then (some (22, .getfield 16, 13, 6, 13, 0)) else (some (21, .aload_n 0, 12, 0, 0, 0))))) else (bif Nat.ble 5 j then (bif Nat.ble 8 j then (bif Nat.ble 9 j then (bif Nat.ble 10 j then (some (18, .ifCond .eq 17, 11, 20, 0, 0)) else (some (15, .invokevirtual 209, 10, 104, 2, 0))) else (some (14, .iload_n 2, 9, 2, 0, 0))) else (bif Nat.ble 6 j then (bif Nat.ble 7 j then (some (13, .aload_n 0, 8, 0, 0, 0)) else (some (10, .ifCond .eq 25, 7, 20, 0, 0))) else (some (7, .invokevirtual 206, 6, 103, 2, 0)))) else (bif Nat.ble 2 j then (bif Nat.ble 3 j then (bif Nat.ble 4 j then (some (6, .iload_n 1, 5, 1, 0, 0)) else (some (5, .aload_n 0, 4, 0, 0, 0))) else (some (2, .putfield 80, 3, 6, 0, 0))) else (bif Nat.ble 1 j then (some (1, .iconst 0, 2, 0, 0, 0)) else (some (0, .aload_n 0, 1, 0, 0, 0))))))
/-- MotionDeskModel.isMember(I)Z -/
def mr_Mo_isMember (j : Nat) : Option mx_Row := bif Nat.ble 8 j then none else (bif Nat.ble 4 j then (bif Nat.ble 6 j then (bif Nat.ble 7 j then (some (11, .ireturn, 8, 0, 0, 0)) else (some (8, .invokestatic 102, 7, 90, 3, 0))) else (bif Nat.ble 5 j then (some (7, .isub, 6, 0, 0, 0)) else (some (6, .iconst 1, 5, 0, 0, 1)))) else (bif Nat.ble 2 j then (bif Nat.ble 3 j then (some (3, .getfield 160, 4, 6, 9, 0)) else (some (2, .aload_n 0, 3, 0, 0, 0))) else (bif Nat.ble 1 j then (some (1, .iconst 0, 2, 0, 0, 0)) else (some (0, .iload_n 1, 1, 1, 0, 0)))))
/-- MotionDeskModel.isMotion(I)Z -/
def mr_Mo_isMotion (j : Nat) : Option mx_Row := bif Nat.ble 8 j then none else (bif Nat.ble 4 j then (bif Nat.ble 6 j then (bif Nat.ble 7 j then (some (11, .ireturn, 8, 0, 0, 0)) else (some (8, .invokestatic 102, 7, 90, 3, 0))) else (bif Nat.ble 5 j then (some (7, .isub, 6, 0, 0, 0)) else (some (6, .iconst 1, 5, 0, 0, 1)))) else (bif Nat.ble 2 j then (bif Nat.ble 3 j then (some (3, .getfield 157, 4, 6, 8, 0)) else (some (2, .aload_n 0, 3, 0, 0, 0))) else (bif Nat.ble 1 j then (some (1, .iconst 0, 2, 0, 0, 0)) else (some (0, .iload_n 1, 1, 1, 0, 0)))))
/-- MotionDeskModel.node(II)I -/
def mr_Mo_node (j : Nat) : Option mx_Row := bif Nat.ble 91 j then none else (bif Nat.ble 45 j then (bif Nat.ble 68 j then (bif Nat.ble 79 j then (bif Nat.ble 85 j then (bif Nat.ble 88 j then (bif Nat.ble 89 j then (bif Nat.ble 90 j then (some (161, .ireturn, 91, 0, 0, 0)) else (some (160, .iconst 0, 90, 0, 0, 0))) else (some (157, .goto 4, 90, 0, 0, 0))) else (bif Nat.ble 86 j then (bif Nat.ble 87 j then (some (154, .invokevirtual 190, 88, 110, 3, 0)) else (some (153, .iload_n 1, 87, 1, 0, 0))) else (some (150, .getfield 16, 86, 6, 13, 0)))) else (bif Nat.ble 82 j then (bif Nat.ble 83 j then (bif Nat.ble 84 j then (some (149, .aload_n 0, 85, 0, 0, 0)) else (some (148, .aload_n 0, 84, 0, 0, 0))) else (some (145, .if_icmp .ne 15, 83, 89, 0, 0))) else (bif Nat.ble 80 j then (bif Nat.ble 81 j then (some (143, .bipush (-9), 82, 0, 0, (-9))) else (some (142, .iaload, 81, 0, 0, 0))) else (some (141, .iadd, 80, 0, 0, 0))))) else (bif Nat.ble 73 j then (bif Nat.ble 76 j then (bif Nat.ble 77 j then (bif Nat.ble 78 j then (some (140, .iload_n 1, 79, 1, 0, 0)) else (some (138, .bipush 55, 78, 0, 0, 55))) else (some (135, .getfield 16, 77, 6, 13, 0))) else (bif Nat.ble 74 j then (bif Nat.ble 75 j then (some (134, .aload_n 0, 76, 0, 0, 0)) else (some (131, .goto 30, 90, 0, 0, 0))) else (some (128, .invokevirtual 203, 74, 113, 3, 0)))) else (bif Nat.ble 70 j then (bif Nat.ble 71 j then (bif Nat.ble 72 j then (some (127, .iload_n 1, 73, 1, 0, 0)) else (some (124, .getfield 16, 72, 6, 13, 0))) else (some (123, .aload_n 0, 71, 0, 0, 0))) else (bif Nat.ble 69 j then (some (122, .aload_n 0, 70, 0, 0, 0)) else (some (119, .if_icmp .ne 15, 69, 75, 0, 0)))))) else (bif Nat.ble 56 j then (bif Nat.ble 62 j then (bif Nat.ble 65 j then (bif Nat.ble 66 j then (bif Nat.ble 67 j then (some (118, .iconst 5, 68, 0, 0, 5)) else (some (117, .iload_n 2, 67, 2, 0, 0))) else (some (114, .goto 47, 90, 0, 0, 0))) else (bif Nat.ble 63 j then (bif Nat.ble 64 j then (some (111, .invokevirtual 200, 65, 109, 3, 0)) else (some (110, .iload_n 1, 64, 1, 0, 0))) else (some (107, .getfield 16, 63, 6, 13, 0)))) else (bif Nat.ble 59 j then (bif Nat.ble 60 j then (bif Nat.ble 61 j then (some (106, .aload_n 0, 62, 0, 0, 0)) else (some (105, .aload_n 0, 61, 0, 0, 0))) else (some (102, .if_icmp .ne 15, 60, 66, 0, 0))) else (bif Nat.ble 57 j then (bif Nat.ble 58 j then (some (101, .iconst 4, 59, 0, 0, 4)) else (some (100, .iload_n 2, 58, 2, 0, 0))) else (some (99, .ireturn, 57, 0, 0, 0))))) else (bif Nat.ble 50 j then (bif Nat.ble 53 j then (bif Nat.ble 54 j then (bif Nat.ble 55 j then (some (98, .iaload, 56, 0, 0, 0)) else (some (97, .iload_n 1, 55, 1, 0, 0))) else (some (94, .getfield 44, 54, 6, 25, 0))) else (bif Nat.ble 51 j then (bif Nat.ble 52 j then (some (93, .aload_n 0, 53, 0, 0, 0)) else (some (90, .goto 9, 56, 0, 0, 0))) else (some (89, .iaload, 51, 0, 0, 0)))) else (bif Nat.ble 47 j then (bif Nat.ble 48 j then (bif Nat.ble 49 j then (some (88, .iadd, 50, 0, 0, 0)) else (some (87, .iload_n 1, 49, 1, 0, 0))) else (some (84, .sipush 181, 48, 0, 0, 181))) else (bif Nat.ble 46 j then (some (81, .getfield 16, 47, 6, 13, 0)) else (some (80, .aload_n 0, 46, 0, 0, 0))))))) else (bif Nat.ble 22 j then (bif Nat.ble 33 j then (bif Nat.ble 39 j then (bif Nat.ble 42 j then (bif Nat.ble 43 j then (bif Nat.ble 44 j then (some (77, .if_icmp .ne 16, 45, 52, 0, 0)) else (some (76, .iconst 2, 44, 0, 0, 2))) else (some (75, .iload_n 2, 43, 2, 0, 0))) else (bif Nat.ble 40 j then (bif Nat.ble 41 j then (some (72, .goto 27, 56, 0, 0, 0)) else (some (71, .iaload, 41, 0, 0, 0))) else (some (70, .iadd, 40, 0, 0, 0)))) else (bif Nat.ble 36 j then (bif Nat.ble 37 j then (bif Nat.ble 38 j then (some (69, .iload_n 1, 39, 1, 0, 0)) else (some (67, .bipush 118, 38, 0, 0, 118))) else (some (64, .getfield 16, 37, 6, 13, 0))) else (bif Nat.ble 34 j then (bif Nat.ble 35 j then (some (63, .aload_n 0, 36, 0, 0, 0)) else (some (60, .if_icmp .ne 15, 35, 42, 0, 0))) else (some (59, .iconst 1, 34, 0, 0, 1))))) else (bif Nat.ble 27 j then (bif Nat.ble 30 j then (bif Nat.ble 31 j then (bif Nat.ble 32 j then (some (58, .iload_n 2, 33, 2, 0, 0)) else (some (55, .goto 44, 56, 0, 0, 0))) else (some (54, .iaload, 31, 0, 0, 0))) else (bif Nat.ble 28 j then (bif Nat.ble 29 j then (some (53, .iadd, 30, 0, 0, 0)) else (some (52, .iload_n 1, 29, 1, 0, 0))) else (some (50, .bipush 55, 28, 0, 0, 55)))) else (bif Nat.ble 24 j then (bif Nat.ble 25 j then (bif Nat.ble 26 j then (some (47, .getfield 16, 27, 6, 13, 0)) else (some (46, .aload_n 0, 26, 0, 0, 0))) else (some (43, .ifCond .ne 15, 25, 32, 0, 0))) else (bif Nat.ble 23 j then (some (42, .iload_n 2, 24, 2, 0, 0)) else (some (39, .if_icmp .ge 61, 23, 57, 0, 0)))))) else (bif Nat.ble 11 j then (bif Nat.ble 16 j then (bif Nat.ble 19 j then (bif Nat.ble 20 j then (bif Nat.ble 21 j then (some (38, .iconst 4, 22, 0, 0, 4)) else (some (37, .iload_n 2, 21, 2, 0, 0))) else (some (34, .invokevirtual 186, 20, 108, 2, 0))) else (bif Nat.ble 17 j then (bif Nat.ble 18 j then (some (31, .getfield 16, 19, 6, 13, 0)) else (some (30, .aload_n 0, 18, 0, 0, 0))) else (some (29, .aload_n 0, 17, 0, 0, 0)))) else (bif Nat.ble 13 j then (bif Nat.ble 14 j then (bif Nat.ble 15 j then (some (26, .invokevirtual 215, 16, 107, 1, 0)) else (some (25, .aload_n 0, 15, 0, 0, 0))) else (some (24, .ireturn, 14, 0, 0, 0))) else (bif Nat.ble 12 j then (some (23, .iconst (-1), 13, 0, 0, (-1))) else (some (20, .ifCond .ne 5, 12, 14, 0, 0))))) else (bif Nat.ble 5 j then (bif Nat.ble 8 j then (bif Nat.ble 9 j then (bif Nat.ble 10 j then (some (17, .invokestatic 102, 11, 90, 3, 0)) else (some (15, .bipush 6, 10, 0, 0, 6))) else (some (14, .iconst 0, 9, 0, 0, 0))) else (bif Nat.ble 6 j then (bif Nat.ble 7 j then (some (13, .iload_n 2, 8, 2, 0, 0)) else (some (10, .ifCond .eq 13, 7, 12, 0, 0))) else (some (7, .invokevirtual 212, 6, 106, 2, 0)))) else (bif Nat.ble 2 j then (bif Nat.ble 3 j then (bif Nat.ble 4 j then (some (6, .iload_n 1, 5, 1, 0, 0)) else (some (5, .aload_n 0, 4, 0, 0, 0))) else (some (2, .putfield 80, 3, 6, 0, 0))) else (bif Nat.ble 1 j then (some (1, .iconst 0, 2, 0, 0, 0)) else (some (0, .aload_n 0, 1, 0, 0, 0))))))))
/-- MotionDeskModel.isNode(I)Z -/
def mr_Mo_isNode (j : Nat) : Option mx_Row := bif Nat.ble 10 j then none else (bif Nat.ble 5 j then (bif Nat.ble 7 j then (bif Nat.ble 8 j then (bif Nat.ble 9 j then (some (14, .ireturn, 10, 0, 0, 0)) else (some (11, .invokestatic 102, 9, 90, 3, 0))) else (some (10, .isub, 8, 0, 0, 0))) else (bif Nat.ble 6 j then (some (9, .iconst 1, 7, 0, 0, 1)) else (some (8, .iaload, 6, 0, 0, 0)))) else (bif Nat.ble 2 j then (bif Nat.ble 3 j then (bif Nat.ble 4 j then (some (6, .bipush 54, 5, 0, 0, 54)) else (some (3, .getfield 16, 4, 6, 13, 0))) else (some (2, .aload_n 0, 3, 0, 0, 0))) else (bif Nat.ble 1 j then (some (1, .iconst 0, 2, 0, 0, 0)) else (some (0, .iload_n 1, 1, 1, 0, 0)))))
/-- MotionDeskModel.all()V -/
def mr_Mo_all (j : Nat) : Option mx_Row := bif Nat.ble 9 j then none else (bif Nat.ble 4 j then (bif Nat.ble 6 j then (bif Nat.ble 7 j then (bif Nat.ble 8 j then (some (12, .return_, 9, 0, 0, 0)) else (some (9, .putfield 173, 8, 6, 23, 0))) else (some (8, .isub, 7, 0, 0, 0))) else (bif Nat.ble 5 j then (some (7, .iconst 1, 6, 0, 0, 1)) else (some (6, .ishl, 5, 0, 0, 0)))) else (bif Nat.ble 2 j then (bif Nat.ble 3 j then (some (3, .getfield 160, 4, 6, 9, 0)) else (some (2, .aload_n 0, 3, 0, 0, 0))) else (bif Nat.ble 1 j then (some (1, .iconst 1, 2, 0, 0, 1)) else (some (0, .aload_n 0, 1, 0, 0, 0)))))
/-- MotionDeskModel.setsOf([I)V -/
def mr_Mo_setsOf (j : Nat) : Option mx_Row := bif Nat.ble 47 j then none else (bif Nat.ble 23 j then (bif Nat.ble 35 j then (bif Nat.ble 41 j then (bif Nat.ble 44 j then (bif Nat.ble 45 j then (bif Nat.ble 46 j then (some (69, .return_, 47, 0, 0, 0)) else (some (66, .goto (-59), 6, 0, 0, 0))) else (some (63, .iinc 2 (-1), 45, 2, 0, (-1)))) else (bif Nat.ble 42 j then (bif Nat.ble 43 j then (some (62, .iastore, 44, 0, 0, 0)) else (some (61, .ior, 43, 0, 0, 0))) else (some (60, .iaload, 42, 0, 0, 0)))) else (bif Nat.ble 38 j then (bif Nat.ble 39 j then (bif Nat.ble 40 j then (some (59, .iaload, 41, 0, 0, 0)) else (some (58, .iadd, 40, 0, 0, 0))) else (some (57, .iload_n 2, 39, 2, 0, 0))) else (bif Nat.ble 36 j then (bif Nat.ble 37 j then (some (54, .sipush 181, 38, 0, 0, 181)) else (some (53, .aload_n 1, 37, 1, 0, 0))) else (some (50, .getfield 44, 36, 6, 25, 0))))) else (bif Nat.ble 29 j then (bif Nat.ble 32 j then (bif Nat.ble 33 j then (bif Nat.ble 34 j then (some (49, .aload_n 0, 35, 0, 0, 0)) else (some (48, .iaload, 34, 0, 0, 0))) else (some (47, .iaload, 33, 0, 0, 0))) else (bif Nat.ble 30 j then (bif Nat.ble 31 j then (some (46, .iadd, 32, 0, 0, 0)) else (some (45, .iload_n 2, 31, 2, 0, 0))) else (some (43, .bipush 118, 30, 0, 0, 118)))) else (bif Nat.ble 26 j then (bif Nat.ble 27 j then (bif Nat.ble 28 j then (some (42, .aload_n 1, 29, 1, 0, 0)) else (some (39, .getfield 44, 28, 6, 25, 0))) else (some (38, .aload_n 0, 27, 0, 0, 0))) else (bif Nat.ble 24 j then (bif Nat.ble 25 j then (some (35, .goto 27, 43, 0, 0, 0)) else (some (34, .ishl, 25, 0, 0, 0))) else (some (33, .iaload, 24, 0, 0, 0)))))) else (bif Nat.ble 11 j then (bif Nat.ble 17 j then (bif Nat.ble 20 j then (bif Nat.ble 21 j then (bif Nat.ble 22 j then (some (32, .iadd, 23, 0, 0, 0)) else (some (31, .iload_n 2, 22, 2, 0, 0))) else (some (29, .bipush 55, 21, 0, 0, 55))) else (bif Nat.ble 18 j then (bif Nat.ble 19 j then (some (28, .aload_n 1, 20, 1, 0, 0)) else (some (27, .iconst 1, 19, 0, 0, 1))) else (some (24, .if_icmp .eq 14, 18, 26, 0, 0)))) else (bif Nat.ble 14 j then (bif Nat.ble 15 j then (bif Nat.ble 16 j then (some (22, .bipush (-9), 17, 0, 0, (-9))) else (some (21, .iaload, 16, 0, 0, 0))) else (some (20, .iadd, 15, 0, 0, 0))) else (bif Nat.ble 12 j then (bif Nat.ble 13 j then (some (19, .iload_n 2, 14, 2, 0, 0)) else (some (17, .bipush 55, 13, 0, 0, 55))) else (some (16, .aload_n 1, 12, 1, 0, 0))))) else (bif Nat.ble 5 j then (bif Nat.ble 8 j then (bif Nat.ble 9 j then (bif Nat.ble 10 j then (some (15, .iload_n 2, 11, 2, 0, 0)) else (some (12, .getfield 44, 10, 6, 25, 0))) else (some (11, .aload_n 0, 9, 0, 0, 0))) else (bif Nat.ble 6 j then (bif Nat.ble 7 j then (some (8, .ifCond .lt 61, 8, 46, 0, 0)) else (some (7, .iload_n 2, 7, 2, 0, 0))) else (some (6, .istore_n 2, 6, 2, 0, 0)))) else (bif Nat.ble 2 j then (bif Nat.ble 3 j then (bif Nat.ble 4 j then (some (5, .isub, 5, 0, 0, 0)) else (some (4, .iconst 1, 4, 0, 0, 1))) else (some (3, .iaload, 3, 0, 0, 0))) else (bif Nat.ble 1 j then (some (1, .bipush 54, 2, 0, 0, 54)) else (some (0, .aload_n 1, 1, 1, 0, 0)))))))
/-- MotionDeskModel.sincere([II)I -/
def mr_Mo_sincere (j : Nat) : Option mx_Row := bif Nat.ble 43 j then none else (bif Nat.ble 21 j then (bif Nat.ble 32 j then (bif Nat.ble 37 j then (bif Nat.ble 40 j then (bif Nat.ble 41 j then (bif Nat.ble 42 j then (some (66, .ireturn, 43, 0, 0, 0)) else (some (65, .iaload, 42, 0, 0, 0))) else (some (64, .iadd, 41, 0, 0, 0))) else (bif Nat.ble 38 j then (bif Nat.ble 39 j then (some (63, .iload_n 3, 40, 3, 0, 0)) else (some (61, .bipush 55, 39, 0, 0, 55))) else (some (60, .aload_n 1, 38, 1, 0, 0)))) else (bif Nat.ble 34 j then (bif Nat.ble 35 j then (bif Nat.ble 36 j then (some (57, .goto (-50), 5, 0, 0, 0)) else (some (56, .istore_n 3, 36, 3, 0, 0))) else (some (55, .iaload, 35, 0, 0, 0))) else (bif Nat.ble 33 j then (some (54, .iadd, 34, 0, 0, 0)) else (some (53, .iload_n 3, 33, 3, 0, 0))))) else (bif Nat.ble 26 j then (bif Nat.ble 29 j then (bif Nat.ble 30 j then (bif Nat.ble 31 j then (some (50, .sipush 181, 32, 0, 0, 181)) else (some (49, .aload_n 1, 31, 1, 0, 0))) else (some (46, .goto 10, 35, 0, 0, 0))) else (bif Nat.ble 27 j then (bif Nat.ble 28 j then (some (45, .iaload, 29, 0, 0, 0)) else (some (44, .iadd, 28, 0, 0, 0))) else (some (43, .iload_n 3, 27, 3, 0, 0)))) else (bif Nat.ble 23 j then (bif Nat.ble 24 j then (bif Nat.ble 25 j then (some (41, .bipush 118, 26, 0, 0, 118)) else (some (40, .aload_n 1, 25, 1, 0, 0))) else (some (37, .if_icmp .lt 12, 24, 30, 0, 0))) else (bif Nat.ble 22 j then (some (34, .invokestatic 194, 23, 112, 1, 0)) else (some (31, .getfield 173, 22, 6, 23, 0)))))) else (bif Nat.ble 10 j then (bif Nat.ble 15 j then (bif Nat.ble 18 j then (bif Nat.ble 19 j then (bif Nat.ble 20 j then (some (30, .aload_n 0, 21, 0, 0, 0)) else (some (29, .imul, 20, 0, 0, 0))) else (some (27, .iload 4, 19, 4, 0, 0))) else (bif Nat.ble 16 j then (bif Nat.ble 17 j then (some (26, .iconst 2, 18, 0, 0, 2)) else (some (24, .istore 4, 17, 4, 0, 0))) else (some (21, .invokevirtual 190, 16, 110, 3, 0)))) else (bif Nat.ble 12 j then (bif Nat.ble 13 j then (bif Nat.ble 14 j then (some (20, .iload_n 3, 15, 3, 0, 0)) else (some (19, .aload_n 1, 14, 1, 0, 0))) else (some (18, .aload_n 0, 13, 0, 0, 0))) else (bif Nat.ble 11 j then (some (15, .if_icmp .ne 45, 12, 37, 0, 0)) else (some (13, .bipush (-9), 11, 0, 0, (-9)))))) else (bif Nat.ble 5 j then (bif Nat.ble 7 j then (bif Nat.ble 8 j then (bif Nat.ble 9 j then (some (12, .iaload, 10, 0, 0, 0)) else (some (11, .iadd, 9, 0, 0, 0))) else (some (10, .iload_n 3, 8, 3, 0, 0))) else (bif Nat.ble 6 j then (some (8, .bipush 55, 7, 0, 0, 55)) else (some (7, .aload_n 1, 6, 1, 0, 0)))) else (bif Nat.ble 2 j then (bif Nat.ble 3 j then (bif Nat.ble 4 j then (some (6, .istore_n 3, 5, 3, 0, 0)) else (some (5, .iload_n 2, 4, 2, 0, 0))) else (some (2, .invokevirtual 186, 3, 108, 2, 0))) else (bif Nat.ble 1 j then (some (1, .aload_n 1, 2, 1, 0, 0)) else (some (0, .aload_n 0, 1, 0, 0, 0)))))))
/-- MotionDeskModel.votesFirst([II)I -/
def mr_Mo_votesFirst (j : Nat) : Option mx_Row := bif Nat.ble 46 j then none else (bif Nat.ble 23 j then (bif Nat.ble 34 j then (bif Nat.ble 40 j then (bif Nat.ble 43 j then (bif Nat.ble 44 j then (bif Nat.ble 45 j then (some (77, .ireturn, 46, 0, 0, 0)) else (some (76, .iload_n 3, 45, 3, 0, 0))) else (some (73, .goto (-68), 4, 0, 0, 0))) else (bif Nat.ble 41 j then (bif Nat.ble 42 j then (some (70, .iinc 4 1, 43, 4, 0, 1)) else (some (69, .istore_n 3, 42, 3, 0, 0))) else (some (68, .iadd, 41, 0, 0, 0)))) else (bif Nat.ble 37 j then (bif Nat.ble 38 j then (bif Nat.ble 39 j then (some (67, .iconst 0, 40, 0, 0, 0)) else (some (64, .goto 4, 40, 0, 0, 0))) else (some (63, .iconst 1, 38, 0, 0, 1))) else (bif Nat.ble 35 j then (bif Nat.ble 36 j then (some (60, .ifCond .ne 7, 37, 39, 0, 0)) else (some (57, .invokevirtual 182, 36, 111, 5, 0))) else (some (56, .iaload, 35, 0, 0, 0))))) else (bif Nat.ble 28 j then (bif Nat.ble 31 j then (bif Nat.ble 32 j then (bif Nat.ble 33 j then (some (55, .iaload, 34, 0, 0, 0)) else (some (54, .iadd, 33, 0, 0, 0))) else (some (53, .iload_n 2, 32, 2, 0, 0))) else (bif Nat.ble 29 j then (bif Nat.ble 30 j then (some (50, .sipush 181, 31, 0, 0, 181)) else (some (49, .aload_n 1, 30, 1, 0, 0))) else (some (46, .getfield 44, 29, 6, 25, 0)))) else (bif Nat.ble 25 j then (bif Nat.ble 26 j then (bif Nat.ble 27 j then (some (45, .aload_n 0, 28, 0, 0, 0)) else (some (44, .iaload, 27, 0, 0, 0))) else (some (43, .iaload, 26, 0, 0, 0))) else (bif Nat.ble 24 j then (some (42, .iadd, 25, 0, 0, 0)) else (some (41, .iload_n 2, 24, 2, 0, 0)))))) else (bif Nat.ble 11 j then (bif Nat.ble 17 j then (bif Nat.ble 20 j then (bif Nat.ble 21 j then (bif Nat.ble 22 j then (some (39, .bipush 118, 23, 0, 0, 118)) else (some (38, .aload_n 1, 22, 1, 0, 0))) else (some (35, .getfield 44, 21, 6, 25, 0))) else (bif Nat.ble 18 j then (bif Nat.ble 19 j then (some (34, .aload_n 0, 20, 0, 0, 0)) else (some (33, .imul, 19, 0, 0, 0))) else (some (31, .iload 4, 18, 4, 0, 0)))) else (bif Nat.ble 14 j then (bif Nat.ble 15 j then (bif Nat.ble 16 j then (some (29, .bipush 6, 17, 0, 0, 6)) else (some (28, .aload_n 1, 16, 1, 0, 0))) else (some (27, .aload_n 0, 15, 0, 0, 0))) else (bif Nat.ble 12 j then (bif Nat.ble 13 j then (some (24, .ifCond .eq 43, 14, 39, 0, 0)) else (some (21, .invokestatic 87, 13, 83, 2, 0))) else (some (19, .iload 4, 12, 4, 0, 0))))) else (bif Nat.ble 5 j then (bif Nat.ble 8 j then (bif Nat.ble 9 j then (bif Nat.ble 10 j then (some (16, .getfield 173, 11, 6, 23, 0)) else (some (15, .aload_n 0, 10, 0, 0, 0))) else (some (14, .iload_n 3, 9, 3, 0, 0))) else (bif Nat.ble 6 j then (bif Nat.ble 7 j then (some (11, .if_icmp .ge 65, 8, 44, 0, 0)) else (some (8, .getfield 160, 7, 6, 9, 0))) else (some (7, .aload_n 0, 6, 0, 0, 0)))) else (bif Nat.ble 2 j then (bif Nat.ble 3 j then (bif Nat.ble 4 j then (some (5, .iload 4, 5, 4, 0, 0)) else (some (3, .istore 4, 4, 4, 0, 0))) else (some (2, .iconst 0, 3, 0, 0, 0))) else (bif Nat.ble 1 j then (some (1, .istore_n 3, 2, 3, 0, 0)) else (some (0, .iconst 0, 1, 0, 0, 0)))))))
/-- MotionDeskModel.branchOf([IIII)I -/
def mr_Mo_branchOf (j : Nat) : Option mx_Row := bif Nat.ble 31 j then none else (bif Nat.ble 15 j then (bif Nat.ble 23 j then (bif Nat.ble 27 j then (bif Nat.ble 29 j then (bif Nat.ble 30 j then (some (58, .ireturn, 31, 0, 0, 0)) else (some (57, .iconst 0, 30, 0, 0, 0))) else (bif Nat.ble 28 j then (some (54, .goto (-51), 2, 0, 0, 0)) else (some (51, .iinc 5 1, 28, 5, 0, 1)))) else (bif Nat.ble 25 j then (bif Nat.ble 26 j then (some (50, .ireturn, 27, 0, 0, 0)) else (some (49, .iconst 1, 26, 0, 0, 1))) else (bif Nat.ble 24 j then (some (46, .goto 4, 26, 0, 0, 0)) else (some (45, .iconst 0, 24, 0, 0, 0))))) else (bif Nat.ble 19 j then (bif Nat.ble 21 j then (bif Nat.ble 22 j then (some (42, .ifCond .eq 7, 23, 25, 0, 0)) else (some (39, .invokestatic 87, 22, 83, 2, 0))) else (bif Nat.ble 20 j then (some (37, .iload 6, 21, 6, 0, 0)) else (some (36, .iload_n 3, 20, 3, 0, 0)))) else (bif Nat.ble 17 j then (bif Nat.ble 18 j then (some (33, .if_icmp .eq 18, 19, 27, 0, 0)) else (some (30, .invokestatic 87, 18, 83, 2, 0))) else (bif Nat.ble 16 j then (some (28, .iload 6, 17, 6, 0, 0)) else (some (26, .iload 4, 16, 4, 0, 0)))))) else (bif Nat.ble 7 j then (bif Nat.ble 11 j then (bif Nat.ble 13 j then (bif Nat.ble 14 j then (some (23, .invokestatic 87, 15, 83, 2, 0)) else (some (21, .iload 6, 14, 6, 0, 0))) else (bif Nat.ble 12 j then (some (20, .iload_n 3, 13, 3, 0, 0)) else (some (18, .istore 6, 12, 6, 0, 0)))) else (bif Nat.ble 9 j then (bif Nat.ble 10 j then (some (17, .iaload, 11, 0, 0, 0)) else (some (16, .iadd, 10, 0, 0, 0))) else (bif Nat.ble 8 j then (some (14, .iload 5, 9, 5, 0, 0)) else (some (13, .iload_n 2, 8, 2, 0, 0))))) else (bif Nat.ble 3 j then (bif Nat.ble 5 j then (bif Nat.ble 6 j then (some (12, .aload_n 1, 7, 1, 0, 0)) else (some (9, .if_icmp .ge 48, 6, 29, 0, 0))) else (bif Nat.ble 4 j then (some (6, .getfield 157, 5, 6, 8, 0)) else (some (5, .aload_n 0, 4, 0, 0, 0)))) else (bif Nat.ble 1 j then (bif Nat.ble 2 j then (some (3, .iload 5, 3, 5, 0, 0)) else (some (1, .istore 5, 2, 5, 0, 0))) else (some (0, .iconst 0, 1, 0, 0, 0))))))
/-- MotionDeskModel.ones(I)I -/
def mr_Mo_ones (j : Nat) : Option mx_Row := bif Nat.ble 16 j then none else (bif Nat.ble 8 j then (bif Nat.ble 12 j then (bif Nat.ble 14 j then (bif Nat.ble 15 j then (some (21, .ireturn, 16, 0, 0, 0)) else (some (20, .iload_n 1, 15, 1, 0, 0))) else (bif Nat.ble 13 j then (some (17, .goto (-13), 4, 0, 0, 0)) else (some (16, .istore_n 2, 13, 2, 0, 0)))) else (bif Nat.ble 10 j then (bif Nat.ble 11 j then (some (15, .iand, 12, 0, 0, 0)) else (some (14, .isub, 11, 0, 0, 0))) else (bif Nat.ble 9 j then (some (13, .iconst 1, 10, 0, 0, 1)) else (some (12, .iload_n 2, 9, 2, 0, 0))))) else (bif Nat.ble 4 j then (bif Nat.ble 6 j then (bif Nat.ble 7 j then (some (11, .iload_n 2, 8, 2, 0, 0)) else (some (8, .iinc 1 1, 7, 1, 0, 1))) else (bif Nat.ble 5 j then (some (5, .ifCond .eq 15, 6, 14, 0, 0)) else (some (4, .iload_n 2, 5, 2, 0, 0)))) else (bif Nat.ble 2 j then (bif Nat.ble 3 j then (some (3, .istore_n 2, 4, 2, 0, 0)) else (some (2, .iload_n 0, 3, 0, 0, 0))) else (bif Nat.ble 1 j then (some (1, .istore_n 1, 2, 1, 0, 0)) else (some (0, .iconst 0, 1, 0, 0, 0))))))
/-- MotionDeskModel.foreseen([II)I -/
def mr_Mo_foreseen (j : Nat) : Option mx_Row := bif Nat.ble 72 j then none else (bif Nat.ble 36 j then (bif Nat.ble 54 j then (bif Nat.ble 63 j then (bif Nat.ble 67 j then (bif Nat.ble 69 j then (bif Nat.ble 70 j then (bif Nat.ble 71 j then (some (117, .ireturn, 72, 0, 0, 0)) else (some (116, .iaload, 71, 0, 0, 0))) else (some (115, .iload_n 2, 70, 2, 0, 0))) else (bif Nat.ble 68 j then (some (112, .getfield 47, 69, 6, 26, 0)) else (some (111, .aload_n 0, 68, 0, 0, 0)))) else (bif Nat.ble 65 j then (bif Nat.ble 66 j then (some (108, .goto (-96), 9, 0, 0, 0)) else (some (105, .iinc 3 (-1), 66, 3, 0, (-1)))) else (bif Nat.ble 64 j then (some (104, .iastore, 65, 0, 0, 0)) else (some (102, .iload 5, 64, 5, 0, 0))))) else (bif Nat.ble 58 j then (bif Nat.ble 60 j then (bif Nat.ble 61 j then (bif Nat.ble 62 j then (some (99, .goto 5, 64, 0, 0, 0)) else (some (97, .iload 4, 62, 4, 0, 0))) else (some (94, .ifCond .eq 8, 61, 63, 0, 0))) else (bif Nat.ble 59 j then (some (93, .baload, 60, 0, 0, 0)) else (some (92, .iadd, 59, 0, 0, 0)))) else (bif Nat.ble 56 j then (bif Nat.ble 57 j then (some (90, .iload 5, 58, 5, 0, 0)) else (some (89, .imul, 57, 0, 0, 0))) else (bif Nat.ble 55 j then (some (87, .iload 4, 56, 4, 0, 0)) else (some (85, .bipush 6, 55, 0, 0, 6)))))) else (bif Nat.ble 45 j then (bif Nat.ble 49 j then (bif Nat.ble 51 j then (bif Nat.ble 52 j then (bif Nat.ble 53 j then (some (82, .getfield 41, 54, 6, 24, 0)) else (some (81, .aload_n 0, 53, 0, 0, 0))) else (some (78, .if_icmp .eq 19, 52, 61, 0, 0))) else (bif Nat.ble 50 j then (some (76, .iload 5, 51, 5, 0, 0)) else (some (74, .iload 4, 50, 4, 0, 0)))) else (bif Nat.ble 47 j then (bif Nat.ble 48 j then (some (73, .iload_n 3, 49, 3, 0, 0)) else (some (70, .getfield 47, 48, 6, 26, 0))) else (bif Nat.ble 46 j then (some (69, .aload_n 0, 47, 0, 0, 0)) else (some (67, .istore 5, 46, 5, 0, 0))))) else (bif Nat.ble 40 j then (bif Nat.ble 42 j then (bif Nat.ble 43 j then (bif Nat.ble 44 j then (some (66, .iaload, 45, 0, 0, 0)) else (some (65, .iaload, 44, 0, 0, 0))) else (some (64, .iadd, 43, 0, 0, 0))) else (bif Nat.ble 41 j then (some (63, .iload_n 3, 42, 3, 0, 0)) else (some (60, .sipush 181, 41, 0, 0, 181)))) else (bif Nat.ble 38 j then (bif Nat.ble 39 j then (some (59, .aload_n 1, 40, 1, 0, 0)) else (some (56, .getfield 47, 39, 6, 26, 0))) else (bif Nat.ble 37 j then (some (55, .aload_n 0, 38, 0, 0, 0)) else (some (53, .istore 4, 37, 4, 0, 0))))))) else (bif Nat.ble 18 j then (bif Nat.ble 27 j then (bif Nat.ble 31 j then (bif Nat.ble 33 j then (bif Nat.ble 34 j then (bif Nat.ble 35 j then (some (52, .iaload, 36, 0, 0, 0)) else (some (51, .iaload, 35, 0, 0, 0))) else (some (50, .iadd, 34, 0, 0, 0))) else (bif Nat.ble 32 j then (some (49, .iload_n 3, 33, 3, 0, 0)) else (some (47, .bipush 118, 32, 0, 0, 118)))) else (bif Nat.ble 29 j then (bif Nat.ble 30 j then (some (46, .aload_n 1, 31, 1, 0, 0)) else (some (43, .getfield 47, 30, 6, 26, 0))) else (bif Nat.ble 28 j then (some (42, .aload_n 0, 29, 0, 0, 0)) else (some (39, .goto 66, 65, 0, 0, 0))))) else (bif Nat.ble 22 j then (bif Nat.ble 24 j then (bif Nat.ble 25 j then (bif Nat.ble 26 j then (some (38, .iastore, 27, 0, 0, 0)) else (some (37, .iaload, 26, 0, 0, 0))) else (some (36, .iadd, 25, 0, 0, 0))) else (bif Nat.ble 23 j then (some (35, .iload_n 3, 24, 3, 0, 0)) else (some (33, .bipush 55, 23, 0, 0, 55)))) else (bif Nat.ble 20 j then (bif Nat.ble 21 j then (some (32, .aload_n 1, 22, 1, 0, 0)) else (some (31, .iload_n 3, 21, 3, 0, 0))) else (bif Nat.ble 19 j then (some (28, .getfield 47, 20, 6, 26, 0)) else (some (27, .aload_n 0, 19, 0, 0, 0)))))) else (bif Nat.ble 9 j then (bif Nat.ble 13 j then (bif Nat.ble 15 j then (bif Nat.ble 16 j then (bif Nat.ble 17 j then (some (24, .if_icmp .eq 18, 18, 28, 0, 0)) else (some (22, .bipush (-9), 17, 0, 0, (-9)))) else (some (21, .iaload, 16, 0, 0, 0))) else (bif Nat.ble 14 j then (some (20, .iadd, 15, 0, 0, 0)) else (some (19, .iload_n 3, 14, 3, 0, 0)))) else (bif Nat.ble 11 j then (bif Nat.ble 12 j then (some (17, .bipush 55, 13, 0, 0, 55)) else (some (16, .aload_n 1, 12, 1, 0, 0))) else (bif Nat.ble 10 j then (some (13, .ifCond .lt 98, 11, 67, 0, 0)) else (some (12, .iload_n 3, 10, 3, 0, 0))))) else (bif Nat.ble 4 j then (bif Nat.ble 6 j then (bif Nat.ble 7 j then (bif Nat.ble 8 j then (some (11, .istore_n 3, 9, 3, 0, 0)) else (some (10, .isub, 8, 0, 0, 0))) else (some (9, .iconst 1, 7, 0, 0, 1))) else (bif Nat.ble 5 j then (some (8, .iaload, 6, 0, 0, 0)) else (some (6, .bipush 54, 5, 0, 0, 54)))) else (bif Nat.ble 2 j then (bif Nat.ble 3 j then (some (5, .aload_n 1, 4, 1, 0, 0)) else (some (2, .invokevirtual 197, 3, 114, 2, 0))) else (bif Nat.ble 1 j then (some (1, .aload_n 1, 2, 1, 0, 0)) else (some (0, .aload_n 0, 1, 0, 0, 0))))))))
/-- MotionDeskModel.beatsBy([I)V -/
def mr_Mo_beatsBy (j : Nat) : Option mx_Row := bif Nat.ble 50 j then none else (bif Nat.ble 25 j then (bif Nat.ble 37 j then (bif Nat.ble 43 j then (bif Nat.ble 46 j then (bif Nat.ble 48 j then (bif Nat.ble 49 j then (some (85, .return_, 50, 0, 0, 0)) else (some (82, .goto (-80), 2, 0, 0, 0))) else (bif Nat.ble 47 j then (some (79, .iinc 2 1, 48, 2, 0, 1)) else (some (76, .goto (-64), 8, 0, 0, 0)))) else (bif Nat.ble 44 j then (bif Nat.ble 45 j then (some (73, .iinc 3 1, 46, 3, 0, 1)) else (some (72, .bastore, 45, 0, 0, 0))) else (some (71, .iconst 0, 44, 0, 0, 0)))) else (bif Nat.ble 40 j then (bif Nat.ble 41 j then (bif Nat.ble 42 j then (some (68, .goto 4, 44, 0, 0, 0)) else (some (67, .iconst 1, 42, 0, 0, 1))) else (some (64, .if_icmp .ge 7, 41, 43, 0, 0))) else (bif Nat.ble 38 j then (bif Nat.ble 39 j then (some (63, .iload_n 3, 40, 3, 0, 0)) else (some (62, .iload_n 2, 39, 2, 0, 0))) else (some (59, .ifCond .ne 12, 38, 43, 0, 0))))) else (bif Nat.ble 31 j then (bif Nat.ble 34 j then (bif Nat.ble 35 j then (bif Nat.ble 36 j then (some (57, .iload 4, 37, 4, 0, 0)) else (some (54, .ifCond .gt 13, 36, 41, 0, 0))) else (some (52, .iload 4, 35, 4, 0, 0))) else (bif Nat.ble 32 j then (bif Nat.ble 33 j then (some (51, .iadd, 34, 0, 0, 0)) else (some (50, .iload_n 3, 33, 3, 0, 0))) else (some (49, .imul, 32, 0, 0, 0)))) else (bif Nat.ble 28 j then (bif Nat.ble 29 j then (bif Nat.ble 30 j then (some (48, .iload_n 2, 31, 2, 0, 0)) else (some (46, .bipush 6, 30, 0, 0, 6))) else (some (43, .getfield 41, 29, 6, 24, 0))) else (bif Nat.ble 26 j then (bif Nat.ble 27 j then (some (42, .aload_n 0, 28, 0, 0, 0)) else (some (40, .istore 4, 27, 4, 0, 0))) else (some (39, .isub, 26, 0, 0, 0)))))) else (bif Nat.ble 12 j then (bif Nat.ble 18 j then (bif Nat.ble 21 j then (bif Nat.ble 23 j then (bif Nat.ble 24 j then (some (36, .invokevirtual 179, 25, 115, 4, 0)) else (some (35, .iload_n 2, 24, 2, 0, 0))) else (bif Nat.ble 22 j then (some (34, .iload_n 3, 23, 3, 0, 0)) else (some (33, .aload_n 1, 22, 1, 0, 0)))) else (bif Nat.ble 19 j then (bif Nat.ble 20 j then (some (32, .aload_n 0, 21, 0, 0, 0)) else (some (29, .invokevirtual 179, 20, 115, 4, 0))) else (some (28, .iload_n 3, 19, 3, 0, 0)))) else (bif Nat.ble 15 j then (bif Nat.ble 16 j then (bif Nat.ble 17 j then (some (27, .iload_n 2, 18, 2, 0, 0)) else (some (26, .aload_n 1, 17, 1, 0, 0))) else (some (25, .aload_n 0, 16, 0, 0, 0))) else (bif Nat.ble 13 j then (bif Nat.ble 14 j then (some (22, .if_icmp .eq 51, 15, 45, 0, 0)) else (some (21, .iload_n 3, 14, 3, 0, 0))) else (some (20, .iload_n 2, 13, 2, 0, 0))))) else (bif Nat.ble 6 j then (bif Nat.ble 9 j then (bif Nat.ble 10 j then (bif Nat.ble 11 j then (some (17, .if_icmp .ge 62, 12, 47, 0, 0)) else (some (14, .getfield 157, 11, 6, 8, 0))) else (some (13, .aload_n 0, 10, 0, 0, 0))) else (bif Nat.ble 7 j then (bif Nat.ble 8 j then (some (12, .iload_n 3, 9, 3, 0, 0)) else (some (11, .istore_n 3, 8, 3, 0, 0))) else (some (10, .iconst 0, 7, 0, 0, 0)))) else (bif Nat.ble 3 j then (bif Nat.ble 4 j then (bif Nat.ble 5 j then (some (7, .if_icmp .ge 78, 6, 49, 0, 0)) else (some (4, .getfield 157, 5, 6, 8, 0))) else (some (3, .aload_n 0, 4, 0, 0, 0))) else (bif Nat.ble 1 j then (bif Nat.ble 2 j then (some (2, .iload_n 2, 3, 2, 0, 0)) else (some (1, .istore_n 2, 2, 2, 0, 0))) else (some (0, .iconst 0, 1, 0, 0, 0)))))))
/-- MotionDeskModel.votesOf([III)I -/
def mr_Mo_votesOf (j : Nat) : Option mx_Row := bif Nat.ble 34 j then none else (bif Nat.ble 17 j then (bif Nat.ble 25 j then (bif Nat.ble 29 j then (bif Nat.ble 31 j then (bif Nat.ble 32 j then (bif Nat.ble 33 j then (some (64, .ireturn, 34, 0, 0, 0)) else (some (62, .iload 4, 33, 4, 0, 0))) else (some (59, .goto (-53), 4, 0, 0, 0))) else (bif Nat.ble 30 j then (some (56, .iinc 5 1, 31, 5, 0, 1)) else (some (54, .istore 4, 30, 4, 0, 0)))) else (bif Nat.ble 27 j then (bif Nat.ble 28 j then (some (53, .iadd, 29, 0, 0, 0)) else (some (52, .iconst 0, 28, 0, 0, 0))) else (bif Nat.ble 26 j then (some (49, .goto 4, 28, 0, 0, 0)) else (some (48, .iconst 1, 26, 0, 0, 1))))) else (bif Nat.ble 21 j then (bif Nat.ble 23 j then (bif Nat.ble 24 j then (some (45, .if_icmp .ge 7, 25, 27, 0, 0)) else (some (42, .invokevirtual 176, 24, 116, 4, 0))) else (bif Nat.ble 22 j then (some (41, .iload_n 3, 23, 3, 0, 0)) else (some (39, .iload 5, 22, 5, 0, 0)))) else (bif Nat.ble 19 j then (bif Nat.ble 20 j then (some (38, .aload_n 1, 21, 1, 0, 0)) else (some (37, .aload_n 0, 20, 0, 0, 0))) else (bif Nat.ble 18 j then (some (34, .invokevirtual 176, 19, 116, 4, 0)) else (some (33, .iload_n 2, 18, 2, 0, 0)))))) else (bif Nat.ble 8 j then (bif Nat.ble 12 j then (bif Nat.ble 14 j then (bif Nat.ble 15 j then (bif Nat.ble 16 j then (some (31, .iload 5, 17, 5, 0, 0)) else (some (30, .aload_n 1, 16, 1, 0, 0))) else (some (29, .aload_n 0, 15, 0, 0, 0))) else (bif Nat.ble 13 j then (some (26, .ifCond .eq 26, 14, 27, 0, 0)) else (some (23, .invokestatic 87, 13, 83, 2, 0)))) else (bif Nat.ble 10 j then (bif Nat.ble 11 j then (some (21, .iload 5, 12, 5, 0, 0)) else (some (18, .getfield 173, 11, 6, 23, 0))) else (bif Nat.ble 9 j then (some (17, .aload_n 0, 10, 0, 0, 0)) else (some (15, .iload 4, 9, 4, 0, 0))))) else (bif Nat.ble 4 j then (bif Nat.ble 6 j then (bif Nat.ble 7 j then (some (12, .if_icmp .ge 50, 8, 32, 0, 0)) else (some (9, .getfield 160, 7, 6, 9, 0))) else (bif Nat.ble 5 j then (some (8, .aload_n 0, 6, 0, 0, 0)) else (some (6, .iload 5, 5, 5, 0, 0)))) else (bif Nat.ble 2 j then (bif Nat.ble 3 j then (some (4, .istore 5, 4, 5, 0, 0)) else (some (3, .iconst 0, 3, 0, 0, 0))) else (bif Nat.ble 1 j then (some (1, .istore 4, 2, 4, 0, 0)) else (some (0, .iconst 0, 1, 0, 0, 0)))))))
/-- MotionDeskModel.placeOf([III)I -/
def mr_Mo_placeOf (j : Nat) : Option mx_Row := bif Nat.ble 15 j then none else (bif Nat.ble 7 j then (bif Nat.ble 11 j then (bif Nat.ble 13 j then (bif Nat.ble 14 j then (some (24, .ireturn, 15, 0, 0, 0)) else (some (22, .iload 4, 14, 4, 0, 0))) else (bif Nat.ble 12 j then (some (19, .goto (-16), 2, 0, 0, 0)) else (some (16, .iinc 4 1, 12, 4, 0, 1)))) else (bif Nat.ble 9 j then (bif Nat.ble 10 j then (some (13, .if_icmp .eq 9, 11, 13, 0, 0)) else (some (12, .iload_n 3, 10, 3, 0, 0))) else (bif Nat.ble 8 j then (some (11, .iaload, 9, 0, 0, 0)) else (some (10, .iadd, 8, 0, 0, 0))))) else (bif Nat.ble 3 j then (bif Nat.ble 5 j then (bif Nat.ble 6 j then (some (8, .iload 4, 7, 4, 0, 0)) else (some (7, .imul, 6, 0, 0, 0))) else (bif Nat.ble 4 j then (some (6, .iload_n 2, 5, 2, 0, 0)) else (some (4, .bipush 6, 4, 0, 0, 6)))) else (bif Nat.ble 1 j then (bif Nat.ble 2 j then (some (3, .aload_n 1, 3, 1, 0, 0)) else (some (1, .istore 4, 2, 4, 0, 0))) else (some (0, .iconst 0, 1, 0, 0, 0)))))
/-- MotionDeskModel.votes(II)I -/
def mr_Mo_votes (j : Nat) : Option mx_Row := bif Nat.ble 25 j then none else (bif Nat.ble 12 j then (bif Nat.ble 18 j then (bif Nat.ble 21 j then (bif Nat.ble 23 j then (bif Nat.ble 24 j then (some (42, .ireturn, 25, 0, 0, 0)) else (some (39, .invokevirtual 179, 24, 115, 4, 0))) else (bif Nat.ble 22 j then (some (38, .iload_n 2, 23, 2, 0, 0)) else (some (37, .iload_n 1, 22, 1, 0, 0)))) else (bif Nat.ble 19 j then (bif Nat.ble 20 j then (some (34, .getfield 16, 21, 6, 13, 0)) else (some (33, .aload_n 0, 20, 0, 0, 0))) else (some (32, .aload_n 0, 19, 0, 0, 0)))) else (bif Nat.ble 15 j then (bif Nat.ble 16 j then (bif Nat.ble 17 j then (some (29, .invokevirtual 215, 18, 107, 1, 0)) else (some (28, .aload_n 0, 17, 0, 0, 0))) else (some (27, .ireturn, 16, 0, 0, 0))) else (bif Nat.ble 13 j then (bif Nat.ble 14 j then (some (26, .iconst (-1), 15, 0, 0, (-1))) else (some (23, .if_icmp .ne 5, 14, 16, 0, 0))) else (some (22, .iload_n 2, 13, 2, 0, 0))))) else (bif Nat.ble 6 j then (bif Nat.ble 9 j then (bif Nat.ble 10 j then (bif Nat.ble 11 j then (some (21, .iload_n 1, 12, 1, 0, 0)) else (some (18, .ifCond .eq 8, 11, 14, 0, 0))) else (some (15, .invokevirtual 209, 10, 104, 2, 0))) else (bif Nat.ble 7 j then (bif Nat.ble 8 j then (some (14, .iload_n 2, 9, 2, 0, 0)) else (some (13, .aload_n 0, 8, 0, 0, 0))) else (some (10, .ifCond .eq 16, 7, 14, 0, 0)))) else (bif Nat.ble 3 j then (bif Nat.ble 4 j then (bif Nat.ble 5 j then (some (7, .invokevirtual 209, 6, 104, 2, 0)) else (some (6, .iload_n 1, 5, 1, 0, 0))) else (some (5, .aload_n 0, 4, 0, 0, 0))) else (bif Nat.ble 1 j then (bif Nat.ble 2 j then (some (2, .putfield 80, 3, 6, 0, 0)) else (some (1, .iconst 0, 2, 0, 0, 0))) else (some (0, .aload_n 0, 1, 0, 0, 0))))))
/-- MotionDeskModel.now(I)I -/
def mr_Mo_now (j : Nat) : Option mx_Row := bif Nat.ble 60 j then none else (bif Nat.ble 30 j then (bif Nat.ble 45 j then (bif Nat.ble 52 j then (bif Nat.ble 56 j then (bif Nat.ble 58 j then (bif Nat.ble 59 j then (some (103, .ireturn, 60, 0, 0, 0)) else (some (101, .bipush (-9), 59, 0, 0, (-9)))) else (bif Nat.ble 57 j then (some (98, .goto 5, 59, 0, 0, 0)) else (some (97, .iload_n 3, 57, 3, 0, 0)))) else (bif Nat.ble 54 j then (bif Nat.ble 55 j then (some (94, .if_icmp .ne 7, 56, 58, 0, 0)) else (some (93, .iconst 1, 55, 0, 0, 1))) else (bif Nat.ble 53 j then (some (90, .invokestatic 194, 54, 112, 1, 0)) else (some (89, .iload_n 2, 53, 2, 0, 0))))) else (bif Nat.ble 48 j then (bif Nat.ble 50 j then (bif Nat.ble 51 j then (some (86, .goto (-11), 46, 0, 0, 0)) else (some (83, .iinc 3 1, 51, 3, 0, 1))) else (bif Nat.ble 49 j then (some (80, .ifCond .ne 9, 50, 52, 0, 0)) else (some (77, .invokestatic 87, 49, 83, 2, 0)))) else (bif Nat.ble 46 j then (bif Nat.ble 47 j then (some (76, .iload_n 3, 48, 3, 0, 0)) else (some (75, .iload_n 2, 47, 2, 0, 0))) else (some (74, .istore_n 3, 46, 3, 0, 0))))) else (bif Nat.ble 37 j then (bif Nat.ble 41 j then (bif Nat.ble 43 j then (bif Nat.ble 44 j then (some (73, .iconst 0, 45, 0, 0, 0)) else (some (72, .ireturn, 44, 0, 0, 0))) else (bif Nat.ble 42 j then (some (71, .iload_n 2, 43, 2, 0, 0)) else (some (68, .if_icmp .ne 5, 42, 44, 0, 0)))) else (bif Nat.ble 39 j then (bif Nat.ble 40 j then (some (67, .iconst 1, 41, 0, 0, 1)) else (some (66, .iload_n 1, 40, 1, 0, 0))) else (bif Nat.ble 38 j then (some (65, .istore_n 2, 39, 2, 0, 0)) else (some (62, .invokevirtual 224, 38, 120, 1, 0))))) else (bif Nat.ble 33 j then (bif Nat.ble 35 j then (bif Nat.ble 36 j then (some (61, .aload_n 0, 37, 0, 0, 0)) else (some (60, .ireturn, 36, 0, 0, 0))) else (bif Nat.ble 34 j then (some (59, .iaload, 35, 0, 0, 0)) else (some (57, .bipush 54, 34, 0, 0, 54)))) else (bif Nat.ble 31 j then (bif Nat.ble 32 j then (some (54, .getfield 16, 33, 6, 13, 0)) else (some (53, .aload_n 0, 32, 0, 0, 0))) else (some (50, .ifCond .ne 11, 31, 36, 0, 0)))))) else (bif Nat.ble 15 j then (bif Nat.ble 22 j then (bif Nat.ble 26 j then (bif Nat.ble 28 j then (bif Nat.ble 29 j then (some (49, .iload_n 1, 30, 1, 0, 0)) else (some (48, .ireturn, 29, 0, 0, 0))) else (bif Nat.ble 27 j then (some (45, .invokevirtual 221, 28, 119, 3, 0)) else (some (44, .isub, 27, 0, 0, 0)))) else (bif Nat.ble 24 j then (bif Nat.ble 25 j then (some (43, .iconst 3, 26, 0, 0, 3)) else (some (42, .iload_n 1, 25, 1, 0, 0))) else (bif Nat.ble 23 j then (some (39, .getfield 16, 24, 6, 13, 0)) else (some (38, .aload_n 0, 23, 0, 0, 0))))) else (bif Nat.ble 18 j then (bif Nat.ble 20 j then (bif Nat.ble 21 j then (some (37, .aload_n 0, 22, 0, 0, 0)) else (some (34, .goto 14, 28, 0, 0, 0))) else (bif Nat.ble 19 j then (some (31, .getfield 170, 20, 6, 16, 0)) else (some (30, .aload_n 0, 19, 0, 0, 0)))) else (bif Nat.ble 16 j then (bif Nat.ble 17 j then (some (27, .if_icmp .ne 10, 18, 21, 0, 0)) else (some (26, .iconst 5, 17, 0, 0, 5))) else (some (25, .iload_n 1, 16, 1, 0, 0))))) else (bif Nat.ble 7 j then (bif Nat.ble 11 j then (bif Nat.ble 13 j then (bif Nat.ble 14 j then (some (22, .if_icmp .le 27, 15, 29, 0, 0)) else (some (21, .iconst 2, 14, 0, 0, 2))) else (bif Nat.ble 12 j then (some (20, .iload_n 1, 13, 1, 0, 0)) else (some (17, .invokevirtual 215, 12, 107, 1, 0)))) else (bif Nat.ble 9 j then (bif Nat.ble 10 j then (some (16, .aload_n 0, 11, 0, 0, 0)) else (some (15, .ireturn, 10, 0, 0, 0))) else (bif Nat.ble 8 j then (some (14, .iconst (-1), 9, 0, 0, (-1))) else (some (11, .ifCond .ne 5, 8, 10, 0, 0))))) else (bif Nat.ble 3 j then (bif Nat.ble 5 j then (bif Nat.ble 6 j then (some (8, .invokestatic 102, 7, 90, 3, 0)) else (some (7, .iconst 5, 6, 0, 0, 5))) else (bif Nat.ble 4 j then (some (6, .iconst 0, 5, 0, 0, 0)) else (some (5, .iload_n 1, 4, 1, 0, 0)))) else (bif Nat.ble 1 j then (bif Nat.ble 2 j then (some (2, .putfield 80, 3, 6, 0, 0)) else (some (1, .iconst 0, 2, 0, 0, 0))) else (some (0, .aload_n 0, 1, 0, 0, 0)))))))
/-- MotionDeskModel.outcome([II)I -/
def mr_Mo_outcome (j : Nat) : Option mx_Row := bif Nat.ble 12 j then none else (bif Nat.ble 6 j then (bif Nat.ble 9 j then (bif Nat.ble 10 j then (bif Nat.ble 11 j then (some (19, .ireturn, 12, 0, 0, 0)) else (some (16, .invokevirtual 203, 11, 113, 3, 0))) else (some (15, .iconst 0, 10, 0, 0, 0))) else (bif Nat.ble 7 j then (bif Nat.ble 8 j then (some (14, .aload_n 1, 9, 1, 0, 0)) else (some (13, .aload_n 0, 8, 0, 0, 0))) else (some (10, .goto 9, 11, 0, 0, 0)))) else (bif Nat.ble 3 j then (bif Nat.ble 4 j then (bif Nat.ble 5 j then (some (7, .invokevirtual 200, 6, 109, 3, 0)) else (some (6, .iconst 0, 5, 0, 0, 0))) else (some (5, .aload_n 1, 4, 1, 0, 0))) else (bif Nat.ble 1 j then (bif Nat.ble 2 j then (some (4, .aload_n 0, 3, 0, 0, 0)) else (some (1, .ifCond .ne 12, 2, 7, 0, 0))) else (some (0, .iload_n 2, 1, 2, 0, 0)))))
/-- MotionDeskModel.top()I -/
def mr_Mo_top (j : Nat) : Option mx_Row := bif Nat.ble 36 j then none else (bif Nat.ble 18 j then (bif Nat.ble 27 j then (bif Nat.ble 31 j then (bif Nat.ble 33 j then (bif Nat.ble 34 j then (bif Nat.ble 35 j then (some (61, .ireturn, 36, 0, 0, 0)) else (some (60, .iload_n 1, 35, 1, 0, 0))) else (some (57, .goto (-38), 13, 0, 0, 0))) else (bif Nat.ble 32 j then (some (54, .iinc 2 1, 33, 2, 0, 1)) else (some (53, .istore_n 1, 32, 1, 0, 0)))) else (bif Nat.ble 29 j then (bif Nat.ble 30 j then (some (52, .iload_n 1, 31, 1, 0, 0)) else (some (49, .goto 4, 31, 0, 0, 0))) else (bif Nat.ble 28 j then (some (48, .iload_n 2, 29, 2, 0, 0)) else (some (45, .if_icmp .ge 7, 28, 30, 0, 0))))) else (bif Nat.ble 22 j then (bif Nat.ble 24 j then (bif Nat.ble 25 j then (bif Nat.ble 26 j then (some (42, .invokestatic 194, 27, 112, 1, 0)) else (some (41, .iload_n 1, 26, 1, 0, 0))) else (some (38, .invokestatic 194, 25, 112, 1, 0))) else (bif Nat.ble 23 j then (some (37, .iload_n 2, 24, 2, 0, 0)) else (some (34, .ifCond .eq 18, 23, 30, 0, 0)))) else (bif Nat.ble 20 j then (bif Nat.ble 21 j then (some (31, .invokevirtual 218, 22, 121, 2, 0)) else (some (30, .iload_n 2, 21, 2, 0, 0))) else (bif Nat.ble 19 j then (some (29, .aload_n 0, 20, 0, 0, 0)) else (some (26, .if_icmp .ge 34, 19, 34, 0, 0)))))) else (bif Nat.ble 9 j then (bif Nat.ble 13 j then (bif Nat.ble 15 j then (bif Nat.ble 16 j then (bif Nat.ble 17 j then (some (25, .ishl, 18, 0, 0, 0)) else (some (22, .getfield 157, 17, 6, 8, 0))) else (some (21, .aload_n 0, 16, 0, 0, 0))) else (bif Nat.ble 14 j then (some (20, .iconst 1, 15, 0, 0, 1)) else (some (19, .iload_n 2, 14, 2, 0, 0)))) else (bif Nat.ble 11 j then (bif Nat.ble 12 j then (some (18, .istore_n 2, 13, 2, 0, 0)) else (some (17, .iconst 1, 12, 0, 0, 1))) else (bif Nat.ble 10 j then (some (16, .istore_n 1, 11, 1, 0, 0)) else (some (15, .isub, 10, 0, 0, 0))))) else (bif Nat.ble 4 j then (bif Nat.ble 6 j then (bif Nat.ble 7 j then (bif Nat.ble 8 j then (some (14, .iconst 1, 9, 0, 0, 1)) else (some (13, .ishl, 8, 0, 0, 0))) else (some (10, .getfield 157, 7, 6, 8, 0))) else (bif Nat.ble 5 j then (some (9, .aload_n 0, 6, 0, 0, 0)) else (some (8, .iconst 1, 5, 0, 0, 1)))) else (bif Nat.ble 2 j then (bif Nat.ble 3 j then (some (5, .invokevirtual 197, 4, 114, 2, 0)) else (some (2, .getfield 16, 3, 6, 13, 0))) else (bif Nat.ble 1 j then (some (1, .aload_n 0, 2, 0, 0, 0)) else (some (0, .aload_n 0, 1, 0, 0, 0)))))))
/-- MotionDeskModel.isTop(I)Z -/
def mr_Mo_isTop (j : Nat) : Option mx_Row := bif Nat.ble 43 j then none else (bif Nat.ble 21 j then (bif Nat.ble 32 j then (bif Nat.ble 37 j then (bif Nat.ble 40 j then (bif Nat.ble 41 j then (bif Nat.ble 42 j then (some (79, .ireturn, 43, 0, 0, 0)) else (some (78, .iload_n 2, 42, 2, 0, 0))) else (some (75, .goto (-71), 4, 0, 0, 0))) else (bif Nat.ble 38 j then (bif Nat.ble 39 j then (some (72, .iinc 3 1, 40, 3, 0, 1)) else (some (69, .goto (-54), 10, 0, 0, 0))) else (some (66, .iinc 4 1, 38, 4, 0, 1)))) else (bif Nat.ble 34 j then (bif Nat.ble 35 j then (bif Nat.ble 36 j then (some (65, .istore_n 2, 37, 2, 0, 0)) else (some (64, .iconst 0, 36, 0, 0, 0))) else (some (61, .goto 4, 36, 0, 0, 0))) else (bif Nat.ble 33 j then (some (60, .iconst 1, 34, 0, 0, 1)) else (some (57, .ifCond .eq 7, 33, 35, 0, 0))))) else (bif Nat.ble 26 j then (bif Nat.ble 29 j then (bif Nat.ble 30 j then (bif Nat.ble 31 j then (some (56, .baload, 32, 0, 0, 0)) else (some (55, .iadd, 31, 0, 0, 0))) else (some (53, .iload 4, 30, 4, 0, 0))) else (bif Nat.ble 27 j then (bif Nat.ble 28 j then (some (52, .imul, 29, 0, 0, 0)) else (some (51, .iload_n 3, 28, 3, 0, 0))) else (some (49, .bipush 6, 27, 0, 0, 6)))) else (bif Nat.ble 23 j then (bif Nat.ble 24 j then (bif Nat.ble 25 j then (some (46, .getfield 41, 26, 6, 24, 0)) else (some (45, .aload_n 0, 25, 0, 0, 0))) else (some (42, .ifCond .ne 18, 24, 33, 0, 0))) else (bif Nat.ble 22 j then (some (39, .invokestatic 87, 23, 83, 2, 0)) else (some (37, .iload 4, 22, 4, 0, 0)))))) else (bif Nat.ble 10 j then (bif Nat.ble 15 j then (bif Nat.ble 18 j then (bif Nat.ble 19 j then (bif Nat.ble 20 j then (some (36, .iload_n 1, 21, 1, 0, 0)) else (some (33, .ifCond .eq 27, 20, 33, 0, 0))) else (some (30, .invokestatic 87, 19, 83, 2, 0))) else (bif Nat.ble 16 j then (bif Nat.ble 17 j then (some (29, .iload_n 3, 18, 3, 0, 0)) else (some (28, .iload_n 1, 17, 1, 0, 0))) else (some (25, .ifCond .eq 39, 16, 35, 0, 0)))) else (bif Nat.ble 12 j then (bif Nat.ble 13 j then (bif Nat.ble 14 j then (some (24, .iload_n 2, 15, 2, 0, 0)) else (some (21, .if_icmp .ge 51, 14, 39, 0, 0))) else (some (18, .getfield 157, 13, 6, 8, 0))) else (bif Nat.ble 11 j then (some (17, .aload_n 0, 12, 0, 0, 0)) else (some (15, .iload 4, 11, 4, 0, 0))))) else (bif Nat.ble 5 j then (bif Nat.ble 7 j then (bif Nat.ble 8 j then (bif Nat.ble 9 j then (some (13, .istore 4, 10, 4, 0, 0)) else (some (12, .iconst 0, 9, 0, 0, 0))) else (some (9, .if_icmp .ge 69, 8, 41, 0, 0))) else (bif Nat.ble 6 j then (some (6, .getfield 157, 7, 6, 8, 0)) else (some (5, .aload_n 0, 6, 0, 0, 0)))) else (bif Nat.ble 2 j then (bif Nat.ble 3 j then (bif Nat.ble 4 j then (some (4, .iload_n 3, 5, 3, 0, 0)) else (some (3, .istore_n 3, 4, 3, 0, 0))) else (some (2, .iconst 0, 3, 0, 0, 0))) else (bif Nat.ble 1 j then (some (1, .istore_n 2, 2, 2, 0, 0)) else (some (0, .iconst 1, 1, 0, 0, 1)))))))
/-- MotionDeskModel.ranks(II)I -/
def mr_Mo_ranks (j : Nat) : Option mx_Row := bif Nat.ble 65 j then none else (bif Nat.ble 32 j then (bif Nat.ble 48 j then (bif Nat.ble 56 j then (bif Nat.ble 60 j then (bif Nat.ble 62 j then (bif Nat.ble 63 j then (bif Nat.ble 64 j then (some (96, .ireturn, 65, 0, 0, 0)) else (some (93, .invokevirtual 221, 64, 119, 3, 0))) else (some (92, .iconst 1, 63, 0, 0, 1))) else (bif Nat.ble 61 j then (some (89, .getfield 16, 62, 6, 13, 0)) else (some (88, .aload_n 0, 61, 0, 0, 0)))) else (bif Nat.ble 58 j then (bif Nat.ble 59 j then (some (87, .aload_n 0, 60, 0, 0, 0)) else (some (84, .invokevirtual 215, 59, 107, 1, 0))) else (bif Nat.ble 57 j then (some (83, .aload_n 0, 58, 0, 0, 0)) else (some (82, .iastore, 57, 0, 0, 0))))) else (bif Nat.ble 52 j then (bif Nat.ble 54 j then (bif Nat.ble 55 j then (some (81, .iload_n 3, 56, 3, 0, 0)) else (some (80, .iadd, 55, 0, 0, 0))) else (bif Nat.ble 53 j then (some (79, .iconst 1, 54, 0, 0, 1)) else (some (78, .iadd, 53, 0, 0, 0)))) else (bif Nat.ble 50 j then (bif Nat.ble 51 j then (some (77, .iload_n 2, 52, 2, 0, 0)) else (some (76, .imul, 51, 0, 0, 0))) else (bif Nat.ble 49 j then (some (75, .iload_n 1, 50, 1, 0, 0)) else (some (73, .bipush 6, 49, 0, 0, 6)))))) else (bif Nat.ble 40 j then (bif Nat.ble 44 j then (bif Nat.ble 46 j then (bif Nat.ble 47 j then (some (70, .getfield 16, 48, 6, 13, 0)) else (some (69, .aload_n 0, 47, 0, 0, 0))) else (bif Nat.ble 45 j then (some (68, .iastore, 46, 0, 0, 0)) else (some (67, .iaload, 45, 0, 0, 0)))) else (bif Nat.ble 42 j then (bif Nat.ble 43 j then (some (66, .iadd, 44, 0, 0, 0)) else (some (65, .iconst 1, 43, 0, 0, 1))) else (bif Nat.ble 41 j then (some (64, .iadd, 42, 0, 0, 0)) else (some (63, .iload_n 2, 41, 2, 0, 0))))) else (bif Nat.ble 36 j then (bif Nat.ble 38 j then (bif Nat.ble 39 j then (some (62, .imul, 40, 0, 0, 0)) else (some (61, .iload_n 1, 39, 1, 0, 0))) else (bif Nat.ble 37 j then (some (59, .bipush 6, 38, 0, 0, 6)) else (some (56, .getfield 16, 37, 6, 13, 0)))) else (bif Nat.ble 34 j then (bif Nat.ble 35 j then (some (55, .aload_n 0, 36, 0, 0, 0)) else (some (54, .iadd, 35, 0, 0, 0))) else (bif Nat.ble 33 j then (some (53, .iload_n 2, 34, 2, 0, 0)) else (some (52, .imul, 33, 0, 0, 0))))))) else (bif Nat.ble 16 j then (bif Nat.ble 24 j then (bif Nat.ble 28 j then (bif Nat.ble 30 j then (bif Nat.ble 31 j then (some (51, .iload_n 1, 32, 1, 0, 0)) else (some (49, .bipush 6, 31, 0, 0, 6))) else (bif Nat.ble 29 j then (some (46, .getfield 16, 30, 6, 13, 0)) else (some (45, .aload_n 0, 29, 0, 0, 0)))) else (bif Nat.ble 26 j then (bif Nat.ble 27 j then (some (44, .istore_n 3, 28, 3, 0, 0)) else (some (43, .iaload, 27, 0, 0, 0))) else (bif Nat.ble 25 j then (some (42, .iadd, 26, 0, 0, 0)) else (some (41, .iload_n 2, 25, 2, 0, 0))))) else (bif Nat.ble 20 j then (bif Nat.ble 22 j then (bif Nat.ble 23 j then (some (40, .imul, 24, 0, 0, 0)) else (some (39, .iload_n 1, 23, 1, 0, 0))) else (bif Nat.ble 21 j then (some (37, .bipush 6, 22, 0, 0, 6)) else (some (34, .getfield 16, 21, 6, 13, 0)))) else (bif Nat.ble 18 j then (bif Nat.ble 19 j then (some (33, .aload_n 0, 20, 0, 0, 0)) else (some (30, .invokevirtual 228, 19, 123, 1, 0))) else (bif Nat.ble 17 j then (some (29, .aload_n 0, 18, 0, 0, 0)) else (some (28, .ireturn, 17, 0, 0, 0)))))) else (bif Nat.ble 8 j then (bif Nat.ble 12 j then (bif Nat.ble 14 j then (bif Nat.ble 15 j then (some (27, .iconst (-1), 16, 0, 0, (-1))) else (some (24, .ifCond .ne 5, 15, 17, 0, 0))) else (bif Nat.ble 13 j then (some (21, .invokestatic 102, 14, 90, 3, 0)) else (some (20, .isub, 13, 0, 0, 0)))) else (bif Nat.ble 10 j then (bif Nat.ble 11 j then (some (19, .iconst 2, 12, 0, 0, 2)) else (some (16, .getfield 157, 11, 6, 8, 0))) else (bif Nat.ble 9 j then (some (15, .aload_n 0, 10, 0, 0, 0)) else (some (14, .iconst 0, 9, 0, 0, 0))))) else (bif Nat.ble 4 j then (bif Nat.ble 6 j then (bif Nat.ble 7 j then (some (13, .iload_n 2, 8, 2, 0, 0)) else (some (10, .ifCond .eq 17, 7, 15, 0, 0))) else (bif Nat.ble 5 j then (some (7, .invokevirtual 206, 6, 103, 2, 0)) else (some (6, .iload_n 1, 5, 1, 0, 0)))) else (bif Nat.ble 2 j then (bif Nat.ble 3 j then (some (5, .aload_n 0, 4, 0, 0, 0)) else (some (2, .putfield 80, 3, 6, 0, 0))) else (bif Nat.ble 1 j then (some (1, .iconst 0, 2, 0, 0, 0)) else (some (0, .aload_n 0, 1, 0, 0, 0))))))))
/-- MotionDeskModel.notes()V -/
def mr_Mo_notes (j : Nat) : Option mx_Row := bif Nat.ble 51 j then none else (bif Nat.ble 25 j then (bif Nat.ble 38 j then (bif Nat.ble 44 j then (bif Nat.ble 47 j then (bif Nat.ble 49 j then (bif Nat.ble 50 j then (some (92, .return_, 51, 0, 0, 0)) else (some (89, .putfield 170, 50, 6, 16, 0))) else (bif Nat.ble 48 j then (some (88, .iadd, 49, 0, 0, 0)) else (some (87, .iconst 1, 48, 0, 0, 1)))) else (bif Nat.ble 45 j then (bif Nat.ble 46 j then (some (84, .getfield 170, 47, 6, 16, 0)) else (some (83, .dup, 46, 0, 0, 0))) else (some (82, .aload_n 0, 45, 0, 0, 0)))) else (bif Nat.ble 41 j then (bif Nat.ble 42 j then (bif Nat.ble 43 j then (some (79, .goto (-31), 26, 0, 0, 0)) else (some (76, .iinc 1 1, 43, 1, 0, 1))) else (some (75, .iastore, 42, 0, 0, 0))) else (bif Nat.ble 39 j then (bif Nat.ble 40 j then (some (74, .iaload, 41, 0, 0, 0)) else (some (73, .iload_n 1, 40, 1, 0, 0))) else (some (70, .getfield 16, 39, 6, 13, 0))))) else (bif Nat.ble 31 j then (bif Nat.ble 34 j then (bif Nat.ble 36 j then (bif Nat.ble 37 j then (some (69, .aload_n 0, 38, 0, 0, 0)) else (some (68, .iadd, 37, 0, 0, 0))) else (bif Nat.ble 35 j then (some (67, .iload_n 1, 36, 1, 0, 0)) else (some (66, .imul, 35, 0, 0, 0)))) else (bif Nat.ble 32 j then (bif Nat.ble 33 j then (some (63, .getfield 170, 34, 6, 16, 0)) else (some (62, .aload_n 0, 33, 0, 0, 0))) else (some (59, .sipush 244, 32, 0, 0, 244)))) else (bif Nat.ble 28 j then (bif Nat.ble 29 j then (bif Nat.ble 30 j then (some (56, .getfield 22, 31, 6, 15, 0)) else (some (55, .aload_n 0, 30, 0, 0, 0))) else (some (52, .if_icmp .ge 30, 29, 44, 0, 0))) else (bif Nat.ble 26 j then (bif Nat.ble 27 j then (some (49, .sipush 244, 28, 0, 0, 244)) else (some (48, .iload_n 1, 27, 1, 0, 0))) else (some (47, .istore_n 1, 26, 1, 0, 0)))))) else (bif Nat.ble 12 j then (bif Nat.ble 18 j then (bif Nat.ble 21 j then (bif Nat.ble 23 j then (bif Nat.ble 24 j then (some (46, .iconst 0, 25, 0, 0, 0)) else (some (43, .putfield 170, 24, 6, 16, 0))) else (bif Nat.ble 22 j then (some (41, .bipush 9, 23, 0, 0, 9)) else (some (40, .aload_n 0, 22, 0, 0, 0)))) else (bif Nat.ble 19 j then (bif Nat.ble 20 j then (some (37, .goto (-26), 6, 0, 0, 0)) else (some (34, .iinc 1 1, 20, 1, 0, 1))) else (some (33, .iastore, 19, 0, 0, 0)))) else (bif Nat.ble 15 j then (bif Nat.ble 16 j then (bif Nat.ble 17 j then (some (32, .iaload, 18, 0, 0, 0)) else (some (31, .iadd, 17, 0, 0, 0))) else (some (28, .sipush 244, 16, 0, 0, 244))) else (bif Nat.ble 13 j then (bif Nat.ble 14 j then (some (27, .iload_n 1, 15, 1, 0, 0)) else (some (24, .getfield 22, 14, 6, 15, 0))) else (some (23, .aload_n 0, 13, 0, 0, 0))))) else (bif Nat.ble 6 j then (bif Nat.ble 9 j then (bif Nat.ble 10 j then (bif Nat.ble 11 j then (some (22, .iload_n 1, 12, 1, 0, 0)) else (some (19, .getfield 22, 11, 6, 15, 0))) else (some (18, .aload_n 0, 10, 0, 0, 0))) else (bif Nat.ble 7 j then (bif Nat.ble 8 j then (some (15, .if_icmp .ge 25, 9, 21, 0, 0)) else (some (12, .sipush 2196, 8, 0, 0, 2196))) else (some (11, .iload_n 1, 7, 1, 0, 0)))) else (bif Nat.ble 3 j then (bif Nat.ble 4 j then (bif Nat.ble 5 j then (some (10, .istore_n 1, 6, 1, 0, 0)) else (some (9, .iconst 0, 5, 0, 0, 0))) else (some (6, .if_icmp .ne 40, 4, 24, 0, 0))) else (bif Nat.ble 1 j then (bif Nat.ble 2 j then (some (4, .bipush 10, 3, 0, 0, 10)) else (some (1, .getfield 170, 2, 6, 16, 0))) else (some (0, .aload_n 0, 1, 0, 0, 0)))))))
/-- MotionDeskModel.swaps(I)I -/
def mr_Mo_swaps (j : Nat) : Option mx_Row := bif Nat.ble 140 j then none else (bif Nat.ble 70 j then (bif Nat.ble 105 j then (bif Nat.ble 122 j then (bif Nat.ble 131 j then (bif Nat.ble 135 j then (bif Nat.ble 137 j then (bif Nat.ble 138 j then (bif Nat.ble 139 j then (some (233, .ireturn, 140, 0, 0, 0)) else (some (230, .invokevirtual 221, 139, 119, 3, 0))) else (some (229, .iconst 0, 138, 0, 0, 0))) else (bif Nat.ble 136 j then (some (226, .getfield 16, 137, 6, 13, 0)) else (some (225, .aload_n 0, 136, 0, 0, 0)))) else (bif Nat.ble 133 j then (bif Nat.ble 134 j then (some (224, .aload_n 0, 135, 0, 0, 0)) else (some (221, .invokevirtual 215, 134, 107, 1, 0))) else (bif Nat.ble 132 j then (some (220, .aload_n 0, 133, 0, 0, 0)) else (some (217, .goto (-149), 40, 0, 0, 0))))) else (bif Nat.ble 126 j then (bif Nat.ble 128 j then (bif Nat.ble 129 j then (bif Nat.ble 130 j then (some (214, .invokevirtual 94, 131, 85, 5, 0)) else (some (213, .iconst 0, 130, 0, 0, 0))) else (some (212, .iload_n 3, 129, 3, 0, 0))) else (bif Nat.ble 127 j then (some (211, .iconst 0, 128, 0, 0, 0)) else (some (210, .iaload, 127, 0, 0, 0)))) else (bif Nat.ble 124 j then (bif Nat.ble 125 j then (some (209, .iadd, 126, 0, 0, 0)) else (some (208, .iload_n 2, 125, 2, 0, 0))) else (bif Nat.ble 123 j then (some (206, .bipush 118, 124, 0, 0, 118)) else (some (203, .goto 5, 124, 0, 0, 0)))))) else (bif Nat.ble 113 j then (bif Nat.ble 117 j then (bif Nat.ble 119 j then (bif Nat.ble 120 j then (bif Nat.ble 121 j then (some (200, .sipush 181, 122, 0, 0, 181)) else (some (197, .if_icmp .ne 9, 121, 123, 0, 0))) else (some (196, .iload_n 1, 120, 1, 0, 0))) else (bif Nat.ble 118 j then (some (195, .iload_n 2, 119, 2, 0, 0)) else (some (192, .getfield 19, 118, 6, 14, 0)))) else (bif Nat.ble 115 j then (bif Nat.ble 116 j then (some (191, .aload_n 0, 117, 0, 0, 0)) else (some (190, .aload_n 0, 116, 0, 0, 0))) else (bif Nat.ble 114 j then (some (187, .invokevirtual 94, 115, 85, 5, 0)) else (some (186, .iconst 1, 114, 0, 0, 1))))) else (bif Nat.ble 109 j then (bif Nat.ble 111 j then (bif Nat.ble 112 j then (some (185, .iload_n 3, 113, 3, 0, 0)) else (some (184, .iconst 0, 112, 0, 0, 0))) else (bif Nat.ble 110 j then (some (183, .iaload, 111, 0, 0, 0)) else (some (182, .iadd, 110, 0, 0, 0)))) else (bif Nat.ble 107 j then (bif Nat.ble 108 j then (some (181, .iload_n 2, 109, 2, 0, 0)) else (some (178, .sipush 181, 108, 0, 0, 181))) else (bif Nat.ble 106 j then (some (175, .goto 6, 108, 0, 0, 0)) else (some (173, .bipush 118, 106, 0, 0, 118))))))) else (bif Nat.ble 87 j then (bif Nat.ble 96 j then (bif Nat.ble 100 j then (bif Nat.ble 102 j then (bif Nat.ble 103 j then (bif Nat.ble 104 j then (some (170, .if_icmp .ne 8, 105, 107, 0, 0)) else (some (169, .iload_n 1, 104, 1, 0, 0))) else (some (168, .iload_n 2, 103, 2, 0, 0))) else (bif Nat.ble 101 j then (some (165, .getfield 19, 102, 6, 14, 0)) else (some (164, .aload_n 0, 101, 0, 0, 0)))) else (bif Nat.ble 98 j then (bif Nat.ble 99 j then (some (163, .aload_n 0, 100, 0, 0, 0)) else (some (160, .if_icmp .ne 57, 99, 131, 0, 0))) else (bif Nat.ble 97 j then (some (158, .bipush (-9), 98, 0, 0, (-9))) else (some (157, .iaload, 97, 0, 0, 0))))) else (bif Nat.ble 91 j then (bif Nat.ble 93 j then (bif Nat.ble 94 j then (bif Nat.ble 95 j then (some (156, .iadd, 96, 0, 0, 0)) else (some (155, .iload_n 2, 95, 2, 0, 0))) else (some (153, .bipush 55, 94, 0, 0, 55))) else (bif Nat.ble 92 j then (some (150, .getfield 19, 93, 6, 14, 0)) else (some (149, .aload_n 0, 92, 0, 0, 0)))) else (bif Nat.ble 89 j then (bif Nat.ble 90 j then (some (148, .iastore, 91, 0, 0, 0)) else (some (147, .iaload, 90, 0, 0, 0))) else (bif Nat.ble 88 j then (some (146, .iadd, 89, 0, 0, 0)) else (some (145, .iload_n 2, 88, 2, 0, 0)))))) else (bif Nat.ble 78 j then (bif Nat.ble 82 j then (bif Nat.ble 84 j then (bif Nat.ble 85 j then (bif Nat.ble 86 j then (some (143, .bipush 55, 87, 0, 0, 55)) else (some (140, .getfield 19, 86, 6, 14, 0))) else (some (139, .aload_n 0, 85, 0, 0, 0))) else (bif Nat.ble 83 j then (some (138, .iadd, 84, 0, 0, 0)) else (some (137, .iload_n 3, 83, 3, 0, 0)))) else (bif Nat.ble 80 j then (bif Nat.ble 81 j then (some (135, .bipush 55, 82, 0, 0, 55)) else (some (132, .getfield 16, 81, 6, 13, 0))) else (bif Nat.ble 79 j then (some (131, .aload_n 0, 80, 0, 0, 0)) else (some (130, .istore_n 3, 79, 3, 0, 0))))) else (bif Nat.ble 74 j then (bif Nat.ble 76 j then (bif Nat.ble 77 j then (some (127, .invokestatic 98, 78, 86, 3, 0)) else (some (126, .iaload, 77, 0, 0, 0))) else (bif Nat.ble 75 j then (some (125, .iadd, 76, 0, 0, 0)) else (some (124, .iconst 3, 75, 0, 0, 3)))) else (bif Nat.ble 72 j then (bif Nat.ble 73 j then (some (123, .imul, 74, 0, 0, 0)) else (some (120, .getfield 91, 73, 6, 29, 0))) else (bif Nat.ble 71 j then (some (119, .aload_n 0, 72, 0, 0, 0)) else (some (118, .iconst 4, 71, 0, 0, 4)))))))) else (bif Nat.ble 35 j then (bif Nat.ble 52 j then (bif Nat.ble 61 j then (bif Nat.ble 65 j then (bif Nat.ble 67 j then (bif Nat.ble 68 j then (bif Nat.ble 69 j then (some (115, .getfield 53, 70, 6, 28, 0)) else (some (114, .aload_n 0, 69, 0, 0, 0))) else (some (113, .iaload, 68, 0, 0, 0))) else (bif Nat.ble 66 j then (some (112, .iadd, 67, 0, 0, 0)) else (some (111, .iconst 2, 66, 0, 0, 2)))) else (bif Nat.ble 63 j then (bif Nat.ble 64 j then (some (110, .imul, 65, 0, 0, 0)) else (some (107, .getfield 91, 64, 6, 29, 0))) else (bif Nat.ble 62 j then (some (106, .aload_n 0, 63, 0, 0, 0)) else (some (105, .iconst 4, 62, 0, 0, 4))))) else (bif Nat.ble 56 j then (bif Nat.ble 58 j then (bif Nat.ble 59 j then (bif Nat.ble 60 j then (some (102, .getfield 53, 61, 6, 28, 0)) else (some (101, .aload_n 0, 60, 0, 0, 0))) else (some (98, .getfield 16, 59, 6, 13, 0))) else (bif Nat.ble 57 j then (some (97, .aload_n 0, 58, 0, 0, 0)) else (some (96, .istore_n 2, 57, 2, 0, 0)))) else (bif Nat.ble 54 j then (bif Nat.ble 55 j then (some (95, .iaload, 56, 0, 0, 0)) else (some (94, .imul, 55, 0, 0, 0))) else (bif Nat.ble 53 j then (some (91, .getfield 91, 54, 6, 29, 0)) else (some (90, .aload_n 0, 53, 0, 0, 0)))))) else (bif Nat.ble 43 j then (bif Nat.ble 47 j then (bif Nat.ble 49 j then (bif Nat.ble 50 j then (bif Nat.ble 51 j then (some (89, .iconst 4, 52, 0, 0, 4)) else (some (86, .getfield 53, 51, 6, 28, 0))) else (some (85, .aload_n 0, 50, 0, 0, 0))) else (bif Nat.ble 48 j then (some (82, .putfield 91, 49, 6, 29, 0)) else (some (81, .isub, 48, 0, 0, 0)))) else (bif Nat.ble 45 j then (bif Nat.ble 46 j then (some (80, .iconst 1, 47, 0, 0, 1)) else (some (77, .getfield 91, 46, 6, 29, 0))) else (bif Nat.ble 44 j then (some (76, .dup, 45, 0, 0, 0)) else (some (75, .aload_n 0, 44, 0, 0, 0))))) else (bif Nat.ble 39 j then (bif Nat.ble 41 j then (bif Nat.ble 42 j then (some (72, .ifCond .le 148, 43, 132, 0, 0)) else (some (69, .getfield 91, 42, 6, 29, 0))) else (bif Nat.ble 40 j then (some (68, .aload_n 0, 41, 0, 0, 0)) else (some (65, .invokevirtual 94, 40, 85, 5, 0)))) else (bif Nat.ble 37 j then (bif Nat.ble 38 j then (some (64, .iconst 0, 39, 0, 0, 0)) else (some (63, .iconst (-1), 38, 0, 0, (-1)))) else (bif Nat.ble 36 j then (some (62, .iconst 0, 37, 0, 0, 0)) else (some (61, .iconst 0, 36, 0, 0, 0))))))) else (bif Nat.ble 17 j then (bif Nat.ble 26 j then (bif Nat.ble 30 j then (bif Nat.ble 32 j then (bif Nat.ble 33 j then (bif Nat.ble 34 j then (some (60, .aload_n 0, 35, 0, 0, 0)) else (some (57, .putfield 91, 34, 6, 29, 0))) else (some (56, .iconst 0, 33, 0, 0, 0))) else (bif Nat.ble 31 j then (some (55, .aload_n 0, 32, 0, 0, 0)) else (some (54, .iastore, 31, 0, 0, 0)))) else (bif Nat.ble 28 j then (bif Nat.ble 29 j then (some (53, .iconst 0, 30, 0, 0, 0)) else (some (51, .bipush 54, 29, 0, 0, 54))) else (bif Nat.ble 27 j then (some (48, .getfield 16, 28, 6, 13, 0)) else (some (47, .aload_n 0, 27, 0, 0, 0))))) else (bif Nat.ble 21 j then (bif Nat.ble 23 j then (bif Nat.ble 24 j then (bif Nat.ble 25 j then (some (44, .invokestatic 163, 26, 88, 2, 0)) else (some (41, .getfield 19, 25, 6, 14, 0))) else (some (40, .aload_n 0, 24, 0, 0, 0))) else (bif Nat.ble 22 j then (some (37, .getfield 16, 23, 6, 13, 0)) else (some (36, .aload_n 0, 22, 0, 0, 0)))) else (bif Nat.ble 19 j then (bif Nat.ble 20 j then (some (33, .invokevirtual 228, 21, 123, 1, 0)) else (some (32, .aload_n 0, 20, 0, 0, 0))) else (bif Nat.ble 18 j then (some (31, .ireturn, 19, 0, 0, 0)) else (some (29, .bipush (-2), 18, 0, 0, (-2))))))) else (bif Nat.ble 8 j then (bif Nat.ble 12 j then (bif Nat.ble 14 j then (bif Nat.ble 15 j then (bif Nat.ble 16 j then (some (26, .if_icmp .eq 6, 17, 19, 0, 0)) else (some (24, .bipush (-9), 16, 0, 0, (-9)))) else (some (23, .iaload, 15, 0, 0, 0))) else (bif Nat.ble 13 j then (some (22, .iadd, 14, 0, 0, 0)) else (some (21, .iload_n 1, 13, 1, 0, 0)))) else (bif Nat.ble 10 j then (bif Nat.ble 11 j then (some (19, .bipush 55, 12, 0, 0, 55)) else (some (16, .getfield 16, 11, 6, 13, 0))) else (bif Nat.ble 9 j then (some (15, .aload_n 0, 10, 0, 0, 0)) else (some (14, .ireturn, 9, 0, 0, 0))))) else (bif Nat.ble 4 j then (bif Nat.ble 6 j then (bif Nat.ble 7 j then (some (13, .iconst (-1), 8, 0, 0, (-1))) else (some (10, .ifCond .ne 5, 7, 9, 0, 0))) else (bif Nat.ble 5 j then (some (7, .invokevirtual 212, 6, 106, 2, 0)) else (some (6, .iload_n 1, 5, 1, 0, 0)))) else (bif Nat.ble 2 j then (bif Nat.ble 3 j then (some (5, .aload_n 0, 4, 0, 0, 0)) else (some (2, .putfield 80, 3, 6, 0, 0))) else (bif Nat.ble 1 j then (some (1, .iconst 0, 2, 0, 0, 0)) else (some (0, .aload_n 0, 1, 0, 0, 0)))))))))
/-- MotionDeskModel.sets(I)I -/
def mr_Mo_sets (j : Nat) : Option mx_Row := bif Nat.ble 32 j then none else (bif Nat.ble 16 j then (bif Nat.ble 24 j then (bif Nat.ble 28 j then (bif Nat.ble 30 j then (bif Nat.ble 31 j then (some (56, .ireturn, 32, 0, 0, 0)) else (some (55, .iaload, 31, 0, 0, 0))) else (bif Nat.ble 29 j then (some (53, .bipush 54, 30, 0, 0, 54)) else (some (50, .getfield 16, 29, 6, 13, 0)))) else (bif Nat.ble 26 j then (bif Nat.ble 27 j then (some (49, .aload_n 0, 28, 0, 0, 0)) else (some (46, .invokevirtual 73, 27, 84, 3, 0))) else (bif Nat.ble 25 j then (some (43, .getfield 157, 26, 6, 8, 0)) else (some (42, .aload_n 0, 25, 0, 0, 0))))) else (bif Nat.ble 20 j then (bif Nat.ble 22 j then (bif Nat.ble 23 j then (some (39, .getfield 16, 24, 6, 13, 0)) else (some (38, .aload_n 0, 23, 0, 0, 0))) else (bif Nat.ble 21 j then (some (37, .aload_n 0, 22, 0, 0, 0)) else (some (34, .invokevirtual 69, 21, 81, 3, 0)))) else (bif Nat.ble 18 j then (bif Nat.ble 19 j then (some (31, .getfield 157, 20, 6, 8, 0)) else (some (30, .aload_n 0, 19, 0, 0, 0))) else (bif Nat.ble 17 j then (some (29, .iload_n 1, 18, 1, 0, 0)) else (some (28, .aload_n 0, 17, 0, 0, 0)))))) else (bif Nat.ble 8 j then (bif Nat.ble 12 j then (bif Nat.ble 14 j then (bif Nat.ble 15 j then (some (25, .invokevirtual 228, 16, 123, 1, 0)) else (some (24, .aload_n 0, 15, 0, 0, 0))) else (bif Nat.ble 13 j then (some (23, .ireturn, 14, 0, 0, 0)) else (some (22, .iconst (-1), 13, 0, 0, (-1))))) else (bif Nat.ble 10 j then (bif Nat.ble 11 j then (some (19, .ifCond .ne 5, 12, 14, 0, 0)) else (some (16, .invokestatic 102, 11, 90, 3, 0))) else (bif Nat.ble 9 j then (some (15, .isub, 10, 0, 0, 0)) else (some (14, .iconst 1, 9, 0, 0, 1))))) else (bif Nat.ble 4 j then (bif Nat.ble 6 j then (bif Nat.ble 7 j then (some (11, .invokestatic 83, 8, 82, 1, 0)) else (some (8, .getfield 157, 7, 6, 8, 0))) else (bif Nat.ble 5 j then (some (7, .aload_n 0, 6, 0, 0, 0)) else (some (6, .iconst 0, 5, 0, 0, 0)))) else (bif Nat.ble 2 j then (bif Nat.ble 3 j then (some (5, .iload_n 1, 4, 1, 0, 0)) else (some (2, .putfield 80, 3, 6, 0, 0))) else (bif Nat.ble 1 j then (some (1, .iconst 0, 2, 0, 0, 0)) else (some (0, .aload_n 0, 1, 0, 0, 0)))))))
/-- MotionDeskModel.undo()I -/
def mr_Mo_undo (j : Nat) : Option mx_Row := bif Nat.ble 37 j then none else (bif Nat.ble 18 j then (bif Nat.ble 27 j then (bif Nat.ble 32 j then (bif Nat.ble 34 j then (bif Nat.ble 35 j then (bif Nat.ble 36 j then (some (65, .ireturn, 37, 0, 0, 0)) else (some (62, .getfield 170, 36, 6, 16, 0))) else (some (61, .aload_n 0, 35, 0, 0, 0))) else (bif Nat.ble 33 j then (some (58, .goto (-31), 16, 0, 0, 0)) else (some (55, .iinc 1 1, 33, 1, 0, 1)))) else (bif Nat.ble 29 j then (bif Nat.ble 30 j then (bif Nat.ble 31 j then (some (54, .iastore, 32, 0, 0, 0)) else (some (53, .iaload, 31, 0, 0, 0))) else (some (52, .iadd, 30, 0, 0, 0))) else (bif Nat.ble 28 j then (some (51, .iload_n 1, 29, 1, 0, 0)) else (some (50, .imul, 28, 0, 0, 0))))) else (bif Nat.ble 22 j then (bif Nat.ble 24 j then (bif Nat.ble 25 j then (bif Nat.ble 26 j then (some (47, .getfield 170, 27, 6, 16, 0)) else (some (46, .aload_n 0, 26, 0, 0, 0))) else (some (43, .sipush 244, 25, 0, 0, 244))) else (bif Nat.ble 23 j then (some (40, .getfield 22, 24, 6, 15, 0)) else (some (39, .aload_n 0, 23, 0, 0, 0)))) else (bif Nat.ble 20 j then (bif Nat.ble 21 j then (some (38, .iload_n 1, 22, 1, 0, 0)) else (some (35, .getfield 16, 21, 6, 13, 0))) else (bif Nat.ble 19 j then (some (34, .aload_n 0, 20, 0, 0, 0)) else (some (31, .if_icmp .ge 30, 19, 34, 0, 0)))))) else (bif Nat.ble 9 j then (bif Nat.ble 13 j then (bif Nat.ble 15 j then (bif Nat.ble 16 j then (bif Nat.ble 17 j then (some (28, .sipush 244, 18, 0, 0, 244)) else (some (27, .iload_n 1, 17, 1, 0, 0))) else (some (26, .istore_n 1, 16, 1, 0, 0))) else (bif Nat.ble 14 j then (some (25, .iconst 0, 15, 0, 0, 0)) else (some (22, .putfield 170, 14, 6, 16, 0)))) else (bif Nat.ble 11 j then (bif Nat.ble 12 j then (some (21, .isub, 13, 0, 0, 0)) else (some (20, .iconst 1, 12, 0, 0, 1))) else (bif Nat.ble 10 j then (some (17, .getfield 170, 11, 6, 16, 0)) else (some (16, .dup, 10, 0, 0, 0))))) else (bif Nat.ble 4 j then (bif Nat.ble 6 j then (bif Nat.ble 7 j then (bif Nat.ble 8 j then (some (15, .aload_n 0, 9, 0, 0, 0)) else (some (14, .ireturn, 8, 0, 0, 0))) else (some (12, .bipush (-2), 7, 0, 0, (-2)))) else (bif Nat.ble 5 j then (some (9, .ifCond .ne 6, 6, 8, 0, 0)) else (some (6, .getfield 170, 5, 6, 16, 0)))) else (bif Nat.ble 2 j then (bif Nat.ble 3 j then (some (5, .aload_n 0, 4, 0, 0, 0)) else (some (2, .putfield 80, 3, 6, 0, 0))) else (bif Nat.ble 1 j then (some (1, .iconst 0, 2, 0, 0, 0)) else (some (0, .aload_n 0, 1, 0, 0, 0)))))))
/-- MotionDeskModel.order(II)I -/
def mr_Mo_order (j : Nat) : Option mx_Row := bif Nat.ble 28 j then none else (bif Nat.ble 14 j then (bif Nat.ble 21 j then (bif Nat.ble 24 j then (bif Nat.ble 26 j then (bif Nat.ble 27 j then (some (47, .ireturn, 28, 0, 0, 0)) else (some (46, .iaload, 27, 0, 0, 0))) else (bif Nat.ble 25 j then (some (45, .iload_n 2, 26, 2, 0, 0)) else (some (42, .getfield 50, 25, 6, 27, 0)))) else (bif Nat.ble 22 j then (bif Nat.ble 23 j then (some (41, .aload_n 0, 24, 0, 0, 0)) else (some (38, .invokevirtual 69, 23, 81, 3, 0))) else (some (35, .getfield 157, 22, 6, 8, 0)))) else (bif Nat.ble 17 j then (bif Nat.ble 19 j then (bif Nat.ble 20 j then (some (34, .aload_n 0, 21, 0, 0, 0)) else (some (33, .iload_n 1, 20, 1, 0, 0))) else (bif Nat.ble 18 j then (some (32, .aload_n 0, 19, 0, 0, 0)) else (some (31, .ireturn, 18, 0, 0, 0)))) else (bif Nat.ble 15 j then (bif Nat.ble 16 j then (some (30, .iconst (-1), 17, 0, 0, (-1))) else (some (27, .ifCond .ne 5, 16, 18, 0, 0))) else (some (24, .invokevirtual 209, 15, 104, 2, 0))))) else (bif Nat.ble 7 j then (bif Nat.ble 10 j then (bif Nat.ble 12 j then (bif Nat.ble 13 j then (some (23, .iload_n 2, 14, 2, 0, 0)) else (some (22, .aload_n 0, 13, 0, 0, 0))) else (bif Nat.ble 11 j then (some (19, .ifCond .eq 11, 12, 16, 0, 0)) else (some (16, .invokestatic 102, 11, 90, 3, 0)))) else (bif Nat.ble 8 j then (bif Nat.ble 9 j then (some (15, .isub, 10, 0, 0, 0)) else (some (14, .iconst 1, 9, 0, 0, 1))) else (some (11, .invokestatic 83, 8, 82, 1, 0)))) else (bif Nat.ble 3 j then (bif Nat.ble 5 j then (bif Nat.ble 6 j then (some (8, .getfield 157, 7, 6, 8, 0)) else (some (7, .aload_n 0, 6, 0, 0, 0))) else (bif Nat.ble 4 j then (some (6, .iconst 0, 5, 0, 0, 0)) else (some (5, .iload_n 1, 4, 1, 0, 0)))) else (bif Nat.ble 1 j then (bif Nat.ble 2 j then (some (2, .putfield 80, 3, 6, 0, 0)) else (some (1, .iconst 0, 2, 0, 0, 0))) else (some (0, .aload_n 0, 1, 0, 0, 0))))))
/-- MotionDeskModel.reach(III)I -/
def mr_Mo_reach (j : Nat) : Option mx_Row := bif Nat.ble 68 j then none else (bif Nat.ble 34 j then (bif Nat.ble 51 j then (bif Nat.ble 59 j then (bif Nat.ble 63 j then (bif Nat.ble 65 j then (bif Nat.ble 66 j then (bif Nat.ble 67 j then (some (137, .ireturn, 68, 0, 0, 0)) else (some (135, .iload 5, 67, 5, 0, 0))) else (some (132, .goto 5, 67, 0, 0, 0))) else (bif Nat.ble 64 j then (some (130, .iload 4, 65, 4, 0, 0)) else (some (127, .ifCond .ne 8, 64, 66, 0, 0)))) else (bif Nat.ble 61 j then (bif Nat.ble 62 j then (some (126, .iload_n 3, 63, 3, 0, 0)) else (some (123, .goto (-67), 30, 0, 0, 0))) else (bif Nat.ble 60 j then (some (120, .iinc 6 1, 61, 6, 0, 1)) else (some (117, .iinc 4 1, 60, 4, 0, 1))))) else (bif Nat.ble 55 j then (bif Nat.ble 57 j then (bif Nat.ble 58 j then (some (115, .istore 5, 59, 5, 0, 0)) else (some (113, .iload 5, 58, 5, 0, 0))) else (bif Nat.ble 56 j then (some (110, .goto 5, 58, 0, 0, 0)) else (some (108, .iload 6, 56, 6, 0, 0)))) else (bif Nat.ble 53 j then (bif Nat.ble 54 j then (some (105, .ifCond .ne 8, 55, 57, 0, 0)) else (some (103, .iload 4, 54, 4, 0, 0))) else (bif Nat.ble 52 j then (some (100, .if_icmp .ne 20, 53, 60, 0, 0)) else (some (99, .iload_n 1, 52, 1, 0, 0)))))) else (bif Nat.ble 42 j then (bif Nat.ble 46 j then (bif Nat.ble 48 j then (bif Nat.ble 49 j then (bif Nat.ble 50 j then (some (96, .invokevirtual 221, 51, 119, 3, 0)) else (some (95, .iload_n 2, 50, 2, 0, 0))) else (some (92, .getfield 19, 49, 6, 14, 0))) else (bif Nat.ble 47 j then (some (91, .aload_n 0, 48, 0, 0, 0)) else (some (90, .aload_n 0, 47, 0, 0, 0)))) else (bif Nat.ble 44 j then (bif Nat.ble 45 j then (some (87, .invokevirtual 73, 46, 84, 3, 0)) else (some (84, .getfield 157, 45, 6, 8, 0))) else (bif Nat.ble 43 j then (some (83, .aload_n 0, 44, 0, 0, 0)) else (some (80, .getfield 19, 43, 6, 14, 0))))) else (bif Nat.ble 38 j then (bif Nat.ble 40 j then (bif Nat.ble 41 j then (some (79, .aload_n 0, 42, 0, 0, 0)) else (some (78, .aload_n 0, 41, 0, 0, 0))) else (bif Nat.ble 39 j then (some (75, .invokevirtual 69, 40, 81, 3, 0)) else (some (72, .getfield 157, 39, 6, 8, 0)))) else (bif Nat.ble 36 j then (bif Nat.ble 37 j then (some (71, .aload_n 0, 38, 0, 0, 0)) else (some (69, .iload 6, 37, 6, 0, 0))) else (bif Nat.ble 35 j then (some (68, .aload_n 0, 36, 0, 0, 0)) else (some (65, .if_icmp .ge 61, 35, 62, 0, 0))))))) else (bif Nat.ble 17 j then (bif Nat.ble 25 j then (bif Nat.ble 29 j then (bif Nat.ble 31 j then (bif Nat.ble 32 j then (bif Nat.ble 33 j then (some (62, .invokestatic 83, 34, 82, 1, 0)) else (some (59, .getfield 157, 33, 6, 8, 0))) else (some (58, .aload_n 0, 32, 0, 0, 0))) else (bif Nat.ble 30 j then (some (56, .iload 6, 31, 6, 0, 0)) else (some (54, .istore 6, 30, 6, 0, 0)))) else (bif Nat.ble 27 j then (bif Nat.ble 28 j then (some (53, .iconst 0, 29, 0, 0, 0)) else (some (51, .istore 5, 28, 5, 0, 0))) else (bif Nat.ble 26 j then (some (49, .bipush (-9), 27, 0, 0, (-9))) else (some (47, .istore 4, 26, 4, 0, 0))))) else (bif Nat.ble 21 j then (bif Nat.ble 23 j then (bif Nat.ble 24 j then (some (46, .iconst 0, 25, 0, 0, 0)) else (some (43, .invokestatic 163, 24, 88, 2, 0))) else (bif Nat.ble 22 j then (some (40, .getfield 19, 23, 6, 14, 0)) else (some (39, .aload_n 0, 22, 0, 0, 0)))) else (bif Nat.ble 19 j then (bif Nat.ble 20 j then (some (36, .getfield 16, 21, 6, 13, 0)) else (some (35, .aload_n 0, 20, 0, 0, 0))) else (bif Nat.ble 18 j then (some (32, .invokevirtual 215, 19, 107, 1, 0)) else (some (31, .aload_n 0, 18, 0, 0, 0)))))) else (bif Nat.ble 8 j then (bif Nat.ble 12 j then (bif Nat.ble 14 j then (bif Nat.ble 15 j then (bif Nat.ble 16 j then (some (30, .ireturn, 17, 0, 0, 0)) else (some (29, .iconst (-1), 16, 0, 0, (-1)))) else (some (26, .ifCond .ne 5, 15, 17, 0, 0))) else (bif Nat.ble 13 j then (some (23, .invokestatic 102, 14, 90, 3, 0)) else (some (22, .iconst 1, 13, 0, 0, 1)))) else (bif Nat.ble 10 j then (bif Nat.ble 11 j then (some (21, .iconst 0, 12, 0, 0, 0)) else (some (20, .iload_n 3, 11, 3, 0, 0))) else (bif Nat.ble 9 j then (some (17, .ifCond .eq 12, 10, 15, 0, 0)) else (some (14, .invokestatic 231, 9, 129, 1, 0))))) else (bif Nat.ble 4 j then (bif Nat.ble 6 j then (bif Nat.ble 7 j then (some (13, .iload_n 2, 8, 2, 0, 0)) else (some (10, .ifCond .eq 19, 7, 15, 0, 0))) else (bif Nat.ble 5 j then (some (7, .invokevirtual 209, 6, 104, 2, 0)) else (some (6, .iload_n 1, 5, 1, 0, 0)))) else (bif Nat.ble 2 j then (bif Nat.ble 3 j then (some (5, .aload_n 0, 4, 0, 0, 0)) else (some (2, .putfield 80, 3, 6, 0, 0))) else (bif Nat.ble 1 j then (some (1, .iconst 0, 2, 0, 0, 0)) else (some (0, .aload_n 0, 1, 0, 0, 0))))))))
/-- MotionDeskModel.isWay(I)Z -/
def mr_Mo_isWay (j : Nat) : Option mx_Row := bif Nat.ble 5 j then none else (bif Nat.ble 2 j then (bif Nat.ble 3 j then (bif Nat.ble 4 j then (some (6, .ireturn, 5, 0, 0, 0)) else (some (3, .invokestatic 102, 4, 90, 3, 0))) else (some (2, .iconst 1, 3, 0, 0, 1))) else (bif Nat.ble 1 j then (some (1, .iconst 0, 2, 0, 0, 0)) else (some (0, .iload_n 0, 1, 0, 0, 0))))
/-- MotionDeskModel.better(III)I -/
def mr_Mo_better (j : Nat) : Option mx_Row := bif Nat.ble 107 j then none else (bif Nat.ble 53 j then (bif Nat.ble 80 j then (bif Nat.ble 93 j then (bif Nat.ble 100 j then (bif Nat.ble 103 j then (bif Nat.ble 105 j then (bif Nat.ble 106 j then (some (207, .ireturn, 107, 0, 0, 0)) else (some (205, .iload 7, 106, 7, 0, 0))) else (bif Nat.ble 104 j then (some (202, .goto 5, 106, 0, 0, 0)) else (some (200, .iload 6, 104, 6, 0, 0)))) else (bif Nat.ble 101 j then (bif Nat.ble 102 j then (some (197, .if_icmp .ne 8, 103, 105, 0, 0)) else (some (196, .iconst 1, 102, 0, 0, 1))) else (some (195, .iload_n 3, 101, 3, 0, 0)))) else (bif Nat.ble 96 j then (bif Nat.ble 98 j then (bif Nat.ble 99 j then (some (192, .goto 15, 106, 0, 0, 0)) else (some (190, .iload 5, 99, 5, 0, 0))) else (bif Nat.ble 97 j then (some (187, .ifCond .ne 8, 98, 100, 0, 0)) else (some (186, .iload_n 3, 97, 3, 0, 0)))) else (bif Nat.ble 94 j then (bif Nat.ble 95 j then (some (183, .goto (-112), 38, 0, 0, 0)) else (some (180, .iinc 8 1, 95, 8, 0, 1))) else (some (178, .istore 7, 94, 7, 0, 0))))) else (bif Nat.ble 86 j then (bif Nat.ble 89 j then (bif Nat.ble 91 j then (bif Nat.ble 92 j then (some (176, .iload 8, 93, 8, 0, 0)) else (some (174, .istore 6, 92, 6, 0, 0))) else (bif Nat.ble 90 j then (some (172, .iload 9, 91, 9, 0, 0)) else (some (169, .if_icmp .ge 11, 90, 94, 0, 0)))) else (bif Nat.ble 87 j then (bif Nat.ble 88 j then (some (166, .invokevirtual 176, 89, 116, 4, 0)) else (some (164, .iload 6, 88, 6, 0, 0))) else (some (163, .iload_n 1, 87, 1, 0, 0)))) else (bif Nat.ble 83 j then (bif Nat.ble 84 j then (bif Nat.ble 85 j then (some (160, .getfield 16, 86, 6, 13, 0)) else (some (159, .aload_n 0, 85, 0, 0, 0))) else (some (158, .aload_n 0, 84, 0, 0, 0))) else (bif Nat.ble 81 j then (bif Nat.ble 82 j then (some (155, .invokevirtual 176, 83, 116, 4, 0)) else (some (153, .iload 9, 82, 9, 0, 0))) else (some (152, .iload_n 1, 81, 1, 0, 0)))))) else (bif Nat.ble 66 j then (bif Nat.ble 73 j then (bif Nat.ble 76 j then (bif Nat.ble 78 j then (bif Nat.ble 79 j then (some (149, .getfield 16, 80, 6, 13, 0)) else (some (148, .aload_n 0, 79, 0, 0, 0))) else (bif Nat.ble 77 j then (some (147, .aload_n 0, 78, 0, 0, 0)) else (some (144, .if_icmp .eq 28, 77, 90, 0, 0)))) else (bif Nat.ble 74 j then (bif Nat.ble 75 j then (some (142, .bipush (-9), 76, 0, 0, (-9))) else (some (140, .iload 6, 75, 6, 0, 0))) else (some (138, .istore 5, 74, 5, 0, 0)))) else (bif Nat.ble 69 j then (bif Nat.ble 71 j then (bif Nat.ble 72 j then (some (137, .iadd, 73, 0, 0, 0)) else (some (136, .iconst 0, 72, 0, 0, 0))) else (bif Nat.ble 70 j then (some (133, .goto 4, 72, 0, 0, 0)) else (some (132, .iconst 1, 70, 0, 0, 1)))) else (bif Nat.ble 67 j then (bif Nat.ble 68 j then (some (129, .if_icmp .ge 7, 69, 71, 0, 0)) else (some (126, .invokevirtual 176, 68, 116, 4, 0))) else (some (124, .iload 4, 67, 4, 0, 0))))) else (bif Nat.ble 59 j then (bif Nat.ble 62 j then (bif Nat.ble 64 j then (bif Nat.ble 65 j then (some (123, .iload_n 1, 66, 1, 0, 0)) else (some (120, .getfield 16, 65, 6, 13, 0))) else (bif Nat.ble 63 j then (some (119, .aload_n 0, 64, 0, 0, 0)) else (some (118, .aload_n 0, 63, 0, 0, 0)))) else (bif Nat.ble 60 j then (bif Nat.ble 61 j then (some (115, .invokevirtual 176, 62, 116, 4, 0)) else (some (113, .iload 9, 61, 9, 0, 0))) else (some (112, .iload_n 1, 60, 1, 0, 0)))) else (bif Nat.ble 56 j then (bif Nat.ble 57 j then (bif Nat.ble 58 j then (some (109, .getfield 16, 59, 6, 13, 0)) else (some (108, .aload_n 0, 58, 0, 0, 0))) else (some (107, .aload_n 0, 57, 0, 0, 0))) else (bif Nat.ble 54 j then (bif Nat.ble 55 j then (some (105, .iload 5, 56, 5, 0, 0)) else (some (103, .istore 9, 55, 9, 0, 0))) else (some (100, .invokevirtual 221, 54, 119, 3, 0))))))) else (bif Nat.ble 26 j then (bif Nat.ble 39 j then (bif Nat.ble 46 j then (bif Nat.ble 49 j then (bif Nat.ble 51 j then (bif Nat.ble 52 j then (some (99, .iload_n 2, 53, 2, 0, 0)) else (some (96, .getfield 19, 52, 6, 14, 0))) else (bif Nat.ble 50 j then (some (95, .aload_n 0, 51, 0, 0, 0)) else (some (94, .aload_n 0, 50, 0, 0, 0)))) else (bif Nat.ble 47 j then (bif Nat.ble 48 j then (some (91, .invokevirtual 234, 49, 131, 4, 0)) else (some (89, .iload 8, 48, 8, 0, 0))) else (some (88, .iload_n 1, 47, 1, 0, 0)))) else (bif Nat.ble 42 j then (bif Nat.ble 44 j then (bif Nat.ble 45 j then (some (85, .getfield 19, 46, 6, 14, 0)) else (some (84, .aload_n 0, 45, 0, 0, 0))) else (bif Nat.ble 43 j then (some (83, .aload_n 0, 44, 0, 0, 0)) else (some (80, .if_icmp .ge 106, 43, 96, 0, 0)))) else (bif Nat.ble 40 j then (bif Nat.ble 41 j then (some (77, .invokestatic 83, 42, 82, 1, 0)) else (some (74, .getfield 157, 41, 6, 8, 0))) else (some (73, .aload_n 0, 40, 0, 0, 0))))) else (bif Nat.ble 32 j then (bif Nat.ble 35 j then (bif Nat.ble 37 j then (bif Nat.ble 38 j then (some (71, .iload 8, 39, 8, 0, 0)) else (some (69, .istore 8, 38, 8, 0, 0))) else (bif Nat.ble 36 j then (some (68, .iconst 0, 37, 0, 0, 0)) else (some (66, .istore 7, 36, 7, 0, 0)))) else (bif Nat.ble 33 j then (bif Nat.ble 34 j then (some (64, .bipush (-9), 35, 0, 0, (-9))) else (some (62, .istore 6, 34, 6, 0, 0))) else (some (60, .bipush (-9), 33, 0, 0, (-9))))) else (bif Nat.ble 29 j then (bif Nat.ble 30 j then (bif Nat.ble 31 j then (some (58, .istore 5, 32, 5, 0, 0)) else (some (57, .iconst 0, 31, 0, 0, 0))) else (some (54, .invokestatic 163, 30, 88, 2, 0))) else (bif Nat.ble 27 j then (bif Nat.ble 28 j then (some (51, .getfield 19, 29, 6, 14, 0)) else (some (50, .aload_n 0, 28, 0, 0, 0))) else (some (47, .getfield 16, 27, 6, 13, 0)))))) else (bif Nat.ble 13 j then (bif Nat.ble 19 j then (bif Nat.ble 22 j then (bif Nat.ble 24 j then (bif Nat.ble 25 j then (some (46, .aload_n 0, 26, 0, 0, 0)) else (some (44, .istore 4, 25, 4, 0, 0))) else (bif Nat.ble 23 j then (some (41, .invokevirtual 221, 24, 119, 3, 0)) else (some (40, .iload_n 2, 23, 2, 0, 0)))) else (bif Nat.ble 20 j then (bif Nat.ble 21 j then (some (37, .getfield 16, 22, 6, 13, 0)) else (some (36, .aload_n 0, 21, 0, 0, 0))) else (some (35, .aload_n 0, 20, 0, 0, 0)))) else (bif Nat.ble 16 j then (bif Nat.ble 17 j then (bif Nat.ble 18 j then (some (32, .invokevirtual 215, 19, 107, 1, 0)) else (some (31, .aload_n 0, 18, 0, 0, 0))) else (some (30, .ireturn, 17, 0, 0, 0))) else (bif Nat.ble 14 j then (bif Nat.ble 15 j then (some (29, .iconst (-1), 16, 0, 0, (-1))) else (some (26, .ifCond .ne 5, 15, 17, 0, 0))) else (some (23, .invokestatic 102, 14, 90, 3, 0))))) else (bif Nat.ble 6 j then (bif Nat.ble 9 j then (bif Nat.ble 11 j then (bif Nat.ble 12 j then (some (22, .iconst 2, 13, 0, 0, 2)) else (some (21, .iconst 0, 12, 0, 0, 0))) else (bif Nat.ble 10 j then (some (20, .iload_n 3, 11, 3, 0, 0)) else (some (17, .ifCond .eq 12, 10, 15, 0, 0)))) else (bif Nat.ble 7 j then (bif Nat.ble 8 j then (some (14, .invokestatic 231, 9, 129, 1, 0)) else (some (13, .iload_n 2, 8, 2, 0, 0))) else (some (10, .ifCond .eq 19, 7, 15, 0, 0)))) else (bif Nat.ble 3 j then (bif Nat.ble 4 j then (bif Nat.ble 5 j then (some (7, .invokevirtual 206, 6, 103, 2, 0)) else (some (6, .iload_n 1, 5, 1, 0, 0))) else (some (5, .aload_n 0, 4, 0, 0, 0))) else (bif Nat.ble 1 j then (bif Nat.ble 2 j then (some (2, .putfield 80, 3, 6, 0, 0)) else (some (1, .iconst 0, 2, 0, 0, 0))) else (some (0, .aload_n 0, 1, 0, 0, 0))))))))
/-- MotionDeskModel.tells([III)V -/
def mr_Mo_tells (j : Nat) : Option mx_Row := bif Nat.ble 25 j then none else (bif Nat.ble 12 j then (bif Nat.ble 18 j then (bif Nat.ble 21 j then (bif Nat.ble 23 j then (bif Nat.ble 24 j then (some (43, .return_, 25, 0, 0, 0)) else (some (40, .goto (-28), 7, 0, 0, 0))) else (bif Nat.ble 22 j then (some (37, .iinc 4 1, 23, 4, 0, 1)) else (some (36, .iastore, 22, 0, 0, 0)))) else (bif Nat.ble 19 j then (bif Nat.ble 20 j then (some (35, .iaload, 21, 0, 0, 0)) else (some (33, .iload 4, 20, 4, 0, 0))) else (some (30, .getfield 50, 19, 6, 27, 0)))) else (bif Nat.ble 15 j then (bif Nat.ble 16 j then (bif Nat.ble 17 j then (some (29, .aload_n 0, 18, 0, 0, 0)) else (some (28, .iadd, 17, 0, 0, 0))) else (some (26, .iload 4, 16, 4, 0, 0))) else (bif Nat.ble 13 j then (bif Nat.ble 14 j then (some (25, .imul, 15, 0, 0, 0)) else (some (24, .iload_n 2, 14, 2, 0, 0))) else (some (22, .bipush 6, 13, 0, 0, 6))))) else (bif Nat.ble 6 j then (bif Nat.ble 9 j then (bif Nat.ble 10 j then (bif Nat.ble 11 j then (some (21, .aload_n 1, 12, 1, 0, 0)) else (some (18, .if_icmp .ge 25, 11, 24, 0, 0))) else (some (15, .getfield 157, 10, 6, 8, 0))) else (bif Nat.ble 7 j then (bif Nat.ble 8 j then (some (14, .aload_n 0, 9, 0, 0, 0)) else (some (12, .iload 4, 8, 4, 0, 0))) else (some (10, .istore 4, 7, 4, 0, 0)))) else (bif Nat.ble 3 j then (bif Nat.ble 4 j then (bif Nat.ble 5 j then (some (9, .iconst 0, 6, 0, 0, 0)) else (some (6, .invokevirtual 69, 5, 81, 3, 0))) else (some (3, .getfield 157, 4, 6, 8, 0))) else (bif Nat.ble 1 j then (bif Nat.ble 2 j then (some (2, .aload_n 0, 3, 0, 0, 0)) else (some (1, .iload_n 3, 2, 3, 0, 0))) else (some (0, .aload_n 0, 1, 0, 0, 0))))))
/-- MotionDeskModel.won(III)I -/
def mr_Mo_won (j : Nat) : Option mx_Row := bif Nat.ble 84 j then none else (bif Nat.ble 42 j then (bif Nat.ble 63 j then (bif Nat.ble 73 j then (bif Nat.ble 78 j then (bif Nat.ble 81 j then (bif Nat.ble 82 j then (bif Nat.ble 83 j then (some (173, .ireturn, 84, 0, 0, 0)) else (some (170, .invokestatic 194, 83, 112, 1, 0))) else (some (168, .iload 4, 82, 4, 0, 0))) else (bif Nat.ble 79 j then (bif Nat.ble 80 j then (some (165, .goto 8, 83, 0, 0, 0)) else (some (163, .iload 4, 80, 4, 0, 0))) else (some (160, .if_icmp .ne 8, 79, 81, 0, 0)))) else (bif Nat.ble 75 j then (bif Nat.ble 76 j then (bif Nat.ble 77 j then (some (159, .iconst 1, 78, 0, 0, 1)) else (some (158, .iload_n 3, 77, 3, 0, 0))) else (some (155, .if_icmp .eq 8, 76, 79, 0, 0))) else (bif Nat.ble 74 j then (some (153, .bipush (-9), 75, 0, 0, (-9))) else (some (151, .iload 4, 74, 4, 0, 0))))) else (bif Nat.ble 68 j then (bif Nat.ble 70 j then (bif Nat.ble 71 j then (bif Nat.ble 72 j then (some (148, .goto (-106), 23, 0, 0, 0)) else (some (145, .iinc 5 1, 72, 5, 0, 1))) else (some (143, .istore 4, 71, 4, 0, 0))) else (bif Nat.ble 69 j then (some (141, .iload 4, 70, 4, 0, 0)) else (some (138, .goto 5, 70, 0, 0, 0)))) else (bif Nat.ble 65 j then (bif Nat.ble 66 j then (bif Nat.ble 67 j then (some (136, .iload 5, 68, 5, 0, 0)) else (some (133, .if_icmp .ne 8, 67, 69, 0, 0))) else (some (132, .iload_n 1, 66, 1, 0, 0))) else (bif Nat.ble 64 j then (some (129, .invokevirtual 221, 65, 119, 3, 0)) else (some (128, .iload_n 2, 64, 2, 0, 0)))))) else (bif Nat.ble 52 j then (bif Nat.ble 57 j then (bif Nat.ble 60 j then (bif Nat.ble 61 j then (bif Nat.ble 62 j then (some (125, .getfield 19, 63, 6, 14, 0)) else (some (124, .aload_n 0, 62, 0, 0, 0))) else (some (123, .aload_n 0, 61, 0, 0, 0))) else (bif Nat.ble 58 j then (bif Nat.ble 59 j then (some (120, .goto (-33), 44, 0, 0, 0)) else (some (117, .iinc 6 1, 59, 6, 0, 1))) else (some (114, .invokevirtual 238, 58, 133, 4, 0)))) else (bif Nat.ble 54 j then (bif Nat.ble 55 j then (bif Nat.ble 56 j then (some (113, .iload_n 1, 57, 1, 0, 0)) else (some (111, .iload 6, 56, 6, 0, 0))) else (some (108, .getfield 19, 55, 6, 14, 0))) else (bif Nat.ble 53 j then (some (107, .aload_n 0, 54, 0, 0, 0)) else (some (106, .aload_n 0, 53, 0, 0, 0))))) else (bif Nat.ble 47 j then (bif Nat.ble 49 j then (bif Nat.ble 50 j then (bif Nat.ble 51 j then (some (103, .ifCond .eq 14, 52, 58, 0, 0)) else (some (100, .invokestatic 87, 51, 83, 2, 0))) else (some (98, .iload 6, 50, 6, 0, 0))) else (bif Nat.ble 48 j then (some (96, .iload 5, 49, 5, 0, 0)) else (some (93, .if_icmp .ge 30, 48, 60, 0, 0)))) else (bif Nat.ble 44 j then (bif Nat.ble 45 j then (bif Nat.ble 46 j then (some (90, .getfield 160, 47, 6, 9, 0)) else (some (89, .aload_n 0, 46, 0, 0, 0))) else (some (87, .iload 6, 45, 6, 0, 0))) else (bif Nat.ble 43 j then (some (85, .istore 6, 44, 6, 0, 0)) else (some (84, .iconst 0, 43, 0, 0, 0))))))) else (bif Nat.ble 21 j then (bif Nat.ble 31 j then (bif Nat.ble 36 j then (bif Nat.ble 39 j then (bif Nat.ble 40 j then (bif Nat.ble 41 j then (some (81, .invokestatic 163, 42, 88, 2, 0)) else (some (78, .getfield 19, 41, 6, 14, 0))) else (some (77, .aload_n 0, 40, 0, 0, 0))) else (bif Nat.ble 37 j then (bif Nat.ble 38 j then (some (74, .getfield 16, 39, 6, 13, 0)) else (some (73, .aload_n 0, 38, 0, 0, 0))) else (some (70, .if_icmp .ge 75, 37, 71, 0, 0)))) else (bif Nat.ble 33 j then (bif Nat.ble 34 j then (bif Nat.ble 35 j then (some (67, .invokestatic 194, 36, 112, 1, 0)) else (some (65, .iload 4, 35, 4, 0, 0))) else (some (62, .invokestatic 194, 34, 112, 1, 0))) else (bif Nat.ble 32 j then (some (60, .iload 5, 33, 5, 0, 0)) else (some (57, .if_icmp .eq 16, 32, 37, 0, 0))))) else (bif Nat.ble 26 j then (bif Nat.ble 28 j then (bif Nat.ble 29 j then (bif Nat.ble 30 j then (some (55, .bipush (-9), 31, 0, 0, (-9))) else (some (53, .iload 4, 30, 4, 0, 0))) else (some (50, .if_icmp .ge 101, 29, 73, 0, 0))) else (bif Nat.ble 27 j then (some (49, .ishl, 28, 0, 0, 0)) else (some (46, .getfield 160, 27, 6, 9, 0)))) else (bif Nat.ble 23 j then (bif Nat.ble 24 j then (bif Nat.ble 25 j then (some (45, .aload_n 0, 26, 0, 0, 0)) else (some (44, .iconst 1, 25, 0, 0, 1))) else (some (42, .iload 5, 24, 5, 0, 0))) else (bif Nat.ble 22 j then (some (40, .istore 5, 23, 5, 0, 0)) else (some (39, .iconst 0, 22, 0, 0, 0)))))) else (bif Nat.ble 10 j then (bif Nat.ble 15 j then (bif Nat.ble 18 j then (bif Nat.ble 19 j then (bif Nat.ble 20 j then (some (37, .istore 4, 21, 4, 0, 0)) else (some (35, .bipush (-9), 20, 0, 0, (-9)))) else (some (32, .invokevirtual 215, 19, 107, 1, 0))) else (bif Nat.ble 16 j then (bif Nat.ble 17 j then (some (31, .aload_n 0, 18, 0, 0, 0)) else (some (30, .ireturn, 17, 0, 0, 0))) else (some (29, .iconst (-1), 16, 0, 0, (-1))))) else (bif Nat.ble 12 j then (bif Nat.ble 13 j then (bif Nat.ble 14 j then (some (26, .ifCond .ne 5, 15, 17, 0, 0)) else (some (23, .invokestatic 102, 14, 90, 3, 0))) else (some (22, .iconst 1, 13, 0, 0, 1))) else (bif Nat.ble 11 j then (some (21, .iconst 0, 12, 0, 0, 0)) else (some (20, .iload_n 3, 11, 3, 0, 0))))) else (bif Nat.ble 5 j then (bif Nat.ble 7 j then (bif Nat.ble 8 j then (bif Nat.ble 9 j then (some (17, .ifCond .eq 12, 10, 15, 0, 0)) else (some (14, .invokestatic 231, 9, 129, 1, 0))) else (some (13, .iload_n 2, 8, 2, 0, 0))) else (bif Nat.ble 6 j then (some (10, .ifCond .eq 19, 7, 15, 0, 0)) else (some (7, .invokevirtual 209, 6, 104, 2, 0)))) else (bif Nat.ble 2 j then (bif Nat.ble 3 j then (bif Nat.ble 4 j then (some (6, .iload_n 1, 5, 1, 0, 0)) else (some (5, .aload_n 0, 4, 0, 0, 0))) else (some (2, .putfield 80, 3, 6, 0, 0))) else (bif Nat.ble 1 j then (some (1, .iconst 0, 2, 0, 0, 0)) else (some (0, .aload_n 0, 1, 0, 0, 0))))))))
/-- MotionDeskModel.putsFirst([III)V -/
def mr_Mo_putsFirst (j : Nat) : Option mx_Row := bif Nat.ble 33 j then none else (bif Nat.ble 16 j then (bif Nat.ble 24 j then (bif Nat.ble 28 j then (bif Nat.ble 30 j then (bif Nat.ble 31 j then (bif Nat.ble 32 j then (some (47, .return_, 33, 0, 0, 0)) else (some (46, .iastore, 32, 0, 0, 0))) else (some (45, .iload_n 3, 31, 3, 0, 0))) else (bif Nat.ble 29 j then (some (44, .imul, 30, 0, 0, 0)) else (some (43, .iload_n 2, 29, 2, 0, 0)))) else (bif Nat.ble 26 j then (bif Nat.ble 27 j then (some (41, .bipush 6, 28, 0, 0, 6)) else (some (40, .aload_n 1, 27, 1, 0, 0))) else (bif Nat.ble 25 j then (some (37, .goto (-28), 6, 0, 0, 0)) else (some (34, .iinc 4 (-1), 25, 4, 0, (-1)))))) else (bif Nat.ble 20 j then (bif Nat.ble 22 j then (bif Nat.ble 23 j then (some (33, .iastore, 24, 0, 0, 0)) else (some (32, .iaload, 23, 0, 0, 0))) else (bif Nat.ble 21 j then (some (31, .isub, 22, 0, 0, 0)) else (some (30, .iconst 1, 21, 0, 0, 1)))) else (bif Nat.ble 18 j then (bif Nat.ble 19 j then (some (29, .iadd, 20, 0, 0, 0)) else (some (27, .iload 4, 19, 4, 0, 0))) else (bif Nat.ble 17 j then (some (26, .imul, 18, 0, 0, 0)) else (some (25, .iload_n 2, 17, 2, 0, 0)))))) else (bif Nat.ble 8 j then (bif Nat.ble 12 j then (bif Nat.ble 14 j then (bif Nat.ble 15 j then (some (23, .bipush 6, 16, 0, 0, 6)) else (some (22, .aload_n 1, 15, 1, 0, 0))) else (bif Nat.ble 13 j then (some (21, .iadd, 14, 0, 0, 0)) else (some (19, .iload 4, 13, 4, 0, 0)))) else (bif Nat.ble 10 j then (bif Nat.ble 11 j then (some (18, .imul, 12, 0, 0, 0)) else (some (17, .iload_n 2, 11, 2, 0, 0))) else (bif Nat.ble 9 j then (some (15, .bipush 6, 10, 0, 0, 6)) else (some (14, .aload_n 1, 9, 1, 0, 0))))) else (bif Nat.ble 4 j then (bif Nat.ble 6 j then (bif Nat.ble 7 j then (some (11, .ifCond .le 29, 8, 26, 0, 0)) else (some (9, .iload 4, 7, 4, 0, 0))) else (bif Nat.ble 5 j then (some (7, .istore 4, 6, 4, 0, 0)) else (some (4, .invokevirtual 176, 5, 116, 4, 0)))) else (bif Nat.ble 2 j then (bif Nat.ble 3 j then (some (3, .iload_n 3, 4, 3, 0, 0)) else (some (2, .iload_n 2, 3, 2, 0, 0))) else (bif Nat.ble 1 j then (some (1, .aload_n 1, 2, 1, 0, 0)) else (some (0, .aload_n 0, 1, 0, 0, 0)))))))
/-- MotionDeskModel.odds(IIII)I -/
def mr_Mo_odds (j : Nat) : Option mx_Row := bif Nat.ble 101 j then none else (bif Nat.ble 50 j then (bif Nat.ble 75 j then (bif Nat.ble 88 j then (bif Nat.ble 94 j then (bif Nat.ble 97 j then (bif Nat.ble 99 j then (bif Nat.ble 100 j then (some (190, .ireturn, 101, 0, 0, 0)) else (some (189, .l2i, 100, 0, 0, 0))) else (bif Nat.ble 98 j then (some (188, .ldiv, 99, 0, 0, 0)) else (some (186, .lload 9, 98, 9, 0, 0)))) else (bif Nat.ble 95 j then (bif Nat.ble 96 j then (some (184, .lload 7, 97, 7, 0, 0)) else (some (181, .goto 8, 99, 0, 0, 0))) else (some (180, .ldiv, 95, 0, 0, 0)))) else (bif Nat.ble 91 j then (bif Nat.ble 92 j then (bif Nat.ble 93 j then (some (178, .lload 9, 94, 9, 0, 0)) else (some (176, .lload 5, 93, 5, 0, 0))) else (some (173, .ifCond .ne 11, 92, 96, 0, 0))) else (bif Nat.ble 89 j then (bif Nat.ble 90 j then (some (171, .iload 4, 91, 4, 0, 0)) else (some (169, .lstore 9, 90, 9, 0, 0))) else (some (166, .invokestatic 243, 89, 135, 2, 0))))) else (bif Nat.ble 81 j then (bif Nat.ble 84 j then (bif Nat.ble 86 j then (bif Nat.ble 87 j then (some (164, .lload 7, 88, 7, 0, 0)) else (some (162, .lload 5, 87, 5, 0, 0))) else (bif Nat.ble 85 j then (some (159, .goto (-108), 28, 0, 0, 0)) else (some (156, .iinc 9 1, 85, 9, 0, 1)))) else (bif Nat.ble 82 j then (bif Nat.ble 83 j then (some (154, .lstore 5, 84, 5, 0, 0)) else (some (153, .ladd, 83, 0, 0, 0))) else (some (152, .lconst 0, 82, 0, 0, 0)))) else (bif Nat.ble 78 j then (bif Nat.ble 79 j then (bif Nat.ble 80 j then (some (149, .goto 4, 82, 0, 0, 0)) else (some (147, .lload 10, 80, 10, 0, 0))) else (some (144, .if_icmp .ne 8, 79, 81, 0, 0))) else (bif Nat.ble 76 j then (bif Nat.ble 77 j then (some (143, .iload_n 2, 78, 2, 0, 0)) else (some (140, .invokevirtual 221, 77, 119, 3, 0))) else (some (139, .iload_n 3, 76, 3, 0, 0)))))) else (bif Nat.ble 62 j then (bif Nat.ble 68 j then (bif Nat.ble 71 j then (bif Nat.ble 73 j then (bif Nat.ble 74 j then (some (136, .getfield 16, 75, 6, 13, 0)) else (some (135, .aload_n 0, 74, 0, 0, 0))) else (bif Nat.ble 72 j then (some (134, .aload_n 0, 73, 0, 0, 0)) else (some (131, .ifCond .le 21, 72, 81, 0, 0)))) else (bif Nat.ble 69 j then (bif Nat.ble 70 j then (some (130, .lcmp, 71, 0, 0, 0)) else (some (129, .lconst 0, 70, 0, 0, 0))) else (some (127, .lload 10, 69, 10, 0, 0)))) else (bif Nat.ble 65 j then (bif Nat.ble 66 j then (bif Nat.ble 67 j then (some (125, .lload 5, 68, 5, 0, 0)) else (some (122, .putfield 173, 67, 6, 23, 0))) else (some (120, .iload 9, 66, 9, 0, 0))) else (bif Nat.ble 63 j then (bif Nat.ble 64 j then (some (119, .aload_n 0, 65, 0, 0, 0)) else (some (116, .goto (-45), 40, 0, 0, 0))) else (some (113, .iinc 12 1, 63, 12, 0, 1))))) else (bif Nat.ble 56 j then (bif Nat.ble 59 j then (bif Nat.ble 60 j then (bif Nat.ble 61 j then (some (111, .lstore 7, 62, 7, 0, 0)) else (some (110, .lmul, 61, 0, 0, 0))) else (some (107, .ldc2_w 241, 60, 10, 0, 0))) else (bif Nat.ble 57 j then (bif Nat.ble 58 j then (some (105, .lload 7, 59, 7, 0, 0)) else (some (103, .lstore 10, 58, 10, 0, 0))) else (some (102, .lmul, 57, 0, 0, 0)))) else (bif Nat.ble 53 j then (bif Nat.ble 54 j then (bif Nat.ble 55 j then (some (101, .i2l, 56, 0, 0, 0)) else (some (100, .iload_n 1, 55, 1, 0, 0))) else (some (97, .goto 5, 56, 0, 0, 0))) else (bif Nat.ble 51 j then (bif Nat.ble 52 j then (some (96, .i2l, 53, 0, 0, 0)) else (some (95, .isub, 52, 0, 0, 0))) else (some (94, .iload_n 1, 51, 1, 0, 0))))))) else (bif Nat.ble 25 j then (bif Nat.ble 37 j then (bif Nat.ble 43 j then (bif Nat.ble 46 j then (bif Nat.ble 48 j then (bif Nat.ble 49 j then (some (92, .bipush 10, 50, 0, 0, 10)) else (some (89, .ifCond .eq 11, 49, 54, 0, 0))) else (bif Nat.ble 47 j then (some (86, .invokestatic 87, 48, 83, 2, 0)) else (some (84, .iload 12, 47, 12, 0, 0)))) else (bif Nat.ble 44 j then (bif Nat.ble 45 j then (some (82, .iload 9, 46, 9, 0, 0)) else (some (80, .lload 10, 45, 10, 0, 0))) else (some (77, .if_icmp .ge 42, 44, 64, 0, 0)))) else (bif Nat.ble 40 j then (bif Nat.ble 41 j then (bif Nat.ble 42 j then (some (74, .getfield 160, 43, 6, 9, 0)) else (some (73, .aload_n 0, 42, 0, 0, 0))) else (some (71, .iload 12, 41, 12, 0, 0))) else (bif Nat.ble 38 j then (bif Nat.ble 39 j then (some (69, .istore 12, 40, 12, 0, 0)) else (some (68, .iconst 0, 39, 0, 0, 0))) else (some (66, .lstore 7, 38, 7, 0, 0))))) else (bif Nat.ble 31 j then (bif Nat.ble 34 j then (bif Nat.ble 35 j then (bif Nat.ble 36 j then (some (65, .lconst 1, 37, 1, 0, 0)) else (some (63, .lstore 10, 36, 10, 0, 0))) else (some (62, .lconst 1, 35, 1, 0, 0))) else (bif Nat.ble 32 j then (bif Nat.ble 33 j then (some (59, .if_icmp .ge 103, 34, 86, 0, 0)) else (some (58, .ishl, 33, 0, 0, 0))) else (some (55, .getfield 160, 32, 6, 9, 0)))) else (bif Nat.ble 28 j then (bif Nat.ble 29 j then (bif Nat.ble 30 j then (some (54, .aload_n 0, 31, 0, 0, 0)) else (some (53, .iconst 1, 30, 0, 0, 1))) else (some (51, .iload 9, 29, 9, 0, 0))) else (bif Nat.ble 26 j then (bif Nat.ble 27 j then (some (49, .istore 9, 28, 9, 0, 0)) else (some (48, .iconst 0, 27, 0, 0, 0))) else (some (46, .lstore 7, 26, 7, 0, 0)))))) else (bif Nat.ble 12 j then (bif Nat.ble 18 j then (bif Nat.ble 21 j then (bif Nat.ble 23 j then (bif Nat.ble 24 j then (some (45, .lconst 1, 25, 1, 0, 0)) else (some (43, .lstore 5, 24, 5, 0, 0))) else (bif Nat.ble 22 j then (some (42, .lconst 0, 23, 0, 0, 0)) else (some (41, .ireturn, 22, 0, 0, 0)))) else (bif Nat.ble 19 j then (bif Nat.ble 20 j then (some (40, .iconst (-1), 21, 0, 0, (-1))) else (some (37, .ifCond .ne 5, 20, 22, 0, 0))) else (some (34, .invokestatic 102, 19, 90, 3, 0)))) else (bif Nat.ble 15 j then (bif Nat.ble 16 j then (bif Nat.ble 17 j then (some (33, .iconst 1, 18, 0, 0, 1)) else (some (32, .iconst 0, 17, 0, 0, 0))) else (some (30, .iload 4, 16, 4, 0, 0))) else (bif Nat.ble 13 j then (bif Nat.ble 14 j then (some (27, .ifCond .eq 13, 15, 20, 0, 0)) else (some (24, .invokestatic 231, 14, 129, 1, 0))) else (some (23, .iload_n 3, 13, 3, 0, 0))))) else (bif Nat.ble 6 j then (bif Nat.ble 9 j then (bif Nat.ble 10 j then (bif Nat.ble 11 j then (some (20, .ifCond .eq 20, 12, 20, 0, 0)) else (some (17, .invokevirtual 209, 11, 104, 2, 0))) else (some (16, .iload_n 2, 10, 2, 0, 0))) else (bif Nat.ble 7 j then (bif Nat.ble 8 j then (some (15, .aload_n 0, 9, 0, 0, 0)) else (some (12, .ifCond .eq 28, 8, 20, 0, 0))) else (some (9, .invokestatic 102, 7, 90, 3, 0)))) else (bif Nat.ble 3 j then (bif Nat.ble 4 j then (bif Nat.ble 5 j then (some (7, .bipush 10, 6, 0, 0, 10)) else (some (6, .iconst 0, 5, 0, 0, 0))) else (some (5, .iload_n 1, 4, 1, 0, 0))) else (bif Nat.ble 1 j then (bif Nat.ble 2 j then (some (2, .putfield 80, 3, 6, 0, 0)) else (some (1, .iconst 0, 2, 0, 0, 0))) else (some (0, .aload_n 0, 1, 0, 0, 0))))))))
/-- MotionDeskModel.gcd(JJ)J -/
def mr_Mo_gcd (j : Nat) : Option mx_Row := bif Nat.ble 19 j then none else (bif Nat.ble 9 j then (bif Nat.ble 14 j then (bif Nat.ble 16 j then (bif Nat.ble 17 j then (bif Nat.ble 18 j then (some (33, .lreturn, 19, 0, 0, 0)) else (some (31, .lload 4, 18, 4, 0, 0))) else (some (28, .goto (-22), 4, 0, 0, 0))) else (bif Nat.ble 15 j then (some (26, .lstore 6, 16, 6, 0, 0)) else (some (24, .lload 8, 15, 8, 0, 0)))) else (bif Nat.ble 11 j then (bif Nat.ble 12 j then (bif Nat.ble 13 j then (some (22, .lstore 4, 14, 4, 0, 0)) else (some (20, .lload 6, 13, 6, 0, 0))) else (some (18, .lstore 8, 12, 8, 0, 0))) else (bif Nat.ble 10 j then (some (17, .lrem, 11, 0, 0, 0)) else (some (15, .lload 6, 10, 6, 0, 0))))) else (bif Nat.ble 4 j then (bif Nat.ble 6 j then (bif Nat.ble 7 j then (bif Nat.ble 8 j then (some (13, .lload 4, 9, 4, 0, 0)) else (some (10, .ifCond .eq 21, 8, 17, 0, 0))) else (some (9, .lcmp, 7, 0, 0, 0))) else (bif Nat.ble 5 j then (some (8, .lconst 0, 6, 0, 0, 0)) else (some (6, .lload 6, 5, 6, 0, 0)))) else (bif Nat.ble 2 j then (bif Nat.ble 3 j then (some (4, .lstore 6, 4, 6, 0, 0)) else (some (3, .lload_n 2, 3, 2, 0, 0))) else (bif Nat.ble 1 j then (some (1, .lstore 4, 2, 4, 0, 0)) else (some (0, .lload_n 0, 1, 0, 0, 0))))))
/-- MotionDeskModel.sees(II)I -/
def mr_Mo_sees (j : Nat) : Option mx_Row := bif Nat.ble 77 j then none else (bif Nat.ble 38 j then (bif Nat.ble 57 j then (bif Nat.ble 67 j then (bif Nat.ble 72 j then (bif Nat.ble 74 j then (bif Nat.ble 75 j then (bif Nat.ble 76 j then (some (132, .ireturn, 77, 0, 0, 0)) else (some (129, .getfield 167, 76, 6, 22, 0))) else (some (128, .aload_n 0, 75, 0, 0, 0))) else (bif Nat.ble 73 j then (some (125, .putfield 167, 74, 6, 22, 0)) else (some (124, .iadd, 73, 0, 0, 0)))) else (bif Nat.ble 69 j then (bif Nat.ble 70 j then (bif Nat.ble 71 j then (some (123, .iconst 1, 72, 0, 0, 1)) else (some (120, .getfield 167, 71, 6, 22, 0))) else (some (119, .dup, 70, 0, 0, 0))) else (bif Nat.ble 68 j then (some (118, .aload_n 0, 69, 0, 0, 0)) else (some (117, .iastore, 68, 0, 0, 0))))) else (bif Nat.ble 62 j then (bif Nat.ble 64 j then (bif Nat.ble 65 j then (bif Nat.ble 66 j then (some (116, .iload_n 2, 67, 2, 0, 0)) else (some (113, .getfield 167, 66, 6, 22, 0))) else (some (112, .aload_n 0, 65, 0, 0, 0))) else (bif Nat.ble 63 j then (some (109, .getfield 38, 64, 6, 21, 0)) else (some (108, .aload_n 0, 63, 0, 0, 0)))) else (bif Nat.ble 59 j then (bif Nat.ble 60 j then (bif Nat.ble 61 j then (some (107, .iastore, 62, 0, 0, 0)) else (some (106, .iaload, 61, 0, 0, 0))) else (some (105, .iaload, 60, 0, 0, 0))) else (bif Nat.ble 58 j then (some (104, .iadd, 59, 0, 0, 0)) else (some (103, .iload_n 1, 58, 1, 0, 0)))))) else (bif Nat.ble 47 j then (bif Nat.ble 52 j then (bif Nat.ble 54 j then (bif Nat.ble 55 j then (bif Nat.ble 56 j then (some (100, .sipush 181, 57, 0, 0, 181)) else (some (97, .getfield 16, 56, 6, 13, 0))) else (some (96, .aload_n 0, 55, 0, 0, 0))) else (bif Nat.ble 53 j then (some (93, .getfield 44, 54, 6, 25, 0)) else (some (92, .aload_n 0, 53, 0, 0, 0)))) else (bif Nat.ble 49 j then (bif Nat.ble 50 j then (bif Nat.ble 51 j then (some (89, .getfield 167, 52, 6, 22, 0)) else (some (88, .aload_n 0, 51, 0, 0, 0))) else (some (85, .getfield 35, 50, 6, 20, 0))) else (bif Nat.ble 48 j then (some (84, .aload_n 0, 49, 0, 0, 0)) else (some (83, .iastore, 48, 0, 0, 0))))) else (bif Nat.ble 42 j then (bif Nat.ble 44 j then (bif Nat.ble 45 j then (bif Nat.ble 46 j then (some (82, .iaload, 47, 0, 0, 0)) else (some (81, .iaload, 46, 0, 0, 0))) else (some (80, .iadd, 45, 0, 0, 0))) else (bif Nat.ble 43 j then (some (79, .iload_n 1, 44, 1, 0, 0)) else (some (77, .bipush 118, 43, 0, 0, 118)))) else (bif Nat.ble 40 j then (bif Nat.ble 41 j then (some (74, .getfield 16, 42, 6, 13, 0)) else (some (73, .aload_n 0, 41, 0, 0, 0))) else (bif Nat.ble 39 j then (some (70, .getfield 44, 40, 6, 25, 0)) else (some (69, .aload_n 0, 39, 0, 0, 0))))))) else (bif Nat.ble 19 j then (bif Nat.ble 28 j then (bif Nat.ble 33 j then (bif Nat.ble 35 j then (bif Nat.ble 36 j then (bif Nat.ble 37 j then (some (66, .getfield 167, 38, 6, 22, 0)) else (some (65, .aload_n 0, 37, 0, 0, 0))) else (some (62, .getfield 32, 36, 6, 19, 0))) else (bif Nat.ble 34 j then (some (61, .aload_n 0, 35, 0, 0, 0)) else (some (58, .invokevirtual 186, 34, 108, 2, 0)))) else (bif Nat.ble 30 j then (bif Nat.ble 31 j then (bif Nat.ble 32 j then (some (55, .getfield 16, 33, 6, 13, 0)) else (some (54, .aload_n 0, 32, 0, 0, 0))) else (some (53, .aload_n 0, 31, 0, 0, 0))) else (bif Nat.ble 29 j then (some (52, .ireturn, 30, 0, 0, 0)) else (some (50, .bipush (-3), 29, 0, 0, (-3)))))) else (bif Nat.ble 23 j then (bif Nat.ble 25 j then (bif Nat.ble 26 j then (bif Nat.ble 27 j then (some (47, .if_icmp .ne 6, 28, 30, 0, 0)) else (some (45, .bipush 6, 27, 0, 0, 6))) else (some (42, .getfield 167, 26, 6, 22, 0))) else (bif Nat.ble 24 j then (some (41, .aload_n 0, 25, 0, 0, 0)) else (some (40, .ireturn, 24, 0, 0, 0)))) else (bif Nat.ble 21 j then (bif Nat.ble 22 j then (some (38, .bipush (-2), 23, 0, 0, (-2))) else (some (35, .if_icmp .eq 6, 22, 24, 0, 0))) else (bif Nat.ble 20 j then (some (33, .bipush (-9), 21, 0, 0, (-9))) else (some (32, .iaload, 20, 0, 0, 0)))))) else (bif Nat.ble 9 j then (bif Nat.ble 14 j then (bif Nat.ble 16 j then (bif Nat.ble 17 j then (bif Nat.ble 18 j then (some (31, .iadd, 19, 0, 0, 0)) else (some (30, .iload_n 1, 18, 1, 0, 0))) else (some (28, .bipush 55, 17, 0, 0, 55))) else (bif Nat.ble 15 j then (some (25, .getfield 16, 16, 6, 13, 0)) else (some (24, .aload_n 0, 15, 0, 0, 0)))) else (bif Nat.ble 11 j then (bif Nat.ble 12 j then (bif Nat.ble 13 j then (some (23, .ireturn, 14, 0, 0, 0)) else (some (22, .iconst (-1), 13, 0, 0, (-1)))) else (some (19, .ifCond .ne 5, 12, 14, 0, 0))) else (bif Nat.ble 10 j then (some (16, .invokestatic 102, 11, 90, 3, 0)) else (some (15, .iconst 1, 10, 0, 0, 1))))) else (bif Nat.ble 4 j then (bif Nat.ble 6 j then (bif Nat.ble 7 j then (bif Nat.ble 8 j then (some (14, .iconst 0, 9, 0, 0, 0)) else (some (13, .iload_n 2, 8, 2, 0, 0))) else (some (10, .ifCond .eq 12, 7, 12, 0, 0))) else (bif Nat.ble 5 j then (some (7, .invokevirtual 212, 6, 106, 2, 0)) else (some (6, .iload_n 1, 5, 1, 0, 0)))) else (bif Nat.ble 2 j then (bif Nat.ble 3 j then (some (5, .aload_n 0, 4, 0, 0, 0)) else (some (2, .putfield 80, 3, 6, 0, 0))) else (bif Nat.ble 1 j then (some (1, .iconst 0, 2, 0, 0, 0)) else (some (0, .aload_n 0, 1, 0, 0, 0))))))))
/-- MotionDeskModel.forget()I -/
def mr_Mo_forget (j : Nat) : Option mx_Row := bif Nat.ble 11 j then none else (bif Nat.ble 5 j then (bif Nat.ble 8 j then (bif Nat.ble 9 j then (bif Nat.ble 10 j then (some (16, .ireturn, 11, 0, 0, 0)) else (some (15, .iload_n 1, 10, 1, 0, 0))) else (some (12, .putfield 167, 9, 6, 22, 0))) else (bif Nat.ble 6 j then (bif Nat.ble 7 j then (some (11, .iconst 0, 8, 0, 0, 0)) else (some (10, .aload_n 0, 7, 0, 0, 0))) else (some (9, .istore_n 1, 6, 1, 0, 0)))) else (bif Nat.ble 2 j then (bif Nat.ble 3 j then (bif Nat.ble 4 j then (some (6, .getfield 167, 5, 6, 22, 0)) else (some (5, .aload_n 0, 4, 0, 0, 0))) else (some (2, .putfield 80, 3, 6, 0, 0))) else (bif Nat.ble 1 j then (some (1, .iconst 0, 2, 0, 0, 0)) else (some (0, .aload_n 0, 1, 0, 0, 0)))))
/-- MotionDeskModel.rankings(I)I -/
def mr_Mo_rankings (j : Nat) : Option mx_Row := bif Nat.ble 20 j then none else (bif Nat.ble 10 j then (bif Nat.ble 15 j then (bif Nat.ble 17 j then (bif Nat.ble 18 j then (bif Nat.ble 19 j then (some (33, .ireturn, 20, 0, 0, 0)) else (some (30, .getfield 247, 19, 6, 32, 0))) else (some (29, .aload_n 0, 18, 0, 0, 0))) else (bif Nat.ble 16 j then (some (26, .goto 7, 19, 0, 0, 0)) else (some (25, .iload_n 2, 16, 2, 0, 0)))) else (bif Nat.ble 12 j then (bif Nat.ble 13 j then (bif Nat.ble 14 j then (some (22, .ifCond .ne 7, 15, 17, 0, 0)) else (some (21, .iload_n 1, 14, 1, 0, 0))) else (some (20, .istore_n 2, 13, 2, 0, 0))) else (bif Nat.ble 11 j then (some (17, .invokevirtual 259, 12, 139, 1, 0)) else (some (16, .aload_n 0, 11, 0, 0, 0))))) else (bif Nat.ble 5 j then (bif Nat.ble 7 j then (bif Nat.ble 8 j then (bif Nat.ble 9 j then (some (15, .ireturn, 10, 0, 0, 0)) else (some (14, .iconst (-1), 9, 0, 0, (-1)))) else (some (11, .ifCond .ne 5, 8, 10, 0, 0))) else (bif Nat.ble 6 j then (some (8, .invokestatic 102, 7, 90, 3, 0)) else (some (7, .iconst 1, 6, 0, 0, 1)))) else (bif Nat.ble 2 j then (bif Nat.ble 3 j then (bif Nat.ble 4 j then (some (6, .iconst 0, 5, 0, 0, 0)) else (some (5, .iload_n 1, 4, 1, 0, 0))) else (some (2, .putfield 80, 3, 6, 0, 0))) else (bif Nat.ble 1 j then (some (1, .iconst 0, 2, 0, 0, 0)) else (some (0, .aload_n 0, 1, 0, 0, 0))))))
/-- MotionDeskModel.rankingMany()I -/
def mr_Mo_rankingMany (j : Nat) : Option mx_Row := bif Nat.ble 77 j then none else (bif Nat.ble 38 j then (bif Nat.ble 57 j then (bif Nat.ble 67 j then (bif Nat.ble 72 j then (bif Nat.ble 74 j then (bif Nat.ble 75 j then (bif Nat.ble 76 j then (some (141, .ireturn, 77, 0, 0, 0)) else (some (140, .iload_n 1, 76, 1, 0, 0))) else (some (137, .goto (-98), 23, 0, 0, 0))) else (bif Nat.ble 73 j then (some (134, .iinc 2 1, 74, 2, 0, 1)) else (some (131, .goto (-44), 47, 0, 0, 0)))) else (bif Nat.ble 69 j then (bif Nat.ble 70 j then (bif Nat.ble 71 j then (some (128, .iinc 3 1, 72, 3, 0, 1)) else (some (127, .iastore, 71, 0, 0, 0))) else (some (126, .iadd, 70, 0, 0, 0))) else (bif Nat.ble 68 j then (some (125, .iconst 0, 69, 0, 0, 0)) else (some (122, .goto 4, 69, 0, 0, 0))))) else (bif Nat.ble 62 j then (bif Nat.ble 64 j then (bif Nat.ble 65 j then (bif Nat.ble 66 j then (some (121, .iconst 1, 67, 0, 0, 1)) else (some (118, .ifCond .ne 7, 66, 68, 0, 0))) else (some (115, .invokevirtual 256, 65, 142, 2, 0))) else (bif Nat.ble 63 j then (some (114, .iload_n 3, 64, 3, 0, 0)) else (some (113, .aload_n 0, 63, 0, 0, 0)))) else (bif Nat.ble 59 j then (bif Nat.ble 60 j then (bif Nat.ble 61 j then (some (110, .ifCond .eq 15, 62, 68, 0, 0)) else (some (107, .invokevirtual 253, 61, 141, 2, 0))) else (some (106, .iload_n 3, 60, 3, 0, 0))) else (bif Nat.ble 58 j then (some (105, .aload_n 0, 59, 0, 0, 0)) else (some (104, .iaload, 58, 0, 0, 0)))))) else (bif Nat.ble 47 j then (bif Nat.ble 52 j then (bif Nat.ble 54 j then (bif Nat.ble 55 j then (bif Nat.ble 56 j then (some (103, .dup2, 57, 0, 0, 0)) else (some (102, .iload_n 3, 56, 3, 0, 0))) else (some (99, .getfield 59, 55, 6, 31, 0))) else (bif Nat.ble 53 j then (some (98, .aload_n 0, 54, 0, 0, 0)) else (some (95, .if_icmp .ge 39, 53, 73, 0, 0)))) else (bif Nat.ble 49 j then (bif Nat.ble 50 j then (bif Nat.ble 51 j then (some (94, .iaload, 52, 0, 0, 0)) else (some (92, .bipush 54, 51, 0, 0, 54))) else (some (89, .getfield 16, 50, 6, 13, 0))) else (bif Nat.ble 48 j then (some (88, .aload_n 0, 49, 0, 0, 0)) else (some (87, .iload_n 3, 48, 3, 0, 0))))) else (bif Nat.ble 42 j then (bif Nat.ble 44 j then (bif Nat.ble 45 j then (bif Nat.ble 46 j then (some (86, .istore_n 3, 47, 3, 0, 0)) else (some (85, .iconst 0, 46, 0, 0, 0))) else (some (82, .iinc 1 1, 45, 1, 0, 1))) else (bif Nat.ble 43 j then (some (79, .putfield 247, 44, 6, 32, 0)) else (some (76, .getfield 247, 43, 6, 32, 0)))) else (bif Nat.ble 40 j then (bif Nat.ble 41 j then (some (75, .aload_n 0, 42, 0, 0, 0)) else (some (72, .goto 7, 43, 0, 0, 0))) else (bif Nat.ble 39 j then (some (71, .iload_n 2, 40, 2, 0, 0)) else (some (68, .ifCond .ne 7, 39, 41, 0, 0))))))) else (bif Nat.ble 19 j then (bif Nat.ble 28 j then (bif Nat.ble 33 j then (bif Nat.ble 35 j then (bif Nat.ble 36 j then (bif Nat.ble 37 j then (some (67, .iload_n 1, 38, 1, 0, 0)) else (some (66, .aload_n 0, 37, 0, 0, 0))) else (some (63, .ifCond .eq 71, 36, 73, 0, 0))) else (bif Nat.ble 34 j then (some (60, .invokevirtual 250, 35, 140, 1, 0)) else (some (59, .aload_n 0, 34, 0, 0, 0)))) else (bif Nat.ble 30 j then (bif Nat.ble 31 j then (bif Nat.ble 32 j then (some (56, .invokevirtual 69, 33, 81, 3, 0)) else (some (53, .getfield 157, 32, 6, 8, 0))) else (some (52, .aload_n 0, 31, 0, 0, 0))) else (bif Nat.ble 29 j then (some (51, .iload_n 2, 30, 2, 0, 0)) else (some (50, .aload_n 0, 29, 0, 0, 0))))) else (bif Nat.ble 23 j then (bif Nat.ble 25 j then (bif Nat.ble 26 j then (bif Nat.ble 27 j then (some (47, .if_icmp .ge 93, 28, 75, 0, 0)) else (some (44, .invokestatic 83, 27, 82, 1, 0))) else (some (41, .getfield 157, 26, 6, 8, 0))) else (bif Nat.ble 24 j then (some (40, .aload_n 0, 25, 0, 0, 0)) else (some (39, .iload_n 2, 24, 2, 0, 0)))) else (bif Nat.ble 21 j then (bif Nat.ble 22 j then (some (38, .istore_n 2, 23, 2, 0, 0)) else (some (37, .iconst 0, 22, 0, 0, 0))) else (bif Nat.ble 20 j then (some (36, .istore_n 1, 21, 1, 0, 0)) else (some (35, .iconst 0, 20, 0, 0, 0)))))) else (bif Nat.ble 9 j then (bif Nat.ble 14 j then (bif Nat.ble 16 j then (bif Nat.ble 17 j then (bif Nat.ble 18 j then (some (32, .goto (-16), 9, 0, 0, 0)) else (some (29, .iinc 1 1, 18, 1, 0, 1))) else (some (28, .iastore, 17, 0, 0, 0))) else (bif Nat.ble 15 j then (some (27, .iconst 0, 16, 0, 0, 0)) else (some (26, .iload_n 1, 15, 1, 0, 0)))) else (bif Nat.ble 11 j then (bif Nat.ble 12 j then (bif Nat.ble 13 j then (some (23, .getfield 59, 14, 6, 31, 0)) else (some (22, .aload_n 0, 13, 0, 0, 0))) else (some (19, .if_icmp .ge 16, 12, 19, 0, 0))) else (bif Nat.ble 10 j then (some (17, .bipush 63, 11, 0, 0, 63)) else (some (16, .iload_n 1, 10, 1, 0, 0))))) else (bif Nat.ble 4 j then (bif Nat.ble 6 j then (bif Nat.ble 7 j then (bif Nat.ble 8 j then (some (15, .istore_n 1, 9, 1, 0, 0)) else (some (14, .iconst 0, 8, 0, 0, 0))) else (some (11, .putfield 247, 7, 6, 32, 0))) else (bif Nat.ble 5 j then (some (9, .bipush (-9), 6, 0, 0, (-9))) else (some (8, .aload_n 0, 5, 0, 0, 0)))) else (bif Nat.ble 2 j then (bif Nat.ble 3 j then (some (5, .invokevirtual 186, 4, 108, 2, 0)) else (some (2, .getfield 16, 3, 6, 13, 0))) else (bif Nat.ble 1 j then (some (1, .aload_n 0, 2, 0, 0, 0)) else (some (0, .aload_n 0, 1, 0, 0, 0))))))))
/-- MotionDeskModel.isAsSeen()Z -/
def mr_Mo_isAsSeen (j : Nat) : Option mx_Row := bif Nat.ble 36 j then none else (bif Nat.ble 18 j then (bif Nat.ble 27 j then (bif Nat.ble 31 j then (bif Nat.ble 33 j then (bif Nat.ble 34 j then (bif Nat.ble 35 j then (some (59, .ireturn, 36, 0, 0, 0)) else (some (58, .iload_n 1, 35, 1, 0, 0))) else (some (55, .goto (-51), 4, 0, 0, 0))) else (bif Nat.ble 32 j then (some (52, .iinc 2 1, 33, 2, 0, 1)) else (some (51, .istore_n 1, 32, 1, 0, 0)))) else (bif Nat.ble 29 j then (bif Nat.ble 30 j then (some (50, .iconst 0, 31, 0, 0, 0)) else (some (47, .goto 4, 31, 0, 0, 0))) else (bif Nat.ble 28 j then (some (46, .iconst 1, 29, 0, 0, 1)) else (some (43, .if_icmp .ne 7, 28, 30, 0, 0))))) else (bif Nat.ble 22 j then (bif Nat.ble 24 j then (bif Nat.ble 25 j then (bif Nat.ble 26 j then (some (42, .iaload, 27, 0, 0, 0)) else (some (41, .iload_n 2, 26, 2, 0, 0))) else (some (38, .getfield 38, 25, 6, 21, 0))) else (bif Nat.ble 23 j then (some (37, .aload_n 0, 24, 0, 0, 0)) else (some (34, .invokevirtual 182, 23, 111, 5, 0)))) else (bif Nat.ble 20 j then (bif Nat.ble 21 j then (some (33, .iaload, 22, 0, 0, 0)) else (some (32, .iload_n 2, 21, 2, 0, 0))) else (bif Nat.ble 19 j then (some (29, .getfield 35, 20, 6, 20, 0)) else (some (28, .aload_n 0, 19, 0, 0, 0)))))) else (bif Nat.ble 9 j then (bif Nat.ble 13 j then (bif Nat.ble 15 j then (bif Nat.ble 16 j then (bif Nat.ble 17 j then (some (27, .iaload, 18, 0, 0, 0)) else (some (26, .iload_n 2, 17, 2, 0, 0))) else (some (23, .getfield 32, 16, 6, 19, 0))) else (bif Nat.ble 14 j then (some (22, .aload_n 0, 15, 0, 0, 0)) else (some (21, .iconst 0, 14, 0, 0, 0)))) else (bif Nat.ble 11 j then (bif Nat.ble 12 j then (some (18, .getfield 50, 13, 6, 27, 0)) else (some (17, .aload_n 0, 12, 0, 0, 0))) else (bif Nat.ble 10 j then (some (16, .aload_n 0, 11, 0, 0, 0)) else (some (13, .ifCond .eq 37, 10, 30, 0, 0))))) else (bif Nat.ble 4 j then (bif Nat.ble 6 j then (bif Nat.ble 7 j then (bif Nat.ble 8 j then (some (12, .iload_n 1, 9, 1, 0, 0)) else (some (9, .if_icmp .ge 49, 8, 34, 0, 0))) else (some (6, .getfield 167, 7, 6, 22, 0))) else (bif Nat.ble 5 j then (some (5, .aload_n 0, 6, 0, 0, 0)) else (some (4, .iload_n 2, 5, 2, 0, 0)))) else (bif Nat.ble 2 j then (bif Nat.ble 3 j then (some (3, .istore_n 2, 4, 2, 0, 0)) else (some (2, .iconst 0, 3, 0, 0, 0))) else (bif Nat.ble 1 j then (some (1, .istore_n 1, 2, 1, 0, 0)) else (some (0, .iconst 1, 1, 0, 0, 1)))))))
/-- MotionDeskModel.isVote(I)Z -/
def mr_Mo_isVote (j : Nat) : Option mx_Row := bif Nat.ble 16 j then none else (bif Nat.ble 8 j then (bif Nat.ble 12 j then (bif Nat.ble 14 j then (bif Nat.ble 15 j then (some (27, .ireturn, 16, 0, 0, 0)) else (some (26, .iconst 0, 15, 0, 0, 0))) else (bif Nat.ble 13 j then (some (23, .goto 4, 15, 0, 0, 0)) else (some (22, .iconst 1, 13, 0, 0, 1)))) else (bif Nat.ble 10 j then (bif Nat.ble 11 j then (some (19, .if_icmp .ne 7, 12, 14, 0, 0)) else (some (17, .bipush (-9), 11, 0, 0, (-9)))) else (bif Nat.ble 9 j then (some (16, .iaload, 10, 0, 0, 0)) else (some (15, .iadd, 9, 0, 0, 0))))) else (bif Nat.ble 4 j then (bif Nat.ble 6 j then (bif Nat.ble 7 j then (some (14, .iload_n 1, 8, 1, 0, 0)) else (some (12, .bipush 55, 7, 0, 0, 55))) else (bif Nat.ble 5 j then (some (9, .getfield 16, 6, 6, 13, 0)) else (some (8, .aload_n 0, 5, 0, 0, 0)))) else (bif Nat.ble 2 j then (bif Nat.ble 3 j then (some (5, .ifCond .eq 21, 4, 14, 0, 0)) else (some (2, .invokevirtual 212, 3, 106, 2, 0))) else (bif Nat.ble 1 j then (some (1, .iload_n 1, 2, 1, 0, 0)) else (some (0, .aload_n 0, 1, 0, 0, 0))))))
/-- MotionDeskModel.branchAt(I)I -/
def mr_Mo_branchAt (j : Nat) : Option mx_Row := bif Nat.ble 24 j then none else (bif Nat.ble 12 j then (bif Nat.ble 18 j then (bif Nat.ble 21 j then (bif Nat.ble 22 j then (bif Nat.ble 23 j then (some (38, .ireturn, 24, 0, 0, 0)) else (some (35, .invokevirtual 182, 23, 111, 5, 0))) else (some (34, .iaload, 22, 0, 0, 0))) else (bif Nat.ble 19 j then (bif Nat.ble 20 j then (some (33, .iaload, 21, 0, 0, 0)) else (some (32, .iadd, 20, 0, 0, 0))) else (some (31, .iload_n 1, 19, 1, 0, 0)))) else (bif Nat.ble 15 j then (bif Nat.ble 16 j then (bif Nat.ble 17 j then (some (28, .sipush 181, 18, 0, 0, 181)) else (some (25, .getfield 16, 17, 6, 13, 0))) else (some (24, .aload_n 0, 16, 0, 0, 0))) else (bif Nat.ble 13 j then (bif Nat.ble 14 j then (some (21, .getfield 44, 15, 6, 25, 0)) else (some (20, .aload_n 0, 14, 0, 0, 0))) else (some (19, .iaload, 13, 0, 0, 0))))) else (bif Nat.ble 6 j then (bif Nat.ble 9 j then (bif Nat.ble 10 j then (bif Nat.ble 11 j then (some (18, .iaload, 12, 0, 0, 0)) else (some (17, .iadd, 11, 0, 0, 0))) else (some (16, .iload_n 1, 10, 1, 0, 0))) else (bif Nat.ble 7 j then (bif Nat.ble 8 j then (some (14, .bipush 118, 9, 0, 0, 118)) else (some (11, .getfield 16, 8, 6, 13, 0))) else (some (10, .aload_n 0, 7, 0, 0, 0)))) else (bif Nat.ble 3 j then (bif Nat.ble 4 j then (bif Nat.ble 5 j then (some (7, .getfield 44, 6, 6, 25, 0)) else (some (6, .aload_n 0, 5, 0, 0, 0))) else (some (5, .iconst 0, 4, 0, 0, 0))) else (bif Nat.ble 1 j then (bif Nat.ble 2 j then (some (2, .getfield 50, 3, 6, 27, 0)) else (some (1, .aload_n 0, 2, 0, 0, 0))) else (some (0, .aload_n 0, 1, 0, 0, 0))))))
/-- MotionDeskModel.watch()I -/
def mr_Mo_watch (j : Nat) : Option mx_Row := bif Nat.ble 59 j then none else (bif Nat.ble 29 j then (bif Nat.ble 44 j then (bif Nat.ble 51 j then (bif Nat.ble 55 j then (bif Nat.ble 57 j then (bif Nat.ble 58 j then (some (105, .ireturn, 59, 0, 0, 0)) else (some (104, .iload_n 2, 58, 2, 0, 0))) else (bif Nat.ble 56 j then (some (101, .goto (-81), 12, 0, 0, 0)) else (some (98, .iinc 4 1, 56, 4, 0, 1)))) else (bif Nat.ble 53 j then (bif Nat.ble 54 j then (some (97, .istore_n 3, 55, 3, 0, 0)) else (some (95, .iload 5, 54, 5, 0, 0))) else (bif Nat.ble 52 j then (some (94, .istore_n 2, 53, 2, 0, 0)) else (some (92, .iload 4, 52, 4, 0, 0))))) else (bif Nat.ble 47 j then (bif Nat.ble 49 j then (bif Nat.ble 50 j then (some (89, .if_icmp .ge 9, 51, 55, 0, 0)) else (some (88, .iload_n 3, 50, 3, 0, 0))) else (bif Nat.ble 48 j then (some (86, .iload 5, 49, 5, 0, 0)) else (some (83, .ifCond .eq 15, 48, 55, 0, 0)))) else (bif Nat.ble 45 j then (bif Nat.ble 46 j then (some (80, .invokevirtual 253, 47, 141, 2, 0)) else (some (78, .iload 4, 46, 4, 0, 0))) else (some (77, .aload_n 0, 45, 0, 0, 0))))) else (bif Nat.ble 36 j then (bif Nat.ble 40 j then (bif Nat.ble 42 j then (bif Nat.ble 43 j then (some (75, .istore 5, 44, 5, 0, 0)) else (some (74, .isub, 43, 0, 0, 0))) else (bif Nat.ble 41 j then (some (73, .iaload, 42, 0, 0, 0)) else (some (71, .iload 4, 41, 4, 0, 0)))) else (bif Nat.ble 38 j then (bif Nat.ble 39 j then (some (68, .getfield 59, 40, 6, 31, 0)) else (some (67, .aload_n 0, 39, 0, 0, 0))) else (bif Nat.ble 37 j then (some (66, .iload_n 1, 38, 1, 0, 0)) else (some (63, .goto 12, 43, 0, 0, 0))))) else (bif Nat.ble 32 j then (bif Nat.ble 34 j then (bif Nat.ble 35 j then (some (62, .iaload, 36, 0, 0, 0)) else (some (60, .iload 4, 35, 4, 0, 0))) else (bif Nat.ble 33 j then (some (57, .getfield 59, 34, 6, 31, 0)) else (some (56, .aload_n 0, 33, 0, 0, 0)))) else (bif Nat.ble 30 j then (bif Nat.ble 31 j then (some (53, .if_icmp .le 13, 32, 37, 0, 0)) else (some (52, .isub, 31, 0, 0, 0))) else (some (51, .iaload, 30, 0, 0, 0)))))) else (bif Nat.ble 14 j then (bif Nat.ble 21 j then (bif Nat.ble 25 j then (bif Nat.ble 27 j then (bif Nat.ble 28 j then (some (49, .iload 4, 29, 4, 0, 0)) else (some (46, .getfield 59, 28, 6, 31, 0))) else (bif Nat.ble 26 j then (some (45, .aload_n 0, 27, 0, 0, 0)) else (some (44, .iload_n 1, 26, 1, 0, 0)))) else (bif Nat.ble 23 j then (bif Nat.ble 24 j then (some (43, .iaload, 25, 0, 0, 0)) else (some (41, .iload 4, 24, 4, 0, 0))) else (bif Nat.ble 22 j then (some (38, .getfield 59, 23, 6, 31, 0)) else (some (37, .aload_n 0, 22, 0, 0, 0))))) else (bif Nat.ble 17 j then (bif Nat.ble 19 j then (bif Nat.ble 20 j then (some (34, .if_icmp .le 70, 21, 57, 0, 0)) else (some (33, .iconst 1, 20, 0, 0, 1))) else (bif Nat.ble 18 j then (some (32, .iload_n 1, 19, 1, 0, 0)) else (some (29, .if_icmp .ge 75, 18, 57, 0, 0)))) else (bif Nat.ble 15 j then (bif Nat.ble 16 j then (some (28, .iaload, 17, 0, 0, 0)) else (some (26, .bipush 54, 16, 0, 0, 54))) else (some (23, .getfield 16, 15, 6, 13, 0))))) else (bif Nat.ble 7 j then (bif Nat.ble 10 j then (bif Nat.ble 12 j then (bif Nat.ble 13 j then (some (22, .aload_n 0, 14, 0, 0, 0)) else (some (20, .iload 4, 13, 4, 0, 0))) else (bif Nat.ble 11 j then (some (18, .istore 4, 12, 4, 0, 0)) else (some (17, .iconst 0, 11, 0, 0, 0)))) else (bif Nat.ble 8 j then (bif Nat.ble 9 j then (some (16, .istore_n 3, 10, 3, 0, 0)) else (some (13, .sipush 9999, 9, 0, 0, 9999))) else (some (12, .istore_n 2, 8, 2, 0, 0)))) else (bif Nat.ble 3 j then (bif Nat.ble 5 j then (bif Nat.ble 6 j then (some (10, .bipush (-9), 7, 0, 0, (-9))) else (some (9, .istore_n 1, 6, 1, 0, 0))) else (bif Nat.ble 4 j then (some (6, .invokevirtual 259, 5, 139, 1, 0)) else (some (5, .aload_n 0, 4, 0, 0, 0)))) else (bif Nat.ble 1 j then (bif Nat.ble 2 j then (some (2, .putfield 80, 3, 6, 0, 0)) else (some (1, .iconst 0, 2, 0, 0, 0))) else (some (0, .aload_n 0, 1, 0, 0, 0)))))))
/-- MotionDeskModel.keep(I)I -/
def mr_Mo_keep (j : Nat) : Option mx_Row := bif Nat.ble 39 j then none else (bif Nat.ble 19 j then (bif Nat.ble 29 j then (bif Nat.ble 34 j then (bif Nat.ble 36 j then (bif Nat.ble 37 j then (bif Nat.ble 38 j then (some (63, .ireturn, 39, 0, 0, 0)) else (some (62, .iaload, 38, 0, 0, 0))) else (some (60, .bipush 54, 37, 0, 0, 54))) else (bif Nat.ble 35 j then (some (57, .getfield 16, 36, 6, 13, 0)) else (some (56, .aload_n 0, 35, 0, 0, 0)))) else (bif Nat.ble 31 j then (bif Nat.ble 32 j then (bif Nat.ble 33 j then (some (55, .bastore, 34, 0, 0, 0)) else (some (54, .iconst 1, 33, 0, 0, 1))) else (some (53, .iload_n 1, 32, 1, 0, 0))) else (bif Nat.ble 30 j then (some (50, .getfield 28, 31, 6, 18, 0)) else (some (49, .aload_n 0, 30, 0, 0, 0))))) else (bif Nat.ble 24 j then (bif Nat.ble 26 j then (bif Nat.ble 27 j then (bif Nat.ble 28 j then (some (46, .goto (-28), 12, 0, 0, 0)) else (some (43, .iinc 2 1, 28, 2, 0, 1))) else (some (42, .iastore, 27, 0, 0, 0))) else (bif Nat.ble 25 j then (some (41, .iaload, 26, 0, 0, 0)) else (some (40, .iload_n 2, 25, 2, 0, 0)))) else (bif Nat.ble 21 j then (bif Nat.ble 22 j then (bif Nat.ble 23 j then (some (37, .getfield 16, 24, 6, 13, 0)) else (some (36, .aload_n 0, 23, 0, 0, 0))) else (some (35, .iadd, 22, 0, 0, 0))) else (bif Nat.ble 20 j then (some (34, .iload_n 2, 21, 2, 0, 0)) else (some (33, .imul, 20, 0, 0, 0)))))) else (bif Nat.ble 9 j then (bif Nat.ble 14 j then (bif Nat.ble 16 j then (bif Nat.ble 17 j then (bif Nat.ble 18 j then (some (32, .iload_n 1, 19, 1, 0, 0)) else (some (29, .sipush 244, 18, 0, 0, 244))) else (some (26, .getfield 25, 17, 6, 17, 0))) else (bif Nat.ble 15 j then (some (25, .aload_n 0, 16, 0, 0, 0)) else (some (22, .if_icmp .ge 27, 15, 29, 0, 0)))) else (bif Nat.ble 11 j then (bif Nat.ble 12 j then (bif Nat.ble 13 j then (some (19, .sipush 244, 14, 0, 0, 244)) else (some (18, .iload_n 2, 13, 2, 0, 0))) else (some (17, .istore_n 2, 12, 2, 0, 0))) else (bif Nat.ble 10 j then (some (16, .iconst 0, 11, 0, 0, 0)) else (some (15, .ireturn, 10, 0, 0, 0))))) else (bif Nat.ble 4 j then (bif Nat.ble 6 j then (bif Nat.ble 7 j then (bif Nat.ble 8 j then (some (14, .iconst (-1), 9, 0, 0, (-1))) else (some (11, .ifCond .ne 5, 8, 10, 0, 0))) else (some (8, .invokestatic 102, 7, 90, 3, 0))) else (bif Nat.ble 5 j then (some (7, .iconst 1, 6, 0, 0, 1)) else (some (6, .iconst 0, 5, 0, 0, 0)))) else (bif Nat.ble 2 j then (bif Nat.ble 3 j then (some (5, .iload_n 1, 4, 1, 0, 0)) else (some (2, .putfield 80, 3, 6, 0, 0))) else (bif Nat.ble 1 j then (some (1, .iconst 0, 2, 0, 0, 0)) else (some (0, .aload_n 0, 1, 0, 0, 0)))))))
/-- MotionDeskModel.back(I)I -/
def mr_Mo_back (j : Nat) : Option mx_Row := bif Nat.ble 44 j then none else (bif Nat.ble 22 j then (bif Nat.ble 33 j then (bif Nat.ble 38 j then (bif Nat.ble 41 j then (bif Nat.ble 42 j then (bif Nat.ble 43 j then (some (73, .ireturn, 44, 0, 0, 0)) else (some (72, .iaload, 43, 0, 0, 0))) else (some (70, .bipush 54, 42, 0, 0, 54))) else (bif Nat.ble 39 j then (bif Nat.ble 40 j then (some (67, .getfield 16, 41, 6, 13, 0)) else (some (66, .aload_n 0, 40, 0, 0, 0))) else (some (63, .putfield 170, 39, 6, 16, 0)))) else (bif Nat.ble 35 j then (bif Nat.ble 36 j then (bif Nat.ble 37 j then (some (62, .iconst 0, 38, 0, 0, 0)) else (some (61, .aload_n 0, 37, 0, 0, 0))) else (some (58, .goto (-28), 19, 0, 0, 0))) else (bif Nat.ble 34 j then (some (55, .iinc 2 1, 35, 2, 0, 1)) else (some (54, .iastore, 34, 0, 0, 0))))) else (bif Nat.ble 27 j then (bif Nat.ble 30 j then (bif Nat.ble 31 j then (bif Nat.ble 32 j then (some (53, .iaload, 33, 0, 0, 0)) else (some (52, .iadd, 32, 0, 0, 0))) else (some (51, .iload_n 2, 31, 2, 0, 0))) else (bif Nat.ble 28 j then (bif Nat.ble 29 j then (some (50, .imul, 30, 0, 0, 0)) else (some (49, .iload_n 1, 29, 1, 0, 0))) else (some (46, .sipush 244, 28, 0, 0, 244)))) else (bif Nat.ble 24 j then (bif Nat.ble 25 j then (bif Nat.ble 26 j then (some (43, .getfield 25, 27, 6, 17, 0)) else (some (42, .aload_n 0, 26, 0, 0, 0))) else (some (41, .iload_n 2, 25, 2, 0, 0))) else (bif Nat.ble 23 j then (some (38, .getfield 16, 24, 6, 13, 0)) else (some (37, .aload_n 0, 23, 0, 0, 0)))))) else (bif Nat.ble 11 j then (bif Nat.ble 16 j then (bif Nat.ble 19 j then (bif Nat.ble 20 j then (bif Nat.ble 21 j then (some (34, .if_icmp .ge 27, 22, 36, 0, 0)) else (some (31, .sipush 244, 21, 0, 0, 244))) else (some (30, .iload_n 2, 20, 2, 0, 0))) else (bif Nat.ble 17 j then (bif Nat.ble 18 j then (some (29, .istore_n 2, 19, 2, 0, 0)) else (some (28, .iconst 0, 18, 0, 0, 0))) else (some (27, .ireturn, 17, 0, 0, 0)))) else (bif Nat.ble 13 j then (bif Nat.ble 14 j then (bif Nat.ble 15 j then (some (25, .bipush (-2), 16, 0, 0, (-2))) else (some (22, .ifCond .ne 6, 15, 17, 0, 0))) else (some (21, .baload, 14, 0, 0, 0))) else (bif Nat.ble 12 j then (some (20, .iload_n 1, 13, 1, 0, 0)) else (some (17, .getfield 28, 12, 6, 18, 0))))) else (bif Nat.ble 5 j then (bif Nat.ble 8 j then (bif Nat.ble 9 j then (bif Nat.ble 10 j then (some (16, .aload_n 0, 11, 0, 0, 0)) else (some (15, .ireturn, 10, 0, 0, 0))) else (some (14, .iconst (-1), 9, 0, 0, (-1)))) else (bif Nat.ble 6 j then (bif Nat.ble 7 j then (some (11, .ifCond .ne 5, 8, 10, 0, 0)) else (some (8, .invokestatic 102, 7, 90, 3, 0))) else (some (7, .iconst 1, 6, 0, 0, 1)))) else (bif Nat.ble 2 j then (bif Nat.ble 3 j then (bif Nat.ble 4 j then (some (6, .iconst 0, 5, 0, 0, 0)) else (some (5, .iload_n 1, 4, 1, 0, 0))) else (some (2, .putfield 80, 3, 6, 0, 0))) else (bif Nat.ble 1 j then (some (1, .iconst 0, 2, 0, 0, 0)) else (some (0, .aload_n 0, 1, 0, 0, 0)))))))
/-- MotionDeskModel.count(I)I -/
def mr_Mo_count (j : Nat) : Option mx_Row := bif Nat.ble 40 j then none else (bif Nat.ble 20 j then (bif Nat.ble 30 j then (bif Nat.ble 35 j then (bif Nat.ble 37 j then (bif Nat.ble 38 j then (bif Nat.ble 39 j then (some (75, .ireturn, 40, 0, 0, 0)) else (some (74, .iconst (-1), 39, 0, 0, (-1)))) else (some (71, .goto 4, 39, 0, 0, 0))) else (bif Nat.ble 36 j then (some (68, .getfield 106, 37, 6, 2, 0)) else (some (67, .aload_n 0, 36, 0, 0, 0)))) else (bif Nat.ble 32 j then (bif Nat.ble 33 j then (bif Nat.ble 34 j then (some (64, .if_icmp .ne 10, 35, 38, 0, 0)) else (some (63, .iconst 4, 34, 0, 0, 4))) else (some (62, .iload_n 1, 33, 1, 0, 0))) else (bif Nat.ble 31 j then (some (59, .goto 16, 39, 0, 0, 0)) else (some (56, .getfield 167, 31, 6, 22, 0))))) else (bif Nat.ble 25 j then (bif Nat.ble 27 j then (bif Nat.ble 28 j then (bif Nat.ble 29 j then (some (55, .aload_n 0, 30, 0, 0, 0)) else (some (52, .if_icmp .ne 10, 29, 32, 0, 0))) else (some (51, .iconst 3, 28, 0, 0, 3))) else (bif Nat.ble 26 j then (some (50, .iload_n 1, 27, 1, 0, 0)) else (some (47, .goto 28, 39, 0, 0, 0)))) else (bif Nat.ble 22 j then (bif Nat.ble 23 j then (bif Nat.ble 24 j then (some (44, .invokestatic 83, 25, 82, 1, 0)) else (some (41, .getfield 157, 24, 6, 8, 0))) else (some (40, .aload_n 0, 23, 0, 0, 0))) else (bif Nat.ble 21 j then (some (37, .if_icmp .ne 13, 22, 26, 0, 0)) else (some (36, .iconst 2, 21, 0, 0, 2)))))) else (bif Nat.ble 10 j then (bif Nat.ble 15 j then (bif Nat.ble 17 j then (bif Nat.ble 18 j then (bif Nat.ble 19 j then (some (35, .iload_n 1, 20, 1, 0, 0)) else (some (34, .ireturn, 19, 0, 0, 0))) else (some (33, .iconst (-1), 18, 0, 0, (-1)))) else (bif Nat.ble 16 j then (some (30, .goto 4, 18, 0, 0, 0)) else (some (27, .getfield 160, 16, 6, 9, 0)))) else (bif Nat.ble 12 j then (bif Nat.ble 13 j then (bif Nat.ble 14 j then (some (26, .aload_n 0, 15, 0, 0, 0)) else (some (23, .if_icmp .ne 10, 14, 17, 0, 0))) else (some (22, .iconst 1, 13, 0, 0, 1))) else (bif Nat.ble 11 j then (some (21, .iload_n 1, 12, 1, 0, 0)) else (some (18, .goto 16, 18, 0, 0, 0))))) else (bif Nat.ble 5 j then (bif Nat.ble 7 j then (bif Nat.ble 8 j then (bif Nat.ble 9 j then (some (15, .getfield 157, 10, 6, 8, 0)) else (some (14, .aload_n 0, 9, 0, 0, 0))) else (some (11, .ifCond .ne 10, 8, 11, 0, 0))) else (bif Nat.ble 6 j then (some (10, .iload_n 1, 7, 1, 0, 0)) else (some (7, .if_icmp .ge 28, 6, 19, 0, 0)))) else (bif Nat.ble 2 j then (bif Nat.ble 3 j then (bif Nat.ble 4 j then (some (6, .iconst 2, 5, 0, 0, 2)) else (some (5, .iload_n 1, 4, 1, 0, 0))) else (some (2, .putfield 80, 3, 6, 0, 0))) else (bif Nat.ble 1 j then (some (1, .iconst 0, 2, 0, 0, 0)) else (some (0, .aload_n 0, 1, 0, 0, 0)))))))
/-- java/lang/Integer.bitCount(I)I -/
def mr_In_bitCount (j : Nat) : Option mx_Row := bif Nat.ble 42 j then none else (bif Nat.ble 21 j then (bif Nat.ble 31 j then (bif Nat.ble 36 j then (bif Nat.ble 39 j then (bif Nat.ble 40 j then (bif Nat.ble 41 j then (some (52, .ireturn, 42, 0, 0, 0)) else (some (51, .iand, 41, 0, 0, 0))) else (some (49, .bipush 63, 40, 0, 0, 63))) else (bif Nat.ble 37 j then (bif Nat.ble 38 j then (some (48, .iload_n 0, 39, 0, 0, 0)) else (some (47, .istore_n 0, 38, 0, 0, 0))) else (some (46, .iadd, 37, 0, 0, 0)))) else (bif Nat.ble 33 j then (bif Nat.ble 34 j then (bif Nat.ble 35 j then (some (45, .iushr, 36, 0, 0, 0)) else (some (43, .bipush 16, 35, 0, 0, 16))) else (some (42, .iload_n 0, 34, 0, 0, 0))) else (bif Nat.ble 32 j then (some (41, .iload_n 0, 33, 0, 0, 0)) else (some (40, .istore_n 0, 32, 0, 0, 0))))) else (bif Nat.ble 26 j then (bif Nat.ble 28 j then (bif Nat.ble 29 j then (bif Nat.ble 30 j then (some (39, .iadd, 31, 0, 0, 0)) else (some (38, .iushr, 30, 0, 0, 0))) else (some (36, .bipush 8, 29, 0, 0, 8))) else (bif Nat.ble 27 j then (some (35, .iload_n 0, 28, 0, 0, 0)) else (some (34, .iload_n 0, 27, 0, 0, 0)))) else (bif Nat.ble 23 j then (bif Nat.ble 24 j then (bif Nat.ble 25 j then (some (33, .istore_n 0, 26, 0, 0, 0)) else (some (32, .iand, 25, 0, 0, 0))) else (some (29, .ldc_w 267, 24, 0, 0, 252645135))) else (bif Nat.ble 22 j then (some (28, .iadd, 23, 0, 0, 0)) else (some (27, .iushr, 22, 0, 0, 0)))))) else (bif Nat.ble 10 j then (bif Nat.ble 15 j then (bif Nat.ble 18 j then (bif Nat.ble 19 j then (bif Nat.ble 20 j then (some (26, .iconst 4, 21, 0, 0, 4)) else (some (25, .iload_n 0, 20, 0, 0, 0))) else (some (24, .iload_n 0, 19, 0, 0, 0))) else (bif Nat.ble 16 j then (bif Nat.ble 17 j then (some (23, .istore_n 0, 18, 0, 0, 0)) else (some (22, .iadd, 17, 0, 0, 0))) else (some (21, .iand, 16, 0, 0, 0)))) else (bif Nat.ble 12 j then (bif Nat.ble 13 j then (bif Nat.ble 14 j then (some (18, .ldc_w 266, 15, 0, 0, 858993459)) else (some (17, .iushr, 14, 0, 0, 0))) else (some (16, .iconst 2, 13, 0, 0, 2))) else (bif Nat.ble 11 j then (some (15, .iload_n 0, 12, 0, 0, 0)) else (some (14, .iand, 11, 0, 0, 0))))) else (bif Nat.ble 5 j then (bif Nat.ble 7 j then (bif Nat.ble 8 j then (bif Nat.ble 9 j then (some (11, .ldc_w 266, 10, 0, 0, 858993459)) else (some (10, .iload_n 0, 9, 0, 0, 0))) else (some (9, .istore_n 0, 8, 0, 0, 0))) else (bif Nat.ble 6 j then (some (8, .isub, 7, 0, 0, 0)) else (some (7, .iand, 6, 0, 0, 0)))) else (bif Nat.ble 2 j then (bif Nat.ble 3 j then (bif Nat.ble 4 j then (some (4, .ldc_w 265, 5, 0, 0, 1431655765)) else (some (3, .iushr, 4, 0, 0, 0))) else (some (2, .iconst 1, 3, 0, 0, 1))) else (bif Nat.ble 1 j then (some (1, .iload_n 0, 2, 0, 0, 0)) else (some (0, .iload_n 0, 1, 0, 0, 0)))))))
/-- java/lang/Integer.numberOfTrailingZeros(I)I -/
def mr_In_numberOfTrailingZeros (j : Nat) : Option mx_Row := bif Nat.ble 54 j then none else (bif Nat.ble 27 j then (bif Nat.ble 40 j then (bif Nat.ble 47 j then (bif Nat.ble 50 j then (bif Nat.ble 52 j then (bif Nat.ble 53 j then (some (79, .ireturn, 54, 0, 0, 0)) else (some (78, .iadd, 53, 0, 0, 0))) else (bif Nat.ble 51 j then (some (77, .iushr, 52, 0, 0, 0)) else (some (76, .iconst 1, 51, 0, 0, 1)))) else (bif Nat.ble 48 j then (bif Nat.ble 49 j then (some (75, .iload_n 0, 50, 0, 0, 0)) else (some (74, .iload_n 1, 49, 1, 0, 0))) else (some (73, .istore_n 0, 48, 0, 0, 0)))) else (bif Nat.ble 43 j then (bif Nat.ble 45 j then (bif Nat.ble 46 j then (some (72, .iushr, 47, 0, 0, 0)) else (some (71, .iconst 2, 46, 0, 0, 2))) else (bif Nat.ble 44 j then (some (70, .iload_n 0, 45, 0, 0, 0)) else (some (67, .iinc 1 2, 44, 1, 0, 2)))) else (bif Nat.ble 41 j then (bif Nat.ble 42 j then (some (64, .if_icmp .le 10, 43, 48, 0, 0)) else (some (63, .iconst 4, 42, 0, 0, 4))) else (some (62, .iload_n 0, 41, 0, 0, 0))))) else (bif Nat.ble 33 j then (bif Nat.ble 36 j then (bif Nat.ble 38 j then (bif Nat.ble 39 j then (some (61, .istore_n 0, 40, 0, 0, 0)) else (some (60, .iushr, 39, 0, 0, 0))) else (bif Nat.ble 37 j then (some (59, .iconst 4, 38, 0, 0, 4)) else (some (58, .iload_n 0, 37, 0, 0, 0)))) else (bif Nat.ble 34 j then (bif Nat.ble 35 j then (some (55, .iinc 1 4, 36, 1, 0, 4)) else (some (52, .if_icmp .le 10, 35, 40, 0, 0))) else (some (50, .bipush 16, 34, 0, 0, 16)))) else (bif Nat.ble 30 j then (bif Nat.ble 31 j then (bif Nat.ble 32 j then (some (49, .iload_n 0, 33, 0, 0, 0)) else (some (48, .istore_n 0, 32, 0, 0, 0))) else (some (47, .iushr, 31, 0, 0, 0))) else (bif Nat.ble 28 j then (bif Nat.ble 29 j then (some (45, .bipush 8, 30, 0, 0, 8)) else (some (44, .iload_n 0, 29, 0, 0, 0))) else (some (41, .iinc 1 8, 28, 1, 0, 8)))))) else (bif Nat.ble 13 j then (bif Nat.ble 20 j then (bif Nat.ble 23 j then (bif Nat.ble 25 j then (bif Nat.ble 26 j then (some (38, .if_icmp .le 11, 27, 32, 0, 0)) else (some (35, .sipush 256, 26, 0, 0, 256))) else (bif Nat.ble 24 j then (some (34, .iload_n 0, 25, 0, 0, 0)) else (some (33, .istore_n 0, 24, 0, 0, 0)))) else (bif Nat.ble 21 j then (bif Nat.ble 22 j then (some (32, .iushr, 23, 0, 0, 0)) else (some (30, .bipush 16, 22, 0, 0, 16))) else (some (29, .iload_n 0, 21, 0, 0, 0)))) else (bif Nat.ble 16 j then (bif Nat.ble 18 j then (bif Nat.ble 19 j then (some (26, .iinc 1 16, 20, 1, 0, 16)) else (some (23, .if_icmp .le 11, 19, 24, 0, 0))) else (bif Nat.ble 17 j then (some (20, .ldc_w 264, 18, 0, 0, 65536)) else (some (19, .iload_n 0, 17, 0, 0, 0)))) else (bif Nat.ble 14 j then (bif Nat.ble 15 j then (some (18, .istore_n 1, 16, 1, 0, 0)) else (some (17, .iconst 1, 15, 0, 0, 1))) else (some (16, .ireturn, 14, 0, 0, 0))))) else (bif Nat.ble 6 j then (bif Nat.ble 9 j then (bif Nat.ble 11 j then (bif Nat.ble 12 j then (some (15, .iand, 13, 0, 0, 0)) else (some (13, .bipush 32, 12, 0, 0, 32))) else (bif Nat.ble 10 j then (some (12, .iload_n 0, 11, 0, 0, 0)) else (some (9, .ifCond .gt 8, 10, 14, 0, 0)))) else (bif Nat.ble 7 j then (bif Nat.ble 8 j then (some (8, .iload_n 0, 9, 0, 0, 0)) else (some (7, .istore_n 0, 8, 0, 0, 0))) else (some (6, .iand, 7, 0, 0, 0)))) else (bif Nat.ble 3 j then (bif Nat.ble 4 j then (bif Nat.ble 5 j then (some (5, .isub, 6, 0, 0, 0)) else (some (4, .iconst 1, 5, 0, 0, 1))) else (some (3, .iload_n 0, 4, 0, 0, 0))) else (bif Nat.ble 1 j then (bif Nat.ble 2 j then (some (2, .ixor, 3, 0, 0, 0)) else (some (1, .iconst (-1), 2, 0, 0, (-1)))) else (some (0, .iload_n 0, 1, 0, 0, 0)))))))
/-- java/util/Arrays.fill([II)V -/
def mr_Ar_fill (j : Nat) : Option mx_Row := bif Nat.ble 15 j then none else (bif Nat.ble 7 j then (bif Nat.ble 11 j then (bif Nat.ble 13 j then (bif Nat.ble 14 j then (some (20, .return_, 15, 0, 0, 0)) else (some (17, .goto (-12), 5, 0, 0, 0))) else (bif Nat.ble 12 j then (some (14, .iinc 2 1, 13, 2, 0, 1)) else (some (13, .iastore, 12, 0, 0, 0)))) else (bif Nat.ble 9 j then (bif Nat.ble 10 j then (some (12, .iload_n 1, 11, 1, 0, 0)) else (some (11, .iload_n 2, 10, 2, 0, 0))) else (bif Nat.ble 8 j then (some (10, .aload_n 0, 9, 0, 0, 0)) else (some (7, .if_icmp .ge 13, 8, 14, 0, 0))))) else (bif Nat.ble 3 j then (bif Nat.ble 5 j then (bif Nat.ble 6 j then (some (6, .iload_n 3, 7, 3, 0, 0)) else (some (5, .iload_n 2, 6, 2, 0, 0))) else (bif Nat.ble 4 j then (some (4, .istore_n 3, 5, 3, 0, 0)) else (some (3, .arraylength, 4, 0, 0, 0)))) else (bif Nat.ble 1 j then (bif Nat.ble 2 j then (some (2, .aload_n 0, 3, 0, 0, 0)) else (some (1, .istore_n 2, 2, 2, 0, 0))) else (some (0, .iconst 0, 1, 0, 0, 0)))))
def mx_row (mi j : Nat) : Option mx_Row := bif Nat.ble 150 mi then none else (bif Nat.ble 75 mi then (bif Nat.ble 112 mi then (bif Nat.ble 131 mi then (bif Nat.ble 140 mi then (bif Nat.ble 145 mi then (bif Nat.ble 147 mi then (bif Nat.ble 148 mi then (bif Nat.ble 149 mi then (mr_Ar_fill j) else (mr_In_numberOfTrailingZeros j)) else (mr_In_bitCount j)) else (bif Nat.ble 146 mi then (mr_Mo_count j) else (mr_Mo_back j))) else (bif Nat.ble 142 mi then (bif Nat.ble 143 mi then (bif Nat.ble 144 mi then (mr_Mo_keep j) else (mr_Mo_watch j)) else (mr_Mo_branchAt j)) else (bif Nat.ble 141 mi then (mr_Mo_isVote j) else (mr_Mo_isAsSeen j)))) else (bif Nat.ble 135 mi then (bif Nat.ble 137 mi then (bif Nat.ble 138 mi then (bif Nat.ble 139 mi then (mr_Mo_rankingMany j) else (mr_Mo_rankings j)) else (mr_Mo_forget j)) else (bif Nat.ble 136 mi then (mr_Mo_sees j) else (mr_Mo_gcd j))) else (bif Nat.ble 133 mi then (bif Nat.ble 134 mi then (mr_Mo_odds j) else (mr_Mo_putsFirst j)) else (bif Nat.ble 132 mi then (mr_Mo_won j) else (mr_Mo_tells j))))) else (bif Nat.ble 121 mi then (bif Nat.ble 126 mi then (bif Nat.ble 128 mi then (bif Nat.ble 129 mi then (bif Nat.ble 130 mi then (mr_Mo_better j) else (mr_Mo_isWay j)) else (mr_Mo_reach j)) else (bif Nat.ble 127 mi then (mr_Mo_order j) else (mr_Mo_undo j))) else (bif Nat.ble 123 mi then (bif Nat.ble 124 mi then (bif Nat.ble 125 mi then (mr_Mo_sets j) else (mr_Mo_swaps j)) else (mr_Mo_notes j)) else (bif Nat.ble 122 mi then (mr_Mo_ranks j) else (mr_Mo_isTop j)))) else (bif Nat.ble 116 mi then (bif Nat.ble 118 mi then (bif Nat.ble 119 mi then (bif Nat.ble 120 mi then (mr_Mo_top j) else (mr_Mo_outcome j)) else (mr_Mo_now j)) else (bif Nat.ble 117 mi then (mr_Mo_votes j) else (mr_Mo_placeOf j))) else (bif Nat.ble 114 mi then (bif Nat.ble 115 mi then (mr_Mo_votesOf j) else (mr_Mo_beatsBy j)) else (bif Nat.ble 113 mi then (mr_Mo_foreseen j) else (mr_Mo_ones j)))))) else (bif Nat.ble 93 mi then (bif Nat.ble 102 mi then (bif Nat.ble 107 mi then (bif Nat.ble 109 mi then (bif Nat.ble 110 mi then (bif Nat.ble 111 mi then (mr_Mo_branchOf j) else (mr_Mo_votesFirst j)) else (mr_Mo_sincere j)) else (bif Nat.ble 108 mi then (mr_Mo_setsOf j) else (mr_Mo_all j))) else (bif Nat.ble 104 mi then (bif Nat.ble 105 mi then (bif Nat.ble 106 mi then (mr_Mo_isNode j) else (mr_Mo_node j)) else (mr_Mo_isMotion j)) else (bif Nat.ble 103 mi then (mr_Mo_isMember j) else (mr_Mo_ranking j)))) else (bif Nat.ble 97 mi then (bif Nat.ble 99 mi then (bif Nat.ble 100 mi then (bif Nat.ble 101 mi then (mr_Mo_readsAgenda j) else (mr_Mo_isMotionSign j)) else (mr_Mo_readsRanking j)) else (bif Nat.ble 98 mi then (mr_Mo_takes j) else (mr_Mo_mayBegin j))) else (bif Nat.ble 95 mi then (bif Nat.ble 96 mi then (mr_Mo_isWell j) else (mr_Mo_isSign j)) else (bif Nat.ble 94 mi then (mr_Mo_letterAt j) else (mr_Mo_advances j))))) else (bif Nat.ble 84 mi then (bif Nat.ble 88 mi then (bif Nat.ble 90 mi then (bif Nat.ble 91 mi then (bif Nat.ble 92 mi then (mr_Mo_desk j) else (mr_Mo_clear j)) else (mr_Mo_in j)) else (bif Nat.ble 89 mi then (mr_Mo_type j) else (mr_Mo_copies j))) else (bif Nat.ble 86 mi then (bif Nat.ble 87 mi then (mr_Mo_settles j) else (mr_Mo_comesTo j)) else (bif Nat.ble 85 mi then (mr_Mo_piles j) else (mr_Mo_lays j)))) else (bif Nat.ble 79 mi then (bif Nat.ble 81 mi then (bif Nat.ble 82 mi then (bif Nat.ble 83 mi then (mr_Mo_has j) else (mr_Mo_orders j)) else (mr_Mo_orderOf j)) else (bif Nat.ble 80 mi then (mr_Mo_begins j) else (mr_De_count j))) else (bif Nat.ble 77 mi then (bif Nat.ble 78 mi then (mr_De_back j) else (mr_De_keep j)) else (bif Nat.ble 76 mi then (mr_De_countFirsts j) else (mr_De_watch j))))))) else (bif Nat.ble 37 mi then (bif Nat.ble 56 mi then (bif Nat.ble 65 mi then (bif Nat.ble 70 mi then (bif Nat.ble 72 mi then (bif Nat.ble 73 mi then (bif Nat.ble 74 mi then (mr_De_rankings j) else (mr_De_forget j)) else (mr_De_sees j)) else (bif Nat.ble 71 mi then (mr_De_commonDivisor j) else (mr_De_power j))) else (bif Nat.ble 67 mi then (bif Nat.ble 68 mi then (bif Nat.ble 69 mi then (mr_De_odds j) else (mr_De_won j)) else (mr_De_better j)) else (bif Nat.ble 66 mi then (mr_De_foreseenOfRow j) else (mr_De_sincereOfRow j)))) else (bif Nat.ble 60 mi then (bif Nat.ble 62 mi then (bif Nat.ble 63 mi then (bif Nat.ble 64 mi then (mr_De_outcomeOfRow j) else (mr_De_isWay j)) else (mr_De_reach j)) else (bif Nat.ble 61 mi then (mr_De_order j) else (mr_De_undo j))) else (bif Nat.ble 58 mi then (bif Nat.ble 59 mi then (mr_De_orders j) else (mr_De_isOrder j)) else (bif Nat.ble 57 mi then (mr_De_sets j) else (mr_De_swaps j))))) else (bif Nat.ble 46 mi then (bif Nat.ble 51 mi then (bif Nat.ble 53 mi then (bif Nat.ble 54 mi then (bif Nat.ble 55 mi then (mr_De_remember j) else (mr_De_ranks j)) else (mr_De_beatsAllOthers j)) else (bif Nat.ble 52 mi then (mr_De_beatsTheRest j) else (mr_De_top j))) else (bif Nat.ble 48 mi then (bif Nat.ble 49 mi then (bif Nat.ble 50 mi then (mr_De_now j) else (mr_De_votes j)) else (mr_De_everyone j)) else (bif Nat.ble 47 mi then (mr_De_node j) else (mr_De_isMotion j)))) else (bif Nat.ble 41 mi then (bif Nat.ble 43 mi then (bif Nat.ble 44 mi then (bif Nat.ble 45 mi then (mr_De_isMember j) else (mr_De_ranking j)) else (mr_De_within j)) else (bif Nat.ble 42 mi then (mr_De_desk j) else (mr_De_clear j))) else (bif Nat.ble 39 mi then (bif Nat.ble 40 mi then (mr_De_type j) else (mr_De_likesFirst j)) else (bif Nat.ble 38 mi then (mr_De_settle j) else (mr_De_layOrder j)))))) else (bif Nat.ble 18 mi then (bif Nat.ble 27 mi then (bif Nat.ble 32 mi then (bif Nat.ble 34 mi then (bif Nat.ble 35 mi then (bif Nat.ble 36 mi then (mr_Tr_votesFirst j) else (mr_Tr_second j)) else (mr_Tr_first j)) else (bif Nat.ble 33 mi then (mr_Tr_isVote j) else (mr_Tr_measure j))) else (bif Nat.ble 29 mi then (bif Nat.ble 30 mi then (bif Nat.ble 31 mi then (mr_Te_readBranch j) else (mr_Te_motionOfSign j)) else (mr_Te_readRanking j)) else (bif Nat.ble 28 mi then (mr_Te_readMotions j) else (mr_Te_readItem j)))) else (bif Nat.ble 22 mi then (bif Nat.ble 24 mi then (bif Nat.ble 25 mi then (bif Nat.ble 26 mi then (mr_Te_takeNumber j) else (mr_Te_isDigit j)) else (mr_Te_take j)) else (bif Nat.ble 23 mi then (mr_Te_read j) else (mr_Te_append j))) else (bif Nat.ble 20 mi then (bif Nat.ble 21 mi then (mr_Si_agree j) else (mr_Si_add j)) else (bif Nat.ble 19 mi then (mr_Pi_layWithFirst j) else (mr_Pi_placeOf j))))) else (bif Nat.ble 9 mi then (bif Nat.ble 13 mi then (bif Nat.ble 15 mi then (bif Nat.ble 16 mi then (bif Nat.ble 17 mi then (mr_Pi_turn j) else (mr_Pi_exchange j)) else (mr_Pi_copy j)) else (bif Nat.ble 14 mi then (mr_Pi_addNode j) else (mr_Pi_grow j))) else (bif Nat.ble 11 mi then (bif Nat.ble 12 mi then (mr_Pi_plant j) else (mr_Pi_empty j)) else (bif Nat.ble 10 mi then (mr_Ba_mix j) else (mr_Ba_copy j)))) else (bif Nat.ble 4 mi then (bif Nat.ble 6 mi then (bif Nat.ble 7 mi then (bif Nat.ble 8 mi then (mr_Ba_outcome j) else (mr_Ba_beats j)) else (mr_Ba_stronger j)) else (bif Nat.ble 5 mi then (mr_Ba_foreseen j) else (mr_Ba_sincere j))) else (bif Nat.ble 2 mi then (bif Nat.ble 3 mi then (mr_Ba_castAbove j) else (mr_Ba_castSincere j)) else (bif Nat.ble 1 mi then (mr_Ba_cast j) else (mr_Ba_castAll j))))))))
def mx_n (j : Nat) : Nat := bif Nat.ble 150 j then 0 else (bif Nat.ble 75 j then (bif Nat.ble 112 j then (bif Nat.ble 131 j then (bif Nat.ble 140 j then (bif Nat.ble 145 j then (bif Nat.ble 147 j then (bif Nat.ble 148 j then (bif Nat.ble 149 j then (15) else (54)) else (42)) else (bif Nat.ble 146 j then (40) else (44))) else (bif Nat.ble 142 j then (bif Nat.ble 143 j then (bif Nat.ble 144 j then (39) else (59)) else (24)) else (bif Nat.ble 141 j then (16) else (36)))) else (bif Nat.ble 135 j then (bif Nat.ble 137 j then (bif Nat.ble 138 j then (bif Nat.ble 139 j then (77) else (20)) else (11)) else (bif Nat.ble 136 j then (77) else (19))) else (bif Nat.ble 133 j then (bif Nat.ble 134 j then (101) else (33)) else (bif Nat.ble 132 j then (84) else (25))))) else (bif Nat.ble 121 j then (bif Nat.ble 126 j then (bif Nat.ble 128 j then (bif Nat.ble 129 j then (bif Nat.ble 130 j then (107) else (5)) else (68)) else (bif Nat.ble 127 j then (28) else (37))) else (bif Nat.ble 123 j then (bif Nat.ble 124 j then (bif Nat.ble 125 j then (32) else (140)) else (51)) else (bif Nat.ble 122 j then (65) else (43)))) else (bif Nat.ble 116 j then (bif Nat.ble 118 j then (bif Nat.ble 119 j then (bif Nat.ble 120 j then (36) else (12)) else (60)) else (bif Nat.ble 117 j then (25) else (15))) else (bif Nat.ble 114 j then (bif Nat.ble 115 j then (34) else (50)) else (bif Nat.ble 113 j then (72) else (16)))))) else (bif Nat.ble 93 j then (bif Nat.ble 102 j then (bif Nat.ble 107 j then (bif Nat.ble 109 j then (bif Nat.ble 110 j then (bif Nat.ble 111 j then (31) else (46)) else (43)) else (bif Nat.ble 108 j then (47) else (9))) else (bif Nat.ble 104 j then (bif Nat.ble 105 j then (bif Nat.ble 106 j then (10) else (91)) else (8)) else (bif Nat.ble 103 j then (8) else (22)))) else (bif Nat.ble 97 j then (bif Nat.ble 99 j then (bif Nat.ble 100 j then (bif Nat.ble 101 j then (142) else (19)) else (57)) else (bif Nat.ble 98 j then (20) else (35))) else (bif Nat.ble 95 j then (bif Nat.ble 96 j then (7) else (21)) else (bif Nat.ble 94 j then (11) else (114))))) else (bif Nat.ble 84 j then (bif Nat.ble 88 j then (bif Nat.ble 90 j then (bif Nat.ble 91 j then (bif Nat.ble 92 j then (113) else (11)) else (10)) else (bif Nat.ble 89 j then (31) else (14))) else (bif Nat.ble 86 j then (bif Nat.ble 87 j then (33) else (43)) else (bif Nat.ble 85 j then (45) else (95)))) else (bif Nat.ble 79 j then (bif Nat.ble 81 j then (bif Nat.ble 82 j then (bif Nat.ble 83 j then (11) else (15)) else (58)) else (bif Nat.ble 80 j then (19) else (23))) else (bif Nat.ble 77 j then (bif Nat.ble 78 j then (31) else (25)) else (bif Nat.ble 76 j then (67) else (49))))))) else (bif Nat.ble 37 j then (bif Nat.ble 56 j then (bif Nat.ble 65 j then (bif Nat.ble 70 j then (bif Nat.ble 72 j then (bif Nat.ble 73 j then (bif Nat.ble 74 j then (46) else (10)) else (50)) else (bif Nat.ble 71 j then (25) else (16))) else (bif Nat.ble 67 j then (bif Nat.ble 68 j then (bif Nat.ble 69 j then (106) else (93)) else (122)) else (bif Nat.ble 66 j then (67) else (42)))) else (bif Nat.ble 60 j then (bif Nat.ble 62 j then (bif Nat.ble 63 j then (bif Nat.ble 64 j then (8) else (4)) else (50)) else (bif Nat.ble 61 j then (22) else (24))) else (bif Nat.ble 58 j then (bif Nat.ble 59 j then (6) else (5)) else (bif Nat.ble 57 j then (26) else (34))))) else (bif Nat.ble 46 j then (bif Nat.ble 51 j then (bif Nat.ble 53 j then (bif Nat.ble 54 j then (bif Nat.ble 55 j then (49) else (32)) else (12)) else (bif Nat.ble 52 j then (49) else (30))) else (bif Nat.ble 48 j then (bif Nat.ble 49 j then (bif Nat.ble 50 j then (35) else (24)) else (8)) else (bif Nat.ble 47 j then (78) else (6)))) else (bif Nat.ble 41 j then (bif Nat.ble 43 j then (bif Nat.ble 44 j then (bif Nat.ble 45 j then (6) else (20)) else (9)) else (bif Nat.ble 42 j then (52) else (10))) else (bif Nat.ble 39 j then (bif Nat.ble 40 j then (22) else (37)) else (bif Nat.ble 38 j then (13) else (53)))))) else (bif Nat.ble 18 j then (bif Nat.ble 27 j then (bif Nat.ble 32 j then (bif Nat.ble 34 j then (bif Nat.ble 35 j then (bif Nat.ble 36 j then (17) else (11)) else (4)) else (bif Nat.ble 33 j then (10) else (80))) else (bif Nat.ble 29 j then (bif Nat.ble 30 j then (bif Nat.ble 31 j then (49) else (16)) else (55)) else (bif Nat.ble 28 j then (23) else (37)))) else (bif Nat.ble 22 j then (bif Nat.ble 24 j then (bif Nat.ble 25 j then (bif Nat.ble 26 j then (60) else (10)) else (59)) else (bif Nat.ble 23 j then (38) else (17))) else (bif Nat.ble 20 j then (bif Nat.ble 21 j then (33) else (29)) else (bif Nat.ble 19 j then (36) else (23))))) else (bif Nat.ble 9 j then (bif Nat.ble 13 j then (bif Nat.ble 15 j then (bif Nat.ble 16 j then (bif Nat.ble 17 j then (37) else (29)) else (33)) else (bif Nat.ble 14 j then (17) else (31))) else (bif Nat.ble 11 j then (bif Nat.ble 12 j then (11) else (10)) else (bif Nat.ble 10 j then (53) else (21)))) else (bif Nat.ble 4 j then (bif Nat.ble 6 j then (bif Nat.ble 7 j then (bif Nat.ble 8 j then (14) else (30)) else (13)) else (bif Nat.ble 5 j then (49) else (42))) else (bif Nat.ble 2 j then (bif Nat.ble 3 j then (55) else (39)) else (bif Nat.ble 1 j then (14) else (30))))))))
def mx_code (j : Nat) : ByteArray := bif Nat.ble 75 j then (bif Nat.ble 112 j then (bif Nat.ble 131 j then (bif Nat.ble 140 j then (bif Nat.ble 145 j then (bif Nat.ble 147 j then (bif Nat.ble 148 j then (bif Nat.ble 149 j then (prog_12_method_103_code) else (prog_9_method_48_code)) else (prog_9_method_49_code)) else (bif Nat.ble 146 j then (prog_8_method_69_code) else (prog_8_method_68_code))) else (bif Nat.ble 142 j then (bif Nat.ble 143 j then (bif Nat.ble 144 j then (prog_8_method_67_code) else (prog_8_method_66_code)) else (prog_8_method_62_code)) else (bif Nat.ble 141 j then (prog_8_method_61_code) else (prog_8_method_63_code)))) else (bif Nat.ble 135 j then (bif Nat.ble 137 j then (bif Nat.ble 138 j then (bif Nat.ble 139 j then (prog_8_method_64_code) else (prog_8_method_65_code)) else (prog_8_method_60_code)) else (bif Nat.ble 136 j then (prog_8_method_59_code) else (prog_8_method_57_code))) else (bif Nat.ble 133 j then (bif Nat.ble 134 j then (prog_8_method_58_code) else (prog_8_method_55_code)) else (bif Nat.ble 132 j then (prog_8_method_56_code) else (prog_8_method_53_code))))) else (bif Nat.ble 121 j then (bif Nat.ble 126 j then (bif Nat.ble 128 j then (bif Nat.ble 129 j then (bif Nat.ble 130 j then (prog_8_method_54_code) else (prog_8_method_51_code)) else (prog_8_method_52_code)) else (bif Nat.ble 127 j then (prog_8_method_50_code) else (prog_8_method_49_code))) else (bif Nat.ble 123 j then (bif Nat.ble 124 j then (bif Nat.ble 125 j then (prog_8_method_48_code) else (prog_8_method_47_code)) else (prog_8_method_45_code)) else (bif Nat.ble 122 j then (prog_8_method_46_code) else (prog_8_method_42_code)))) else (bif Nat.ble 116 j then (bif Nat.ble 118 j then (bif Nat.ble 119 j then (bif Nat.ble 120 j then (prog_8_method_43_code) else (prog_8_method_38_code)) else (prog_8_method_44_code)) else (bif Nat.ble 117 j then (prog_8_method_41_code) else (prog_8_method_29_code))) else (bif Nat.ble 114 j then (bif Nat.ble 115 j then (prog_8_method_30_code) else (prog_8_method_32_code)) else (bif Nat.ble 113 j then (prog_8_method_37_code) else (prog_8_method_5_code)))))) else (bif Nat.ble 93 j then (bif Nat.ble 102 j then (bif Nat.ble 107 j then (bif Nat.ble 109 j then (bif Nat.ble 110 j then (bif Nat.ble 111 j then (prog_8_method_34_code) else (prog_8_method_35_code)) else (prog_8_method_36_code)) else (bif Nat.ble 108 j then (prog_8_method_33_code) else (prog_8_method_31_code))) else (bif Nat.ble 104 j then (bif Nat.ble 105 j then (bif Nat.ble 106 j then (prog_8_method_28_code) else (prog_8_method_40_code)) else (prog_8_method_26_code)) else (bif Nat.ble 103 j then (prog_8_method_27_code) else (prog_8_method_39_code)))) else (bif Nat.ble 97 j then (bif Nat.ble 99 j then (bif Nat.ble 100 j then (bif Nat.ble 101 j then (prog_8_method_21_code) else (prog_8_method_19_code)) else (prog_8_method_20_code)) else (bif Nat.ble 98 j then (prog_8_method_17_code) else (prog_8_method_22_code))) else (bif Nat.ble 95 j then (bif Nat.ble 96 j then (prog_8_method_16_code) else (prog_8_method_14_code)) else (bif Nat.ble 94 j then (prog_8_method_13_code) else (prog_8_method_15_code))))) else (bif Nat.ble 84 j then (bif Nat.ble 88 j then (bif Nat.ble 90 j then (bif Nat.ble 91 j then (bif Nat.ble 92 j then (prog_8_method_23_code) else (prog_8_method_12_code)) else (prog_8_method_3_code)) else (bif Nat.ble 89 j then (prog_8_method_11_code) else (prog_8_method_25_code))) else (bif Nat.ble 86 j then (bif Nat.ble 87 j then (prog_8_method_24_code) else (prog_8_method_9_code)) else (bif Nat.ble 85 j then (prog_8_method_8_code) else (prog_8_method_10_code)))) else (bif Nat.ble 79 j then (bif Nat.ble 81 j then (bif Nat.ble 82 j then (bif Nat.ble 83 j then (prog_8_method_4_code) else (prog_8_method_6_code)) else (prog_8_method_7_code)) else (bif Nat.ble 80 j then (prog_8_method_18_code) else (prog_1_method_24_code))) else (bif Nat.ble 77 j then (bif Nat.ble 78 j then (prog_1_method_23_code) else (prog_1_method_22_code)) else (bif Nat.ble 76 j then (prog_1_method_42_code) else (prog_1_method_21_code))))))) else (bif Nat.ble 37 j then (bif Nat.ble 56 j then (bif Nat.ble 65 j then (bif Nat.ble 70 j then (bif Nat.ble 72 j then (bif Nat.ble 73 j then (bif Nat.ble 74 j then (prog_1_method_20_code) else (prog_1_method_19_code)) else (prog_1_method_18_code)) else (bif Nat.ble 71 j then (prog_1_method_44_code) else (prog_1_method_43_code))) else (bif Nat.ble 67 j then (bif Nat.ble 68 j then (bif Nat.ble 69 j then (prog_1_method_17_code) else (prog_1_method_16_code)) else (prog_1_method_15_code)) else (bif Nat.ble 66 j then (prog_1_method_41_code) else (prog_1_method_40_code)))) else (bif Nat.ble 60 j then (bif Nat.ble 62 j then (bif Nat.ble 63 j then (bif Nat.ble 64 j then (prog_1_method_39_code) else (prog_1_method_28_code)) else (prog_1_method_14_code)) else (bif Nat.ble 61 j then (prog_1_method_13_code) else (prog_1_method_12_code))) else (bif Nat.ble 58 j then (bif Nat.ble 59 j then (prog_1_method_30_code) else (prog_1_method_29_code)) else (bif Nat.ble 57 j then (prog_1_method_11_code) else (prog_1_method_10_code))))) else (bif Nat.ble 46 j then (bif Nat.ble 51 j then (bif Nat.ble 53 j then (bif Nat.ble 54 j then (bif Nat.ble 55 j then (prog_1_method_33_code) else (prog_1_method_9_code)) else (prog_1_method_38_code)) else (bif Nat.ble 52 j then (prog_1_method_37_code) else (prog_1_method_36_code))) else (bif Nat.ble 48 j then (bif Nat.ble 49 j then (bif Nat.ble 50 j then (prog_1_method_8_code) else (prog_1_method_7_code)) else (prog_1_method_31_code)) else (bif Nat.ble 47 j then (prog_1_method_6_code) else (prog_1_method_26_code)))) else (bif Nat.ble 41 j then (bif Nat.ble 43 j then (bif Nat.ble 44 j then (bif Nat.ble 45 j then (prog_1_method_27_code) else (prog_1_method_5_code)) else (prog_1_method_25_code)) else (bif Nat.ble 42 j then (prog_1_method_4_code) else (prog_1_method_3_code))) else (bif Nat.ble 39 j then (bif Nat.ble 40 j then (prog_1_method_2_code) else (prog_1_method_35_code)) else (bif Nat.ble 38 j then (prog_1_method_32_code) else (prog_1_method_34_code)))))) else (bif Nat.ble 18 j then (bif Nat.ble 27 j then (bif Nat.ble 32 j then (bif Nat.ble 34 j then (bif Nat.ble 35 j then (bif Nat.ble 36 j then (prog_6_method_6_code) else (prog_6_method_5_code)) else (prog_6_method_4_code)) else (bif Nat.ble 33 j then (prog_6_method_3_code) else (prog_6_method_2_code))) else (bif Nat.ble 29 j then (bif Nat.ble 30 j then (bif Nat.ble 31 j then (prog_5_method_7_code) else (prog_5_method_8_code)) else (prog_5_method_6_code)) else (bif Nat.ble 28 j then (prog_5_method_5_code) else (prog_5_method_4_code)))) else (bif Nat.ble 22 j then (bif Nat.ble 24 j then (bif Nat.ble 25 j then (bif Nat.ble 26 j then (prog_5_method_10_code) else (prog_5_method_11_code)) else (prog_5_method_9_code)) else (bif Nat.ble 23 j then (prog_5_method_3_code) else (prog_5_method_2_code))) else (bif Nat.ble 20 j then (bif Nat.ble 21 j then (prog_4_method_3_code) else (prog_4_method_2_code)) else (bif Nat.ble 19 j then (prog_3_method_10_code) else (prog_3_method_9_code))))) else (bif Nat.ble 9 j then (bif Nat.ble 13 j then (bif Nat.ble 15 j then (bif Nat.ble 16 j then (bif Nat.ble 17 j then (prog_3_method_8_code) else (prog_3_method_7_code)) else (prog_3_method_3_code)) else (bif Nat.ble 14 j then (prog_3_method_4_code) else (prog_3_method_6_code))) else (bif Nat.ble 11 j then (bif Nat.ble 12 j then (prog_3_method_5_code) else (prog_3_method_2_code)) else (bif Nat.ble 10 j then (prog_2_method_7_code) else (prog_2_method_6_code)))) else (bif Nat.ble 4 j then (bif Nat.ble 6 j then (bif Nat.ble 7 j then (bif Nat.ble 8 j then (prog_2_method_10_code) else (prog_2_method_8_code)) else (prog_2_method_9_code)) else (bif Nat.ble 5 j then (prog_2_method_12_code) else (prog_2_method_11_code))) else (bif Nat.ble 2 j then (bif Nat.ble 3 j then (prog_2_method_5_code) else (prog_2_method_4_code)) else (bif Nat.ble 1 j then (prog_2_method_3_code) else (prog_2_method_2_code)))))))
def mx_y (j : Nat) : MethodName := bif Nat.ble 75 j then (bif Nat.ble 112 j then (bif Nat.ble 131 j then (bif Nat.ble 140 j then (bif Nat.ble 145 j then (bif Nat.ble 147 j then (bif Nat.ble 148 j then (bif Nat.ble 149 j then (⟨"java/util/Arrays", "fill", "([II)V"⟩) else (⟨"java/lang/Integer", "numberOfTrailingZeros", "(I)I"⟩)) else (⟨"java/lang/Integer", "bitCount", "(I)I"⟩)) else (bif Nat.ble 146 j then (⟨"MotionDeskModel", "count", "(I)I"⟩) else (⟨"MotionDeskModel", "back", "(I)I"⟩))) else (bif Nat.ble 142 j then (bif Nat.ble 143 j then (bif Nat.ble 144 j then (⟨"MotionDeskModel", "keep", "(I)I"⟩) else (⟨"MotionDeskModel", "watch", "()I"⟩)) else (⟨"MotionDeskModel", "branchAt", "(I)I"⟩)) else (bif Nat.ble 141 j then (⟨"MotionDeskModel", "isVote", "(I)Z"⟩) else (⟨"MotionDeskModel", "isAsSeen", "()Z"⟩)))) else (bif Nat.ble 135 j then (bif Nat.ble 137 j then (bif Nat.ble 138 j then (bif Nat.ble 139 j then (⟨"MotionDeskModel", "rankingMany", "()I"⟩) else (⟨"MotionDeskModel", "rankings", "(I)I"⟩)) else (⟨"MotionDeskModel", "forget", "()I"⟩)) else (bif Nat.ble 136 j then (⟨"MotionDeskModel", "sees", "(II)I"⟩) else (⟨"MotionDeskModel", "gcd", "(JJ)J"⟩))) else (bif Nat.ble 133 j then (bif Nat.ble 134 j then (⟨"MotionDeskModel", "odds", "(IIII)I"⟩) else (⟨"MotionDeskModel", "putsFirst", "([III)V"⟩)) else (bif Nat.ble 132 j then (⟨"MotionDeskModel", "won", "(III)I"⟩) else (⟨"MotionDeskModel", "tells", "([III)V"⟩))))) else (bif Nat.ble 121 j then (bif Nat.ble 126 j then (bif Nat.ble 128 j then (bif Nat.ble 129 j then (bif Nat.ble 130 j then (⟨"MotionDeskModel", "better", "(III)I"⟩) else (⟨"MotionDeskModel", "isWay", "(I)Z"⟩)) else (⟨"MotionDeskModel", "reach", "(III)I"⟩)) else (bif Nat.ble 127 j then (⟨"MotionDeskModel", "order", "(II)I"⟩) else (⟨"MotionDeskModel", "undo", "()I"⟩))) else (bif Nat.ble 123 j then (bif Nat.ble 124 j then (bif Nat.ble 125 j then (⟨"MotionDeskModel", "sets", "(I)I"⟩) else (⟨"MotionDeskModel", "swaps", "(I)I"⟩)) else (⟨"MotionDeskModel", "notes", "()V"⟩)) else (bif Nat.ble 122 j then (⟨"MotionDeskModel", "ranks", "(II)I"⟩) else (⟨"MotionDeskModel", "isTop", "(I)Z"⟩)))) else (bif Nat.ble 116 j then (bif Nat.ble 118 j then (bif Nat.ble 119 j then (bif Nat.ble 120 j then (⟨"MotionDeskModel", "top", "()I"⟩) else (⟨"MotionDeskModel", "outcome", "([II)I"⟩)) else (⟨"MotionDeskModel", "now", "(I)I"⟩)) else (bif Nat.ble 117 j then (⟨"MotionDeskModel", "votes", "(II)I"⟩) else (⟨"MotionDeskModel", "placeOf", "([III)I"⟩))) else (bif Nat.ble 114 j then (bif Nat.ble 115 j then (⟨"MotionDeskModel", "votesOf", "([III)I"⟩) else (⟨"MotionDeskModel", "beatsBy", "([I)V"⟩)) else (bif Nat.ble 113 j then (⟨"MotionDeskModel", "foreseen", "([II)I"⟩) else (⟨"MotionDeskModel", "ones", "(I)I"⟩)))))) else (bif Nat.ble 93 j then (bif Nat.ble 102 j then (bif Nat.ble 107 j then (bif Nat.ble 109 j then (bif Nat.ble 110 j then (bif Nat.ble 111 j then (⟨"MotionDeskModel", "branchOf", "([IIII)I"⟩) else (⟨"MotionDeskModel", "votesFirst", "([II)I"⟩)) else (⟨"MotionDeskModel", "sincere", "([II)I"⟩)) else (bif Nat.ble 108 j then (⟨"MotionDeskModel", "setsOf", "([I)V"⟩) else (⟨"MotionDeskModel", "all", "()V"⟩))) else (bif Nat.ble 104 j then (bif Nat.ble 105 j then (bif Nat.ble 106 j then (⟨"MotionDeskModel", "isNode", "(I)Z"⟩) else (⟨"MotionDeskModel", "node", "(II)I"⟩)) else (⟨"MotionDeskModel", "isMotion", "(I)Z"⟩)) else (bif Nat.ble 103 j then (⟨"MotionDeskModel", "isMember", "(I)Z"⟩) else (⟨"MotionDeskModel", "ranking", "(II)I"⟩)))) else (bif Nat.ble 97 j then (bif Nat.ble 99 j then (bif Nat.ble 100 j then (bif Nat.ble 101 j then (⟨"MotionDeskModel", "readsAgenda", "()V"⟩) else (⟨"MotionDeskModel", "isMotionSign", "()Z"⟩)) else (⟨"MotionDeskModel", "readsRanking", "()V"⟩)) else (bif Nat.ble 98 j then (⟨"MotionDeskModel", "takes", "(Z)I"⟩) else (⟨"MotionDeskModel", "mayBegin", "(I)Z"⟩))) else (bif Nat.ble 95 j then (bif Nat.ble 96 j then (⟨"MotionDeskModel", "isWell", "()Z"⟩) else (⟨"MotionDeskModel", "isSign", "(I)Z"⟩)) else (bif Nat.ble 94 j then (⟨"MotionDeskModel", "letterAt", "(I)I"⟩) else (⟨"MotionDeskModel", "advances", "()V"⟩))))) else (bif Nat.ble 84 j then (bif Nat.ble 88 j then (bif Nat.ble 90 j then (bif Nat.ble 91 j then (bif Nat.ble 92 j then (⟨"MotionDeskModel", "desk", "()I"⟩) else (⟨"MotionDeskModel", "clear", "()I"⟩)) else (⟨"MotionDeskModel", "in", "(III)Z"⟩)) else (bif Nat.ble 89 j then (⟨"MotionDeskModel", "type", "(I)I"⟩) else (⟨"MotionDeskModel", "copies", "([I[I)V"⟩))) else (bif Nat.ble 86 j then (bif Nat.ble 87 j then (⟨"MotionDeskModel", "settles", "()V"⟩) else (⟨"MotionDeskModel", "comesTo", "([III)I"⟩)) else (bif Nat.ble 85 j then (⟨"MotionDeskModel", "piles", "(IIII)V"⟩) else (⟨"MotionDeskModel", "lays", "([II)V"⟩)))) else (bif Nat.ble 79 j then (bif Nat.ble 81 j then (bif Nat.ble 82 j then (bif Nat.ble 83 j then (⟨"MotionDeskModel", "has", "(II)Z"⟩) else (⟨"MotionDeskModel", "orders", "(I)I"⟩)) else (⟨"MotionDeskModel", "orderOf", "(II)V"⟩)) else (bif Nat.ble 80 j then (⟨"MotionDeskModel", "begins", "()V"⟩) else (⟨"MotionDesk", "count", "(I)I"⟩))) else (bif Nat.ble 77 j then (bif Nat.ble 78 j then (⟨"MotionDesk", "back", "(I)I"⟩) else (⟨"MotionDesk", "keep", "(I)I"⟩)) else (bif Nat.ble 76 j then (⟨"MotionDesk", "countFirsts", "()I"⟩) else (⟨"MotionDesk", "watch", "()I"⟩))))))) else (bif Nat.ble 37 j then (bif Nat.ble 56 j then (bif Nat.ble 65 j then (bif Nat.ble 70 j then (bif Nat.ble 72 j then (bif Nat.ble 73 j then (bif Nat.ble 74 j then (⟨"MotionDesk", "rankings", "(I)I"⟩) else (⟨"MotionDesk", "forget", "()I"⟩)) else (⟨"MotionDesk", "sees", "(II)I"⟩)) else (bif Nat.ble 71 j then (⟨"MotionDesk", "commonDivisor", "(JJ)J"⟩) else (⟨"MotionDesk", "power", "(II)J"⟩))) else (bif Nat.ble 67 j then (bif Nat.ble 68 j then (bif Nat.ble 69 j then (⟨"MotionDesk", "odds", "(IIII)I"⟩) else (⟨"MotionDesk", "won", "(III)I"⟩)) else (⟨"MotionDesk", "better", "(III)I"⟩)) else (bif Nat.ble 66 j then (⟨"MotionDesk", "foreseenOfRow", "()I"⟩) else (⟨"MotionDesk", "sincereOfRow", "()I"⟩)))) else (bif Nat.ble 60 j then (bif Nat.ble 62 j then (bif Nat.ble 63 j then (bif Nat.ble 64 j then (⟨"MotionDesk", "outcomeOfRow", "(I)I"⟩) else (⟨"MotionDesk", "isWay", "(I)Z"⟩)) else (⟨"MotionDesk", "reach", "(III)I"⟩)) else (bif Nat.ble 61 j then (⟨"MotionDesk", "order", "(II)I"⟩) else (⟨"MotionDesk", "undo", "()I"⟩))) else (bif Nat.ble 58 j then (bif Nat.ble 59 j then (⟨"MotionDesk", "orders", "()I"⟩) else (⟨"MotionDesk", "isOrder", "(I)Z"⟩)) else (bif Nat.ble 57 j then (⟨"MotionDesk", "sets", "(I)I"⟩) else (⟨"MotionDesk", "swaps", "(I)I"⟩))))) else (bif Nat.ble 46 j then (bif Nat.ble 51 j then (bif Nat.ble 53 j then (bif Nat.ble 54 j then (bif Nat.ble 55 j then (⟨"MotionDesk", "remember", "()V"⟩) else (⟨"MotionDesk", "ranks", "(II)I"⟩)) else (⟨"MotionDesk", "beatsAllOthers", "()I"⟩)) else (bif Nat.ble 52 j then (⟨"MotionDesk", "beatsTheRest", "(I)Z"⟩) else (⟨"MotionDesk", "top", "()I"⟩))) else (bif Nat.ble 48 j then (bif Nat.ble 49 j then (bif Nat.ble 50 j then (⟨"MotionDesk", "now", "(I)I"⟩) else (⟨"MotionDesk", "votes", "(II)I"⟩)) else (⟨"MotionDesk", "everyone", "()I"⟩)) else (bif Nat.ble 47 j then (⟨"MotionDesk", "node", "(II)I"⟩) else (⟨"MotionDesk", "isMotion", "(I)Z"⟩)))) else (bif Nat.ble 41 j then (bif Nat.ble 43 j then (bif Nat.ble 44 j then (bif Nat.ble 45 j then (⟨"MotionDesk", "isMember", "(I)Z"⟩) else (⟨"MotionDesk", "ranking", "(II)I"⟩)) else (⟨"MotionDesk", "within", "(II)Z"⟩)) else (bif Nat.ble 42 j then (⟨"MotionDesk", "desk", "()I"⟩) else (⟨"MotionDesk", "clear", "()I"⟩))) else (bif Nat.ble 39 j then (bif Nat.ble 40 j then (⟨"MotionDesk", "type", "(I)I"⟩) else (⟨"MotionDesk", "likesFirst", "([IIIII)Z"⟩)) else (bif Nat.ble 38 j then (⟨"MotionDesk", "settle", "()V"⟩) else (⟨"MotionDesk", "layOrder", "(II[I)V"⟩)))))) else (bif Nat.ble 18 j then (bif Nat.ble 27 j then (bif Nat.ble 32 j then (bif Nat.ble 34 j then (bif Nat.ble 35 j then (bif Nat.ble 36 j then (⟨"MotionDesk$Tree", "votesFirst", "(I[III)Z"⟩) else (⟨"MotionDesk$Tree", "second", "(I)I"⟩)) else (⟨"MotionDesk$Tree", "first", "(I)I"⟩)) else (bif Nat.ble 33 j then (⟨"MotionDesk$Tree", "isVote", "(I)Z"⟩) else (⟨"MotionDesk$Tree", "measure", "(LMotionDesk$Picture;)V"⟩))) else (bif Nat.ble 29 j then (bif Nat.ble 30 j then (bif Nat.ble 31 j then (⟨"MotionDesk$Text", "readBranch", "()Z"⟩) else (⟨"MotionDesk$Text", "motionOfSign", "()I"⟩)) else (⟨"MotionDesk$Text", "readRanking", "()Z"⟩)) else (bif Nat.ble 28 j then (⟨"MotionDesk$Text", "readMotions", "()Z"⟩) else (⟨"MotionDesk$Text", "readItem", "(I)Z"⟩)))) else (bif Nat.ble 22 j then (bif Nat.ble 24 j then (bif Nat.ble 25 j then (bif Nat.ble 26 j then (⟨"MotionDesk$Text", "takeNumber", "()V"⟩) else (⟨"MotionDesk$Text", "isDigit", "(I)Z"⟩)) else (⟨"MotionDesk$Text", "take", "()V"⟩)) else (bif Nat.ble 23 j then (⟨"MotionDesk$Text", "read", "()I"⟩) else (⟨"MotionDesk$Text", "append", "(I)V"⟩))) else (bif Nat.ble 20 j then (bif Nat.ble 21 j then (⟨"MotionDesk$Sightings", "agree", "([II)Z"⟩) else (⟨"MotionDesk$Sightings", "add", "(III)V"⟩)) else (bif Nat.ble 19 j then (⟨"MotionDesk$Picture", "layWithFirst", "(II[I)V"⟩) else (⟨"MotionDesk$Picture", "placeOf", "(II)I"⟩))))) else (bif Nat.ble 9 j then (bif Nat.ble 13 j then (bif Nat.ble 15 j then (bif Nat.ble 16 j then (bif Nat.ble 17 j then (⟨"MotionDesk$Picture", "turn", "(LMotionDesk$Tree;I)V"⟩) else (⟨"MotionDesk$Picture", "exchange", "(II)V"⟩)) else (⟨"MotionDesk$Picture", "copy", "(LMotionDesk$Picture;)V"⟩)) else (bif Nat.ble 14 j then (⟨"MotionDesk$Picture", "addNode", "(I)V"⟩) else (⟨"MotionDesk$Picture", "grow", "([III)V"⟩))) else (bif Nat.ble 11 j then (bif Nat.ble 12 j then (⟨"MotionDesk$Picture", "plant", "([I)V"⟩) else (⟨"MotionDesk$Picture", "empty", "(I)V"⟩)) else (bif Nat.ble 10 j then (⟨"MotionDesk$Ballots", "mix", "(LMotionDesk$Ballots;LMotionDesk$Ballots;I)V"⟩) else (⟨"MotionDesk$Ballots", "copy", "(LMotionDesk$Ballots;)V"⟩)))) else (bif Nat.ble 4 j then (bif Nat.ble 6 j then (bif Nat.ble 7 j then (bif Nat.ble 8 j then (⟨"MotionDesk$Ballots", "outcome", "(LMotionDesk$Tree;II)I"⟩) else (⟨"MotionDesk$Ballots", "beats", "(III)Z"⟩)) else (⟨"MotionDesk$Ballots", "stronger", "(III)I"⟩)) else (bif Nat.ble 5 j then (⟨"MotionDesk$Ballots", "foreseen", "(LMotionDesk$Tree;II)I"⟩) else (⟨"MotionDesk$Ballots", "sincere", "(LMotionDesk$Tree;II)I"⟩))) else (bif Nat.ble 2 j then (bif Nat.ble 3 j then (⟨"MotionDesk$Ballots", "castAbove", "([IIII)V"⟩) else (⟨"MotionDesk$Ballots", "castSincere", "(LMotionDesk$Tree;[IIII)V"⟩)) else (bif Nat.ble 1 j then (⟨"MotionDesk$Ballots", "cast", "(LMotionDesk$Tree;[IIII)V"⟩) else (⟨"MotionDesk$Ballots", "castAll", "(LMotionDesk$Tree;LMotionDesk$Picture;)V"⟩)))))))
def mx_maxL (j : Nat) : Nat := bif Nat.ble 75 j then (bif Nat.ble 112 j then (bif Nat.ble 131 j then (bif Nat.ble 140 j then (bif Nat.ble 145 j then (bif Nat.ble 147 j then (bif Nat.ble 148 j then (bif Nat.ble 149 j then (4) else (2)) else (1)) else (bif Nat.ble 146 j then (2) else (3))) else (bif Nat.ble 142 j then (bif Nat.ble 143 j then (bif Nat.ble 144 j then (3) else (6)) else (2)) else (bif Nat.ble 141 j then (2) else (3)))) else (bif Nat.ble 135 j then (bif Nat.ble 137 j then (bif Nat.ble 138 j then (bif Nat.ble 139 j then (4) else (3)) else (2)) else (bif Nat.ble 136 j then (3) else (10))) else (bif Nat.ble 133 j then (bif Nat.ble 134 j then (13) else (5)) else (bif Nat.ble 132 j then (7) else (5))))) else (bif Nat.ble 121 j then (bif Nat.ble 126 j then (bif Nat.ble 128 j then (bif Nat.ble 129 j then (bif Nat.ble 130 j then (10) else (1)) else (7)) else (bif Nat.ble 127 j then (3) else (2))) else (bif Nat.ble 123 j then (bif Nat.ble 124 j then (bif Nat.ble 125 j then (2) else (4)) else (2)) else (bif Nat.ble 122 j then (4) else (5)))) else (bif Nat.ble 116 j then (bif Nat.ble 118 j then (bif Nat.ble 119 j then (bif Nat.ble 120 j then (3) else (3)) else (4)) else (bif Nat.ble 117 j then (3) else (5))) else (bif Nat.ble 114 j then (bif Nat.ble 115 j then (6) else (5)) else (bif Nat.ble 113 j then (6) else (3)))))) else (bif Nat.ble 93 j then (bif Nat.ble 102 j then (bif Nat.ble 107 j then (bif Nat.ble 109 j then (bif Nat.ble 110 j then (bif Nat.ble 111 j then (7) else (5)) else (5)) else (bif Nat.ble 108 j then (3) else (1))) else (bif Nat.ble 104 j then (bif Nat.ble 105 j then (bif Nat.ble 106 j then (2) else (3)) else (2)) else (bif Nat.ble 103 j then (2) else (3)))) else (bif Nat.ble 97 j then (bif Nat.ble 99 j then (bif Nat.ble 100 j then (bif Nat.ble 101 j then (7) else (1)) else (4)) else (bif Nat.ble 98 j then (3) else (2))) else (bif Nat.ble 95 j then (bif Nat.ble 96 j then (1) else (1)) else (bif Nat.ble 94 j then (2) else (2))))) else (bif Nat.ble 84 j then (bif Nat.ble 88 j then (bif Nat.ble 90 j then (bif Nat.ble 91 j then (bif Nat.ble 92 j then (3) else (2)) else (3)) else (bif Nat.ble 89 j then (2) else (3))) else (bif Nat.ble 86 j then (bif Nat.ble 87 j then (1) else (4)) else (bif Nat.ble 85 j then (5) else (6)))) else (bif Nat.ble 79 j then (bif Nat.ble 81 j then (bif Nat.ble 82 j then (bif Nat.ble 83 j then (2) else (3)) else (9)) else (bif Nat.ble 80 j then (2) else (2))) else (bif Nat.ble 77 j then (bif Nat.ble 78 j then (2) else (2)) else (bif Nat.ble 76 j then (4) else (6))))))) else (bif Nat.ble 37 j then (bif Nat.ble 56 j then (bif Nat.ble 65 j then (bif Nat.ble 70 j then (bif Nat.ble 72 j then (bif Nat.ble 73 j then (bif Nat.ble 74 j then (5) else (2)) else (3)) else (bif Nat.ble 71 j then (11) else (5))) else (bif Nat.ble 67 j then (bif Nat.ble 68 j then (bif Nat.ble 69 j then (11) else (8)) else (10)) else (bif Nat.ble 66 j then (5) else (4)))) else (bif Nat.ble 60 j then (bif Nat.ble 62 j then (bif Nat.ble 63 j then (bif Nat.ble 64 j then (2) else (2)) else (7)) else (bif Nat.ble 61 j then (3) else (1))) else (bif Nat.ble 58 j then (bif Nat.ble 59 j then (1) else (2)) else (bif Nat.ble 57 j then (2) else (2))))) else (bif Nat.ble 46 j then (bif Nat.ble 51 j then (bif Nat.ble 53 j then (bif Nat.ble 54 j then (bif Nat.ble 55 j then (3) else (3)) else (2)) else (bif Nat.ble 52 j then (5) else (4))) else (bif Nat.ble 48 j then (bif Nat.ble 49 j then (bif Nat.ble 50 j then (2) else (3)) else (1)) else (bif Nat.ble 47 j then (4) else (2)))) else (bif Nat.ble 41 j then (bif Nat.ble 43 j then (bif Nat.ble 44 j then (bif Nat.ble 45 j then (2) else (3)) else (2)) else (bif Nat.ble 42 j then (2) else (2))) else (bif Nat.ble 39 j then (bif Nat.ble 40 j then (2) else (8)) else (bif Nat.ble 38 j then (1) else (8)))))) else (bif Nat.ble 18 j then (bif Nat.ble 27 j then (bif Nat.ble 32 j then (bif Nat.ble 34 j then (bif Nat.ble 35 j then (bif Nat.ble 36 j then (5) else (2)) else (2)) else (bif Nat.ble 33 j then (2) else (3))) else (bif Nat.ble 29 j then (bif Nat.ble 30 j then (bif Nat.ble 31 j then (2) else (1)) else (4)) else (bif Nat.ble 28 j then (1) else (2)))) else (bif Nat.ble 22 j then (bif Nat.ble 24 j then (bif Nat.ble 25 j then (bif Nat.ble 26 j then (2) else (1)) else (1)) else (bif Nat.ble 23 j then (2) else (2))) else (bif Nat.ble 20 j then (bif Nat.ble 21 j then (4) else (4)) else (bif Nat.ble 19 j then (7) else (4))))) else (bif Nat.ble 9 j then (bif Nat.ble 13 j then (bif Nat.ble 15 j then (bif Nat.ble 16 j then (bif Nat.ble 17 j then (7) else (5)) else (2)) else (bif Nat.ble 14 j then (2) else (4))) else (bif Nat.ble 11 j then (bif Nat.ble 12 j then (2) else (2)) else (bif Nat.ble 10 j then (5) else (2)))) else (bif Nat.ble 4 j then (bif Nat.ble 6 j then (bif Nat.ble 7 j then (bif Nat.ble 8 j then (4) else (6)) else (4)) else (bif Nat.ble 5 j then (6) else (8))) else (bif Nat.ble 2 j then (bif Nat.ble 3 j then (9) else (7)) else (bif Nat.ble 1 j then (6) else (4)))))))
def mx_ret (j : Nat) : Option FieldType := bif Nat.ble 75 j then (bif Nat.ble 112 j then (bif Nat.ble 131 j then (bif Nat.ble 140 j then (bif Nat.ble 145 j then (bif Nat.ble 147 j then (bif Nat.ble 148 j then (bif Nat.ble 149 j then ((Option.none : Option FieldType)) else ((Option.some FieldType.int))) else ((Option.some FieldType.int))) else (bif Nat.ble 146 j then ((Option.some FieldType.int)) else ((Option.some FieldType.int)))) else (bif Nat.ble 142 j then (bif Nat.ble 143 j then (bif Nat.ble 144 j then ((Option.some FieldType.int)) else ((Option.some FieldType.int))) else ((Option.some FieldType.int))) else (bif Nat.ble 141 j then ((Option.some FieldType.boolean)) else ((Option.some FieldType.boolean))))) else (bif Nat.ble 135 j then (bif Nat.ble 137 j then (bif Nat.ble 138 j then (bif Nat.ble 139 j then ((Option.some FieldType.int)) else ((Option.some FieldType.int))) else ((Option.some FieldType.int))) else (bif Nat.ble 136 j then ((Option.some FieldType.int)) else ((Option.some FieldType.long)))) else (bif Nat.ble 133 j then (bif Nat.ble 134 j then ((Option.some FieldType.int)) else ((Option.none : Option FieldType))) else (bif Nat.ble 132 j then ((Option.some FieldType.int)) else ((Option.none : Option FieldType)))))) else (bif Nat.ble 121 j then (bif Nat.ble 126 j then (bif Nat.ble 128 j then (bif Nat.ble 129 j then (bif Nat.ble 130 j then ((Option.some FieldType.int)) else ((Option.some FieldType.boolean))) else ((Option.some FieldType.int))) else (bif Nat.ble 127 j then ((Option.some FieldType.int)) else ((Option.some FieldType.int)))) else (bif Nat.ble 123 j then (bif Nat.ble 124 j then (bif Nat.ble 125 j then ((Option.some FieldType.int)) else ((Option.some FieldType.int))) else ((Option.none : Option FieldType))) else (bif Nat.ble 122 j then ((Option.some FieldType.int)) else ((Option.some FieldType.boolean))))) else (bif Nat.ble 116 j then (bif Nat.ble 118 j then (bif Nat.ble 119 j then (bif Nat.ble 120 j then ((Option.some FieldType.int)) else ((Option.some FieldType.int))) else ((Option.some FieldType.int))) else (bif Nat.ble 117 j then ((Option.some FieldType.int)) else ((Option.some FieldType.int)))) else (bif Nat.ble 114 j then (bif Nat.ble 115 j then ((Option.some FieldType.int)) else ((Option.none : Option FieldType))) else (bif Nat.ble 113 j then ((Option.some FieldType.int)) else ((Option.some FieldType.int))))))) else (bif Nat.ble 93 j then (bif Nat.ble 102 j then (bif Nat.ble 107 j then (bif Nat.ble 109 j then (bif Nat.ble 110 j then (bif Nat.ble 111 j then ((Option.some FieldType.int)) else ((Option.some FieldType.int))) else ((Option.some FieldType.int))) else (bif Nat.ble 108 j then ((Option.none : Option FieldType)) else ((Option.none : Option FieldType)))) else (bif Nat.ble 104 j then (bif Nat.ble 105 j then (bif Nat.ble 106 j then ((Option.some FieldType.boolean)) else ((Option.some FieldType.int))) else ((Option.some FieldType.boolean))) else (bif Nat.ble 103 j then ((Option.some FieldType.boolean)) else ((Option.some FieldType.int))))) else (bif Nat.ble 97 j then (bif Nat.ble 99 j then (bif Nat.ble 100 j then (bif Nat.ble 101 j then ((Option.none : Option FieldType)) else ((Option.some FieldType.boolean))) else ((Option.none : Option FieldType))) else (bif Nat.ble 98 j then ((Option.some FieldType.int)) else ((Option.some FieldType.boolean)))) else (bif Nat.ble 95 j then (bif Nat.ble 96 j then ((Option.some FieldType.boolean)) else ((Option.some FieldType.boolean))) else (bif Nat.ble 94 j then ((Option.some FieldType.int)) else ((Option.none : Option FieldType)))))) else (bif Nat.ble 84 j then (bif Nat.ble 88 j then (bif Nat.ble 90 j then (bif Nat.ble 91 j then (bif Nat.ble 92 j then ((Option.some FieldType.int)) else ((Option.some FieldType.int))) else ((Option.some FieldType.boolean))) else (bif Nat.ble 89 j then ((Option.some FieldType.int)) else ((Option.none : Option FieldType)))) else (bif Nat.ble 86 j then (bif Nat.ble 87 j then ((Option.none : Option FieldType)) else ((Option.some FieldType.int))) else (bif Nat.ble 85 j then ((Option.none : Option FieldType)) else ((Option.none : Option FieldType))))) else (bif Nat.ble 79 j then (bif Nat.ble 81 j then (bif Nat.ble 82 j then (bif Nat.ble 83 j then ((Option.some FieldType.boolean)) else ((Option.some FieldType.int))) else ((Option.none : Option FieldType))) else (bif Nat.ble 80 j then ((Option.none : Option FieldType)) else ((Option.some FieldType.int)))) else (bif Nat.ble 77 j then (bif Nat.ble 78 j then ((Option.some FieldType.int)) else ((Option.some FieldType.int))) else (bif Nat.ble 76 j then ((Option.some FieldType.int)) else ((Option.some FieldType.int)))))))) else (bif Nat.ble 37 j then (bif Nat.ble 56 j then (bif Nat.ble 65 j then (bif Nat.ble 70 j then (bif Nat.ble 72 j then (bif Nat.ble 73 j then (bif Nat.ble 74 j then ((Option.some FieldType.int)) else ((Option.some FieldType.int))) else ((Option.some FieldType.int))) else (bif Nat.ble 71 j then ((Option.some FieldType.long)) else ((Option.some FieldType.long)))) else (bif Nat.ble 67 j then (bif Nat.ble 68 j then (bif Nat.ble 69 j then ((Option.some FieldType.int)) else ((Option.some FieldType.int))) else ((Option.some FieldType.int))) else (bif Nat.ble 66 j then ((Option.some FieldType.int)) else ((Option.some FieldType.int))))) else (bif Nat.ble 60 j then (bif Nat.ble 62 j then (bif Nat.ble 63 j then (bif Nat.ble 64 j then ((Option.some FieldType.int)) else ((Option.some FieldType.boolean))) else ((Option.some FieldType.int))) else (bif Nat.ble 61 j then ((Option.some FieldType.int)) else ((Option.some FieldType.int)))) else (bif Nat.ble 58 j then (bif Nat.ble 59 j then ((Option.some FieldType.int)) else ((Option.some FieldType.boolean))) else (bif Nat.ble 57 j then ((Option.some FieldType.int)) else ((Option.some FieldType.int)))))) else (bif Nat.ble 46 j then (bif Nat.ble 51 j then (bif Nat.ble 53 j then (bif Nat.ble 54 j then (bif Nat.ble 55 j then ((Option.none : Option FieldType)) else ((Option.some FieldType.int))) else ((Option.some FieldType.int))) else (bif Nat.ble 52 j then ((Option.some FieldType.boolean)) else ((Option.some FieldType.int)))) else (bif Nat.ble 48 j then (bif Nat.ble 49 j then (bif Nat.ble 50 j then ((Option.some FieldType.int)) else ((Option.some FieldType.int))) else ((Option.some FieldType.int))) else (bif Nat.ble 47 j then ((Option.some FieldType.int)) else ((Option.some FieldType.boolean))))) else (bif Nat.ble 41 j then (bif Nat.ble 43 j then (bif Nat.ble 44 j then (bif Nat.ble 45 j then ((Option.some FieldType.boolean)) else ((Option.some FieldType.int))) else ((Option.some FieldType.boolean))) else (bif Nat.ble 42 j then ((Option.some FieldType.int)) else ((Option.some FieldType.int)))) else (bif Nat.ble 39 j then (bif Nat.ble 40 j then ((Option.some FieldType.int)) else ((Option.some FieldType.boolean))) else (bif Nat.ble 38 j then ((Option.none : Option FieldType)) else ((Option.none : Option FieldType))))))) else (bif Nat.ble 18 j then (bif Nat.ble 27 j then (bif Nat.ble 32 j then (bif Nat.ble 34 j then (bif Nat.ble 35 j then (bif Nat.ble 36 j then ((Option.some FieldType.boolean)) else ((Option.some FieldType.int))) else ((Option.some FieldType.int))) else (bif Nat.ble 33 j then ((Option.some FieldType.boolean)) else ((Option.none : Option FieldType)))) else (bif Nat.ble 29 j then (bif Nat.ble 30 j then (bif Nat.ble 31 j then ((Option.some FieldType.boolean)) else ((Option.some FieldType.int))) else ((Option.some FieldType.boolean))) else (bif Nat.ble 28 j then ((Option.some FieldType.boolean)) else ((Option.some FieldType.boolean))))) else (bif Nat.ble 22 j then (bif Nat.ble 24 j then (bif Nat.ble 25 j then (bif Nat.ble 26 j then ((Option.none : Option FieldType)) else ((Option.some FieldType.boolean))) else ((Option.none : Option FieldType))) else (bif Nat.ble 23 j then ((Option.some FieldType.int)) else ((Option.none : Option FieldType)))) else (bif Nat.ble 20 j then (bif Nat.ble 21 j then ((Option.some FieldType.boolean)) else ((Option.none : Option FieldType))) else (bif Nat.ble 19 j then ((Option.none : Option FieldType)) else ((Option.some FieldType.int)))))) else (bif Nat.ble 9 j then (bif Nat.ble 13 j then (bif Nat.ble 15 j then (bif Nat.ble 16 j then (bif Nat.ble 17 j then ((Option.none : Option FieldType)) else ((Option.none : Option FieldType))) else ((Option.none : Option FieldType))) else (bif Nat.ble 14 j then ((Option.none : Option FieldType)) else ((Option.none : Option FieldType)))) else (bif Nat.ble 11 j then (bif Nat.ble 12 j then ((Option.none : Option FieldType)) else ((Option.none : Option FieldType))) else (bif Nat.ble 10 j then ((Option.none : Option FieldType)) else ((Option.none : Option FieldType))))) else (bif Nat.ble 4 j then (bif Nat.ble 6 j then (bif Nat.ble 7 j then (bif Nat.ble 8 j then ((Option.some FieldType.int)) else ((Option.some FieldType.boolean))) else ((Option.some FieldType.int))) else (bif Nat.ble 5 j then ((Option.some FieldType.int)) else ((Option.some FieldType.int)))) else (bif Nat.ble 2 j then (bif Nat.ble 3 j then ((Option.none : Option FieldType)) else ((Option.none : Option FieldType))) else (bif Nat.ble 1 j then ((Option.none : Option FieldType)) else ((Option.none : Option FieldType))))))))
def mx_own (j : Nat) : Nat := bif Nat.ble 75 j then (bif Nat.ble 112 j then (bif Nat.ble 131 j then (bif Nat.ble 140 j then (bif Nat.ble 145 j then (bif Nat.ble 147 j then (bif Nat.ble 148 j then (bif Nat.ble 149 j then (10) else (8)) else (8)) else (bif Nat.ble 146 j then (6) else (6))) else (bif Nat.ble 142 j then (bif Nat.ble 143 j then (bif Nat.ble 144 j then (6) else (6)) else (6)) else (bif Nat.ble 141 j then (6) else (6)))) else (bif Nat.ble 135 j then (bif Nat.ble 137 j then (bif Nat.ble 138 j then (bif Nat.ble 139 j then (6) else (6)) else (6)) else (bif Nat.ble 136 j then (6) else (6))) else (bif Nat.ble 133 j then (bif Nat.ble 134 j then (6) else (6)) else (bif Nat.ble 132 j then (6) else (6))))) else (bif Nat.ble 121 j then (bif Nat.ble 126 j then (bif Nat.ble 128 j then (bif Nat.ble 129 j then (bif Nat.ble 130 j then (6) else (6)) else (6)) else (bif Nat.ble 127 j then (6) else (6))) else (bif Nat.ble 123 j then (bif Nat.ble 124 j then (bif Nat.ble 125 j then (6) else (6)) else (6)) else (bif Nat.ble 122 j then (6) else (6)))) else (bif Nat.ble 116 j then (bif Nat.ble 118 j then (bif Nat.ble 119 j then (bif Nat.ble 120 j then (6) else (6)) else (6)) else (bif Nat.ble 117 j then (6) else (6))) else (bif Nat.ble 114 j then (bif Nat.ble 115 j then (6) else (6)) else (bif Nat.ble 113 j then (6) else (6)))))) else (bif Nat.ble 93 j then (bif Nat.ble 102 j then (bif Nat.ble 107 j then (bif Nat.ble 109 j then (bif Nat.ble 110 j then (bif Nat.ble 111 j then (6) else (6)) else (6)) else (bif Nat.ble 108 j then (6) else (6))) else (bif Nat.ble 104 j then (bif Nat.ble 105 j then (bif Nat.ble 106 j then (6) else (6)) else (6)) else (bif Nat.ble 103 j then (6) else (6)))) else (bif Nat.ble 97 j then (bif Nat.ble 99 j then (bif Nat.ble 100 j then (bif Nat.ble 101 j then (6) else (6)) else (6)) else (bif Nat.ble 98 j then (6) else (6))) else (bif Nat.ble 95 j then (bif Nat.ble 96 j then (6) else (6)) else (bif Nat.ble 94 j then (6) else (6))))) else (bif Nat.ble 84 j then (bif Nat.ble 88 j then (bif Nat.ble 90 j then (bif Nat.ble 91 j then (bif Nat.ble 92 j then (6) else (6)) else (6)) else (bif Nat.ble 89 j then (6) else (6))) else (bif Nat.ble 86 j then (bif Nat.ble 87 j then (6) else (6)) else (bif Nat.ble 85 j then (6) else (6)))) else (bif Nat.ble 79 j then (bif Nat.ble 81 j then (bif Nat.ble 82 j then (bif Nat.ble 83 j then (6) else (6)) else (6)) else (bif Nat.ble 80 j then (6) else (5))) else (bif Nat.ble 77 j then (bif Nat.ble 78 j then (5) else (5)) else (bif Nat.ble 76 j then (5) else (5))))))) else (bif Nat.ble 37 j then (bif Nat.ble 56 j then (bif Nat.ble 65 j then (bif Nat.ble 70 j then (bif Nat.ble 72 j then (bif Nat.ble 73 j then (bif Nat.ble 74 j then (5) else (5)) else (5)) else (bif Nat.ble 71 j then (5) else (5))) else (bif Nat.ble 67 j then (bif Nat.ble 68 j then (bif Nat.ble 69 j then (5) else (5)) else (5)) else (bif Nat.ble 66 j then (5) else (5)))) else (bif Nat.ble 60 j then (bif Nat.ble 62 j then (bif Nat.ble 63 j then (bif Nat.ble 64 j then (5) else (5)) else (5)) else (bif Nat.ble 61 j then (5) else (5))) else (bif Nat.ble 58 j then (bif Nat.ble 59 j then (5) else (5)) else (bif Nat.ble 57 j then (5) else (5))))) else (bif Nat.ble 46 j then (bif Nat.ble 51 j then (bif Nat.ble 53 j then (bif Nat.ble 54 j then (bif Nat.ble 55 j then (5) else (5)) else (5)) else (bif Nat.ble 52 j then (5) else (5))) else (bif Nat.ble 48 j then (bif Nat.ble 49 j then (bif Nat.ble 50 j then (5) else (5)) else (5)) else (bif Nat.ble 47 j then (5) else (5)))) else (bif Nat.ble 41 j then (bif Nat.ble 43 j then (bif Nat.ble 44 j then (bif Nat.ble 45 j then (5) else (5)) else (5)) else (bif Nat.ble 42 j then (5) else (5))) else (bif Nat.ble 39 j then (bif Nat.ble 40 j then (5) else (5)) else (bif Nat.ble 38 j then (5) else (5)))))) else (bif Nat.ble 18 j then (bif Nat.ble 27 j then (bif Nat.ble 32 j then (bif Nat.ble 34 j then (bif Nat.ble 35 j then (bif Nat.ble 36 j then (4) else (4)) else (4)) else (bif Nat.ble 33 j then (4) else (4))) else (bif Nat.ble 29 j then (bif Nat.ble 30 j then (bif Nat.ble 31 j then (3) else (3)) else (3)) else (bif Nat.ble 28 j then (3) else (3)))) else (bif Nat.ble 22 j then (bif Nat.ble 24 j then (bif Nat.ble 25 j then (bif Nat.ble 26 j then (3) else (3)) else (3)) else (bif Nat.ble 23 j then (3) else (3))) else (bif Nat.ble 20 j then (bif Nat.ble 21 j then (2) else (2)) else (bif Nat.ble 19 j then (1) else (1))))) else (bif Nat.ble 9 j then (bif Nat.ble 13 j then (bif Nat.ble 15 j then (bif Nat.ble 16 j then (bif Nat.ble 17 j then (1) else (1)) else (1)) else (bif Nat.ble 14 j then (1) else (1))) else (bif Nat.ble 11 j then (bif Nat.ble 12 j then (1) else (1)) else (bif Nat.ble 10 j then (0) else (0)))) else (bif Nat.ble 4 j then (bif Nat.ble 6 j then (bif Nat.ble 7 j then (bif Nat.ble 8 j then (0) else (0)) else (0)) else (bif Nat.ble 5 j then (0) else (0))) else (bif Nat.ble 2 j then (bif Nat.ble 3 j then (0) else (0)) else (bif Nat.ble 1 j then (0) else (0)))))))
abbrev mx_NM : Nat := 150
abbrev m_Ba_castAll : Nat := 0
abbrev m_Ba_cast : Nat := 1
abbrev m_Ba_castSincere : Nat := 2
abbrev m_Ba_castAbove : Nat := 3
abbrev m_Ba_sincere : Nat := 4
abbrev m_Ba_foreseen : Nat := 5
abbrev m_Ba_stronger : Nat := 6
abbrev m_Ba_beats : Nat := 7
abbrev m_Ba_outcome : Nat := 8
abbrev m_Ba_copy : Nat := 9
abbrev m_Ba_mix : Nat := 10
abbrev m_Pi_empty : Nat := 11
abbrev m_Pi_plant : Nat := 12
abbrev m_Pi_grow : Nat := 13
abbrev m_Pi_addNode : Nat := 14
abbrev m_Pi_copy : Nat := 15
abbrev m_Pi_exchange : Nat := 16
abbrev m_Pi_turn : Nat := 17
abbrev m_Pi_placeOf : Nat := 18
abbrev m_Pi_layWithFirst : Nat := 19
abbrev m_Si_add : Nat := 20
abbrev m_Si_agree : Nat := 21
abbrev m_Te_append : Nat := 22
abbrev m_Te_read : Nat := 23
abbrev m_Te_take : Nat := 24
abbrev m_Te_isDigit : Nat := 25
abbrev m_Te_takeNumber : Nat := 26
abbrev m_Te_readItem : Nat := 27
abbrev m_Te_readMotions : Nat := 28
abbrev m_Te_readRanking : Nat := 29
abbrev m_Te_motionOfSign : Nat := 30
abbrev m_Te_readBranch : Nat := 31
abbrev m_Tr_measure : Nat := 32
abbrev m_Tr_isVote : Nat := 33
abbrev m_Tr_first : Nat := 34
abbrev m_Tr_second : Nat := 35
abbrev m_Tr_votesFirst : Nat := 36
abbrev m_De_layOrder : Nat := 37
abbrev m_De_settle : Nat := 38
abbrev m_De_likesFirst : Nat := 39
abbrev m_De_type : Nat := 40
abbrev m_De_clear : Nat := 41
abbrev m_De_desk : Nat := 42
abbrev m_De_within : Nat := 43
abbrev m_De_ranking : Nat := 44
abbrev m_De_isMember : Nat := 45
abbrev m_De_isMotion : Nat := 46
abbrev m_De_node : Nat := 47
abbrev m_De_everyone : Nat := 48
abbrev m_De_votes : Nat := 49
abbrev m_De_now : Nat := 50
abbrev m_De_top : Nat := 51
abbrev m_De_beatsTheRest : Nat := 52
abbrev m_De_beatsAllOthers : Nat := 53
abbrev m_De_ranks : Nat := 54
abbrev m_De_remember : Nat := 55
abbrev m_De_swaps : Nat := 56
abbrev m_De_sets : Nat := 57
abbrev m_De_isOrder : Nat := 58
abbrev m_De_orders : Nat := 59
abbrev m_De_undo : Nat := 60
abbrev m_De_order : Nat := 61
abbrev m_De_reach : Nat := 62
abbrev m_De_isWay : Nat := 63
abbrev m_De_outcomeOfRow : Nat := 64
abbrev m_De_sincereOfRow : Nat := 65
abbrev m_De_foreseenOfRow : Nat := 66
abbrev m_De_better : Nat := 67
abbrev m_De_won : Nat := 68
abbrev m_De_odds : Nat := 69
abbrev m_De_power : Nat := 70
abbrev m_De_commonDivisor : Nat := 71
abbrev m_De_sees : Nat := 72
abbrev m_De_forget : Nat := 73
abbrev m_De_rankings : Nat := 74
abbrev m_De_watch : Nat := 75
abbrev m_De_countFirsts : Nat := 76
abbrev m_De_keep : Nat := 77
abbrev m_De_back : Nat := 78
abbrev m_De_count : Nat := 79
abbrev m_Mo_begins : Nat := 80
abbrev m_Mo_orderOf : Nat := 81
abbrev m_Mo_orders : Nat := 82
abbrev m_Mo_has : Nat := 83
abbrev m_Mo_lays : Nat := 84
abbrev m_Mo_piles : Nat := 85
abbrev m_Mo_comesTo : Nat := 86
abbrev m_Mo_settles : Nat := 87
abbrev m_Mo_copies : Nat := 88
abbrev m_Mo_type : Nat := 89
abbrev m_Mo_in : Nat := 90
abbrev m_Mo_clear : Nat := 91
abbrev m_Mo_desk : Nat := 92
abbrev m_Mo_advances : Nat := 93
abbrev m_Mo_letterAt : Nat := 94
abbrev m_Mo_isSign : Nat := 95
abbrev m_Mo_isWell : Nat := 96
abbrev m_Mo_mayBegin : Nat := 97
abbrev m_Mo_takes : Nat := 98
abbrev m_Mo_readsRanking : Nat := 99
abbrev m_Mo_isMotionSign : Nat := 100
abbrev m_Mo_readsAgenda : Nat := 101
abbrev m_Mo_ranking : Nat := 102
abbrev m_Mo_isMember : Nat := 103
abbrev m_Mo_isMotion : Nat := 104
abbrev m_Mo_node : Nat := 105
abbrev m_Mo_isNode : Nat := 106
abbrev m_Mo_all : Nat := 107
abbrev m_Mo_setsOf : Nat := 108
abbrev m_Mo_sincere : Nat := 109
abbrev m_Mo_votesFirst : Nat := 110
abbrev m_Mo_branchOf : Nat := 111
abbrev m_Mo_ones : Nat := 112
abbrev m_Mo_foreseen : Nat := 113
abbrev m_Mo_beatsBy : Nat := 114
abbrev m_Mo_votesOf : Nat := 115
abbrev m_Mo_placeOf : Nat := 116
abbrev m_Mo_votes : Nat := 117
abbrev m_Mo_now : Nat := 118
abbrev m_Mo_outcome : Nat := 119
abbrev m_Mo_top : Nat := 120
abbrev m_Mo_isTop : Nat := 121
abbrev m_Mo_ranks : Nat := 122
abbrev m_Mo_notes : Nat := 123
abbrev m_Mo_swaps : Nat := 124
abbrev m_Mo_sets : Nat := 125
abbrev m_Mo_undo : Nat := 126
abbrev m_Mo_order : Nat := 127
abbrev m_Mo_reach : Nat := 128
abbrev m_Mo_isWay : Nat := 129
abbrev m_Mo_better : Nat := 130
abbrev m_Mo_tells : Nat := 131
abbrev m_Mo_won : Nat := 132
abbrev m_Mo_putsFirst : Nat := 133
abbrev m_Mo_odds : Nat := 134
abbrev m_Mo_gcd : Nat := 135
abbrev m_Mo_sees : Nat := 136
abbrev m_Mo_forget : Nat := 137
abbrev m_Mo_rankings : Nat := 138
abbrev m_Mo_rankingMany : Nat := 139
abbrev m_Mo_isAsSeen : Nat := 140
abbrev m_Mo_isVote : Nat := 141
abbrev m_Mo_branchAt : Nat := 142
abbrev m_Mo_watch : Nat := 143
abbrev m_Mo_keep : Nat := 144
abbrev m_Mo_back : Nat := 145
abbrev m_Mo_count : Nat := 146
abbrev m_In_bitCount : Nat := 147
abbrev m_In_numberOfTrailingZeros : Nat := 148
abbrev m_Ar_fill : Nat := 149
end
section
/-- of a method: static?, parameters, places of its words in lw_tbl -/
def mx_ps (j : Nat) : Bool × Nat × Nat × Nat × Nat × Nat := bif Nat.ble 75 j then (bif Nat.ble 112 j then (bif Nat.ble 131 j then (bif Nat.ble 140 j then (bif Nat.ble 145 j then (bif Nat.ble 147 j then (bif Nat.ble 148 j then (bif Nat.ble 149 j then ((true, 2, 291, 94, 290, 0)) else ((true, 1, 494, 97, 493, 0))) else ((true, 1, 452, 97, 451, 0))) else (bif Nat.ble 146 j then ((false, 1, 1016, 95, 1014, 1015)) else ((false, 1, 1012, 95, 1010, 1011)))) else (bif Nat.ble 142 j then (bif Nat.ble 143 j then (bif Nat.ble 144 j then ((false, 1, 1008, 95, 1006, 1007)) else ((false, 0, 1004, 95, 1002, 1003))) else ((false, 1, 1000, 95, 999, 85))) else (bif Nat.ble 141 j then ((false, 1, 996, 95, 995, 84)) else ((false, 0, 992, 95, 991, 83))))) else (bif Nat.ble 135 j then (bif Nat.ble 137 j then (bif Nat.ble 138 j then (bif Nat.ble 139 j then ((false, 0, 988, 95, 987, 82)) else ((false, 1, 984, 95, 982, 983))) else ((false, 0, 980, 95, 978, 979))) else (bif Nat.ble 136 j then ((false, 2, 976, 95, 974, 975)) else ((true, 2, 972, 95, 971, 0)))) else (bif Nat.ble 133 j then (bif Nat.ble 134 j then ((false, 4, 968, 95, 966, 967)) else ((false, 3, 964, 95, 963, 81))) else (bif Nat.ble 132 j then ((false, 3, 960, 95, 958, 959)) else ((false, 3, 956, 95, 955, 80)))))) else (bif Nat.ble 121 j then (bif Nat.ble 126 j then (bif Nat.ble 128 j then (bif Nat.ble 129 j then (bif Nat.ble 130 j then ((false, 3, 952, 95, 950, 951)) else ((true, 1, 948, 95, 947, 0))) else ((false, 3, 945, 95, 943, 944))) else (bif Nat.ble 127 j then ((false, 2, 941, 95, 939, 940)) else ((false, 0, 937, 95, 935, 936)))) else (bif Nat.ble 123 j then (bif Nat.ble 124 j then (bif Nat.ble 125 j then ((false, 1, 933, 95, 931, 932)) else ((false, 1, 929, 95, 927, 928))) else ((false, 0, 925, 95, 924, 79))) else (bif Nat.ble 122 j then ((false, 2, 921, 95, 919, 920)) else ((false, 1, 917, 95, 916, 78))))) else (bif Nat.ble 116 j then (bif Nat.ble 118 j then (bif Nat.ble 119 j then (bif Nat.ble 120 j then ((false, 0, 913, 95, 912, 77)) else ((false, 2, 909, 95, 908, 76))) else ((false, 1, 905, 95, 903, 904))) else (bif Nat.ble 117 j then ((false, 2, 901, 95, 899, 900)) else ((false, 3, 897, 95, 896, 75)))) else (bif Nat.ble 114 j then (bif Nat.ble 115 j then ((false, 3, 893, 95, 892, 74)) else ((false, 1, 889, 95, 888, 73))) else (bif Nat.ble 113 j then ((false, 2, 885, 95, 884, 72)) else ((true, 1, 881, 95, 880, 0))))))) else (bif Nat.ble 93 j then (bif Nat.ble 102 j then (bif Nat.ble 107 j then (bif Nat.ble 109 j then (bif Nat.ble 110 j then (bif Nat.ble 111 j then ((false, 4, 878, 95, 877, 71)) else ((false, 2, 874, 95, 873, 70))) else ((false, 2, 870, 95, 869, 69))) else (bif Nat.ble 108 j then ((false, 1, 866, 95, 865, 68)) else ((false, 0, 862, 95, 861, 67)))) else (bif Nat.ble 104 j then (bif Nat.ble 105 j then (bif Nat.ble 106 j then ((false, 1, 858, 95, 857, 66)) else ((false, 2, 854, 95, 852, 853))) else ((false, 1, 850, 95, 849, 65))) else (bif Nat.ble 103 j then ((false, 1, 846, 95, 845, 64)) else ((false, 2, 842, 95, 840, 841))))) else (bif Nat.ble 97 j then (bif Nat.ble 99 j then (bif Nat.ble 100 j then (bif Nat.ble 101 j then ((false, 0, 838, 95, 837, 63)) else ((false, 0, 834, 95, 833, 62))) else ((false, 0, 830, 95, 829, 61))) else (bif Nat.ble 98 j then ((false, 1, 826, 95, 825, 60)) else ((false, 1, 822, 95, 821, 59)))) else (bif Nat.ble 95 j then (bif Nat.ble 96 j then ((false, 0, 818, 95, 817, 58)) else ((true, 1, 814, 95, 813, 0))) else (bif Nat.ble 94 j then ((false, 1, 811, 95, 810, 57)) else ((false, 0, 807, 95, 806, 56)))))) else (bif Nat.ble 84 j then (bif Nat.ble 88 j then (bif Nat.ble 90 j then (bif Nat.ble 91 j then (bif Nat.ble 92 j then ((false, 0, 803, 95, 801, 802)) else ((false, 0, 799, 95, 797, 798))) else ((true, 3, 795, 95, 794, 0))) else (bif Nat.ble 89 j then ((false, 1, 792, 95, 790, 791)) else ((true, 2, 687, 95, 686, 0)))) else (bif Nat.ble 86 j then (bif Nat.ble 87 j then ((false, 0, 684, 95, 683, 55)) else ((true, 3, 680, 95, 679, 0))) else (bif Nat.ble 85 j then ((false, 4, 677, 95, 676, 54)) else ((false, 2, 673, 95, 672, 53))))) else (bif Nat.ble 79 j then (bif Nat.ble 81 j then (bif Nat.ble 82 j then (bif Nat.ble 83 j then ((true, 2, 669, 95, 668, 0)) else ((true, 1, 666, 95, 665, 0))) else ((false, 2, 663, 95, 662, 52))) else (bif Nat.ble 80 j then ((false, 0, 659, 95, 658, 51)) else ((false, 1, 649, 87, 647, 648)))) else (bif Nat.ble 77 j then (bif Nat.ble 78 j then ((false, 1, 645, 87, 643, 644)) else ((false, 1, 641, 87, 639, 640))) else (bif Nat.ble 76 j then ((false, 0, 633, 87, 632, 50)) else ((false, 0, 629, 87, 627, 628)))))))) else (bif Nat.ble 37 j then (bif Nat.ble 56 j then (bif Nat.ble 65 j then (bif Nat.ble 70 j then (bif Nat.ble 72 j then (bif Nat.ble 73 j then (bif Nat.ble 74 j then ((false, 1, 620, 87, 618, 619)) else ((false, 0, 616, 87, 614, 615))) else ((false, 2, 608, 87, 606, 607))) else (bif Nat.ble 71 j then ((true, 2, 604, 87, 603, 0)) else ((true, 2, 601, 87, 600, 0)))) else (bif Nat.ble 67 j then (bif Nat.ble 68 j then (bif Nat.ble 69 j then ((false, 4, 597, 87, 595, 596)) else ((false, 3, 584, 87, 582, 583))) else ((false, 3, 562, 87, 560, 561))) else (bif Nat.ble 66 j then ((false, 0, 557, 87, 556, 42)) else ((false, 0, 553, 87, 552, 41))))) else (bif Nat.ble 60 j then (bif Nat.ble 62 j then (bif Nat.ble 63 j then (bif Nat.ble 64 j then ((false, 1, 549, 87, 548, 40)) else ((false, 1, 545, 87, 544, 39))) else ((false, 3, 541, 87, 539, 540))) else (bif Nat.ble 61 j then ((false, 2, 537, 87, 535, 536)) else ((false, 0, 533, 87, 531, 532)))) else (bif Nat.ble 58 j then (bif Nat.ble 59 j then ((false, 0, 529, 87, 528, 38)) else ((false, 1, 525, 87, 524, 37))) else (bif Nat.ble 57 j then ((false, 1, 521, 87, 519, 520)) else ((false, 1, 511, 87, 509, 510)))))) else (bif Nat.ble 46 j then (bif Nat.ble 51 j then (bif Nat.ble 53 j then (bif Nat.ble 54 j then (bif Nat.ble 55 j then ((false, 0, 503, 87, 502, 34)) else ((false, 2, 499, 87, 497, 498))) else ((false, 0, 491, 87, 490, 33))) else (bif Nat.ble 52 j then ((false, 1, 486, 87, 485, 32)) else ((false, 0, 482, 87, 481, 31)))) else (bif Nat.ble 48 j then (bif Nat.ble 49 j then (bif Nat.ble 50 j then ((false, 1, 478, 87, 476, 477)) else ((false, 2, 474, 87, 472, 473))) else ((false, 0, 445, 87, 444, 26))) else (bif Nat.ble 47 j then ((false, 2, 438, 87, 436, 437)) else ((false, 1, 434, 87, 433, 25))))) else (bif Nat.ble 41 j then (bif Nat.ble 43 j then (bif Nat.ble 44 j then (bif Nat.ble 45 j then ((false, 1, 429, 87, 428, 24)) else ((false, 2, 425, 87, 423, 424))) else ((true, 2, 411, 87, 410, 0))) else (bif Nat.ble 42 j then ((false, 0, 373, 87, 371, 372)) else ((false, 0, 369, 87, 367, 368)))) else (bif Nat.ble 39 j then (bif Nat.ble 40 j then ((false, 1, 361, 87, 359, 360)) else ((true, 5, 307, 87, 306, 0))) else (bif Nat.ble 38 j then ((false, 0, 265, 87, 264, 4)) else ((true, 3, 247, 87, 246, 0))))))) else (bif Nat.ble 18 j then (bif Nat.ble 27 j then (bif Nat.ble 32 j then (bif Nat.ble 34 j then (bif Nat.ble 35 j then (bif Nat.ble 36 j then ((false, 4, 304, 90, 303, 12)) else ((false, 1, 284, 90, 283, 8))) else ((false, 1, 280, 90, 279, 7))) else (bif Nat.ble 33 j then ((false, 1, 276, 90, 275, 6)) else ((false, 1, 269, 90, 268, 5)))) else (bif Nat.ble 29 j then (bif Nat.ble 30 j then (bif Nat.ble 31 j then ((false, 0, 415, 88, 414, 22)) else ((false, 0, 408, 88, 407, 21))) else ((false, 0, 404, 88, 403, 20))) else (bif Nat.ble 28 j then ((false, 0, 400, 88, 399, 19)) else ((false, 1, 396, 88, 395, 18))))) else (bif Nat.ble 22 j then (bif Nat.ble 24 j then (bif Nat.ble 25 j then (bif Nat.ble 26 j then ((false, 0, 389, 88, 388, 17)) else ((true, 1, 385, 88, 384, 0))) else ((false, 0, 382, 88, 381, 16))) else (bif Nat.ble 23 j then ((false, 0, 377, 88, 376, 15)) else ((false, 1, 365, 88, 364, 14)))) else (bif Nat.ble 20 j then (bif Nat.ble 21 j then ((false, 2, 624, 92, 623, 49)) else ((false, 3, 612, 92, 611, 48))) else (bif Nat.ble 19 j then ((false, 3, 588, 89, 587, 46)) else ((false, 2, 572, 89, 571, 44)))))) else (bif Nat.ble 9 j then (bif Nat.ble 13 j then (bif Nat.ble 15 j then (bif Nat.ble 16 j then (bif Nat.ble 17 j then ((false, 2, 515, 89, 514, 36)) else ((false, 2, 507, 89, 506, 35))) else ((false, 1, 420, 89, 419, 23))) else (bif Nat.ble 14 j then ((false, 1, 261, 89, 260, 3)) else ((false, 3, 257, 89, 256, 2)))) else (bif Nat.ble 11 j then (bif Nat.ble 12 j then ((false, 1, 253, 89, 252, 1)) else ((false, 1, 244, 89, 243, 0))) else (bif Nat.ble 10 j then ((false, 3, 593, 91, 592, 47)) else ((false, 1, 576, 91, 575, 45))))) else (bif Nat.ble 4 j then (bif Nat.ble 6 j then (bif Nat.ble 7 j then (bif Nat.ble 8 j then ((false, 3, 566, 91, 565, 43)) else ((false, 3, 469, 91, 468, 30))) else ((false, 3, 465, 91, 464, 29))) else (bif Nat.ble 5 j then ((false, 3, 461, 91, 460, 28)) else ((false, 3, 449, 91, 448, 27)))) else (bif Nat.ble 2 j then (bif Nat.ble 3 j then ((false, 4, 311, 91, 310, 13)) else ((false, 5, 299, 91, 298, 11))) else (bif Nat.ble 1 j then ((false, 5, 295, 91, 294, 10)) else ((false, 2, 288, 91, 287, 9))))))))
def mx_T (k : Nat) : u_T := match k with
  | 0 => TX0
  | 1 => TX1
  | 2 => TX2
  | 3 => TX3
  | 4 => TX4
  | 5 => TX5
  | _ => TX6
/-- field links: class, index, class of the field, field, place of the word -/
def mx_flP : List (Nat × Nat × Nat × Nat × Nat) := [(0, 9, 0, 0, 208), (0, 15, 0, 1, 210), (0, 18, 0, 2, 212), (1, 9, 1, 0, 118), (1, 15, 1, 1, 122), (1, 18, 1, 2, 124), (1, 22, 1, 3, 128), (1, 25, 1, 4, 132), (2, 9, 2, 0, 227), (2, 15, 2, 1, 228), (2, 18, 2, 2, 229), (2, 21, 2, 3, 230), (3, 9, 3, 0, 148), (3, 18, 3, 1, 149), (3, 22, 3, 2, 151), (3, 26, 3, 3, 153), (3, 29, 3, 4, 154), (3, 32, 3, 5, 155), (3, 35, 3, 6, 157), (4, 9, 4, 0, 181), (4, 15, 4, 1, 185), (4, 18, 4, 2, 188), (4, 21, 4, 3, 190), (5, 10, 5, 0, 312), (5, 19, 5, 1, 313), (5, 26, 5, 2, 314), (5, 33, 5, 3, 315), (5, 37, 5, 4, 316), (5, 40, 5, 5, 317), (5, 43, 5, 6, 318), (5, 47, 5, 7, 319), (5, 51, 5, 8, 320), (5, 54, 5, 9, 321), (5, 60, 5, 10, 322), (5, 64, 5, 11, 323), (5, 68, 5, 12, 324), (5, 71, 5, 13, 325), (5, 74, 5, 14, 326), (6, 7, 6, 1, 689), (6, 13, 6, 12, 700), (6, 16, 6, 13, 701), (6, 19, 6, 14, 702), (6, 22, 6, 15, 703), (6, 25, 6, 17, 705), (6, 28, 6, 18, 706), (6, 32, 6, 19, 707), (6, 35, 6, 20, 708), (6, 38, 6, 21, 709), (6, 41, 6, 24, 712), (6, 44, 6, 25, 713), (6, 47, 6, 26, 714), (6, 50, 6, 27, 715), (6, 53, 6, 28, 716), (6, 56, 6, 30, 718), (6, 59, 6, 31, 719), (6, 65, 6, 10, 698), (6, 80, 6, 0, 688), (6, 91, 6, 29, 717), (6, 106, 6, 2, 690), (6, 109, 6, 3, 691), (6, 115, 6, 5, 693), (6, 118, 6, 4, 692), (6, 121, 6, 6, 694), (6, 128, 6, 7, 695), (6, 138, 6, 11, 699), (6, 157, 6, 8, 696), (6, 160, 6, 9, 697), (6, 167, 6, 22, 710), (6, 170, 6, 16, 704), (6, 173, 6, 23, 711), (6, 247, 6, 32, 720)]
def mx_flN : List (Nat × Nat × Nat × Nat × Nat) := [(0, 27, 1, 3, 129), (0, 33, 1, 0, 119), (0, 36, 1, 2, 126), (0, 50, 4, 3, 191), (0, 92, 4, 0, 184), (0, 95, 4, 1, 187), (1, 51, 4, 1, 186), (1, 54, 4, 0, 183), (3, 53, 1, 3, 130), (3, 59, 1, 4, 135), (3, 65, 1, 2, 127), (3, 72, 1, 0, 121), (4, 25, 1, 1, 123), (4, 34, 1, 4, 133), (5, 81, 1, 2, 125), (5, 95, 3, 2, 152), (5, 105, 3, 5, 156), (5, 108, 3, 1, 150), (5, 115, 1, 4, 134), (5, 118, 2, 3, 231), (5, 128, 1, 0, 120), (5, 131, 4, 3, 192), (5, 139, 4, 0, 182), (5, 149, 4, 2, 189), (5, 162, 0, 0, 209), (5, 170, 0, 1, 211), (5, 223, 1, 3, 131)]
/-- method links: class, index, method, place of the word -/
def mx_mlP : List (Nat × Nat × Nat × Nat) := [(0, 21, 149, 289), (0, 39, 1, 292), (0, 43, 2, 296), (0, 46, 3, 308), (0, 69, 147, 450), (0, 75, 7, 466), (0, 79, 4, 567), (0, 83, 5, 568), (0, 98, 6, 462), (1, 34, 13, 254), (1, 38, 14, 258), (3, 42, 24, 379), (3, 45, 27, 393), (3, 49, 28, 397), (3, 56, 29, 401), (3, 62, 31, 412), (3, 68, 30, 405), (3, 82, 25, 383), (3, 85, 26, 386), (4, 35, 33, 273), (4, 39, 34, 277), (4, 43, 35, 281), (5, 84, 37, 245), (5, 92, 38, 262), (5, 121, 45, 426), (5, 125, 46, 431), (5, 132, 43, 430), (5, 152, 48, 442), (5, 165, 147, 470), (5, 173, 51, 479), (5, 176, 53, 488), (5, 179, 55, 500), (5, 190, 58, 522), (5, 193, 63, 542), (5, 196, 59, 526), (5, 199, 64, 546), (5, 220, 44, 580), (5, 236, 149, 598), (5, 242, 70, 599), (5, 246, 71, 602), (5, 258, 76, 630), (5, 276, 52, 483), (5, 283, 148, 492), (5, 286, 65, 550), (5, 289, 66, 554), (6, 62, 80, 656), (6, 69, 81, 660), (6, 73, 84, 670), (6, 77, 87, 681), (6, 83, 82, 664), (6, 87, 83, 667), (6, 94, 85, 674), (6, 98, 86, 678), (6, 102, 90, 793), (6, 112, 94, 808), (6, 124, 95, 812), (6, 131, 96, 815), (6, 135, 93, 804), (6, 141, 100, 831), (6, 144, 98, 823), (6, 148, 97, 819), (6, 151, 99, 827), (6, 154, 101, 835), (6, 163, 88, 685), (6, 176, 116, 894), (6, 179, 115, 890), (6, 182, 111, 875), (6, 186, 108, 863), (6, 190, 110, 871), (6, 194, 112, 879), (6, 197, 114, 886), (6, 200, 109, 867), (6, 203, 113, 882), (6, 206, 103, 843), (6, 209, 104, 847), (6, 212, 106, 855), (6, 215, 107, 859), (6, 218, 121, 914), (6, 221, 119, 906), (6, 224, 120, 910), (6, 228, 123, 922), (6, 231, 129, 946), (6, 234, 131, 953), (6, 238, 133, 961), (6, 243, 135, 970), (6, 250, 140, 989), (6, 253, 141, 993), (6, 256, 142, 997), (6, 259, 139, 985)]
def mx_mlN : List (Nat × Nat × Nat × Nat) := [(0, 55, 33, 300), (0, 59, 36, 301), (0, 86, 34, 456), (0, 89, 35, 457), (1, 42, 34, 516), (1, 48, 35, 517), (2, 25, 39, 625), (3, 38, 11, 378), (3, 75, 14, 416), (3, 78, 43, 409), (4, 46, 39, 305), (5, 77, 11, 241), (5, 88, 12, 250), (5, 98, 22, 362), (5, 101, 23, 374), (5, 111, 15, 417), (5, 136, 33, 439), (5, 142, 34, 440), (5, 146, 35, 441), (5, 155, 4, 446), (5, 159, 5, 458), (5, 182, 16, 504), (5, 186, 17, 512), (5, 202, 8, 563), (5, 205, 18, 569), (5, 209, 9, 573), (5, 212, 2, 578), (5, 216, 3, 579), (5, 226, 19, 585), (5, 229, 1, 589), (5, 232, 10, 590), (5, 250, 20, 609), (5, 254, 21, 621), (5, 269, 32, 266), (5, 272, 0, 285), (5, 279, 7, 487), (5, 292, 6, 558), (5, 296, 36, 634)]
def mx_acl : List (Nat × Nat × Nat) := [(0, 63, 577), (1, 28, 421), (4, 28, 270)]
def mx_mxl : List (Nat × Nat × Nat) := [(5, 261, 635)]
def mx_mnl : List (Nat × Nat × Nat) := [(3, 88, 390)]
def mx_csl : List (Nat × Nat × Nat × Nat) := [(8, 265, 1431655765, 453), (8, 266, 858993459, 454), (8, 267, 252645135, 455), (8, 264, 65536, 495)]
def mx_cll : List (Nat × Nat × Nat × Nat) := [(6, 241, 10, 969)]
def mx_len (i : Instr) : Nat := match i with
  | .iload _ => 2
  | .lload _ => 2
  | .aload _ => 2
  | .istore _ => 2
  | .lstore _ => 2
  | .astore _ => 2
  | .bipush _ => 2
  | .sipush _ => 3
  | .ldc_w _ => 3
  | .ldc2_w _ => 3
  | .iinc _ _ => 3
  | .goto _ => 3
  | .ifCond _ _ => 3
  | .if_icmp _ _ => 3
  | .getfield _ => 3
  | .putfield _ => 3
  | .getstatic _ => 3
  | .invokevirtual _ => 3
  | .invokestatic _ => 3
  | _ => 1
def mx_pc (mi j : Nat) : Nat := match mx_row mi j with
  | some r => r.1
  | none => 0
/-- a link of a list of links -/
def mx_inF (l : List (Nat × Nat × Nat × Nat × Nat)) (own idx a b : Nat) : Bool := l.any (fun e => e.1 == own && e.2.1 == idx && e.2.2.1 == a && e.2.2.2.1 == b)
def mx_inM (l : List (Nat × Nat × Nat × Nat)) (own idx a : Nat) : Bool := l.any (fun e => e.1 == own && e.2.1 == idx && e.2.2.1 == a)
def mx_nx (mi pc : Nat) (ins : Instr) (nx : Nat) : Bool := mx_pc mi nx == pc + mx_len ins
def mx_ex (mi : Nat) (ins : Instr) (a b : Nat) (x : Int32) : Bool := match ins with
  | .iconst n => decide (Int32.ofInt n = x)
  | .bipush n => decide ((Int8.ofInt n).toInt32 = x)
  | .sipush n => decide ((Int16.ofInt n).toInt32 = x)
  | .lconst n => (n : Nat) == a
  | .ldc_w idx => mx_csl.any (fun e => e.1 == mx_own mi && e.2.1 == idx && decide (Int32.ofNat e.2.2.1 = x))
  | .ldc2_w idx => mx_inM mx_cll (mx_own mi) idx a
  | .iload_n k => (k : Nat) == a
  | .lload_n k => (k : Nat) == a
  | .aload_n k => (k : Nat) == a
  | .istore_n k => (k : Nat) == a
  | .lstore_n k => (k : Nat) == a
  | .astore_n k => (k : Nat) == a
  | .iload k => k == a
  | .lload k => k == a
  | .aload k => k == a
  | .istore k => k == a
  | .lstore k => k == a
  | .astore k => k == a
  | .iinc i n => i == a && decide (Int32.ofInt n = x)
  | .getfield idx => mx_inF mx_flP (mx_own mi) idx a b || mx_inF mx_flN (mx_own mi) idx a b
  | .putfield idx => (mx_inF mx_flP (mx_own mi) idx a b || mx_inF mx_flN (mx_own mi) idx a b) && !((mx_T a b).2.2.2)
  | .getstatic idx => mx_own mi == 5 && idx == 266
  | .invokevirtual idx => (mx_inM mx_mlP (mx_own mi) idx a || mx_inM mx_mlN (mx_own mi) idx a) && !((mx_ps a).1) && (mx_ps a).2.1 + 1 == b
  | .invokestatic idx => if b = 99 then mx_acl.any (fun e => e.1 == mx_own mi && e.2.1 == idx) else if b = 98 then mx_mxl.any (fun e => e.1 == mx_own mi && e.2.1 == idx) else if b = 97 then mx_mnl.any (fun e => e.1 == mx_own mi && e.2.1 == idx) else (mx_inM mx_mlP (mx_own mi) idx a || mx_inM mx_mlN (mx_own mi) idx a) && (mx_ps a).1 && (mx_ps a).2.1 == b
  | _ => true
def mx_dc (mi pc : Nat) (ins : Instr) : Bool := decide (decode (mx_code mi) pc = .ok (ins, mx_len ins))
def mx_ck (mi pc : Nat) (ins : Instr) (nx a b : Nat) (x : Int32) : Bool := match ins with
  | .tableswitch _ _ _ _ => true
  | .lookupswitch _ _ => true
  | .ireturn => mx_dc mi pc .ireturn
  | .lreturn => mx_dc mi pc .lreturn
  | .return_ => mx_dc mi pc .return_
  | .goto off => mx_dc mi pc (.goto off) && decide ((pc : Int) + off = (mx_pc mi nx : Int))
  | .ifCond q off => mx_dc mi pc (.ifCond q off) && mx_nx mi pc (.ifCond q off) nx && decide ((pc : Int) + off = (mx_pc mi a : Int))
  | .if_icmp q off => mx_dc mi pc (.if_icmp q off) && mx_nx mi pc (.if_icmp q off) nx && decide ((pc : Int) + off = (mx_pc mi a : Int))
  | i => mx_dc mi pc i && mx_nx mi pc i nx && mx_ex mi i a b x
def mx_ckj (mi j : Nat) : Bool := match mx_row mi j with
  | none => false
  | some (pc, ins, nx, a, b, x) => mx_ck mi pc ins nx a b x
def mx_ckM (mi : Nat) : Bool := (List.range (mx_n mi)).all (mx_ckj mi)
abbrev mx_fw (e : Nat × Nat × Nat × Nat × Nat) : Cond := .fieldLink (mx_cn e.1) e.2.1 (mx_cn e.2.2.1) (mx_T e.2.2.1 e.2.2.2.1).2.1 (mx_T e.2.2.1 e.2.2.2.1).2.2.1
abbrev mx_fwN (e : Nat × Nat × Nat × Nat × Nat) : Cond := .fieldLinkNest (mx_cn e.1) e.2.1 (mx_cn e.2.2.1) (mx_T e.2.2.1 e.2.2.2.1).2.1 (mx_T e.2.2.1 e.2.2.2.1).2.2.1 "MotionDesk"
abbrev mx_mw (e : Nat × Nat × Nat × Nat) : Cond := .methodLink (mx_cn e.1) e.2.1 (mx_y e.2.2.1)
abbrev mx_mwN (e : Nat × Nat × Nat × Nat) : Cond := .methodLinkNest (mx_cn e.1) e.2.1 (mx_y e.2.2.1) "MotionDesk"
theorem mx_flP_ok : mx_flP.all (fun e => decide (lw_tbl[e.2.2.2.2]? = some (mx_fw e))) = true := by decide +kernel
theorem mx_flN_ok : mx_flN.all (fun e => decide (lw_tbl[e.2.2.2.2]? = some (mx_fwN e))) = true := by decide +kernel
theorem mx_mlP_ok : mx_mlP.all (fun e => decide (lw_tbl[e.2.2.2]? = some (mx_mw e))) = true := by decide +kernel
theorem mx_mlN_ok : mx_mlN.all (fun e => decide (lw_tbl[e.2.2.2]? = some (mx_mwN e))) = true := by decide +kernel
theorem mx_acl_ok : mx_acl.all (fun e => decide (lw_tbl[e.2.2]? = some (.methodLink (mx_cn e.1) e.2.1 arraycopyName))) = true := by decide +kernel
theorem mx_mxl_ok : mx_mxl.all (fun e => decide (lw_tbl[e.2.2]? = some (.methodLink (mx_cn e.1) e.2.1 Lib.Math.max.name))) = true := by decide +kernel
theorem mx_mxl_w : lw_tbl[636]? = some (.static Lib.Math.max.name) ∧ lw_tbl[96]? = some (.initialized "java/lang/Math") ∧ lw_tbl[637]? = some (.code Lib.Math.max.name Lib.Math.max.code 2 (some .int)) := by decide +kernel
theorem mx_mnl_ok : mx_mnl.all (fun e => decide (lw_tbl[e.2.2]? = some (.methodLink (mx_cn e.1) e.2.1 Lib.Math.min.name))) = true := by decide +kernel
theorem mx_mnl_w : lw_tbl[391]? = some (.static Lib.Math.min.name) ∧ lw_tbl[96]? = some (.initialized "java/lang/Math") ∧ lw_tbl[392]? = some (.code Lib.Math.min.name Lib.Math.min.code 2 (some .int)) := by decide +kernel
theorem mx_ac_w : lw_tbl[272]? = some (.native arraycopyName) ∧ lw_tbl[271]? = some (.static arraycopyName) ∧ lw_tbl[93]? = some (.initialized "java/lang/System") := by decide +kernel
theorem mx_csl_ok : mx_csl.all (fun e => decide (lw_tbl[e.2.2.2]? = some (.constant (mx_cn e.1) e.2.1 (Int32.ofNat e.2.2.1)))) = true := by decide +kernel
theorem mx_cll_ok : mx_cll.all (fun e => decide (lw_tbl[e.2.2.2]? = some (.constantLong (mx_cn e.1) e.2.1 (Int64.ofNat e.2.2.1)))) = true := by decide +kernel
theorem mx_so_ok : lw_tbl[248]? = some (.fieldLink "MotionDesk" 266 "MotionDesk" "ORDERS" "[I") := by decide +kernel
/-- the words of a method itself -/
def mx_mck (k : Nat) : Bool := decide (lw_tbl[(mx_ps k).2.2.1]? = some (.code (mx_y k) (mx_code k) (mx_maxL k) (mx_ret k))) && decide (lw_tbl[(mx_ps k).2.2.2.1]? = some (.initialized (mx_y k).cls)) && decide ((mx_y k).cls ≠ "java/lang/invoke/MethodHandle") && decide ((mx_y k).cls ≠ "java/lang/invoke/VarHandle") && decide ((parseMethodDescriptor (mx_y k).desc).map (fun d => d.parameters.length) = some (mx_ps k).2.1) && plainName (mx_y k).cls && decide (mx_maxL k ≤ 24) && decide ((mx_y k).cls = mx_cn (mx_own k)) && (if (mx_ps k).1 then decide (lw_tbl[(mx_ps k).2.2.2.2.1]? = some (.static (mx_y k))) else decide (lw_tbl[(mx_ps k).2.2.2.2.1]? = some (.instanceMethod (mx_y k))) && decide (lw_tbl[(mx_ps k).2.2.2.2.2]? = some (.selects (mx_y k).cls (mx_y k) (mx_y k))))
theorem mx_mok0 : mx_mck 0 = true := by decide +kernel
theorem mx_mok1 : mx_mck 1 = true := by decide +kernel
theorem mx_mok2 : mx_mck 2 = true := by decide +kernel
theorem mx_mok3 : mx_mck 3 = true := by decide +kernel
theorem mx_mok4 : mx_mck 4 = true := by decide +kernel
theorem mx_mok5 : mx_mck 5 = true := by decide +kernel
theorem mx_mok6 : mx_mck 6 = true := by decide +kernel
theorem mx_mok7 : mx_mck 7 = true := by decide +kernel
theorem mx_mok8 : mx_mck 8 = true := by decide +kernel
theorem mx_mok9 : mx_mck 9 = true := by decide +kernel
theorem mx_mok10 : mx_mck 10 = true := by decide +kernel
theorem mx_mok11 : mx_mck 11 = true := by decide +kernel
theorem mx_mok12 : mx_mck 12 = true := by decide +kernel
theorem mx_mok13 : mx_mck 13 = true := by decide +kernel
theorem mx_mok14 : mx_mck 14 = true := by decide +kernel
theorem mx_mok15 : mx_mck 15 = true := by decide +kernel
theorem mx_mok16 : mx_mck 16 = true := by decide +kernel
theorem mx_mok17 : mx_mck 17 = true := by decide +kernel
theorem mx_mok18 : mx_mck 18 = true := by decide +kernel
theorem mx_mok19 : mx_mck 19 = true := by decide +kernel
theorem mx_mok20 : mx_mck 20 = true := by decide +kernel
theorem mx_mok21 : mx_mck 21 = true := by decide +kernel
theorem mx_mok22 : mx_mck 22 = true := by decide +kernel
theorem mx_mok23 : mx_mck 23 = true := by decide +kernel
theorem mx_mok24 : mx_mck 24 = true := by decide +kernel
theorem mx_mok25 : mx_mck 25 = true := by decide +kernel
theorem mx_mok26 : mx_mck 26 = true := by decide +kernel
theorem mx_mok27 : mx_mck 27 = true := by decide +kernel
theorem mx_mok28 : mx_mck 28 = true := by decide +kernel
theorem mx_mok29 : mx_mck 29 = true := by decide +kernel
theorem mx_mok30 : mx_mck 30 = true := by decide +kernel
theorem mx_mok31 : mx_mck 31 = true := by decide +kernel
theorem mx_mok32 : mx_mck 32 = true := by decide +kernel
theorem mx_mok33 : mx_mck 33 = true := by decide +kernel
theorem mx_mok34 : mx_mck 34 = true := by decide +kernel
theorem mx_mok35 : mx_mck 35 = true := by decide +kernel
theorem mx_mok36 : mx_mck 36 = true := by decide +kernel
theorem mx_mok37 : mx_mck 37 = true := by decide +kernel
theorem mx_mok38 : mx_mck 38 = true := by decide +kernel
theorem mx_mok39 : mx_mck 39 = true := by decide +kernel
theorem mx_mok40 : mx_mck 40 = true := by decide +kernel
theorem mx_mok41 : mx_mck 41 = true := by decide +kernel
theorem mx_mok42 : mx_mck 42 = true := by decide +kernel
theorem mx_mok43 : mx_mck 43 = true := by decide +kernel
theorem mx_mok44 : mx_mck 44 = true := by decide +kernel
theorem mx_mok45 : mx_mck 45 = true := by decide +kernel
theorem mx_mok46 : mx_mck 46 = true := by decide +kernel
theorem mx_mok47 : mx_mck 47 = true := by decide +kernel
theorem mx_mok48 : mx_mck 48 = true := by decide +kernel
theorem mx_mok49 : mx_mck 49 = true := by decide +kernel
theorem mx_mok50 : mx_mck 50 = true := by decide +kernel
theorem mx_mok51 : mx_mck 51 = true := by decide +kernel
theorem mx_mok52 : mx_mck 52 = true := by decide +kernel
theorem mx_mok53 : mx_mck 53 = true := by decide +kernel
theorem mx_mok54 : mx_mck 54 = true := by decide +kernel
theorem mx_mok55 : mx_mck 55 = true := by decide +kernel
theorem mx_mok56 : mx_mck 56 = true := by decide +kernel
theorem mx_mok57 : mx_mck 57 = true := by decide +kernel
theorem mx_mok58 : mx_mck 58 = true := by decide +kernel
theorem mx_mok59 : mx_mck 59 = true := by decide +kernel
theorem mx_mok60 : mx_mck 60 = true := by decide +kernel
theorem mx_mok61 : mx_mck 61 = true := by decide +kernel
theorem mx_mok62 : mx_mck 62 = true := by decide +kernel
theorem mx_mok63 : mx_mck 63 = true := by decide +kernel
theorem mx_mok64 : mx_mck 64 = true := by decide +kernel
theorem mx_mok65 : mx_mck 65 = true := by decide +kernel
theorem mx_mok66 : mx_mck 66 = true := by decide +kernel
theorem mx_mok67 : mx_mck 67 = true := by decide +kernel
theorem mx_mok68 : mx_mck 68 = true := by decide +kernel
theorem mx_mok69 : mx_mck 69 = true := by decide +kernel
theorem mx_mok70 : mx_mck 70 = true := by decide +kernel
theorem mx_mok71 : mx_mck 71 = true := by decide +kernel
theorem mx_mok72 : mx_mck 72 = true := by decide +kernel
theorem mx_mok73 : mx_mck 73 = true := by decide +kernel
theorem mx_mok74 : mx_mck 74 = true := by decide +kernel
theorem mx_mok75 : mx_mck 75 = true := by decide +kernel
theorem mx_mok76 : mx_mck 76 = true := by decide +kernel
theorem mx_mok77 : mx_mck 77 = true := by decide +kernel
theorem mx_mok78 : mx_mck 78 = true := by decide +kernel
theorem mx_mok79 : mx_mck 79 = true := by decide +kernel
theorem mx_mok80 : mx_mck 80 = true := by decide +kernel
theorem mx_mok81 : mx_mck 81 = true := by decide +kernel
theorem mx_mok82 : mx_mck 82 = true := by decide +kernel
theorem mx_mok83 : mx_mck 83 = true := by decide +kernel
theorem mx_mok84 : mx_mck 84 = true := by decide +kernel
theorem mx_mok85 : mx_mck 85 = true := by decide +kernel
theorem mx_mok86 : mx_mck 86 = true := by decide +kernel
theorem mx_mok87 : mx_mck 87 = true := by decide +kernel
theorem mx_mok88 : mx_mck 88 = true := by decide +kernel
theorem mx_mok89 : mx_mck 89 = true := by decide +kernel
theorem mx_mok90 : mx_mck 90 = true := by decide +kernel
theorem mx_mok91 : mx_mck 91 = true := by decide +kernel
theorem mx_mok92 : mx_mck 92 = true := by decide +kernel
theorem mx_mok93 : mx_mck 93 = true := by decide +kernel
theorem mx_mok94 : mx_mck 94 = true := by decide +kernel
theorem mx_mok95 : mx_mck 95 = true := by decide +kernel
theorem mx_mok96 : mx_mck 96 = true := by decide +kernel
theorem mx_mok97 : mx_mck 97 = true := by decide +kernel
theorem mx_mok98 : mx_mck 98 = true := by decide +kernel
theorem mx_mok99 : mx_mck 99 = true := by decide +kernel
theorem mx_mok100 : mx_mck 100 = true := by decide +kernel
theorem mx_mok101 : mx_mck 101 = true := by decide +kernel
theorem mx_mok102 : mx_mck 102 = true := by decide +kernel
theorem mx_mok103 : mx_mck 103 = true := by decide +kernel
theorem mx_mok104 : mx_mck 104 = true := by decide +kernel
theorem mx_mok105 : mx_mck 105 = true := by decide +kernel
theorem mx_mok106 : mx_mck 106 = true := by decide +kernel
theorem mx_mok107 : mx_mck 107 = true := by decide +kernel
theorem mx_mok108 : mx_mck 108 = true := by decide +kernel
theorem mx_mok109 : mx_mck 109 = true := by decide +kernel
theorem mx_mok110 : mx_mck 110 = true := by decide +kernel
theorem mx_mok111 : mx_mck 111 = true := by decide +kernel
theorem mx_mok112 : mx_mck 112 = true := by decide +kernel
theorem mx_mok113 : mx_mck 113 = true := by decide +kernel
theorem mx_mok114 : mx_mck 114 = true := by decide +kernel
theorem mx_mok115 : mx_mck 115 = true := by decide +kernel
theorem mx_mok116 : mx_mck 116 = true := by decide +kernel
theorem mx_mok117 : mx_mck 117 = true := by decide +kernel
theorem mx_mok118 : mx_mck 118 = true := by decide +kernel
theorem mx_mok119 : mx_mck 119 = true := by decide +kernel
theorem mx_mok120 : mx_mck 120 = true := by decide +kernel
theorem mx_mok121 : mx_mck 121 = true := by decide +kernel
theorem mx_mok122 : mx_mck 122 = true := by decide +kernel
theorem mx_mok123 : mx_mck 123 = true := by decide +kernel
theorem mx_mok124 : mx_mck 124 = true := by decide +kernel
theorem mx_mok125 : mx_mck 125 = true := by decide +kernel
theorem mx_mok126 : mx_mck 126 = true := by decide +kernel
theorem mx_mok127 : mx_mck 127 = true := by decide +kernel
theorem mx_mok128 : mx_mck 128 = true := by decide +kernel
theorem mx_mok129 : mx_mck 129 = true := by decide +kernel
theorem mx_mok130 : mx_mck 130 = true := by decide +kernel
theorem mx_mok131 : mx_mck 131 = true := by decide +kernel
theorem mx_mok132 : mx_mck 132 = true := by decide +kernel
theorem mx_mok133 : mx_mck 133 = true := by decide +kernel
theorem mx_mok134 : mx_mck 134 = true := by decide +kernel
theorem mx_mok135 : mx_mck 135 = true := by decide +kernel
theorem mx_mok136 : mx_mck 136 = true := by decide +kernel
theorem mx_mok137 : mx_mck 137 = true := by decide +kernel
theorem mx_mok138 : mx_mck 138 = true := by decide +kernel
theorem mx_mok139 : mx_mck 139 = true := by decide +kernel
theorem mx_mok140 : mx_mck 140 = true := by decide +kernel
theorem mx_mok141 : mx_mck 141 = true := by decide +kernel
theorem mx_mok142 : mx_mck 142 = true := by decide +kernel
theorem mx_mok143 : mx_mck 143 = true := by decide +kernel
theorem mx_mok144 : mx_mck 144 = true := by decide +kernel
theorem mx_mok145 : mx_mck 145 = true := by decide +kernel
theorem mx_mok146 : mx_mck 146 = true := by decide +kernel
theorem mx_mok147 : mx_mck 147 = true := by decide +kernel
theorem mx_mok148 : mx_mck 148 = true := by decide +kernel
theorem mx_mok149 : mx_mck 149 = true := by decide +kernel
theorem mx_mok (mi : Nat) (h : mi < 150) : mx_mck mi = true := by
  match mi, h with
  | 0, _ => exact mx_mok0
  | 1, _ => exact mx_mok1
  | 2, _ => exact mx_mok2
  | 3, _ => exact mx_mok3
  | 4, _ => exact mx_mok4
  | 5, _ => exact mx_mok5
  | 6, _ => exact mx_mok6
  | 7, _ => exact mx_mok7
  | 8, _ => exact mx_mok8
  | 9, _ => exact mx_mok9
  | 10, _ => exact mx_mok10
  | 11, _ => exact mx_mok11
  | 12, _ => exact mx_mok12
  | 13, _ => exact mx_mok13
  | 14, _ => exact mx_mok14
  | 15, _ => exact mx_mok15
  | 16, _ => exact mx_mok16
  | 17, _ => exact mx_mok17
  | 18, _ => exact mx_mok18
  | 19, _ => exact mx_mok19
  | 20, _ => exact mx_mok20
  | 21, _ => exact mx_mok21
  | 22, _ => exact mx_mok22
  | 23, _ => exact mx_mok23
  | 24, _ => exact mx_mok24
  | 25, _ => exact mx_mok25
  | 26, _ => exact mx_mok26
  | 27, _ => exact mx_mok27
  | 28, _ => exact mx_mok28
  | 29, _ => exact mx_mok29
  | 30, _ => exact mx_mok30
  | 31, _ => exact mx_mok31
  | 32, _ => exact mx_mok32
  | 33, _ => exact mx_mok33
  | 34, _ => exact mx_mok34
  | 35, _ => exact mx_mok35
  | 36, _ => exact mx_mok36
  | 37, _ => exact mx_mok37
  | 38, _ => exact mx_mok38
  | 39, _ => exact mx_mok39
  | 40, _ => exact mx_mok40
  | 41, _ => exact mx_mok41
  | 42, _ => exact mx_mok42
  | 43, _ => exact mx_mok43
  | 44, _ => exact mx_mok44
  | 45, _ => exact mx_mok45
  | 46, _ => exact mx_mok46
  | 47, _ => exact mx_mok47
  | 48, _ => exact mx_mok48
  | 49, _ => exact mx_mok49
  | 50, _ => exact mx_mok50
  | 51, _ => exact mx_mok51
  | 52, _ => exact mx_mok52
  | 53, _ => exact mx_mok53
  | 54, _ => exact mx_mok54
  | 55, _ => exact mx_mok55
  | 56, _ => exact mx_mok56
  | 57, _ => exact mx_mok57
  | 58, _ => exact mx_mok58
  | 59, _ => exact mx_mok59
  | 60, _ => exact mx_mok60
  | 61, _ => exact mx_mok61
  | 62, _ => exact mx_mok62
  | 63, _ => exact mx_mok63
  | 64, _ => exact mx_mok64
  | 65, _ => exact mx_mok65
  | 66, _ => exact mx_mok66
  | 67, _ => exact mx_mok67
  | 68, _ => exact mx_mok68
  | 69, _ => exact mx_mok69
  | 70, _ => exact mx_mok70
  | 71, _ => exact mx_mok71
  | 72, _ => exact mx_mok72
  | 73, _ => exact mx_mok73
  | 74, _ => exact mx_mok74
  | 75, _ => exact mx_mok75
  | 76, _ => exact mx_mok76
  | 77, _ => exact mx_mok77
  | 78, _ => exact mx_mok78
  | 79, _ => exact mx_mok79
  | 80, _ => exact mx_mok80
  | 81, _ => exact mx_mok81
  | 82, _ => exact mx_mok82
  | 83, _ => exact mx_mok83
  | 84, _ => exact mx_mok84
  | 85, _ => exact mx_mok85
  | 86, _ => exact mx_mok86
  | 87, _ => exact mx_mok87
  | 88, _ => exact mx_mok88
  | 89, _ => exact mx_mok89
  | 90, _ => exact mx_mok90
  | 91, _ => exact mx_mok91
  | 92, _ => exact mx_mok92
  | 93, _ => exact mx_mok93
  | 94, _ => exact mx_mok94
  | 95, _ => exact mx_mok95
  | 96, _ => exact mx_mok96
  | 97, _ => exact mx_mok97
  | 98, _ => exact mx_mok98
  | 99, _ => exact mx_mok99
  | 100, _ => exact mx_mok100
  | 101, _ => exact mx_mok101
  | 102, _ => exact mx_mok102
  | 103, _ => exact mx_mok103
  | 104, _ => exact mx_mok104
  | 105, _ => exact mx_mok105
  | 106, _ => exact mx_mok106
  | 107, _ => exact mx_mok107
  | 108, _ => exact mx_mok108
  | 109, _ => exact mx_mok109
  | 110, _ => exact mx_mok110
  | 111, _ => exact mx_mok111
  | 112, _ => exact mx_mok112
  | 113, _ => exact mx_mok113
  | 114, _ => exact mx_mok114
  | 115, _ => exact mx_mok115
  | 116, _ => exact mx_mok116
  | 117, _ => exact mx_mok117
  | 118, _ => exact mx_mok118
  | 119, _ => exact mx_mok119
  | 120, _ => exact mx_mok120
  | 121, _ => exact mx_mok121
  | 122, _ => exact mx_mok122
  | 123, _ => exact mx_mok123
  | 124, _ => exact mx_mok124
  | 125, _ => exact mx_mok125
  | 126, _ => exact mx_mok126
  | 127, _ => exact mx_mok127
  | 128, _ => exact mx_mok128
  | 129, _ => exact mx_mok129
  | 130, _ => exact mx_mok130
  | 131, _ => exact mx_mok131
  | 132, _ => exact mx_mok132
  | 133, _ => exact mx_mok133
  | 134, _ => exact mx_mok134
  | 135, _ => exact mx_mok135
  | 136, _ => exact mx_mok136
  | 137, _ => exact mx_mok137
  | 138, _ => exact mx_mok138
  | 139, _ => exact mx_mok139
  | 140, _ => exact mx_mok140
  | 141, _ => exact mx_mok141
  | 142, _ => exact mx_mok142
  | 143, _ => exact mx_mok143
  | 144, _ => exact mx_mok144
  | 145, _ => exact mx_mok145
  | 146, _ => exact mx_mok146
  | 147, _ => exact mx_mok147
  | 148, _ => exact mx_mok148
  | 149, _ => exact mx_mok149
  | k + 150, h => exact absurd h (by omega)
def mx_good : List Cond := lw_tbl.filter goodWord
end
section
set_option maxRecDepth 20000 in
theorem mx_ok0 : mx_ckM 0 = true := by decide +kernel
set_option maxRecDepth 20000 in
theorem mx_ok1 : mx_ckM 1 = true := by decide +kernel
set_option maxRecDepth 20000 in
theorem mx_ok2 : mx_ckM 2 = true := by decide +kernel
set_option maxRecDepth 20000 in
theorem mx_ok3 : mx_ckM 3 = true := by decide +kernel
set_option maxRecDepth 20000 in
theorem mx_ok4 : mx_ckM 4 = true := by decide +kernel
set_option maxRecDepth 20000 in
theorem mx_ok5 : mx_ckM 5 = true := by decide +kernel
set_option maxRecDepth 20000 in
theorem mx_ok6 : mx_ckM 6 = true := by decide +kernel
set_option maxRecDepth 20000 in
theorem mx_ok7 : mx_ckM 7 = true := by decide +kernel
set_option maxRecDepth 20000 in
theorem mx_ok8 : mx_ckM 8 = true := by decide +kernel
set_option maxRecDepth 20000 in
theorem mx_ok9 : mx_ckM 9 = true := by decide +kernel
set_option maxRecDepth 20000 in
theorem mx_ok10 : mx_ckM 10 = true := by decide +kernel
set_option maxRecDepth 20000 in
theorem mx_ok11 : mx_ckM 11 = true := by decide +kernel
set_option maxRecDepth 20000 in
theorem mx_ok12 : mx_ckM 12 = true := by decide +kernel
set_option maxRecDepth 20000 in
theorem mx_ok13 : mx_ckM 13 = true := by decide +kernel
set_option maxRecDepth 20000 in
theorem mx_ok14 : mx_ckM 14 = true := by decide +kernel
set_option maxRecDepth 20000 in
theorem mx_ok15 : mx_ckM 15 = true := by decide +kernel
set_option maxRecDepth 20000 in
theorem mx_ok16 : mx_ckM 16 = true := by decide +kernel
set_option maxRecDepth 20000 in
theorem mx_ok17 : mx_ckM 17 = true := by decide +kernel
set_option maxRecDepth 20000 in
theorem mx_ok18 : mx_ckM 18 = true := by decide +kernel
set_option maxRecDepth 20000 in
theorem mx_ok19 : mx_ckM 19 = true := by decide +kernel
set_option maxRecDepth 20000 in
theorem mx_ok20 : mx_ckM 20 = true := by decide +kernel
set_option maxRecDepth 20000 in
theorem mx_ok21 : mx_ckM 21 = true := by decide +kernel
set_option maxRecDepth 20000 in
theorem mx_ok22 : mx_ckM 22 = true := by decide +kernel
set_option maxRecDepth 20000 in
theorem mx_ok23 : mx_ckM 23 = true := by decide +kernel
set_option maxRecDepth 20000 in
theorem mx_ok24 : mx_ckM 24 = true := by decide +kernel
set_option maxRecDepth 20000 in
theorem mx_ok25 : mx_ckM 25 = true := by decide +kernel
set_option maxRecDepth 20000 in
theorem mx_ok26 : mx_ckM 26 = true := by decide +kernel
set_option maxRecDepth 20000 in
theorem mx_ok27 : mx_ckM 27 = true := by decide +kernel
set_option maxRecDepth 20000 in
theorem mx_ok28 : mx_ckM 28 = true := by decide +kernel
set_option maxRecDepth 20000 in
theorem mx_ok29 : mx_ckM 29 = true := by decide +kernel
set_option maxRecDepth 20000 in
theorem mx_ok30 : mx_ckM 30 = true := by decide +kernel
set_option maxRecDepth 20000 in
theorem mx_ok31 : mx_ckM 31 = true := by decide +kernel
set_option maxRecDepth 20000 in
theorem mx_ok32 : mx_ckM 32 = true := by decide +kernel
set_option maxRecDepth 20000 in
theorem mx_ok33 : mx_ckM 33 = true := by decide +kernel
set_option maxRecDepth 20000 in
theorem mx_ok34 : mx_ckM 34 = true := by decide +kernel
set_option maxRecDepth 20000 in
theorem mx_ok35 : mx_ckM 35 = true := by decide +kernel
set_option maxRecDepth 20000 in
theorem mx_ok36 : mx_ckM 36 = true := by decide +kernel
set_option maxRecDepth 20000 in
theorem mx_ok37 : mx_ckM 37 = true := by decide +kernel
set_option maxRecDepth 20000 in
theorem mx_ok38 : mx_ckM 38 = true := by decide +kernel
set_option maxRecDepth 20000 in
theorem mx_ok39 : mx_ckM 39 = true := by decide +kernel
set_option maxRecDepth 20000 in
theorem mx_ok40 : mx_ckM 40 = true := by decide +kernel
set_option maxRecDepth 20000 in
theorem mx_ok41 : mx_ckM 41 = true := by decide +kernel
set_option maxRecDepth 20000 in
theorem mx_ok42 : mx_ckM 42 = true := by decide +kernel
set_option maxRecDepth 20000 in
theorem mx_ok43 : mx_ckM 43 = true := by decide +kernel
set_option maxRecDepth 20000 in
theorem mx_ok44 : mx_ckM 44 = true := by decide +kernel
set_option maxRecDepth 20000 in
theorem mx_ok45 : mx_ckM 45 = true := by decide +kernel
set_option maxRecDepth 20000 in
theorem mx_ok46 : mx_ckM 46 = true := by decide +kernel
set_option maxRecDepth 20000 in
theorem mx_ok47 : mx_ckM 47 = true := by decide +kernel
set_option maxRecDepth 20000 in
theorem mx_ok48 : mx_ckM 48 = true := by decide +kernel
set_option maxRecDepth 20000 in
theorem mx_ok49 : mx_ckM 49 = true := by decide +kernel
set_option maxRecDepth 20000 in
theorem mx_ok50 : mx_ckM 50 = true := by decide +kernel
set_option maxRecDepth 20000 in
theorem mx_ok51 : mx_ckM 51 = true := by decide +kernel
set_option maxRecDepth 20000 in
theorem mx_ok52 : mx_ckM 52 = true := by decide +kernel
set_option maxRecDepth 20000 in
theorem mx_ok53 : mx_ckM 53 = true := by decide +kernel
set_option maxRecDepth 20000 in
theorem mx_ok54 : mx_ckM 54 = true := by decide +kernel
set_option maxRecDepth 20000 in
theorem mx_ok55 : mx_ckM 55 = true := by decide +kernel
set_option maxRecDepth 20000 in
theorem mx_ok56 : mx_ckM 56 = true := by decide +kernel
set_option maxRecDepth 20000 in
theorem mx_ok57 : mx_ckM 57 = true := by decide +kernel
set_option maxRecDepth 20000 in
theorem mx_ok58 : mx_ckM 58 = true := by decide +kernel
set_option maxRecDepth 20000 in
theorem mx_ok59 : mx_ckM 59 = true := by decide +kernel
set_option maxRecDepth 20000 in
theorem mx_ok60 : mx_ckM 60 = true := by decide +kernel
set_option maxRecDepth 20000 in
theorem mx_ok61 : mx_ckM 61 = true := by decide +kernel
set_option maxRecDepth 20000 in
theorem mx_ok62 : mx_ckM 62 = true := by decide +kernel
set_option maxRecDepth 20000 in
theorem mx_ok63 : mx_ckM 63 = true := by decide +kernel
set_option maxRecDepth 20000 in
theorem mx_ok64 : mx_ckM 64 = true := by decide +kernel
set_option maxRecDepth 20000 in
theorem mx_ok65 : mx_ckM 65 = true := by decide +kernel
set_option maxRecDepth 20000 in
theorem mx_ok66 : mx_ckM 66 = true := by decide +kernel
set_option maxRecDepth 20000 in
theorem mx_ok67 : mx_ckM 67 = true := by decide +kernel
set_option maxRecDepth 20000 in
theorem mx_ok68 : mx_ckM 68 = true := by decide +kernel
set_option maxRecDepth 20000 in
theorem mx_ok69 : mx_ckM 69 = true := by decide +kernel
set_option maxRecDepth 20000 in
theorem mx_ok70 : mx_ckM 70 = true := by decide +kernel
set_option maxRecDepth 20000 in
theorem mx_ok71 : mx_ckM 71 = true := by decide +kernel
set_option maxRecDepth 20000 in
theorem mx_ok72 : mx_ckM 72 = true := by decide +kernel
set_option maxRecDepth 20000 in
theorem mx_ok73 : mx_ckM 73 = true := by decide +kernel
set_option maxRecDepth 20000 in
theorem mx_ok74 : mx_ckM 74 = true := by decide +kernel
set_option maxRecDepth 20000 in
theorem mx_ok75 : mx_ckM 75 = true := by decide +kernel
set_option maxRecDepth 20000 in
theorem mx_ok76 : mx_ckM 76 = true := by decide +kernel
set_option maxRecDepth 20000 in
theorem mx_ok77 : mx_ckM 77 = true := by decide +kernel
set_option maxRecDepth 20000 in
theorem mx_ok78 : mx_ckM 78 = true := by decide +kernel
set_option maxRecDepth 20000 in
theorem mx_ok79 : mx_ckM 79 = true := by decide +kernel
set_option maxRecDepth 20000 in
theorem mx_ok80 : mx_ckM 80 = true := by decide +kernel
set_option maxRecDepth 20000 in
theorem mx_ok81 : mx_ckM 81 = true := by decide +kernel
set_option maxRecDepth 20000 in
theorem mx_ok82 : mx_ckM 82 = true := by decide +kernel
set_option maxRecDepth 20000 in
theorem mx_ok83 : mx_ckM 83 = true := by decide +kernel
set_option maxRecDepth 20000 in
theorem mx_ok84 : mx_ckM 84 = true := by decide +kernel
set_option maxRecDepth 20000 in
theorem mx_ok85 : mx_ckM 85 = true := by decide +kernel
set_option maxRecDepth 20000 in
theorem mx_ok86 : mx_ckM 86 = true := by decide +kernel
set_option maxRecDepth 20000 in
theorem mx_ok87 : mx_ckM 87 = true := by decide +kernel
set_option maxRecDepth 20000 in
theorem mx_ok88 : mx_ckM 88 = true := by decide +kernel
set_option maxRecDepth 20000 in
theorem mx_ok89 : mx_ckM 89 = true := by decide +kernel
set_option maxRecDepth 20000 in
theorem mx_ok90 : mx_ckM 90 = true := by decide +kernel
set_option maxRecDepth 20000 in
theorem mx_ok91 : mx_ckM 91 = true := by decide +kernel
set_option maxRecDepth 20000 in
theorem mx_ok92 : mx_ckM 92 = true := by decide +kernel
set_option maxRecDepth 20000 in
theorem mx_ok93 : mx_ckM 93 = true := by decide +kernel
set_option maxRecDepth 20000 in
theorem mx_ok94 : mx_ckM 94 = true := by decide +kernel
set_option maxRecDepth 20000 in
theorem mx_ok95 : mx_ckM 95 = true := by decide +kernel
set_option maxRecDepth 20000 in
theorem mx_ok96 : mx_ckM 96 = true := by decide +kernel
set_option maxRecDepth 20000 in
theorem mx_ok97 : mx_ckM 97 = true := by decide +kernel
set_option maxRecDepth 20000 in
theorem mx_ok98 : mx_ckM 98 = true := by decide +kernel
set_option maxRecDepth 20000 in
theorem mx_ok99 : mx_ckM 99 = true := by decide +kernel
set_option maxRecDepth 20000 in
theorem mx_ok100 : mx_ckM 100 = true := by decide +kernel
set_option maxRecDepth 20000 in
theorem mx_ok101 : mx_ckM 101 = true := by decide +kernel
set_option maxRecDepth 20000 in
theorem mx_ok102 : mx_ckM 102 = true := by decide +kernel
set_option maxRecDepth 20000 in
theorem mx_ok103 : mx_ckM 103 = true := by decide +kernel
set_option maxRecDepth 20000 in
theorem mx_ok104 : mx_ckM 104 = true := by decide +kernel
set_option maxRecDepth 20000 in
theorem mx_ok105 : mx_ckM 105 = true := by decide +kernel
set_option maxRecDepth 20000 in
theorem mx_ok106 : mx_ckM 106 = true := by decide +kernel
set_option maxRecDepth 20000 in
theorem mx_ok107 : mx_ckM 107 = true := by decide +kernel
set_option maxRecDepth 20000 in
theorem mx_ok108 : mx_ckM 108 = true := by decide +kernel
set_option maxRecDepth 20000 in
theorem mx_ok109 : mx_ckM 109 = true := by decide +kernel
set_option maxRecDepth 20000 in
theorem mx_ok110 : mx_ckM 110 = true := by decide +kernel
set_option maxRecDepth 20000 in
theorem mx_ok111 : mx_ckM 111 = true := by decide +kernel
set_option maxRecDepth 20000 in
theorem mx_ok112 : mx_ckM 112 = true := by decide +kernel
set_option maxRecDepth 20000 in
theorem mx_ok113 : mx_ckM 113 = true := by decide +kernel
set_option maxRecDepth 20000 in
theorem mx_ok114 : mx_ckM 114 = true := by decide +kernel
set_option maxRecDepth 20000 in
theorem mx_ok115 : mx_ckM 115 = true := by decide +kernel
set_option maxRecDepth 20000 in
theorem mx_ok116 : mx_ckM 116 = true := by decide +kernel
set_option maxRecDepth 20000 in
theorem mx_ok117 : mx_ckM 117 = true := by decide +kernel
set_option maxRecDepth 20000 in
theorem mx_ok118 : mx_ckM 118 = true := by decide +kernel
set_option maxRecDepth 20000 in
theorem mx_ok119 : mx_ckM 119 = true := by decide +kernel
set_option maxRecDepth 20000 in
theorem mx_ok120 : mx_ckM 120 = true := by decide +kernel
set_option maxRecDepth 20000 in
theorem mx_ok121 : mx_ckM 121 = true := by decide +kernel
set_option maxRecDepth 20000 in
theorem mx_ok122 : mx_ckM 122 = true := by decide +kernel
set_option maxRecDepth 20000 in
theorem mx_ok123 : mx_ckM 123 = true := by decide +kernel
set_option maxRecDepth 20000 in
theorem mx_ok124 : mx_ckM 124 = true := by decide +kernel
set_option maxRecDepth 20000 in
theorem mx_ok125 : mx_ckM 125 = true := by decide +kernel
set_option maxRecDepth 20000 in
theorem mx_ok126 : mx_ckM 126 = true := by decide +kernel
set_option maxRecDepth 20000 in
theorem mx_ok127 : mx_ckM 127 = true := by decide +kernel
set_option maxRecDepth 20000 in
theorem mx_ok128 : mx_ckM 128 = true := by decide +kernel
set_option maxRecDepth 20000 in
theorem mx_ok129 : mx_ckM 129 = true := by decide +kernel
set_option maxRecDepth 20000 in
theorem mx_ok130 : mx_ckM 130 = true := by decide +kernel
set_option maxRecDepth 20000 in
theorem mx_ok131 : mx_ckM 131 = true := by decide +kernel
set_option maxRecDepth 20000 in
theorem mx_ok132 : mx_ckM 132 = true := by decide +kernel
set_option maxRecDepth 20000 in
theorem mx_ok133 : mx_ckM 133 = true := by decide +kernel
set_option maxRecDepth 20000 in
theorem mx_ok134 : mx_ckM 134 = true := by decide +kernel
set_option maxRecDepth 20000 in
theorem mx_ok135 : mx_ckM 135 = true := by decide +kernel
set_option maxRecDepth 20000 in
theorem mx_ok136 : mx_ckM 136 = true := by decide +kernel
set_option maxRecDepth 20000 in
theorem mx_ok137 : mx_ckM 137 = true := by decide +kernel
set_option maxRecDepth 20000 in
theorem mx_ok138 : mx_ckM 138 = true := by decide +kernel
set_option maxRecDepth 20000 in
theorem mx_ok139 : mx_ckM 139 = true := by decide +kernel
set_option maxRecDepth 20000 in
theorem mx_ok140 : mx_ckM 140 = true := by decide +kernel
set_option maxRecDepth 20000 in
theorem mx_ok141 : mx_ckM 141 = true := by decide +kernel
set_option maxRecDepth 20000 in
theorem mx_ok142 : mx_ckM 142 = true := by decide +kernel
set_option maxRecDepth 20000 in
theorem mx_ok143 : mx_ckM 143 = true := by decide +kernel
set_option maxRecDepth 20000 in
theorem mx_ok144 : mx_ckM 144 = true := by decide +kernel
set_option maxRecDepth 20000 in
theorem mx_ok145 : mx_ckM 145 = true := by decide +kernel
set_option maxRecDepth 20000 in
theorem mx_ok146 : mx_ckM 146 = true := by decide +kernel
set_option maxRecDepth 20000 in
theorem mx_ok147 : mx_ckM 147 = true := by decide +kernel
set_option maxRecDepth 20000 in
theorem mx_ok148 : mx_ckM 148 = true := by decide +kernel
set_option maxRecDepth 20000 in
theorem mx_ok149 : mx_ckM 149 = true := by decide +kernel
theorem mx_okM (mi : Nat) (h : mi < 150) : mx_ckM mi = true := by
  match mi, h with
  | 0, _ => exact mx_ok0
  | 1, _ => exact mx_ok1
  | 2, _ => exact mx_ok2
  | 3, _ => exact mx_ok3
  | 4, _ => exact mx_ok4
  | 5, _ => exact mx_ok5
  | 6, _ => exact mx_ok6
  | 7, _ => exact mx_ok7
  | 8, _ => exact mx_ok8
  | 9, _ => exact mx_ok9
  | 10, _ => exact mx_ok10
  | 11, _ => exact mx_ok11
  | 12, _ => exact mx_ok12
  | 13, _ => exact mx_ok13
  | 14, _ => exact mx_ok14
  | 15, _ => exact mx_ok15
  | 16, _ => exact mx_ok16
  | 17, _ => exact mx_ok17
  | 18, _ => exact mx_ok18
  | 19, _ => exact mx_ok19
  | 20, _ => exact mx_ok20
  | 21, _ => exact mx_ok21
  | 22, _ => exact mx_ok22
  | 23, _ => exact mx_ok23
  | 24, _ => exact mx_ok24
  | 25, _ => exact mx_ok25
  | 26, _ => exact mx_ok26
  | 27, _ => exact mx_ok27
  | 28, _ => exact mx_ok28
  | 29, _ => exact mx_ok29
  | 30, _ => exact mx_ok30
  | 31, _ => exact mx_ok31
  | 32, _ => exact mx_ok32
  | 33, _ => exact mx_ok33
  | 34, _ => exact mx_ok34
  | 35, _ => exact mx_ok35
  | 36, _ => exact mx_ok36
  | 37, _ => exact mx_ok37
  | 38, _ => exact mx_ok38
  | 39, _ => exact mx_ok39
  | 40, _ => exact mx_ok40
  | 41, _ => exact mx_ok41
  | 42, _ => exact mx_ok42
  | 43, _ => exact mx_ok43
  | 44, _ => exact mx_ok44
  | 45, _ => exact mx_ok45
  | 46, _ => exact mx_ok46
  | 47, _ => exact mx_ok47
  | 48, _ => exact mx_ok48
  | 49, _ => exact mx_ok49
  | 50, _ => exact mx_ok50
  | 51, _ => exact mx_ok51
  | 52, _ => exact mx_ok52
  | 53, _ => exact mx_ok53
  | 54, _ => exact mx_ok54
  | 55, _ => exact mx_ok55
  | 56, _ => exact mx_ok56
  | 57, _ => exact mx_ok57
  | 58, _ => exact mx_ok58
  | 59, _ => exact mx_ok59
  | 60, _ => exact mx_ok60
  | 61, _ => exact mx_ok61
  | 62, _ => exact mx_ok62
  | 63, _ => exact mx_ok63
  | 64, _ => exact mx_ok64
  | 65, _ => exact mx_ok65
  | 66, _ => exact mx_ok66
  | 67, _ => exact mx_ok67
  | 68, _ => exact mx_ok68
  | 69, _ => exact mx_ok69
  | 70, _ => exact mx_ok70
  | 71, _ => exact mx_ok71
  | 72, _ => exact mx_ok72
  | 73, _ => exact mx_ok73
  | 74, _ => exact mx_ok74
  | 75, _ => exact mx_ok75
  | 76, _ => exact mx_ok76
  | 77, _ => exact mx_ok77
  | 78, _ => exact mx_ok78
  | 79, _ => exact mx_ok79
  | 80, _ => exact mx_ok80
  | 81, _ => exact mx_ok81
  | 82, _ => exact mx_ok82
  | 83, _ => exact mx_ok83
  | 84, _ => exact mx_ok84
  | 85, _ => exact mx_ok85
  | 86, _ => exact mx_ok86
  | 87, _ => exact mx_ok87
  | 88, _ => exact mx_ok88
  | 89, _ => exact mx_ok89
  | 90, _ => exact mx_ok90
  | 91, _ => exact mx_ok91
  | 92, _ => exact mx_ok92
  | 93, _ => exact mx_ok93
  | 94, _ => exact mx_ok94
  | 95, _ => exact mx_ok95
  | 96, _ => exact mx_ok96
  | 97, _ => exact mx_ok97
  | 98, _ => exact mx_ok98
  | 99, _ => exact mx_ok99
  | 100, _ => exact mx_ok100
  | 101, _ => exact mx_ok101
  | 102, _ => exact mx_ok102
  | 103, _ => exact mx_ok103
  | 104, _ => exact mx_ok104
  | 105, _ => exact mx_ok105
  | 106, _ => exact mx_ok106
  | 107, _ => exact mx_ok107
  | 108, _ => exact mx_ok108
  | 109, _ => exact mx_ok109
  | 110, _ => exact mx_ok110
  | 111, _ => exact mx_ok111
  | 112, _ => exact mx_ok112
  | 113, _ => exact mx_ok113
  | 114, _ => exact mx_ok114
  | 115, _ => exact mx_ok115
  | 116, _ => exact mx_ok116
  | 117, _ => exact mx_ok117
  | 118, _ => exact mx_ok118
  | 119, _ => exact mx_ok119
  | 120, _ => exact mx_ok120
  | 121, _ => exact mx_ok121
  | 122, _ => exact mx_ok122
  | 123, _ => exact mx_ok123
  | 124, _ => exact mx_ok124
  | 125, _ => exact mx_ok125
  | 126, _ => exact mx_ok126
  | 127, _ => exact mx_ok127
  | 128, _ => exact mx_ok128
  | 129, _ => exact mx_ok129
  | 130, _ => exact mx_ok130
  | 131, _ => exact mx_ok131
  | 132, _ => exact mx_ok132
  | 133, _ => exact mx_ok133
  | 134, _ => exact mx_ok134
  | 135, _ => exact mx_ok135
  | 136, _ => exact mx_ok136
  | 137, _ => exact mx_ok137
  | 138, _ => exact mx_ok138
  | 139, _ => exact mx_ok139
  | 140, _ => exact mx_ok140
  | 141, _ => exact mx_ok141
  | 142, _ => exact mx_ok142
  | 143, _ => exact mx_ok143
  | 144, _ => exact mx_ok144
  | 145, _ => exact mx_ok145
  | 146, _ => exact mx_ok146
  | 147, _ => exact mx_ok147
  | 148, _ => exact mx_ok148
  | 149, _ => exact mx_ok149
  | k + 150, h => exact absurd h (by omega)
end
section
/-- what a cell is: an object (its class, its fields: an int, or which cell it holds), a row (0 of ints, 1 of booleans, 2 of pictures; how long) -/
abbrev mx_Sh : Type := (Nat × List (Option Nat)) ⊕ (Nat × Nat)
def mx_sh0 (j : Nat) : mx_Sh := bif Nat.ble 35 j then (bif Nat.ble 53 j then (bif Nat.ble 62 j then (bif Nat.ble 66 j then (bif Nat.ble 68 j then (bif Nat.ble 69 j then (bif Nat.ble 70 j then (.inr (0, 63)) else (.inr (0, 54))) else (.inl (1, [some 69, some 70, none, none, none]))) else (bif Nat.ble 67 j then (.inr (0, 63)) else (.inr (0, 54)))) else (bif Nat.ble 64 j then (bif Nat.ble 65 j then (.inl (1, [some 66, some 67, none, none, none])) else (.inr (0, 63))) else (bif Nat.ble 63 j then (.inr (0, 54)) else (.inl (1, [some 63, some 64, none, none, none]))))) else (bif Nat.ble 57 j then (bif Nat.ble 59 j then (bif Nat.ble 60 j then (bif Nat.ble 61 j then (.inr (0, 63)) else (.inr (0, 54))) else (.inl (1, [some 60, some 61, none, none, none]))) else (bif Nat.ble 58 j then (.inr (0, 63)) else (.inr (0, 54)))) else (bif Nat.ble 55 j then (bif Nat.ble 56 j then (.inl (1, [some 57, some 58, none, none, none])) else (.inr (0, 63))) else (bif Nat.ble 54 j then (.inr (0, 54)) else (.inl (1, [some 54, some 55, none, none, none])))))) else (bif Nat.ble 44 j then (bif Nat.ble 48 j then (bif Nat.ble 50 j then (bif Nat.ble 51 j then (bif Nat.ble 52 j then (.inr (0, 63)) else (.inr (0, 54))) else (.inl (1, [some 51, some 52, none, none, none]))) else (bif Nat.ble 49 j then (.inr (0, 63)) else (.inr (0, 54)))) else (bif Nat.ble 46 j then (bif Nat.ble 47 j then (.inl (1, [some 48, some 49, none, none, none])) else (.inr (0, 63))) else (bif Nat.ble 45 j then (.inr (0, 54)) else (.inl (1, [some 45, some 46, none, none, none]))))) else (bif Nat.ble 39 j then (bif Nat.ble 41 j then (bif Nat.ble 42 j then (bif Nat.ble 43 j then (.inr (0, 63)) else (.inr (0, 54))) else (.inl (1, [some 42, some 43, none, none, none]))) else (bif Nat.ble 40 j then (.inr (0, 63)) else (.inr (0, 54)))) else (bif Nat.ble 37 j then (bif Nat.ble 38 j then (.inl (1, [some 39, some 40, none, none, none])) else (.inr (0, 63))) else (bif Nat.ble 36 j then (.inr (0, 54)) else (.inl (1, [some 36, some 37, none, none, none]))))))) else (bif Nat.ble 17 j then (bif Nat.ble 26 j then (bif Nat.ble 30 j then (bif Nat.ble 32 j then (bif Nat.ble 33 j then (bif Nat.ble 34 j then (.inr (0, 63)) else (.inr (0, 10))) else (.inr (0, 6))) else (bif Nat.ble 31 j then (.inr (0, 6)) else (.inr (0, 6)))) else (bif Nat.ble 28 j then (bif Nat.ble 29 j then (.inr (0, 6)) else (.inr (0, 6))) else (bif Nat.ble 27 j then (.inl (2, [some 28, some 29, some 30, none])) else (.inr (2, 2))))) else (bif Nat.ble 21 j then (bif Nat.ble 23 j then (bif Nat.ble 24 j then (bif Nat.ble 25 j then (.inr (2, 10)) else (.inr (0, 63))) else (.inr (0, 36))) else (bif Nat.ble 22 j then (.inr (0, 63)) else (.inl (0, [some 22, some 23, some 24])))) else (bif Nat.ble 19 j then (bif Nat.ble 20 j then (.inr (0, 63)) else (.inr (0, 36))) else (bif Nat.ble 18 j then (.inr (0, 63)) else (.inl (0, [some 18, some 19, some 20])))))) else (bif Nat.ble 8 j then (bif Nat.ble 12 j then (bif Nat.ble 14 j then (bif Nat.ble 15 j then (bif Nat.ble 16 j then (.inr (0, 63)) else (.inr (0, 36))) else (.inr (0, 63))) else (bif Nat.ble 13 j then (.inl (0, [some 14, some 15, some 16])) else (.inr (0, 63)))) else (bif Nat.ble 10 j then (bif Nat.ble 11 j then (.inr (0, 63)) else (.inr (0, 63))) else (bif Nat.ble 9 j then (.inl (4, [some 10, some 11, some 12, none])) else (.inr (0, 63))))) else (bif Nat.ble 4 j then (bif Nat.ble 6 j then (bif Nat.ble 7 j then (.inr (0, 54)) else (.inl (1, [some 7, some 8, none, none, none]))) else (bif Nat.ble 5 j then (.inr (0, 63)) else (.inr (0, 54)))) else (bif Nat.ble 2 j then (bif Nat.ble 3 j then (.inl (1, [some 4, some 5, none, none, none])) else (.inr (0, 120))) else (bif Nat.ble 1 j then (.inl (3, [some 2, some 3, none, none, none, none, none])) else (.inl (5, [some 1, some 6, some 9, some 13, some 17, some 21, some 25, none, some 26, none, some 27, some 31, some 32, some 33, some 34])))))))
def mx_sh1 (j : Nat) : mx_Sh := bif Nat.ble 9 j then (bif Nat.ble 13 j then (bif Nat.ble 15 j then (bif Nat.ble 16 j then (bif Nat.ble 17 j then (.inr (0, 63)) else (.inr (0, 6))) else (.inr (0, 256))) else (bif Nat.ble 14 j then (.inr (0, 6)) else (.inr (0, 63)))) else (bif Nat.ble 11 j then (bif Nat.ble 12 j then (.inr (0, 63)) else (.inr (1, 36))) else (bif Nat.ble 10 j then (.inr (0, 6)) else (.inr (0, 6))))) else (bif Nat.ble 4 j then (bif Nat.ble 6 j then (bif Nat.ble 7 j then (bif Nat.ble 8 j then (.inr (0, 6)) else (.inr (1, 2))) else (.inr (0, 488))) else (bif Nat.ble 5 j then (.inr (0, 2440)) else (.inr (0, 244)))) else (bif Nat.ble 2 j then (bif Nat.ble 3 j then (.inr (0, 244)) else (.inr (0, 244))) else (bif Nat.ble 1 j then (.inr (0, 120)) else (.inl (6, [none, some 1, none, none, none, none, none, none, none, none, none, none, some 2, some 3, some 4, some 5, none, some 6, some 7, some 8, some 9, some 10, none, none, some 11, some 12, some 13, some 14, some 15, none, some 16, some 17, none])))))
def mx_sh (sy i : Nat) : mx_Sh := match sy with
  | 0 => mx_sh0 i
  | _ => mx_sh1 i
def mx_N (sy : Nat) : Nat := match sy with
  | 0 => 71
  | _ => 18
end
section
/-! what the cells hold, by their numbers; one step; the judgement mx_E -/
abbrev mx_M : Type := Nat → Nat → Int32
def mx_up (c : mx_M) (i k : Nat) (x : Int32) : mx_M := fun i' k' => if i' = i ∧ k' = k then x else c i' k'
def mx_upR (c : mx_M) (i : Nat) (g : Nat → Int32) : mx_M := fun i' => if i' = i then g else c i'
theorem mx_up_R (c : mx_M) (i k : Nat) (x : Int32) : mx_up c i k x = mx_upR c i (upd (c i) k x) := by
  funext i' k'
  unfold mx_up mx_upR upd
  by_cases h : i' = i
  · subst h
    by_cases h2 : k' = k <;> simp [h2]
  · simp [h]
def mx_tv (ad : Nat → Nat) (v : Value) : Value := match v with
  | .ref i => .ref (ad i)
  | v => v
def mx_fl (ad : Nat → Nat) (g : Nat → Int32) : Nat → List (Option Nat) → List Value
  | _, [] => []
  | k, none :: r => .int (g k) :: mx_fl ad g (k + 1) r
  | k, some q :: r => .ref (ad q) :: mx_fl ad g (k + 1) r
def mx_cell (cy : Nat → ClassId) (ad : Nat → Nat) (g : Nat → Int32) (x : mx_Sh) : va_E := match x with
  | .inl (ci, fs) => .inr (ci, mx_fl ad g 0 fs)
  | .inr (0, n) => .inl (cy 0, n, .inl g)
  | .inr (1, n) => .inl (cy 1, n, .inl g)
  | .inr (_, n) => .inl (cy 2, n, .inr (.inr (.inr (.inr (fun j => some (ad (g j).toNatClampNeg))))))
def mx_W (sy : Nat) (cy : Nat → ClassId) (ad : Nat → Nat) (c : mx_M) : va_W := (List.range (mx_N sy)).map (fun i => (ad i, mx_cell cy ad (c i) (mx_sh sy i)))
theorem mx_W_at {sy : Nat} {cy : Nat → ClassId} {ad : Nat → Nat} {c : mx_M} {i : Nat} (h : i < mx_N sy) : (mx_W sy cy ad c)[i]? = some (ad i, mx_cell cy ad (c i) (mx_sh sy i)) := by
  unfold mx_W
  rw [List.getElem?_map, List.getElem?_range h]
  rfl
theorem mx_W_len {sy : Nat} {cy : Nat → ClassId} {ad : Nat → Nat} {c : mx_M} : (mx_W sy cy ad c).length = mx_N sy := by simp [mx_W]
theorem mx_W_inv {sy : Nat} {cy : Nat → ClassId} {ad : Nat → Nat} {c : mx_M} {i : Nat} {q : Nat × va_E} (h : (mx_W sy cy ad c)[i]? = some q) : i < mx_N sy ∧ q = (ad i, mx_cell cy ad (c i) (mx_sh sy i)) := by
  have hl : i < mx_N sy := by
    have := (List.getElem?_eq_some_iff.mp h).1
    rwa [mx_W_len] at this
  refine ⟨hl, ?_⟩
  rw [mx_W_at hl] at h
  exact (Option.some.inj h).symm
theorem mx_W_set {sy : Nat} {cy : Nat → ClassId} {ad : Nat → Nat} {c : mx_M} {i : Nat} {g : Nat → Int32} (h : i < mx_N sy) : (mx_W sy cy ad c).set i (ad i, mx_cell cy ad g (mx_sh sy i)) = mx_W sy cy ad (mx_upR c i g) := by
  apply List.ext_getElem?
  intro k
  by_cases hk : k < mx_N sy
  · rw [mx_W_at hk]
    by_cases e : k = i
    · subst e
      rw [List.getElem?_set_self (by rw [mx_W_len]; exact hk)]
      simp [mx_upR]
    · rw [List.getElem?_set_ne (Ne.symm e), mx_W_at hk]
      simp [mx_upR, e]
  · rw [List.getElem?_eq_none (by rw [List.length_set, mx_W_len]; omega), List.getElem?_eq_none (by rw [mx_W_len]; omega)]
theorem mx_fl_at (ad : Nat → Nat) (g : Nat → Int32) : ∀ (fs : List (Option Nat)) (k b : Nat), (mx_fl ad g k fs)[b]? = (fs[b]?).map (fun o => match o with | none => Value.int (g (k + b)) | some q => Value.ref (ad q))
  | [], k, b => by simp [mx_fl]
  | none :: r, k, 0 => by simp [mx_fl]
  | some q :: r, k, 0 => by simp [mx_fl]
  | none :: r, k, b + 1 => by
    simp only [mx_fl, List.getElem?_cons_succ]
    rw [mx_fl_at ad g r (k + 1) b, show k + 1 + b = k + (b + 1) by omega]
  | some q :: r, k, b + 1 => by
    simp only [mx_fl, List.getElem?_cons_succ]
    rw [mx_fl_at ad g r (k + 1) b, show k + 1 + b = k + (b + 1) by omega]
theorem mx_fl_same (ad : Nat → Nat) {g g' : Nat → Int32} : ∀ (fs : List (Option Nat)) (k : Nat), (∀ j, k ≤ j → g j = g' j) → mx_fl ad g k fs = mx_fl ad g' k fs
  | [], k, h => rfl
  | none :: r, k, h => by
    simp only [mx_fl]
    rw [h k (Nat.le_refl k), mx_fl_same ad r (k + 1) (fun j hj => h j (by omega))]
  | some q :: r, k, h => by
    simp only [mx_fl]
    rw [mx_fl_same ad r (k + 1) (fun j hj => h j (by omega))]
theorem mx_fl_set (ad : Nat → Nat) (g : Nat → Int32) (x : Int32) : ∀ (fs : List (Option Nat)) (k b : Nat), fs[b]? = some none → (mx_fl ad g k fs).set b (.int x) = mx_fl ad (upd g (k + b) x) k fs
  | [], k, b, h => by simp at h
  | none :: r, k, 0, h => by
    simp only [mx_fl, List.set_cons_zero, Nat.add_zero]
    rw [mx_fl_same ad (g := g) (g' := upd g k x) r (k + 1) (fun j hj => by simp [upd, show j ≠ k by omega])]
    simp [upd]
  | some q :: r, k, 0, h => by simp at h
  | none :: r, k, b + 1, h => by
    simp only [mx_fl, List.set_cons_succ]
    rw [mx_fl_set ad g x r (k + 1) b (by simpa using h), show k + 1 + b = k + (b + 1) by omega]
    simp [upd]
  | some q :: r, k, b + 1, h => by
    simp only [mx_fl, List.set_cons_succ]
    rw [mx_fl_set ad g x r (k + 1) b (by simpa using h), show k + 1 + b = k + (b + 1) by omega]
theorem mx_fl_len (ad : Nat → Nat) (g : Nat → Int32) : ∀ (fs : List (Option Nat)) (k : Nat), (mx_fl ad g k fs).length = fs.length
  | [], k => rfl
  | none :: r, k => by simp [mx_fl, mx_fl_len ad g r]
  | some q :: r, k => by simp [mx_fl, mx_fl_len ad g r]
def mx_inj (sy : Nat) (ad : Nat → Nat) : Prop := ∀ i j, i < mx_N sy → j < mx_N sy → ad i = ad j → i = j
def mx_A (sy : Nat) (ad : Nat → Nat) (sz : Nat) : Nat → Prop := fun q => (∃ i, i < mx_N sy ∧ q = ad i) ∨ sz ≤ q
theorem mx_D {sy : Nat} {cy : Nat → ClassId} {ad : Nat → Nat} {c : mx_M} (sz : Nat) (h : mx_inj sy ad) : va_D (mx_A sy ad sz) (mx_W sy cy ad c) := by
  refine ⟨fun i j p q hi hj hpq => ?_, fun k q hk => ?_⟩
  · obtain ⟨li, ei⟩ := mx_W_inv hi
    obtain ⟨lj, ej⟩ := mx_W_inv hj
    subst ei; subst ej
    exact h i j li lj hpq
  · obtain ⟨lk, ek⟩ := mx_W_inv hk
    subst ek
    exact Or.inl ⟨k, lk, rfl⟩
def mx_tys (cy : Nat → ClassId) : List (ClassId × FieldType) := [(cy 0, .int), (cy 1, .boolean), (cy 2, .object "MotionDesk$Picture")]
def mx_ord (k : Nat) : Int32 := match k with
  | 0 => 1
  | 1 => 1
  | 2 => 2
  | 3 => 6
  | 4 => 24
  | 5 => 120
  | _ => 720
def mx_Z (t : Nat) (A : Nat → Prop) (U : State) (H : Heap) : Prop := va_Z "MotionDesk" "ORDERS" "[I" (.ref t) A U H ∧ va_T .int t 7 (fun j => .int (mx_ord j)) A U H
def mx_rm (d : Nat) : Room := { frames := d, cells := 0, slots := 0, locals := 64 * d }
def mx_nest : List Cond := mx_flN.map mx_fwN ++ mx_mlN.map mx_mwN
def mx_Ctx (sy mi : Nat) (D : va_G) (cy : Nat → ClassId) (ad : Nat → Nat) (p : Program) (s : State) (m : MethodId) (args : Array Value) (meth : Method) (cd : Code) : Prop :=
  p.tables.exec = Jvm.exec ∧ cd.code = mx_code mi ∧ meth.sig.returnType = mx_ret mi ∧ cd.maxLocals = mx_maxL mi ∧ s.vm.findClass (mx_cn (mx_own mi)) = some m.cls ∧ (∀ w ∈ mx_good, w.before args s = true) ∧ (∀ w ∈ mx_nest, va_Nw w s) ∧ meth.locks = false ∧ va_K D vwCl (mx_tys cy) s ∧ mx_inj sy ad ∧ mx_Z (ad 1000) (mx_A sy ad s.heap.size) s s.heap
/-- the locals: what isn't .null is there -/
def mx_L (ad : Nat → Nat) (lsA : Array Slot) (nL : Nat) (ls : List Value) : Prop := lsA.size = nL ∧ lv_wf lsA ∧ ls.length = nL ∧ ∀ (k : Nat) (v : Value), ls[k]? = some v → v ≠ .null → lsA[k]? = some (.val (mx_tv ad v))
/-- a method's end -/
def mx_Qc (sy : Nat) (D : va_G) (cy : Nat → ClassId) (ad : Nat → Nat) (Q : Option Value → mx_M → Prop) (sz : Nat) : Array Value → State → Outcome → State → Prop := fun _ st oc t =>
  (∃ (r : Option Value) (c : mx_M), oc = .returned (r.map (mx_tv ad)) ∧ Q r c ∧ va_P D vwCl (mx_W sy cy ad c) t.heap) ∧ va_F (mx_A sy ad sz) st t
/-- from here, with these locals, this stack, these cells, the method comes to its end, and Q holds of its answer and the cells -/
def mx_E (sy d mi : Nat) (Q : Option Value → mx_M → Prop) (j : Nat) (ls st : List Value) (c : mx_M) : Prop :=
  ∀ (l : Launch) (D : va_G) (cy : Nat → ClassId) (ad : Nat → Nat) (p : Program) (e : Env) (s : State) (m : MethodId) (args : Array Value) (below : List Frame) (meth : Method) (cd : Code) (H : Heap) (locs : List Loc) (lsA : Array Slot),
    mx_Ctx sy mi D cy ad p s m args meth cd → va_P D vwCl (mx_W sy cy ad c) H → va_S (mx_A sy ad s.heap.size) s.heap H locs → mx_L ad lsA (mx_maxL mi) ls →
    W p l e (mx_rm d) s m args below meth cd H locs 0 0 (MQ below (mx_Qc sy D cy ad Q s.heap.size) args s 0 0 (mx_A sy ad s.heap.size)) (F0 m (mx_pc mi j) lsA (st.map (mx_tv ad)))
/-- a slot of one word is written: a long ahead of it, if it reached in here, is gone -/
def mx_cl (ls : List Value) (i : Nat) : List Value := match i with
  | 0 => ls
  | i + 1 => match ls[i]? with
    | some v => bif v.category == 2 then ls.set i .null else ls
    | none => ls
def mx_s1 (ls : List Value) (i : Nat) (v : Value) : List Value := (mx_cl ls i).set i v
def mx_s2 (ls : List Value) (i : Nat) (v : Value) : List Value := ((mx_cl ls i).set i v).set (i + 1) .null
/-- the list is looked at to its end -/
def mx_fc {α : Type} : List Value → (List Value → α) → α
  | [], k => k []
  | v :: r, k => mx_fc r (fun r' => k (v :: r'))
theorem mx_fc_eq {α : Type} : ∀ (l : List Value) (k : List Value → α), mx_fc l k = k l
  | [], k => rfl
  | v :: r, k => by
    unfold mx_fc
    rw [mx_fc_eq r]
abbrev mx_R : Type := Option (List Prop × Nat × List Value × List Value × mx_M)
def mx_ii (f : Int32 → Int32 → Int32) (nx : Nat) (ls st : List Value) (c : mx_M) : mx_R := match st with
  | .int y :: .int x :: r => some ([], nx, ls, .int (f x y) :: r, c)
  | _ => none
def mx_ll (f : Int64 → Int64 → Int64) (nx : Nat) (ls st : List Value) (c : mx_M) : mx_R := match st with
  | .long y :: .long x :: r => some ([], nx, ls, .long (f x y) :: r, c)
  | _ => none
def mx_ldI (nx a : Nat) (ls st : List Value) (c : mx_M) : mx_R := match ls[a]? with
  | some (.int x) => some ([], nx, ls, .int x :: st, c)
  | _ => none
def mx_ldL (nx a : Nat) (ls st : List Value) (c : mx_M) : mx_R := match ls[a]? with
  | some (.long x) => some ([], nx, ls, .long x :: st, c)
  | _ => none
def mx_ldA (nx a : Nat) (ls st : List Value) (c : mx_M) : mx_R := match ls[a]? with
  | some (.ref x) => some ([], nx, ls, .ref x :: st, c)
  | _ => none
def mx_stI (nx a : Nat) (ls st : List Value) (c : mx_M) : mx_R := match st with
  | .int x :: r => bif Nat.blt a ls.length then mx_fc (mx_s1 ls a (.int x)) (fun l => some ([], nx, l, r, c)) else none
  | _ => none
def mx_stL (nx a : Nat) (ls st : List Value) (c : mx_M) : mx_R := match st with
  | .long x :: r => bif Nat.blt (a + 1) ls.length then mx_fc (mx_s2 ls a (.long x)) (fun l => some ([], nx, l, r, c)) else none
  | _ => none
def mx_stA (nx a : Nat) (ls st : List Value) (c : mx_M) : mx_R := match st with
  | .ref x :: r => bif Nat.blt a ls.length then mx_fc (mx_s1 ls a (.ref x)) (fun l => some ([], nx, l, r, c)) else none
  | _ => none
def mx_gf (sy nx a b : Nat) (ls st : List Value) (c : mx_M) : mx_R := match st with
  | .ref i :: r => bif Nat.blt i (mx_N sy) then (match mx_sh sy i with
    | .inl (ci, fs) => bif ci == a then (match fs[b]? with
      | some none => some ([], nx, ls, .int (c i b) :: r, c)
      | some (some q) => some ([], nx, ls, .ref q :: r, c)
      | none => none) else none
    | .inr _ => none) else none
  | _ => none
def mx_pf (sy nx a b : Nat) (ls st : List Value) (c : mx_M) : mx_R := match st with
  | .int x :: .ref i :: r => bif Nat.blt i (mx_N sy) then (match mx_sh sy i with
    | .inl (ci, fs) => bif ci == a then (match fs[b]? with
      | some none => some ([], nx, ls, r, mx_up c i b x)
      | _ => none) else none
    | .inr _ => none) else none
  | _ => none
def mx_ial (sy nx : Nat) (ls st : List Value) (c : mx_M) : mx_R := match st with
  | .int k :: .ref i :: r => bif i == 1000 then some ([vp_in k 7], nx, ls, .int (mx_ord k.toNatClampNeg) :: r, c) else bif Nat.blt i (mx_N sy) then (match mx_sh sy i with
    | .inr (0, n) => some ([vp_in k n], nx, ls, .int (c i k.toNatClampNeg) :: r, c)
    | _ => none) else none
  | _ => none
def mx_ias (sy nx : Nat) (ls st : List Value) (c : mx_M) : mx_R := match st with
  | .int x :: .int k :: .ref i :: r => bif Nat.blt i (mx_N sy) then (match mx_sh sy i with
    | .inr (0, n) => some ([vp_in k n], nx, ls, r, mx_up c i k.toNatClampNeg x)
    | _ => none) else none
  | _ => none
def mx_bal (sy nx : Nat) (ls st : List Value) (c : mx_M) : mx_R := match st with
  | .int k :: .ref i :: r => bif Nat.blt i (mx_N sy) then (match mx_sh sy i with
    | .inr (1, n) => some ([vp_in k n], nx, ls, .int (c i k.toNatClampNeg) :: r, c)
    | _ => none) else none
  | _ => none
def mx_bas (sy nx : Nat) (ls st : List Value) (c : mx_M) : mx_R := match st with
  | .int x :: .int k :: .ref i :: r => bif Nat.blt i (mx_N sy) then (match mx_sh sy i with
    | .inr (1, n) => some ([vp_in k n], nx, ls, r, mx_up c i k.toNatClampNeg (vp_nar .boolean x))
    | _ => none) else none
  | _ => none
def mx_aal (sy nx : Nat) (ls st : List Value) (c : mx_M) : mx_R := match st with
  | .int k :: .ref i :: r => bif Nat.blt i (mx_N sy) then (match mx_sh sy i with
    | .inr (2, n) => some ([vp_in k n], nx, ls, .ref (c i k.toNatClampNeg).toNatClampNeg :: r, c)
    | _ => none) else none
  | _ => none
def mx_aas (sy nx : Nat) (ls st : List Value) (c : mx_M) : mx_R := match st with
  | .ref q :: .int k :: .ref i :: r => bif Nat.blt i (mx_N sy) then (match mx_sh sy i with
    | .inr (2, n) => some ([vp_in k n, q < mx_N sy ∧ (∃ fs, mx_sh sy q = .inl (1, fs))], nx, ls, r, mx_up c i k.toNatClampNeg (nI q))
    | _ => none) else none
  | _ => none
def mx_aln (sy nx : Nat) (ls st : List Value) (c : mx_M) : mx_R := match st with
  | .ref i :: r => bif Nat.blt i (mx_N sy) then (match mx_sh sy i with
    | .inr (0, n) => some ([], nx, ls, .int (nI n) :: r, c)
    | _ => none) else none
  | _ => none
def mx_acp (sy nx : Nat) (ls st : List Value) (c : mx_M) : mx_R := match st with
  | .int n :: .int dp :: .ref i1 :: .int sp :: .ref i0 :: r => bif Nat.blt i0 (mx_N sy) then (bif Nat.blt i1 (mx_N sy) then (match mx_sh sy i0 with
    | .inr (0, n0) => (match mx_sh sy i1 with
      | .inr (0, n1) => some ([¬ sp < 0, ¬ dp < 0, ¬ n < 0, sp.toNatClampNeg + n.toNatClampNeg ≤ n0, dp.toNatClampNeg + n.toNatClampNeg ≤ n1], nx, ls, r, mx_upR c i1 (va_cpy (c i0) (c i1) sp.toNatClampNeg dp.toNatClampNeg n.toNatClampNeg))
      | _ => none)
    | _ => none) else none) else none
  | _ => none
/-- one step that neither branches, calls nor ends -/
def mx_step (sy : Nat) (ins : Instr) (nx a b : Nat) (x : Int32) (ls st : List Value) (c : mx_M) : mx_R := match ins with
  | .iconst _ => some ([], nx, ls, .int x :: st, c)
  | .bipush _ => some ([], nx, ls, .int x :: st, c)
  | .sipush _ => some ([], nx, ls, .int x :: st, c)
  | .ldc_w _ => some ([], nx, ls, .int x :: st, c)
  | .lconst _ => some ([], nx, ls, .long (Int64.ofNat a) :: st, c)
  | .ldc2_w _ => some ([], nx, ls, .long (Int64.ofNat a) :: st, c)
  | .iload_n _ => mx_ldI nx a ls st c
  | .iload _ => mx_ldI nx a ls st c
  | .lload_n _ => mx_ldL nx a ls st c
  | .lload _ => mx_ldL nx a ls st c
  | .aload_n _ => mx_ldA nx a ls st c
  | .aload _ => mx_ldA nx a ls st c
  | .istore_n _ => mx_stI nx a ls st c
  | .istore _ => mx_stI nx a ls st c
  | .lstore_n _ => mx_stL nx a ls st c
  | .lstore _ => mx_stL nx a ls st c
  | .astore_n _ => mx_stA nx a ls st c
  | .astore _ => mx_stA nx a ls st c
  | .iinc _ _ => match ls[a]? with
    | some (.int y) => mx_fc (mx_s1 ls a (.int (y + x))) (fun l => some ([], nx, l, st, c))
    | _ => none
  | .iadd => match st with
    | .int y :: .int x :: r => some ([], nx, ls, .int (x + y) :: r, c)
    | _ => none
  | .isub => match st with
    | .int y :: .int x :: r => some ([], nx, ls, .int (x - y) :: r, c)
    | _ => none
  | .imul => match st with
    | .int y :: .int x :: r => some ([], nx, ls, .int (x * y) :: r, c)
    | _ => none
  | .iand => match st with
    | .int y :: .int x :: r => some ([], nx, ls, .int (x &&& y) :: r, c)
    | _ => none
  | .ior => match st with
    | .int y :: .int x :: r => some ([], nx, ls, .int (x ||| y) :: r, c)
    | _ => none
  | .ixor => match st with
    | .int y :: .int x :: r => some ([], nx, ls, .int (x ^^^ y) :: r, c)
    | _ => none
  | .ishl => match st with
    | .int y :: .int x :: r => some ([], nx, ls, .int (x <<< (y &&& 31)) :: r, c)
    | _ => none
  | .ishr => match st with
    | .int y :: .int x :: r => some ([], nx, ls, .int (x >>> (y &&& 31)) :: r, c)
    | _ => none
  | .iushr => match st with
    | .int y :: .int x :: r => some ([], nx, ls, .int ((x.toUInt32 >>> (y.toUInt32 &&& Int32.toUInt32 31)).toInt32) :: r, c)
    | _ => none
  | .idiv => match st with
    | .int y :: .int x :: r => some ([¬ y = 0], nx, ls, .int (x / y) :: r, c)
    | _ => none
  | .irem => match st with
    | .int y :: .int x :: r => some ([¬ y = 0], nx, ls, .int (x - x / y * y) :: r, c)
    | _ => none
  | .ladd => match st with
    | .long y :: .long x :: r => some ([], nx, ls, .long (x + y) :: r, c)
    | _ => none
  | .lmul => match st with
    | .long y :: .long x :: r => some ([], nx, ls, .long (x * y) :: r, c)
    | _ => none
  | .ldiv => match st with
    | .long y :: .long x :: r => some ([¬ y = 0], nx, ls, .long (x / y) :: r, c)
    | _ => none
  | .lrem => match st with
    | .long y :: .long x :: r => some ([¬ y = 0], nx, ls, .long (x - x / y * y) :: r, c)
    | _ => none
  | .lcmp => match st with
    | .long y :: .long x :: r => some ([], nx, ls, .int (lg_cmp x y) :: r, c)
    | _ => none
  | .i2l => match st with
    | .int x :: r => some ([], nx, ls, .long x.toInt64 :: r, c)
    | _ => none
  | .l2i => match st with
    | .long x :: r => some ([], nx, ls, .int x.toInt32 :: r, c)
    | _ => none
  | .dup => match st with
    | .int x :: r => some ([], nx, ls, .int x :: .int x :: r, c)
    | .ref x :: r => some ([], nx, ls, .ref x :: .ref x :: r, c)
    | _ => none
  | .dup2 => match st with
    | .int y :: .ref x :: r => some ([], nx, ls, .int y :: .ref x :: .int y :: .ref x :: r, c)
    | _ => none
  | .pop => match st with
    | .int _ :: r => some ([], nx, ls, r, c)
    | _ => none
  | .goto _ => some ([], nx, ls, st, c)
  | .getfield _ => mx_gf sy nx a b ls st c
  | .putfield _ => mx_pf sy nx a b ls st c
  | .getstatic _ => some ([], nx, ls, .ref 1000 :: st, c)
  | .iaload => mx_ial sy nx ls st c
  | .iastore => mx_ias sy nx ls st c
  | .baload => mx_bal sy nx ls st c
  | .bastore => mx_bas sy nx ls st c
  | .aaload => mx_aal sy nx ls st c
  | .aastore => mx_aas sy nx ls st c
  | .arraylength => mx_aln sy nx ls st c
  | .invokestatic _ => bif b == 99 then mx_acp sy nx ls st c else bif b == 98 then mx_ii (fun x y => if x < y then y else x) nx ls st c else bif b == 97 then mx_ii (fun x y => if y < x then y else x) nx ls st c else none
  | _ => none
/-- a row that is there, and holds -/
def mx_ft (mi j : Nat) : Option mx_Row := bif Nat.blt mi mx_NM && Nat.blt j (mx_n mi) then mx_row mi j else none
theorem mx_ft_ck {mi j pc nx a b : Nat} {ins : Instr} {x : Int32} (h : mx_ft mi j = some (pc, ins, nx, a, b, x)) : mx_ck mi pc ins nx a b x = true ∧ mx_pc mi j = pc := by
  unfold mx_ft at h
  cases hc : Nat.blt mi mx_NM && Nat.blt j (mx_n mi) with
  | false => rw [hc] at h; cases h
  | true =>
    rw [hc] at h
    have h : mx_row mi j = some (pc, ins, nx, a, b, x) := h
    have h1 := Bool.and_eq_true_iff.mp hc
    have hm : mi < mx_NM := by simpa [Nat.blt_eq] using h1.1
    have hj : j < mx_n mi := by simpa [Nat.blt_eq] using h1.2
    have h2 := List.all_eq_true.mp (mx_okM mi hm) j (List.mem_range.mpr hj)
    refine ⟨?_, by unfold mx_pc; rw [h]⟩
    unfold mx_ckj at h2
    rw [h] at h2
    exact h2
end
section
/-! the rules: links, locals, each instruction -/
theorem mx_mem {p : Nat} {w : Cond} (h : lw_tbl[p]? = some w) (hg : goodWord w = true) : w ∈ mx_good := List.mem_filter.mpr ⟨List.mem_of_getElem? h, hg⟩
theorem mx_flP_mem {own idx a b : Nat} (h : mx_inF mx_flP own idx a b = true) : Cond.fieldLink (mx_cn own) idx (mx_cn a) (mx_T a b).2.1 (mx_T a b).2.2.1 ∈ mx_good := by
  obtain ⟨e, he, hq⟩ := List.any_eq_true.mp h
  have h1 := of_decide_eq_true (List.all_eq_true.mp mx_flP_ok e he)
  simp only [Bool.and_eq_true, beq_iff_eq] at hq
  obtain ⟨⟨⟨rfl, rfl⟩, rfl⟩, rfl⟩ := hq
  exact mx_mem h1 rfl
theorem mx_flN_mem {own idx a b : Nat} (h : mx_inF mx_flN own idx a b = true) : Cond.fieldLinkNest (mx_cn own) idx (mx_cn a) (mx_T a b).2.1 (mx_T a b).2.2.1 "MotionDesk" ∈ mx_nest := by
  obtain ⟨e, he, hq⟩ := List.any_eq_true.mp h
  simp only [Bool.and_eq_true, beq_iff_eq] at hq
  obtain ⟨⟨⟨rfl, rfl⟩, rfl⟩, rfl⟩ := hq
  exact List.mem_append_left _ (List.mem_map.mpr ⟨e, he, rfl⟩)
theorem mx_mlP_mem {own idx a : Nat} (h : mx_inM mx_mlP own idx a = true) : Cond.methodLink (mx_cn own) idx (mx_y a) ∈ mx_good := by
  obtain ⟨e, he, hq⟩ := List.any_eq_true.mp h
  have h1 := of_decide_eq_true (List.all_eq_true.mp mx_mlP_ok e he)
  simp only [Bool.and_eq_true, beq_iff_eq] at hq
  obtain ⟨⟨rfl, rfl⟩, rfl⟩ := hq
  exact mx_mem h1 rfl
theorem mx_mlN_mem {own idx a : Nat} (h : mx_inM mx_mlN own idx a = true) : Cond.methodLinkNest (mx_cn own) idx (mx_y a) "MotionDesk" ∈ mx_nest := by
  obtain ⟨e, he, hq⟩ := List.any_eq_true.mp h
  simp only [Bool.and_eq_true, beq_iff_eq] at hq
  obtain ⟨⟨rfl, rfl⟩, rfl⟩ := hq
  exact List.mem_append_right _ (List.mem_map.mpr ⟨e, he, rfl⟩)
theorem mx_inG (ci : Nat) (q : vw_C) (h : vwCl[ci]? = some q) : ∀ w ∈ u_ws q.1 q.2.1 q.2.2, w ∈ mx_good := by
  match ci, h with
  | 0, h => cases h; exact fun w hw => List.mem_filter.mpr ⟨inX0 w hw, List.all_eq_true.mp (show (u_ws RX0 TX0 3).all goodWord = true by decide +kernel) w hw⟩
  | 1, h => cases h; exact fun w hw => List.mem_filter.mpr ⟨inX1 w hw, List.all_eq_true.mp (show (u_ws RX1 TX1 5).all goodWord = true by decide +kernel) w hw⟩
  | 2, h => cases h; exact fun w hw => List.mem_filter.mpr ⟨inX2 w hw, List.all_eq_true.mp (show (u_ws RX2 TX2 4).all goodWord = true by decide +kernel) w hw⟩
  | 3, h => cases h; exact fun w hw => List.mem_filter.mpr ⟨inX3 w hw, List.all_eq_true.mp (show (u_ws RX3 TX3 7).all goodWord = true by decide +kernel) w hw⟩
  | 4, h => cases h; exact fun w hw => List.mem_filter.mpr ⟨inX4 w hw, List.all_eq_true.mp (show (u_ws RX4 TX4 4).all goodWord = true by decide +kernel) w hw⟩
  | 5, h => cases h; exact fun w hw => List.mem_filter.mpr ⟨inX5 w hw, List.all_eq_true.mp (show (u_ws RX5 TX5 15).all goodWord = true by decide +kernel) w hw⟩
  | 6, h => cases h; exact fun w hw => List.mem_filter.mpr ⟨inX6 w hw, List.all_eq_true.mp (show (u_ws RX6 TX6 33).all goodWord = true by decide +kernel) w hw⟩
  | k + 7, h => simp [vwCl] at h
/-- a class by its number: how many fields, their types -/
def mx_nf (ci : Nat) : Nat := match ci with
  | 0 => 3
  | 1 => 5
  | 2 => 4
  | 3 => 7
  | 4 => 4
  | 5 => 15
  | _ => 33
def mx_ty (ci : Nat) : Nat → FieldType := match ci with
  | 0 => tyX0
  | 1 => tyX1
  | 2 => tyX2
  | 3 => tyX3
  | 4 => tyX4
  | 5 => tyX5
  | _ => tyX6
theorem mx_cl7 (ci : Nat) (h : ci < 7) : vwCl[ci]? = some (mx_cn ci, mx_T ci, mx_nf ci) ∧ (∀ k, k < mx_nf ci → (mx_T ci k).1 = mx_cn ci) ∧ (∀ k, k < mx_nf ci → parseFieldDescriptor (mx_T ci k).2.2.1 = some (mx_ty ci k)) ∧ (∀ a, a < mx_nf ci → ∀ b, b < mx_nf ci → a ≠ b → (mx_T ci a).2.1 ≠ (mx_T ci b).2.1) := by
  match ci, h with
  | 0, _ => exact ⟨rfl, by decide +kernel, tyX0_ok, nmX0⟩
  | 1, _ => exact ⟨rfl, by decide +kernel, tyX1_ok, nmX1⟩
  | 2, _ => exact ⟨rfl, by decide +kernel, tyX2_ok, nmX2⟩
  | 3, _ => exact ⟨rfl, by decide +kernel, tyX3_ok, nmX3⟩
  | 4, _ => exact ⟨rfl, by decide +kernel, tyX4_ok, nmX4⟩
  | 5, _ => exact ⟨rfl, by decide +kernel, tyX5_ok, nmX5⟩
  | 6, _ => exact ⟨rfl, by decide +kernel, tyX6_ok, nmX6⟩
  | k + 7, h => exact absurd h (by omega)
/-- the shapes are those of the classes -/
def mx_shk (sy i : Nat) : Bool := match mx_sh sy i with
  | .inl (ci, fs) => decide (ci < 7) && fs.length == mx_nf ci && (List.range fs.length).all (fun k => match fs[k]? with | some none => decide (mx_ty ci k = .int) | _ => true)
  | .inr _ => true
theorem mx_sh_ok0 : (List.range 71).all (mx_shk 0) = true := by decide +kernel
theorem mx_sh_ok1 : (List.range 18).all (mx_shk 1) = true := by decide +kernel
theorem mx_sh_obj {sy i ci : Nat} {fs : List (Option Nat)} (hi : i < mx_N sy) (h : mx_sh sy i = .inl (ci, fs)) : ci < 7 ∧ fs.length = mx_nf ci ∧ ∀ k, fs[k]? = some none → mx_ty ci k = .int := by
  have hk : mx_shk sy i = true := by
    match sy, hi with
    | 0, hi => exact List.all_eq_true.mp mx_sh_ok0 i (List.mem_range.mpr hi)
    | k + 1, hi => exact List.all_eq_true.mp mx_sh_ok1 i (List.mem_range.mpr hi)
  unfold mx_shk at hk
  rw [h] at hk
  simp only [Bool.and_eq_true, decide_eq_true_eq, beq_iff_eq] at hk
  refine ⟨hk.1.1, hk.1.2, fun k hf => ?_⟩
  have h2 := List.all_eq_true.mp hk.2 k (List.mem_range.mpr (List.getElem?_eq_some_iff.mp hf).1)
  rw [hf] at h2
  simpa using h2
-- locals
def mx_lv (ad : Nat → Nat) (ls : List Value) : List (Nat × Value) := (List.range ls.length).filterMap (fun k => match ls[k]? with
  | some v => if v = .null then none else some (k, mx_tv ad v)
  | none => none)
theorem mx_lv_mem {ad : Nat → Nat} {ls : List Value} {k : Nat} {v : Value} (h : ls[k]? = some v) (hn : v ≠ .null) : (k, mx_tv ad v) ∈ mx_lv ad ls := by
  refine List.mem_filterMap.mpr ⟨k, List.mem_range.mpr (List.getElem?_eq_some_iff.mp h).1, ?_⟩
  rw [h]
  simp [hn]
theorem mx_lv_inv {ad : Nat → Nat} {ls : List Value} {q : Nat × Value} (h : q ∈ mx_lv ad ls) : ∃ v, ls[q.1]? = some v ∧ v ≠ .null ∧ q.2 = mx_tv ad v := by
  obtain ⟨k, -, hk⟩ := List.mem_filterMap.mp h
  cases hv : ls[k]? with
  | none => rw [hv] at hk; cases hk
  | some v =>
    rw [hv] at hk
    by_cases hn : v = .null
    · simp [hn] at hk
    · simp only [hn, if_false] at hk
      cases hk
      exact ⟨v, hv, hn, rfl⟩
theorem mx_L.has {ad : Nat → Nat} {lsA : Array Slot} {nL : Nat} {ls : List Value} (h : mx_L ad lsA nL ls) : lv_has lsA nL (mx_lv ad ls) := by
  refine ⟨h.1, h.2.1, fun q hq => ?_⟩
  obtain ⟨v, h1, h2, h3⟩ := mx_lv_inv hq
  rw [h.2.2.2 q.1 v h1 h2, h3]
theorem mx_tv_cat (ad : Nat → Nat) (v : Value) : (mx_tv ad v).category = v.category := by cases v <;> rfl
theorem mx_cl_len (ls : List Value) (i : Nat) : (mx_cl ls i).length = ls.length := by
  unfold mx_cl
  split
  · rfl
  · split
    · rename_i v _
      cases v.category == 2 <;> simp
    · rfl
theorem mx_cl_at {ls : List Value} {i k : Nat} {w : Value} (h : (mx_cl ls i)[k]? = some w) (hw : w ≠ .null) : ls[k]? = some w ∧ ¬ (k + 1 = i ∧ w.category = 2) := by
  unfold mx_cl at h
  split at h
  · exact ⟨h, by omega⟩
  · rename_i i
    split at h
    · rename_i v hv
      cases hc : v.category == 2 with
      | true =>
        rw [hc] at h
        have h : (ls.set i .null)[k]? = some w := h
        by_cases e : k = i
        · subst e
          rw [List.getElem?_set_self (List.getElem?_eq_some_iff.mp hv).1] at h
          cases h
          exact absurd rfl hw
        · rw [List.getElem?_set_ne (Ne.symm e)] at h
          exact ⟨h, by omega⟩
      | false =>
        rw [hc] at h
        have h0 : ls[k]? = some w := h
        clear h
        refine ⟨h0, fun q => ?_⟩
        have e : k = i := by omega
        rw [e, hv] at h0
        cases h0
        simp [q.2] at hc
    · rename_i hv
      refine ⟨h, fun q => ?_⟩
      have e : k = i := by omega
      rw [e, hv] at h
      cases h
theorem mx_L_s1 {ad : Nat → Nat} {lsA : Array Slot} {nL i : Nat} {ls : List Value} {v : Value} (hlen : ls.length = nL) (hi : i < nL) (h : lv_has lsA nL ((i, mx_tv ad v) :: (mx_lv ad ls).filter (fun q => !(q.1 == i) && !(q.1 + 1 == i && q.2.category == 2)))) : mx_L ad lsA nL (mx_s1 ls i v) := by
  refine ⟨h.1, h.2.1, by unfold mx_s1; rw [List.length_set, mx_cl_len, hlen], fun k w hk hw => ?_⟩
  unfold mx_s1 at hk
  by_cases e : k = i
  · subst e
    rw [List.getElem?_set_self (by rw [mx_cl_len]; omega)] at hk
    cases hk
    exact h.2.2 (k, mx_tv ad v) List.mem_cons_self
  · rw [List.getElem?_set_ne (Ne.symm e)] at hk
    obtain ⟨h1, h2⟩ := mx_cl_at hk hw
    refine h.2.2 (k, mx_tv ad w) (List.mem_cons_of_mem _ (List.mem_filter.mpr ⟨mx_lv_mem h1 hw, ?_⟩))
    simp only [mx_tv_cat, Bool.and_eq_true, Bool.not_eq_true', beq_eq_false_iff_ne, ne_eq, Bool.and_eq_false_iff]
    refine ⟨e, ?_⟩
    by_cases q : k + 1 = i
    · exact Or.inr (fun z => h2 ⟨q, z⟩)
    · exact Or.inl q
theorem mx_L_s2 {ad : Nat → Nat} {lsA : Array Slot} {nL i : Nat} {ls : List Value} {v : Value} (hlen : ls.length = nL) (hi : i + 1 < nL) (h : lv_has lsA nL ((i, mx_tv ad v) :: (mx_lv ad ls).filter (fun q => !(q.1 == i) && (!(q.1 == i + 1) && !(q.1 + 1 == i && q.2.category == 2))))) : mx_L ad lsA nL (mx_s2 ls i v) := by
  refine ⟨h.1, h.2.1, by unfold mx_s2; rw [List.length_set, List.length_set, mx_cl_len, hlen], fun k w hk hw => ?_⟩
  unfold mx_s2 at hk
  by_cases e1 : k = i + 1
  · subst e1
    rw [List.getElem?_set_self (by rw [List.length_set, mx_cl_len]; omega)] at hk
    cases hk
    exact absurd rfl hw
  rw [List.getElem?_set_ne (Ne.symm e1)] at hk
  by_cases e : k = i
  · subst e
    rw [List.getElem?_set_self (by rw [mx_cl_len]; omega)] at hk
    cases hk
    exact h.2.2 (k, mx_tv ad v) List.mem_cons_self
  · rw [List.getElem?_set_ne (Ne.symm e)] at hk
    obtain ⟨h1, h2⟩ := mx_cl_at hk hw
    refine h.2.2 (k, mx_tv ad w) (List.mem_cons_of_mem _ (List.mem_filter.mpr ⟨mx_lv_mem h1 hw, ?_⟩))
    simp only [mx_tv_cat, Bool.and_eq_true, Bool.not_eq_true', beq_eq_false_iff_ne, ne_eq, Bool.and_eq_false_iff]
    refine ⟨e, e1, ?_⟩
    by_cases q : k + 1 = i
    · exact Or.inr (fun z => h2 ⟨q, z⟩)
    · exact Or.inl q
theorem mx_gen {mi pc nx a b : Nat} {x : Int32} {ins : Instr} (h : (mx_dc mi pc ins && mx_nx mi pc ins nx && mx_ex mi ins a b x) = true) : decode (mx_code mi) pc = .ok (ins, mx_len ins) ∧ mx_pc mi nx = pc + mx_len ins ∧ mx_ex mi ins a b x = true := by
  simp only [Bool.and_eq_true] at h
  exact ⟨of_decide_eq_true h.1.1, by have := h.1.2; unfold mx_nx at this; exact beq_iff_eq.mp this, h.2⟩
def mx_all : List Prop → Prop
  | [] => True
  | p :: r => p ∧ mx_all r
theorem mx_all_app {a b : List Prop} (h : mx_all (a ++ b)) : mx_all a ∧ mx_all b := by
  induction a with
  | nil => exact ⟨trivial, h⟩
  | cons p r ih => exact ⟨⟨h.1, (ih h.2).1⟩, (ih h.2).2⟩
section RULES
variable {sy d mi j pc nx a b : Nat} {v : Int32} {Q : Option Value → mx_M → Prop} {ls st : List Value} {c : mx_M} {Ps : List Prop} {j' : Nat} {ls' st' : List Value} {c' : mx_M}

theorem mx_e_iconst {n : Int} (hr : mx_ft mi j = some (pc, (.iconst n), nx, a, b, v)) (hs : mx_step sy (.iconst n) nx a b v ls st c = some (Ps, j', ls', st', c')) (hP0 : mx_all Ps) (k : mx_E sy d mi Q j' ls' st' c') : mx_E sy d mi Q j ls st c := by
  obtain ⟨hck, hpc⟩ := mx_ft_ck hr
  obtain ⟨hdc, hnx, hex⟩ := mx_gen (ins := (.iconst n)) hck
  cases hs
  intro l D cy ad p e s m args below meth cd H locs lsA C hP hS hL
  rw [hpc]
  refine lv_iconst C.1 C.2.1 hdc (of_decide_eq_true hex) ?_
  have z := k l D cy ad p e s m args below meth cd H locs lsA C hP hS hL
  rw [hnx] at z
  exact z
theorem mx_e_bipush {n : Int} (hr : mx_ft mi j = some (pc, (.bipush n), nx, a, b, v)) (hs : mx_step sy (.bipush n) nx a b v ls st c = some (Ps, j', ls', st', c')) (hP0 : mx_all Ps) (k : mx_E sy d mi Q j' ls' st' c') : mx_E sy d mi Q j ls st c := by
  obtain ⟨hck, hpc⟩ := mx_ft_ck hr
  obtain ⟨hdc, hnx, hex⟩ := mx_gen (ins := (.bipush n)) hck
  cases hs
  intro l D cy ad p e s m args below meth cd H locs lsA C hP hS hL
  rw [hpc]
  refine lv_bipush C.1 C.2.1 hdc (of_decide_eq_true hex) ?_
  have z := k l D cy ad p e s m args below meth cd H locs lsA C hP hS hL
  rw [hnx] at z
  exact z
theorem mx_e_sipush {n : Int} (hr : mx_ft mi j = some (pc, (.sipush n), nx, a, b, v)) (hs : mx_step sy (.sipush n) nx a b v ls st c = some (Ps, j', ls', st', c')) (hP0 : mx_all Ps) (k : mx_E sy d mi Q j' ls' st' c') : mx_E sy d mi Q j ls st c := by
  obtain ⟨hck, hpc⟩ := mx_ft_ck hr
  obtain ⟨hdc, hnx, hex⟩ := mx_gen (ins := (.sipush n)) hck
  cases hs
  intro l D cy ad p e s m args below meth cd H locs lsA C hP hS hL
  rw [hpc]
  refine lv_sipush C.1 C.2.1 hdc (of_decide_eq_true hex) ?_
  have z := k l D cy ad p e s m args below meth cd H locs lsA C hP hS hL
  rw [hnx] at z
  exact z
theorem mx_e_lconst {n : Fin 2} (hr : mx_ft mi j = some (pc, (.lconst n), nx, a, b, v)) (hs : mx_step sy (.lconst n) nx a b v ls st c = some (Ps, j', ls', st', c')) (hP0 : mx_all Ps) (k : mx_E sy d mi Q j' ls' st' c') : mx_E sy d mi Q j ls st c := by
  obtain ⟨hck, hpc⟩ := mx_ft_ck hr
  obtain ⟨hdc, hnx, hex⟩ := mx_gen (ins := (.lconst n)) hck
  cases hs
  intro l D cy ad p e s m args below meth cd H locs lsA C hP hS hL
  rw [hpc]
  have hn : (n : Nat) = a := beq_iff_eq.mp hex
  refine lv_lconst C.1 C.2.1 hdc (by rw [hn]) ?_
  have z := k l D cy ad p e s m args below meth cd H locs lsA C hP hS hL
  rw [hnx] at z
  exact z
theorem mx_e_ldc_w {n : Nat} (hr : mx_ft mi j = some (pc, (.ldc_w n), nx, a, b, v)) (hs : mx_step sy (.ldc_w n) nx a b v ls st c = some (Ps, j', ls', st', c')) (hP0 : mx_all Ps) (k : mx_E sy d mi Q j' ls' st' c') : mx_E sy d mi Q j ls st c := by
  obtain ⟨hck, hpc⟩ := mx_ft_ck hr
  obtain ⟨hdc, hnx, hex⟩ := mx_gen (ins := (.ldc_w n)) hck
  cases hs
  intro l D cy ad p e s m args below meth cd H locs lsA C hP hS hL
  rw [hpc]
  obtain ⟨e0, he, hq⟩ := List.any_eq_true.mp hex
  have h1 := of_decide_eq_true (List.all_eq_true.mp mx_csl_ok e0 he)
  simp only [Bool.and_eq_true, beq_iff_eq, decide_eq_true_eq] at hq
  rw [hq.1.1, hq.1.2, hq.2] at h1
  refine lv_ldcw C.1 C.2.1 C.2.2.2.2.1 (C.2.2.2.2.2.1 _ (mx_mem h1 rfl)) hdc ?_
  have z := k l D cy ad p e s m args below meth cd H locs lsA C hP hS hL
  rw [hnx] at z
  exact z
theorem mx_e_ldc2_w {n : Nat} (hr : mx_ft mi j = some (pc, (.ldc2_w n), nx, a, b, v)) (hs : mx_step sy (.ldc2_w n) nx a b v ls st c = some (Ps, j', ls', st', c')) (hP0 : mx_all Ps) (k : mx_E sy d mi Q j' ls' st' c') : mx_E sy d mi Q j ls st c := by
  obtain ⟨hck, hpc⟩ := mx_ft_ck hr
  obtain ⟨hdc, hnx, hex⟩ := mx_gen (ins := (.ldc2_w n)) hck
  cases hs
  intro l D cy ad p e s m args below meth cd H locs lsA C hP hS hL
  rw [hpc]
  obtain ⟨e0, he, hq⟩ := List.any_eq_true.mp hex
  have h1 := of_decide_eq_true (List.all_eq_true.mp mx_cll_ok e0 he)
  simp only [Bool.and_eq_true, beq_iff_eq] at hq
  rw [hq.1.1, hq.1.2, hq.2] at h1
  refine lv_ldc2 C.1 C.2.1 C.2.2.2.2.1 (C.2.2.2.2.2.1 _ (mx_mem h1 rfl)) hdc ?_
  have z := k l D cy ad p e s m args below meth cd H locs lsA C hP hS hL
  rw [hnx] at z
  exact z
theorem mx_e_iload_n {n : Fin 4} (hr : mx_ft mi j = some (pc, (.iload_n n), nx, a, b, v)) (hs : mx_ldI nx a ls st c = some (Ps, j', ls', st', c')) (hP0 : mx_all Ps) (k : mx_E sy d mi Q j' ls' st' c') : mx_E sy d mi Q j ls st c := by
  obtain ⟨hck, hpc⟩ := mx_ft_ck hr
  obtain ⟨hdc, hnx, hex⟩ := mx_gen (ins := (.iload_n n)) hck
  have hn : (n : Nat) = a := beq_iff_eq.mp hex
  unfold mx_ldI at hs
  split at hs
  · rename_i x hx
    cases hs
    intro l D cy ad p e s m args below meth cd H locs lsA C hP hS hL
    rw [hpc]
    refine lv_iload_n C.1 C.2.1 hdc hn (hL.2.2.2 _ _ hx (by simp)) ?_
    have z := k l D cy ad p e s m args below meth cd H locs lsA C hP hS hL
    rw [hnx] at z
    exact z
  · cases hs
theorem mx_e_lload_n {n : Fin 4} (hr : mx_ft mi j = some (pc, (.lload_n n), nx, a, b, v)) (hs : mx_ldL nx a ls st c = some (Ps, j', ls', st', c')) (hP0 : mx_all Ps) (k : mx_E sy d mi Q j' ls' st' c') : mx_E sy d mi Q j ls st c := by
  obtain ⟨hck, hpc⟩ := mx_ft_ck hr
  obtain ⟨hdc, hnx, hex⟩ := mx_gen (ins := (.lload_n n)) hck
  have hn : (n : Nat) = a := beq_iff_eq.mp hex
  unfold mx_ldL at hs
  split at hs
  · rename_i x hx
    cases hs
    intro l D cy ad p e s m args below meth cd H locs lsA C hP hS hL
    rw [hpc]
    refine lv_lload_n C.1 C.2.1 hdc hn (hL.2.2.2 _ _ hx (by simp)) ?_
    have z := k l D cy ad p e s m args below meth cd H locs lsA C hP hS hL
    rw [hnx] at z
    exact z
  · cases hs
theorem mx_e_aload_n {n : Fin 4} (hr : mx_ft mi j = some (pc, (.aload_n n), nx, a, b, v)) (hs : mx_ldA nx a ls st c = some (Ps, j', ls', st', c')) (hP0 : mx_all Ps) (k : mx_E sy d mi Q j' ls' st' c') : mx_E sy d mi Q j ls st c := by
  obtain ⟨hck, hpc⟩ := mx_ft_ck hr
  obtain ⟨hdc, hnx, hex⟩ := mx_gen (ins := (.aload_n n)) hck
  have hn : (n : Nat) = a := beq_iff_eq.mp hex
  unfold mx_ldA at hs
  split at hs
  · rename_i x hx
    cases hs
    intro l D cy ad p e s m args below meth cd H locs lsA C hP hS hL
    rw [hpc]
    refine lv_aload_n C.1 C.2.1 hdc hn (hL.2.2.2 _ _ hx (by simp)) ?_
    have z := k l D cy ad p e s m args below meth cd H locs lsA C hP hS hL
    rw [hnx] at z
    exact z
  · cases hs
theorem mx_e_iload {n : Nat} (hr : mx_ft mi j = some (pc, (.iload n), nx, a, b, v)) (hs : mx_ldI nx a ls st c = some (Ps, j', ls', st', c')) (hP0 : mx_all Ps) (k : mx_E sy d mi Q j' ls' st' c') : mx_E sy d mi Q j ls st c := by
  obtain ⟨hck, hpc⟩ := mx_ft_ck hr
  obtain ⟨hdc, hnx, hex⟩ := mx_gen (ins := (.iload n)) hck
  have hn : (n : Nat) = a := beq_iff_eq.mp hex
  subst hn
  unfold mx_ldI at hs
  split at hs
  · rename_i x hx
    cases hs
    intro l D cy ad p e s m args below meth cd H locs lsA C hP hS hL
    rw [hpc]
    refine lv_iload C.1 C.2.1 hdc (hL.2.2.2 _ _ hx (by simp)) ?_
    have z := k l D cy ad p e s m args below meth cd H locs lsA C hP hS hL
    rw [hnx] at z
    exact z
  · cases hs
theorem mx_e_lload {n : Nat} (hr : mx_ft mi j = some (pc, (.lload n), nx, a, b, v)) (hs : mx_ldL nx a ls st c = some (Ps, j', ls', st', c')) (hP0 : mx_all Ps) (k : mx_E sy d mi Q j' ls' st' c') : mx_E sy d mi Q j ls st c := by
  obtain ⟨hck, hpc⟩ := mx_ft_ck hr
  obtain ⟨hdc, hnx, hex⟩ := mx_gen (ins := (.lload n)) hck
  have hn : (n : Nat) = a := beq_iff_eq.mp hex
  subst hn
  unfold mx_ldL at hs
  split at hs
  · rename_i x hx
    cases hs
    intro l D cy ad p e s m args below meth cd H locs lsA C hP hS hL
    rw [hpc]
    refine lv_lload C.1 C.2.1 hdc (hL.2.2.2 _ _ hx (by simp)) ?_
    have z := k l D cy ad p e s m args below meth cd H locs lsA C hP hS hL
    rw [hnx] at z
    exact z
  · cases hs
theorem mx_e_aload {n : Nat} (hr : mx_ft mi j = some (pc, (.aload n), nx, a, b, v)) (hs : mx_ldA nx a ls st c = some (Ps, j', ls', st', c')) (hP0 : mx_all Ps) (k : mx_E sy d mi Q j' ls' st' c') : mx_E sy d mi Q j ls st c := by
  obtain ⟨hck, hpc⟩ := mx_ft_ck hr
  obtain ⟨hdc, hnx, hex⟩ := mx_gen (ins := (.aload n)) hck
  have hn : (n : Nat) = a := beq_iff_eq.mp hex
  subst hn
  unfold mx_ldA at hs
  split at hs
  · rename_i x hx
    cases hs
    intro l D cy ad p e s m args below meth cd H locs lsA C hP hS hL
    rw [hpc]
    refine lv_aload C.1 C.2.1 hdc (hL.2.2.2 _ _ hx (by simp)) ?_
    have z := k l D cy ad p e s m args below meth cd H locs lsA C hP hS hL
    rw [hnx] at z
    exact z
  · cases hs
theorem mx_e_istore_n {n : Fin 4} (hr : mx_ft mi j = some (pc, (.istore_n n), nx, a, b, v)) (hs : mx_stI nx a ls st c = some (Ps, j', ls', st', c')) (hP0 : mx_all Ps) (k : mx_E sy d mi Q j' ls' st' c') : mx_E sy d mi Q j ls st c := by
  obtain ⟨hck, hpc⟩ := mx_ft_ck hr
  obtain ⟨hdc, hnx, hex⟩ := mx_gen (ins := (.istore_n n)) hck
  have hn : (n : Nat) = a := beq_iff_eq.mp hex
  unfold mx_stI at hs
  split at hs
  · rename_i x r
    cases hb : Nat.blt (a) ls.length with
    | false => rw [hb] at hs; cases hs
    | true =>
      rw [hb] at hs
      dsimp only [cond_true] at hs
      rw [mx_fc_eq] at hs
      cases hs
      have hlt : a < ls.length := by simpa [Nat.blt_eq] using hb
      intro l D cy ad p e s m args below meth cd H locs lsA C hP hS hL
      rw [hpc]
      have hlt2 : a < mx_maxL mi := by rw [← hL.2.2.1]; exact hlt
      refine lv_istore_n C.1 C.2.1 hdc hn hL.has hlt2 rfl (fun lsA' hl' => ?_)
      have z := k l D cy ad p e s m args below meth cd H locs lsA' C hP hS (mx_L_s1 (v := .int x) hL.2.2.1 hlt2 hl')
      rw [hnx] at z
      exact z
  · cases hs
theorem mx_e_istore {n : Nat} (hr : mx_ft mi j = some (pc, (.istore n), nx, a, b, v)) (hs : mx_stI nx a ls st c = some (Ps, j', ls', st', c')) (hP0 : mx_all Ps) (k : mx_E sy d mi Q j' ls' st' c') : mx_E sy d mi Q j ls st c := by
  obtain ⟨hck, hpc⟩ := mx_ft_ck hr
  obtain ⟨hdc, hnx, hex⟩ := mx_gen (ins := (.istore n)) hck
  have hn : (n : Nat) = a := beq_iff_eq.mp hex
  subst hn
  unfold mx_stI at hs
  split at hs
  · rename_i x r
    cases hb : Nat.blt (n) ls.length with
    | false => rw [hb] at hs; cases hs
    | true =>
      rw [hb] at hs
      dsimp only [cond_true] at hs
      rw [mx_fc_eq] at hs
      cases hs
      have hlt : n < ls.length := by simpa [Nat.blt_eq] using hb
      intro l D cy ad p e s m args below meth cd H locs lsA C hP hS hL
      rw [hpc]
      have hlt2 : n < mx_maxL mi := by rw [← hL.2.2.1]; exact hlt
      refine lv_istore C.1 C.2.1 hdc hL.has hlt2 rfl (fun lsA' hl' => ?_)
      have z := k l D cy ad p e s m args below meth cd H locs lsA' C hP hS (mx_L_s1 (v := .int x) hL.2.2.1 hlt2 hl')
      rw [hnx] at z
      exact z
  · cases hs
theorem mx_e_astore_n {n : Fin 4} (hr : mx_ft mi j = some (pc, (.astore_n n), nx, a, b, v)) (hs : mx_stA nx a ls st c = some (Ps, j', ls', st', c')) (hP0 : mx_all Ps) (k : mx_E sy d mi Q j' ls' st' c') : mx_E sy d mi Q j ls st c := by
  obtain ⟨hck, hpc⟩ := mx_ft_ck hr
  obtain ⟨hdc, hnx, hex⟩ := mx_gen (ins := (.astore_n n)) hck
  have hn : (n : Nat) = a := beq_iff_eq.mp hex
  unfold mx_stA at hs
  split at hs
  · rename_i x r
    cases hb : Nat.blt (a) ls.length with
    | false => rw [hb] at hs; cases hs
    | true =>
      rw [hb] at hs
      dsimp only [cond_true] at hs
      rw [mx_fc_eq] at hs
      cases hs
      have hlt : a < ls.length := by simpa [Nat.blt_eq] using hb
      intro l D cy ad p e s m args below meth cd H locs lsA C hP hS hL
      rw [hpc]
      have hlt2 : a < mx_maxL mi := by rw [← hL.2.2.1]; exact hlt
      refine lv_astore_n C.1 C.2.1 hdc hn hL.has hlt2 rfl (fun lsA' hl' => ?_)
      have z := k l D cy ad p e s m args below meth cd H locs lsA' C hP hS (mx_L_s1 (v := .ref x) hL.2.2.1 hlt2 hl')
      rw [hnx] at z
      exact z
  · cases hs
theorem mx_e_astore {n : Nat} (hr : mx_ft mi j = some (pc, (.astore n), nx, a, b, v)) (hs : mx_stA nx a ls st c = some (Ps, j', ls', st', c')) (hP0 : mx_all Ps) (k : mx_E sy d mi Q j' ls' st' c') : mx_E sy d mi Q j ls st c := by
  obtain ⟨hck, hpc⟩ := mx_ft_ck hr
  obtain ⟨hdc, hnx, hex⟩ := mx_gen (ins := (.astore n)) hck
  have hn : (n : Nat) = a := beq_iff_eq.mp hex
  subst hn
  unfold mx_stA at hs
  split at hs
  · rename_i x r
    cases hb : Nat.blt (n) ls.length with
    | false => rw [hb] at hs; cases hs
    | true =>
      rw [hb] at hs
      dsimp only [cond_true] at hs
      rw [mx_fc_eq] at hs
      cases hs
      have hlt : n < ls.length := by simpa [Nat.blt_eq] using hb
      intro l D cy ad p e s m args below meth cd H locs lsA C hP hS hL
      rw [hpc]
      have hlt2 : n < mx_maxL mi := by rw [← hL.2.2.1]; exact hlt
      refine lv_astore C.1 C.2.1 hdc hL.has hlt2 rfl (fun lsA' hl' => ?_)
      have z := k l D cy ad p e s m args below meth cd H locs lsA' C hP hS (mx_L_s1 (v := .ref x) hL.2.2.1 hlt2 hl')
      rw [hnx] at z
      exact z
  · cases hs
theorem mx_e_lstore_n {n : Fin 4} (hr : mx_ft mi j = some (pc, (.lstore_n n), nx, a, b, v)) (hs : mx_stL nx a ls st c = some (Ps, j', ls', st', c')) (hP0 : mx_all Ps) (k : mx_E sy d mi Q j' ls' st' c') : mx_E sy d mi Q j ls st c := by
  obtain ⟨hck, hpc⟩ := mx_ft_ck hr
  obtain ⟨hdc, hnx, hex⟩ := mx_gen (ins := (.lstore_n n)) hck
  have hn : (n : Nat) = a := beq_iff_eq.mp hex
  unfold mx_stL at hs
  split at hs
  · rename_i x r
    cases hb : Nat.blt (a + 1) ls.length with
    | false => rw [hb] at hs; cases hs
    | true =>
      rw [hb] at hs
      dsimp only [cond_true] at hs
      rw [mx_fc_eq] at hs
      cases hs
      have hlt : a + 1 < ls.length := by simpa [Nat.blt_eq] using hb
      intro l D cy ad p e s m args below meth cd H locs lsA C hP hS hL
      rw [hpc]
      have hlt2 : a + 1 < mx_maxL mi := by rw [← hL.2.2.1]; exact hlt
      refine lv_lstore_n C.1 C.2.1 hdc hn hL.has hlt2 rfl (fun lsA' hl' => ?_)
      have z := k l D cy ad p e s m args below meth cd H locs lsA' C hP hS (mx_L_s2 (v := .long x) hL.2.2.1 hlt2 hl')
      rw [hnx] at z
      exact z
  · cases hs
theorem mx_e_lstore {n : Nat} (hr : mx_ft mi j = some (pc, (.lstore n), nx, a, b, v)) (hs : mx_stL nx a ls st c = some (Ps, j', ls', st', c')) (hP0 : mx_all Ps) (k : mx_E sy d mi Q j' ls' st' c') : mx_E sy d mi Q j ls st c := by
  obtain ⟨hck, hpc⟩ := mx_ft_ck hr
  obtain ⟨hdc, hnx, hex⟩ := mx_gen (ins := (.lstore n)) hck
  have hn : (n : Nat) = a := beq_iff_eq.mp hex
  subst hn
  unfold mx_stL at hs
  split at hs
  · rename_i x r
    cases hb : Nat.blt (n + 1) ls.length with
    | false => rw [hb] at hs; cases hs
    | true =>
      rw [hb] at hs
      dsimp only [cond_true] at hs
      rw [mx_fc_eq] at hs
      cases hs
      have hlt : n + 1 < ls.length := by simpa [Nat.blt_eq] using hb
      intro l D cy ad p e s m args below meth cd H locs lsA C hP hS hL
      rw [hpc]
      have hlt2 : n + 1 < mx_maxL mi := by rw [← hL.2.2.1]; exact hlt
      refine lv_lstore C.1 C.2.1 hdc hL.has hlt2 rfl (fun lsA' hl' => ?_)
      have z := k l D cy ad p e s m args below meth cd H locs lsA' C hP hS (mx_L_s2 (v := .long x) hL.2.2.1 hlt2 hl')
      rw [hnx] at z
      exact z
  · cases hs
theorem mx_e_iinc {i : Nat} {n : Int} (hr : mx_ft mi j = some (pc, (.iinc i n), nx, a, b, v)) (hs : mx_step sy (.iinc i n) nx a b v ls st c = some (Ps, j', ls', st', c')) (hP0 : mx_all Ps) (k : mx_E sy d mi Q j' ls' st' c') : mx_E sy d mi Q j ls st c := by
  obtain ⟨hck, hpc⟩ := mx_ft_ck hr
  obtain ⟨hdc, hnx, hex⟩ := mx_gen (ins := (.iinc i n)) hck
  have hex : (i == a && decide (Int32.ofInt n = v)) = true := hex
  simp only [Bool.and_eq_true, beq_iff_eq, decide_eq_true_eq] at hex
  obtain ⟨rfl, hv⟩ := hex
  unfold mx_step at hs
  dsimp only at hs
  split at hs
  · rename_i y hy
    rw [mx_fc_eq] at hs
    cases hs
    intro l D cy ad p e s m args below meth cd H locs lsA C hP hS hL
    rw [hpc]
    have hlt2 : i < mx_maxL mi := by rw [← hL.2.2.1]; exact (List.getElem?_eq_some_iff.mp hy).1
    obtain ⟨k0, hk0⟩ := List.getElem?_of_mem (mx_lv_mem (ad := ad) hy (by simp))
    refine lv_iinc (v := y + v) C.1 C.2.1 hdc hL.has hk0 (by rw [hv]) hlt2 rfl (fun lsA' hl' => ?_)
    have z := k l D cy ad p e s m args below meth cd H locs lsA' C hP hS (mx_L_s1 (v := .int (y + v)) hL.2.2.1 hlt2 hl')
    rw [hnx] at z
    exact z
  · cases hs
theorem mx_e_iadd (hr : mx_ft mi j = some (pc, .iadd, nx, a, b, v)) (hs : mx_step sy .iadd nx a b v ls st c = some (Ps, j', ls', st', c')) (hP0 : mx_all Ps) (k : mx_E sy d mi Q j' ls' st' c') : mx_E sy d mi Q j ls st c := by
  obtain ⟨hck, hpc⟩ := mx_ft_ck hr
  obtain ⟨hdc, hnx, hex⟩ := mx_gen (ins := .iadd) hck
  unfold mx_step at hs
  dsimp only at hs
  split at hs
  · cases hs
    intro l D cy ad p e s m args below meth cd H locs lsA C hP hS hL
    rw [hpc]
    refine lv_iadd C.1 C.2.1 hdc ?_
    have z := k l D cy ad p e s m args below meth cd H locs lsA C hP hS hL
    rw [hnx] at z
    exact z
  · cases hs
theorem mx_e_isub (hr : mx_ft mi j = some (pc, .isub, nx, a, b, v)) (hs : mx_step sy .isub nx a b v ls st c = some (Ps, j', ls', st', c')) (hP0 : mx_all Ps) (k : mx_E sy d mi Q j' ls' st' c') : mx_E sy d mi Q j ls st c := by
  obtain ⟨hck, hpc⟩ := mx_ft_ck hr
  obtain ⟨hdc, hnx, hex⟩ := mx_gen (ins := .isub) hck
  unfold mx_step at hs
  dsimp only at hs
  split at hs
  · cases hs
    intro l D cy ad p e s m args below meth cd H locs lsA C hP hS hL
    rw [hpc]
    refine lv_isub C.1 C.2.1 hdc ?_
    have z := k l D cy ad p e s m args below meth cd H locs lsA C hP hS hL
    rw [hnx] at z
    exact z
  · cases hs
theorem mx_e_imul (hr : mx_ft mi j = some (pc, .imul, nx, a, b, v)) (hs : mx_step sy .imul nx a b v ls st c = some (Ps, j', ls', st', c')) (hP0 : mx_all Ps) (k : mx_E sy d mi Q j' ls' st' c') : mx_E sy d mi Q j ls st c := by
  obtain ⟨hck, hpc⟩ := mx_ft_ck hr
  obtain ⟨hdc, hnx, hex⟩ := mx_gen (ins := .imul) hck
  unfold mx_step at hs
  dsimp only at hs
  split at hs
  · cases hs
    intro l D cy ad p e s m args below meth cd H locs lsA C hP hS hL
    rw [hpc]
    refine lv_imul C.1 C.2.1 hdc ?_
    have z := k l D cy ad p e s m args below meth cd H locs lsA C hP hS hL
    rw [hnx] at z
    exact z
  · cases hs
theorem mx_e_iand (hr : mx_ft mi j = some (pc, .iand, nx, a, b, v)) (hs : mx_step sy .iand nx a b v ls st c = some (Ps, j', ls', st', c')) (hP0 : mx_all Ps) (k : mx_E sy d mi Q j' ls' st' c') : mx_E sy d mi Q j ls st c := by
  obtain ⟨hck, hpc⟩ := mx_ft_ck hr
  obtain ⟨hdc, hnx, hex⟩ := mx_gen (ins := .iand) hck
  unfold mx_step at hs
  dsimp only at hs
  split at hs
  · cases hs
    intro l D cy ad p e s m args below meth cd H locs lsA C hP hS hL
    rw [hpc]
    refine lv_iand C.1 C.2.1 hdc ?_
    have z := k l D cy ad p e s m args below meth cd H locs lsA C hP hS hL
    rw [hnx] at z
    exact z
  · cases hs
theorem mx_e_ior (hr : mx_ft mi j = some (pc, .ior, nx, a, b, v)) (hs : mx_step sy .ior nx a b v ls st c = some (Ps, j', ls', st', c')) (hP0 : mx_all Ps) (k : mx_E sy d mi Q j' ls' st' c') : mx_E sy d mi Q j ls st c := by
  obtain ⟨hck, hpc⟩ := mx_ft_ck hr
  obtain ⟨hdc, hnx, hex⟩ := mx_gen (ins := .ior) hck
  unfold mx_step at hs
  dsimp only at hs
  split at hs
  · cases hs
    intro l D cy ad p e s m args below meth cd H locs lsA C hP hS hL
    rw [hpc]
    refine lv_ior C.1 C.2.1 hdc ?_
    have z := k l D cy ad p e s m args below meth cd H locs lsA C hP hS hL
    rw [hnx] at z
    exact z
  · cases hs
theorem mx_e_ixor (hr : mx_ft mi j = some (pc, .ixor, nx, a, b, v)) (hs : mx_step sy .ixor nx a b v ls st c = some (Ps, j', ls', st', c')) (hP0 : mx_all Ps) (k : mx_E sy d mi Q j' ls' st' c') : mx_E sy d mi Q j ls st c := by
  obtain ⟨hck, hpc⟩ := mx_ft_ck hr
  obtain ⟨hdc, hnx, hex⟩ := mx_gen (ins := .ixor) hck
  unfold mx_step at hs
  dsimp only at hs
  split at hs
  · cases hs
    intro l D cy ad p e s m args below meth cd H locs lsA C hP hS hL
    rw [hpc]
    refine lv_ixor C.1 C.2.1 hdc ?_
    have z := k l D cy ad p e s m args below meth cd H locs lsA C hP hS hL
    rw [hnx] at z
    exact z
  · cases hs
theorem mx_e_ishl (hr : mx_ft mi j = some (pc, .ishl, nx, a, b, v)) (hs : mx_step sy .ishl nx a b v ls st c = some (Ps, j', ls', st', c')) (hP0 : mx_all Ps) (k : mx_E sy d mi Q j' ls' st' c') : mx_E sy d mi Q j ls st c := by
  obtain ⟨hck, hpc⟩ := mx_ft_ck hr
  obtain ⟨hdc, hnx, hex⟩ := mx_gen (ins := .ishl) hck
  unfold mx_step at hs
  dsimp only at hs
  split at hs
  · cases hs
    intro l D cy ad p e s m args below meth cd H locs lsA C hP hS hL
    rw [hpc]
    refine lv_ishl C.1 C.2.1 hdc ?_
    have z := k l D cy ad p e s m args below meth cd H locs lsA C hP hS hL
    rw [hnx] at z
    exact z
  · cases hs
theorem mx_e_ishr (hr : mx_ft mi j = some (pc, .ishr, nx, a, b, v)) (hs : mx_step sy .ishr nx a b v ls st c = some (Ps, j', ls', st', c')) (hP0 : mx_all Ps) (k : mx_E sy d mi Q j' ls' st' c') : mx_E sy d mi Q j ls st c := by
  obtain ⟨hck, hpc⟩ := mx_ft_ck hr
  obtain ⟨hdc, hnx, hex⟩ := mx_gen (ins := .ishr) hck
  unfold mx_step at hs
  dsimp only at hs
  split at hs
  · cases hs
    intro l D cy ad p e s m args below meth cd H locs lsA C hP hS hL
    rw [hpc]
    refine lv_ishr C.1 C.2.1 hdc ?_
    have z := k l D cy ad p e s m args below meth cd H locs lsA C hP hS hL
    rw [hnx] at z
    exact z
  · cases hs
theorem mx_e_iushr (hr : mx_ft mi j = some (pc, .iushr, nx, a, b, v)) (hs : mx_step sy .iushr nx a b v ls st c = some (Ps, j', ls', st', c')) (hP0 : mx_all Ps) (k : mx_E sy d mi Q j' ls' st' c') : mx_E sy d mi Q j ls st c := by
  obtain ⟨hck, hpc⟩ := mx_ft_ck hr
  obtain ⟨hdc, hnx, hex⟩ := mx_gen (ins := .iushr) hck
  unfold mx_step at hs
  dsimp only at hs
  split at hs
  · cases hs
    intro l D cy ad p e s m args below meth cd H locs lsA C hP hS hL
    rw [hpc]
    refine lv_iushr C.1 C.2.1 hdc rfl ?_
    have z := k l D cy ad p e s m args below meth cd H locs lsA C hP hS hL
    rw [hnx] at z
    exact z
  · cases hs
theorem mx_e_ladd (hr : mx_ft mi j = some (pc, .ladd, nx, a, b, v)) (hs : mx_step sy .ladd nx a b v ls st c = some (Ps, j', ls', st', c')) (hP0 : mx_all Ps) (k : mx_E sy d mi Q j' ls' st' c') : mx_E sy d mi Q j ls st c := by
  obtain ⟨hck, hpc⟩ := mx_ft_ck hr
  obtain ⟨hdc, hnx, hex⟩ := mx_gen (ins := .ladd) hck
  unfold mx_step at hs
  dsimp only at hs
  split at hs
  · cases hs
    intro l D cy ad p e s m args below meth cd H locs lsA C hP hS hL
    rw [hpc]
    refine lv_ladd C.1 C.2.1 hdc ?_
    have z := k l D cy ad p e s m args below meth cd H locs lsA C hP hS hL
    rw [hnx] at z
    exact z
  · cases hs
theorem mx_e_lmul (hr : mx_ft mi j = some (pc, .lmul, nx, a, b, v)) (hs : mx_step sy .lmul nx a b v ls st c = some (Ps, j', ls', st', c')) (hP0 : mx_all Ps) (k : mx_E sy d mi Q j' ls' st' c') : mx_E sy d mi Q j ls st c := by
  obtain ⟨hck, hpc⟩ := mx_ft_ck hr
  obtain ⟨hdc, hnx, hex⟩ := mx_gen (ins := .lmul) hck
  unfold mx_step at hs
  dsimp only at hs
  split at hs
  · cases hs
    intro l D cy ad p e s m args below meth cd H locs lsA C hP hS hL
    rw [hpc]
    refine lv_lmul C.1 C.2.1 hdc ?_
    have z := k l D cy ad p e s m args below meth cd H locs lsA C hP hS hL
    rw [hnx] at z
    exact z
  · cases hs
theorem mx_e_idiv (hr : mx_ft mi j = some (pc, .idiv, nx, a, b, v)) (hs : mx_step sy .idiv nx a b v ls st c = some (Ps, j', ls', st', c')) (hP0 : mx_all Ps) (k : mx_E sy d mi Q j' ls' st' c') : mx_E sy d mi Q j ls st c := by
  obtain ⟨hck, hpc⟩ := mx_ft_ck hr
  obtain ⟨hdc, hnx, hex⟩ := mx_gen (ins := .idiv) hck
  unfold mx_step at hs
  dsimp only at hs
  split at hs
  · cases hs
    intro l D cy ad p e s m args below meth cd H locs lsA C hP hS hL
    rw [hpc]
    refine lv_idiv C.1 C.2.1 hdc hP0.1 ?_
    have z := k l D cy ad p e s m args below meth cd H locs lsA C hP hS hL
    rw [hnx] at z
    exact z
  · cases hs
theorem mx_e_irem (hr : mx_ft mi j = some (pc, .irem, nx, a, b, v)) (hs : mx_step sy .irem nx a b v ls st c = some (Ps, j', ls', st', c')) (hP0 : mx_all Ps) (k : mx_E sy d mi Q j' ls' st' c') : mx_E sy d mi Q j ls st c := by
  obtain ⟨hck, hpc⟩ := mx_ft_ck hr
  obtain ⟨hdc, hnx, hex⟩ := mx_gen (ins := .irem) hck
  unfold mx_step at hs
  dsimp only at hs
  split at hs
  · cases hs
    intro l D cy ad p e s m args below meth cd H locs lsA C hP hS hL
    rw [hpc]
    refine lv_irem C.1 C.2.1 hdc hP0.1 ?_
    have z := k l D cy ad p e s m args below meth cd H locs lsA C hP hS hL
    rw [hnx] at z
    exact z
  · cases hs
theorem mx_e_ldiv (hr : mx_ft mi j = some (pc, .ldiv, nx, a, b, v)) (hs : mx_step sy .ldiv nx a b v ls st c = some (Ps, j', ls', st', c')) (hP0 : mx_all Ps) (k : mx_E sy d mi Q j' ls' st' c') : mx_E sy d mi Q j ls st c := by
  obtain ⟨hck, hpc⟩ := mx_ft_ck hr
  obtain ⟨hdc, hnx, hex⟩ := mx_gen (ins := .ldiv) hck
  unfold mx_step at hs
  dsimp only at hs
  split at hs
  · cases hs
    intro l D cy ad p e s m args below meth cd H locs lsA C hP hS hL
    rw [hpc]
    refine lv_ldiv C.1 C.2.1 hdc hP0.1 ?_
    have z := k l D cy ad p e s m args below meth cd H locs lsA C hP hS hL
    rw [hnx] at z
    exact z
  · cases hs
theorem mx_e_lrem (hr : mx_ft mi j = some (pc, .lrem, nx, a, b, v)) (hs : mx_step sy .lrem nx a b v ls st c = some (Ps, j', ls', st', c')) (hP0 : mx_all Ps) (k : mx_E sy d mi Q j' ls' st' c') : mx_E sy d mi Q j ls st c := by
  obtain ⟨hck, hpc⟩ := mx_ft_ck hr
  obtain ⟨hdc, hnx, hex⟩ := mx_gen (ins := .lrem) hck
  unfold mx_step at hs
  dsimp only at hs
  split at hs
  · cases hs
    intro l D cy ad p e s m args below meth cd H locs lsA C hP hS hL
    rw [hpc]
    refine lv_lrem C.1 C.2.1 hdc hP0.1 ?_
    have z := k l D cy ad p e s m args below meth cd H locs lsA C hP hS hL
    rw [hnx] at z
    exact z
  · cases hs
theorem mx_e_lcmp (hr : mx_ft mi j = some (pc, .lcmp, nx, a, b, v)) (hs : mx_step sy .lcmp nx a b v ls st c = some (Ps, j', ls', st', c')) (hP0 : mx_all Ps) (k : mx_E sy d mi Q j' ls' st' c') : mx_E sy d mi Q j ls st c := by
  obtain ⟨hck, hpc⟩ := mx_ft_ck hr
  obtain ⟨hdc, hnx, hex⟩ := mx_gen (ins := .lcmp) hck
  unfold mx_step at hs
  dsimp only at hs
  split at hs
  · cases hs
    intro l D cy ad p e s m args below meth cd H locs lsA C hP hS hL
    rw [hpc]
    refine W.lcmp C.1 C.2.1 hdc ?_
    have z := k l D cy ad p e s m args below meth cd H locs lsA C hP hS hL
    rw [hnx] at z
    exact z
  · cases hs
theorem mx_e_i2l (hr : mx_ft mi j = some (pc, .i2l, nx, a, b, v)) (hs : mx_step sy .i2l nx a b v ls st c = some (Ps, j', ls', st', c')) (hP0 : mx_all Ps) (k : mx_E sy d mi Q j' ls' st' c') : mx_E sy d mi Q j ls st c := by
  obtain ⟨hck, hpc⟩ := mx_ft_ck hr
  obtain ⟨hdc, hnx, hex⟩ := mx_gen (ins := .i2l) hck
  unfold mx_step at hs
  dsimp only at hs
  split at hs
  · cases hs
    intro l D cy ad p e s m args below meth cd H locs lsA C hP hS hL
    rw [hpc]
    refine lv_i2l C.1 C.2.1 hdc rfl ?_
    have z := k l D cy ad p e s m args below meth cd H locs lsA C hP hS hL
    rw [hnx] at z
    exact z
  · cases hs
theorem mx_e_l2i (hr : mx_ft mi j = some (pc, .l2i, nx, a, b, v)) (hs : mx_step sy .l2i nx a b v ls st c = some (Ps, j', ls', st', c')) (hP0 : mx_all Ps) (k : mx_E sy d mi Q j' ls' st' c') : mx_E sy d mi Q j ls st c := by
  obtain ⟨hck, hpc⟩ := mx_ft_ck hr
  obtain ⟨hdc, hnx, hex⟩ := mx_gen (ins := .l2i) hck
  unfold mx_step at hs
  dsimp only at hs
  split at hs
  · cases hs
    intro l D cy ad p e s m args below meth cd H locs lsA C hP hS hL
    rw [hpc]
    refine lv_l2i C.1 C.2.1 hdc rfl ?_
    have z := k l D cy ad p e s m args below meth cd H locs lsA C hP hS hL
    rw [hnx] at z
    exact z
  · cases hs
theorem mx_e_dup2 (hr : mx_ft mi j = some (pc, .dup2, nx, a, b, v)) (hs : mx_step sy .dup2 nx a b v ls st c = some (Ps, j', ls', st', c')) (hP0 : mx_all Ps) (k : mx_E sy d mi Q j' ls' st' c') : mx_E sy d mi Q j ls st c := by
  obtain ⟨hck, hpc⟩ := mx_ft_ck hr
  obtain ⟨hdc, hnx, hex⟩ := mx_gen (ins := .dup2) hck
  unfold mx_step at hs
  dsimp only at hs
  split at hs
  · cases hs
    intro l D cy ad p e s m args below meth cd H locs lsA C hP hS hL
    rw [hpc]
    refine lv_dup2_11 C.1 C.2.1 hdc rfl rfl ?_
    have z := k l D cy ad p e s m args below meth cd H locs lsA C hP hS hL
    rw [hnx] at z
    exact z
  · cases hs
theorem mx_e_pop (hr : mx_ft mi j = some (pc, .pop, nx, a, b, v)) (hs : mx_step sy .pop nx a b v ls st c = some (Ps, j', ls', st', c')) (hP0 : mx_all Ps) (k : mx_E sy d mi Q j' ls' st' c') : mx_E sy d mi Q j ls st c := by
  obtain ⟨hck, hpc⟩ := mx_ft_ck hr
  obtain ⟨hdc, hnx, hex⟩ := mx_gen (ins := .pop) hck
  unfold mx_step at hs
  dsimp only at hs
  split at hs
  · cases hs
    intro l D cy ad p e s m args below meth cd H locs lsA C hP hS hL
    rw [hpc]
    refine lv_pop C.1 C.2.1 hdc rfl ?_
    have z := k l D cy ad p e s m args below meth cd H locs lsA C hP hS hL
    rw [hnx] at z
    exact z
  · cases hs
theorem mx_e_dup (hr : mx_ft mi j = some (pc, .dup, nx, a, b, v)) (hs : mx_step sy .dup nx a b v ls st c = some (Ps, j', ls', st', c')) (hP0 : mx_all Ps) (k : mx_E sy d mi Q j' ls' st' c') : mx_E sy d mi Q j ls st c := by
  obtain ⟨hck, hpc⟩ := mx_ft_ck hr
  obtain ⟨hdc, hnx, hex⟩ := mx_gen (ins := .dup) hck
  unfold mx_step at hs
  dsimp only at hs
  split at hs
  · cases hs
    intro l D cy ad p e s m args below meth cd H locs lsA C hP hS hL
    rw [hpc]
    refine lv_dup C.1 C.2.1 hdc rfl ?_
    have z := k l D cy ad p e s m args below meth cd H locs lsA C hP hS hL
    rw [hnx] at z
    exact z
  · cases hs
    intro l D cy ad p e s m args below meth cd H locs lsA C hP hS hL
    rw [hpc]
    refine lv_dup C.1 C.2.1 hdc rfl ?_
    have z := k l D cy ad p e s m args below meth cd H locs lsA C hP hS hL
    rw [hnx] at z
    exact z
  · cases hs
theorem mx_e_goto {off : Int} (hr : mx_ft mi j = some (pc, (.goto off), nx, a, b, v)) (k : mx_E sy d mi Q nx ls st c) : mx_E sy d mi Q j ls st c := by
  obtain ⟨hck, hpc⟩ := mx_ft_ck hr
  have hck : (mx_dc mi pc (.goto off) && decide ((pc : Int) + off = (mx_pc mi nx : Int))) = true := hck
  simp only [Bool.and_eq_true, decide_eq_true_eq] at hck
  have hdc : decode (mx_code mi) pc = .ok (.goto off, 3) := of_decide_eq_true hck.1
  intro l D cy ad p e s m args below meth cd H locs lsA C hP hS hL
  rw [hpc]
  refine lv_goto C.1 C.2.1 hdc hck.2 ?_
  exact k l D cy ad p e s m args below meth cd H locs lsA C hP hS hL
end RULES
end
section
section RULES2
variable {sy d mi j pc nx a b : Nat} {v : Int32} {Q : Option Value → mx_M → Prop} {ls st : List Value} {c : mx_M} {Ps : List Prop} {j' : Nat} {ls' st' : List Value} {c' : mx_M}
theorem mx_Ctx.ts {D : va_G} {cy : Nat → ClassId} {ad : Nat → Nat} {p : Program} {s : State} {m : MethodId} {args : Array Value} {meth : Method} {cd : Code} (C : mx_Ctx sy mi D cy ad p s m args meth cd) {w : Cond} (h : w ∈ mx_good) : w.before args s = true := C.2.2.2.2.2.1 w h
theorem mx_Ctx.nw {D : va_G} {cy : Nat → ClassId} {ad : Nat → Nat} {p : Program} {s : State} {m : MethodId} {args : Array Value} {meth : Method} {cd : Code} (C : mx_Ctx sy mi D cy ad p s m args meth cd) {w : Cond} (h : w ∈ mx_nest) : va_Nw w s := C.2.2.2.2.2.2.1 w h
theorem mx_Ctx.own {D : va_G} {cy : Nat → ClassId} {ad : Nat → Nat} {p : Program} {s : State} {m : MethodId} {args : Array Value} {meth : Method} {cd : Code} (C : mx_Ctx sy mi D cy ad p s m args meth cd) : s.vm.findClass (mx_cn (mx_own mi)) = some m.cls := C.2.2.2.2.1
theorem mx_Ctx.K {D : va_G} {cy : Nat → ClassId} {ad : Nat → Nat} {p : Program} {s : State} {m : MethodId} {args : Array Value} {meth : Method} {cd : Code} (C : mx_Ctx sy mi D cy ad p s m args meth cd) : va_K D vwCl (mx_tys cy) s := C.2.2.2.2.2.2.2.2.1
theorem mx_Ctx.inj {D : va_G} {cy : Nat → ClassId} {ad : Nat → Nat} {p : Program} {s : State} {m : MethodId} {args : Array Value} {meth : Method} {cd : Code} (C : mx_Ctx sy mi D cy ad p s m args meth cd) : mx_inj sy ad := C.2.2.2.2.2.2.2.2.2.1
theorem mx_Ctx.Z {D : va_G} {cy : Nat → ClassId} {ad : Nat → Nat} {p : Program} {s : State} {m : MethodId} {args : Array Value} {meth : Method} {cd : Code} (C : mx_Ctx sy mi D cy ad p s m args meth cd) : mx_Z (ad 1000) (mx_A sy ad s.heap.size) s s.heap := C.2.2.2.2.2.2.2.2.2.2

theorem mx_e_getfield {n : Nat} (hr : mx_ft mi j = some (pc, (.getfield n), nx, a, b, v)) (hs : mx_gf sy nx a b ls st c = some (Ps, j', ls', st', c')) (hP0 : mx_all Ps) (k : mx_E sy d mi Q j' ls' st' c') : mx_E sy d mi Q j ls st c := by
  obtain ⟨hck, hpc⟩ := mx_ft_ck hr
  obtain ⟨hdc, hnx, hex⟩ := mx_gen (ins := (.getfield n)) hck
  unfold mx_gf at hs
  split at hs
  · rename_i i r
    cases hb : Nat.blt i (mx_N sy) with
    | false => rw [hb] at hs; cases hs
    | true =>
    rw [hb] at hs
    have hi : i < mx_N sy := by simpa [Nat.blt_eq] using hb
    dsimp only [cond_true] at hs
    split at hs
    · rename_i ci fs hsh
      cases hcb : ci == a with
      | false => rw [hcb] at hs; cases hs
      | true =>
      rw [hcb] at hs
      dsimp only [cond_true] at hs
      have e1 : ci = a := beq_iff_eq.mp hcb
      subst e1
      obtain ⟨h7, hlen, -⟩ := mx_sh_obj hi hsh
      obtain ⟨hc, hc1, -, -⟩ := mx_cl7 ci h7
      have key : ∀ (l : Launch) (D : va_G) (cy : Nat → ClassId) (ad : Nat → Nat) (p : Program) (e : Env) (s : State) (m : MethodId) (args : Array Value) (below : List Frame) (meth : Method) (cd : Code) (H : Heap) (locs : List Loc) (lsA : Array Slot) (ZQ : State → Prop) (w : Value), mx_Ctx sy mi D cy ad p s m args meth cd → va_P D vwCl (mx_W sy cy ad c) H → (mx_fl ad (c i) 0 fs)[b]? = some w → W p l e (mx_rm d) s m args below meth cd H locs 0 0 ZQ (F0 m (pc + 3) lsA (w :: r.map (mx_tv ad))) → W p l e (mx_rm d) s m args below meth cd H locs 0 0 ZQ (F0 m pc lsA (.ref (ad i) :: r.map (mx_tv ad))) := by
        intro l D cy ad p e s m args below meth cd H locs lsA ZQ w C hP hw kk
        have hbl : b < mx_nf ci := by
          have := (List.getElem?_eq_some_iff.mp hw).1
          rw [mx_fl_len, hlen] at this
          exact this
        have he : (mx_W sy cy ad c)[i]? = some (ad i, .inr (ci, mx_fl ad (c i) 0 fs)) := by rw [mx_W_at hi, hsh]; rfl
        rcases (Bool.or_eq_true _ _).mp hex with h | h
        · exact va_get (D := D) (T := mx_T ci) C.1 C.2.1 C.2.2.2.2.2.1 (mx_inG ci _ hc) C.own C.K hP i he hc b hbl (C.ts (mx_flP_mem h)) (fun x h9 => by rw [hc1 b hbl] at h9; exact h9) hw hdc kk
        · exact va_getN (D := D) (T := mx_T ci) C.1 C.2.1 C.2.2.2.2.2.1 (mx_inG ci _ hc) C.own C.K hP i he hc b hbl (va_Nw.use rfl (C.nw (mx_flN_mem h))) (fun x h9 => by rw [hc1 b hbl] at h9; exact h9) hw hdc kk
      split at hs
      · rename_i hf
        cases hs
        intro l D cy ad p e s m args below meth cd H locs lsA C hP hS hL
        rw [hpc]
        refine key l D cy ad p e s m args below meth cd H locs lsA _ (.int (c i b)) C hP (by rw [mx_fl_at, hf]; simp) ?_
        have z := k l D cy ad p e s m args below meth cd H locs lsA C hP hS hL
        rw [hnx] at z
        exact z
      · rename_i q hf
        cases hs
        intro l D cy ad p e s m args below meth cd H locs lsA C hP hS hL
        rw [hpc]
        refine key l D cy ad p e s m args below meth cd H locs lsA _ (.ref (ad q)) C hP (by rw [mx_fl_at, hf]; simp) ?_
        have z := k l D cy ad p e s m args below meth cd H locs lsA C hP hS hL
        rw [hnx] at z
        exact z
      · cases hs
    · cases hs
  · cases hs
theorem mx_e_putfield {n : Nat} (hr : mx_ft mi j = some (pc, (.putfield n), nx, a, b, v)) (hs : mx_pf sy nx a b ls st c = some (Ps, j', ls', st', c')) (hP0 : mx_all Ps) (k : mx_E sy d mi Q j' ls' st' c') : mx_E sy d mi Q j ls st c := by
  obtain ⟨hck, hpc⟩ := mx_ft_ck hr
  obtain ⟨hdc, hnx, hex⟩ := mx_gen (ins := (.putfield n)) hck
  have hex : ((mx_inF mx_flP (mx_own mi) n a b || mx_inF mx_flN (mx_own mi) n a b) && !((mx_T a b).2.2.2)) = true := hex
  have hex1 := (Bool.and_eq_true_iff.mp hex).1
  have hfin : (mx_T a b).2.2.2 = false := by simpa using (Bool.and_eq_true_iff.mp hex).2
  unfold mx_pf at hs
  split at hs
  · rename_i x i r
    cases hb : Nat.blt i (mx_N sy) with
    | false => rw [hb] at hs; cases hs
    | true =>
    rw [hb] at hs
    have hi : i < mx_N sy := by simpa [Nat.blt_eq] using hb
    dsimp only [cond_true] at hs
    split at hs
    · rename_i ci fs hsh
      cases hcb : ci == a with
      | false => rw [hcb] at hs; cases hs
      | true =>
      rw [hcb] at hs
      dsimp only [cond_true] at hs
      have e1 : ci = a := beq_iff_eq.mp hcb
      subst e1
      obtain ⟨h7, hlen, hint⟩ := mx_sh_obj hi hsh
      obtain ⟨hc, hc1, hty, hnm⟩ := mx_cl7 ci h7
      split at hs
      · rename_i hf
        cases hs
        have hbl : b < mx_nf ci := by
          rw [← hlen]
          exact (List.getElem?_eq_some_iff.mp hf).1
        have hd : parseFieldDescriptor (mx_T ci b).2.2.1 = some .int := by rw [hty b hbl, hint b hf]
        intro l D cy ad p e s m args below meth cd H locs lsA C hP hS hL
        rw [hpc]
        have he : (mx_W sy cy ad c)[i]? = some (ad i, .inr (ci, mx_fl ad (c i) 0 fs)) := by rw [mx_W_at hi, hsh]; rfl
        have hset : (mx_W sy cy ad c).set i (ad i, .inr (ci, (mx_fl ad (c i) 0 fs).set b (.int x))) = mx_W sy cy ad (mx_up c i b x) := by
          rw [mx_up_R, ← mx_W_set hi, hsh, mx_fl_set ad (c i) x fs 0 b hf, Nat.zero_add]
          rfl
        have fin : ∀ (H1 : Heap) (locs1 : List Loc), va_P D vwCl ((mx_W sy cy ad c).set i (ad i, .inr (ci, (mx_fl ad (c i) 0 fs).set b (.int x)))) H1 → va_D (mx_A sy ad s.heap.size) ((mx_W sy cy ad c).set i (ad i, .inr (ci, (mx_fl ad (c i) 0 fs).set b (.int x)))) → va_S (mx_A sy ad s.heap.size) s.heap H1 locs1 → W p l e (mx_rm d) s m args below meth cd H1 locs1 0 0 (MQ below (mx_Qc sy D cy ad Q s.heap.size) args s 0 0 (mx_A sy ad s.heap.size)) (F0 m (pc + 3) lsA (st'.map (mx_tv ad))) := by
          intro H1 locs1 hP1 _ hS1
          rw [hset] at hP1
          have z := k l D cy ad p e s m args below meth cd H1 locs1 lsA C hP1 hS1 hL
          rw [hnx] at z
          exact z
        rcases (Bool.or_eq_true _ _).mp hex1 with h | h
        · exact va_put (D := D) (T := mx_T ci) C.1 C.2.1 C.2.2.2.2.2.1 (mx_inG ci _ hc) (mx_ty ci) hty hnm C.own C.K hP (mx_D s.heap.size C.inj) hS i he hc b hbl (C.ts (mx_flP_mem h)) (fun x h9 => by rw [hc1 b hbl] at h9; exact h9) hfin hd rfl rfl (by rw [mx_fl_len, hlen]; exact hbl) hdc fin
        · exact va_putN (D := D) (T := mx_T ci) C.1 C.2.1 C.2.2.2.2.2.1 (mx_inG ci _ hc) (mx_ty ci) hty hnm C.own C.K hP (mx_D s.heap.size C.inj) hS i he hc b hbl (va_Nw.use rfl (C.nw (mx_flN_mem h))) (fun x h9 => by rw [hc1 b hbl] at h9; exact h9) hfin hd rfl rfl (by rw [mx_fl_len, hlen]; exact hbl) hdc fin
      · cases hs
    · cases hs
  · cases hs
theorem mx_e_getstatic {n : Nat} (hr : mx_ft mi j = some (pc, (.getstatic n), nx, a, b, v)) (hs : mx_step sy (.getstatic n) nx a b v ls st c = some (Ps, j', ls', st', c')) (hP0 : mx_all Ps) (k : mx_E sy d mi Q j' ls' st' c') : mx_E sy d mi Q j ls st c := by
  obtain ⟨hck, hpc⟩ := mx_ft_ck hr
  obtain ⟨hdc, hnx, hex⟩ := mx_gen (ins := (.getstatic n)) hck
  cases hs
  simp only [mx_ex, Bool.and_eq_true, beq_iff_eq] at hex
  intro l D cy ad p e s m args below meth cd H locs lsA C hP hS hL
  rw [hpc]
  have ho := C.own
  rw [hex.1] at ho
  have hw := C.ts (mx_mem mx_so_ok rfl)
  rw [← hex.2] at hw
  refine va_gets C.1 C.2.1 C.Z.1 hS ho hw (fun x h9 => h9) hdc ?_
  have z := k l D cy ad p e s m args below meth cd H locs lsA C hP hS hL
  rw [hnx] at z
  exact z
theorem mx_e_iaload (hr : mx_ft mi j = some (pc, .iaload, nx, a, b, v)) (hs : mx_ial sy nx ls st c = some (Ps, j', ls', st', c')) (hP0 : mx_all Ps) (k : mx_E sy d mi Q j' ls' st' c') : mx_E sy d mi Q j ls st c := by
  obtain ⟨hck, hpc⟩ := mx_ft_ck hr
  obtain ⟨hdc, hnx, hex⟩ := mx_gen (ins := .iaload) hck
  unfold mx_ial at hs
  split at hs
  · rename_i q i r
    cases hz : i == 1000 with
    | true =>
      rw [hz] at hs
      dsimp only [cond_true] at hs
      have e0 : i = 1000 := beq_iff_eq.mp hz
      subst e0
      cases hs
      intro l D cy ad p e s m args below meth cd H locs lsA C hP hS hL
      rw [hpc]
      refine va_ti C.1 C.2.1 C.Z.2 hS hP0.1 rfl hdc ?_
      have z := k l D cy ad p e s m args below meth cd H locs lsA C hP hS hL
      rw [hnx] at z
      exact z
    | false =>
    rw [hz] at hs
    dsimp only [cond_false] at hs
    cases hb : Nat.blt i (mx_N sy) with
    | false => rw [hb] at hs; cases hs
    | true =>
    rw [hb] at hs
    have hi : i < mx_N sy := by simpa [Nat.blt_eq] using hb
    dsimp only [cond_true] at hs
    split at hs
    · rename_i n hsh
      cases hs
      intro l D cy ad p e s m args below meth cd H locs lsA C hP hS hL
      rw [hpc]
      refine va_iald (D := D) C.1 C.2.1 C.K hP i 0 (f := c i) (by rw [mx_W_at hi, hsh]; rfl) rfl hP0.1 hdc ?_
      have z := k l D cy ad p e s m args below meth cd H locs lsA C hP hS hL
      rw [hnx] at z
      exact z
    · cases hs
  · cases hs
theorem mx_e_baload (hr : mx_ft mi j = some (pc, .baload, nx, a, b, v)) (hs : mx_bal sy nx ls st c = some (Ps, j', ls', st', c')) (hP0 : mx_all Ps) (k : mx_E sy d mi Q j' ls' st' c') : mx_E sy d mi Q j ls st c := by
  obtain ⟨hck, hpc⟩ := mx_ft_ck hr
  obtain ⟨hdc, hnx, hex⟩ := mx_gen (ins := .baload) hck
  unfold mx_bal at hs
  split at hs
  · rename_i q i r
    cases hb : Nat.blt i (mx_N sy) with
    | false => rw [hb] at hs; cases hs
    | true =>
    rw [hb] at hs
    have hi : i < mx_N sy := by simpa [Nat.blt_eq] using hb
    dsimp only [cond_true] at hs
    split at hs
    · rename_i n hsh
      cases hs
      intro l D cy ad p e s m args below meth cd H locs lsA C hP hS hL
      rw [hpc]
      refine va_zald (D := D) C.1 C.2.1 C.K hP i 1 (f := c i) (by rw [mx_W_at hi, hsh]; rfl) rfl hP0.1 hdc ?_
      have z := k l D cy ad p e s m args below meth cd H locs lsA C hP hS hL
      rw [hnx] at z
      exact z
    · cases hs
  · cases hs
theorem mx_e_aaload (hr : mx_ft mi j = some (pc, .aaload, nx, a, b, v)) (hs : mx_aal sy nx ls st c = some (Ps, j', ls', st', c')) (hP0 : mx_all Ps) (k : mx_E sy d mi Q j' ls' st' c') : mx_E sy d mi Q j ls st c := by
  obtain ⟨hck, hpc⟩ := mx_ft_ck hr
  obtain ⟨hdc, hnx, hex⟩ := mx_gen (ins := .aaload) hck
  unfold mx_aal at hs
  split at hs
  · rename_i q i r
    cases hb : Nat.blt i (mx_N sy) with
    | false => rw [hb] at hs; cases hs
    | true =>
    rw [hb] at hs
    have hi : i < mx_N sy := by simpa [Nat.blt_eq] using hb
    dsimp only [cond_true] at hs
    split at hs
    · rename_i n hsh
      cases hs
      intro l D cy ad p e s m args below meth cd H locs lsA C hP hS hL
      rw [hpc]
      refine va_aldq (D := D) C.1 C.2.1 C.K hP i 2 (f := fun j => some (ad (c i j).toNatClampNeg)) (by rw [mx_W_at hi, hsh]; rfl) rfl hP0.1 hdc ?_
      have z := k l D cy ad p e s m args below meth cd H locs lsA C hP hS hL
      rw [hnx] at z
      exact z
    · cases hs
  · cases hs
theorem mx_e_iastore (hr : mx_ft mi j = some (pc, .iastore, nx, a, b, v)) (hs : mx_ias sy nx ls st c = some (Ps, j', ls', st', c')) (hP0 : mx_all Ps) (k : mx_E sy d mi Q j' ls' st' c') : mx_E sy d mi Q j ls st c := by
  obtain ⟨hck, hpc⟩ := mx_ft_ck hr
  obtain ⟨hdc, hnx, hex⟩ := mx_gen (ins := .iastore) hck
  unfold mx_ias at hs
  split at hs
  · rename_i x q i r
    cases hb : Nat.blt i (mx_N sy) with
    | false => rw [hb] at hs; cases hs
    | true =>
    rw [hb] at hs
    have hi : i < mx_N sy := by simpa [Nat.blt_eq] using hb
    dsimp only [cond_true] at hs
    split at hs
    · rename_i n hsh
      cases hs
      intro l D cy ad p e s m args below meth cd H locs lsA C hP hS hL
      rw [hpc]
      refine va_iast (D := D) C.1 C.2.1 C.K hP (mx_D s.heap.size C.inj) hS i 0 (f := c i) (by rw [mx_W_at hi, hsh]; rfl) rfl hP0.1 hdc (fun H1 locs1 hP1 _ hS1 => ?_)
      have hset : (mx_W sy cy ad c).set i (ad i, .inl (cy 0, n, .inl (upd (c i) q.toNatClampNeg x))) = mx_W sy cy ad (mx_up c i q.toNatClampNeg x) := by
        rw [mx_up_R, ← mx_W_set hi, hsh]
        rfl
      rw [hset] at hP1
      have z := k l D cy ad p e s m args below meth cd H1 locs1 lsA C hP1 hS1 hL
      rw [hnx] at z
      exact z
    · cases hs
  · cases hs
theorem mx_e_bastore (hr : mx_ft mi j = some (pc, .bastore, nx, a, b, v)) (hs : mx_bas sy nx ls st c = some (Ps, j', ls', st', c')) (hP0 : mx_all Ps) (k : mx_E sy d mi Q j' ls' st' c') : mx_E sy d mi Q j ls st c := by
  obtain ⟨hck, hpc⟩ := mx_ft_ck hr
  obtain ⟨hdc, hnx, hex⟩ := mx_gen (ins := .bastore) hck
  unfold mx_bas at hs
  split at hs
  · rename_i x q i r
    cases hb : Nat.blt i (mx_N sy) with
    | false => rw [hb] at hs; cases hs
    | true =>
    rw [hb] at hs
    have hi : i < mx_N sy := by simpa [Nat.blt_eq] using hb
    dsimp only [cond_true] at hs
    split at hs
    · rename_i n hsh
      cases hs
      intro l D cy ad p e s m args below meth cd H locs lsA C hP hS hL
      rw [hpc]
      refine va_zast (D := D) C.1 C.2.1 C.K hP (mx_D s.heap.size C.inj) hS i 1 (f := c i) (by rw [mx_W_at hi, hsh]; rfl) rfl hP0.1 hdc (fun H1 locs1 hP1 _ hS1 => ?_)
      have hset : (mx_W sy cy ad c).set i (ad i, .inl (cy 1, n, .inl (upd (c i) q.toNatClampNeg (vp_nar .boolean x)))) = mx_W sy cy ad (mx_up c i q.toNatClampNeg (vp_nar .boolean x)) := by
        rw [mx_up_R, ← mx_W_set hi, hsh]
        rfl
      rw [hset] at hP1
      have z := k l D cy ad p e s m args below meth cd H1 locs1 lsA C hP1 hS1 hL
      rw [hnx] at z
      exact z
    · cases hs
  · cases hs
theorem mx_e_aastore (hr : mx_ft mi j = some (pc, .aastore, nx, a, b, v)) (hs : mx_aas sy nx ls st c = some (Ps, j', ls', st', c')) (hP0 : mx_all Ps) (k : mx_E sy d mi Q j' ls' st' c') : mx_E sy d mi Q j ls st c := by
  obtain ⟨hck, hpc⟩ := mx_ft_ck hr
  obtain ⟨hdc, hnx, hex⟩ := mx_gen (ins := .aastore) hck
  unfold mx_aas at hs
  split at hs
  · rename_i y q i r
    cases hb : Nat.blt i (mx_N sy) with
    | false => rw [hb] at hs; cases hs
    | true =>
    rw [hb] at hs
    have hi : i < mx_N sy := by simpa [Nat.blt_eq] using hb
    dsimp only [cond_true] at hs
    split at hs
    · rename_i n hsh
      cases hs
      obtain ⟨h1, ⟨hy, fs, hfs⟩, -⟩ := hP0
      have hN : mx_N sy ≤ 71 := by
        match sy with
        | 0 => exact Nat.le_refl _
        | z + 1 => exact Nat.le_of_ble_eq_true rfl
      intro l D cy ad p e s m args below meth cd H locs lsA C hP hS hL
      rw [hpc]
      refine va_astq (D := D) (r := (mx_cn 1, mx_T 1, mx_nf 1)) C.1 C.2.1 C.K hP (mx_D s.heap.size C.inj) hS i 2 y 1 (f := fun j => some (ad (c i j).toNatClampNeg)) (vs := mx_fl ad (c y) 0 fs) (by rw [mx_W_at hi, hsh]; rfl) rfl (by rw [mx_W_at hy, hfs]; rfl) rfl h1 hdc (fun H1 locs1 hP1 _ hS1 => ?_)
      have hset : (mx_W sy cy ad c).set i (ad i, .inl (cy 2, n, .inr (.inr (.inr (.inr (va_up (fun j => some (ad (c i j).toNatClampNeg)) q.toNatClampNeg (some (ad y)))))))) = mx_W sy cy ad (mx_up c i q.toNatClampNeg (nI y)) := by
        rw [mx_up_R, ← mx_W_set hi, hsh]
        have e9 : va_up (fun j => some (ad (c i j).toNatClampNeg)) q.toNatClampNeg (some (ad y)) = fun j => some (ad (upd (c i) q.toNatClampNeg (nI y) j).toNatClampNeg) := by
          funext j
          unfold va_up upd
          by_cases ej : j = q.toNatClampNeg
          · rw [if_pos ej, if_pos ej, nI_clamp (Nat.lt_of_lt_of_le hy (Nat.le_trans hN (by decide)))]
          · rw [if_neg ej, if_neg ej]
        rw [e9]
        rfl
      rw [hset] at hP1
      have z := k l D cy ad p e s m args below meth cd H1 locs1 lsA C hP1 hS1 hL
      rw [hnx] at z
      exact z
    · cases hs
  · cases hs
theorem mx_e_arraylength (hr : mx_ft mi j = some (pc, .arraylength, nx, a, b, v)) (hs : mx_aln sy nx ls st c = some (Ps, j', ls', st', c')) (hP0 : mx_all Ps) (k : mx_E sy d mi Q j' ls' st' c') : mx_E sy d mi Q j ls st c := by
  obtain ⟨hck, hpc⟩ := mx_ft_ck hr
  obtain ⟨hdc, hnx, hex⟩ := mx_gen (ins := .arraylength) hck
  unfold mx_aln at hs
  split at hs
  · rename_i i r
    cases hb : Nat.blt i (mx_N sy) with
    | false => rw [hb] at hs; cases hs
    | true =>
    rw [hb] at hs
    have hi : i < mx_N sy := by simpa [Nat.blt_eq] using hb
    dsimp only [cond_true] at hs
    split at hs
    · rename_i n hsh
      cases hs
      intro l D cy ad p e s m args below meth cd H locs lsA C hP hS hL
      rw [hpc]
      refine va_alen (D := D) C.1 C.2.1 C.K hP i 0 (x := (n, .inl (c i))) (v := nI n) (by rw [mx_W_at hi, hsh]; rfl) (ty := .int) rfl rfl hdc ?_
      have z := k l D cy ad p e s m args below meth cd H locs lsA C hP hS hL
      rw [hnx] at z
      exact z
    · cases hs
  · cases hs
theorem mx_e_arraycopy {n : Nat} (hr : mx_ft mi j = some (pc, (.invokestatic n), nx, a, 99, v)) (hs : mx_acp sy nx ls st c = some (Ps, j', ls', st', c')) (hP0 : mx_all Ps) (hd : 1 ≤ d) (hrm : ∀ r, st'.length ≤ r → r ≤ 8 → True) (hst : (st'.map fun v => v.category).sum ≤ 8) (k : mx_E sy d mi Q j' ls' st' c') : mx_E sy d mi Q j ls st c := by
  obtain ⟨hck, hpc⟩ := mx_ft_ck hr
  obtain ⟨hdc, hnx, hex⟩ := mx_gen (ins := (.invokestatic n)) hck
  have hex : mx_acl.any (fun e => e.1 == mx_own mi && e.2.1 == n) = true := hex
  obtain ⟨e0, he0, hq0⟩ := List.any_eq_true.mp hex
  have hw0 := of_decide_eq_true (List.all_eq_true.mp mx_acl_ok e0 he0)
  simp only [Bool.and_eq_true, beq_iff_eq] at hq0
  rw [hq0.1, hq0.2] at hw0
  unfold mx_acp at hs
  split at hs
  · rename_i n0 dp i1 sp i0 r
    cases hb0 : Nat.blt i0 (mx_N sy) with
    | false => rw [hb0] at hs; cases hs
    | true =>
    rw [hb0] at hs
    dsimp only [cond_true] at hs
    have hi0 : i0 < mx_N sy := by simpa [Nat.blt_eq] using hb0
    cases hb1 : Nat.blt i1 (mx_N sy) with
    | false => rw [hb1] at hs; cases hs
    | true =>
    rw [hb1] at hs
    dsimp only [cond_true] at hs
    have hi1 : i1 < mx_N sy := by simpa [Nat.blt_eq] using hb1
    split at hs
    · rename_i z0 hs0
      split at hs
      · rename_i z1 hs1
        cases hs
        obtain ⟨q1, q2, q3, q4, q5, -⟩ := hP0
        intro l D cy ad p e s m args below meth cd H locs lsA C hP hS hL
        rw [hpc]
        have hcat : ((st'.map (mx_tv ad)).map fun v => v.category).sum = (st'.map fun v => v.category).sum := by
          rw [List.map_map]
          congr 1
          exact List.map_congr_left (fun x _ => mx_tv_cat ad x)
        refine va_copyi (D := D) C.1 C.2.1 (C.2.2.2.1.trans hL.1.symm) C.own (C.ts (mx_mem hw0 rfl)) (C.ts (mx_mem mx_ac_w.1 rfl)) (C.ts (mx_mem mx_ac_w.2.1 rfl)) (C.ts (mx_mem mx_ac_w.2.2 rfl)) C.K hP (mx_D s.heap.size C.inj) hS i0 i1 0 0 (f := c i0) (g := c i1) (ty := .int) (by rw [mx_W_at hi0, hs0]; rfl) (by rw [mx_W_at hi1, hs1]; rfl) rfl rfl rfl q1 q2 q3 q4 q5 (fun _ _ => rfl) hd (by rw [hcat]; show _ ≤ 64 * d; exact Nat.le_trans (Nat.add_le_add_right hst _) (Nat.le_trans (by decide) (Nat.mul_le_mul_left 64 hd))) hdc (fun H1 locs1 hP1 _ hS1 => ?_)
        have hset : (mx_W sy cy ad c).set i1 (ad i1, .inl (cy 0, z1, .inl (va_cpy (c i0) (c i1) sp.toNatClampNeg dp.toNatClampNeg n0.toNatClampNeg))) = mx_W sy cy ad (mx_upR c i1 (va_cpy (c i0) (c i1) sp.toNatClampNeg dp.toNatClampNeg n0.toNatClampNeg)) := by
          rw [← mx_W_set hi1, hs1]
          rfl
        rw [hset] at hP1
        have z := k l D cy ad p e s m args below meth cd H1 locs1 lsA C hP1 hS1 hL
        rw [hnx] at z
        exact z
      · cases hs
    · cases hs
  · cases hs
theorem mx_e_max {n : Nat} (hr : mx_ft mi j = some (pc, (.invokestatic n), nx, a, 98, v)) (hs : mx_ii (fun x y => if x < y then y else x) nx ls st c = some (Ps, j', ls', st', c')) (hd : 1 ≤ d) (hst : (st'.map fun v => v.category).sum ≤ 8) (k : mx_E sy d mi Q j' ls' st' c') : mx_E sy d mi Q j ls st c := by
  obtain ⟨hck, hpc⟩ := mx_ft_ck hr
  obtain ⟨hdc, hnx, hex⟩ := mx_gen (ins := (.invokestatic n)) hck
  have hex : mx_mxl.any (fun e => e.1 == mx_own mi && e.2.1 == n) = true := hex
  obtain ⟨e0, he0, hq0⟩ := List.any_eq_true.mp hex
  have hw0 := of_decide_eq_true (List.all_eq_true.mp mx_mxl_ok e0 he0)
  simp only [Bool.and_eq_true, beq_iff_eq] at hq0
  rw [hq0.1, hq0.2] at hw0
  unfold mx_ii at hs
  split at hs
  · rename_i y x r
    cases hs
    intro l D cy ad p e s m args below meth cd H locs lsA C hP hS hL
    rw [hpc]
    have hcat : ((r.map (mx_tv ad)).map fun v => v.category).sum ≤ 8 := by
      rw [List.map_map, show (r.map ((fun v => v.category) ∘ mx_tv ad)) = r.map (fun v => v.category) from List.map_congr_left (fun x _ => mx_tv_cat ad x)]
      have h8 : 1 + (r.map fun v => v.category).sum ≤ 8 := hst
      omega
    refine va_mmax C.1 C.2.1 (C.2.2.2.1.trans hL.1.symm) C.own (C.ts (mx_mem hw0 rfl)) (C.ts (mx_mem mx_mxl_w.1 rfl)) (C.ts (mx_mem mx_mxl_w.2.1 rfl)) (C.ts (mx_mem mx_mxl_w.2.2 rfl)) hd (show _ ≤ 64 * d by omega) (Nat.zero_le _) (Nat.zero_le _) hdc ?_
    have z := k l D cy ad p e s m args below meth cd H locs lsA C hP hS hL
    rw [hnx] at z
    exact z
  · cases hs
theorem mx_e_min {n : Nat} (hr : mx_ft mi j = some (pc, (.invokestatic n), nx, a, 97, v)) (hs : mx_ii (fun x y => if y < x then y else x) nx ls st c = some (Ps, j', ls', st', c')) (hd : 1 ≤ d) (hst : (st'.map fun v => v.category).sum ≤ 8) (k : mx_E sy d mi Q j' ls' st' c') : mx_E sy d mi Q j ls st c := by
  obtain ⟨hck, hpc⟩ := mx_ft_ck hr
  obtain ⟨hdc, hnx, hex⟩ := mx_gen (ins := (.invokestatic n)) hck
  have hex : mx_mnl.any (fun e => e.1 == mx_own mi && e.2.1 == n) = true := hex
  obtain ⟨e0, he0, hq0⟩ := List.any_eq_true.mp hex
  have hw0 := of_decide_eq_true (List.all_eq_true.mp mx_mnl_ok e0 he0)
  simp only [Bool.and_eq_true, beq_iff_eq] at hq0
  rw [hq0.1, hq0.2] at hw0
  unfold mx_ii at hs
  split at hs
  · rename_i y x r
    cases hs
    intro l D cy ad p e s m args below meth cd H locs lsA C hP hS hL
    rw [hpc]
    have hcat : ((r.map (mx_tv ad)).map fun v => v.category).sum ≤ 8 := by
      rw [List.map_map, show (r.map ((fun v => v.category) ∘ mx_tv ad)) = r.map (fun v => v.category) from List.map_congr_left (fun x _ => mx_tv_cat ad x)]
      have h8 : 1 + (r.map fun v => v.category).sum ≤ 8 := hst
      omega
    refine va_mmin C.1 C.2.1 (C.2.2.2.1.trans hL.1.symm) C.own (C.ts (mx_mem hw0 rfl)) (C.ts (mx_mem mx_mnl_w.1 rfl)) (C.ts (mx_mem mx_mnl_w.2.1 rfl)) (C.ts (mx_mem mx_mnl_w.2.2 rfl)) hd (show _ ≤ 64 * d by omega) (Nat.zero_le _) (Nat.zero_le _) hdc ?_
    have z := k l D cy ad p e s m args below meth cd H locs lsA C hP hS hL
    rw [hnx] at z
    exact z
  · cases hs
end RULES2
end
section
/-! many steps at once; branches; ends; calls -/
section RUN
variable {sy d mi j pc nx a b : Nat} {v : Int32} {Q : Option Value → mx_M → Prop} {ls st : List Value} {c : mx_M} {Ps : List Prop} {j' : Nat} {ls' st' : List Value} {c' : mx_M}
/-- the stack has room for a call of the JDK's -/
def mx_rmy (ins : Instr) (st : List Value) : Prop := match ins with
  | .invokestatic _ => (st.map fun v => v.category).sum ≤ 8
  | _ => True
theorem mx_E_step {ins : Instr} (hr : mx_ft mi j = some (pc, ins, nx, a, b, v)) (hd : 1 ≤ d) (hs : mx_step sy ins nx a b v ls st c = some (Ps, j', ls', st', c')) (hP0 : mx_all Ps) (hrm : mx_rmy ins st') (k : mx_E sy d mi Q j' ls' st' c') : mx_E sy d mi Q j ls st c := by
  cases ins
  case iconst n => exact mx_e_iconst hr hs hP0 k
  case bipush n => exact mx_e_bipush hr hs hP0 k
  case sipush n => exact mx_e_sipush hr hs hP0 k
  case lconst n => exact mx_e_lconst hr hs hP0 k
  case ldc_w n => exact mx_e_ldc_w hr hs hP0 k
  case ldc2_w n => exact mx_e_ldc2_w hr hs hP0 k
  case iload_n n => exact mx_e_iload_n hr hs hP0 k
  case lload_n n => exact mx_e_lload_n hr hs hP0 k
  case aload_n n => exact mx_e_aload_n hr hs hP0 k
  case iload n => exact mx_e_iload hr hs hP0 k
  case lload n => exact mx_e_lload hr hs hP0 k
  case aload n => exact mx_e_aload hr hs hP0 k
  case istore_n n => exact mx_e_istore_n hr hs hP0 k
  case istore n => exact mx_e_istore hr hs hP0 k
  case lstore_n n => exact mx_e_lstore_n hr hs hP0 k
  case lstore n => exact mx_e_lstore hr hs hP0 k
  case astore_n n => exact mx_e_astore_n hr hs hP0 k
  case astore n => exact mx_e_astore hr hs hP0 k
  case iinc i n => exact mx_e_iinc hr hs hP0 k
  case iadd => exact mx_e_iadd hr hs hP0 k
  case isub => exact mx_e_isub hr hs hP0 k
  case imul => exact mx_e_imul hr hs hP0 k
  case iand => exact mx_e_iand hr hs hP0 k
  case ior => exact mx_e_ior hr hs hP0 k
  case ixor => exact mx_e_ixor hr hs hP0 k
  case ishl => exact mx_e_ishl hr hs hP0 k
  case ishr => exact mx_e_ishr hr hs hP0 k
  case iushr => exact mx_e_iushr hr hs hP0 k
  case idiv => exact mx_e_idiv hr hs hP0 k
  case irem => exact mx_e_irem hr hs hP0 k
  case ladd => exact mx_e_ladd hr hs hP0 k
  case lmul => exact mx_e_lmul hr hs hP0 k
  case ldiv => exact mx_e_ldiv hr hs hP0 k
  case lrem => exact mx_e_lrem hr hs hP0 k
  case lcmp => exact mx_e_lcmp hr hs hP0 k
  case i2l => exact mx_e_i2l hr hs hP0 k
  case l2i => exact mx_e_l2i hr hs hP0 k
  case dup => exact mx_e_dup hr hs hP0 k
  case dup2 => exact mx_e_dup2 hr hs hP0 k
  case pop => exact mx_e_pop hr hs hP0 k
  case goto off => cases hs; exact mx_e_goto hr k
  case getfield n => exact mx_e_getfield hr hs hP0 k
  case putfield n => exact mx_e_putfield hr hs hP0 k
  case getstatic n => exact mx_e_getstatic hr hs hP0 k
  case iaload => exact mx_e_iaload hr hs hP0 k
  case iastore => exact mx_e_iastore hr hs hP0 k
  case baload => exact mx_e_baload hr hs hP0 k
  case bastore => exact mx_e_bastore hr hs hP0 k
  case aaload => exact mx_e_aaload hr hs hP0 k
  case aastore => exact mx_e_aastore hr hs hP0 k
  case arraylength => exact mx_e_arraylength hr hs hP0 k
  case invokestatic n =>
    have hrm : (st'.map fun v => v.category).sum ≤ 8 := hrm
    have hs : (bif b == 99 then mx_acp sy nx ls st c else bif b == 98 then mx_ii (fun x y => if x < y then y else x) nx ls st c else bif b == 97 then mx_ii (fun x y => if y < x then y else x) nx ls st c else none) = some (Ps, j', ls', st', c') := hs
    cases h1 : b == 99 with
    | true =>
      rw [h1] at hs
      have e := beq_iff_eq.mp h1
      subst e
      exact mx_e_arraycopy hr hs hP0 hd (fun _ _ _ => trivial) hrm k
    | false =>
      rw [h1] at hs
      dsimp only [cond_false] at hs
      cases h2 : b == 98 with
      | true =>
        rw [h2] at hs
        have e := beq_iff_eq.mp h2
        subst e
        exact mx_e_max hr hs hd hrm k
      | false =>
        rw [h2] at hs
        dsimp only [cond_false] at hs
        cases h3 : b == 97 with
        | true =>
          rw [h3] at hs
          have e := beq_iff_eq.mp h3
          subst e
          exact mx_e_min hr hs hd hrm k
        | false =>
          rw [h3] at hs
          cases hs
  all_goals (have h0 : (none : mx_R) = some (Ps, j', ls', st', c') := hs; cases h0)
def mx_smallB (st : List Value) : Bool := Nat.ble (st.map fun v => v.category).sum 8
def mx_rmB (ins : Instr) (st : List Value) : Bool := match ins with
  | .invokestatic _ => mx_smallB st
  | _ => true
/-- n steps at once -/
def mx_it (sy mi : Nat) : Nat → Nat → List Value → List Value → mx_M → mx_R
  | 0, j, ls, st, c => some ([], j, ls, st, c)
  | n + 1, j, ls, st, c => match mx_ft mi j with
    | some (_, ins, nx, a, b, x) => (match mx_step sy ins nx a b x ls st c with
      | some (Ps, j', ls', st', c') => bif mx_rmB ins st' then (match mx_it sy mi n j' ls' st' c' with
        | some (Ps', r) => (match Ps with
          | [] => some (Ps', r)
          | [p] => some (p :: Ps', r)
          | p :: q => some ((p :: q) ++ Ps', r))
        | none => none) else none
      | none => none)
    | none => none
theorem mx_E_run (n : Nat) {sy d mi j : Nat} {Q : Option Value → mx_M → Prop} {ls st : List Value} {c : mx_M} {Ps : List Prop} {j' : Nat} {ls' st' : List Value} {c' : mx_M} (h : mx_it sy mi n j ls st c = some (Ps, j', ls', st', c')) (hd : 1 ≤ d) (hP : mx_all Ps) (k : mx_E sy d mi Q j' ls' st' c') : mx_E sy d mi Q j ls st c := by
  induction n generalizing j ls st c Ps with
  | zero =>
    have h : some _ = some _ := h
    cases h
    exact k
  | succ n ih =>
    unfold mx_it at h
    split at h
    · rename_i pc ins nx a b x hr
      split at h
      · rename_i Ps1 j1 ls1 st1 c1 hs
        cases hsm : mx_rmB ins st1 with
        | false => rw [hsm] at h; cases h
        | true =>
        rw [hsm] at h
        dsimp only [cond_true] at h
        split at h
        · rename_i Ps2 r hi
          have h : some (Ps1 ++ Ps2, r) = some (Ps, j', ls', st', c') := by
            rw [← h]
            split <;> simp
          cases h
          obtain ⟨p1, p2⟩ := mx_all_app hP
          refine mx_E_step hr hd hs p1 ?_ (ih hi p2)
          unfold mx_rmy
          unfold mx_rmB at hsm
          split
          · exact Nat.le_of_ble_eq_true hsm
          · trivial
        · cases h
      · cases h
    · cases h
/-- what a branch asks, and the stack behind it -/
def mx_cnd (ins : Instr) (st : List Value) : Option (Prop × List Value) := match ins with
  | .ifCond q _ => (match st with
    | .int x :: r => (match q with
      | .eq => some (x = 0, r)
      | .ne => some (¬ x = 0, r)
      | .lt => some (x < 0, r)
      | .ge => some (0 ≤ x, r)
      | .gt => some (0 < x, r)
      | .le => some (x ≤ 0, r))
    | _ => none)
  | .if_icmp q _ => (match st with
    | .int y :: .int x :: r => (match q with
      | .eq => some (x = y, r)
      | .ne => some (¬ x = y, r)
      | .lt => some (x < y, r)
      | .ge => some (y ≤ x, r)
      | .gt => some (y < x, r)
      | .le => some (x ≤ y, r))
    | _ => none)
  | _ => none
theorem mx_E_br {ins : Instr} {P : Prop} (hr : mx_ft mi j = some (pc, ins, nx, a, b, v)) (hc : mx_cnd ins st = some (P, st')) (kt : P → mx_E sy d mi Q a ls st' c) (kf : ¬ P → mx_E sy d mi Q nx ls st' c) : mx_E sy d mi Q j ls st c := by
  obtain ⟨hck, hpc⟩ := mx_ft_ck hr
  cases ins
  case ifCond q off =>
    have hck : (mx_dc mi pc (.ifCond q off) && mx_nx mi pc (.ifCond q off) nx && decide ((pc : Int) + off = (mx_pc mi a : Int))) = true := hck
    simp only [Bool.and_eq_true, decide_eq_true_eq] at hck
    have hdc : decode (mx_code mi) pc = .ok (.ifCond q off, 3) := of_decide_eq_true hck.1.1
    have hnx : mx_pc mi nx = pc + 3 := beq_iff_eq.mp hck.1.2
    unfold mx_cnd at hc
    dsimp only at hc
    split at hc
    · rename_i x r
      intro l D cy ad p e s m args below meth cd H locs lsA C hP hS hL
      rw [hpc]
      have kt' : P → W p l e (mx_rm d) s m args below meth cd H locs 0 0 (MQ below (mx_Qc sy D cy ad Q s.heap.size) args s 0 0 (mx_A sy ad s.heap.size)) (F0 m (mx_pc mi a) lsA (st'.map (mx_tv ad))) := fun q => kt q l D cy ad p e s m args below meth cd H locs lsA C hP hS hL
      have kf' : ¬ P → W p l e (mx_rm d) s m args below meth cd H locs 0 0 (MQ below (mx_Qc sy D cy ad Q s.heap.size) args s 0 0 (mx_A sy ad s.heap.size)) (F0 m (pc + 3) lsA (st'.map (mx_tv ad))) := fun q => by
        have z := kf q l D cy ad p e s m args below meth cd H locs lsA C hP hS hL
        rw [hnx] at z
        exact z
      cases q
      case eq => cases hc; exact lv_if_eq C.1 C.2.1 hdc hck.2 kt' kf'
      case ne => cases hc; exact lv_if_ne C.1 C.2.1 hdc hck.2 kt' (fun z => kf' (fun w => w z))
      case lt => cases hc; exact lv_if_lt C.1 C.2.1 hdc hck.2 kt' kf'
      case ge => cases hc; exact lv_if_ge C.1 C.2.1 hdc hck.2 kt' kf'
      case gt => cases hc; exact lv_if_gt C.1 C.2.1 hdc hck.2 kt' kf'
      case le => cases hc; exact lv_if_le C.1 C.2.1 hdc hck.2 kt' kf'
    · cases hc
  case if_icmp q off =>
    have hck : (mx_dc mi pc (.if_icmp q off) && mx_nx mi pc (.if_icmp q off) nx && decide ((pc : Int) + off = (mx_pc mi a : Int))) = true := hck
    simp only [Bool.and_eq_true, decide_eq_true_eq] at hck
    have hdc : decode (mx_code mi) pc = .ok (.if_icmp q off, 3) := of_decide_eq_true hck.1.1
    have hnx : mx_pc mi nx = pc + 3 := beq_iff_eq.mp hck.1.2
    unfold mx_cnd at hc
    dsimp only at hc
    split at hc
    · rename_i y x r
      intro l D cy ad p e s m args below meth cd H locs lsA C hP hS hL
      rw [hpc]
      have kt' : P → W p l e (mx_rm d) s m args below meth cd H locs 0 0 (MQ below (mx_Qc sy D cy ad Q s.heap.size) args s 0 0 (mx_A sy ad s.heap.size)) (F0 m (mx_pc mi a) lsA (st'.map (mx_tv ad))) := fun q => kt q l D cy ad p e s m args below meth cd H locs lsA C hP hS hL
      have kf' : ¬ P → W p l e (mx_rm d) s m args below meth cd H locs 0 0 (MQ below (mx_Qc sy D cy ad Q s.heap.size) args s 0 0 (mx_A sy ad s.heap.size)) (F0 m (pc + 3) lsA (st'.map (mx_tv ad))) := fun q => by
        have z := kf q l D cy ad p e s m args below meth cd H locs lsA C hP hS hL
        rw [hnx] at z
        exact z
      cases q
      case eq => cases hc; exact lv_icmp_eq C.1 C.2.1 hdc hck.2 kt' kf'
      case ne => cases hc; exact lv_icmp_ne C.1 C.2.1 hdc hck.2 kt' (fun z => kf' (fun w => w z))
      case lt => cases hc; exact lv_icmp_lt C.1 C.2.1 hdc hck.2 kt' kf'
      case ge => cases hc; exact lv_icmp_ge C.1 C.2.1 hdc hck.2 kt' kf'
      case gt => cases hc; exact lv_icmp_gt C.1 C.2.1 hdc hck.2 kt' kf'
      case le => cases hc; exact lv_icmp_le C.1 C.2.1 hdc hck.2 kt' kf'
    · cases hc
  all_goals (have h0 : (none : Option (Prop × List Value)) = some (P, st') := hc; cases h0)
-- ends
theorem mx_E_iret {x : Int32} (hr : mx_ft mi j = some (pc, .ireturn, nx, a, b, v)) (ht : mx_ret mi = some .int) (hq : Q (some (.int x)) c) : mx_E sy d mi Q j ls [.int x] c := by
  obtain ⟨hck, hpc⟩ := mx_ft_ck hr
  have hdc : decode (mx_code mi) pc = .ok (.ireturn, 1) := of_decide_eq_true hck
  intro l D cy ad p e s m args below meth cd H locs lsA C hP hS hL
  rw [hpc]
  exact W.iret (v := x) C.1 C.2.1 (C.2.2.1.trans ht) (fun t ht hW => ⟨⟨some (.int x), c, rfl, hq, by rw [ht]; exact hP⟩, hS.F ht⟩) hS.2.2 hdc C.2.2.2.2.2.2.2.1
theorem mx_E_zret {x : Int32} (hr : mx_ft mi j = some (pc, .ireturn, nx, a, b, v)) (ht : mx_ret mi = some .boolean) (hx : x = 0 ∨ x = 1) (hq : Q (some (.int x)) c) : mx_E sy d mi Q j ls [.int x] c := by
  obtain ⟨hck, hpc⟩ := mx_ft_ck hr
  have hdc : decode (mx_code mi) pc = .ok (.ireturn, 1) := of_decide_eq_true hck
  intro l D cy ad p e s m args below meth cd H locs lsA C hP hS hL
  rw [hpc]
  exact W.zret (v := x) (ty := .boolean) C.1 C.2.1 (C.2.2.1.trans ht) (by rcases hx with h | h <;> rw [h] <;> decide) (fun t ht hW => ⟨⟨some (.int x), c, rfl, hq, by rw [ht]; exact hP⟩, hS.F ht⟩) hS.2.2 hdc C.2.2.2.2.2.2.2.1
theorem mx_E_lret {x : Int64} (hr : mx_ft mi j = some (pc, .lreturn, nx, a, b, v)) (ht : mx_ret mi = some .long) (hq : Q (some (.long x)) c) : mx_E sy d mi Q j ls [.long x] c := by
  obtain ⟨hck, hpc⟩ := mx_ft_ck hr
  have hdc : decode (mx_code mi) pc = .ok (.lreturn, 1) := of_decide_eq_true hck
  intro l D cy ad p e s m args below meth cd H locs lsA C hP hS hL
  rw [hpc]
  exact W.lret (v := x) C.1 C.2.1 (C.2.2.1.trans ht) (fun t ht hW => ⟨⟨some (.long x), c, rfl, hq, by rw [ht]; exact hP⟩, hS.F ht⟩) hS.2.2 hdc C.2.2.2.2.2.2.2.1
theorem mx_E_vret (hr : mx_ft mi j = some (pc, .return_, nx, a, b, v)) (ht : mx_ret mi = none) (hq : Q none c) : mx_E sy d mi Q j ls [] c := by
  obtain ⟨hck, hpc⟩ := mx_ft_ck hr
  have hdc : decode (mx_code mi) pc = .ok (.return_, 1) := of_decide_eq_true hck
  intro l D cy ad p e s m args below meth cd H locs lsA C hP hS hL
  rw [hpc]
  exact W.vret C.1 C.2.1 (C.2.2.1.trans ht) (fun t ht hW => ⟨⟨none, c, rfl, hq, by rw [ht]; exact hP⟩, hS.F ht⟩) hS.2.2 hdc C.2.2.2.2.2.2.2.1
/-- more may hold at the end -/
theorem mx_E_mono {Q' : Option Value → mx_M → Prop} (h : mx_E sy d mi Q j ls st c) (hq : ∀ r c, Q r c → Q' r c) : mx_E sy d mi Q' j ls st c := by
  intro l D cy ad p e s m args below meth cd H locs lsA C hP hS hL T hT X
  obtain ⟨t, h1, o, h2, h3, ⟨⟨⟨r, c1, g1, g2, g3⟩, g4⟩, h5⟩⟩ := h l D cy ad p e s m args below meth cd H locs lsA C hP hS hL T hT X
  exact ⟨t, h1, o, h2, h3, ⟨⟨⟨r, c1, g1, hq r c1 g2, g3⟩, g4⟩, h5⟩⟩
end RUN
end
section
/-! contracts by mx_E; calls -/
def mx_ws (mi : Nat) : List Cond := .code (mx_y mi) (mx_code mi) (mx_maxL mi) (mx_ret mi) :: mx_good
def mx_Pc (sy : Nat) (D : va_G) (cy : Nat → ClassId) (ad : Nat → Nat) (av : List Value) (c : mx_M) (sz : Nat) : Array Value → State → Prop := va_Pc (av.map (mx_tv ad)) (fun U => U.heap.size = sz ∧ va_P D vwCl (mx_W sy cy ad c) U.heap ∧ va_K D vwCl (mx_tys cy) U ∧ mx_inj sy ad ∧ (∀ w ∈ mx_nest, va_Nw w U) ∧ mx_Z (ad 1000) (mx_A sy ad sz) U U.heap)
/-- method mi, called with av over the cells c, comes to its end, and Q holds of its answer and the cells; d: how deep it may call -/
def mx_Spec (sy d mi : Nat) (av : List Value) (c : mx_M) (Q : Option Value → mx_M → Prop) : Prop :=
  ∀ (l : Launch) (D : va_G) (cy : Nat → ClassId) (ad : Nat → Nat) (sz : Nat), Met l (mx_y mi) (mx_ws mi) (mx_rm d) (mx_Pc sy D cy ad av c sz) (mx_Qc sy D cy ad Q sz) 0 0 (mx_A sy ad sz)
/-- the locals at a method's entry -/
def mx_en : List Value → List Value
  | [] => []
  | v :: r => bif v.category == 2 then v :: .null :: mx_en r else v :: mx_en r
def mx_en0 (nL : Nat) (av : List Value) : List Value := mx_en av ++ List.replicate (nL - (mx_en av).length) .null
theorem mx_en_len (ad : Nat → Nat) : ∀ av : List Value, (lg_sl (av.map (mx_tv ad))).length = (mx_en av).length
  | [] => rfl
  | v :: r => by
    have ih := mx_en_len ad r
    unfold lg_sl at ih ⊢
    simp only [List.map_cons, List.flatMap_cons, List.length_append, mx_tv_cat]
    rw [ih]
    by_cases h : v.category = 2
    · simp [mx_en, h]; omega
    · rw [if_neg h]
      show _ = (bif v.category == 2 then v :: Value.null :: mx_en r else v :: mx_en r).length
      rw [show (v.category == 2) = false by simp [h]]
      show 1 + (mx_en r).length = (mx_en r).length + 1
      omega
theorem mx_en_at (ad : Nat → Nat) : ∀ (av : List Value) (i k : Nat) (v : Value), (mx_en av)[k]? = some v → v ≠ .null → (i + k, mx_tv ad v) ∈ lv_args i (av.map (mx_tv ad))
  | [], i, k, v, h, hn => by simp [mx_en] at h
  | w :: r, i, k, v, h, hn => by
    simp only [List.map_cons, lv_args, mx_tv_cat]
    unfold mx_en at h
    by_cases hw : w.category = 2
    · rw [show (w.category == 2) = true by simp [hw]] at h
      dsimp only [cond_true] at h
      rw [if_pos hw]
      match k, h with
      | 0, h =>
        simp at h
        subst h
        exact List.mem_cons_self
      | 1, h =>
        simp at h
        exact absurd h.symm hn
      | k + 2, h =>
        simp only [List.getElem?_cons_succ] at h
        have := mx_en_at ad r (i + 2) k v h hn
        rw [show i + 2 + k = i + (k + 2) by omega] at this
        exact List.mem_cons_of_mem _ this
    · rw [show (w.category == 2) = false by simp [hw]] at h
      dsimp only [cond_false] at h
      rw [if_neg hw]
      match k, h with
      | 0, h =>
        simp at h
        subst h
        exact List.mem_cons_self
      | k + 1, h =>
        simp only [List.getElem?_cons_succ] at h
        have := mx_en_at ad r (i + 1) k v h hn
        rw [show i + 1 + k = i + (k + 1) by omega] at this
        exact List.mem_cons_of_mem _ this
theorem mx_L_entry {ad : Nat → Nat} {nL : Nat} {av : List Value} (h : (mx_en av).length ≤ nL) : mx_L ad ((lg_sl (av.map (mx_tv ad)) ++ List.replicate (nL - (lg_sl (av.map (mx_tv ad))).length) Slot.unset).toArray) nL (mx_en0 nL av) := by
  have h0 := lv_entry (av.map (mx_tv ad)) (n := nL) (by rw [mx_en_len]; exact h)
  refine ⟨h0.1, h0.2.1, by unfold mx_en0; simp; omega, fun k v hk hv => ?_⟩
  unfold mx_en0 at hk
  by_cases hl : k < (mx_en av).length
  · rw [List.getElem?_append_left hl] at hk
    have := h0.2.2 _ (mx_en_at ad av 0 k v hk hv)
    rwa [Nat.zero_add] at this
  · rw [List.getElem?_append_right (by omega)] at hk
    obtain ⟨h1, h2⟩ := List.getElem?_eq_some_iff.mp hk
    simp at h2
    exact absurd h2.symm hv
theorem mx_mok_of {mi : Nat} (h : Nat.blt mi mx_NM = true) : mx_mck mi = true := mx_mok mi (by simpa [Nat.blt_eq] using h)
theorem mx_Spec_E {sy d mi : Nat} {av : List Value} {c : mx_M} {Q : Option Value → mx_M → Prop} (hm : Nat.blt mi mx_NM = true) (h0 : mx_pc mi 0 = 0) (hl : Nat.ble (mx_en av).length (mx_maxL mi) = true) (h : mx_E sy d mi Q 0 (mx_en0 (mx_maxL mi) av) [] c) : mx_Spec sy d mi av c Q := by
  intro l D cy ad sz
  have hk := mx_mok_of hm
  unfold mx_mck at hk
  simp only [Bool.and_eq_true, decide_eq_true_eq] at hk
  obtain ⟨⟨⟨⟨⟨⟨⟨⟨-, -⟩, -⟩, -⟩, -⟩, hpl⟩, -⟩, hown⟩, -⟩ := hk
  refine Met.ofW (cc := mx_code mi) (maxL := mx_maxL mi) (ret := mx_ret mi) hpl rfl ?_
  intro p e s m args below meth cd s₁ B hml hv
  obtain ⟨rfl, hsz, hP, hK, hinj, hN, hZ⟩ := hv
  subst hsz
  have hts := atoms_spec (ws := mx_ws mi) B.pre
  have C : mx_Ctx sy mi D cy ad p s m (av.map (mx_tv ad)).toArray meth cd := ⟨B.exec, B.bytes, B.returns, hml, by rw [← hown]; exact findClass_of_methodNamed B.named, fun w hw => hts w (List.mem_cons_of_mem _ hw), hN, B.notSynchronized, hK, hinj, hZ⟩
  rw [lg_entry_eq]
  have z := h l D cy ad p e s m (av.map (mx_tv ad)).toArray below meth cd s.heap [] _ C hP va_S.rf (mx_L_entry (Nat.le_of_ble_eq_true hl))
  rw [h0] at z
  exact z
theorem mx_Spec_mono {sy d mi : Nat} {av : List Value} {c : mx_M} {Q Q' : Option Value → mx_M → Prop} (h : mx_Spec sy d mi av c Q) (hq : ∀ r c, Q r c → Q' r c) : mx_Spec sy d mi av c Q' := by
  intro l D cy ad sz
  have z := h l D cy ad sz
  unfold Met at z ⊢
  intro p e ha hc hk s m args below hf hb hP hK
  obtain ⟨t, o, h1, h2, h3, ⟨⟨⟨r, c1, g1, g2, g3⟩, g4⟩, h5⟩⟩ := z p e ha hc hk s m args below hf hb hP hK
  exact ⟨t, o, h1, h2, h3, ⟨⟨⟨r, c1, g1, hq r c1 g2, g3⟩, g4⟩, h5⟩⟩
theorem mx_nest_on : ∀ w ∈ mx_nest, w.onTables = true := by
  intro w hw
  rcases List.mem_append.mp hw with h | h
  · obtain ⟨e, -, rfl⟩ := List.mem_map.mp h
    rfl
  · obtain ⟨e, -, rfl⟩ := List.mem_map.mp h
    rfl
theorem mx_nest_warm {s U : State} (hW : s.WarmedH U.vm) (h : ∀ w ∈ mx_nest, va_Nw w s) : ∀ w ∈ mx_nest, va_Nw w U := by
  intro w hw
  have hz := h w hw
  rcases List.mem_append.mp hw with h | h
  · obtain ⟨e, -, rfl⟩ := List.mem_map.mp h
    exact va_Nw.warmF hW hz
  · obtain ⟨e, -, rfl⟩ := List.mem_map.mp h
    exact va_Nw.warmM hW hz
theorem mx_Pc_blind {sy : Nat} {D : va_G} {cy : Nat → ClassId} {ad : Nat → Nat} {av : List Value} {c : mx_M} {sz : Nat} : FrameBlind (mx_Pc sy D cy ad av c sz) := by
  intro a U g mk q
  obtain ⟨q0, q1, q2, q3, q4, q5, q6⟩ := q
  exact ⟨q0, q1, q2, va_K.moved (u := U) (U := U.calling g mk a) (Vm.Alike.refl U.vm) q3, q4, fun w hw => va_Nw.same (u := U) (U := U.calling g mk a) (mx_nest_on w hw) rfl (q5 w hw), q6.1.moved (U := U.calling g mk a) (Vm.Alike.refl U.vm), q6.2.moved (U := U.calling g mk a) (Vm.Alike.refl U.vm)⟩
theorem mx_A_sub {sy : Nat} {ad : Nat → Nat} {a b : Nat} (h : a ≤ b) : ∀ q, mx_A sy ad b q → mx_A sy ad a q := by
  intro q hq
  rcases hq with h1 | h1
  · exact Or.inl h1
  · exact Or.inr (Nat.le_trans h h1)
theorem mx_pre {sy mi : Nat} {D : va_G} {cy : Nat → ClassId} {ad : Nat → Nat} {p : Program} {s : State} {m : MethodId} {args : Array Value} {meth : Method} {cd : Code} {c : mx_M} {H : Heap} {locs : List Loc} (C : mx_Ctx sy mi D cy ad p s m args meth cd) (hP : va_P D vwCl (mx_W sy cy ad c) H) (hS : va_S (mx_A sy ad s.heap.size) s.heap H locs) (av : List Value) :
    ∀ U : State, U.heap = H → s.WarmedH U.vm → mx_Pc sy D cy ad av c H.size (av.map (mx_tv ad)).toArray U := by
  intro U hU hW
  refine ⟨rfl, by rw [hU], by rw [hU]; exact hP, va_K.moved hW.alike C.K, C.inj, mx_nest_warm hW C.2.2.2.2.2.2.1, ?_⟩
  rw [hU]
  exact ⟨((C.Z.1.kept hS.2.1).narrow (mx_A_sub hS.1)).moved hW.alike, ((C.Z.2.kept hS.2.1).narrow (mx_A_sub hS.1)).moved hW.alike⟩
/-- behind a call -/
theorem mx_after {p : Program} {l : Launch} {e : Env} {R : Room} {s : State} {m : MethodId} {args : Array Value} {below : List Frame} {meth : Method} {cd : Code} {H : Heap} {locs : List Loc} {ZQ : State → Prop} {pc : Nat} {lsA : Array Slot} {st0 rest : List Value} {a : Array Value} {sy : Nat} {D : va_G} {cy : Nat → ClassId} {ad : Nat → Nat} {Q0 : Option Value → mx_M → Prop}
    (hr : va_Run p l e R s m args below meth cd H locs 0 0 0 0 (F0 m pc lsA st0) rest (mx_Qc sy D cy ad Q0 H.size a) (mx_A sy ad H.size)) (hS : va_S (mx_A sy ad s.heap.size) s.heap H locs)
    (kk : ∀ (r : Option Value) (c1 : mx_M) (H1 : Heap) (locs1 : List Loc), Q0 r c1 → va_P D vwCl (mx_W sy cy ad c1) H1 → va_S (mx_A sy ad s.heap.size) s.heap H1 locs1 → W p l e R s m args below meth cd H1 locs1 0 0 ZQ (F0 m (pc + 3) lsA ((r.map (mx_tv ad)).toList ++ rest))) : W p l e R s m args below meth cd H locs 0 0 ZQ (F0 m pc lsA st0) := by
  intro T hT X
  obtain ⟨v, st₀, t, T', L, h0, X', hL, e1, e2, ⟨⟨r, c1, hv, hq, hp⟩, hz, hk⟩, st⟩ := hr T hT X
  have hA := mx_A_sub (sy := sy) (ad := ad) hS.1
  have ev : v = r.map (mx_tv ad) := by injection hv
  subst ev
  rw [h0] at hz hk
  obtain ⟨t2, a1, b1⟩ := kk r c1 T'.heap (locs ++ L) hq (by rw [e1]; exact hp)
    ⟨Nat.le_trans hS.1 (by rw [e1]; exact hz), fun q h1 h2 => by rw [e1, hk q (Nat.lt_of_lt_of_le h1 hS.1) (fun z => h2 (hA q z))]; exact hS.2.1 q h1 h2, fun q hq => by
      rcases List.mem_append.mp hq with h | h
      · exact hS.2.2 q h
      · exact hA _ (hL q h)⟩ T' rfl X'
  exact ⟨t2, st t2 a1, b1⟩
/-- what the tables say of a method -/
theorem mx_words {sy mi k : Nat} {D : va_G} {cy : Nat → ClassId} {ad : Nat → Nat} {p : Program} {s : State} {m : MethodId} {args : Array Value} {meth : Method} {cd : Code} (C : mx_Ctx sy mi D cy ad p s m args meth cd) (hk : mx_mck k = true) :
    (∀ w ∈ mx_ws k, ∀ (a' : Array Value) (U : State), s.WarmedH U.vm → w.before a' U = true) ∧ (Cond.code (mx_y k) (mx_code k) (mx_maxL k) (mx_ret k)).before args s = true ∧ (Cond.initialized (mx_y k).cls).before args s = true ∧ ((mx_y k).cls ≠ "java/lang/invoke/MethodHandle" ∧ (mx_y k).cls ≠ "java/lang/invoke/VarHandle") ∧ (∀ sig, parseMethodDescriptor (mx_y k).desc = some sig → (mx_ps k).2.1 = sig.parameters.length) ∧ mx_maxL k ≤ 24 ∧ (mx_y k).cls = mx_cn (mx_own k) ∧
    ((mx_ps k).1 = true → (Cond.static (mx_y k)).before args s = true) ∧ ((mx_ps k).1 = false → (Cond.instanceMethod (mx_y k)).before args s = true ∧ (Cond.selects (mx_y k).cls (mx_y k) (mx_y k)).before args s = true) := by
  unfold mx_mck at hk
  simp only [Bool.and_eq_true, decide_eq_true_eq] at hk
  obtain ⟨⟨⟨⟨⟨⟨⟨⟨h1, h2⟩, h3⟩, h4⟩, h5⟩, -⟩, h7⟩, h8⟩, h9⟩ := hk
  have hc : Cond.code (mx_y k) (mx_code k) (mx_maxL k) (mx_ret k) ∈ mx_good := mx_mem h1 rfl
  refine ⟨fun w hw a' U hW => ?_, C.ts hc, C.ts (mx_mem h2 rfl), ⟨h3, h4⟩, fun sig hsig => ?_, h7, h8, fun hb => ?_, fun hb => ?_⟩
  · have hg : w ∈ mx_good := by
      rcases List.mem_cons.mp hw with h | h
      · rw [h]; exact hc
      · exact h
    exact word_at hW (good_of_word (List.mem_filter.mp hg).2) (C.ts hg)
  · rw [hsig] at h5
    exact (Option.some.inj h5).symm
  · rw [hb] at h9
    simp only [if_true, decide_eq_true_eq] at h9
    exact C.ts (mx_mem h9 rfl)
  · rw [hb] at h9
    simp only [Bool.false_eq_true, if_false, Bool.and_eq_true, decide_eq_true_eq] at h9
    exact ⟨C.ts (mx_mem h9.1 rfl), C.ts (mx_mem h9.2 rfl)⟩
/-- who is called is an object of the method's class -/
def mx_rcv (sy k : Nat) (av : List Value) : Bool := match av with
  | .ref i :: _ => Nat.blt i (mx_N sy) && (match mx_sh sy i with
    | .inl (ci, _) => ci == mx_own k
    | .inr _ => false)
  | _ => false
theorem mx_cat_sum (ad : Nat → Nat) (rest : List Value) : ((rest.map (mx_tv ad)).map fun v => v.category).sum = (rest.map fun v => v.category).sum := by
  rw [List.map_map]
  congr 1
  exact List.map_congr_left (fun x _ => mx_tv_cat ad x)
section CALL
variable {sy d d1 mi j pc nx a b n : Nat} {v : Int32} {Q Q0 : Option Value → mx_M → Prop} {ls st av rest : List Value} {c : mx_M}
/-- what a call asks, all at once -/
def mx_cv (sy d d1 a b : Nat) (av rest : List Value) : Bool := Nat.blt a mx_NM && Nat.beq av.length b && mx_rcv sy a av && mx_smallB rest && Nat.blt d1 d
def mx_cs (d d1 a b : Nat) (av rest : List Value) : Bool := Nat.blt a mx_NM && Nat.ble b 20 && Nat.beq av.length b && mx_smallB rest && Nat.blt d1 d
theorem mx_E_callV (hsp : mx_Spec sy d1 a av c Q0) (hr : mx_ft mi j = some (pc, .invokevirtual n, nx, a, b, v)) (hst : st = av.reverse ++ rest) (hcv : mx_cv sy d d1 a b av rest = true) (k : ∀ (r : Option Value) (c1 : mx_M), Q0 r c1 → mx_E sy d mi Q nx ls (r.toList ++ rest) c1) : mx_E sy d mi Q j ls st c := by
  unfold mx_cv at hcv
  simp only [Bool.and_eq_true, Nat.beq_eq_true_eq, Nat.blt_eq] at hcv
  obtain ⟨⟨⟨⟨hm0, hlen0⟩, hrc⟩, hsm⟩, hd⟩ := hcv
  have hlen : av.length = b := Nat.eq_of_beq_eq_true hlen0
  have hm : Nat.blt a mx_NM = true := by rw [Nat.blt_eq]; exact hm0
  obtain ⟨hck, hpc⟩ := mx_ft_ck hr
  obtain ⟨hdc, hnx, hex⟩ := mx_gen (ins := .invokevirtual n) hck
  have hex : ((mx_inM mx_mlP (mx_own mi) n a || mx_inM mx_mlN (mx_own mi) n a) && !((mx_ps a).1) && (mx_ps a).2.1 + 1 == b) = true := hex
  simp only [Bool.and_eq_true, Bool.or_eq_true, Bool.not_eq_true', beq_iff_eq] at hex
  obtain ⟨⟨hlk, hns⟩, hb⟩ := hex
  unfold mx_rcv at hrc
  split at hrc
  · rename_i i As
    simp only [Bool.and_eq_true] at hrc
    obtain ⟨hi0, hsh0⟩ := hrc
    have hi : i < mx_N sy := by simpa [Nat.blt_eq] using hi0
    split at hsh0
    · rename_i ci fs hsh
      have hci : ci = mx_own a := beq_iff_eq.mp hsh0
      obtain ⟨h7, -, -⟩ := mx_sh_obj hi hsh
      obtain ⟨hc, -, -, -⟩ := mx_cl7 ci h7
      intro l D cy ad p e s m args below meth cd H locs lsA C hP hS hL
      obtain ⟨w1, w2, w3, w4, w5, w6, w7, -, w9⟩ := mx_words C (mx_mok_of hm)
      obtain ⟨w9a, w9b⟩ := w9 hns
      rw [hpc]
      have he : (mx_W sy cy ad c)[i]? = some (ad i, .inr (ci, mx_fl ad (c i) 0 fs)) := by rw [mx_W_at hi, hsh]; rfl
      have hrv := va_recv C.K hP hc he
      have hcls : (mx_y a).cls = mx_cn ci := by rw [w7, hci]
      have hstk : (F0 m pc lsA (st.map (mx_tv ad))).stack = (As.map (mx_tv ad)).reverse ++ .ref (ad i) :: rest.map (mx_tv ad) := by
        show st.map (mx_tv ad) = _
        rw [hst]
        simp [mx_tv]
      have hn : (As.map (mx_tv ad)).length = (mx_ps a).2.1 := by
        rw [List.length_map]
        have : As.length + 1 = b := hlen
        omega
      have hpre := mx_pre C hP hS (.ref i :: As)
      have hroom : 2 * (F0 m pc lsA (st.map (mx_tv ad))).monitorRoom + ((rest.map (mx_tv ad)).map fun v => v.category).sum ≤ 8 := by
        rw [mx_cat_sum]
        have := Nat.le_of_ble_eq_true hsm
        show 2 * 0 + _ ≤ 8
        omega
      have hfr : (mx_rm d1).frames + 1 ≤ (mx_rm d).frames := hd
      have hlo : 8 + (mx_maxL a + 11) + (mx_rm d1).locals ≤ (mx_rm d).locals := by
        show 8 + (mx_maxL a + 11) + 64 * d1 ≤ 64 * d
        omega
      have fin : va_Run p l e (mx_rm d) s m args below meth cd H locs 0 0 0 0 (F0 m pc lsA (st.map (mx_tv ad))) (rest.map (mx_tv ad)) (mx_Qc sy D cy ad Q0 H.size (Value.ref (ad i) :: As.map (mx_tv ad)).toArray) (mx_A sy ad H.size) := by
        rcases hlk with h | h
        · exact va_runV (C := (mx_y a).cls) ⟨C.1, C.2.1, C.2.2.2.1, C.own, C.2.2.2.2.2.1⟩ (hsp l D cy ad H.size) ⟨⟨rfl, rfl, hfr, hlo, w1, List.mem_cons_self, w2, w3, w4, w5, C.ts (mx_mlP_mem h)⟩, w9a, w9b⟩ ⟨mx_Pc_blind, by rw [hcls]; exact hrv, hpre⟩ rfl hn hL.1 hstk hroom hdc ⟨Nat.le_refl _, Nat.le_refl _⟩
        · exact va_runVN (C := (mx_y a).cls) ⟨C.1, C.2.1, C.2.2.2.1, C.own, C.2.2.2.2.2.1⟩ (hsp l D cy ad H.size) ⟨⟨⟨rfl, rfl, hfr, hlo, w1, List.mem_cons_self⟩, w2, w3, w4, w5, va_Nw.use rfl (C.nw (mx_mlN_mem h))⟩, w9a, w9b⟩ ⟨mx_Pc_blind, by rw [hcls]; exact hrv, hpre⟩ rfl hn hL.1 hstk hroom hdc ⟨Nat.le_refl _, Nat.le_refl _⟩
      refine mx_after fin hS (fun r c1 H1 locs1 hq hP1 hS1 => ?_)
      have z := k r c1 hq l D cy ad p e s m args below meth cd H1 locs1 lsA C hP1 hS1 hL
      rw [hnx, List.map_append] at z
      cases r with
      | none => exact z
      | some r => exact z
    · cases hsh0
  · cases hrc
theorem mx_E_callS (hsp : mx_Spec sy d1 a av c Q0) (hr : mx_ft mi j = some (pc, .invokestatic n, nx, a, b, v)) (hst : st = av.reverse ++ rest) (hcv : mx_cs d d1 a b av rest = true) (k : ∀ (r : Option Value) (c1 : mx_M), Q0 r c1 → mx_E sy d mi Q nx ls (r.toList ++ rest) c1) : mx_E sy d mi Q j ls st c := by
  unfold mx_cs at hcv
  simp only [Bool.and_eq_true, Nat.beq_eq_true_eq, Nat.blt_eq] at hcv
  obtain ⟨⟨⟨⟨hm0, hb9⟩, hlen0⟩, hsm⟩, hd⟩ := hcv
  have hlen : av.length = b := Nat.eq_of_beq_eq_true hlen0
  have hm : Nat.blt a mx_NM = true := by rw [Nat.blt_eq]; exact hm0
  obtain ⟨hck, hpc⟩ := mx_ft_ck hr
  obtain ⟨hdc, hnx, hex⟩ := mx_gen (ins := .invokestatic n) hck
  have hb20 := Nat.le_of_ble_eq_true hb9
  unfold mx_ex at hex
  dsimp only at hex
  rw [if_neg (by omega), if_neg (by omega), if_neg (by omega)] at hex
  simp only [Bool.and_eq_true, Bool.or_eq_true, beq_iff_eq] at hex
  obtain ⟨⟨hlk, hns⟩, hb⟩ := hex
  intro l D cy ad p e s m args below meth cd H locs lsA C hP hS hL
  obtain ⟨w1, w2, w3, w4, w5, w6, w7, w8, -⟩ := mx_words C (mx_mok_of hm)
  have w8a := w8 hns
  rw [hpc]
  have hstk : (F0 m pc lsA (st.map (mx_tv ad))).stack = (av.map (mx_tv ad)).reverse ++ rest.map (mx_tv ad) := by
    show st.map (mx_tv ad) = _
    rw [hst]
    simp
  have hn : (av.map (mx_tv ad)).length = (mx_ps a).2.1 := by
    rw [List.length_map]
    omega
  have hpre := mx_pre C hP hS av
  have hroom : 2 * (F0 m pc lsA (st.map (mx_tv ad))).monitorRoom + ((rest.map (mx_tv ad)).map fun v => v.category).sum ≤ 8 := by
    rw [mx_cat_sum]
    have := Nat.le_of_ble_eq_true hsm
    show 2 * 0 + _ ≤ 8
    omega
  have hfr : (mx_rm d1).frames + 1 ≤ (mx_rm d).frames := hd
  have hlo : 8 + (mx_maxL a + 11) + (mx_rm d1).locals ≤ (mx_rm d).locals := by
    show 8 + (mx_maxL a + 11) + 64 * d1 ≤ 64 * d
    omega
  have fin : va_Run p l e (mx_rm d) s m args below meth cd H locs 0 0 0 0 (F0 m pc lsA (st.map (mx_tv ad))) (rest.map (mx_tv ad)) (mx_Qc sy D cy ad Q0 H.size (av.map (mx_tv ad)).toArray) (mx_A sy ad H.size) := by
    rcases hlk with h | h
    · exact va_runS ⟨C.1, C.2.1, C.2.2.2.1, C.own, C.2.2.2.2.2.1⟩ (hsp l D cy ad H.size) ⟨⟨rfl, rfl, hfr, hlo, w1, List.mem_cons_self, w2, w3, w4, w5, C.ts (mx_mlP_mem h)⟩, w8a⟩ ⟨mx_Pc_blind, hpre⟩ rfl hn hL.1 hstk hroom hdc ⟨Nat.le_refl _, Nat.le_refl _⟩
    · exact va_runSN ⟨C.1, C.2.1, C.2.2.2.1, C.own, C.2.2.2.2.2.1⟩ (hsp l D cy ad H.size) ⟨⟨⟨rfl, rfl, hfr, hlo, w1, List.mem_cons_self⟩, w2, w3, w4, w5, va_Nw.use rfl (C.nw (mx_mlN_mem h))⟩, w8a, trivial⟩ ⟨mx_Pc_blind, hpre⟩ rfl hn hL.1 hstk hroom hdc ⟨Nat.le_refl _, Nat.le_refl _⟩
  refine mx_after fin hS (fun r c1 H1 locs1 hq hP1 hS1 => ?_)
  have z := k r c1 hq l D cy ad p e s m args below meth cd H1 locs1 lsA C hP1 hS1 hL
  rw [hnx, List.map_append] at z
  cases r with
  | none => exact z
  | some r => exact z
end CALL
end
section
/-! plain facts on numbers and arrays, to paste: each family by itself; over the kit's rows on nI and upd -/
/-! ===== order of ints, in all its forms, and through longs ===== -/
theorem fa_lt (a b : Int32) : a < b ↔ a.toInt < b.toInt := Int32.lt_iff_toInt_lt
theorem fa_le (a b : Int32) : a ≤ b ↔ a.toInt ≤ b.toInt := Int32.le_iff_toInt_le
theorem fa_eq (a b : Int32) : a = b ↔ a.toInt = b.toInt := Int32.toInt_inj.symm
theorem fa_lt64 (a b : Int64) : a < b ↔ a.toInt < b.toInt := Int64.lt_iff_toInt_lt
theorem fa_le64 (a b : Int64) : a ≤ b ↔ a.toInt ≤ b.toInt := Int64.le_iff_toInt_le
theorem fa_eq64 (a b : Int64) : a = b ↔ a.toInt = b.toInt := Int64.toInt_inj.symm
/-- a comparison of two ints taken as longs -/
theorem fa_wide_lt (a b : Int32) : a.toInt64 < b.toInt64 ↔ a < b := by rw [fa_lt64, fa_lt, Int32.toInt_toInt64, Int32.toInt_toInt64]
theorem fa_wide_le (a b : Int32) : a.toInt64 ≤ b.toInt64 ↔ a ≤ b := by rw [fa_le64, fa_le, Int32.toInt_toInt64, Int32.toInt_toInt64]
theorem fa_wide_eq (a b : Int32) : a.toInt64 = b.toInt64 ↔ a = b := by rw [fa_eq64, fa_eq, Int32.toInt_toInt64, Int32.toInt_toInt64]
/-- one strict comparison gives all the others -/
theorem fa_of_lt {a b : Int32} (h : a < b) : a ≤ b ∧ ¬ b ≤ a ∧ ¬ b < a ∧ a ≠ b ∧ b ≠ a := by
  rw [fa_lt] at h
  refine ⟨?_, ?_, ?_, ?_, ?_⟩
  · rw [fa_le]; omega
  · rw [fa_le]; omega
  · rw [fa_lt]; omega
  · intro e; rw [fa_eq] at e; omega
  · intro e; rw [fa_eq] at e; omega
theorem fa_of_nlt {a b : Int32} (h : ¬ a < b) : b ≤ a := by
  rw [fa_lt] at h
  rw [fa_le]
  omega
theorem fa_of_nle {a b : Int32} (h : ¬ a ≤ b) : b < a := by
  rw [fa_le] at h
  rw [fa_lt]
  omega
theorem fa_le_ne {a b : Int32} (h : a ≤ b) (h2 : a ≠ b) : a < b := by
  rw [fa_le] at h
  rw [fa_lt]
  have h3 : a.toInt ≠ b.toInt := fun e => h2 ((fa_eq a b).mpr e)
  omega
theorem fa_three (a b : Int32) : a < b ∨ a = b ∨ b < a := by
  rw [fa_lt, fa_lt, fa_eq]
  omega
theorem fa_trans {a b c : Int32} (h : a < b) (h2 : b ≤ c) : a < c := by
  rw [fa_lt] at *
  rw [fa_le] at h2
  omega
/-! ===== small literals as numbers ===== -/
theorem fa_lit (n : Nat) : (OfNat.ofNat n : Int32) = nI n := rfl
theorem fa_litL (n : Nat) : (OfNat.ofNat n : Int64) = lN n := rfl
/-! ===== bits of a number: 'or', masks, one bit ===== -/
theorem fa_and (a b : Nat) : nI a &&& nI b = nI (a &&& b) := by
  apply Int32.toBitVec_inj.1
  show BitVec.ofNat 32 a &&& BitVec.ofNat 32 b = BitVec.ofNat 32 (a &&& b)
  apply BitVec.eq_of_getLsbD_eq
  intro i hi
  simp [hi]
theorem fa_or (a b : Nat) : nI a ||| nI b = nI (a ||| b) := by
  apply Int32.toBitVec_inj.1
  show BitVec.ofNat 32 a ||| BitVec.ofNat 32 b = BitVec.ofNat 32 (a ||| b)
  apply BitVec.eq_of_getLsbD_eq
  intro i hi
  simp [hi]
/-- a remainder by a power of two, as a mask -/
theorem fa_mask (n k : Nat) : nI n &&& nI (2 ^ k - 1) = nI (n % 2 ^ k) := by rw [fa_and, Nat.and_two_pow_sub_one_eq_mod]
/-- 'or' of a high part and a low one that don't meet is their sum -/
theorem fa_or_sum {a k : Nat} (b : Nat) (h : a < 2 ^ k) : nI (2 ^ k * b) ||| nI a = nI (2 ^ k * b + a) := by rw [fa_or, Nat.two_pow_add_eq_or_of_lt h]
/-- one bit, by 'and' with a power of two -/
theorem fa_bit {n j : Nat} (hj : j < 31) : nI n &&& nI (2 ^ j) = 0 ↔ n.testBit j = false := by
  have h2 : (2 : Nat) ^ j < 2 ^ 31 := Nat.pow_lt_pow_right (by decide) hj
  have hle : n &&& 2 ^ j ≤ 2 ^ j := Nat.and_le_right
  have e : n &&& 2 ^ j = 0 ↔ n.testBit j = false := by
    constructor
    · intro h
      have h1 : (n &&& 2 ^ j).testBit j = false := by rw [h]; simp
      rw [Nat.testBit_and] at h1
      first | simpa using h1 | simpa [Nat.testBit_two_pow_self] using h1 | simpa [Nat.testBit_two_pow] using h1
    · intro h
      apply Nat.eq_of_testBit_eq
      intro i
      rw [Nat.testBit_and]
      by_cases hi : j = i
      · subst hi; simp [h]
      · first | (simp [Nat.testBit_two_pow, hi]; done) | (simp [Nat.testBit_two_pow_of_ne hi]; done)
  rw [fa_and]
  constructor
  · intro h
    apply e.mp
    rcases Nat.eq_zero_or_pos (n &&& 2 ^ j) with z | z
    · exact z
    · exact absurd h (nI_ne0 z (Nat.lt_of_le_of_lt hle h2))
  · intro h
    rw [e.mpr h]; exact nI_0
/-- a remainder by a power of two of a number that isn't negative, as Java divides -/
theorem fa_rem {a k : Nat} (ha : a < 2 ^ 31) (hk : k < 31) : nI a - nI a / nI (2 ^ k) * nI (2 ^ k) = nI (a % 2 ^ k) := pk_rem ha (Nat.two_pow_pos k) (Nat.pow_lt_pow_right (by decide) hk)
/-! ===== cuts to a byte, a short ===== -/
theorem fa_byte_xor (x y : Int32) : (x ^^^ y).toInt8 = x.toInt8 ^^^ y.toInt8 := by
  apply Int8.toBitVec_inj.1
  apply BitVec.eq_of_getLsbD_eq
  intro i hi
  first | (simp [hi]; done) | (simp [hi, BitVec.getLsbD_setWidth, BitVec.getLsbD_signExtend]; done)
theorem fa_short_xor (x y : Int32) : (x ^^^ y).toInt16 = x.toInt16 ^^^ y.toInt16 := by
  apply Int16.toBitVec_inj.1
  apply BitVec.eq_of_getLsbD_eq
  intro i hi
  first | (simp [hi]; done) | (simp [hi, BitVec.getLsbD_setWidth, BitVec.getLsbD_signExtend]; done)
/-- the cut to a byte sees the low byte alone -/
theorem fa_byte_low (x : Int32) : (x &&& 255).toInt8 = x.toInt8 := by
  apply Int8.toBitVec_inj.1
  apply BitVec.eq_of_getLsbD_eq
  intro i hi
  have h2 : (255 : Int32).toBitVec.getLsbD i = true := by
    have : ∀ j : Fin 8, (255 : Int32).toBitVec.getLsbD j.val = true := by decide +kernel
    exact this ⟨i, hi⟩
  have h4 : (x &&& 255).toBitVec.getLsbD i = x.toBitVec.getLsbD i := by
    show (x.toBitVec &&& (255 : Int32).toBitVec).getLsbD i = _
    rw [BitVec.getLsbD_and, h2, Bool.and_true]
  have h3 : i < 32 := by omega
  first
    | (show (((x &&& 255).toBitVec).signExtend 8).getLsbD i = (x.toBitVec.signExtend 8).getLsbD i; rw [BitVec.getLsbD_signExtend, BitVec.getLsbD_signExtend, if_pos h3, if_pos h3, h4])
    | (show (((x &&& 255).toBitVec).setWidth 8).getLsbD i = (x.toBitVec.setWidth 8).getLsbD i; rw [BitVec.getLsbD_setWidth, BitVec.getLsbD_setWidth, h4])
    | (simp [hi, h3, h4]; done)
theorem fa_short_low (x : Int32) : (x &&& 65535).toInt16 = x.toInt16 := by
  apply Int16.toBitVec_inj.1
  apply BitVec.eq_of_getLsbD_eq
  intro i hi
  have h2 : (65535 : Int32).toBitVec.getLsbD i = true := by
    have : ∀ j : Fin 16, (65535 : Int32).toBitVec.getLsbD j.val = true := by decide +kernel
    exact this ⟨i, hi⟩
  have h4 : (x &&& 65535).toBitVec.getLsbD i = x.toBitVec.getLsbD i := by
    show (x.toBitVec &&& (65535 : Int32).toBitVec).getLsbD i = _
    rw [BitVec.getLsbD_and, h2, Bool.and_true]
  have h3 : i < 32 := by omega
  first
    | (show (((x &&& 65535).toBitVec).signExtend 16).getLsbD i = (x.toBitVec.signExtend 16).getLsbD i; rw [BitVec.getLsbD_signExtend, BitVec.getLsbD_signExtend, if_pos h3, if_pos h3, h4])
    | (show (((x &&& 65535).toBitVec).setWidth 16).getLsbD i = (x.toBitVec.setWidth 16).getLsbD i; rw [BitVec.getLsbD_setWidth, BitVec.getLsbD_setWidth, h4])
    | (simp [hi, h3, h4]; done)
/-- a small number is its own byte, its own short -/
theorem fa_byte_small {n : Nat} (h : n < 128) : (nI n).toInt8.toInt32 = nI n := by
  have : ∀ j : Fin 128, (nI j.val).toInt8.toInt32 = nI j.val := by decide +kernel
  exact this ⟨n, h⟩
/-! ===== absolute difference ===== -/
theorem fa_absdiff {a b : Nat} (ha : a < 2 ^ 31) (hb : b < 2 ^ 31) : (if nI a < nI b then nI b - nI a else nI a - nI b) = nI (if a < b then b - a else a - b) := by
  by_cases h : a < b
  · rw [if_pos (nI_lt h hb), if_pos h]
    exact pk_sub (Nat.le_of_lt h)
  · rw [if_neg (nI_nlt (Nat.le_of_not_lt h) ha), if_neg h]
    exact pk_sub (Nat.le_of_not_lt h)
/-! ===== an array behind i stores, a conditional store, a row copied ===== -/
/-- f where k < i, what stood there else -/
def fa_fill {α : Type} (f g : Nat → α) (i : Nat) : Nat → α := fun k => if k < i then f k else g k
theorem fa_fill_0 {α : Type} (f g : Nat → α) : fa_fill f g 0 = g := funext fun k => if_neg (Nat.not_lt_zero k)
theorem fa_fill_in {α : Type} {f g : Nat → α} {i k : Nat} (h : k < i) : fa_fill f g i k = f k := if_pos h
theorem fa_fill_out {α : Type} {f g : Nat → α} {i k : Nat} (h : i ≤ k) : fa_fill f g i k = g k := if_neg (Nat.not_lt.mpr h)
theorem fa_fill_succ (f g : Nat → Int32) (i : Nat) : upd (fa_fill f g i) i (f i) = fa_fill f g (i + 1) := by
  funext k
  by_cases e : k = i
  · subst e
    rw [pk_us]
    exact (if_pos (Nat.lt_succ_self k)).symm
  · rw [pk_un e]
    by_cases h : k < i
    · rw [fa_fill_in h, fa_fill_in (Nat.lt_succ_of_lt h)]
    · rw [fa_fill_out (Nat.le_of_not_lt h), fa_fill_out (by omega)]
/-- a store that changes nothing -/
theorem fa_upd_same {f : Nat → Int32} {i : Nat} {x : Int32} (h : f i = x) : upd f i x = f := by
  funext k
  by_cases e : k = i
  · subst e
    rw [pk_us, h]
  · rw [pk_un e]
/-- a store under a condition, told as one -/
theorem fa_upd_if (c : Prop) [Decidable c] (f : Nat → Int32) (i : Nat) (x : Int32) : (if c then upd f i x else f) = upd f i (if c then x else f i) := by
  by_cases h : c
  · rw [if_pos h, if_pos h]
  · rw [if_neg h, if_neg h, fa_upd_same rfl]
/-- two stores at one place, at two -/
theorem fa_upd_twice (f : Nat → Int32) (i : Nat) (x y : Int32) : upd (upd f i x) i y = upd f i y := by
  funext k
  by_cases e : k = i
  · subst e
    rw [pk_us, pk_us]
  · rw [pk_un e, pk_un e, pk_un e]
theorem fa_upd_swap (f : Nat → Int32) {i j : Nat} (h : i ≠ j) (x y : Int32) : upd (upd f i x) j y = upd (upd f j y) i x := by
  funext k
  by_cases e : k = i
  · subst e
    rw [pk_un h, pk_us, pk_us]
  · by_cases e2 : k = j
    · subst e2
      rw [pk_us, pk_un e, pk_us]
    · rw [pk_un e2, pk_un e, pk_un e, pk_un e2]
/-! ===== the first index with a property; a count ===== -/
/-- the first k < n with p k, n if there is none -/
def fa_first (p : Nat → Bool) : Nat → Nat
  | 0 => 0
  | n + 1 => if fa_first p n < n then fa_first p n else if p n then n else n + 1
theorem fa_first_le (p : Nat → Bool) : ∀ n, fa_first p n ≤ n
  | 0 => Nat.le_refl 0
  | n + 1 => by
    have ih := fa_first_le p n
    unfold fa_first
    split
    · omega
    · split
      · omega
      · omega
theorem fa_first_no (p : Nat → Bool) : ∀ n k, k < fa_first p n → p k = false
  | 0, k, h => absurd h (Nat.not_lt_zero k)
  | n + 1, k, h => by
    have ih := fa_first_no p n
    have hl := fa_first_le p n
    unfold fa_first at h
    split at h
    · exact ih k h
    · rename_i h1
      split at h
      · exact ih k (by omega)
      · rename_i h2
        by_cases e : k = n
        · subst e
          exact Bool.eq_false_iff.mpr h2
        · exact ih k (by omega)
theorem fa_first_yes (p : Nat → Bool) : ∀ n, fa_first p n < n → p (fa_first p n) = true
  | 0, h => absurd h (Nat.not_lt_zero _)
  | n + 1, h => by
    have ih := fa_first_yes p n
    have hl := fa_first_le p n
    unfold fa_first at h ⊢
    split at h
    · rename_i h1
      rw [if_pos h1]
      exact ih h1
    · rename_i h1
      rw [if_neg h1]
      split at h
      · rename_i h2
        rw [if_pos h2]
        exact h2
      · omega
/-- how many k < n have p k -/
def fa_cnt (p : Nat → Bool) : Nat → Nat
  | 0 => 0
  | n + 1 => fa_cnt p n + if p n then 1 else 0
theorem fa_cnt_le (p : Nat → Bool) : ∀ n, fa_cnt p n ≤ n
  | 0 => Nat.le_refl 0
  | n + 1 => by
    have ih := fa_cnt_le p n
    unfold fa_cnt
    split
    · omega
    · omega
theorem fa_cnt_yes {p : Nat → Bool} {n : Nat} (h : p n = true) : fa_cnt p (n + 1) = fa_cnt p n + 1 := by rw [fa_cnt, if_pos h]
theorem fa_cnt_no {p : Nat → Bool} {n : Nat} (h : p n = false) : fa_cnt p (n + 1) = fa_cnt p n := by rw [fa_cnt, if_neg (by rw [h]; decide)]; rfl
theorem fa_cnt_cong {p q : Nat → Bool} : ∀ {n : Nat}, (∀ k, k < n → p k = q k) → fa_cnt p n = fa_cnt q n
  | 0, _ => rfl
  | n + 1, h => by rw [fa_cnt, fa_cnt, fa_cnt_cong (fun k hk => h k (Nat.lt_succ_of_lt hk)), h n (Nat.lt_succ_self n)]
/-! ===== an answer carried into a post; a branch on a boolean answer ===== -/
theorem fa_post {α : Type} {P : α → Prop} {x y : α} (h : x = y) (hp : P y) : P x := h ▸ hp
theorem fa_post2 {α β : Type} {P : α → β → Prop} {x y : α} {u v : β} (h : x = y) (h2 : u = v) (hp : P y v) : P x u := h ▸ h2 ▸ hp
theorem fa_bool {r : Int32} {b : Bool} (h : r = if b then 1 else 0) : (r = 0 ↔ b = false) ∧ (¬ r = 0 ↔ b = true) := by
  subst h
  cases b
  · exact ⟨⟨fun _ => rfl, fun _ => rfl⟩, ⟨fun h => absurd rfl h, fun h => absurd h (by decide)⟩⟩
  · exact ⟨⟨fun h => absurd h (by decide), fun h => absurd h (by decide)⟩, ⟨fun _ => rfl, fun _ => by decide⟩⟩
/-- a boolean's narrowing changes nothing -/
theorem fa_bool_and {r : Int32} (h : r = 0 ∨ r = 1) : r &&& 1 = r := by
  rcases h with rfl | rfl
  · decide
  · decide
theorem fa_bool_prop {c : Prop} [Decidable c] {r : Int32} (h : r = if c then 1 else 0) : (r = 0 ↔ ¬ c) ∧ (¬ r = 0 ↔ c) := by
  subst h
  by_cases hc : c
  · rw [if_pos hc]
    exact ⟨⟨fun h => absurd h (by decide), fun h => absurd hc h⟩, ⟨fun _ => hc, fun _ => by decide⟩⟩
  · rw [if_neg hc]
    exact ⟨⟨fun _ => hc, fun _ => rfl⟩, ⟨fun h => absurd rfl h, fun h => absurd h hc⟩⟩
/-! plain facts to paste, each family by itself; over the kit's nI, lN and upd -/
/-! ===== drawers: more things than places ===== -/
theorem fb_holes : ∀ (m n : Nat) (f : Nat → Nat), (∀ i, i < n → f i < m) → (∀ i j, i < j → j < n → f i ≠ f j) → n ≤ m := by
  intro m
  induction m with
  | zero =>
    intro n f h1 _
    rcases Nat.eq_zero_or_pos n with h | h
    · omega
    · exact absurd (h1 0 h) (Nat.not_lt_zero _)
  | succ m ih =>
    intro n f h1 h2
    by_cases hx : ∃ i, i < n ∧ f i = m
    · obtain ⟨a, ha, hfa⟩ := hx
      have hg := ih (n - 1) (fun i => if i < a then f i else f (i + 1)) (by
        intro i hi
        by_cases q : i < a
        · simp only [if_pos q]
          have b1 := h1 i (by omega)
          have b2 := h2 i a q ha
          omega
        · simp only [if_neg q]
          have b1 := h1 (i + 1) (by omega)
          have b2 := h2 a (i + 1) (by omega) (by omega)
          omega) (by
        intro i j hij hj
        by_cases q : i < a
        · by_cases r : j < a
          · simp only [if_pos q, if_pos r]
            exact h2 i j hij (by omega)
          · simp only [if_pos q, if_neg r]
            exact h2 i (j + 1) (by omega) (by omega)
        · have r : ¬ j < a := by omega
          simp only [if_neg q, if_neg r]
          exact h2 (i + 1) (j + 1) (by omega) (by omega))
      omega
    · have hg := ih n f (fun i hi => by
        have b1 := h1 i hi
        have b2 : f i ≠ m := fun e => hx ⟨i, hi, e⟩
        omega) h2
      omega
/-- two of them in one place -/
theorem fb_twice {m n : Nat} {f : Nat → Nat} (h : ∀ i, i < n → f i < m) (hm : m < n) : ∃ i j, i < j ∧ j < n ∧ f i = f j := by
  refine Classical.byContradiction fun hx => ?_
  have := fb_holes m n f h (fun i j hij hj e => hx ⟨i, j, hij, hj, e⟩)
  omega
/-- as many as places, none twice: each place is taken -/
theorem fb_onto {n : Nat} {f : Nat → Nat} (h : ∀ i, i < n → f i < n) (h2 : ∀ i j, i < j → j < n → f i ≠ f j) {y : Nat} (hy : y < n) : ∃ i, i < n ∧ f i = y := by
  refine Classical.byContradiction fun hx => ?_
  have hne : ∀ i, i < n → f i ≠ y := fun i hi e => hx ⟨i, hi, e⟩
  have := fb_holes (n - 1) n (fun i => if f i < y then f i else f i - 1) (by
    intro i hi
    have b1 := h i hi
    have b2 := hne i hi
    by_cases q : f i < y
    · simp only [if_pos q]; omega
    · simp only [if_neg q]; omega) (by
    intro i j hij hj
    have b1 := hne i (by omega)
    have b2 := hne j hj
    have b3 := h2 i j hij hj
    by_cases q : f i < y
    · by_cases r : f j < y
      · simp only [if_pos q, if_pos r]; exact b3
      · simp only [if_pos q, if_neg r]; omega
    · by_cases r : f j < y
      · simp only [if_neg q, if_pos r]; omega
      · simp only [if_neg q, if_neg r]; omega)
  omega
/-! ===== how many places have a property ===== -/
def fb_ct (p : Nat → Bool) : Nat → Nat
  | 0 => 0
  | n + 1 => fb_ct p n + (if p n then 1 else 0)
theorem fb_ct_succ (p : Nat → Bool) (n : Nat) : fb_ct p (n + 1) = fb_ct p n + (if p n then 1 else 0) := rfl
theorem fb_ct_le (p : Nat → Bool) : ∀ n, fb_ct p n ≤ n
  | 0 => Nat.le_refl _
  | n + 1 => by
    have h := fb_ct_le p n
    rw [fb_ct_succ]
    split <;> omega
theorem fb_ct_step (p : Nat → Bool) (m : Nat) : ∀ n, fb_ct p m ≤ fb_ct p (m + n)
  | 0 => Nat.le_refl _
  | n + 1 => by
    have h := fb_ct_step p m n
    show fb_ct p m ≤ fb_ct p (m + n + 1)
    rw [fb_ct_succ]
    omega
theorem fb_ct_mono (p : Nat → Bool) {m n : Nat} (h : m ≤ n) : fb_ct p m ≤ fb_ct p n := by
  have := fb_ct_step p m (n - m)
  rwa [Nat.add_sub_cancel' h] at this
theorem fb_ct_cong {p q : Nat → Bool} : ∀ {n : Nat}, (∀ k, k < n → p k = q k) → fb_ct p n = fb_ct q n
  | 0, _ => rfl
  | n + 1, h => by
    rw [fb_ct_succ, fb_ct_succ, fb_ct_cong (fun k hk => h k (by omega)), h n (by omega)]
/-- one place changed -/
theorem fb_ct_out (p : Nat → Bool) (b : Bool) {i n : Nat} (h : n ≤ i) : fb_ct (fun k => if k = i then b else p k) n = fb_ct p n :=
  fb_ct_cong fun k hk => if_neg (by omega)
theorem fb_ct_upd (p : Nat → Bool) (b : Bool) {i : Nat} : ∀ {n : Nat}, i < n → fb_ct (fun k => if k = i then b else p k) n + (if p i then 1 else 0) = fb_ct p n + (if b then 1 else 0)
  | 0, h => absurd h (Nat.not_lt_zero i)
  | n + 1, h => by
    rw [fb_ct_succ, fb_ct_succ]
    rcases Nat.lt_or_ge i n with q | q
    · have := fb_ct_upd p b q
      have e : (if n = i then b else p n) = p n := if_neg (by omega)
      rw [e]
      omega
    · have e : i = n := by omega
      subst e
      rw [fb_ct_out p b (Nat.le_refl _)]
      simp only [if_true]
      omega
theorem fb_ct_sub {p q : Nat → Bool} : ∀ {n : Nat}, (∀ k, k < n → p k = true → q k = true) → fb_ct p n ≤ fb_ct q n
  | 0, _ => Nat.le_refl _
  | n + 1, h => by
    have h1 := fb_ct_sub (n := n) (p := p) (q := q) (fun k hk => h k (by omega))
    have h2 := h n (by omega)
    rw [fb_ct_succ, fb_ct_succ]
    cases hp : p n <;> cases hq : q n <;> simp_all <;> omega
theorem fb_ct_or {p q : Nat → Bool} : ∀ {n : Nat}, (∀ k, k < n → ¬ (p k = true ∧ q k = true)) → fb_ct (fun k => p k || q k) n = fb_ct p n + fb_ct q n
  | 0, _ => rfl
  | n + 1, h => by
    have h1 := fb_ct_or (n := n) (p := p) (q := q) (fun k hk => h k (by omega))
    have h2 := h n (by omega)
    rw [fb_ct_succ, fb_ct_succ, fb_ct_succ, h1]
    cases hp : p n <;> cases hq : q n <;> simp_all <;> omega
theorem fb_ct_not (p : Nat → Bool) : ∀ n, fb_ct p n + fb_ct (fun k => !p k) n = n
  | 0 => rfl
  | n + 1 => by
    have h := fb_ct_not p n
    rw [fb_ct_succ, fb_ct_succ]
    cases p n <;> simp <;> omega
theorem fb_ct_split (p : Nat → Bool) (m : Nat) : ∀ n, fb_ct p (m + n) = fb_ct p m + fb_ct (fun k => p (m + k)) n
  | 0 => rfl
  | n + 1 => by
    have h := fb_ct_split p m n
    show fb_ct p (m + n + 1) = _
    rw [fb_ct_succ, fb_ct_succ, h, Nat.add_assoc]
theorem fb_ct_zero {p : Nat → Bool} : ∀ {n : Nat}, fb_ct p n = 0 ↔ ∀ k, k < n → p k = false
  | 0 => ⟨fun _ k hk => absurd hk (Nat.not_lt_zero k), fun _ => rfl⟩
  | n + 1 => by
    have h := fb_ct_zero (p := p) (n := n)
    rw [fb_ct_succ]
    constructor
    · intro e k hk
      have e1 : fb_ct p n = 0 := by omega
      rcases Nat.lt_or_ge k n with q | q
      · exact h.mp e1 k q
      · have ek : k = n := by omega
        subst ek
        cases hp : p k
        · rfl
        · simp [hp] at e
    · intro a
      rw [h.mpr (fun k hk => a k (by omega)), a n (by omega)]
      rfl
theorem fb_ct_pos {p : Nat → Bool} {n : Nat} : 0 < fb_ct p n ↔ ∃ k, k < n ∧ p k = true := by
  constructor
  · intro h
    refine Classical.byContradiction fun hx => ?_
    have := fb_ct_zero.mpr (fun k hk => by
      cases hp : p k
      · rfl
      · exact absurd ⟨k, hk, hp⟩ hx : ∀ k, k < n → p k = false)
    omega
  · rintro ⟨k, hk, hp⟩
    rcases Nat.eq_zero_or_pos (fb_ct p n) with e | e
    · have := fb_ct_zero.mp e k hk
      rw [this] at hp
      cases hp
    · exact e
theorem fb_ct_all {p : Nat → Bool} {n : Nat} : fb_ct p n = n ↔ ∀ k, k < n → p k = true := by
  have h := fb_ct_not p n
  constructor
  · intro e k hk
    have z : fb_ct (fun k => !p k) n = 0 := by omega
    have := fb_ct_zero.mp z k hk
    cases hp : p k
    · simp [hp] at this
    · rfl
  · intro a
    have z : fb_ct (fun k => !p k) n = 0 := fb_ct_zero.mpr (fun k hk => by simp [a k hk])
    omega
/-- the k-th place with the property -/
theorem fb_ct_kth {p : Nat → Bool} {k : Nat} : ∀ {n : Nat}, k < fb_ct p n → ∃ i, i < n ∧ p i = true ∧ fb_ct p i = k
  | 0, h => absurd h (Nat.not_lt_zero k)
  | n + 1, h => by
    rcases Nat.lt_or_ge k (fb_ct p n) with q | q
    · obtain ⟨i, h1, h2⟩ := fb_ct_kth q
      exact ⟨i, by omega, h2⟩
    · rw [fb_ct_succ] at h
      cases hp : p n
      · simp [hp] at h; omega
      · simp [hp] at h
        exact ⟨n, by omega, hp, by omega⟩
theorem fb_ct_kth_one {p : Nat → Bool} {i j : Nat} (hi : p i = true) (hj : p j = true) (e : fb_ct p i = fb_ct p j) : i = j := by
  have key : ∀ a b : Nat, a < b → p a = true → fb_ct p a < fb_ct p b := by
    intro a b hab ha
    have h := fb_ct_mono p (show a + 1 ≤ b from hab)
    rw [fb_ct_succ, ha] at h
    simp at h
    omega
  rcases Nat.lt_trichotomy i j with q | q | q
  · have := key i j q hi; omega
  · exact q
  · have := key j i q hj; omega
/-! ===== sums over a range: one place changed, parts, bounds ===== -/
def fb_sm (f : Nat → Nat) : Nat → Nat
  | 0 => 0
  | n + 1 => fb_sm f n + f n
theorem fb_sm_succ (f : Nat → Nat) (n : Nat) : fb_sm f (n + 1) = fb_sm f n + f n := rfl
theorem fb_sm_cong {f g : Nat → Nat} : ∀ {n : Nat}, (∀ k, k < n → f k = g k) → fb_sm f n = fb_sm g n
  | 0, _ => rfl
  | n + 1, h => by rw [fb_sm_succ, fb_sm_succ, fb_sm_cong (fun k hk => h k (by omega)), h n (by omega)]
theorem fb_sm_out (f : Nat → Nat) (v : Nat) {i n : Nat} (h : n ≤ i) : fb_sm (fun k => if k = i then v else f k) n = fb_sm f n :=
  fb_sm_cong fun k hk => if_neg (by omega)
theorem fb_sm_upd (f : Nat → Nat) (v : Nat) {i : Nat} : ∀ {n : Nat}, i < n → fb_sm (fun k => if k = i then v else f k) n + f i = fb_sm f n + v
  | 0, h => absurd h (Nat.not_lt_zero i)
  | n + 1, h => by
    rw [fb_sm_succ, fb_sm_succ]
    rcases Nat.lt_or_ge i n with q | q
    · have := fb_sm_upd f v q
      have e : (if n = i then v else f n) = f n := if_neg (by omega)
      rw [e]
      omega
    · have e : i = n := by omega
      subst e
      rw [fb_sm_out f v (Nat.le_refl _)]
      simp only [if_true]
      omega
theorem fb_sm_add (f g : Nat → Nat) : ∀ n, fb_sm (fun k => f k + g k) n = fb_sm f n + fb_sm g n
  | 0 => rfl
  | n + 1 => by
    have h := fb_sm_add f g n
    rw [fb_sm_succ, fb_sm_succ, fb_sm_succ, h]
    omega
theorem fb_sm_le {f g : Nat → Nat} : ∀ {n : Nat}, (∀ k, k < n → f k ≤ g k) → fb_sm f n ≤ fb_sm g n
  | 0, _ => Nat.le_refl _
  | n + 1, h => by
    have h1 := fb_sm_le (n := n) (f := f) (g := g) (fun k hk => h k (by omega))
    have h2 := h n (by omega)
    rw [fb_sm_succ, fb_sm_succ]
    omega
theorem fb_sm_const (c : Nat) : ∀ n, fb_sm (fun _ => c) n = n * c
  | 0 => by rw [Nat.zero_mul]; rfl
  | n + 1 => by rw [fb_sm_succ, fb_sm_const c n, Nat.succ_mul]
theorem fb_sm_bound {f : Nat → Nat} {c n : Nat} (h : ∀ k, k < n → f k ≤ c) : fb_sm f n ≤ n * c := by
  rw [← fb_sm_const c n]
  exact fb_sm_le h
theorem fb_sm_mono (f : Nat → Nat) (m : Nat) : ∀ n, fb_sm f m ≤ fb_sm f (m + n)
  | 0 => Nat.le_refl _
  | n + 1 => by
    have h := fb_sm_mono f m n
    show fb_sm f m ≤ fb_sm f (m + n + 1)
    rw [fb_sm_succ]
    omega
theorem fb_sm_part (f : Nat → Nat) {i n : Nat} (h : i < n) : fb_sm f i + f i ≤ fb_sm f n := by
  have := fb_sm_mono f (i + 1) (n - (i + 1))
  rw [fb_sm_succ, show i + 1 + (n - (i + 1)) = n by omega] at this
  exact this
theorem fb_sm_split (f : Nat → Nat) (m : Nat) : ∀ n, fb_sm f (m + n) = fb_sm f m + fb_sm (fun k => f (m + k)) n
  | 0 => rfl
  | n + 1 => by
    have h := fb_sm_split f m n
    show fb_sm f (m + n + 1) = _
    rw [fb_sm_succ, fb_sm_succ, h, Nat.add_assoc]
theorem fb_sm_zero {f : Nat → Nat} {n : Nat} (h : fb_sm f n = 0) : ∀ k, k < n → f k = 0 := fun k hk => by
  have := fb_sm_part f hk
  omega
/-- the same over whole numbers -/
def fb_si (f : Nat → Int) : Nat → Int
  | 0 => 0
  | n + 1 => fb_si f n + f n
theorem fb_si_succ (f : Nat → Int) (n : Nat) : fb_si f (n + 1) = fb_si f n + f n := rfl
theorem fb_si_cong {f g : Nat → Int} : ∀ {n : Nat}, (∀ k, k < n → f k = g k) → fb_si f n = fb_si g n
  | 0, _ => rfl
  | n + 1, h => by rw [fb_si_succ, fb_si_succ, fb_si_cong (fun k hk => h k (by omega)), h n (by omega)]
theorem fb_si_out (f : Nat → Int) (v : Int) {i n : Nat} (h : n ≤ i) : fb_si (fun k => if k = i then v else f k) n = fb_si f n :=
  fb_si_cong fun k hk => if_neg (by omega)
theorem fb_si_upd (f : Nat → Int) (v : Int) {i : Nat} : ∀ {n : Nat}, i < n → fb_si (fun k => if k = i then v else f k) n = fb_si f n - f i + v
  | 0, h => absurd h (Nat.not_lt_zero i)
  | n + 1, h => by
    rw [fb_si_succ, fb_si_succ]
    rcases Nat.lt_or_ge i n with q | q
    · have := fb_si_upd f v q
      have e : (if n = i then v else f n) = f n := if_neg (by omega)
      rw [e]
      omega
    · have e : i = n := by omega
      subst e
      rw [fb_si_out f v (Nat.le_refl _)]
      simp only [if_true]
      omega
theorem fb_si_add (f g : Nat → Int) : ∀ n, fb_si (fun k => f k + g k) n = fb_si f n + fb_si g n
  | 0 => rfl
  | n + 1 => by
    have h := fb_si_add f g n
    rw [fb_si_succ, fb_si_succ, fb_si_succ, h]
    omega
theorem fb_si_sub (f g : Nat → Int) : ∀ n, fb_si (fun k => f k - g k) n = fb_si f n - fb_si g n
  | 0 => rfl
  | n + 1 => by
    have h := fb_si_sub f g n
    rw [fb_si_succ, fb_si_succ, fb_si_succ, h]
    omega
theorem fb_si_mul (c : Int) (f : Nat → Int) : ∀ n, fb_si (fun k => c * f k) n = c * fb_si f n
  | 0 => (Int.mul_zero c).symm
  | n + 1 => by
    have h := fb_si_mul c f n
    rw [fb_si_succ, fb_si_succ, h, Int.mul_add]
theorem fb_si_split (f : Nat → Int) (m : Nat) : ∀ n, fb_si f (m + n) = fb_si f m + fb_si (fun k => f (m + k)) n
  | 0 => (Int.add_zero _).symm
  | n + 1 => by
    have h := fb_si_split f m n
    show fb_si f (m + n + 1) = _
    rw [fb_si_succ, fb_si_succ, h, Int.add_assoc]
theorem fb_si_nat (f : Nat → Nat) : ∀ n, fb_si (fun k => (f k : Int)) n = (fb_sm f n : Int)
  | 0 => rfl
  | n + 1 => by
    have h := fb_si_nat f n
    rw [fb_si_succ, fb_sm_succ, h]
    omega
theorem fb_si_bound {f : Nat → Int} {c : Int} (hc : 0 ≤ c) : ∀ {n : Nat}, (∀ k, k < n → -c ≤ f k ∧ f k ≤ c) → -(n * c) ≤ fb_si f n ∧ fb_si f n ≤ n * c
  | 0, _ => by simp [fb_si]
  | n + 1, h => by
    have h1 := fb_si_bound (n := n) (f := f) hc (fun k hk => h k (by omega))
    have h2 := h n (by omega)
    have e : ((n + 1 : Nat) : Int) * c = n * c + c := by rw [Int.natCast_add, Int.add_mul]; simp
    rw [fb_si_succ, e]
    omega
/-! ===== bits of a long that isn't negative ===== -/
theorem fb_andL (a b : Nat) : lN a &&& lN b = lN (a &&& b) := by
  apply Int64.toBitVec_inj.1
  show BitVec.ofNat 64 a &&& BitVec.ofNat 64 b = BitVec.ofNat 64 (a &&& b)
  apply BitVec.eq_of_getLsbD_eq
  intro i hi
  simp [hi]
theorem fb_orL (a b : Nat) : lN a ||| lN b = lN (a ||| b) := by
  apply Int64.toBitVec_inj.1
  show BitVec.ofNat 64 a ||| BitVec.ofNat 64 b = BitVec.ofNat 64 (a ||| b)
  apply BitVec.eq_of_getLsbD_eq
  intro i hi
  simp [hi]
theorem fb_xorL (a b : Nat) : lN a ^^^ lN b = lN (a ^^^ b) := by
  apply Int64.toBitVec_inj.1
  show BitVec.ofNat 64 a ^^^ BitVec.ofNat 64 b = BitVec.ofNat 64 (a ^^^ b)
  apply BitVec.eq_of_getLsbD_eq
  intro i hi
  simp [hi]
theorem fb_xorI (a b : Nat) : nI a ^^^ nI b = nI (a ^^^ b) := by
  apply Int32.toBitVec_inj.1
  show BitVec.ofNat 32 a ^^^ BitVec.ofNat 32 b = BitVec.ofNat 32 (a ^^^ b)
  apply BitVec.eq_of_getLsbD_eq
  intro i hi
  simp [hi]
theorem fb_maskL (n k : Nat) : lN n &&& lN (2 ^ k - 1) = lN (n % 2 ^ k) := by rw [fb_andL, Nat.and_two_pow_sub_one_eq_mod]
theorem fb_or_sumL {a k : Nat} (b : Nat) (h : a < 2 ^ k) : lN (2 ^ k * b) ||| lN a = lN (2 ^ k * b + a) := by rw [fb_orL, Nat.two_pow_add_eq_or_of_lt h]
theorem fb_lN_inj {a b : Nat} (ha : a < 2 ^ 63) (hb : b < 2 ^ 63) : lN a = lN b ↔ a = b := by
  constructor
  · intro h
    have h1 : (BitVec.ofNat 64 a).toNat = (BitVec.ofNat 64 b).toNat := congrArg (fun x : Int64 => x.toBitVec.toNat) h
    rw [BitVec.toNat_ofNat, BitVec.toNat_ofNat, Nat.mod_eq_of_lt (by omega), Nat.mod_eq_of_lt (by omega)] at h1
    exact h1
  · rintro rfl; rfl
theorem fb_bit_nat (n j : Nat) : n &&& 2 ^ j = 0 ↔ n.testBit j = false := by
  constructor
  · intro h
    have h1 : (n &&& 2 ^ j).testBit j = false := by rw [h]; simp
    rw [Nat.testBit_and] at h1
    simpa using h1
  · intro h
    apply Nat.eq_of_testBit_eq
    intro i
    rw [Nat.testBit_and]
    by_cases hi : j = i
    · subst hi; simp [h]
    · first | (simp [Nat.testBit_two_pow, hi]; done) | (simp [Nat.testBit_two_pow_of_ne hi]; done)
/-- one bit of a long -/
theorem fb_bitL {n j : Nat} (hj : j < 63) : lN n &&& lN (2 ^ j) = 0 ↔ n.testBit j = false := by
  have h2 : (2 : Nat) ^ j < 2 ^ 63 := Nat.pow_lt_pow_right (by decide) hj
  have hle : n &&& 2 ^ j ≤ 2 ^ j := Nat.and_le_right
  rw [fb_andL, ← fb_bit_nat, show (0 : Int64) = lN 0 from rfl]
  exact fb_lN_inj (by omega) (by decide)
/-- a bit set, a bit taken off -/
theorem fb_bit_set (n j i : Nat) : (n ||| 2 ^ j).testBit i = (n.testBit i || decide (i = j)) := by
  rw [Nat.testBit_or]
  by_cases h : j = i
  · subst h; simp
  · have h2 : ¬ i = j := fun e => h e.symm
    first | (simp [Nat.testBit_two_pow, h, h2]; done) | (simp [Nat.testBit_two_pow_of_ne h, h2]; done)
theorem fb_bit_flip (n j i : Nat) : (n ^^^ 2 ^ j).testBit i = (n.testBit i ^^ decide (i = j)) := by
  rw [Nat.testBit_xor]
  by_cases h : j = i
  · subst h; simp
  · have h2 : ¬ i = j := fun e => h e.symm
    first | (simp [Nat.testBit_two_pow, h, h2]; done) | (simp [Nat.testBit_two_pow_of_ne h, h2]; done)
/-! ===== a stretch of an array written over by a function ===== -/
def fb_put {α : Type} (f g : Nat → α) (a n : Nat) : Nat → α := fun k => if a ≤ k ∧ k < a + n then g (k - a) else f k
theorem fb_put_0 {α : Type} (f g : Nat → α) (a : Nat) : fb_put f g a 0 = f := funext fun k => if_neg (by omega)
theorem fb_put_in {α : Type} {f g : Nat → α} {a n k : Nat} (h1 : a ≤ k) (h2 : k < a + n) : fb_put f g a n k = g (k - a) := if_pos ⟨h1, h2⟩
theorem fb_put_out {α : Type} {f g : Nat → α} {a n k : Nat} (h : k < a ∨ a + n ≤ k) : fb_put f g a n k = f k := if_neg (by omega)
theorem fb_put_succ (f g : Nat → Int32) (a n : Nat) : upd (fb_put f g a n) (a + n) (g n) = fb_put f g a (n + 1) := by
  funext k
  by_cases h : k = a + n
  · subst h
    simp [upd, fb_put]
  · by_cases h1 : a ≤ k ∧ k < a + n
    · have h2 : a ≤ k ∧ k < a + (n + 1) := by omega
      simp only [upd, fb_put, if_neg h, if_pos h1, if_pos h2]
    · have h2 : ¬ (a ≤ k ∧ k < a + (n + 1)) := by omega
      simp only [upd, fb_put, if_neg h, if_neg h1, if_neg h2]
/-- .. from the far end down -/
theorem fb_put_down (f g : Nat → Int32) {a n m : Nat} (h : m < n) : upd (fb_put f (fun k => g (k + (m + 1))) (a + (m + 1)) (n - (m + 1))) (a + m) (g m) = fb_put f (fun k => g (k + m)) (a + m) (n - m) := by
  funext k
  by_cases h0 : k = a + m
  · subst h0
    simp only [upd, if_true]
    rw [fb_put_in (by omega) (by omega)]
    exact congrArg g (by omega)
  · simp only [upd, if_neg h0]
    by_cases h1 : a + (m + 1) ≤ k ∧ k < a + (m + 1) + (n - (m + 1))
    · rw [fb_put_in h1.1 h1.2, fb_put_in (by omega) (by omega)]
      exact congrArg g (by omega)
    · rw [fb_put_out (by omega), fb_put_out (by omega)]
theorem fb_put_cong {α : Type} {f f2 g g2 : Nat → α} {a n : Nat} (hf : ∀ k, (k < a ∨ a + n ≤ k) → f k = f2 k) (hg : ∀ k, k < n → g k = g2 k) : fb_put f g a n = fb_put f2 g2 a n := by
  funext k
  by_cases h : a ≤ k ∧ k < a + n
  · rw [fb_put_in h.1 h.2, fb_put_in h.1 h.2, hg _ (by omega)]
  · rw [fb_put_out (by omega), fb_put_out (by omega), hf _ (by omega)]
/-! ===== the least, the first, the best so far; that there is one alone ===== -/
theorem fb_first {p : Nat → Prop} [DecidablePred p] : ∀ {n : Nat}, (∃ i, i < n ∧ p i) → ∃ i, i < n ∧ p i ∧ ∀ j, j < i → ¬ p j
  | 0, h => by obtain ⟨i, hi, -⟩ := h; exact absurd hi (Nat.not_lt_zero i)
  | n + 1, h => by
    by_cases q : ∃ i, i < n ∧ p i
    · obtain ⟨i, h1, h2⟩ := fb_first q
      exact ⟨i, by omega, h2⟩
    · obtain ⟨i, h1, h2⟩ := h
      have e : i = n := by
        rcases Nat.lt_or_ge i n with r | r
        · exact absurd ⟨i, r, h2⟩ q
        · omega
      subst e
      exact ⟨i, by omega, h2, fun j hj hp => q ⟨j, hj, hp⟩⟩
theorem fb_first_one {p : Nat → Prop} {i j : Nat} (hi : p i) (hi2 : ∀ k, k < i → ¬ p k) (hj : p j) (hj2 : ∀ k, k < j → ¬ p k) : i = j := by
  rcases Nat.lt_trichotomy i j with q | q | q
  · exact absurd hi (hj2 i q)
  · exact q
  · exact absurd hj (hi2 j q)
theorem fb_last {p : Nat → Prop} [DecidablePred p] : ∀ {n : Nat}, (∃ i, i < n ∧ p i) → ∃ i, i < n ∧ p i ∧ ∀ j, i < j → j < n → ¬ p j
  | 0, h => by obtain ⟨i, hi, -⟩ := h; exact absurd hi (Nat.not_lt_zero i)
  | n + 1, h => by
    by_cases q : p n
    · exact ⟨n, by omega, q, fun j h1 h2 => by omega⟩
    · obtain ⟨i, h1, h2⟩ := h
      have hi : i < n := by
        rcases Nat.lt_or_ge i n with r | r
        · exact r
        · have e : i = n := by omega
          subst e
          exact absurd h2 q
      obtain ⟨i2, a1, a2, a3⟩ := fb_last (n := n) ⟨i, hi, h2⟩
      refine ⟨i2, by omega, a2, fun j b1 b2 => ?_⟩
      rcases Nat.lt_or_ge j n with r | r
      · exact a3 j b1 r
      · have e : j = n := by omega
        subst e
        exact q
/-- the first greatest -/
theorem fb_best (f : Nat → Int) : ∀ {n : Nat}, 0 < n → ∃ i, i < n ∧ (∀ j, j < n → f j ≤ f i) ∧ ∀ j, j < i → f j < f i
  | 0, h => absurd h (Nat.lt_irrefl 0)
  | 1, _ => ⟨0, by omega, fun j hj => by have e : j = 0 := by omega
                                         subst e; exact Int.le_refl _, fun j hj => absurd hj (Nat.not_lt_zero j)⟩
  | n + 2, _ => by
    obtain ⟨i, h1, h2, h3⟩ := fb_best f (n := n + 1) (by omega)
    by_cases q : f i < f (n + 1)
    · refine ⟨n + 1, by omega, fun j hj => ?_, fun j hj => ?_⟩
      · rcases Nat.lt_or_ge j (n + 1) with r | r
        · have := h2 j r; omega
        · have e : j = n + 1 := by omega
          subst e; exact Int.le_refl _
      · have := h2 j hj; omega
    · refine ⟨i, by omega, fun j hj => ?_, h3⟩
      rcases Nat.lt_or_ge j (n + 1) with r | r
      · exact h2 j r
      · have e : j = n + 1 := by omega
        subst e; omega
theorem fb_best_one {f : Nat → Int} {n i j : Nat} (hi : i < n) (hi2 : ∀ k, k < n → f k ≤ f i) (hi3 : ∀ k, k < i → f k < f i) (hj : j < n) (hj2 : ∀ k, k < n → f k ≤ f j) (hj3 : ∀ k, k < j → f k < f j) : i = j := by
  rcases Nat.lt_trichotomy i j with q | q | q
  · have a := hj3 i q
    have b := hi2 j hj
    omega
  · exact q
  · have a := hi3 j q
    have b := hj2 i hi
    omega
/-- the first least -/
theorem fb_low (f : Nat → Int) {n : Nat} (h : 0 < n) : ∃ i, i < n ∧ (∀ j, j < n → f i ≤ f j) ∧ ∀ j, j < i → f i < f j := by
  obtain ⟨i, h1, h2, h3⟩ := fb_best (fun k => -f k) h
  exact ⟨i, h1, fun j hj => by have := h2 j hj; omega, fun j hj => by have := h3 j hj; omega⟩
/-! ===== signed ints as whole numbers, within bounds ===== -/
theorem fb_rng (x : Int32) : -2147483648 ≤ x.toInt ∧ x.toInt < 2147483648 := by
  have h1 := Int32.le_toInt x
  have h2 := Int32.toInt_lt x
  omega
theorem fb_bmod {z : Int} (h1 : -2147483648 ≤ z) (h2 : z < 2147483648) : z.bmod (2 ^ 32) = z := by
  rw [Int.bmod_eq_of_le (by omega) (by omega)]
theorem fb_addI {x y : Int32} (h1 : -2147483648 ≤ x.toInt + y.toInt) (h2 : x.toInt + y.toInt < 2147483648) : (x + y).toInt = x.toInt + y.toInt := by
  rw [Int32.toInt_add, fb_bmod h1 h2]
theorem fb_subI {x y : Int32} (h1 : -2147483648 ≤ x.toInt - y.toInt) (h2 : x.toInt - y.toInt < 2147483648) : (x - y).toInt = x.toInt - y.toInt := by
  rw [Int32.toInt_sub, fb_bmod h1 h2]
theorem fb_mulI {x y : Int32} (h1 : -2147483648 ≤ x.toInt * y.toInt) (h2 : x.toInt * y.toInt < 2147483648) : (x * y).toInt = x.toInt * y.toInt := by
  rw [Int32.toInt_mul, fb_bmod h1 h2]
theorem fb_negI {x : Int32} (h : x.toInt ≠ -2147483648) : (-x).toInt = -x.toInt := by
  have := fb_rng x
  rw [Int32.toInt_neg, fb_bmod (by omega) (by omega)]
theorem fb_ofI {z : Int} (h1 : -2147483648 ≤ z) (h2 : z < 2147483648) : (Int32.ofInt z).toInt = z := by
  rw [Int32.toInt_ofInt, fb_bmod h1 h2]
theorem fb_asI (x : Int32) : Int32.ofInt x.toInt = x := Int32.ofInt_toInt x
theorem fb_rngL (x : Int64) : -9223372036854775808 ≤ x.toInt ∧ x.toInt < 9223372036854775808 := by
  have h1 := Int64.le_toInt x
  have h2 := Int64.toInt_lt x
  omega
theorem fb_bmodL {z : Int} (h1 : -9223372036854775808 ≤ z) (h2 : z < 9223372036854775808) : z.bmod (2 ^ 64) = z := by
  rw [Int.bmod_eq_of_le (by omega) (by omega)]
theorem fb_addL {x y : Int64} (h1 : -9223372036854775808 ≤ x.toInt + y.toInt) (h2 : x.toInt + y.toInt < 9223372036854775808) : (x + y).toInt = x.toInt + y.toInt := by
  rw [Int64.toInt_add, fb_bmodL h1 h2]
theorem fb_subL {x y : Int64} (h1 : -9223372036854775808 ≤ x.toInt - y.toInt) (h2 : x.toInt - y.toInt < 9223372036854775808) : (x - y).toInt = x.toInt - y.toInt := by
  rw [Int64.toInt_sub, fb_bmodL h1 h2]
theorem fb_mulL {x y : Int64} (h1 : -9223372036854775808 ≤ x.toInt * y.toInt) (h2 : x.toInt * y.toInt < 9223372036854775808) : (x * y).toInt = x.toInt * y.toInt := by
  rw [Int64.toInt_mul, fb_bmodL h1 h2]
/-! ===== cuts of what is narrow already ===== -/
theorem fb_byte {x : Int32} (h1 : -128 ≤ x.toInt) (h2 : x.toInt < 128) : x.toInt8.toInt32 = x := by
  apply Int32.toInt_inj.1
  rw [Int8.toInt_toInt32, Int32.toInt_toInt8, Int.bmod_eq_of_le (by omega) (by omega)]
theorem fb_short {x : Int32} (h1 : -32768 ≤ x.toInt) (h2 : x.toInt < 32768) : x.toInt16.toInt32 = x := by
  apply Int32.toInt_inj.1
  rw [Int16.toInt_toInt32, Int32.toInt_toInt16, Int.bmod_eq_of_le (by omega) (by omega)]
theorem fb_byte_rng (x : Int32) : -128 ≤ x.toInt8.toInt32.toInt ∧ x.toInt8.toInt32.toInt < 128 := by
  rw [Int8.toInt_toInt32]
  have h1 := Int8.le_toInt x.toInt8
  have h2 := Int8.toInt_lt x.toInt8
  omega
theorem fb_short_rng (x : Int32) : -32768 ≤ x.toInt16.toInt32.toInt ∧ x.toInt16.toInt32.toInt < 32768 := by
  rw [Int16.toInt_toInt32]
  have h1 := Int16.le_toInt x.toInt16
  have h2 := Int16.toInt_lt x.toInt16
  omega
theorem fb_byte_twice (x : Int32) : x.toInt8.toInt32.toInt8.toInt32 = x.toInt8.toInt32 := fb_byte (fb_byte_rng x).1 (fb_byte_rng x).2
theorem fb_short_twice (x : Int32) : x.toInt16.toInt32.toInt16.toInt32 = x.toInt16.toInt32 := fb_short (fb_short_rng x).1 (fb_short_rng x).2
theorem fb_char {n : Nat} (h : n < 65536) : (nI n).toUInt32.toUInt16.toUInt32.toInt32 = nI n := by
  apply Int32.toBitVec_inj.1
  apply BitVec.eq_of_toNat_eq
  have e1 : (nI n).toBitVec.toNat = n := by
    show (BitVec.ofNat 32 n).toNat = n
    rw [BitVec.toNat_ofNat, Nat.mod_eq_of_lt (by omega)]
  have e2 : ((nI n).toUInt32.toUInt16.toUInt32).toNat = n := by
    rw [UInt16.toNat_toUInt32, UInt32.toNat_toUInt16]
    show (nI n).toBitVec.toNat % 2 ^ 16 = n
    rw [e1, Nat.mod_eq_of_lt (by omega)]
  rw [e1]
  exact e2
/-! rows on bits, shifts and unsigned numbers, to paste: each family out of a closed proof of our own, whole with what it rests on; each by itself clean at Lean in its own claim (generation 39, form 5). Take a family whole -/
/-! ===== Int32 by its bits: bt x i ===== -/
def bt (x : Int32) (i : Nat) : Bool := x.toBitVec.getLsbD i
theorem b_ext {x y : Int32} (h : ∀ i, i < 32 → bt x i = bt y i) : x = y := Int32.toBitVec_inj.mp (BitVec.eq_of_getLsbD_eq (fun i hi => h i hi))
theorem b_or (x y : Int32) (i : Nat) : bt (x ||| y) i = (bt x i || bt y i) := by unfold bt; rw [Int32.toBitVec_or, BitVec.getLsbD_or]
theorem b_and (x y : Int32) (i : Nat) : bt (x &&& y) i = (bt x i && bt y i) := by unfold bt; rw [Int32.toBitVec_and, BitVec.getLsbD_and]
theorem b_xor (x y : Int32) (i : Nat) : bt (x ^^^ y) i = (bt x i ^^ bt y i) := by unfold bt; rw [Int32.toBitVec_xor, BitVec.getLsbD_xor]
theorem b_big {x : Int32} {i : Nat} (h : 32 ≤ i) : bt x i = false := BitVec.getLsbD_of_ge _ _ h
theorem b_255 (i : Nat) : bt 255 i = decide (i < 8) := by
  rcases Nat.lt_or_ge i 32 with h | h
  · exact (by decide +kernel : ∀ i, i < 32 → bt 255 i = decide (i < 8)) i h
  · rw [b_big h, decide_eq_false (by omega)]
theorem b_65535 (i : Nat) : bt 65535 i = decide (i < 16) := by
  rcases Nat.lt_or_ge i 32 with h | h
  · exact (by decide +kernel : ∀ i, i < 32 → bt 65535 i = decide (i < 16)) i h
  · rw [b_big h, decide_eq_false (by omega)]
theorem b_m1 : ∀ i, i < 32 → bt (-1) i = true := by decide +kernel
theorem b_0 (i : Nat) : bt 0 i = false := BitVec.getLsbD_zero
theorem s_l : ∀ n, n < 32 → ((nI n &&& 31).toBitVec.smod 32).toNat = n := by decide +kernel
theorem s_u : ∀ n, n < 32 → (((nI n).toUInt32 &&& Int32.toUInt32 31).toBitVec % 32).toNat = n := by decide +kernel
theorem b_shl (n : Nat) (hn : n < 32) (x : Int32) {i : Nat} (hi : i < 32) : bt (x <<< (nI n &&& 31)) i = (decide (n ≤ i) && bt x (i - n)) := by
  unfold bt
  rw [Int32.toBitVec_shiftLeft]
  show (x.toBitVec <<< ((nI n &&& 31).toBitVec.smod 32).toNat).getLsbD i = _
  rw [s_l n hn, BitVec.getLsbD_shiftLeft]
  rcases Nat.lt_or_ge i n with h | h
  · simp [h, Nat.not_le.mpr h]
  · simp [hi, h, Nat.not_lt.mpr h]
theorem b_ushr (n : Nat) (hn : n < 32) (x : Int32) (i : Nat) : bt ((x.toUInt32 >>> ((nI n).toUInt32 &&& Int32.toUInt32 31)).toInt32) i = bt x (n + i) := by
  show (x.toUInt32 >>> ((nI n).toUInt32 &&& Int32.toUInt32 31)).toBitVec.getLsbD i = x.toUInt32.toBitVec.getLsbD (n + i)
  rw [UInt32.toBitVec_shiftRight]
  show (x.toUInt32.toBitVec >>> (((nI n).toUInt32 &&& Int32.toUInt32 31).toBitVec % 32).toNat).getLsbD i = _
  rw [s_u n hn, BitVec.getLsbD_ushiftRight]
theorem b_sshr (n : Nat) (hn : n < 32) (x : Int32) {i : Nat} (hi : i < 32) : bt (x >>> (nI n &&& 31)) i = if n + i < 32 then bt x (n + i) else bt x 31 := by
  unfold bt
  rw [Int32.toBitVec_shiftRight]
  show (x.toBitVec.sshiftRight ((nI n &&& 31).toBitVec.smod 32).toNat).getLsbD i = _
  rw [s_l n hn, BitVec.getLsbD_sshiftRight, BitVec.msb_eq_getLsbD_last]
  simp [hi]
theorem b_shl8 (x : Int32) {i : Nat} (hi : i < 32) : bt (x <<< ((8 : Int32) &&& 31)) i = (decide (8 ≤ i) && bt x (i - 8)) := b_shl 8 (by omega) x hi
theorem b_shl16 (x : Int32) {i : Nat} (hi : i < 32) : bt (x <<< ((16 : Int32) &&& 31)) i = (decide (16 ≤ i) && bt x (i - 16)) := b_shl 16 (by omega) x hi
theorem b_shl24 (x : Int32) {i : Nat} (hi : i < 32) : bt (x <<< ((24 : Int32) &&& 31)) i = (decide (24 ≤ i) && bt x (i - 24)) := b_shl 24 (by omega) x hi
theorem b_sshr8 (x : Int32) {i : Nat} (hi : i < 32) : bt (x >>> ((8 : Int32) &&& 31)) i = if 8 + i < 32 then bt x (8 + i) else bt x 31 := b_sshr 8 (by omega) x hi
end
section
/-! short forms of the rules, for proofs -/
section SHORT
variable {sy d mi j pc nx a b : Nat} {v : Int32} {Q : Option Value → mx_M → Prop} {ls st : List Value} {c : mx_M} {Ps : List Prop} {j' : Nat} {ls' st' : List Value} {c' : mx_M}
theorem mR (n : Nat) (h : mx_it sy mi n j ls st c = some (Ps, j', ls', st', c')) (hP : mx_all Ps) (k : mx_E sy d mi Q j' ls' st' c') (hd : 1 ≤ d := by decide) : mx_E sy d mi Q j ls st c := mx_E_run n h hd hP k
theorem mA1 {p : Prop} (h : p) : mx_all [p] := ⟨h, trivial⟩
theorem mA2 {p q : Prop} (h : p) (h2 : q) : mx_all [p, q] := ⟨h, h2, trivial⟩
theorem mA3 {p q r : Prop} (h : p) (h2 : q) (h3 : r) : mx_all [p, q, r] := ⟨h, h2, h3, trivial⟩
theorem mA4 {p q r s : Prop} (h : p) (h2 : q) (h3 : r) (h4 : s) : mx_all [p, q, r, s] := ⟨h, h2, h3, h4, trivial⟩
theorem mA5 {p q r s t : Prop} (h : p) (h2 : q) (h3 : r) (h4 : s) (h5 : t) : mx_all [p, q, r, s, t] := ⟨h, h2, h3, h4, h5, trivial⟩
theorem mA6 {p q r s t u : Prop} (h : p) (h2 : q) (h3 : r) (h4 : s) (h5 : t) (h6 : u) : mx_all [p, q, r, s, t, u] := ⟨h, h2, h3, h4, h5, h6, trivial⟩
theorem mI {n N : Nat} (h : n < N) (hN : N < 2147483648 := by decide) : vp_in (nI n) N := vp_in_nI h hN
/-- an answer that is true or false -/
def mz (t : Bool) : Int32 := if t then 1 else 0
theorem mz_0 (t : Bool) : mz t = 0 ↔ t = false := by cases t <;> decide
theorem mz_01 (t : Bool) : mz t = 0 ∨ mz t = 1 := by cases t <;> decide
theorem mz_nar (t : Bool) : vp_nar .boolean (mz t) = mz t := by cases t <;> decide
theorem mx_up_same (c : mx_M) (i k : Nat) (x : Int32) : mx_up c i k x i k = x := by simp [mx_up]
theorem mx_up_id (c : mx_M) (i k : Nat) (x : Int32) (i' k' : Nat) (h : i' ≠ i) : mx_up c i k x i' k' = c i' k' := by simp [mx_up, h]
theorem mx_up_ix (c : mx_M) (i k : Nat) (x : Int32) (i' k' : Nat) (h : k' ≠ k) : mx_up c i k x i' k' = c i' k' := by simp [mx_up, h]
theorem mx_up_row (c : mx_M) (i k : Nat) (x : Int32) : mx_up c i k x i = upd (c i) k x := by
  funext k'
  by_cases h : k' = k <;> simp [mx_up, upd, h]
theorem mx_up_rid (c : mx_M) (i k : Nat) (x : Int32) (i' : Nat) (h : i' ≠ i) : mx_up c i k x i' = c i' := by
  funext k'
  simp [mx_up, h]
theorem mx_upR_row (c : mx_M) (i : Nat) (g : Nat → Int32) : mx_upR c i g i = g := by simp [mx_upR]
theorem mx_upR_rid (c : mx_M) (i : Nat) (g : Nat → Int32) (i' : Nat) (h : i' ≠ i) : mx_upR c i g i' = c i' := by simp [mx_upR, h]
theorem mx_upR_self (c : mx_M) (i : Nat) : mx_upR c i (c i) = c := by
  funext i'
  by_cases h : i' = i <;> simp [mx_upR, h]
theorem mx_upR_two (c : mx_M) (i : Nat) (g h : Nat → Int32) : mx_upR (mx_upR c i g) i h = mx_upR c i h := by
  funext i'
  by_cases e : i' = i <;> simp [mx_upR, e]
theorem mx_upR_swap (c : mx_M) {i i' : Nat} (g h : Nat → Int32) (ne : i ≠ i') : mx_upR (mx_upR c i g) i' h = mx_upR (mx_upR c i' h) i g := by
  funext k
  by_cases e : k = i
  · subst e
    simp [mx_upR, ne]
  · by_cases e2 : k = i'
    · subst e2
      simp [mx_upR, e]
    · simp [mx_upR, e, e2]
theorem upd_same (f : Nat → Int32) (k : Nat) (x : Int32) : upd f k x k = x := by simp [upd]
theorem upd_ne (f : Nat → Int32) (k : Nat) (x : Int32) (k' : Nat) (h : k' ≠ k) : upd f k x k' = f k' := by simp [upd, h]
-- branches over true and false
theorem mbT {t : Bool} {off : Int} {r : List Value} (hr : mx_ft mi j = some (pc, .ifCond .eq off, nx, a, b, v)) (kt : t = false → mx_E sy d mi Q a ls r c) (kf : t = true → mx_E sy d mi Q nx ls r c) : mx_E sy d mi Q j ls (.int (mz t) :: r) c :=
  mx_E_br hr rfl (fun h => kt ((mz_0 t).mp h)) (fun h => kf (by cases t; exact absurd rfl h; rfl))
theorem mbF {t : Bool} {off : Int} {r : List Value} (hr : mx_ft mi j = some (pc, .ifCond .ne off, nx, a, b, v)) (kt : t = true → mx_E sy d mi Q a ls r c) (kf : t = false → mx_E sy d mi Q nx ls r c) : mx_E sy d mi Q j ls (.int (mz t) :: r) c :=
  mx_E_br hr rfl (fun h => kt (by cases t; exact absurd rfl h; rfl)) (fun h => kf (by cases t; rfl; exact absurd (by decide) h))
theorem mbEq {off : Int} {r : List Value} (p q : Nat) (hr : mx_ft mi j = some (pc, .if_icmp .eq off, nx, a, b, v)) (hp : p < 2147483648) (hq : q < 2147483648) (kt : p = q → mx_E sy d mi Q a ls r c) (kf : p ≠ q → mx_E sy d mi Q nx ls r c) : mx_E sy d mi Q j ls (.int (nI q) :: .int (nI p) :: r) c :=
  mx_E_br hr rfl (fun h => kt ((nI_eq hp hq).mp h)) (fun h => kf (fun z => h (by rw [z])))
theorem mbNe {off : Int} {r : List Value} (p q : Nat) (hr : mx_ft mi j = some (pc, .if_icmp .ne off, nx, a, b, v)) (hp : p < 2147483648) (hq : q < 2147483648) (kt : p ≠ q → mx_E sy d mi Q a ls r c) (kf : p = q → mx_E sy d mi Q nx ls r c) : mx_E sy d mi Q j ls (.int (nI q) :: .int (nI p) :: r) c :=
  mx_E_br hr rfl (fun h => kt (fun z => h (by rw [z]))) (fun h => kf (Decidable.not_not.mp (fun z => h (fun w => z ((nI_eq hp hq).mp w)))))
theorem mbLt {off : Int} {r : List Value} (p q : Nat) (hr : mx_ft mi j = some (pc, .if_icmp .lt off, nx, a, b, v)) (hp : p < 2147483648) (hq : q < 2147483648) (kt : p < q → mx_E sy d mi Q a ls r c) (kf : q ≤ p → mx_E sy d mi Q nx ls r c) : mx_E sy d mi Q j ls (.int (nI q) :: .int (nI p) :: r) c :=
  mx_E_br hr rfl (fun h => kt ((nI_ltI hp hq).mp h)) (fun h => kf (Nat.not_lt.mp (fun z => h ((nI_ltI hp hq).mpr z))))
theorem mbGe {off : Int} {r : List Value} (p q : Nat) (hr : mx_ft mi j = some (pc, .if_icmp .ge off, nx, a, b, v)) (hp : p < 2147483648) (hq : q < 2147483648) (kt : q ≤ p → mx_E sy d mi Q a ls r c) (kf : p < q → mx_E sy d mi Q nx ls r c) : mx_E sy d mi Q j ls (.int (nI q) :: .int (nI p) :: r) c :=
  mx_E_br hr rfl (fun h => kt ((nI_leI hq hp).mp h)) (fun h => kf (Nat.not_le.mp (fun z => h ((nI_leI hq hp).mpr z))))
theorem mbGt {off : Int} {r : List Value} (p q : Nat) (hr : mx_ft mi j = some (pc, .if_icmp .gt off, nx, a, b, v)) (hp : p < 2147483648) (hq : q < 2147483648) (kt : q < p → mx_E sy d mi Q a ls r c) (kf : p ≤ q → mx_E sy d mi Q nx ls r c) : mx_E sy d mi Q j ls (.int (nI q) :: .int (nI p) :: r) c :=
  mx_E_br hr rfl (fun h => kt ((nI_ltI hq hp).mp h)) (fun h => kf (Nat.not_lt.mp (fun z => h ((nI_ltI hq hp).mpr z))))
theorem mbLe {off : Int} {r : List Value} (p q : Nat) (hr : mx_ft mi j = some (pc, .if_icmp .le off, nx, a, b, v)) (hp : p < 2147483648) (hq : q < 2147483648) (kt : p ≤ q → mx_E sy d mi Q a ls r c) (kf : q < p → mx_E sy d mi Q nx ls r c) : mx_E sy d mi Q j ls (.int (nI q) :: .int (nI p) :: r) c :=
  mx_E_br hr rfl (fun h => kt ((nI_leI hp hq).mp h)) (fun h => kf (Nat.not_le.mp (fun z => h ((nI_leI hp hq).mpr z))))
theorem mE {Q' : Option Value → mx_M → Prop} (h : mx_E sy d mi Q j ls st c) (hq : ∀ r c, Q r c → Q' r c) : mx_E sy d mi Q' j ls st c := mx_E_mono h hq
/-- the same, said otherwise: locals, stack, cells -/
theorem mS (h : mx_E sy d mi Q j ls' st' c') (e1 : ls = ls') (e2 : st = st') (e3 : c = c') : mx_E sy d mi Q j ls st c := by rw [e1, e2, e3]; exact h
end SHORT
/-- less may be said of the locals -/
def mwk : List Value → List Value → Prop
  | [], [] => True
  | v :: a, w :: b => (v = .null ∨ w = v) ∧ mwk a b
  | _, _ => False
theorem mwk_len : ∀ {a b : List Value}, mwk a b → a.length = b.length
  | [], [], _ => rfl
  | v :: a, w :: b, h => by
    have := mwk_len h.2
    simp [this]
  | [], w :: b, h => h.elim
  | v :: a, [], h => h.elim
theorem mwk_at : ∀ {a b : List Value}, mwk a b → ∀ (k : Nat) (v : Value), a[k]? = some v → v ≠ .null → b[k]? = some v
  | [], [], _, k, v, h, _ => by simp at h
  | x :: a, w :: b, hw, 0, v, h, hn => by
    simp at h
    subst h
    rcases hw.1 with e | e
    · exact absurd e hn
    · simp [e]
  | x :: a, w :: b, hw, k + 1, v, h, hn => by
    simp only [List.getElem?_cons_succ] at h ⊢
    exact mwk_at hw.2 k v h hn
  | [], w :: b, h, _, _, _, _ => h.elim
  | v :: a, [], h, _, _, _, _ => h.elim
theorem mW {sy d mi j : Nat} {Q : Option Value → mx_M → Prop} {ls ls' st st' : List Value} {c c' : mx_M} (h : mx_E sy d mi Q j ls' st' c') (e1 : mwk ls' ls) (e2 : st = st') (e3 : c = c') : mx_E sy d mi Q j ls st c := by
  subst e2; subst e3
  intro l D cy ad p e s m args below meth cd H locs lsA C hP hS hL
  refine h l D cy ad p e s m args below meth cd H locs lsA C hP hS ⟨hL.1, hL.2.1, (mwk_len e1).trans hL.2.2.1, fun k v hk hv => hL.2.2.2 k v (mwk_at e1 k v hk hv) hv⟩
theorem nI_s1 (a : Nat) : nI a + 1 = nI (a + 1) := nI_1 a
theorem nI_31 {y : Nat} (h : y < 32) : nI y &&& 31 = nI y := (by decide +kernel : ∀ y, y < 32 → nI y &&& 31 = nI y) y h
theorem nI_shl1 {y : Nat} (h : y < 31) : (1 : Int32) <<< (nI y &&& 31) = nI (2 ^ y) := (by decide +kernel : ∀ y, y < 31 → (1 : Int32) <<< (nI y &&& 31) = nI (2 ^ y)) y h
/-- a bit asked for: shifted down, the lowest -/
theorem nI_bit {x y : Nat} (hx : x < 2147483648) (hy : y < 31) : (nI x >>> (nI y &&& 31)) &&& 1 = nI ((x >>> y) % 2) := by
  rw [nI_31 (by omega), pk_shrN hx (nI y) y ((by decide +kernel : ∀ y, y < 31 → ((nI y).toBitVec.smod 32).toNat = y) y hy), show (1 : Int32) = nI (2 ^ 1 - 1) from rfl, fa_mask, Nat.shiftRight_eq_div_pow]
theorem nI_tb {x y : Nat} (hx : x < 2147483648) (hy : y < 31) : ((nI x >>> (nI y &&& 31)) &&& 1 = 1) ↔ x.testBit y = true := by
  rw [nI_bit hx hy, show (1 : Int32) = nI 1 from rfl, nI_eq (by omega) (by omega), Nat.testBit, Nat.one_and_eq_mod_two]
  simp
end
section
theorem sp_Mo_in (c : mx_M) (x y z : Int32) : mx_Spec 1 1 m_Mo_in [.int x, .int y, .int z] c (fun r c' => r = some (.int (mz (decide (y ≤ x ∧ x ≤ z)))) ∧ c' = c) := by
  refine mx_Spec_E rfl rfl rfl ?_
  refine mR 2 rfl trivial ?_
  refine mx_E_br rfl rfl (fun h => ?_) (fun h => ?_)
  · refine mR 1 rfl trivial ?_
    refine mx_E_zret rfl rfl (Or.inl rfl) ⟨?_, rfl⟩
    rw [decide_eq_false (fun q => absurd q.1 (fa_of_lt h).2.1)]
    rfl
  · refine mR 2 rfl trivial ?_
    refine mx_E_br rfl rfl (fun h2 => ?_) (fun h2 => ?_)
    · refine mR 1 rfl trivial ?_
      refine mx_E_zret rfl rfl (Or.inl rfl) ⟨?_, rfl⟩
      rw [decide_eq_false (fun q => absurd q.2 (fa_of_lt h2).2.1)]
      rfl
    · refine mR 2 rfl trivial ?_
      refine mx_E_zret rfl rfl (Or.inr rfl) ⟨?_, rfl⟩
      rw [decide_eq_true ⟨fa_of_nlt h, fa_of_nlt h2⟩]
      rfl
theorem sp_Mo_has (c : mx_M) (x y : Nat) (hx : x < 2147483648) (hy : y < 31) : mx_Spec 1 1 m_Mo_has [.int (nI x), .int (nI y)] c (fun r c' => r = some (.int (mz (x.testBit y))) ∧ c' = c) := by
  refine mx_Spec_E rfl rfl rfl ?_
  refine mR 6 rfl trivial ?_
  refine mx_E_br rfl rfl (fun h => ?_) (fun h => ?_)
  · refine mR 1 rfl trivial ?_
    refine mx_E_zret rfl rfl (Or.inl rfl) ⟨?_, rfl⟩
    rw [nI_tb hx hy] at h
    rw [show x.testBit y = false by simpa using h]
    rfl
  · refine mR 2 rfl trivial ?_
    refine mx_E_zret rfl rfl (Or.inr rfl) ⟨?_, rfl⟩
    rw [nI_tb hx hy] at h
    rw [show x.testBit y = true by simpa using h]
    rfl
end
section
/-! pure: bits counted, orders by their number -/
def mpop (s : Nat) : Nat := fb_ct (fun i => s.testBit i) 9
theorem mpop_step : ∀ l, l < 512 → l ≠ 0 → mpop (l &&& (l - 1)) + 1 = mpop l ∧ l &&& (l - 1) < l := by decide +kernel
theorem mpop_le (s : Nat) : mpop s ≤ 9 := fb_ct_le _ 9
theorem mpop_0 : mpop 0 = 0 := by decide
def mfact : Nat → Nat
  | 0 => 1
  | n + 1 => (n + 1) * mfact n
theorem mfact_le : ∀ n, n < 7 → 1 ≤ mfact n ∧ mfact n ≤ 720 := by decide
/-- the s-th that is not of the set, from i on -/
def mpick : Nat → Nat → Nat → Nat → Nat
  | 0, _, i, _ => i
  | f + 1, met, i, s => if met.testBit i then mpick f met (i + 1) s else if s = 0 then i else mpick f met (i + 1) (s - 1)
/-- of the k-th order of n: what is left, and which are used, ahead of place p -/
def mst (n k : Nat) : Nat → Nat × Nat
  | 0 => (k, 0)
  | p + 1 => let s := mst n k p
    let u := mfact (n - 1 - p)
    (s.1 % u, s.2 ||| 2 ^ mpick 8 s.2 0 (s.1 / u))
/-- the k-th order of n at place p -/
def mo (n k p : Nat) : Nat := mpick 8 (mst n k p).2 0 ((mst n k p).1 / mfact (n - 1 - p))
/-- which n there are -/
abbrev mn (n : Nat) : Prop := 2 ≤ n ∧ n ≤ 6
theorem mn_cases {n : Nat} (h : mn n) : n = 2 ∨ n = 3 ∨ n = 4 ∨ n = 5 ∨ n = 6 := by obtain ⟨h1, h2⟩ := h; omega
/-- what holds of orders: all is found out by trying -/
def mo_ck (n k : Nat) : Bool := (List.range n).all (fun p => decide (mo n k p < n) && decide ((mst n k p).1 < mfact (n - p)) && decide ((mst n k p).2 < 64) && !((mst n k p).2.testBit (mo n k p)) && (List.range n).all (fun q => decide (p = q) || decide (mo n k p ≠ mo n k q)))
theorem mo_ck2 : (List.range (mfact 2)).all (mo_ck 2) = true := by decide +kernel
theorem mo_ck3 : (List.range (mfact 3)).all (mo_ck 3) = true := by decide +kernel
theorem mo_ck4 : (List.range (mfact 4)).all (mo_ck 4) = true := by decide +kernel
theorem mo_ck5 : (List.range (mfact 5)).all (mo_ck 5) = true := by decide +kernel
theorem mo_ck6 : (List.range (mfact 6)).all (mo_ck 6) = true := by decide +kernel
theorem mo_ok {n k : Nat} (hn : mn n) (hk : k < mfact n) : mo_ck n k = true := by
  rcases mn_cases hn with rfl | rfl | rfl | rfl | rfl
  · exact List.all_eq_true.mp mo_ck2 k (List.mem_range.mpr hk)
  · exact List.all_eq_true.mp mo_ck3 k (List.mem_range.mpr hk)
  · exact List.all_eq_true.mp mo_ck4 k (List.mem_range.mpr hk)
  · exact List.all_eq_true.mp mo_ck5 k (List.mem_range.mpr hk)
  · exact List.all_eq_true.mp mo_ck6 k (List.mem_range.mpr hk)
theorem mo_all {n k p : Nat} (hn : mn n) (hk : k < mfact n) (hp : p < n) : mo n k p < n ∧ (mst n k p).1 < mfact (n - p) ∧ (mst n k p).2 < 64 ∧ (mst n k p).2.testBit (mo n k p) = false ∧ ∀ q, q < n → p ≠ q → mo n k p ≠ mo n k q := by
  have h := List.all_eq_true.mp (mo_ok hn hk) p (List.mem_range.mpr hp)
  simp only [Bool.and_eq_true, decide_eq_true_eq, Bool.not_eq_true'] at h
  obtain ⟨⟨⟨⟨h1, h2⟩, h3⟩, h4⟩, h5⟩ := h
  refine ⟨h1, h2, h3, h4, fun q hq hpq => ?_⟩
  have h6 := List.all_eq_true.mp h5 q (List.mem_range.mpr hq)
  simp only [Bool.or_eq_true, decide_eq_true_eq] at h6
  exact h6.resolve_left hpq
theorem mo_lt {n k p : Nat} (hn : mn n) (hk : k < mfact n) (hp : p < n) : mo n k p < n := (mo_all hn hk hp).1
theorem mo_inj {n k p q : Nat} (hn : mn n) (hk : k < mfact n) (hp : p < n) (hq : q < n) (h : mo n k p = mo n k q) : p = q := by
  rcases Nat.decEq p q with e | e
  · exact absurd h ((mo_all hn hk hp).2.2.2.2 q hq e)
  · exact e
theorem mo_onto {n k x : Nat} (hn : mn n) (hk : k < mfact n) (hx : x < n) : ∃ p, p < n ∧ mo n k p = x := fb_onto (fun _ h => mo_lt hn hk h) (fun _ _ h1 h2 e => Nat.ne_of_lt h1 (mo_inj hn hk (by omega) h2 e)) hx
end
section
theorem lp_Mo_ones {Q : Option Value → mx_M → Prop} {c : mx_M} {x : Int32} : ∀ (k l cnt : Nat), l ≤ k → l < 512 → cnt + mpop l ≤ 9 → Q (some (.int (nI (cnt + mpop l)))) c → mx_E 1 1 m_Mo_ones Q 4 [.int x, .int (nI cnt), .int (nI l)] [] c
  | 0, l, cnt, h, _, _, hq => by
    have e : l = 0 := by omega
    subst e
    refine mR 1 rfl trivial ?_
    refine mx_E_br rfl rfl (fun h => ?_) (fun h => absurd rfl h)
    refine mR 1 rfl trivial ?_
    rw [mpop_0] at hq
    exact mx_E_iret rfl rfl hq
  | k + 1, l, cnt, h, hl, hc, hq => by
    refine mR 1 rfl trivial ?_
    by_cases e : l = 0
    · subst e
      refine mx_E_br rfl rfl (fun h => ?_) (fun h => absurd rfl h)
      refine mR 1 rfl trivial ?_
      rw [mpop_0] at hq
      exact mx_E_iret rfl rfl hq
    · refine mx_E_br rfl rfl (fun h => absurd h (nI_ne0 (by omega) (by omega))) (fun h => ?_)
      obtain ⟨h1, h2⟩ := mpop_step l hl e
      refine mR 8 rfl trivial ?_
      refine mS (lp_Mo_ones (x := x) k (l &&& (l - 1)) (cnt + 1) (by omega) (by omega) (by omega) (by rw [show cnt + 1 + mpop (l &&& (l - 1)) = cnt + mpop l by omega]; exact hq)) ?_ rfl rfl
      rw [nI_1, show (1 : Int32) = nI 1 from rfl, pk_sub (by omega), fa_and]
theorem sp_Mo_ones (c : mx_M) (s : Nat) (hs : s < 512) : mx_Spec 1 1 m_Mo_ones [.int (nI s)] c (fun r c' => r = some (.int (nI (mpop s))) ∧ c' = c) := by
  refine mx_Spec_E rfl rfl rfl ?_
  refine mR 4 rfl trivial ?_
  have := mpop_le s
  exact lp_Mo_ones s s 0 (Nat.le_refl s) hs (by omega) ⟨by rw [Nat.zero_add], rfl⟩
theorem lp_Mo_orders {Q : Option Value → mx_M → Prop} {c : mx_M} {n : Nat} (hn : n < 7) (hq : Q (some (.int (nI (mfact n)))) c) : ∀ (t k : Nat), k + t = n → mx_E 1 1 m_Mo_orders Q 4 [.int (nI n), .int (nI (mfact k)), .int (nI (k + 1))] [] c
  | 0, k, h => by
    have e : k = n := by omega
    subst e
    refine mR 2 rfl trivial ?_
    refine mbGt (k + 1) k rfl (by omega) (by omega) (fun h => ?_) (fun h => by omega)
    refine mR 1 rfl trivial ?_
    exact mx_E_iret rfl rfl hq
  | t + 1, k, h => by
    refine mR 2 rfl trivial ?_
    refine mbGt (k + 1) n rfl (by omega) (by omega) (fun h => by omega) (fun h => ?_)
    refine mR 6 rfl trivial ?_
    refine mS (lp_Mo_orders hn hq t (k + 1) (by omega)) ?_ rfl rfl
    rw [pk_mul, nI_1, Nat.mul_comm]
    rfl
theorem sp_Mo_orders (c : mx_M) (n : Nat) (hn : n < 7) : mx_Spec 1 1 m_Mo_orders [.int (nI n)] c (fun r c' => r = some (.int (nI (mfact n))) ∧ c' = c) := by
  refine mx_Spec_E rfl rfl rfl ?_
  refine mR 4 rfl trivial ?_
  by_cases h0 : n = 0
  · subst h0
    refine mR 2 rfl trivial ?_
    refine mx_E_br rfl rfl (fun h => ?_) (fun h => absurd (by decide) h)
    refine mR 1 rfl trivial ?_
    exact mx_E_iret rfl rfl ⟨rfl, rfl⟩
  · exact lp_Mo_orders hn ⟨rfl, rfl⟩ (n - 1) 1 (by omega)
theorem lp_Mo_orderOf_in {Q : Option Value → mx_M → Prop} {c : mx_M} {k n left met p u : Nat} (hm : met < 64) (hk : ∀ (its : Nat) (z : Int32), its < 9 → its = mpick 8 met 0 (left / u) → mx_E 1 2 m_Mo_orderOf Q 44 [.ref 0, .int (nI k), .int (nI n), .int (nI (left % u)), .int (nI met), .int (nI p), .int (nI u), .int z, .int (nI its)] [] c) :
    ∀ (f i s : Nat), f + i = 8 → s ≤ 720 → (∃ j, j < 8 ∧ mpick f met i s = j ∧ met.testBit j = false) → mpick f met i s = mpick 8 met 0 (left / u) → mx_E 1 2 m_Mo_orderOf Q 26 [.ref 0, .int (nI k), .int (nI n), .int (nI (left % u)), .int (nI met), .int (nI p), .int (nI u), .int (nI s), .int (nI i)] [] c
  | 0, i, s, hf, hs, hj, he => by
    obtain ⟨j, h1, h2, -⟩ := hj
    have : i = j := h2
    omega
  | f + 1, i, s, hf, hs, hj, he => by
    refine mR 2 rfl trivial ?_
    refine mx_E_callS (sp_Mo_has _ met i (by omega) (by omega)) rfl rfl rfl (fun r c1 h => ?_)
    obtain ⟨rfl, rfl⟩ := h
    unfold mpick at hj he
    refine mbF rfl (fun ht => ?_) (fun ht => ?_)
    · rw [if_pos ht] at hj he
      refine mR 3 rfl trivial ?_
      refine mx_E_callS (sp_Mo_has _ met i (by omega) (by omega)) rfl rfl rfl (fun r c1 h => ?_)
      obtain ⟨rfl, rfl⟩ := h
      rw [ht]
      refine mbT rfl (fun h => by cases h) (fun _ => ?_)
      refine mR 6 rfl trivial ?_
      refine mS (lp_Mo_orderOf_in hm hk f (i + 1) s (by omega) hs hj he) ?_ rfl rfl
      rw [nI_1, show nI s - 0 = nI s by simp]
    · rw [if_neg (by rw [ht]; decide)] at hj he
      refine mR 1 rfl trivial ?_
      by_cases hz : s = 0
      · subst hz
        rw [if_pos rfl] at hj he
        refine mx_E_br rfl rfl (fun _ => ?_) (fun h => absurd (by decide) h)
        exact hk i (nI 0) (by omega) he
      · rw [if_neg hz] at hj he
        refine mx_E_br rfl rfl (fun h => absurd h (nI_nle (by omega) (by omega))) (fun _ => ?_)
        refine mR 3 rfl trivial ?_
        refine mx_E_callS (sp_Mo_has _ met i (by omega) (by omega)) rfl rfl rfl (fun r c1 h => ?_)
        obtain ⟨rfl, rfl⟩ := h
        rw [ht]
        refine mbT rfl (fun _ => ?_) (fun h => by cases h)
        refine mR 5 rfl trivial ?_
        refine mS (lp_Mo_orderOf_in hm hk f (i + 1) (s - 1) (by omega) (by omega) hj he) ?_ rfl rfl
        rw [nI_1, show (1 : Int32) = nI 1 from rfl, pk_sub (by omega)]
theorem mst_div {n k p : Nat} (hn : mn n) (hk : k < mfact n) (hp : p < n) : (mst n k p).1 < mfact (n - p) ∧ mfact (n - p) ≤ 720 ∧ 1 ≤ mfact (n - 1 - p) ∧ mfact (n - 1 - p) ≤ 720 := by
  obtain ⟨h1, h2⟩ := hn
  exact ⟨(mo_all ⟨h1, h2⟩ hk hp).2.1, (mfact_le (n - p) (by omega)).2, mfact_le (n - 1 - p) (by omega)⟩
theorem lp_Mo_orderOf {Q : Option Value → mx_M → Prop} {c : mx_M} {n k : Nat} (hn : mn n) (hk : k < mfact n) (hq : Q none (mx_upR c 14 (fa_fill (fun p => nI (mo n k p)) (c 14) n))) :
    ∀ (t p : Nat), p + t = n → mx_E 1 2 m_Mo_orderOf Q 6 [.ref 0, .int (nI k), .int (nI n), .int (nI (mst n k p).1), .int (nI (mst n k p).2), .int (nI p), .null, .null, .null] [] (mx_upR c 14 (fa_fill (fun p => nI (mo n k p)) (c 14) p))
  | 0, p, h => by
    have e : p = n := by omega
    subst e
    have := hn.2
    refine mR 2 rfl trivial ?_
    refine mbGe p p rfl (by omega) (by omega) (fun _ => ?_) (fun h => by omega)
    exact mx_E_vret rfl rfl hq
  | t + 1, p, h => by
    have hp : p < n := by omega
    have h6 := hn.2
    obtain ⟨ho, -, hm, hb, -⟩ := mo_all hn hk hp
    obtain ⟨d1, d2, d3, d4⟩ := mst_div hn hk hp
    refine mR 2 rfl trivial ?_
    refine mbGe p n rfl (by omega) (by omega) (fun h => by omega) (fun _ => ?_)
    refine mR 5 rfl trivial ?_
    rw [show (1 : Int32) = nI 1 from rfl, pk_sub (by omega), pk_sub (by omega)]
    refine mx_E_callS (sp_Mo_orders _ (n - 1 - p) (by omega)) rfl rfl rfl (fun r c1 h => ?_)
    obtain ⟨rfl, rfl⟩ := h
    have hu0 : ¬ nI (mfact (n - 1 - p)) = 0 := nI_ne0 (by omega) (by omega)
    have hdv : (mst n k p).1 / mfact (n - 1 - p) ≤ 720 := Nat.le_trans (Nat.div_le_self _ _) (by omega)
    refine mR 11 rfl (mA2 hu0 hu0) ?_
    rw [pk_rem (by omega) (by omega) (by omega), pk_div (by omega) (by omega) (by omega)]
    refine lp_Mo_orderOf_in (left := (mst n k p).1) (u := mfact (n - 1 - p)) hm (fun its z hi he => ?_) 8 0 _ rfl hdv ⟨mo n k p, by omega, rfl, hb⟩ rfl
    refine mR 13 rfl (mA1 (mI (by omega))) ?_
    have he2 : its = mo n k p := he
    refine mW (lp_Mo_orderOf hn hk hq t (p + 1) (by omega)) ⟨Or.inr rfl, Or.inr rfl, Or.inr rfl, Or.inr rfl, Or.inr ?_, Or.inr ?_, Or.inl rfl, Or.inl rfl, Or.inl rfl, trivial⟩ rfl ?_
    · rw [nI_shl1 (by omega), fa_or, he]
      rfl
    · rw [nI_1]
    · rw [mx_up_R, mx_upR_row, mx_upR_two, nI_clamp (by omega), he2]
      rw [fa_fill_succ (fun p => nI (mo n k p))]
theorem sp_Mo_orderOf (c : mx_M) (n k : Nat) (hn : mn n) (hk : k < mfact n) : mx_Spec 1 2 m_Mo_orderOf [.ref 0, .int (nI k), .int (nI n)] c (fun r c' => r = none ∧ c' = mx_upR c 14 (fa_fill (fun p => nI (mo n k p)) (c 14) n)) := by
  refine mx_Spec_E rfl rfl rfl ?_
  refine mR 6 rfl trivial ?_
  refine mS (lp_Mo_orderOf hn hk ⟨rfl, rfl⟩ n 0 (by omega)) rfl rfl ?_
  rw [fa_fill_0, mx_upR_self]
end
section
/-! pure: rankings, votes, agendas -/
theorem ff_at {p : Nat → Bool} {n k : Nat} (hk : k < n) (h1 : p k = true) (h0 : ∀ j, j < k → p j = false) : fa_first p n = k := by
  have hle := fa_first_le p n
  rcases Nat.lt_trichotomy (fa_first p n) k with h | h | h
  · have := fa_first_yes p n (by omega)
    rw [h0 _ h] at this
    cases this
  · exact h
  · have := fa_first_no p n k h
    rw [h1] at this
    cases this
theorem ff_none {p : Nat → Bool} {n : Nat} (h0 : ∀ j, j < n → p j = false) : fa_first p n = n := by
  have hle := fa_first_le p n
  rcases Nat.lt_or_ge (fa_first p n) n with h | h
  · have := fa_first_yes p n h
    rw [h0 _ h] at this
    cases this
  · omega
/-- each of 0 .. n - 1 once -/
def mperm (n : Nat) (f : Nat → Nat) : Prop := (∀ p, p < n → f p < n) ∧ ∀ p q, p < n → q < n → f p = f q → p = q
theorem mperm_onto {n x : Nat} {f : Nat → Nat} (h : mperm n f) (hx : x < n) : ∃ p, p < n ∧ f p = x := fb_onto (fun _ hp => h.1 _ hp) (fun _ _ h1 h2 e => Nat.ne_of_lt h1 (h.2 _ _ (by omega) h2 e)) hx
theorem mperm_mo {n k : Nat} (hn : mn n) (hk : k < mfact n) : mperm n (mo n k) := ⟨fun _ hp => mo_lt hn hk hp, fun _ _ hp hq e => mo_inj hn hk hp hq e⟩
/-- the place of a motion in a ranking -/
def mpos (f : Nat → Nat) (n x : Nat) : Nat := fa_first (fun p => f p == x) n
theorem mpos_at {n p : Nat} {f : Nat → Nat} (h : mperm n f) (hp : p < n) : mpos f n (f p) = p := ff_at hp (beq_self_eq_true _) (fun j hj => by
  rw [beq_eq_false_iff_ne]
  exact fun e => Nat.ne_of_lt hj (h.2 _ _ (by omega) hp e))
theorem mpos_lt {n x : Nat} {f : Nat → Nat} (h : mperm n f) (hx : x < n) : mpos f n x < n ∧ f (mpos f n x) = x := by
  obtain ⟨p, hp, e⟩ := mperm_onto h hx
  rw [← e, mpos_at h hp]
  exact ⟨hp, rfl⟩
theorem mpos_inj {n x y : Nat} {f : Nat → Nat} (h : mperm n f) (hx : x < n) (hy : y < n) (e : mpos f n x = mpos f n y) : x = y := by
  rw [← (mpos_lt h hx).2, ← (mpos_lt h hy).2, e]
/-- how many of the members there (bits) rank x higher than y -/
def mvt (t m n : Nat) (R : Nat → Nat → Nat) (x y : Nat) : Nat := fb_ct (fun i => t.testBit i && decide (mpos (R i) n x < mpos (R i) n y)) m
def mbeat (t m n : Nat) (R : Nat → Nat → Nat) (x y : Nat) : Bool := decide (mvt t m n R y x < mvt t m n R x y ∨ (mvt t m n R x y = mvt t m n R y x ∧ x < y))
/-- whether a ranking likes the first of two sets better, or both as well -/
def mlk (f : Nat → Nat) (n s1 s2 : Nat) : Bool := if fa_first (fun p => s1.testBit (f p) != s2.testBit (f p)) n < n then s1.testBit (f (fa_first (fun p => s1.testBit (f p) != s2.testBit (f p)) n)) else true
/-- how many of those there vote for the first -/
def mvf (t m n : Nat) (R : Nat → Nat → Nat) (s1 s2 : Nat) : Nat := fb_ct (fun i => t.testBit i && mlk (R i) n s1 s2) m
/-- an agenda: what each node is (a motion; none: a vote), how many nodes are of it -/
def mtree (n : Nat) (kd : Nat → Option Nat) (sz : Nat → Nat) (nd : Nat) : Prop := 1 ≤ nd ∧ nd ≤ 63 ∧ sz 0 = nd ∧ ∀ k, k < nd → (∃ q, kd k = some q ∧ q < n ∧ sz k = 1) ∨ (kd k = none ∧ 1 ≤ sz (k + 1) ∧ 1 ≤ sz (k + 1 + sz (k + 1)) ∧ sz k = 1 + sz (k + 1) + sz (k + 1 + sz (k + 1)) ∧ k + sz k ≤ nd)
theorem mtree_leaf {n nd k q : Nat} {kd : Nat → Option Nat} {sz : Nat → Nat} (h : mtree n kd sz nd) (hk : k < nd) (e : kd k = some q) : q < n ∧ sz k = 1 := by
  rcases h.2.2.2 k hk with ⟨q', h1, h2, h3⟩ | ⟨h1, -⟩
  · rw [e] at h1
    cases h1
    exact ⟨h2, h3⟩
  · rw [e] at h1
    cases h1
theorem mtree_vote {n nd k : Nat} {kd : Nat → Option Nat} {sz : Nat → Nat} (h : mtree n kd sz nd) (hk : k < nd) (e : kd k = none) : 1 ≤ sz (k + 1) ∧ 1 ≤ sz (k + 1 + sz (k + 1)) ∧ sz k = 1 + sz (k + 1) + sz (k + 1 + sz (k + 1)) ∧ k + sz k ≤ nd ∧ k + 1 < nd ∧ k + 1 + sz (k + 1) < nd := by
  rcases h.2.2.2 k hk with ⟨q', h1, h2, h3⟩ | ⟨h1, h2, h3, h4, h5⟩
  · rw [e] at h1
    cases h1
  · exact ⟨h2, h3, h4, h5, by omega, by omega⟩
/-- what comes of a node by what comes of its branches -/
def mfold (lf : Nat → Nat) (nf : Nat → Nat → Nat → Nat) (kd : Nat → Option Nat) (sz : Nat → Nat) : Nat → Nat → Nat
  | 0, _ => 0
  | f + 1, k => match kd k with
    | some q => lf q
    | none => nf k (mfold lf nf kd sz f (k + 1)) (mfold lf nf kd sz f (k + 1 + sz (k + 1)))
def mF (lf : Nat → Nat) (nf : Nat → Nat → Nat → Nat) (kd : Nat → Option Nat) (sz : Nat → Nat) (nd k : Nat) : Nat := mfold lf nf kd sz (nd - k) k
theorem mfold_fuel {n nd : Nat} {kd : Nat → Option Nat} {sz : Nat → Nat} (lf : Nat → Nat) (nf : Nat → Nat → Nat → Nat) (h : mtree n kd sz nd) : ∀ (f g k : Nat), k < nd → nd - k ≤ f → nd - k ≤ g → mfold lf nf kd sz f k = mfold lf nf kd sz g k
  | 0, g, k, hk, hf, hg => by omega
  | f + 1, 0, k, hk, hf, hg => by omega
  | f + 1, g + 1, k, hk, hf, hg => by
    unfold mfold
    cases e : kd k with
    | some q => rfl
    | none =>
      obtain ⟨h1, h2, h3, h4, h5, h6⟩ := mtree_vote h hk e
      dsimp only
      rw [mfold_fuel lf nf h f g (k + 1) h5 (by omega) (by omega), mfold_fuel lf nf h f g (k + 1 + sz (k + 1)) h6 (by omega) (by omega)]
theorem mF_leaf {nd k q : Nat} {kd : Nat → Option Nat} {sz : Nat → Nat} (lf : Nat → Nat) (nf : Nat → Nat → Nat → Nat) (hk : k < nd) (e : kd k = some q) : mF lf nf kd sz nd k = lf q := by
  unfold mF
  obtain ⟨f, hf⟩ : ∃ f, nd - k = f + 1 := ⟨nd - k - 1, by omega⟩
  rw [hf]
  unfold mfold
  rw [e]
theorem mF_vote {n nd k : Nat} {kd : Nat → Option Nat} {sz : Nat → Nat} (lf : Nat → Nat) (nf : Nat → Nat → Nat → Nat) (h : mtree n kd sz nd) (hk : k < nd) (e : kd k = none) : mF lf nf kd sz nd k = nf k (mF lf nf kd sz nd (k + 1)) (mF lf nf kd sz nd (k + 1 + sz (k + 1))) := by
  obtain ⟨h1, h2, h3, h4, h5, h6⟩ := mtree_vote h hk e
  unfold mF
  obtain ⟨f, hf⟩ : ∃ f, nd - k = f + 1 := ⟨nd - k - 1, by omega⟩
  rw [hf]
  show (match kd k with
    | some q => lf q
    | none => nf k (mfold lf nf kd sz f (k + 1)) (mfold lf nf kd sz f (k + 1 + sz (k + 1)))) = _
  rw [e]
  dsimp only
  rw [mfold_fuel lf nf h f (nd - (k + 1)) (k + 1) h5 (by omega) (by omega), mfold_fuel lf nf h f (nd - (k + 1 + sz (k + 1))) (k + 1 + sz (k + 1)) h6 (by omega) (by omega)]
/-- all nodes by their branches, from the last to the first -/
theorem mF_ind {n nd : Nat} {kd : Nat → Option Nat} {sz : Nat → Nat} (P : Nat → Prop) (h : mtree n kd sz nd) (hl : ∀ k q, k < nd → kd k = some q → q < n → P k) (hv : ∀ k, k < nd → kd k = none → P (k + 1) → P (k + 1 + sz (k + 1)) → P k) : ∀ (f k : Nat), k < nd → nd - k ≤ f → P k
  | 0, k, hk, hf => by omega
  | f + 1, k, hk, hf => by
    cases e : kd k with
    | some q => exact hl k q hk e (mtree_leaf h hk e).1
    | none =>
      obtain ⟨h1, h2, h3, h4, h5, h6⟩ := mtree_vote h hk e
      exact hv k hk e (mF_ind P h hl hv f (k + 1) h5 (by omega)) (mF_ind P h hl hv f (k + 1 + sz (k + 1)) h6 (by omega))
/-- the motions of a node, as bits -/
def mset (kd : Nat → Option Nat) (sz : Nat → Nat) (nd k : Nat) : Nat := mF (fun q => 2 ^ q) (fun _ a b => a ||| b) kd sz nd k
theorem mset_lt {n nd k : Nat} {kd : Nat → Option Nat} {sz : Nat → Nat} (hn : n ≤ 6) (h : mtree n kd sz nd) (hk : k < nd) : mset kd sz nd k < 64 := by
  refine mF_ind (fun k => mset kd sz nd k < 64) h (fun k q hk e hq => ?_) (fun k hk e h1 h2 => ?_) (nd - k) k hk (Nat.le_refl _)
  · show mF _ _ kd sz nd k < 64
    rw [mF_leaf _ _ hk e]
    exact Nat.lt_of_lt_of_le (Nat.pow_lt_pow_right (by decide) (show q < 6 by omega)) (by decide)
  · show mF _ _ kd sz nd k < 64
    rw [mF_vote _ _ h hk e]
    exact Nat.or_lt_two_pow (n := 6) h1 h2
/-- what comes of a node sincere, foreseen -/
def msin (t m n : Nat) (R : Nat → Nat → Nat) (kd : Nat → Option Nat) (sz : Nat → Nat) (nd k : Nat) : Nat := mF (fun q => q) (fun k a b => if mpop t ≤ 2 * mvf t m n R (mset kd sz nd (k + 1)) (mset kd sz nd (k + 1 + sz (k + 1))) then a else b) kd sz nd k
def mfor (t m n : Nat) (R : Nat → Nat → Nat) (kd : Nat → Option Nat) (sz : Nat → Nat) (nd k : Nat) : Nat := mF (fun q => q) (fun _ x y => if x = y ∨ mbeat t m n R x y = true then x else y) kd sz nd k
def mout (w t m n : Nat) (R : Nat → Nat → Nat) (kd : Nat → Option Nat) (sz : Nat → Nat) (nd : Nat) : Nat := if w = 0 then msin t m n R kd sz nd 0 else mfor t m n R kd sz nd 0
theorem msin_lt {t m n nd k : Nat} {R : Nat → Nat → Nat} {kd : Nat → Option Nat} {sz : Nat → Nat} (h : mtree n kd sz nd) (hk : k < nd) : msin t m n R kd sz nd k < n := by
  refine mF_ind (fun k => msin t m n R kd sz nd k < n) h (fun k q hk e hq => ?_) (fun k hk e h1 h2 => ?_) (nd - k) k hk (Nat.le_refl _)
  · show mF _ _ kd sz nd k < n
    rw [mF_leaf _ _ hk e]
    exact hq
  · show mF _ _ kd sz nd k < n
    rw [mF_vote _ _ h hk e]
    split
    · exact h1
    · exact h2
theorem mfor_lt {t m n nd k : Nat} {R : Nat → Nat → Nat} {kd : Nat → Option Nat} {sz : Nat → Nat} (h : mtree n kd sz nd) (hk : k < nd) : mfor t m n R kd sz nd k < n := by
  refine mF_ind (fun k => mfor t m n R kd sz nd k < n) h (fun k q hk e hq => ?_) (fun k hk e h1 h2 => ?_) (nd - k) k hk (Nat.le_refl _)
  · show mF _ _ kd sz nd k < n
    rw [mF_leaf _ _ hk e]
    exact hq
  · show mF _ _ kd sz nd k < n
    rw [mF_vote _ _ h hk e]
    split
    · exact h1
    · exact h2
theorem mout_lt {w t m n nd : Nat} {R : Nat → Nat → Nat} {kd : Nat → Option Nat} {sz : Nat → Nat} (h : mtree n kd sz nd) : mout w t m n R kd sz nd < n := by
  unfold mout
  split
  · exact msin_lt h h.1
  · exact mfor_lt h h.1
end
section
/-! the reference: votes and agendas out of a row (3: as things are, 4: tried) -/
/-- nothing but these rows has changed -/
def mfr (S : List Nat) (c c' : mx_M) : Prop := ∀ r, r ∉ S → c' r = c r
theorem mfr_rf (S : List Nat) (c : mx_M) : mfr S c c := fun _ _ => rfl
theorem mfr_tr {S : List Nat} {c c1 c2 : mx_M} (h : mfr S c c1) (h2 : mfr S c1 c2) : mfr S c c2 := fun r hr => (h2 r hr).trans (h r hr)
theorem mfr_mo {S T : List Nat} {c c1 : mx_M} (h : mfr S c c1) (hs : ∀ r, r ∈ S → r ∈ T) : mfr T c c1 := fun r hr => h r (fun q => hr (hs r q))
theorem mfr_up {S : List Nat} {c c1 : mx_M} {i k : Nat} {x : Int32} (h : mfr S c c1) (hi : i ∈ S) : mfr S c (mx_up c1 i k x) := fun r hr => by
  have hne : r ≠ i := fun e => hr (by rw [e]; exact hi)
  rw [mx_up_rid _ _ _ _ _ hne]
  exact h r hr
def rRk (g : Nat → Int32) (n m : Nat) (R : Nat → Nat → Nat) : Prop := ∀ i p, i < m → p < n → g (6 * i + p) = nI (R i p)
def kI (q : Option Nat) : Int32 := match q with
  | none => -9
  | some q => nI q
theorem kI_ne {q : Nat} (h : q < 2147483648) : ¬ nI q = -9 := by
  intro e
  have h1 := nI_toInt h
  rw [e] at h1
  have h2 : ((-9 : Int32)).toInt = -9 := by decide
  omega
def rTb (g : Nat → Int32) (kd : Nat → Option Nat) (sz : Nat → Nat) (nd : Nat) : Prop := g 54 = nI nd ∧ ∀ k, k < nd → g (55 + k) = kI (kd k) ∧ (kd k = none → g (118 + k) = nI (k + 1) ∧ g (181 + k) = nI (k + 1 + sz (k + 1))) ∧ (kd k ≠ none → g (118 + k) = -9 ∧ g (181 + k) = -9)
/-- what the reference sees in row i, with those there: t -/
def rV (c : mx_M) (i t n m : Nat) (R : Nat → Nat → Nat) (kd : Nat → Option Nat) (sz : Nat → Nat) (nd : Nat) : Prop :=
  (c 0 8 = nI n ∧ c 0 9 = nI m ∧ c 0 23 = nI t) ∧ (mn n ∧ m ≤ 9 ∧ t < 512) ∧ (∀ j, j < m → mperm n (R j)) ∧ rRk (c i) n m R ∧ mtree n kd sz nd ∧ rTb (c i) kd sz nd
theorem rV_of {c c' : mx_M} {i t n m : Nat} {R : Nat → Nat → Nat} {kd : Nat → Option Nat} {sz : Nat → Nat} {nd : Nat} (h : rV c i t n m R kd sz nd) (h0 : c' 0 = c 0) (hi : c' i = c i) : rV c' i t n m R kd sz nd := by
  unfold rV at h ⊢
  rw [h0, hi]
  exact h
theorem ix6 (a b : Nat) : 6 * nI a + nI b = nI (6 * a + b) := by rw [show (6 : Int32) = nI 6 from rfl, pk_mul, nI_add]
theorem ixA (a : Nat) {k b : Nat} (h : k = a) : (OfNat.ofNat a : Int32) + nI b = nI (k + b) := by rw [h, fa_lit, nI_add]
theorem nI_cl {a : Nat} (h : a < 2147483648) : (nI a).toNatClampNeg = a := nI_clamp h
theorem nI_p1 (a : Nat) : nI (a + 1) - 1 = nI a := nI_pred a
theorem nI_m1 (a : Nat) : nI a + (-1) = nI a - 1 := by rw [Int32.sub_eq_add_neg]
theorem lp_Mo_placeOf3 {Q : Option Value → mx_M → Prop} {c : mx_M} {n m w x : Nat} {R : Nat → Nat → Nat} (hn : n ≤ 6) (hw : w < m) (hm : m ≤ 9) (hR : rRk (c 3) n m R) (hp : mperm n (R w)) (hx : x < n) (hq : Q (some (.int (nI (mpos (R w) n x)))) c) :
    ∀ (t p : Nat), p + t = mpos (R w) n x → mx_E 1 1 m_Mo_placeOf Q 2 [.ref 0, .ref 3, .int (nI w), .int (nI x), .int (nI p)] [] c
  | 0, p, h => by
    obtain ⟨hl, he⟩ := mpos_lt hp hx
    have e : p = mpos (R w) n x := by omega
    have ev : c 3 ((6 : Int32) * nI w + nI p).toNatClampNeg = nI x := by rw [ix6, nI_cl (by omega), hR w p hw (by omega), e, he]
    refine mR 8 rfl (mA1 (by rw [ix6]; exact mI (by omega))) ?_
    rw [ev]
    refine mbEq x x rfl (by omega) (by omega) (fun _ => ?_) (fun h => absurd rfl h)
    refine mR 1 rfl trivial ?_
    rw [e]
    exact mx_E_iret rfl rfl hq
  | t + 1, p, h => by
    obtain ⟨hl, he⟩ := mpos_lt hp hx
    have ev : c 3 ((6 : Int32) * nI w + nI p).toNatClampNeg = nI (R w p) := by rw [ix6, nI_cl (by omega), hR w p hw (by omega)]
    have hpn : p < n := by omega
    have hlt := hp.1 p hpn
    refine mR 8 rfl (mA1 (by rw [ix6]; exact mI (by omega))) ?_
    rw [ev]
    refine mbEq (R w p) x rfl (by omega) (by omega) (fun h2 => ?_) (fun _ => ?_)
    · rw [← h2, mpos_at hp hpn] at h
      omega
    · refine mR 2 rfl trivial ?_
      rw [nI_1]
      exact lp_Mo_placeOf3 hn hw hm hR hp hx hq t (p + 1) (by omega)
theorem sp_Mo_placeOf3 (c : mx_M) {n m w x : Nat} {R : Nat → Nat → Nat} (hn : n ≤ 6) (hw : w < m) (hm : m ≤ 9) (hR : rRk (c 3) n m R) (hp : mperm n (R w)) (hx : x < n) : mx_Spec 1 1 m_Mo_placeOf [.ref 0, .ref 3, .int (nI w), .int (nI x)] c (fun r c' => r = some (.int (nI (mpos (R w) n x))) ∧ c' = c) := by
  refine mx_Spec_E rfl rfl rfl ?_
  refine mR 2 rfl trivial ?_
  exact lp_Mo_placeOf3 hn hw hm hR hp hx ⟨rfl, rfl⟩ (mpos (R w) n x) 0 (by omega)
theorem lp_Mo_placeOf4 {Q : Option Value → mx_M → Prop} {c : mx_M} {n m w x : Nat} {R : Nat → Nat → Nat} (hn : n ≤ 6) (hw : w < m) (hm : m ≤ 9) (hR : rRk (c 4) n m R) (hp : mperm n (R w)) (hx : x < n) (hq : Q (some (.int (nI (mpos (R w) n x)))) c) :
    ∀ (t p : Nat), p + t = mpos (R w) n x → mx_E 1 1 m_Mo_placeOf Q 2 [.ref 0, .ref 4, .int (nI w), .int (nI x), .int (nI p)] [] c
  | 0, p, h => by
    obtain ⟨hl, he⟩ := mpos_lt hp hx
    have e : p = mpos (R w) n x := by omega
    have ev : c 4 ((6 : Int32) * nI w + nI p).toNatClampNeg = nI x := by rw [ix6, nI_cl (by omega), hR w p hw (by omega), e, he]
    refine mR 8 rfl (mA1 (by rw [ix6]; exact mI (by omega))) ?_
    rw [ev]
    refine mbEq x x rfl (by omega) (by omega) (fun _ => ?_) (fun h => absurd rfl h)
    refine mR 1 rfl trivial ?_
    rw [e]
    exact mx_E_iret rfl rfl hq
  | t + 1, p, h => by
    obtain ⟨hl, he⟩ := mpos_lt hp hx
    have ev : c 4 ((6 : Int32) * nI w + nI p).toNatClampNeg = nI (R w p) := by rw [ix6, nI_cl (by omega), hR w p hw (by omega)]
    have hpn : p < n := by omega
    have hlt := hp.1 p hpn
    refine mR 8 rfl (mA1 (by rw [ix6]; exact mI (by omega))) ?_
    rw [ev]
    refine mbEq (R w p) x rfl (by omega) (by omega) (fun h2 => ?_) (fun _ => ?_)
    · rw [← h2, mpos_at hp hpn] at h
      omega
    · refine mR 2 rfl trivial ?_
      rw [nI_1]
      exact lp_Mo_placeOf4 hn hw hm hR hp hx hq t (p + 1) (by omega)
theorem sp_Mo_placeOf4 (c : mx_M) {n m w x : Nat} {R : Nat → Nat → Nat} (hn : n ≤ 6) (hw : w < m) (hm : m ≤ 9) (hR : rRk (c 4) n m R) (hp : mperm n (R w)) (hx : x < n) : mx_Spec 1 1 m_Mo_placeOf [.ref 0, .ref 4, .int (nI w), .int (nI x)] c (fun r c' => r = some (.int (nI (mpos (R w) n x))) ∧ c' = c) := by
  refine mx_Spec_E rfl rfl rfl ?_
  refine mR 2 rfl trivial ?_
  exact lp_Mo_placeOf4 hn hw hm hR hp hx ⟨rfl, rfl⟩ (mpos (R w) n x) 0 (by omega)
theorem lp_Mo_votesOf3 {Q : Option Value → mx_M → Prop} {c : mx_M} {n m t x y nd : Nat} {R : Nat → Nat → Nat} {kd : Nat → Option Nat} {sz : Nat → Nat} (hV : rV c 3 t n m R kd sz nd) (hx : x < n) (hy : y < n) (hq : Q (some (.int (nI (mvt t m n R x y)))) c) :
    ∀ (u p : Nat), p + u = m → mx_E 1 2 m_Mo_votesOf Q 4 [.ref 0, .ref 3, .int (nI x), .int (nI y), .int (nI (mvt t p n R x y)), .int (nI p)] [] c
  | 0, p, h => by
    have e : p = m := by omega
    subst e
    obtain ⟨⟨h8, h9, h23⟩, ⟨hn, hm, ht⟩, hpm, hR, -⟩ := hV
    refine mR 3 rfl trivial ?_
    rw [h9]
    refine mbGe p p rfl (by omega) (by omega) (fun _ => ?_) (fun h => by omega)
    refine mR 1 rfl trivial ?_
    exact mx_E_iret rfl rfl hq
  | u + 1, p, h => by
    have hV0 := hV
    obtain ⟨⟨h8, h9, h23⟩, ⟨hn, hm, ht⟩, hpm, hR, -⟩ := hV0
    have hs : mvt t (p + 1) n R x y = mvt t p n R x y + (if (t.testBit p && decide (mpos (R p) n x < mpos (R p) n y)) then 1 else 0) := rfl
    refine mR 3 rfl trivial ?_
    rw [h9]
    refine mbGe p m rfl (by omega) (by omega) (fun h => by omega) (fun _ => ?_)
    refine mR 4 rfl trivial ?_
    rw [h23]
    refine mx_E_callS (sp_Mo_has _ t p (by omega) (by omega)) rfl rfl rfl (fun r c1 h => ?_)
    obtain ⟨rfl, h⟩ := h
    subst h
    refine mbT rfl (fun hb => ?_) (fun hb => ?_)
    · refine mR 5 rfl trivial ?_
      refine mS (lp_Mo_votesOf3 hV hx hy hq u (p + 1) (by omega)) ?_ rfl rfl
      rw [hs, hb, nI_1]
      simp
    · have hl1 := mpos_lt (hpm p (by omega)) hx
      have hl2 := mpos_lt (hpm p (by omega)) hy
      refine mR 4 rfl trivial ?_
      refine mx_E_callV (sp_Mo_placeOf3 _ hn.2 (show p < m by omega) hm hR (hpm p (by omega)) hx) rfl rfl rfl (fun r c1 h => ?_)
      obtain ⟨rfl, h⟩ := h
      subst h
      refine mR 4 rfl trivial ?_
      refine mx_E_callV (sp_Mo_placeOf3 _ hn.2 (show p < m by omega) hm hR (hpm p (by omega)) hy) rfl rfl rfl (fun r c1 h => ?_)
      obtain ⟨rfl, h⟩ := h
      subst h
      have h6 := hn.2
      refine mbGe _ _ rfl (by omega) (by omega) (fun hc => ?_) (fun hc => ?_)
      · refine mR 5 rfl trivial ?_
        refine mS (lp_Mo_votesOf3 hV hx hy hq u (p + 1) (by omega)) ?_ rfl rfl
        rw [hs, hb, decide_eq_false (by omega), nI_1]
        simp
      · refine mR 6 rfl trivial ?_
        refine mS (lp_Mo_votesOf3 hV hx hy hq u (p + 1) (by omega)) ?_ rfl rfl
        rw [hs, hb, decide_eq_true (by omega), nI_1, nI_1]
        simp
theorem sp_Mo_votesOf3 (c : mx_M) {n m t x y nd : Nat} {R : Nat → Nat → Nat} {kd : Nat → Option Nat} {sz : Nat → Nat} (hV : rV c 3 t n m R kd sz nd) (hx : x < n) (hy : y < n) : mx_Spec 1 2 m_Mo_votesOf [.ref 0, .ref 3, .int (nI x), .int (nI y)] c (fun r c' => r = some (.int (nI (mvt t m n R x y))) ∧ c' = c) := by
  refine mx_Spec_E rfl rfl rfl ?_
  refine mR 4 rfl trivial ?_
  exact lp_Mo_votesOf3 hV hx hy ⟨rfl, rfl⟩ m 0 (by omega)
theorem lp_Mo_votesOf4 {Q : Option Value → mx_M → Prop} {c : mx_M} {n m t x y nd : Nat} {R : Nat → Nat → Nat} {kd : Nat → Option Nat} {sz : Nat → Nat} (hV : rV c 4 t n m R kd sz nd) (hx : x < n) (hy : y < n) (hq : Q (some (.int (nI (mvt t m n R x y)))) c) :
    ∀ (u p : Nat), p + u = m → mx_E 1 2 m_Mo_votesOf Q 4 [.ref 0, .ref 4, .int (nI x), .int (nI y), .int (nI (mvt t p n R x y)), .int (nI p)] [] c
  | 0, p, h => by
    have e : p = m := by omega
    subst e
    obtain ⟨⟨h8, h9, h23⟩, ⟨hn, hm, ht⟩, hpm, hR, -⟩ := hV
    refine mR 3 rfl trivial ?_
    rw [h9]
    refine mbGe p p rfl (by omega) (by omega) (fun _ => ?_) (fun h => by omega)
    refine mR 1 rfl trivial ?_
    exact mx_E_iret rfl rfl hq
  | u + 1, p, h => by
    have hV0 := hV
    obtain ⟨⟨h8, h9, h23⟩, ⟨hn, hm, ht⟩, hpm, hR, -⟩ := hV0
    have hs : mvt t (p + 1) n R x y = mvt t p n R x y + (if (t.testBit p && decide (mpos (R p) n x < mpos (R p) n y)) then 1 else 0) := rfl
    refine mR 3 rfl trivial ?_
    rw [h9]
    refine mbGe p m rfl (by omega) (by omega) (fun h => by omega) (fun _ => ?_)
    refine mR 4 rfl trivial ?_
    rw [h23]
    refine mx_E_callS (sp_Mo_has _ t p (by omega) (by omega)) rfl rfl rfl (fun r c1 h => ?_)
    obtain ⟨rfl, h⟩ := h
    subst h
    refine mbT rfl (fun hb => ?_) (fun hb => ?_)
    · refine mR 5 rfl trivial ?_
      refine mS (lp_Mo_votesOf4 hV hx hy hq u (p + 1) (by omega)) ?_ rfl rfl
      rw [hs, hb, nI_1]
      simp
    · have hl1 := mpos_lt (hpm p (by omega)) hx
      have hl2 := mpos_lt (hpm p (by omega)) hy
      refine mR 4 rfl trivial ?_
      refine mx_E_callV (sp_Mo_placeOf4 _ hn.2 (show p < m by omega) hm hR (hpm p (by omega)) hx) rfl rfl rfl (fun r c1 h => ?_)
      obtain ⟨rfl, h⟩ := h
      subst h
      refine mR 4 rfl trivial ?_
      refine mx_E_callV (sp_Mo_placeOf4 _ hn.2 (show p < m by omega) hm hR (hpm p (by omega)) hy) rfl rfl rfl (fun r c1 h => ?_)
      obtain ⟨rfl, h⟩ := h
      subst h
      have h6 := hn.2
      refine mbGe _ _ rfl (by omega) (by omega) (fun hc => ?_) (fun hc => ?_)
      · refine mR 5 rfl trivial ?_
        refine mS (lp_Mo_votesOf4 hV hx hy hq u (p + 1) (by omega)) ?_ rfl rfl
        rw [hs, hb, decide_eq_false (by omega), nI_1]
        simp
      · refine mR 6 rfl trivial ?_
        refine mS (lp_Mo_votesOf4 hV hx hy hq u (p + 1) (by omega)) ?_ rfl rfl
        rw [hs, hb, decide_eq_true (by omega), nI_1, nI_1]
        simp
theorem sp_Mo_votesOf4 (c : mx_M) {n m t x y nd : Nat} {R : Nat → Nat → Nat} {kd : Nat → Option Nat} {sz : Nat → Nat} (hV : rV c 4 t n m R kd sz nd) (hx : x < n) (hy : y < n) : mx_Spec 1 2 m_Mo_votesOf [.ref 0, .ref 4, .int (nI x), .int (nI y)] c (fun r c' => r = some (.int (nI (mvt t m n R x y))) ∧ c' = c) := by
  refine mx_Spec_E rfl rfl rfl ?_
  refine mR 4 rfl trivial ?_
  exact lp_Mo_votesOf4 hV hx hy ⟨rfl, rfl⟩ m 0 (by omega)
theorem mz_inj {a b : Bool} : mz a = mz b ↔ a = b := by cases a <;> cases b <;> decide
theorem mlk_all {f : Nat → Nat} {n s1 s2 : Nat} (h : ∀ j, j < n → s1.testBit (f j) = s2.testBit (f j)) : mlk f n s1 s2 = true := by
  unfold mlk
  rw [ff_none (fun j hj => by simp [h j hj]), if_neg (by omega)]
theorem mlk_at {f : Nat → Nat} {n s1 s2 p : Nat} (hp : p < n) (h : ∀ j, j < p → s1.testBit (f j) = s2.testBit (f j)) (hd : s1.testBit (f p) ≠ s2.testBit (f p)) : mlk f n s1 s2 = s1.testBit (f p) := by
  unfold mlk
  rw [ff_at (k := p) hp (by simp [hd]) (fun j hj => by simp [h j hj]), if_pos hp]
theorem lp_Mo_branchOf3 {Q : Option Value → mx_M → Prop} {c : mx_M} {n at0 s1 s2 : Nat} {f : Nat → Nat} (h8 : c 0 8 = nI n) (hn : n ≤ 6) (hat : at0 + n ≤ 244) (hs1 : s1 < 2147483648) (hs2 : s2 < 2147483648) (hf : ∀ p, p < n → f p < n ∧ c 3 (at0 + p) = nI (f p)) (hq : Q (some (.int (mz (!(mlk f n s1 s2))))) c) :
    ∀ (u p : Nat), p + u = n → (∀ j, j < p → s1.testBit (f j) = s2.testBit (f j)) → mx_E 1 2 m_Mo_branchOf Q 2 [.ref 0, .ref 3, .int (nI at0), .int (nI s1), .int (nI s2), .int (nI p), .null] [] c
  | 0, p, h, hi => by
    have e : p = n := by omega
    subst e
    rw [mlk_all hi] at hq
    refine mR 3 rfl trivial ?_
    rw [h8]
    refine mbGe p p rfl (by omega) (by omega) (fun _ => ?_) (fun h => by omega)
    refine mR 1 rfl trivial ?_
    exact mx_E_iret rfl rfl hq
  | u + 1, p, h, hi => by
    obtain ⟨hfp, hv⟩ := hf p (by omega)
    have ev : c 3 (nI at0 + nI p).toNatClampNeg = nI (f p) := by rw [nI_add, nI_cl (by omega), hv]
    refine mR 3 rfl trivial ?_
    rw [h8]
    refine mbGe p n rfl (by omega) (by omega) (fun h => by omega) (fun _ => ?_)
    refine mR 8 rfl (mA1 (by rw [nI_add]; exact mI (by omega))) ?_
    rw [ev]
    refine mx_E_callS (sp_Mo_has _ s1 (f p) hs1 (by omega)) rfl rfl rfl (fun r c1 h => ?_)
    obtain ⟨rfl, h⟩ := h
    subst h
    refine mR 2 rfl trivial ?_
    refine mx_E_callS (sp_Mo_has _ s2 (f p) hs2 (by omega)) rfl rfl rfl (fun r c1 h => ?_)
    obtain ⟨rfl, h⟩ := h
    subst h
    refine mx_E_br rfl rfl (fun hb => ?_) (fun hb => ?_)
    · refine mR 2 rfl trivial ?_
      refine mW (lp_Mo_branchOf3 h8 hn hat hs1 hs2 hf hq u (p + 1) (by omega) (fun j hj => ?_)) ⟨Or.inr rfl, Or.inr rfl, Or.inr rfl, Or.inr rfl, Or.inr rfl, Or.inr (by rw [nI_1]), Or.inl rfl, trivial⟩ rfl rfl
      rcases Nat.lt_or_ge j p with hj2 | hj2
      · exact hi j hj2
      · have e : j = p := by omega
        rw [e]
        exact mz_inj.mp hb
    · have hne : s1.testBit (f p) ≠ s2.testBit (f p) := fun e => hb (by rw [e])
      rw [mlk_at (show p < n by omega) hi hne] at hq
      refine mR 2 rfl trivial ?_
      refine mx_E_callS (sp_Mo_has _ s1 (f p) hs1 (by omega)) rfl rfl rfl (fun r c1 h => ?_)
      obtain ⟨rfl, h⟩ := h
      subst h
      refine mbT rfl (fun ht => ?_) (fun ht => ?_)
      · rw [ht] at hq
        refine mR 1 rfl trivial ?_
        exact mx_E_iret rfl rfl hq
      · rw [ht] at hq
        refine mR 2 rfl trivial ?_
        exact mx_E_iret rfl rfl hq
theorem sp_Mo_branchOf3 (c : mx_M) {n at0 s1 s2 : Nat} {f : Nat → Nat} (h8 : c 0 8 = nI n) (hn : n ≤ 6) (hat : at0 + n ≤ 244) (hs1 : s1 < 2147483648) (hs2 : s2 < 2147483648) (hf : ∀ p, p < n → f p < n ∧ c 3 (at0 + p) = nI (f p)) : mx_Spec 1 2 m_Mo_branchOf [.ref 0, .ref 3, .int (nI at0), .int (nI s1), .int (nI s2)] c (fun r c' => r = some (.int (mz (!(mlk f n s1 s2)))) ∧ c' = c) := by
  refine mx_Spec_E rfl rfl rfl ?_
  refine mR 2 rfl trivial ?_
  exact lp_Mo_branchOf3 h8 hn hat hs1 hs2 hf ⟨rfl, rfl⟩ n 0 (by omega) (fun j hj => by omega)
theorem lp_Mo_branchOf4 {Q : Option Value → mx_M → Prop} {c : mx_M} {n at0 s1 s2 : Nat} {f : Nat → Nat} (h8 : c 0 8 = nI n) (hn : n ≤ 6) (hat : at0 + n ≤ 244) (hs1 : s1 < 2147483648) (hs2 : s2 < 2147483648) (hf : ∀ p, p < n → f p < n ∧ c 4 (at0 + p) = nI (f p)) (hq : Q (some (.int (mz (!(mlk f n s1 s2))))) c) :
    ∀ (u p : Nat), p + u = n → (∀ j, j < p → s1.testBit (f j) = s2.testBit (f j)) → mx_E 1 2 m_Mo_branchOf Q 2 [.ref 0, .ref 4, .int (nI at0), .int (nI s1), .int (nI s2), .int (nI p), .null] [] c
  | 0, p, h, hi => by
    have e : p = n := by omega
    subst e
    rw [mlk_all hi] at hq
    refine mR 3 rfl trivial ?_
    rw [h8]
    refine mbGe p p rfl (by omega) (by omega) (fun _ => ?_) (fun h => by omega)
    refine mR 1 rfl trivial ?_
    exact mx_E_iret rfl rfl hq
  | u + 1, p, h, hi => by
    obtain ⟨hfp, hv⟩ := hf p (by omega)
    have ev : c 4 (nI at0 + nI p).toNatClampNeg = nI (f p) := by rw [nI_add, nI_cl (by omega), hv]
    refine mR 3 rfl trivial ?_
    rw [h8]
    refine mbGe p n rfl (by omega) (by omega) (fun h => by omega) (fun _ => ?_)
    refine mR 8 rfl (mA1 (by rw [nI_add]; exact mI (by omega))) ?_
    rw [ev]
    refine mx_E_callS (sp_Mo_has _ s1 (f p) hs1 (by omega)) rfl rfl rfl (fun r c1 h => ?_)
    obtain ⟨rfl, h⟩ := h
    subst h
    refine mR 2 rfl trivial ?_
    refine mx_E_callS (sp_Mo_has _ s2 (f p) hs2 (by omega)) rfl rfl rfl (fun r c1 h => ?_)
    obtain ⟨rfl, h⟩ := h
    subst h
    refine mx_E_br rfl rfl (fun hb => ?_) (fun hb => ?_)
    · refine mR 2 rfl trivial ?_
      refine mW (lp_Mo_branchOf4 h8 hn hat hs1 hs2 hf hq u (p + 1) (by omega) (fun j hj => ?_)) ⟨Or.inr rfl, Or.inr rfl, Or.inr rfl, Or.inr rfl, Or.inr rfl, Or.inr (by rw [nI_1]), Or.inl rfl, trivial⟩ rfl rfl
      rcases Nat.lt_or_ge j p with hj2 | hj2
      · exact hi j hj2
      · have e : j = p := by omega
        rw [e]
        exact mz_inj.mp hb
    · have hne : s1.testBit (f p) ≠ s2.testBit (f p) := fun e => hb (by rw [e])
      rw [mlk_at (show p < n by omega) hi hne] at hq
      refine mR 2 rfl trivial ?_
      refine mx_E_callS (sp_Mo_has _ s1 (f p) hs1 (by omega)) rfl rfl rfl (fun r c1 h => ?_)
      obtain ⟨rfl, h⟩ := h
      subst h
      refine mbT rfl (fun ht => ?_) (fun ht => ?_)
      · rw [ht] at hq
        refine mR 1 rfl trivial ?_
        exact mx_E_iret rfl rfl hq
      · rw [ht] at hq
        refine mR 2 rfl trivial ?_
        exact mx_E_iret rfl rfl hq
theorem sp_Mo_branchOf4 (c : mx_M) {n at0 s1 s2 : Nat} {f : Nat → Nat} (h8 : c 0 8 = nI n) (hn : n ≤ 6) (hat : at0 + n ≤ 244) (hs1 : s1 < 2147483648) (hs2 : s2 < 2147483648) (hf : ∀ p, p < n → f p < n ∧ c 4 (at0 + p) = nI (f p)) : mx_Spec 1 2 m_Mo_branchOf [.ref 0, .ref 4, .int (nI at0), .int (nI s1), .int (nI s2)] c (fun r c' => r = some (.int (mz (!(mlk f n s1 s2)))) ∧ c' = c) := by
  refine mx_Spec_E rfl rfl rfl ?_
  refine mR 2 rfl trivial ?_
  exact lp_Mo_branchOf4 h8 hn hat hs1 hs2 hf ⟨rfl, rfl⟩ n 0 (by omega) (fun j hj => by omega)
theorem lp_Mo_branchOf14 {Q : Option Value → mx_M → Prop} {c : mx_M} {n at0 s1 s2 : Nat} {f : Nat → Nat} (h8 : c 0 8 = nI n) (hn : n ≤ 6) (hat : at0 + n ≤ 6) (hs1 : s1 < 2147483648) (hs2 : s2 < 2147483648) (hf : ∀ p, p < n → f p < n ∧ c 14 (at0 + p) = nI (f p)) (hq : Q (some (.int (mz (!(mlk f n s1 s2))))) c) :
    ∀ (u p : Nat), p + u = n → (∀ j, j < p → s1.testBit (f j) = s2.testBit (f j)) → mx_E 1 2 m_Mo_branchOf Q 2 [.ref 0, .ref 14, .int (nI at0), .int (nI s1), .int (nI s2), .int (nI p), .null] [] c
  | 0, p, h, hi => by
    have e : p = n := by omega
    subst e
    rw [mlk_all hi] at hq
    refine mR 3 rfl trivial ?_
    rw [h8]
    refine mbGe p p rfl (by omega) (by omega) (fun _ => ?_) (fun h => by omega)
    refine mR 1 rfl trivial ?_
    exact mx_E_iret rfl rfl hq
  | u + 1, p, h, hi => by
    obtain ⟨hfp, hv⟩ := hf p (by omega)
    have ev : c 14 (nI at0 + nI p).toNatClampNeg = nI (f p) := by rw [nI_add, nI_cl (by omega), hv]
    refine mR 3 rfl trivial ?_
    rw [h8]
    refine mbGe p n rfl (by omega) (by omega) (fun h => by omega) (fun _ => ?_)
    refine mR 8 rfl (mA1 (by rw [nI_add]; exact mI (by omega))) ?_
    rw [ev]
    refine mx_E_callS (sp_Mo_has _ s1 (f p) hs1 (by omega)) rfl rfl rfl (fun r c1 h => ?_)
    obtain ⟨rfl, h⟩ := h
    subst h
    refine mR 2 rfl trivial ?_
    refine mx_E_callS (sp_Mo_has _ s2 (f p) hs2 (by omega)) rfl rfl rfl (fun r c1 h => ?_)
    obtain ⟨rfl, h⟩ := h
    subst h
    refine mx_E_br rfl rfl (fun hb => ?_) (fun hb => ?_)
    · refine mR 2 rfl trivial ?_
      refine mW (lp_Mo_branchOf14 h8 hn hat hs1 hs2 hf hq u (p + 1) (by omega) (fun j hj => ?_)) ⟨Or.inr rfl, Or.inr rfl, Or.inr rfl, Or.inr rfl, Or.inr rfl, Or.inr (by rw [nI_1]), Or.inl rfl, trivial⟩ rfl rfl
      rcases Nat.lt_or_ge j p with hj2 | hj2
      · exact hi j hj2
      · have e : j = p := by omega
        rw [e]
        exact mz_inj.mp hb
    · have hne : s1.testBit (f p) ≠ s2.testBit (f p) := fun e => hb (by rw [e])
      rw [mlk_at (show p < n by omega) hi hne] at hq
      refine mR 2 rfl trivial ?_
      refine mx_E_callS (sp_Mo_has _ s1 (f p) hs1 (by omega)) rfl rfl rfl (fun r c1 h => ?_)
      obtain ⟨rfl, h⟩ := h
      subst h
      refine mbT rfl (fun ht => ?_) (fun ht => ?_)
      · rw [ht] at hq
        refine mR 1 rfl trivial ?_
        exact mx_E_iret rfl rfl hq
      · rw [ht] at hq
        refine mR 2 rfl trivial ?_
        exact mx_E_iret rfl rfl hq
theorem sp_Mo_branchOf14 (c : mx_M) {n at0 s1 s2 : Nat} {f : Nat → Nat} (h8 : c 0 8 = nI n) (hn : n ≤ 6) (hat : at0 + n ≤ 6) (hs1 : s1 < 2147483648) (hs2 : s2 < 2147483648) (hf : ∀ p, p < n → f p < n ∧ c 14 (at0 + p) = nI (f p)) : mx_Spec 1 2 m_Mo_branchOf [.ref 0, .ref 14, .int (nI at0), .int (nI s1), .int (nI s2)] c (fun r c' => r = some (.int (mz (!(mlk f n s1 s2)))) ∧ c' = c) := by
  refine mx_Spec_E rfl rfl rfl ?_
  refine mR 2 rfl trivial ?_
  exact lp_Mo_branchOf14 h8 hn hat hs1 hs2 hf ⟨rfl, rfl⟩ n 0 (by omega) (fun j hj => by omega)
theorem rd_kd3 {c : mx_M} {kd : Nat → Option Nat} {sz : Nat → Nat} {nd k : Nat} (hT : rTb (c 3) kd sz nd) (hd : nd ≤ 63) (hk : k < nd) : c 3 ((55 : Int32) + nI k).toNatClampNeg = kI (kd k) := by rw [ixA 55 rfl, nI_cl (by omega)]; exact (hT.2 k hk).1
theorem rd_on3 {c : mx_M} {kd : Nat → Option Nat} {sz : Nat → Nat} {nd k : Nat} (hT : rTb (c 3) kd sz nd) (hd : nd ≤ 63) (hk : k < nd) (e : kd k = none) : c 3 ((118 : Int32) + nI k).toNatClampNeg = nI (k + 1) := by rw [ixA 118 rfl, nI_cl (by omega)]; exact ((hT.2 k hk).2.1 e).1
theorem rd_tw3 {c : mx_M} {kd : Nat → Option Nat} {sz : Nat → Nat} {nd k : Nat} (hT : rTb (c 3) kd sz nd) (hd : nd ≤ 63) (hk : k < nd) (e : kd k = none) : c 3 ((181 : Int32) + nI k).toNatClampNeg = nI (k + 1 + sz (k + 1)) := by rw [ixA 181 rfl, nI_cl (by omega)]; exact ((hT.2 k hk).2.1 e).2
theorem lp_Mo_setsOf3 {Q : Option Value → mx_M → Prop} {c : mx_M} {n m t nd : Nat} {R : Nat → Nat → Nat} {kd : Nat → Option Nat} {sz : Nat → Nat} (hV : rV c 3 t n m R kd sz nd) (hq : ∀ c', mfr [12] c c' → (∀ j, j < nd → c' 12 j = nI (mset kd sz nd j)) → Q none c') :
    ∀ (k : Nat) (c1 : mx_M), k ≤ nd → mfr [12] c c1 → (∀ j, k ≤ j → j < nd → c1 12 j = nI (mset kd sz nd j)) → mx_E 1 1 m_Mo_setsOf Q 6 [.ref 0, .ref 3, .int (nI k - 1)] [] c1
  | 0, c1, hk, hfr, hi => by
    refine mR 1 rfl trivial ?_
    refine mx_E_br rfl rfl (fun _ => ?_) (fun h => absurd (by decide) h)
    exact mx_E_vret rfl rfl (hq c1 hfr (fun j hj => hi j (Nat.zero_le j) hj))
  | k + 1, c1, hk, hfr, hi => by
    have hV0 := hV
    obtain ⟨-, ⟨hn, -, -⟩, -, -, hM, hT0⟩ := hV0
    have hT : rTb (c1 3) kd sz nd := by rw [hfr 3 (by decide)]; exact hT0
    have h63 := hM.2.1
    have hkd := rd_kd3 hT h63 (show k < nd by omega)
    rw [nI_p1]
    refine mR 1 rfl trivial ?_
    refine mx_E_br rfl rfl (fun h => absurd h (nI_pos (by omega))) (fun _ => ?_)
    refine mR 9 rfl (mA1 (by rw [ixA 55 rfl]; exact mI (by omega))) ?_
    rw [hkd]
    cases e : kd k with
    | some q =>
      obtain ⟨hq6, -⟩ := mtree_leaf hM (show k < nd by omega) e
      have h6 := hn.2
      refine mx_E_br rfl rfl (fun h => absurd h (kI_ne (by omega))) (fun _ => ?_)
      rw [e] at hkd
      refine mR 11 rfl (mA2 (by rw [ixA 55 rfl]; exact mI (by omega)) (mI (by omega))) ?_
      rw [hkd]
      have ev : (1 : Int32) <<< (kI (some q) &&& 31) = nI (mset kd sz nd k) := by
        rw [show mset kd sz nd k = 2 ^ q from mF_leaf _ _ (by omega) e]
        exact nI_shl1 (by omega)
      rw [ev, nI_cl (by omega), nI_m1]
      refine lp_Mo_setsOf3 (c := c) hV hq k _ (by omega) (mfr_up hfr (by decide)) (fun j h1 h2 => ?_)
      · rcases Nat.lt_or_ge k j with h3 | h3
        · rw [mx_up_ix _ _ _ _ _ _ (by omega)]
          exact hi j (by omega) h2
        · have e2 : j = k := by omega
          rw [e2, mx_up_same]
    | none =>
      obtain ⟨g1, g2, g3, g4, g5, g6⟩ := mtree_vote hM (show k < nd by omega) e
      refine mx_E_br rfl rfl (fun _ => ?_) (fun h => absurd rfl h)
      have on := rd_on3 hT h63 (show k < nd by omega) e
      have tw := rd_tw3 hT h63 (show k < nd by omega) e
      refine mR 20 rfl (mA5 (by rw [ixA 118 rfl]; exact mI (by omega)) (by rw [on]; exact mI (by omega)) (by rw [ixA 181 rfl]; exact mI (by omega)) (by rw [tw]; exact mI (by omega)) (mI (by omega))) ?_
      rw [on, tw, nI_cl (by omega), nI_cl (by omega), nI_cl (by omega), hi (k + 1) (by omega) (by omega), hi (k + 1 + sz (k + 1)) (by omega) (by omega), fa_or, nI_m1]
      refine lp_Mo_setsOf3 (c := c) hV hq k _ (by omega) (mfr_up hfr (by decide)) (fun j h1 h2 => ?_)
      · rcases Nat.lt_or_ge k j with h3 | h3
        · rw [mx_up_ix _ _ _ _ _ _ (by omega)]
          exact hi j (by omega) h2
        · have e2 : j = k := by omega
          rw [e2, mx_up_same, show mset kd sz nd k = mset kd sz nd (k + 1) ||| mset kd sz nd (k + 1 + sz (k + 1)) from mF_vote _ _ hM (by omega) e]
theorem sp_Mo_setsOf3 (c : mx_M) {n m t nd : Nat} {R : Nat → Nat → Nat} {kd : Nat → Option Nat} {sz : Nat → Nat} (hV : rV c 3 t n m R kd sz nd) : mx_Spec 1 1 m_Mo_setsOf [.ref 0, .ref 3] c (fun r c' => r = none ∧ mfr [12] c c' ∧ ∀ j, j < nd → c' 12 j = nI (mset kd sz nd j)) := by
  refine mx_Spec_E rfl rfl rfl ?_
  refine mR 6 rfl (mA1 (mI (n := 54) (by decide))) ?_
  refine mS (lp_Mo_setsOf3 hV (fun c' h1 h2 => ⟨rfl, h1, h2⟩) nd c (Nat.le_refl nd) (mfr_rf _ _) (fun j h1 h2 => by omega)) ?_ rfl rfl
  rw [show ((54 : Int32)).toNatClampNeg = 54 by decide, hV.2.2.2.2.2.1]
theorem rd_kd4 {c : mx_M} {kd : Nat → Option Nat} {sz : Nat → Nat} {nd k : Nat} (hT : rTb (c 4) kd sz nd) (hd : nd ≤ 63) (hk : k < nd) : c 4 ((55 : Int32) + nI k).toNatClampNeg = kI (kd k) := by rw [ixA 55 rfl, nI_cl (by omega)]; exact (hT.2 k hk).1
theorem rd_on4 {c : mx_M} {kd : Nat → Option Nat} {sz : Nat → Nat} {nd k : Nat} (hT : rTb (c 4) kd sz nd) (hd : nd ≤ 63) (hk : k < nd) (e : kd k = none) : c 4 ((118 : Int32) + nI k).toNatClampNeg = nI (k + 1) := by rw [ixA 118 rfl, nI_cl (by omega)]; exact ((hT.2 k hk).2.1 e).1
theorem rd_tw4 {c : mx_M} {kd : Nat → Option Nat} {sz : Nat → Nat} {nd k : Nat} (hT : rTb (c 4) kd sz nd) (hd : nd ≤ 63) (hk : k < nd) (e : kd k = none) : c 4 ((181 : Int32) + nI k).toNatClampNeg = nI (k + 1 + sz (k + 1)) := by rw [ixA 181 rfl, nI_cl (by omega)]; exact ((hT.2 k hk).2.1 e).2
theorem lp_Mo_setsOf4 {Q : Option Value → mx_M → Prop} {c : mx_M} {n m t nd : Nat} {R : Nat → Nat → Nat} {kd : Nat → Option Nat} {sz : Nat → Nat} (hV : rV c 4 t n m R kd sz nd) (hq : ∀ c', mfr [12] c c' → (∀ j, j < nd → c' 12 j = nI (mset kd sz nd j)) → Q none c') :
    ∀ (k : Nat) (c1 : mx_M), k ≤ nd → mfr [12] c c1 → (∀ j, k ≤ j → j < nd → c1 12 j = nI (mset kd sz nd j)) → mx_E 1 1 m_Mo_setsOf Q 6 [.ref 0, .ref 4, .int (nI k - 1)] [] c1
  | 0, c1, hk, hfr, hi => by
    refine mR 1 rfl trivial ?_
    refine mx_E_br rfl rfl (fun _ => ?_) (fun h => absurd (by decide) h)
    exact mx_E_vret rfl rfl (hq c1 hfr (fun j hj => hi j (Nat.zero_le j) hj))
  | k + 1, c1, hk, hfr, hi => by
    have hV0 := hV
    obtain ⟨-, ⟨hn, -, -⟩, -, -, hM, hT0⟩ := hV0
    have hT : rTb (c1 4) kd sz nd := by rw [hfr 4 (by decide)]; exact hT0
    have h63 := hM.2.1
    have hkd := rd_kd4 hT h63 (show k < nd by omega)
    rw [nI_p1]
    refine mR 1 rfl trivial ?_
    refine mx_E_br rfl rfl (fun h => absurd h (nI_pos (by omega))) (fun _ => ?_)
    refine mR 9 rfl (mA1 (by rw [ixA 55 rfl]; exact mI (by omega))) ?_
    rw [hkd]
    cases e : kd k with
    | some q =>
      obtain ⟨hq6, -⟩ := mtree_leaf hM (show k < nd by omega) e
      have h6 := hn.2
      refine mx_E_br rfl rfl (fun h => absurd h (kI_ne (by omega))) (fun _ => ?_)
      rw [e] at hkd
      refine mR 11 rfl (mA2 (by rw [ixA 55 rfl]; exact mI (by omega)) (mI (by omega))) ?_
      rw [hkd]
      have ev : (1 : Int32) <<< (kI (some q) &&& 31) = nI (mset kd sz nd k) := by
        rw [show mset kd sz nd k = 2 ^ q from mF_leaf _ _ (by omega) e]
        exact nI_shl1 (by omega)
      rw [ev, nI_cl (by omega), nI_m1]
      refine lp_Mo_setsOf4 (c := c) hV hq k _ (by omega) (mfr_up hfr (by decide)) (fun j h1 h2 => ?_)
      · rcases Nat.lt_or_ge k j with h3 | h3
        · rw [mx_up_ix _ _ _ _ _ _ (by omega)]
          exact hi j (by omega) h2
        · have e2 : j = k := by omega
          rw [e2, mx_up_same]
    | none =>
      obtain ⟨g1, g2, g3, g4, g5, g6⟩ := mtree_vote hM (show k < nd by omega) e
      refine mx_E_br rfl rfl (fun _ => ?_) (fun h => absurd rfl h)
      have on := rd_on4 hT h63 (show k < nd by omega) e
      have tw := rd_tw4 hT h63 (show k < nd by omega) e
      refine mR 20 rfl (mA5 (by rw [ixA 118 rfl]; exact mI (by omega)) (by rw [on]; exact mI (by omega)) (by rw [ixA 181 rfl]; exact mI (by omega)) (by rw [tw]; exact mI (by omega)) (mI (by omega))) ?_
      rw [on, tw, nI_cl (by omega), nI_cl (by omega), nI_cl (by omega), hi (k + 1) (by omega) (by omega), hi (k + 1 + sz (k + 1)) (by omega) (by omega), fa_or, nI_m1]
      refine lp_Mo_setsOf4 (c := c) hV hq k _ (by omega) (mfr_up hfr (by decide)) (fun j h1 h2 => ?_)
      · rcases Nat.lt_or_ge k j with h3 | h3
        · rw [mx_up_ix _ _ _ _ _ _ (by omega)]
          exact hi j (by omega) h2
        · have e2 : j = k := by omega
          rw [e2, mx_up_same, show mset kd sz nd k = mset kd sz nd (k + 1) ||| mset kd sz nd (k + 1 + sz (k + 1)) from mF_vote _ _ hM (by omega) e]
theorem sp_Mo_setsOf4 (c : mx_M) {n m t nd : Nat} {R : Nat → Nat → Nat} {kd : Nat → Option Nat} {sz : Nat → Nat} (hV : rV c 4 t n m R kd sz nd) : mx_Spec 1 1 m_Mo_setsOf [.ref 0, .ref 4] c (fun r c' => r = none ∧ mfr [12] c c' ∧ ∀ j, j < nd → c' 12 j = nI (mset kd sz nd j)) := by
  refine mx_Spec_E rfl rfl rfl ?_
  refine mR 6 rfl (mA1 (mI (n := 54) (by decide))) ?_
  refine mS (lp_Mo_setsOf4 hV (fun c' h1 h2 => ⟨rfl, h1, h2⟩) nd c (Nat.le_refl nd) (mfr_rf _ _) (fun j h1 h2 => by omega)) ?_ rfl rfl
  rw [show ((54 : Int32)).toNatClampNeg = 54 by decide, hV.2.2.2.2.2.1]
end
section
theorem rR_row3 {c : mx_M} {i t n m nd : Nat} {R : Nat → Nat → Nat} {kd : Nat → Option Nat} {sz : Nat → Nat} (hV : rV c 3 t n m R kd sz nd) (hi : i < m) : ∀ p, p < n → R i p < n ∧ c 3 (6 * i + p) = nI (R i p) := fun p hp => ⟨(hV.2.2.1 i hi).1 p hp, hV.2.2.2.1 i p hi hp⟩
theorem lp_Mo_votesFirst3 {Q : Option Value → mx_M → Prop} {c : mx_M} {n m t k nd : Nat} {R : Nat → Nat → Nat} {kd : Nat → Option Nat} {sz : Nat → Nat} (hV : rV c 3 t n m R kd sz nd) (hS : ∀ j, j < nd → c 12 j = nI (mset kd sz nd j)) (hk : k < nd) (e : kd k = none) (hq : Q (some (.int (nI (mvf t m n R (mset kd sz nd (k + 1)) (mset kd sz nd (k + 1 + sz (k + 1))))))) c) :
    ∀ (u p : Nat), p + u = m → mx_E 1 3 m_Mo_votesFirst Q 4 [.ref 0, .ref 3, .int (nI k), .int (nI (mvf t p n R (mset kd sz nd (k + 1)) (mset kd sz nd (k + 1 + sz (k + 1))))), .int (nI p)] [] c
  | 0, p, h => by
    have e : p = m := by omega
    subst e
    obtain ⟨⟨h8, h9, h23⟩, ⟨hn, hm, ht⟩, -⟩ := hV
    refine mR 3 rfl trivial ?_
    rw [h9]
    refine mbGe p p rfl (by omega) (by omega) (fun _ => ?_) (fun h => by omega)
    refine mR 1 rfl trivial ?_
    exact mx_E_iret rfl rfl hq
  | u + 1, p, h => by
    have hV0 := hV
    obtain ⟨⟨h8, h9, h23⟩, ⟨hn, hm, ht⟩, hpm, hR, hM, hT⟩ := hV0
    have hs : mvf t (p + 1) n R (mset kd sz nd (k + 1)) (mset kd sz nd (k + 1 + sz (k + 1))) = mvf t p n R (mset kd sz nd (k + 1)) (mset kd sz nd (k + 1 + sz (k + 1))) + (if (t.testBit p && mlk (R p) n (mset kd sz nd (k + 1)) (mset kd sz nd (k + 1 + sz (k + 1)))) then 1 else 0) := rfl
    obtain ⟨g1, g2, g3, g4, g5, g6⟩ := mtree_vote hM hk e
    have h63 := hM.2.1
    have h6 := hn.2
    refine mR 3 rfl trivial ?_
    rw [h9]
    refine mbGe p m rfl (by omega) (by omega) (fun h => by omega) (fun _ => ?_)
    refine mR 4 rfl trivial ?_
    rw [h23]
    refine mx_E_callS (sp_Mo_has _ t p (by omega) (by omega)) rfl rfl rfl (fun r c1 h => ?_)
    obtain ⟨rfl, h⟩ := h
    subst h
    refine mbT rfl (fun hb => ?_) (fun hb => ?_)
    · refine mR 5 rfl trivial ?_
      refine mS (lp_Mo_votesFirst3 hV hS hk e hq u (p + 1) (by omega)) ?_ rfl rfl
      rw [hs, hb, nI_1]
      simp
    · have on := rd_on3 hT h63 hk e
      have tw := rd_tw3 hT h63 hk e
      have l1 := mset_lt h6 hM g5
      have l2 := mset_lt h6 hM g6
      refine mR 21 rfl (mA4 (by rw [ixA 118 rfl]; exact mI (by omega)) (by rw [on]; exact mI (by omega)) (by rw [ixA 181 rfl]; exact mI (by omega)) (by rw [tw]; exact mI (by omega))) ?_
      rw [on, tw, nI_cl (by omega), nI_cl (by omega), hS (k + 1) g5, hS (k + 1 + sz (k + 1)) g6, show (6 : Int32) = nI 6 from rfl, pk_mul]
      refine mx_E_callV (sp_Mo_branchOf3 _ h8 h6 (show 6 * p + n ≤ 244 by omega) (by omega) (by omega) (rR_row3 hV (show p < m by omega))) rfl rfl rfl (fun r c1 h => ?_)
      obtain ⟨rfl, h⟩ := h
      subst h
      refine mbF rfl (fun hc => ?_) (fun hc => ?_)
      · refine mR 5 rfl trivial ?_
        refine mS (lp_Mo_votesFirst3 hV hS hk e hq u (p + 1) (by omega)) ?_ rfl rfl
        rw [hs, hb, show mlk (R p) n (mset kd sz nd (k + 1)) (mset kd sz nd (k + 1 + sz (k + 1))) = false by simpa using hc, nI_1]
        simp
      · refine mR 6 rfl trivial ?_
        refine mS (lp_Mo_votesFirst3 hV hS hk e hq u (p + 1) (by omega)) ?_ rfl rfl
        rw [hs, hb, show mlk (R p) n (mset kd sz nd (k + 1)) (mset kd sz nd (k + 1 + sz (k + 1))) = true by simpa using hc, nI_1, nI_1]
        simp
theorem sp_Mo_votesFirst3 (c : mx_M) {n m t k nd : Nat} {R : Nat → Nat → Nat} {kd : Nat → Option Nat} {sz : Nat → Nat} (hV : rV c 3 t n m R kd sz nd) (hS : ∀ j, j < nd → c 12 j = nI (mset kd sz nd j)) (hk : k < nd) (e : kd k = none) : mx_Spec 1 3 m_Mo_votesFirst [.ref 0, .ref 3, .int (nI k)] c (fun r c' => r = some (.int (nI (mvf t m n R (mset kd sz nd (k + 1)) (mset kd sz nd (k + 1 + sz (k + 1)))))) ∧ c' = c) := by
  refine mx_Spec_E rfl rfl rfl ?_
  refine mR 4 rfl trivial ?_
  exact lp_Mo_votesFirst3 hV hS hk e ⟨rfl, rfl⟩ m 0 (by omega)
theorem lp_Mo_sincere3 {Q : Option Value → mx_M → Prop} {c : mx_M} {n m t nd x : Nat} {R : Nat → Nat → Nat} {kd : Nat → Option Nat} {sz : Nat → Nat} (hV : rV c 3 t n m R kd sz nd) (hS : ∀ j, j < nd → c 12 j = nI (mset kd sz nd j)) {y : Nat} (hq : Q (some (.int (nI y))) c) :
    ∀ (u k : Nat), nd - k ≤ u → k < nd → msin t m n R kd sz nd k = y → mx_E 1 4 m_Mo_sincere Q 5 [.ref 0, .ref 3, .int (nI x), .int (nI k), .null] [] c
  | 0, k, h, hk, hy => by omega
  | u + 1, k, h, hk, hy => by
    have hV0 := hV
    obtain ⟨⟨h8, h9, h23⟩, ⟨hn, hm, ht⟩, hpm, hR, hM, hT⟩ := hV0
    have h63 := hM.2.1
    have h6 := hn.2
    have hkd := rd_kd3 hT h63 hk
    refine mR 6 rfl (mA1 (by rw [ixA 55 rfl]; exact mI (by omega))) ?_
    rw [hkd]
    cases e : kd k with
    | some q =>
      obtain ⟨hq6, -⟩ := mtree_leaf hM hk e
      refine mx_E_br rfl rfl (fun _ => ?_) (fun h => absurd h (fun w => w (kI_ne (by omega))))
      rw [e] at hkd
      refine mR 5 rfl (mA1 (by rw [ixA 55 rfl]; exact mI (by omega))) ?_
      rw [hkd]
      have ey : y = q := by rw [← hy]; exact mF_leaf _ _ hk e
      rw [ey] at hq
      exact mx_E_iret rfl rfl hq
    | none =>
      obtain ⟨g1, g2, g3, g4, g5, g6⟩ := mtree_vote hM hk e
      have hyv : (if mpop t ≤ 2 * mvf t m n R (mset kd sz nd (k + 1)) (mset kd sz nd (k + 1 + sz (k + 1))) then msin t m n R kd sz nd (k + 1) else msin t m n R kd sz nd (k + 1 + sz (k + 1))) = y := by rw [← hy]; exact (mF_vote _ _ hM hk e).symm
      refine mx_E_br rfl rfl (fun h => absurd rfl h) (fun _ => ?_)
      refine mR 3 rfl trivial ?_
      refine mx_E_callV (sp_Mo_votesFirst3 _ hV hS hk e) rfl rfl rfl (fun r c1 h => ?_)
      obtain ⟨rfl, h⟩ := h
      subst h
      have hle : mvf t m n R (mset kd sz nd (k + 1)) (mset kd sz nd (k + 1 + sz (k + 1))) ≤ m := fb_ct_le _ _
      have hpo := mpop_le t
      have on := rd_on3 hT h63 hk e
      have tw := rd_tw3 hT h63 hk e
      refine mR 6 rfl trivial ?_
      rw [h23, show (2 : Int32) = nI 2 from rfl, pk_mul]
      refine mx_E_callS (sp_Mo_ones _ t ht) rfl rfl rfl (fun r c1 h => ?_)
      obtain ⟨rfl, h⟩ := h
      subst h
      refine mbLt _ _ rfl (by omega) (by omega) (fun hc => ?_) (fun hc => ?_)
      · rw [if_neg (by omega)] at hyv
        refine mR 7 rfl (mA1 (by rw [ixA 181 rfl]; exact mI (by omega))) ?_
        rw [tw]
        exact mW (lp_Mo_sincere3 (x := x) hV hS hq u (k + 1 + sz (k + 1)) (by omega) g6 hyv) ⟨Or.inr rfl, Or.inr rfl, Or.inr rfl, Or.inr rfl, Or.inl rfl, trivial⟩ rfl rfl
      · rw [if_pos hc] at hyv
        refine mR 8 rfl (mA1 (by rw [ixA 118 rfl]; exact mI (by omega))) ?_
        rw [on]
        exact mW (lp_Mo_sincere3 (x := x) hV hS hq u (k + 1) (by omega) g5 hyv) ⟨Or.inr rfl, Or.inr rfl, Or.inr rfl, Or.inr rfl, Or.inl rfl, trivial⟩ rfl rfl
theorem sp_Mo_sincere3 (c : mx_M) {n m t k nd : Nat} {R : Nat → Nat → Nat} {kd : Nat → Option Nat} {sz : Nat → Nat} (hV : rV c 3 t n m R kd sz nd) (hk : k < nd) : mx_Spec 1 4 m_Mo_sincere [.ref 0, .ref 3, .int (nI k)] c (fun r c' => r = some (.int (nI (msin t m n R kd sz nd k))) ∧ mfr [12] c c') := by
  refine mx_Spec_E rfl rfl rfl ?_
  refine mR 2 rfl trivial ?_
  refine mx_E_callV (sp_Mo_setsOf3 _ hV) rfl rfl rfl (fun r c1 h => ?_)
  obtain ⟨rfl, hf, hS⟩ := h
  refine mR 2 rfl trivial ?_
  exact lp_Mo_sincere3 (x := k) (rV_of hV (hf 0 (by decide)) (hf 3 (by decide))) hS ⟨rfl, hf⟩ nd k (by omega) hk rfl
theorem rR_row4 {c : mx_M} {i t n m nd : Nat} {R : Nat → Nat → Nat} {kd : Nat → Option Nat} {sz : Nat → Nat} (hV : rV c 4 t n m R kd sz nd) (hi : i < m) : ∀ p, p < n → R i p < n ∧ c 4 (6 * i + p) = nI (R i p) := fun p hp => ⟨(hV.2.2.1 i hi).1 p hp, hV.2.2.2.1 i p hi hp⟩
theorem lp_Mo_votesFirst4 {Q : Option Value → mx_M → Prop} {c : mx_M} {n m t k nd : Nat} {R : Nat → Nat → Nat} {kd : Nat → Option Nat} {sz : Nat → Nat} (hV : rV c 4 t n m R kd sz nd) (hS : ∀ j, j < nd → c 12 j = nI (mset kd sz nd j)) (hk : k < nd) (e : kd k = none) (hq : Q (some (.int (nI (mvf t m n R (mset kd sz nd (k + 1)) (mset kd sz nd (k + 1 + sz (k + 1))))))) c) :
    ∀ (u p : Nat), p + u = m → mx_E 1 3 m_Mo_votesFirst Q 4 [.ref 0, .ref 4, .int (nI k), .int (nI (mvf t p n R (mset kd sz nd (k + 1)) (mset kd sz nd (k + 1 + sz (k + 1))))), .int (nI p)] [] c
  | 0, p, h => by
    have e : p = m := by omega
    subst e
    obtain ⟨⟨h8, h9, h23⟩, ⟨hn, hm, ht⟩, -⟩ := hV
    refine mR 3 rfl trivial ?_
    rw [h9]
    refine mbGe p p rfl (by omega) (by omega) (fun _ => ?_) (fun h => by omega)
    refine mR 1 rfl trivial ?_
    exact mx_E_iret rfl rfl hq
  | u + 1, p, h => by
    have hV0 := hV
    obtain ⟨⟨h8, h9, h23⟩, ⟨hn, hm, ht⟩, hpm, hR, hM, hT⟩ := hV0
    have hs : mvf t (p + 1) n R (mset kd sz nd (k + 1)) (mset kd sz nd (k + 1 + sz (k + 1))) = mvf t p n R (mset kd sz nd (k + 1)) (mset kd sz nd (k + 1 + sz (k + 1))) + (if (t.testBit p && mlk (R p) n (mset kd sz nd (k + 1)) (mset kd sz nd (k + 1 + sz (k + 1)))) then 1 else 0) := rfl
    obtain ⟨g1, g2, g3, g4, g5, g6⟩ := mtree_vote hM hk e
    have h63 := hM.2.1
    have h6 := hn.2
    refine mR 3 rfl trivial ?_
    rw [h9]
    refine mbGe p m rfl (by omega) (by omega) (fun h => by omega) (fun _ => ?_)
    refine mR 4 rfl trivial ?_
    rw [h23]
    refine mx_E_callS (sp_Mo_has _ t p (by omega) (by omega)) rfl rfl rfl (fun r c1 h => ?_)
    obtain ⟨rfl, h⟩ := h
    subst h
    refine mbT rfl (fun hb => ?_) (fun hb => ?_)
    · refine mR 5 rfl trivial ?_
      refine mS (lp_Mo_votesFirst4 hV hS hk e hq u (p + 1) (by omega)) ?_ rfl rfl
      rw [hs, hb, nI_1]
      simp
    · have on := rd_on4 hT h63 hk e
      have tw := rd_tw4 hT h63 hk e
      have l1 := mset_lt h6 hM g5
      have l2 := mset_lt h6 hM g6
      refine mR 21 rfl (mA4 (by rw [ixA 118 rfl]; exact mI (by omega)) (by rw [on]; exact mI (by omega)) (by rw [ixA 181 rfl]; exact mI (by omega)) (by rw [tw]; exact mI (by omega))) ?_
      rw [on, tw, nI_cl (by omega), nI_cl (by omega), hS (k + 1) g5, hS (k + 1 + sz (k + 1)) g6, show (6 : Int32) = nI 6 from rfl, pk_mul]
      refine mx_E_callV (sp_Mo_branchOf4 _ h8 h6 (show 6 * p + n ≤ 244 by omega) (by omega) (by omega) (rR_row4 hV (show p < m by omega))) rfl rfl rfl (fun r c1 h => ?_)
      obtain ⟨rfl, h⟩ := h
      subst h
      refine mbF rfl (fun hc => ?_) (fun hc => ?_)
      · refine mR 5 rfl trivial ?_
        refine mS (lp_Mo_votesFirst4 hV hS hk e hq u (p + 1) (by omega)) ?_ rfl rfl
        rw [hs, hb, show mlk (R p) n (mset kd sz nd (k + 1)) (mset kd sz nd (k + 1 + sz (k + 1))) = false by simpa using hc, nI_1]
        simp
      · refine mR 6 rfl trivial ?_
        refine mS (lp_Mo_votesFirst4 hV hS hk e hq u (p + 1) (by omega)) ?_ rfl rfl
        rw [hs, hb, show mlk (R p) n (mset kd sz nd (k + 1)) (mset kd sz nd (k + 1 + sz (k + 1))) = true by simpa using hc, nI_1, nI_1]
        simp
theorem sp_Mo_votesFirst4 (c : mx_M) {n m t k nd : Nat} {R : Nat → Nat → Nat} {kd : Nat → Option Nat} {sz : Nat → Nat} (hV : rV c 4 t n m R kd sz nd) (hS : ∀ j, j < nd → c 12 j = nI (mset kd sz nd j)) (hk : k < nd) (e : kd k = none) : mx_Spec 1 3 m_Mo_votesFirst [.ref 0, .ref 4, .int (nI k)] c (fun r c' => r = some (.int (nI (mvf t m n R (mset kd sz nd (k + 1)) (mset kd sz nd (k + 1 + sz (k + 1)))))) ∧ c' = c) := by
  refine mx_Spec_E rfl rfl rfl ?_
  refine mR 4 rfl trivial ?_
  exact lp_Mo_votesFirst4 hV hS hk e ⟨rfl, rfl⟩ m 0 (by omega)
theorem lp_Mo_sincere4 {Q : Option Value → mx_M → Prop} {c : mx_M} {n m t nd x : Nat} {R : Nat → Nat → Nat} {kd : Nat → Option Nat} {sz : Nat → Nat} (hV : rV c 4 t n m R kd sz nd) (hS : ∀ j, j < nd → c 12 j = nI (mset kd sz nd j)) {y : Nat} (hq : Q (some (.int (nI y))) c) :
    ∀ (u k : Nat), nd - k ≤ u → k < nd → msin t m n R kd sz nd k = y → mx_E 1 4 m_Mo_sincere Q 5 [.ref 0, .ref 4, .int (nI x), .int (nI k), .null] [] c
  | 0, k, h, hk, hy => by omega
  | u + 1, k, h, hk, hy => by
    have hV0 := hV
    obtain ⟨⟨h8, h9, h23⟩, ⟨hn, hm, ht⟩, hpm, hR, hM, hT⟩ := hV0
    have h63 := hM.2.1
    have h6 := hn.2
    have hkd := rd_kd4 hT h63 hk
    refine mR 6 rfl (mA1 (by rw [ixA 55 rfl]; exact mI (by omega))) ?_
    rw [hkd]
    cases e : kd k with
    | some q =>
      obtain ⟨hq6, -⟩ := mtree_leaf hM hk e
      refine mx_E_br rfl rfl (fun _ => ?_) (fun h => absurd h (fun w => w (kI_ne (by omega))))
      rw [e] at hkd
      refine mR 5 rfl (mA1 (by rw [ixA 55 rfl]; exact mI (by omega))) ?_
      rw [hkd]
      have ey : y = q := by rw [← hy]; exact mF_leaf _ _ hk e
      rw [ey] at hq
      exact mx_E_iret rfl rfl hq
    | none =>
      obtain ⟨g1, g2, g3, g4, g5, g6⟩ := mtree_vote hM hk e
      have hyv : (if mpop t ≤ 2 * mvf t m n R (mset kd sz nd (k + 1)) (mset kd sz nd (k + 1 + sz (k + 1))) then msin t m n R kd sz nd (k + 1) else msin t m n R kd sz nd (k + 1 + sz (k + 1))) = y := by rw [← hy]; exact (mF_vote _ _ hM hk e).symm
      refine mx_E_br rfl rfl (fun h => absurd rfl h) (fun _ => ?_)
      refine mR 3 rfl trivial ?_
      refine mx_E_callV (sp_Mo_votesFirst4 _ hV hS hk e) rfl rfl rfl (fun r c1 h => ?_)
      obtain ⟨rfl, h⟩ := h
      subst h
      have hle : mvf t m n R (mset kd sz nd (k + 1)) (mset kd sz nd (k + 1 + sz (k + 1))) ≤ m := fb_ct_le _ _
      have hpo := mpop_le t
      have on := rd_on4 hT h63 hk e
      have tw := rd_tw4 hT h63 hk e
      refine mR 6 rfl trivial ?_
      rw [h23, show (2 : Int32) = nI 2 from rfl, pk_mul]
      refine mx_E_callS (sp_Mo_ones _ t ht) rfl rfl rfl (fun r c1 h => ?_)
      obtain ⟨rfl, h⟩ := h
      subst h
      refine mbLt _ _ rfl (by omega) (by omega) (fun hc => ?_) (fun hc => ?_)
      · rw [if_neg (by omega)] at hyv
        refine mR 7 rfl (mA1 (by rw [ixA 181 rfl]; exact mI (by omega))) ?_
        rw [tw]
        exact mW (lp_Mo_sincere4 (x := x) hV hS hq u (k + 1 + sz (k + 1)) (by omega) g6 hyv) ⟨Or.inr rfl, Or.inr rfl, Or.inr rfl, Or.inr rfl, Or.inl rfl, trivial⟩ rfl rfl
      · rw [if_pos hc] at hyv
        refine mR 8 rfl (mA1 (by rw [ixA 118 rfl]; exact mI (by omega))) ?_
        rw [on]
        exact mW (lp_Mo_sincere4 (x := x) hV hS hq u (k + 1) (by omega) g5 hyv) ⟨Or.inr rfl, Or.inr rfl, Or.inr rfl, Or.inr rfl, Or.inl rfl, trivial⟩ rfl rfl
theorem sp_Mo_sincere4 (c : mx_M) {n m t k nd : Nat} {R : Nat → Nat → Nat} {kd : Nat → Option Nat} {sz : Nat → Nat} (hV : rV c 4 t n m R kd sz nd) (hk : k < nd) : mx_Spec 1 4 m_Mo_sincere [.ref 0, .ref 4, .int (nI k)] c (fun r c' => r = some (.int (nI (msin t m n R kd sz nd k))) ∧ mfr [12] c c') := by
  refine mx_Spec_E rfl rfl rfl ?_
  refine mR 2 rfl trivial ?_
  refine mx_E_callV (sp_Mo_setsOf4 _ hV) rfl rfl rfl (fun r c1 h => ?_)
  obtain ⟨rfl, hf, hS⟩ := h
  refine mR 2 rfl trivial ?_
  exact lp_Mo_sincere4 (x := k) (rV_of hV (hf 0 (by decide)) (hf 4 (by decide))) hS ⟨rfl, hf⟩ nd k (by omega) hk rfl
end
section
theorem d_pos {a b : Nat} (ha : a < 1000) (hb : b < 1000) : (0 : Int32) < nI a - nI b ↔ b < a := by
  rw [fa_lt, pk_sub_toInt (by omega) (by omega)]
  show (0 : Int) < _ ↔ _
  omega
theorem d_eq {a b : Nat} (ha : a < 1000) (hb : b < 1000) : nI a - nI b = 0 ↔ a = b := by
  rw [fa_eq, pk_sub_toInt (by omega) (by omega)]
  show (_ : Int) = 0 ↔ _
  omega
theorem mvt_le (t m n : Nat) (R : Nat → Nat → Nat) (x y : Nat) : mvt t m n R x y ≤ m := fb_ct_le _ _
def rBt (c1 : mx_M) (t m n : Nat) (R : Nat → Nat → Nat) (x y : Nat) : Prop := ∀ x' y', x' < n → y' < n → x' ≠ y' → (x' < x ∨ (x' = x ∧ y' < y)) → c1 11 (6 * x' + y') = mz (mbeat t m n R x' y')
theorem rBt_up {c1 : mx_M} {t m n : Nat} {R : Nat → Nat → Nat} {x y : Nat} {v : Int32} (hn : n ≤ 6) (hy : y < n) (h : rBt c1 t m n R x y) (hv : v = mz (mbeat t m n R x y)) : rBt (mx_up c1 11 (6 * x + y) v) t m n R x (y + 1) := by
  intro x' y' h1 h2 h3 h4
  by_cases e : x' = x ∧ y' = y
  · rw [e.1, e.2, mx_up_same, hv]
  · rw [mx_up_ix _ _ _ _ _ _ (by omega)]
    exact h x' y' h1 h2 h3 (by omega)
theorem rBt_sk {c1 : mx_M} {t m n : Nat} {R : Nat → Nat → Nat} {x : Nat} (h : rBt c1 t m n R x x) : rBt c1 t m n R x (x + 1) := by
  intro x' y' h1 h2 h3 h4
  exact h x' y' h1 h2 h3 (by omega)
theorem rBt_nx {c1 : mx_M} {t m n : Nat} {R : Nat → Nat → Nat} {x : Nat} (h : rBt c1 t m n R x n) : rBt c1 t m n R (x + 1) 0 := by
  intro x' y' h1 h2 h3 h4
  exact h x' y' h1 h2 h3 (by omega)
theorem lp_Mo_beatsBy_in3 {Q : Option Value → mx_M → Prop} {c : mx_M} {n m t x nd : Nat} {R : Nat → Nat → Nat} {kd : Nat → Option Nat} {sz : Nat → Nat} (hV : rV c 3 t n m R kd sz nd) (hx : x < n) (hk : ∀ c2, mfr [11] c c2 → rBt c2 t m n R (x + 1) 0 → mx_E 1 3 m_Mo_beatsBy Q 2 [.ref 0, .ref 3, .int (nI (x + 1)), .null, .null] [] c2) :
    ∀ (u y : Nat) (c1 : mx_M), y + u = n → mfr [11] c c1 → rBt c1 t m n R x y → mx_E 1 3 m_Mo_beatsBy Q 8 [.ref 0, .ref 3, .int (nI x), .int (nI y), .null] [] c1
  | 0, y, c1, h, hf, hb => by
    have e : y = n := by omega
    subst e
    have hV1 := rV_of hV (hf 0 (by decide)) (hf 3 (by decide))
    obtain ⟨⟨h8, h9, h23⟩, ⟨hn, hm, ht⟩, -⟩ := hV1
    have h6 := hn.2
    refine mR 3 rfl trivial ?_
    rw [h8]
    refine mbGe y y rfl (by omega) (by omega) (fun _ => ?_) (fun h => by omega)
    refine mR 2 rfl trivial ?_
    exact mW (hk c1 hf (rBt_nx hb)) ⟨Or.inr rfl, Or.inr rfl, Or.inr (by rw [nI_1]), Or.inl rfl, Or.inl rfl, trivial⟩ rfl rfl
  | u + 1, y, c1, h, hf, hb => by
    have hV1 := rV_of hV (hf 0 (by decide)) (hf 3 (by decide))
    have hV0 := hV1
    obtain ⟨⟨h8, h9, h23⟩, ⟨hn, hm, ht⟩, -⟩ := hV0
    have h6 := hn.2
    have hy : y < n := by omega
    refine mR 3 rfl trivial ?_
    rw [h8]
    refine mbGe y n rfl (by omega) (by omega) (fun h => by omega) (fun _ => ?_)
    refine mR 2 rfl trivial ?_
    refine mbEq x y rfl (by omega) (by omega) (fun e => ?_) (fun e => ?_)
    · subst e
      refine mR 2 rfl trivial ?_
      exact mS (lp_Mo_beatsBy_in3 hV hx hk u (x + 1) c1 (by omega) hf (rBt_sk hb)) (by rw [nI_1]) rfl rfl
    · refine mR 4 rfl trivial ?_
      refine mx_E_callV (sp_Mo_votesOf3 _ hV1 hx hy) rfl rfl rfl (fun r c2 h => ?_)
      obtain ⟨rfl, h⟩ := h
      subst h
      refine mR 4 rfl trivial ?_
      refine mx_E_callV (sp_Mo_votesOf3 _ hV1 hy hx) rfl rfl rfl (fun r c3 h => ?_)
      obtain ⟨rfl, h⟩ := h
      subst h
      have ha := mvt_le t m n R x y
      have hb2 := mvt_le t m n R y x
      have ix : ((6 : Int32) * nI x + nI y).toNatClampNeg = 6 * x + y := by rw [ix6, nI_cl (by omega)]
      have ixv : vp_in ((6 : Int32) * nI x + nI y) 36 := by rw [ix6]; exact mI (by omega)
      refine mR 10 rfl trivial ?_
      refine mx_E_br rfl rfl (fun hc => ?_) (fun hc => ?_)
      · rw [d_pos (by omega) (by omega)] at hc
        refine mR 5 rfl (mA1 ixv) ?_
        rw [ix]
        exact mW (lp_Mo_beatsBy_in3 hV hx hk u (y + 1) _ (by omega) (mfr_up hf (by decide)) (rBt_up h6 hy hb (by rw [show mbeat t m n R x y = true from decide_eq_true (Or.inl hc)]; rfl))) ⟨Or.inr rfl, Or.inr rfl, Or.inr rfl, Or.inr (by rw [nI_1]), Or.inl rfl, trivial⟩ rfl rfl
      · rw [d_pos (by omega) (by omega)] at hc
        refine mR 1 rfl trivial ?_
        refine mx_E_br rfl rfl (fun hd => ?_) (fun hd => ?_)
        · rw [d_eq (by omega) (by omega)] at hd
          refine mR 4 rfl (mA1 ixv) ?_
          rw [ix]
          exact mW (lp_Mo_beatsBy_in3 hV hx hk u (y + 1) _ (by omega) (mfr_up hf (by decide)) (rBt_up h6 hy hb (by rw [show mbeat t m n R x y = false from decide_eq_false (by omega)]; rfl))) ⟨Or.inr rfl, Or.inr rfl, Or.inr rfl, Or.inr (by rw [nI_1]), Or.inl rfl, trivial⟩ rfl rfl
        · rw [d_eq (by omega) (by omega)] at hd
          refine mR 2 rfl trivial ?_
          refine mbGe x y rfl (by omega) (by omega) (fun he => ?_) (fun he => ?_)
          · refine mR 4 rfl (mA1 ixv) ?_
            rw [ix]
            exact mW (lp_Mo_beatsBy_in3 hV hx hk u (y + 1) _ (by omega) (mfr_up hf (by decide)) (rBt_up h6 hy hb (by rw [show mbeat t m n R x y = false from decide_eq_false (by omega)]; rfl))) ⟨Or.inr rfl, Or.inr rfl, Or.inr rfl, Or.inr (by rw [nI_1]), Or.inl rfl, trivial⟩ rfl rfl
          · refine mR 5 rfl (mA1 ixv) ?_
            rw [ix]
            exact mW (lp_Mo_beatsBy_in3 hV hx hk u (y + 1) _ (by omega) (mfr_up hf (by decide)) (rBt_up h6 hy hb (by rw [show mbeat t m n R x y = true from decide_eq_true (by omega)]; rfl))) ⟨Or.inr rfl, Or.inr rfl, Or.inr rfl, Or.inr (by rw [nI_1]), Or.inl rfl, trivial⟩ rfl rfl
theorem lp_Mo_beatsBy3 {Q : Option Value → mx_M → Prop} {c : mx_M} {n m t nd : Nat} {R : Nat → Nat → Nat} {kd : Nat → Option Nat} {sz : Nat → Nat} (hV : rV c 3 t n m R kd sz nd) (hq : ∀ c', mfr [11] c c' → rBt c' t m n R n 0 → Q none c') :
    ∀ (u x : Nat) (c1 : mx_M), x + u = n → mfr [11] c c1 → rBt c1 t m n R x 0 → mx_E 1 3 m_Mo_beatsBy Q 2 [.ref 0, .ref 3, .int (nI x), .null, .null] [] c1
  | 0, x, c1, h, hf, hb => by
    have e : x = n := by omega
    subst e
    have hV1 := rV_of hV (hf 0 (by decide)) (hf 3 (by decide))
    obtain ⟨⟨h8, h9, h23⟩, ⟨hn, hm, ht⟩, -⟩ := hV1
    have h6 := hn.2
    refine mR 3 rfl trivial ?_
    rw [h8]
    refine mbGe x x rfl (by omega) (by omega) (fun _ => ?_) (fun h => by omega)
    exact mx_E_vret rfl rfl (hq c1 hf hb)
  | u + 1, x, c1, h, hf, hb => by
    have hV1 := rV_of hV (hf 0 (by decide)) (hf 3 (by decide))
    obtain ⟨⟨h8, h9, h23⟩, ⟨hn, hm, ht⟩, -⟩ := hV1
    have h6 := hn.2
    refine mR 3 rfl trivial ?_
    rw [h8]
    refine mbGe x n rfl (by omega) (by omega) (fun h => by omega) (fun _ => ?_)
    refine mR 2 rfl trivial ?_
    exact lp_Mo_beatsBy_in3 hV (by omega) (fun c2 hf2 hb2 => lp_Mo_beatsBy3 hV hq u (x + 1) c2 (by omega) hf2 hb2) n 0 c1 (by omega) hf hb
theorem sp_Mo_beatsBy3 (c : mx_M) {n m t nd : Nat} {R : Nat → Nat → Nat} {kd : Nat → Option Nat} {sz : Nat → Nat} (hV : rV c 3 t n m R kd sz nd) : mx_Spec 1 3 m_Mo_beatsBy [.ref 0, .ref 3] c (fun r c' => r = none ∧ mfr [11] c c' ∧ ∀ x y, x < n → y < n → x ≠ y → c' 11 (6 * x + y) = mz (mbeat t m n R x y)) := by
  refine mx_Spec_E rfl rfl rfl ?_
  refine mR 2 rfl trivial ?_
  exact lp_Mo_beatsBy3 hV (fun c' h1 h2 => ⟨rfl, h1, fun x y hx hy hxy => h2 x y hx hy hxy (Or.inl hx)⟩) n 0 c (by omega) (mfr_rf _ _) (fun x' y' _ _ _ h => by omega)
theorem lp_Mo_foreseen3 {Q : Option Value → mx_M → Prop} {c : mx_M} {n m t nd z : Nat} {R : Nat → Nat → Nat} {kd : Nat → Option Nat} {sz : Nat → Nat} (hV : rV c 3 t n m R kd sz nd) (hB : ∀ x y, x < n → y < n → x ≠ y → c 11 (6 * x + y) = mz (mbeat t m n R x y)) (hz : z < nd) (hq : ∀ c', mfr [13] c c' → Q (some (.int (nI (mfor t m n R kd sz nd z)))) c') :
    ∀ (k : Nat) (c1 : mx_M), k ≤ nd → mfr [13] c c1 → (∀ j, k ≤ j → j < nd → c1 13 j = nI (mfor t m n R kd sz nd j)) → mx_E 1 4 m_Mo_foreseen Q 9 [.ref 0, .ref 3, .int (nI z), .int (nI k - 1), .null, .null] [] c1
  | 0, c1, hk, hfr, hi => by
    have h63 := hV.2.2.2.2.1.2.1
    refine mR 1 rfl trivial ?_
    refine mx_E_br rfl rfl (fun _ => ?_) (fun h => absurd (by decide) h)
    refine mR 4 rfl (mA1 (mI (by omega))) ?_
    rw [nI_cl (by omega), hi z (Nat.zero_le z) hz]
    exact mx_E_iret rfl rfl (hq c1 hfr)
  | k + 1, c1, hk, hfr, hi => by
    have hV1 := rV_of hV (hfr 0 (by decide)) (hfr 3 (by decide))
    obtain ⟨-, ⟨hn, -, -⟩, -, -, hM, hT⟩ := hV1
    have hB1 : ∀ x y, x < n → y < n → x ≠ y → c1 11 (6 * x + y) = mz (mbeat t m n R x y) := by rw [hfr 11 (by decide)]; exact hB
    have h63 := hM.2.1
    have h6 := hn.2
    have hk1 : k < nd := by omega
    have hkd := rd_kd3 hT h63 hk1
    have nxt : ∀ (v : Int32) (x4 x5 : Value), v = nI (mfor t m n R kd sz nd k) → mx_E 1 4 m_Mo_foreseen Q 9 [.ref 0, .ref 3, .int (nI z), .int (nI k - 1), .null, .null] [] (mx_up c1 13 k v) := by
      intro v x4 x5 hv
      refine lp_Mo_foreseen3 hV hB hz hq k _ (by omega) (mfr_up hfr (by decide)) (fun j h1 h2 => ?_)
      rcases Nat.lt_or_ge k j with h3 | h3
      · rw [mx_up_ix _ _ _ _ _ _ (by omega)]
        exact hi j (by omega) h2
      · have e2 : j = k := by omega
        rw [e2, mx_up_same, hv]
    rw [nI_p1]
    refine mR 1 rfl trivial ?_
    refine mx_E_br rfl rfl (fun h => absurd h (nI_pos (by omega))) (fun _ => ?_)
    refine mR 6 rfl (mA1 (by rw [ixA 55 rfl]; exact mI (by omega))) ?_
    rw [hkd]
    cases e : kd k with
    | some q =>
      obtain ⟨hq6, -⟩ := mtree_leaf hM hk1 e
      refine mx_E_br rfl rfl (fun h => absurd h (kI_ne (by omega))) (fun _ => ?_)
      rw [e] at hkd
      refine mR 12 rfl (mA2 (by rw [ixA 55 rfl]; exact mI (by omega)) (mI (by omega))) ?_
      rw [hkd, nI_cl (by omega), nI_m1]
      exact nxt _ .null .null (by rw [show mfor t m n R kd sz nd k = q from mF_leaf _ _ hk1 e]; rfl)
    | none =>
      obtain ⟨g1, g2, g3, g4, g5, g6⟩ := mtree_vote hM hk1 e
      have on := rd_on3 hT h63 hk1 e
      have tw := rd_tw3 hT h63 hk1 e
      have i1 := hi (k + 1) (by omega) g5
      have i2 := hi (k + 1 + sz (k + 1)) (by omega) g6
      have l1 : mfor t m n R kd sz nd (k + 1) < n := mfor_lt hM g5
      have l2 : mfor t m n R kd sz nd (k + 1 + sz (k + 1)) < n := mfor_lt hM g6
      have hv : mfor t m n R kd sz nd k = if mfor t m n R kd sz nd (k + 1) = mfor t m n R kd sz nd (k + 1 + sz (k + 1)) ∨ mbeat t m n R (mfor t m n R kd sz nd (k + 1)) (mfor t m n R kd sz nd (k + 1 + sz (k + 1))) = true then mfor t m n R kd sz nd (k + 1) else mfor t m n R kd sz nd (k + 1 + sz (k + 1)) := mF_vote _ _ hM hk1 e
      refine mx_E_br rfl rfl (fun _ => ?_) (fun h => absurd rfl h)
      refine mR 23 rfl (mA4 (by rw [ixA 118 rfl]; exact mI (by omega)) (by rw [on]; exact mI (by omega)) (by rw [ixA 181 rfl]; exact mI (by omega)) (by rw [tw]; exact mI (by omega))) ?_
      rw [on, tw, nI_cl (by omega), nI_cl (by omega), i1, i2]
      refine mbEq _ _ rfl (by omega) (by omega) (fun hc => ?_) (fun hc => ?_)
      · refine mR 5 rfl (mA1 (mI (by omega))) ?_
        rw [nI_cl (by omega), nI_m1]
        refine mW (nxt _ .null .null ?_) ⟨Or.inr rfl, Or.inr rfl, Or.inr rfl, Or.inr rfl, Or.inl rfl, Or.inl rfl, trivial⟩ rfl rfl
        rw [hv, if_pos (Or.inl hc)]
      · refine mR 8 rfl (mA1 (by rw [ix6]; exact mI (by omega))) ?_
        rw [ix6, nI_cl (by omega), hB1 _ _ l1 l2 hc]
        refine mbT rfl (fun hb => ?_) (fun hb => ?_)
        · refine mR 4 rfl (mA1 (mI (by omega))) ?_
          rw [nI_cl (by omega), nI_m1]
          refine mW (nxt _ .null .null ?_) ⟨Or.inr rfl, Or.inr rfl, Or.inr rfl, Or.inr rfl, Or.inl rfl, Or.inl rfl, trivial⟩ rfl rfl
          rw [hv, if_neg (by rw [hb]; simp [hc])]
        · refine mR 5 rfl (mA1 (mI (by omega))) ?_
          rw [nI_cl (by omega), nI_m1]
          refine mW (nxt _ .null .null ?_) ⟨Or.inr rfl, Or.inr rfl, Or.inr rfl, Or.inr rfl, Or.inl rfl, Or.inl rfl, trivial⟩ rfl rfl
          rw [hv, if_pos (Or.inr hb)]
theorem sp_Mo_foreseen3 (c : mx_M) {n m t k nd : Nat} {R : Nat → Nat → Nat} {kd : Nat → Option Nat} {sz : Nat → Nat} (hV : rV c 3 t n m R kd sz nd) (hk : k < nd) : mx_Spec 1 4 m_Mo_foreseen [.ref 0, .ref 3, .int (nI k)] c (fun r c' => r = some (.int (nI (mfor t m n R kd sz nd k))) ∧ mfr [11, 13] c c') := by
  refine mx_Spec_E rfl rfl rfl ?_
  refine mR 2 rfl trivial ?_
  refine mx_E_callV (sp_Mo_beatsBy3 _ hV) rfl rfl rfl (fun r c1 h => ?_)
  obtain ⟨rfl, hf, hB⟩ := h
  have hV1 := rV_of hV (hf 0 (by decide)) (hf 3 (by decide))
  refine mR 6 rfl (mA1 (mI (n := 54) (by decide))) ?_
  refine mS (lp_Mo_foreseen3 hV1 hB hk (fun c' h1 => ⟨rfl, mfr_tr (mfr_mo hf (fun r hr => by simp at hr; simp [hr])) (mfr_mo h1 (fun r hr => by simp at hr; simp [hr]))⟩) nd c1 (Nat.le_refl nd) (mfr_rf _ _) (fun j h1 h2 => by omega)) ?_ rfl rfl
  rw [show ((54 : Int32)).toNatClampNeg = 54 by decide, hV1.2.2.2.2.2.1]
theorem sp_Mo_outcome3 (c : mx_M) {n m t w nd : Nat} {R : Nat → Nat → Nat} {kd : Nat → Option Nat} {sz : Nat → Nat} (hV : rV c 3 t n m R kd sz nd) (hw : w < 2) : mx_Spec 1 5 m_Mo_outcome [.ref 0, .ref 3, .int (nI w)] c (fun r c' => r = some (.int (nI (mout w t m n R kd sz nd))) ∧ mfr [11, 12, 13] c c') := by
  have h1 := hV.2.2.2.2.1.1
  refine mx_Spec_E rfl rfl rfl ?_
  refine mR 1 rfl trivial ?_
  rcases (show w = 0 ∨ w = 1 by omega) with rfl | rfl
  · refine mx_E_br rfl rfl (fun h => absurd rfl h) (fun _ => ?_)
    refine mR 3 rfl trivial ?_
    refine mx_E_callV (sp_Mo_sincere3 (k := 0) _ hV (by omega)) rfl rfl rfl (fun r c1 h => ?_)
    obtain ⟨rfl, hf⟩ := h
    refine mR 1 rfl trivial ?_
    exact mx_E_iret rfl rfl ⟨rfl, mfr_mo hf (fun r hr => by simp at hr; simp [hr])⟩
  · refine mx_E_br rfl rfl (fun _ => ?_) (fun h => absurd (by decide) h)
    refine mR 3 rfl trivial ?_
    refine mx_E_callV (sp_Mo_foreseen3 (k := 0) _ hV (by omega)) rfl rfl rfl (fun r c1 h => ?_)
    obtain ⟨rfl, hf⟩ := h
    exact mx_E_iret rfl rfl ⟨rfl, mfr_mo hf (fun r hr => by simp at hr; rcases hr with hr | hr <;> simp [hr])⟩
theorem lp_Mo_beatsBy_in4 {Q : Option Value → mx_M → Prop} {c : mx_M} {n m t x nd : Nat} {R : Nat → Nat → Nat} {kd : Nat → Option Nat} {sz : Nat → Nat} (hV : rV c 4 t n m R kd sz nd) (hx : x < n) (hk : ∀ c2, mfr [11] c c2 → rBt c2 t m n R (x + 1) 0 → mx_E 1 3 m_Mo_beatsBy Q 2 [.ref 0, .ref 4, .int (nI (x + 1)), .null, .null] [] c2) :
    ∀ (u y : Nat) (c1 : mx_M), y + u = n → mfr [11] c c1 → rBt c1 t m n R x y → mx_E 1 3 m_Mo_beatsBy Q 8 [.ref 0, .ref 4, .int (nI x), .int (nI y), .null] [] c1
  | 0, y, c1, h, hf, hb => by
    have e : y = n := by omega
    subst e
    have hV1 := rV_of hV (hf 0 (by decide)) (hf 4 (by decide))
    obtain ⟨⟨h8, h9, h23⟩, ⟨hn, hm, ht⟩, -⟩ := hV1
    have h6 := hn.2
    refine mR 3 rfl trivial ?_
    rw [h8]
    refine mbGe y y rfl (by omega) (by omega) (fun _ => ?_) (fun h => by omega)
    refine mR 2 rfl trivial ?_
    exact mW (hk c1 hf (rBt_nx hb)) ⟨Or.inr rfl, Or.inr rfl, Or.inr (by rw [nI_1]), Or.inl rfl, Or.inl rfl, trivial⟩ rfl rfl
  | u + 1, y, c1, h, hf, hb => by
    have hV1 := rV_of hV (hf 0 (by decide)) (hf 4 (by decide))
    have hV0 := hV1
    obtain ⟨⟨h8, h9, h23⟩, ⟨hn, hm, ht⟩, -⟩ := hV0
    have h6 := hn.2
    have hy : y < n := by omega
    refine mR 3 rfl trivial ?_
    rw [h8]
    refine mbGe y n rfl (by omega) (by omega) (fun h => by omega) (fun _ => ?_)
    refine mR 2 rfl trivial ?_
    refine mbEq x y rfl (by omega) (by omega) (fun e => ?_) (fun e => ?_)
    · subst e
      refine mR 2 rfl trivial ?_
      exact mS (lp_Mo_beatsBy_in4 hV hx hk u (x + 1) c1 (by omega) hf (rBt_sk hb)) (by rw [nI_1]) rfl rfl
    · refine mR 4 rfl trivial ?_
      refine mx_E_callV (sp_Mo_votesOf4 _ hV1 hx hy) rfl rfl rfl (fun r c2 h => ?_)
      obtain ⟨rfl, h⟩ := h
      subst h
      refine mR 4 rfl trivial ?_
      refine mx_E_callV (sp_Mo_votesOf4 _ hV1 hy hx) rfl rfl rfl (fun r c3 h => ?_)
      obtain ⟨rfl, h⟩ := h
      subst h
      have ha := mvt_le t m n R x y
      have hb2 := mvt_le t m n R y x
      have ix : ((6 : Int32) * nI x + nI y).toNatClampNeg = 6 * x + y := by rw [ix6, nI_cl (by omega)]
      have ixv : vp_in ((6 : Int32) * nI x + nI y) 36 := by rw [ix6]; exact mI (by omega)
      refine mR 10 rfl trivial ?_
      refine mx_E_br rfl rfl (fun hc => ?_) (fun hc => ?_)
      · rw [d_pos (by omega) (by omega)] at hc
        refine mR 5 rfl (mA1 ixv) ?_
        rw [ix]
        exact mW (lp_Mo_beatsBy_in4 hV hx hk u (y + 1) _ (by omega) (mfr_up hf (by decide)) (rBt_up h6 hy hb (by rw [show mbeat t m n R x y = true from decide_eq_true (Or.inl hc)]; rfl))) ⟨Or.inr rfl, Or.inr rfl, Or.inr rfl, Or.inr (by rw [nI_1]), Or.inl rfl, trivial⟩ rfl rfl
      · rw [d_pos (by omega) (by omega)] at hc
        refine mR 1 rfl trivial ?_
        refine mx_E_br rfl rfl (fun hd => ?_) (fun hd => ?_)
        · rw [d_eq (by omega) (by omega)] at hd
          refine mR 4 rfl (mA1 ixv) ?_
          rw [ix]
          exact mW (lp_Mo_beatsBy_in4 hV hx hk u (y + 1) _ (by omega) (mfr_up hf (by decide)) (rBt_up h6 hy hb (by rw [show mbeat t m n R x y = false from decide_eq_false (by omega)]; rfl))) ⟨Or.inr rfl, Or.inr rfl, Or.inr rfl, Or.inr (by rw [nI_1]), Or.inl rfl, trivial⟩ rfl rfl
        · rw [d_eq (by omega) (by omega)] at hd
          refine mR 2 rfl trivial ?_
          refine mbGe x y rfl (by omega) (by omega) (fun he => ?_) (fun he => ?_)
          · refine mR 4 rfl (mA1 ixv) ?_
            rw [ix]
            exact mW (lp_Mo_beatsBy_in4 hV hx hk u (y + 1) _ (by omega) (mfr_up hf (by decide)) (rBt_up h6 hy hb (by rw [show mbeat t m n R x y = false from decide_eq_false (by omega)]; rfl))) ⟨Or.inr rfl, Or.inr rfl, Or.inr rfl, Or.inr (by rw [nI_1]), Or.inl rfl, trivial⟩ rfl rfl
          · refine mR 5 rfl (mA1 ixv) ?_
            rw [ix]
            exact mW (lp_Mo_beatsBy_in4 hV hx hk u (y + 1) _ (by omega) (mfr_up hf (by decide)) (rBt_up h6 hy hb (by rw [show mbeat t m n R x y = true from decide_eq_true (by omega)]; rfl))) ⟨Or.inr rfl, Or.inr rfl, Or.inr rfl, Or.inr (by rw [nI_1]), Or.inl rfl, trivial⟩ rfl rfl
theorem lp_Mo_beatsBy4 {Q : Option Value → mx_M → Prop} {c : mx_M} {n m t nd : Nat} {R : Nat → Nat → Nat} {kd : Nat → Option Nat} {sz : Nat → Nat} (hV : rV c 4 t n m R kd sz nd) (hq : ∀ c', mfr [11] c c' → rBt c' t m n R n 0 → Q none c') :
    ∀ (u x : Nat) (c1 : mx_M), x + u = n → mfr [11] c c1 → rBt c1 t m n R x 0 → mx_E 1 3 m_Mo_beatsBy Q 2 [.ref 0, .ref 4, .int (nI x), .null, .null] [] c1
  | 0, x, c1, h, hf, hb => by
    have e : x = n := by omega
    subst e
    have hV1 := rV_of hV (hf 0 (by decide)) (hf 4 (by decide))
    obtain ⟨⟨h8, h9, h23⟩, ⟨hn, hm, ht⟩, -⟩ := hV1
    have h6 := hn.2
    refine mR 3 rfl trivial ?_
    rw [h8]
    refine mbGe x x rfl (by omega) (by omega) (fun _ => ?_) (fun h => by omega)
    exact mx_E_vret rfl rfl (hq c1 hf hb)
  | u + 1, x, c1, h, hf, hb => by
    have hV1 := rV_of hV (hf 0 (by decide)) (hf 4 (by decide))
    obtain ⟨⟨h8, h9, h23⟩, ⟨hn, hm, ht⟩, -⟩ := hV1
    have h6 := hn.2
    refine mR 3 rfl trivial ?_
    rw [h8]
    refine mbGe x n rfl (by omega) (by omega) (fun h => by omega) (fun _ => ?_)
    refine mR 2 rfl trivial ?_
    exact lp_Mo_beatsBy_in4 hV (by omega) (fun c2 hf2 hb2 => lp_Mo_beatsBy4 hV hq u (x + 1) c2 (by omega) hf2 hb2) n 0 c1 (by omega) hf hb
theorem sp_Mo_beatsBy4 (c : mx_M) {n m t nd : Nat} {R : Nat → Nat → Nat} {kd : Nat → Option Nat} {sz : Nat → Nat} (hV : rV c 4 t n m R kd sz nd) : mx_Spec 1 3 m_Mo_beatsBy [.ref 0, .ref 4] c (fun r c' => r = none ∧ mfr [11] c c' ∧ ∀ x y, x < n → y < n → x ≠ y → c' 11 (6 * x + y) = mz (mbeat t m n R x y)) := by
  refine mx_Spec_E rfl rfl rfl ?_
  refine mR 2 rfl trivial ?_
  exact lp_Mo_beatsBy4 hV (fun c' h1 h2 => ⟨rfl, h1, fun x y hx hy hxy => h2 x y hx hy hxy (Or.inl hx)⟩) n 0 c (by omega) (mfr_rf _ _) (fun x' y' _ _ _ h => by omega)
theorem lp_Mo_foreseen4 {Q : Option Value → mx_M → Prop} {c : mx_M} {n m t nd z : Nat} {R : Nat → Nat → Nat} {kd : Nat → Option Nat} {sz : Nat → Nat} (hV : rV c 4 t n m R kd sz nd) (hB : ∀ x y, x < n → y < n → x ≠ y → c 11 (6 * x + y) = mz (mbeat t m n R x y)) (hz : z < nd) (hq : ∀ c', mfr [13] c c' → Q (some (.int (nI (mfor t m n R kd sz nd z)))) c') :
    ∀ (k : Nat) (c1 : mx_M), k ≤ nd → mfr [13] c c1 → (∀ j, k ≤ j → j < nd → c1 13 j = nI (mfor t m n R kd sz nd j)) → mx_E 1 4 m_Mo_foreseen Q 9 [.ref 0, .ref 4, .int (nI z), .int (nI k - 1), .null, .null] [] c1
  | 0, c1, hk, hfr, hi => by
    have h63 := hV.2.2.2.2.1.2.1
    refine mR 1 rfl trivial ?_
    refine mx_E_br rfl rfl (fun _ => ?_) (fun h => absurd (by decide) h)
    refine mR 4 rfl (mA1 (mI (by omega))) ?_
    rw [nI_cl (by omega), hi z (Nat.zero_le z) hz]
    exact mx_E_iret rfl rfl (hq c1 hfr)
  | k + 1, c1, hk, hfr, hi => by
    have hV1 := rV_of hV (hfr 0 (by decide)) (hfr 4 (by decide))
    obtain ⟨-, ⟨hn, -, -⟩, -, -, hM, hT⟩ := hV1
    have hB1 : ∀ x y, x < n → y < n → x ≠ y → c1 11 (6 * x + y) = mz (mbeat t m n R x y) := by rw [hfr 11 (by decide)]; exact hB
    have h63 := hM.2.1
    have h6 := hn.2
    have hk1 : k < nd := by omega
    have hkd := rd_kd4 hT h63 hk1
    have nxt : ∀ (v : Int32) (x4 x5 : Value), v = nI (mfor t m n R kd sz nd k) → mx_E 1 4 m_Mo_foreseen Q 9 [.ref 0, .ref 4, .int (nI z), .int (nI k - 1), .null, .null] [] (mx_up c1 13 k v) := by
      intro v x4 x5 hv
      refine lp_Mo_foreseen4 hV hB hz hq k _ (by omega) (mfr_up hfr (by decide)) (fun j h1 h2 => ?_)
      rcases Nat.lt_or_ge k j with h3 | h3
      · rw [mx_up_ix _ _ _ _ _ _ (by omega)]
        exact hi j (by omega) h2
      · have e2 : j = k := by omega
        rw [e2, mx_up_same, hv]
    rw [nI_p1]
    refine mR 1 rfl trivial ?_
    refine mx_E_br rfl rfl (fun h => absurd h (nI_pos (by omega))) (fun _ => ?_)
    refine mR 6 rfl (mA1 (by rw [ixA 55 rfl]; exact mI (by omega))) ?_
    rw [hkd]
    cases e : kd k with
    | some q =>
      obtain ⟨hq6, -⟩ := mtree_leaf hM hk1 e
      refine mx_E_br rfl rfl (fun h => absurd h (kI_ne (by omega))) (fun _ => ?_)
      rw [e] at hkd
      refine mR 12 rfl (mA2 (by rw [ixA 55 rfl]; exact mI (by omega)) (mI (by omega))) ?_
      rw [hkd, nI_cl (by omega), nI_m1]
      exact nxt _ .null .null (by rw [show mfor t m n R kd sz nd k = q from mF_leaf _ _ hk1 e]; rfl)
    | none =>
      obtain ⟨g1, g2, g3, g4, g5, g6⟩ := mtree_vote hM hk1 e
      have on := rd_on4 hT h63 hk1 e
      have tw := rd_tw4 hT h63 hk1 e
      have i1 := hi (k + 1) (by omega) g5
      have i2 := hi (k + 1 + sz (k + 1)) (by omega) g6
      have l1 : mfor t m n R kd sz nd (k + 1) < n := mfor_lt hM g5
      have l2 : mfor t m n R kd sz nd (k + 1 + sz (k + 1)) < n := mfor_lt hM g6
      have hv : mfor t m n R kd sz nd k = if mfor t m n R kd sz nd (k + 1) = mfor t m n R kd sz nd (k + 1 + sz (k + 1)) ∨ mbeat t m n R (mfor t m n R kd sz nd (k + 1)) (mfor t m n R kd sz nd (k + 1 + sz (k + 1))) = true then mfor t m n R kd sz nd (k + 1) else mfor t m n R kd sz nd (k + 1 + sz (k + 1)) := mF_vote _ _ hM hk1 e
      refine mx_E_br rfl rfl (fun _ => ?_) (fun h => absurd rfl h)
      refine mR 23 rfl (mA4 (by rw [ixA 118 rfl]; exact mI (by omega)) (by rw [on]; exact mI (by omega)) (by rw [ixA 181 rfl]; exact mI (by omega)) (by rw [tw]; exact mI (by omega))) ?_
      rw [on, tw, nI_cl (by omega), nI_cl (by omega), i1, i2]
      refine mbEq _ _ rfl (by omega) (by omega) (fun hc => ?_) (fun hc => ?_)
      · refine mR 5 rfl (mA1 (mI (by omega))) ?_
        rw [nI_cl (by omega), nI_m1]
        refine mW (nxt _ .null .null ?_) ⟨Or.inr rfl, Or.inr rfl, Or.inr rfl, Or.inr rfl, Or.inl rfl, Or.inl rfl, trivial⟩ rfl rfl
        rw [hv, if_pos (Or.inl hc)]
      · refine mR 8 rfl (mA1 (by rw [ix6]; exact mI (by omega))) ?_
        rw [ix6, nI_cl (by omega), hB1 _ _ l1 l2 hc]
        refine mbT rfl (fun hb => ?_) (fun hb => ?_)
        · refine mR 4 rfl (mA1 (mI (by omega))) ?_
          rw [nI_cl (by omega), nI_m1]
          refine mW (nxt _ .null .null ?_) ⟨Or.inr rfl, Or.inr rfl, Or.inr rfl, Or.inr rfl, Or.inl rfl, Or.inl rfl, trivial⟩ rfl rfl
          rw [hv, if_neg (by rw [hb]; simp [hc])]
        · refine mR 5 rfl (mA1 (mI (by omega))) ?_
          rw [nI_cl (by omega), nI_m1]
          refine mW (nxt _ .null .null ?_) ⟨Or.inr rfl, Or.inr rfl, Or.inr rfl, Or.inr rfl, Or.inl rfl, Or.inl rfl, trivial⟩ rfl rfl
          rw [hv, if_pos (Or.inr hb)]
theorem sp_Mo_foreseen4 (c : mx_M) {n m t k nd : Nat} {R : Nat → Nat → Nat} {kd : Nat → Option Nat} {sz : Nat → Nat} (hV : rV c 4 t n m R kd sz nd) (hk : k < nd) : mx_Spec 1 4 m_Mo_foreseen [.ref 0, .ref 4, .int (nI k)] c (fun r c' => r = some (.int (nI (mfor t m n R kd sz nd k))) ∧ mfr [11, 13] c c') := by
  refine mx_Spec_E rfl rfl rfl ?_
  refine mR 2 rfl trivial ?_
  refine mx_E_callV (sp_Mo_beatsBy4 _ hV) rfl rfl rfl (fun r c1 h => ?_)
  obtain ⟨rfl, hf, hB⟩ := h
  have hV1 := rV_of hV (hf 0 (by decide)) (hf 4 (by decide))
  refine mR 6 rfl (mA1 (mI (n := 54) (by decide))) ?_
  refine mS (lp_Mo_foreseen4 hV1 hB hk (fun c' h1 => ⟨rfl, mfr_tr (mfr_mo hf (fun r hr => by simp at hr; simp [hr])) (mfr_mo h1 (fun r hr => by simp at hr; simp [hr]))⟩) nd c1 (Nat.le_refl nd) (mfr_rf _ _) (fun j h1 h2 => by omega)) ?_ rfl rfl
  rw [show ((54 : Int32)).toNatClampNeg = 54 by decide, hV1.2.2.2.2.2.1]
theorem sp_Mo_outcome4 (c : mx_M) {n m t w nd : Nat} {R : Nat → Nat → Nat} {kd : Nat → Option Nat} {sz : Nat → Nat} (hV : rV c 4 t n m R kd sz nd) (hw : w < 2) : mx_Spec 1 5 m_Mo_outcome [.ref 0, .ref 4, .int (nI w)] c (fun r c' => r = some (.int (nI (mout w t m n R kd sz nd))) ∧ mfr [11, 12, 13] c c') := by
  have h1 := hV.2.2.2.2.1.1
  refine mx_Spec_E rfl rfl rfl ?_
  refine mR 1 rfl trivial ?_
  rcases (show w = 0 ∨ w = 1 by omega) with rfl | rfl
  · refine mx_E_br rfl rfl (fun h => absurd rfl h) (fun _ => ?_)
    refine mR 3 rfl trivial ?_
    refine mx_E_callV (sp_Mo_sincere4 (k := 0) _ hV (by omega)) rfl rfl rfl (fun r c1 h => ?_)
    obtain ⟨rfl, hf⟩ := h
    refine mR 1 rfl trivial ?_
    exact mx_E_iret rfl rfl ⟨rfl, mfr_mo hf (fun r hr => by simp at hr; simp [hr])⟩
  · refine mx_E_br rfl rfl (fun _ => ?_) (fun h => absurd (by decide) h)
    refine mR 3 rfl trivial ?_
    refine mx_E_callV (sp_Mo_foreseen4 (k := 0) _ hV (by omega)) rfl rfl rfl (fun r c1 h => ?_)
    obtain ⟨rfl, hf⟩ := h
    exact mx_E_iret rfl rfl ⟨rfl, mfr_mo hf (fun r hr => by simp at hr; rcases hr with hr | hr <;> simp [hr])⟩
end
section
/-! what is told of both: pictures (rankings, agenda), the whole state; answers -/
abbrev mPic : Type := (Nat → Nat → Nat) × (Nat → Option Nat) × (Nat → Nat) × Nat
/-- motions, members; the picture; the text; what was seen; what may be undone; the images -/
abbrev mSt : Type := (Nat × Nat) × mPic × (Nat × (Nat → Int32)) × (Nat × (Nat → Nat × Nat × Nat)) × (Nat × (Nat → mPic)) × (Nat → Option mPic)
/-- x is one of 0 .. n - 1 -/
def mi (x : Int32) (n : Nat) : Bool := decide (0 ≤ x) && decide (x < nI n)
theorem mi_t {j n : Nat} (h : j < n) (hn : n < 2147483648) : mi (nI j) n = true := by
  unfold mi
  rw [decide_eq_true (nI_pos' (by omega)), decide_eq_true (nI_lt h hn)]
  rfl
theorem mi_of {x : Int32} {n : Nat} (hn : n < 2147483648) (h : mi x n = true) : ∃ j, j < n ∧ x = nI j := by
  unfold mi at h
  simp only [Bool.and_eq_true, decide_eq_true_eq] at h
  rcases pk_ix x hn with h1 | h1 | h1
  · exact absurd h.1 (fa_of_lt h1).2.1
  · exact absurd h.2 (fun z => (fa_of_lt z).2.1 h1)
  · exact h1
theorem in_mi (x : Int32) {n : Nat} (hn : n < 1000000) : decide ((0 : Int32) ≤ x ∧ x ≤ nI n - 1) = mi x n := by
  unfold mi
  have h1 : (nI n - 1 : Int32).toInt = (n : Int) - 1 := pk_sub_toInt (a := n) (b := 1) (by omega) (by omega)
  have h2 := nI_toInt (show n < 2 ^ 31 by omega)
  rw [← Bool.decide_and]
  congr 1
  rw [fa_le, fa_le, fa_lt, h1, h2]
  apply propext
  constructor
  · intro h; exact ⟨h.1, by omega⟩
  · intro h; exact ⟨h.1, by omega⟩
theorem in_mk (x : Int32) (k : Nat) (hk : k < 1000) : decide ((0 : Int32) ≤ x ∧ x ≤ nI k) = mi x (k + 1) := by
  have h := in_mi x (n := k + 1) (by omega)
  rw [nI_p1] at h
  exact h
def rP (g : Nat → Int32) (n m : Nat) (p : mPic) : Prop := (∀ j, j < m → mperm n (p.1 j)) ∧ rRk g n m p.1 ∧ mtree n p.2.1 p.2.2.1 p.2.2.2 ∧ rTb g p.2.1 p.2.2.1 p.2.2.2
theorem rP_of {g g' : Nat → Int32} {n m : Nat} {p : mPic} (hn : n ≤ 6) (hm : m ≤ 9) (h : rP g n m p) (e : ∀ k, k < 244 → g' k = g k) : rP g' n m p := by
  obtain ⟨h1, h2, h3, h4, h5⟩ := h
  have h63 := h3.2.1
  refine ⟨h1, fun i q hi hq => by rw [e _ (by omega)]; exact h2 i q hi hq, h3, by rw [e _ (by omega)]; exact h4, fun k hk => ?_⟩
  rw [e _ (by omega), e _ (by omega), e _ (by omega)]
  exact h5 k hk
/-- the reference holds the state a -/
def rI (c : mx_M) (a : mSt) : Prop :=
  (c 0 8 = nI a.1.1 ∧ c 0 9 = nI a.1.2 ∧ mn a.1.1 ∧ a.1.2 ≤ 9) ∧ rP (c 3) a.1.1 a.1.2 a.2.1 ∧
  (c 0 2 = nI a.2.2.1.1 ∧ a.2.2.1.1 ≤ 120 ∧ ∀ i, i < a.2.2.1.1 → c 1 i = a.2.2.1.2 i) ∧
  (c 0 22 = nI a.2.2.2.1.1 ∧ a.2.2.2.1.1 ≤ 6 ∧ ∀ i, i < a.2.2.2.1.1 → c 8 i = nI (a.2.2.2.1.2 i).1 ∧ c 9 i = nI (a.2.2.2.1.2 i).2.1 ∧ c 10 i = nI (a.2.2.2.1.2 i).2.2 ∧ (a.2.2.2.1.2 i).1 < 64 ∧ (a.2.2.2.1.2 i).2.1 < 64 ∧ (a.2.2.2.1.2 i).2.2 < 2) ∧
  (c 0 16 = nI a.2.2.2.2.1.1 ∧ a.2.2.2.2.1.1 ≤ 10 ∧ ∀ i, i < a.2.2.2.2.1.1 → rP (fun k => c 5 (244 * i + k)) a.1.1 a.1.2 (a.2.2.2.2.1.2 i)) ∧
  (∀ i, i < 2 → c 7 i = mz (a.2.2.2.2.2 i).isSome ∧ ∀ p, a.2.2.2.2.2 i = some p → rP (fun k => c 6 (244 * i + k)) a.1.1 a.1.2 p)
/-- what the reference uses and leaves as it is -/
abbrev rSc : List Nat := [4, 11, 12, 13, 14, 15, 16, 17]
theorem rI_fr {c c' : mx_M} {a : mSt} (h : rI c a) (hf : mfr rSc c c') : rI c' a := by
  unfold rI at h ⊢
  rw [hf 0 (by decide), hf 1 (by decide), hf 3 (by decide), hf 5 (by decide), hf 6 (by decide), hf 7 (by decide), hf 8 (by decide), hf 9 (by decide), hf 10 (by decide)]
  exact h
theorem rI_up {c : mx_M} {a : mSt} {k : Nat} {x : Int32} (h : rI c a) (h2 : k ≠ 2) (h8 : k ≠ 8) (h9 : k ≠ 9) (h16 : k ≠ 16) (h22 : k ≠ 22) : rI (mx_up c 0 k x) a := by
  unfold rI at h ⊢
  rw [mx_up_ix _ _ _ _ _ _ h2.symm, mx_up_ix _ _ _ _ _ _ h8.symm, mx_up_ix _ _ _ _ _ _ h9.symm, mx_up_ix _ _ _ _ _ _ h16.symm, mx_up_ix _ _ _ _ _ _ h22.symm, mx_up_rid _ _ _ _ 1 (by decide), mx_up_rid _ _ _ _ 3 (by decide), mx_up_rid _ _ _ _ 5 (by decide), mx_up_rid _ _ _ _ 6 (by decide), mx_up_rid _ _ _ _ 7 (by decide), mx_up_rid _ _ _ _ 8 (by decide), mx_up_rid _ _ _ _ 9 (by decide), mx_up_rid _ _ _ _ 10 (by decide)]
  exact h
theorem rI_0 {c : mx_M} {a : mSt} (x : Int32) (h : rI c a) : rI (mx_up c 0 0 x) a := rI_up h (by decide) (by decide) (by decide) (by decide) (by decide)
theorem rI_V {c : mx_M} {a : mSt} {t : Nat} (h : rI c a) (h23 : c 0 23 = nI t) (ht : t < 512) : rV c 3 t a.1.1 a.1.2 a.2.1.1 a.2.1.2.1 a.2.1.2.2.1 a.2.1.2.2.2 := ⟨⟨h.1.1, h.1.2.1, h23⟩, ⟨h.1.2.2.1, h.1.2.2.2, ht⟩, h.2.1.1, h.2.1.2.1, h.2.1.2.2.1, h.2.1.2.2.2⟩
theorem sp_Mo_isMotion (c : mx_M) (x : Int32) (n : Nat) (h : c 0 8 = nI n) (hn : n < 1000000) : mx_Spec 1 2 m_Mo_isMotion [.ref 0, .int x] c (fun r c' => r = some (.int (mz (mi x n))) ∧ c' = c) := by
  refine mx_Spec_E rfl rfl rfl ?_
  refine mR 6 rfl trivial ?_
  rw [h]
  refine mx_E_callS (sp_Mo_in _ _ _ _) rfl rfl rfl (fun r c1 h => ?_)
  obtain ⟨rfl, h⟩ := h
  subst h
  refine mx_E_zret rfl rfl (mz_01 _) ⟨?_, rfl⟩
  rw [in_mi x hn]
theorem sp_Mo_isMember (c : mx_M) (x : Int32) (n : Nat) (h : c 0 9 = nI n) (hn : n < 1000000) : mx_Spec 1 2 m_Mo_isMember [.ref 0, .int x] c (fun r c' => r = some (.int (mz (mi x n))) ∧ c' = c) := by
  refine mx_Spec_E rfl rfl rfl ?_
  refine mR 6 rfl trivial ?_
  rw [h]
  refine mx_E_callS (sp_Mo_in _ _ _ _) rfl rfl rfl (fun r c1 h => ?_)
  obtain ⟨rfl, h⟩ := h
  subst h
  refine mx_E_zret rfl rfl (mz_01 _) ⟨?_, rfl⟩
  rw [in_mi x hn]
theorem c54 : ((54 : Int32)).toNatClampNeg = 54 := by decide
theorem sp_Mo_isNode (c : mx_M) (x : Int32) (n : Nat) (h : c 3 54 = nI n) (hn : n < 1000000) : mx_Spec 1 2 m_Mo_isNode [.ref 0, .int x] c (fun r c' => r = some (.int (mz (mi x n))) ∧ c' = c) := by
  refine mx_Spec_E rfl rfl rfl ?_
  refine mR 8 rfl (mA1 (mI (n := 54) (by decide))) ?_
  rw [c54, h]
  refine mx_E_callS (sp_Mo_in _ _ _ _) rfl rfl rfl (fun r c1 h => ?_)
  obtain ⟨rfl, h⟩ := h
  subst h
  refine mx_E_zret rfl rfl (mz_01 _) ⟨?_, rfl⟩
  rw [in_mi x hn]
theorem sp_Mo_isWay (c : mx_M) (x : Int32) : mx_Spec 1 2 m_Mo_isWay [.int x] c (fun r c' => r = some (.int (mz (mi x 2))) ∧ c' = c) := by
  refine mx_Spec_E rfl rfl rfl ?_
  refine mR 3 rfl trivial ?_
  refine mx_E_callS (sp_Mo_in _ _ _ _) rfl rfl rfl (fun r c1 h => ?_)
  obtain ⟨rfl, h⟩ := h
  subst h
  refine mx_E_zret rfl rfl (mz_01 _) ⟨?_, rfl⟩
  rw [← in_mk x 1 (by decide)]
  rfl
theorem pw1 {m : Nat} (h : m ≤ 9) : ((1 : Int32) <<< (nI m &&& 31)) - 1 = nI (2 ^ m - 1) := (by decide +kernel : ∀ m, m ≤ 9 → ((1 : Int32) <<< (nI m &&& 31)) - 1 = nI (2 ^ m - 1)) m h
theorem pw_lt {m : Nat} (h : m ≤ 9) : 2 ^ m - 1 < 512 := by
  have := Nat.pow_le_pow_right (show 0 < 2 by decide) h
  omega
theorem sp_Mo_all (c : mx_M) (m : Nat) (h : c 0 9 = nI m) (hm : m ≤ 9) : mx_Spec 1 1 m_Mo_all [.ref 0] c (fun r c' => r = none ∧ c' = mx_up c 0 23 (nI (2 ^ m - 1))) := by
  refine mx_Spec_E rfl rfl rfl ?_
  refine mR 8 rfl trivial ?_
  rw [h, pw1 hm]
  exact mx_E_vret rfl rfl ⟨rfl, rfl⟩
/-- refused -/
def mBAD (a : mSt) : Int32 × mSt := (-1, a)
def aType (a : mSt) (x : Int32) : Int32 × mSt := if mi x 256 then (if a.2.2.1.1 = 120 then (-3, a) else (nI (a.2.2.1.1 + 1), (a.1, a.2.1, (a.2.2.1.1 + 1, upd a.2.2.1.2 a.2.2.1.1 x), a.2.2.2))) else mBAD a
def aClear (a : mSt) : Int32 × mSt := (nI a.2.2.1.1, (a.1, a.2.1, (0, a.2.2.1.2), a.2.2.2))
def aForget (a : mSt) : Int32 × mSt := (nI a.2.2.2.1.1, (a.1, a.2.1, a.2.2.1, (0, a.2.2.2.1.2), a.2.2.2.2))
def aRanking (a : mSt) (x y : Int32) : Int32 × mSt := if mi x a.1.2 && mi y a.1.1 then (nI (a.2.1.1 x.toNatClampNeg y.toNatClampNeg), a) else mBAD a
def aVotes (a : mSt) (x y : Int32) : Int32 × mSt := if mi x a.1.1 && mi y a.1.1 && !(decide (x = y)) then (nI (mvt (2 ^ a.1.2 - 1) a.1.2 a.1.1 a.2.1.1 x.toNatClampNeg y.toNatClampNeg), a) else mBAD a
def aOrder (a : mSt) (x y : Int32) : Int32 × mSt := if mi x (mfact a.1.1) && mi y a.1.1 then (nI (mo a.1.1 x.toNatClampNeg y.toNatClampNeg), a) else mBAD a
theorem qr_clear {c : mx_M} {a : mSt} (h : rI c a) : mx_Spec 1 1 m_Mo_clear [.ref 0] c (fun r c' => r = some (.int (aClear a).1) ∧ rI c' (aClear a).2) := by
  refine mx_Spec_E rfl rfl rfl ?_
  refine mR 10 rfl trivial ?_
  rw [mx_up_ix _ _ _ _ _ _ (by decide), h.2.2.1.1]
  refine mx_E_iret rfl rfl ⟨rfl, ?_⟩
  obtain ⟨h1, h2, h3, h4, h5, h6⟩ := rI_0 0 h
  refine ⟨?_, ?_, ⟨mx_up_same _ _ _ _, Nat.zero_le _, fun i hi => absurd hi (Nat.not_lt_zero i)⟩, ?_, ?_, ?_⟩
  · rw [mx_up_ix _ _ _ _ _ _ (by decide), mx_up_ix _ _ _ _ _ _ (by decide)]; exact h1
  · rw [mx_up_rid _ _ _ _ _ (by decide)]; exact h2
  · rw [mx_up_ix _ _ _ _ _ _ (by decide), mx_up_rid _ _ _ _ 8 (by decide), mx_up_rid _ _ _ _ 9 (by decide), mx_up_rid _ _ _ _ 10 (by decide)]; exact h4
  · rw [mx_up_ix _ _ _ _ _ _ (by decide), mx_up_rid _ _ _ _ 5 (by decide)]; exact h5
  · rw [mx_up_rid _ _ _ _ 7 (by decide), mx_up_rid _ _ _ _ 6 (by decide)]; exact h6
theorem qr_forget {c : mx_M} {a : mSt} (h : rI c a) : mx_Spec 1 1 m_Mo_forget [.ref 0] c (fun r c' => r = some (.int (aForget a).1) ∧ rI c' (aForget a).2) := by
  refine mx_Spec_E rfl rfl rfl ?_
  refine mR 10 rfl trivial ?_
  rw [mx_up_ix _ _ _ _ _ _ (by decide), h.2.2.2.1.1]
  refine mx_E_iret rfl rfl ⟨rfl, ?_⟩
  obtain ⟨h1, h2, h3, h4, h5, h6⟩ := rI_0 0 h
  refine ⟨?_, ?_, ?_, ⟨mx_up_same _ _ _ _, Nat.zero_le _, fun i hi => absurd hi (Nat.not_lt_zero i)⟩, ?_, ?_⟩
  · rw [mx_up_ix _ _ _ _ _ _ (by decide), mx_up_ix _ _ _ _ _ _ (by decide)]; exact h1
  · rw [mx_up_rid _ _ _ _ _ (by decide)]; exact h2
  · rw [mx_up_ix _ _ _ _ _ _ (by decide), mx_up_rid _ _ _ _ 1 (by decide)]; exact h3
  · rw [mx_up_ix _ _ _ _ _ _ (by decide), mx_up_rid _ _ _ _ 5 (by decide)]; exact h5
  · rw [mx_up_rid _ _ _ _ 7 (by decide), mx_up_rid _ _ _ _ 6 (by decide)]; exact h6
theorem qr_type {c : mx_M} {a : mSt} (x : Int32) (h : rI c a) : mx_Spec 1 2 m_Mo_type [.ref 0, .int x] c (fun r c' => r = some (.int (aType a x).1) ∧ rI c' (aType a x).2) := by
  refine mx_Spec_E rfl rfl rfl ?_
  refine mR 6 rfl trivial ?_
  refine mx_E_callS (sp_Mo_in _ _ _ _) rfl rfl rfl (fun r c1 hr => ?_)
  obtain ⟨rfl, rfl⟩ := hr
  rw [show decide ((0 : Int32) ≤ x ∧ x ≤ 255) = mi x 256 from in_mk x 255 (by decide)]
  have h0 := rI_0 0 h
  have h3 := h0.2.2.1
  unfold aType
  refine mbF rfl (fun hb => ?_) (fun hb => ?_)
  · rw [hb, if_pos rfl]
    refine mR 3 rfl trivial ?_
    rw [h3.1, show (120 : Int32) = nI 120 from rfl]
    refine mbNe _ _ rfl (by omega) (by decide) (fun hc => ?_) (fun hc => ?_)
    · rw [if_neg hc]
      have ec : (nI a.2.2.1.1).toNatClampNeg = a.2.2.1.1 := nI_cl (by omega)
      refine mR 14 rfl (mA1 (by rw [h3.1]; exact mI (by omega))) ?_
      rw [mx_up_same, mx_up_id _ _ _ _ 0 2 (by decide), h3.1, nI_1, ec]
      refine mx_E_iret rfl rfl ⟨rfl, ?_⟩
      obtain ⟨g1, g2, g3, g4, g5, g6⟩ := h0
      refine ⟨?_, ?_, ⟨mx_up_same _ _ _ _, by show a.2.2.1.1 + 1 ≤ 120; omega, fun i hi => ?_⟩, ?_, ?_, ?_⟩
      · rw [mx_up_ix _ _ _ _ 0 8 (by decide), mx_up_id _ _ _ _ 0 8 (by decide), mx_up_ix _ _ _ _ 0 9 (by decide), mx_up_id _ _ _ _ 0 9 (by decide)]; exact g1
      · rw [mx_up_rid _ _ _ _ 3 (by decide), mx_up_rid _ _ _ _ 3 (by decide)]; exact g2
      · have hi2 : i < a.2.2.1.1 + 1 := hi
        rw [mx_up_rid _ _ _ _ 1 (by decide)]
        show _ = upd a.2.2.1.2 a.2.2.1.1 x i
        by_cases e : i = a.2.2.1.1
        · rw [e, mx_up_same, upd_same]
        · rw [mx_up_ix _ _ _ _ _ _ e, upd_ne _ _ _ _ e]
          exact g3.2.2 i (by omega)
      · rw [mx_up_ix _ _ _ _ 0 22 (by decide), mx_up_id _ _ _ _ 0 22 (by decide), mx_up_rid _ _ _ _ 8 (by decide), mx_up_rid _ _ _ _ 8 (by decide), mx_up_rid _ _ _ _ 9 (by decide), mx_up_rid _ _ _ _ 9 (by decide), mx_up_rid _ _ _ _ 10 (by decide), mx_up_rid _ _ _ _ 10 (by decide)]; exact g4
      · rw [mx_up_ix _ _ _ _ 0 16 (by decide), mx_up_id _ _ _ _ 0 16 (by decide), mx_up_rid _ _ _ _ 5 (by decide), mx_up_rid _ _ _ _ 5 (by decide)]; exact g5
      · rw [mx_up_rid _ _ _ _ 7 (by decide), mx_up_rid _ _ _ _ 7 (by decide), mx_up_rid _ _ _ _ 6 (by decide), mx_up_rid _ _ _ _ 6 (by decide)]; exact g6
    · rw [if_pos hc]
      refine mR 1 rfl trivial ?_
      exact mx_E_iret rfl rfl ⟨rfl, h0⟩
  · rw [hb, if_neg (by decide)]
    refine mR 1 rfl trivial ?_
    exact mx_E_iret rfl rfl ⟨rfl, h0⟩
theorem qr_ranking {c : mx_M} {a : mSt} (x y : Int32) (h : rI c a) : mx_Spec 1 3 m_Mo_ranking [.ref 0, .int x, .int y] c (fun r c' => r = some (.int (aRanking a x y).1) ∧ rI c' (aRanking a x y).2) := by
  have h0 := rI_0 0 h
  obtain ⟨h8, h9, hn, hm⟩ := h0.1
  have h6 := hn.2
  refine mx_Spec_E rfl rfl rfl ?_
  refine mR 5 rfl trivial ?_
  refine mx_E_callV (sp_Mo_isMember _ x _ h9 (by omega)) rfl rfl rfl (fun r c1 hr => ?_)
  obtain ⟨rfl, rfl⟩ := hr
  unfold aRanking
  refine mbT rfl (fun hb => ?_) (fun hb => ?_)
  · rw [hb]
    refine mR 1 rfl trivial ?_
    exact mx_E_iret rfl rfl ⟨rfl, h0⟩
  · refine mR 2 rfl trivial ?_
    refine mx_E_callV (sp_Mo_isMotion _ y _ h8 (by omega)) rfl rfl rfl (fun r c1 hr => ?_)
    obtain ⟨rfl, rfl⟩ := hr
    refine mbT rfl (fun hb2 => ?_) (fun hb2 => ?_)
    · rw [hb2, Bool.and_false]
      refine mR 1 rfl trivial ?_
      exact mx_E_iret rfl rfl ⟨rfl, h0⟩
    · rw [hb, hb2]
      obtain ⟨i, hi, rfl⟩ := mi_of (by omega) hb
      obtain ⟨j, hj, rfl⟩ := mi_of (by omega) hb2
      rw [nI_cl (a := i) (by omega), nI_cl (a := j) (by omega)]
      refine mR 9 rfl (mA1 (by rw [ix6]; exact mI (by omega))) ?_
      rw [ix6, nI_cl (a := 6 * i + j) (by omega), h0.2.1.2.1 i j hi hj]
      exact mx_E_iret rfl rfl ⟨rfl, h0⟩
theorem qr_votes {c : mx_M} {a : mSt} (x y : Int32) (h : rI c a) : mx_Spec 1 3 m_Mo_votes [.ref 0, .int x, .int y] c (fun r c' => r = some (.int (aVotes a x y).1) ∧ rI c' (aVotes a x y).2) := by
  have h0 := rI_0 0 h
  obtain ⟨h8, h9, hn, hm⟩ := h0.1
  have h6 := hn.2
  refine mx_Spec_E rfl rfl rfl ?_
  refine mR 5 rfl trivial ?_
  refine mx_E_callV (sp_Mo_isMotion _ x _ h8 (by omega)) rfl rfl rfl (fun r c1 hr => ?_)
  obtain ⟨rfl, rfl⟩ := hr
  unfold aVotes
  refine mbT rfl (fun hb => ?_) (fun hb => ?_)
  · rw [hb]
    refine mR 1 rfl trivial ?_
    exact mx_E_iret rfl rfl ⟨rfl, h0⟩
  · refine mR 2 rfl trivial ?_
    refine mx_E_callV (sp_Mo_isMotion _ y _ h8 (by omega)) rfl rfl rfl (fun r c1 hr => ?_)
    obtain ⟨rfl, rfl⟩ := hr
    refine mbT rfl (fun hb2 => ?_) (fun hb2 => ?_)
    · rw [hb2, Bool.and_false]
      refine mR 1 rfl trivial ?_
      exact mx_E_iret rfl rfl ⟨rfl, h0⟩
    · refine mR 2 rfl trivial ?_
      refine mx_E_br rfl rfl (fun hc => ?_) (fun hc => ?_)
      · rw [hb, hb2, decide_eq_false hc]
        obtain ⟨i, hi, rfl⟩ := mi_of (by omega) hb
        obtain ⟨j, hj, rfl⟩ := mi_of (by omega) hb2
        refine mR 1 rfl trivial ?_
        refine mx_E_callV (sp_Mo_all _ _ h9 hm) rfl rfl rfl (fun r c1 hr => ?_)
        obtain ⟨rfl, rfl⟩ := hr
        have hI := rI_up (k := 23) (x := nI (2 ^ a.1.2 - 1)) h0 (by decide) (by decide) (by decide) (by decide) (by decide)
        refine mR 5 rfl trivial ?_
        refine mx_E_callV (sp_Mo_votesOf3 _ (rI_V hI (mx_up_same _ _ _ _) (pw_lt hm)) hi hj) rfl rfl rfl (fun r c1 hr => ?_)
        obtain ⟨rfl, rfl⟩ := hr
        refine mx_E_iret rfl rfl ⟨?_, hI⟩
        rw [nI_cl (by omega), nI_cl (by omega)]
        rfl
      · rw [decide_eq_true (Decidable.not_not.mp hc), Bool.not_true, Bool.and_false]
        refine mR 1 rfl trivial ?_
        exact mx_E_iret rfl rfl ⟨rfl, h0⟩
theorem qr_order {c : mx_M} {a : mSt} (x y : Int32) (h : rI c a) : mx_Spec 1 3 m_Mo_order [.ref 0, .int x, .int y] c (fun r c' => r = some (.int (aOrder a x y).1) ∧ rI c' (aOrder a x y).2) := by
  have h0 := rI_0 0 h
  obtain ⟨h8, h9, hn, hm⟩ := h0.1
  have h6 := hn.2
  have hfl := mfact_le a.1.1 (by omega)
  refine mx_Spec_E rfl rfl rfl ?_
  refine mR 7 rfl trivial ?_
  rw [h8]
  refine mx_E_callS (sp_Mo_orders _ a.1.1 (by omega)) rfl rfl rfl (fun r c1 hr => ?_)
  obtain ⟨rfl, rfl⟩ := hr
  refine mR 2 rfl trivial ?_
  refine mx_E_callS (sp_Mo_in _ _ _ _) rfl rfl rfl (fun r c1 hr => ?_)
  obtain ⟨rfl, rfl⟩ := hr
  rw [in_mi x (by omega)]
  unfold aOrder
  refine mbT rfl (fun hb => ?_) (fun hb => ?_)
  · rw [hb]
    refine mR 1 rfl trivial ?_
    exact mx_E_iret rfl rfl ⟨rfl, h0⟩
  · refine mR 2 rfl trivial ?_
    refine mx_E_callV (sp_Mo_isMotion _ y _ h8 (by omega)) rfl rfl rfl (fun r c1 hr => ?_)
    obtain ⟨rfl, rfl⟩ := hr
    refine mbF rfl (fun hb2 => ?_) (fun hb2 => ?_)
    · rw [hb, hb2]
      obtain ⟨i, hi, rfl⟩ := mi_of (by omega) hb
      obtain ⟨j, hj, rfl⟩ := mi_of (by omega) hb2
      rw [nI_cl (a := i) (by omega), nI_cl (a := j) (by omega)]
      refine mR 4 rfl trivial ?_
      rw [h8]
      refine mx_E_callV (sp_Mo_orderOf _ a.1.1 i hn hi) rfl rfl rfl (fun r c1 hr => ?_)
      obtain ⟨rfl, rfl⟩ := hr
      refine mR 4 rfl (mA1 (mI (by omega))) ?_
      rw [nI_cl (a := j) (by omega), mx_upR_row, fa_fill_in hj]
      exact mx_E_iret rfl rfl ⟨rfl, rI_fr h0 (fun r hr => mx_upR_rid _ _ _ _ (fun e => hr (by rw [e]; decide)))⟩
    · rw [hb2, Bool.and_false]
      refine mR 1 rfl trivial ?_
      exact mx_E_iret rfl rfl ⟨rfl, h0⟩
end
section
theorem mx_up_put (c : mx_M) (d : Nat) (G : Nat → Int32) (i : Nat) (v : Int32) : mx_up (mx_upR c d G) d i v = mx_upR c d (upd G i v) := by rw [mx_up_R, mx_upR_row, mx_upR_two]
theorem ixM (a b k : Nat) : (244 : Int32) * nI a + nI k = nI (244 * a + k) := by rw [show (244 : Int32) = nI 244 from rfl, pk_mul, nI_add]
theorem ixP (k : Nat) : nI k + (244 : Int32) = nI (k + 244) := by rw [show (244 : Int32) = nI 244 from rfl, nI_add]
theorem lp_Mo_copies2 {Q : Option Value → mx_M → Prop} {c : mx_M}   (hk : mx_E 1 1 m_Mo_copies Q 13 [.ref 2, .ref 3, .int (nI 244)] [] (mx_upR c 3 (fb_put (c 3) (fun j => c 2 (j)) 0 244))) :
    ∀ (u k : Nat), k + u = 244 → mx_E 1 1 m_Mo_copies Q 2 [.ref 2, .ref 3, .int (nI k)] [] (mx_upR c 3 (fb_put (c 3) (fun j => c 2 (j)) 0 k))
  | 0, k, h => by
    have e : k = 244 := by omega
    subst e
    refine mR 2 rfl trivial ?_
    refine mbGe 244 244 rfl (by decide) (by decide) (fun _ => ?_) (fun h => by omega)
    exact hk
  | u + 1, k, h => by
    refine mR 2 rfl trivial ?_
    refine mbGe k 244 rfl (by omega) (by decide) (fun h => by omega) (fun _ => ?_)
    refine mR 8 rfl (mA2 (mI (by omega)) (mI (by omega))) ?_
    rw [mx_upR_rid _ _ _ 2 (by decide), nI_cl (by omega), mx_up_put, show upd (fb_put (c 3) (fun j => c 2 (j)) 0 k) k (c 2 k) = fb_put (c 3) (fun j => c 2 (j)) 0 (k + 1) by rw [← fb_put_succ, Nat.zero_add], nI_1]
    exact lp_Mo_copies2 hk u (k + 1) (by omega)
theorem sp_Mo_copies2 (c : mx_M) : mx_Spec 1 1 m_Mo_copies [.ref 2, .ref 3] c (fun r c' => r = none ∧ c' = mx_upR c 3 (fb_put (c 3) (fun j => c 2 (j)) 0 244)) := by
  refine mx_Spec_E rfl rfl rfl ?_
  refine mR 2 rfl trivial ?_
  refine mS (lp_Mo_copies2 (mx_E_vret rfl rfl ⟨rfl, rfl⟩) 244 0 rfl) rfl rfl ?_
  rw [fb_put_0, mx_upR_self]
theorem lp_Mo_copies3 {Q : Option Value → mx_M → Prop} {c : mx_M}   (hk : mx_E 1 1 m_Mo_copies Q 13 [.ref 3, .ref 4, .int (nI 244)] [] (mx_upR c 4 (fb_put (c 4) (fun j => c 3 (j)) 0 244))) :
    ∀ (u k : Nat), k + u = 244 → mx_E 1 1 m_Mo_copies Q 2 [.ref 3, .ref 4, .int (nI k)] [] (mx_upR c 4 (fb_put (c 4) (fun j => c 3 (j)) 0 k))
  | 0, k, h => by
    have e : k = 244 := by omega
    subst e
    refine mR 2 rfl trivial ?_
    refine mbGe 244 244 rfl (by decide) (by decide) (fun _ => ?_) (fun h => by omega)
    exact hk
  | u + 1, k, h => by
    refine mR 2 rfl trivial ?_
    refine mbGe k 244 rfl (by omega) (by decide) (fun h => by omega) (fun _ => ?_)
    refine mR 8 rfl (mA2 (mI (by omega)) (mI (by omega))) ?_
    rw [mx_upR_rid _ _ _ 3 (by decide), nI_cl (by omega), mx_up_put, show upd (fb_put (c 4) (fun j => c 3 (j)) 0 k) k (c 3 k) = fb_put (c 4) (fun j => c 3 (j)) 0 (k + 1) by rw [← fb_put_succ, Nat.zero_add], nI_1]
    exact lp_Mo_copies3 hk u (k + 1) (by omega)
theorem sp_Mo_copies3 (c : mx_M) : mx_Spec 1 1 m_Mo_copies [.ref 3, .ref 4] c (fun r c' => r = none ∧ c' = mx_upR c 4 (fb_put (c 4) (fun j => c 3 (j)) 0 244)) := by
  refine mx_Spec_E rfl rfl rfl ?_
  refine mR 2 rfl trivial ?_
  refine mS (lp_Mo_copies3 (mx_E_vret rfl rfl ⟨rfl, rfl⟩) 244 0 rfl) rfl rfl ?_
  rw [fb_put_0, mx_upR_self]
theorem lp_Mo_notes1 {Q : Option Value → mx_M → Prop} {c : mx_M}   (hk : mx_E 1 1 m_Mo_notes Q 21 [.ref 0, .int (nI 2196)] [] (mx_upR c 5 (fb_put (c 5) (fun j => c 5 (j + 244)) 0 2196))) :
    ∀ (u k : Nat), k + u = 2196 → mx_E 1 1 m_Mo_notes Q 6 [.ref 0, .int (nI k)] [] (mx_upR c 5 (fb_put (c 5) (fun j => c 5 (j + 244)) 0 k))
  | 0, k, h => by
    have e : k = 2196 := by omega
    subst e
    refine mR 2 rfl trivial ?_
    refine mbGe 2196 2196 rfl (by decide) (by decide) (fun _ => ?_) (fun h => by omega)
    exact hk
  | u + 1, k, h => by
    refine mR 2 rfl trivial ?_
    refine mbGe k 2196 rfl (by omega) (by decide) (fun h => by omega) (fun _ => ?_)
    refine mR 12 rfl (mA2 (by rw [ixP]; exact mI (by omega)) (mI (by omega))) ?_
    rw [ixP, mx_upR_row, nI_cl (by omega), nI_cl (by omega), fb_put_out (by omega), mx_up_put, show upd (fb_put (c 5) (fun j => c 5 (j + 244)) 0 k) k (c 5 (k + 244)) = fb_put (c 5) (fun j => c 5 (j + 244)) 0 (k + 1) by rw [← fb_put_succ, Nat.zero_add], nI_1]
    exact lp_Mo_notes1 hk u (k + 1) (by omega)
theorem lp_Mo_notes2 {Q : Option Value → mx_M → Prop} {c : mx_M} {w : Nat} (hw : w < 10) (h16 : c 0 16 = nI w) (hk : mx_E 1 1 m_Mo_notes Q 44 [.ref 0, .int (nI 244)] [] (mx_upR c 5 (fb_put (c 5) (fun j => c 3 (j)) (244 * w) 244))) :
    ∀ (u k : Nat), k + u = 244 → mx_E 1 1 m_Mo_notes Q 26 [.ref 0, .int (nI k)] [] (mx_upR c 5 (fb_put (c 5) (fun j => c 3 (j)) (244 * w) k))
  | 0, k, h => by
    have e : k = 244 := by omega
    subst e
    refine mR 2 rfl trivial ?_
    refine mbGe 244 244 rfl (by decide) (by decide) (fun _ => ?_) (fun h => by omega)
    exact hk
  | u + 1, k, h => by
    refine mR 2 rfl trivial ?_
    refine mbGe k 244 rfl (by omega) (by decide) (fun h => by omega) (fun _ => ?_)
    refine mR 15 rfl (mA2 (mI (by omega)) (by rw [mx_upR_rid _ _ _ 0 (by decide), h16, ixM w 0 k]; exact mI (by omega))) ?_
    rw [mx_upR_rid _ _ _ 0 (by decide), mx_upR_rid _ _ _ 3 (by decide), h16, ixM w 0 k, nI_cl (a := k) (by omega), nI_cl (a := 244 * w + k) (by omega), mx_up_put, fb_put_succ (c 5) (fun j => c 3 (j)), nI_1]
    exact lp_Mo_notes2 hw h16 hk u (k + 1) (by omega)
theorem lp_Mo_undo1 {Q : Option Value → mx_M → Prop} {c : mx_M} {w : Nat} (hw : w < 10) (h16 : c 0 16 = nI w) (hk : mx_E 1 1 m_Mo_undo Q 34 [.ref 0, .int (nI 244)] [] (mx_upR c 3 (fb_put (c 3) (fun j => c 5 (244 * w + j)) 0 244))) :
    ∀ (u k : Nat), k + u = 244 → mx_E 1 1 m_Mo_undo Q 16 [.ref 0, .int (nI k)] [] (mx_upR c 3 (fb_put (c 3) (fun j => c 5 (244 * w + j)) 0 k))
  | 0, k, h => by
    have e : k = 244 := by omega
    subst e
    refine mR 2 rfl trivial ?_
    refine mbGe 244 244 rfl (by decide) (by decide) (fun _ => ?_) (fun h => by omega)
    exact hk
  | u + 1, k, h => by
    refine mR 2 rfl trivial ?_
    refine mbGe k 244 rfl (by omega) (by decide) (fun h => by omega) (fun _ => ?_)
    refine mR 15 rfl (mA2 (by rw [mx_upR_rid _ _ _ 0 (by decide), h16, ixM w 0 k]; exact mI (by omega)) (mI (by omega))) ?_
    rw [mx_upR_rid _ _ _ 0 (by decide), mx_upR_rid _ _ _ 5 (by decide), h16, ixM w 0 k, nI_cl (a := k) (by omega), nI_cl (a := 244 * w + k) (by omega), mx_up_put, show upd (fb_put (c 3) (fun j => c 5 (244 * w + j)) 0 k) k (c 5 (244 * w + k)) = fb_put (c 3) (fun j => c 5 (244 * w + j)) 0 (k + 1) by rw [← fb_put_succ, Nat.zero_add], nI_1]
    exact lp_Mo_undo1 hw h16 hk u (k + 1) (by omega)
theorem lp_Mo_keep1 {Q : Option Value → mx_M → Prop} {c : mx_M} {w : Nat} (hw : w < 2) (hk : mx_E 1 2 m_Mo_keep Q 29 [.ref 0, .int (nI w), .int (nI 244)] [] (mx_upR c 6 (fb_put (c 6) (fun j => c 3 (j)) (244 * w) 244))) :
    ∀ (u k : Nat), k + u = 244 → mx_E 1 2 m_Mo_keep Q 12 [.ref 0, .int (nI w), .int (nI k)] [] (mx_upR c 6 (fb_put (c 6) (fun j => c 3 (j)) (244 * w) k))
  | 0, k, h => by
    have e : k = 244 := by omega
    subst e
    refine mR 2 rfl trivial ?_
    refine mbGe 244 244 rfl (by decide) (by decide) (fun _ => ?_) (fun h => by omega)
    exact hk
  | u + 1, k, h => by
    refine mR 2 rfl trivial ?_
    refine mbGe k 244 rfl (by omega) (by decide) (fun h => by omega) (fun _ => ?_)
    refine mR 14 rfl (mA2 (mI (by omega)) (by rw [ixM w 0 k]; exact mI (by omega))) ?_
    rw [mx_upR_rid _ _ _ 3 (by decide), ixM w 0 k, nI_cl (a := k) (by omega), nI_cl (a := 244 * w + k) (by omega), mx_up_put, fb_put_succ (c 6) (fun j => c 3 (j)), nI_1]
    exact lp_Mo_keep1 hw hk u (k + 1) (by omega)
theorem lp_Mo_back1 {Q : Option Value → mx_M → Prop} {c : mx_M} {w : Nat} (hw : w < 2) (hk : mx_E 1 2 m_Mo_back Q 36 [.ref 0, .int (nI w), .int (nI 244)] [] (mx_upR c 3 (fb_put (c 3) (fun j => c 6 (244 * w + j)) 0 244))) :
    ∀ (u k : Nat), k + u = 244 → mx_E 1 2 m_Mo_back Q 19 [.ref 0, .int (nI w), .int (nI k)] [] (mx_upR c 3 (fb_put (c 3) (fun j => c 6 (244 * w + j)) 0 k))
  | 0, k, h => by
    have e : k = 244 := by omega
    subst e
    refine mR 2 rfl trivial ?_
    refine mbGe 244 244 rfl (by decide) (by decide) (fun _ => ?_) (fun h => by omega)
    exact hk
  | u + 1, k, h => by
    refine mR 2 rfl trivial ?_
    refine mbGe k 244 rfl (by omega) (by decide) (fun h => by omega) (fun _ => ?_)
    refine mR 14 rfl (mA2 (by rw [ixM w 0 k]; exact mI (by omega)) (mI (by omega))) ?_
    rw [mx_upR_rid _ _ _ 6 (by decide), ixM w 0 k, nI_cl (a := k) (by omega), nI_cl (a := 244 * w + k) (by omega), mx_up_put, show upd (fb_put (c 3) (fun j => c 6 (244 * w + j)) 0 k) k (c 6 (244 * w + k)) = fb_put (c 3) (fun j => c 6 (244 * w + j)) 0 (k + 1) by rw [← fb_put_succ, Nat.zero_add], nI_1]
    exact lp_Mo_back1 hw hk u (k + 1) (by omega)
def aKeep (a : mSt) (x : Int32) : Int32 × mSt := if mi x 2 then (nI a.2.1.2.2.2, (a.1, a.2.1, a.2.2.1, a.2.2.2.1, a.2.2.2.2.1, fun i => if i = x.toNatClampNeg then some a.2.1 else a.2.2.2.2.2 i)) else mBAD a
def aBack (a : mSt) (x : Int32) : Int32 × mSt := if mi x 2 then (match a.2.2.2.2.2 x.toNatClampNeg with
  | none => (-2, a)
  | some p => (nI p.2.2.2, (a.1, p, a.2.2.1, a.2.2.2.1, (0, a.2.2.2.2.1.2), a.2.2.2.2.2))) else mBAD a
def aUndo (a : mSt) : Int32 × mSt := if a.2.2.2.2.1.1 = 0 then (-2, a) else (nI (a.2.2.2.2.1.1 - 1), (a.1, a.2.2.2.2.1.2 (a.2.2.2.2.1.1 - 1), a.2.2.1, a.2.2.2.1, (a.2.2.2.2.1.1 - 1, a.2.2.2.2.1.2), a.2.2.2.2.2))
/-- what is done is kept, to be undone -/
def aNote (a : mSt) : Nat × (Nat → mPic) := if a.2.2.2.2.1.1 = 10 then (10, fun i => if i = 9 then a.2.1 else a.2.2.2.2.1.2 (i + 1)) else (a.2.2.2.2.1.1 + 1, fun i => if i = a.2.2.2.2.1.1 then a.2.1 else a.2.2.2.2.1.2 i)
theorem qr_keep {c : mx_M} {a : mSt} (x : Int32) (h : rI c a) : mx_Spec 1 2 m_Mo_keep [.ref 0, .int x] c (fun r c' => r = some (.int (aKeep a x).1) ∧ rI c' (aKeep a x).2) := by
  have h0 := rI_0 0 h
  obtain ⟨h8, h9, hn, hm⟩ := h0.1
  refine mx_Spec_E rfl rfl rfl ?_
  refine mR 6 rfl trivial ?_
  refine mx_E_callS (sp_Mo_in _ _ _ _) rfl rfl rfl (fun r c1 hr => ?_)
  obtain ⟨rfl, rfl⟩ := hr
  rw [show decide ((0 : Int32) ≤ x ∧ x ≤ 1) = mi x 2 from in_mk x 1 (by decide)]
  unfold aKeep
  refine mbF rfl (fun hb => ?_) (fun hb => ?_)
  · rw [hb]
    obtain ⟨i, hi, rfl⟩ := mi_of (by decide) hb
    rw [nI_cl (a := i) (by omega)]
    refine mR 2 rfl trivial ?_
    generalize mx_up c 0 0 0 = c0 at h0 h8 h9
    refine mS (lp_Mo_keep1 (w := i) hi ?_ 244 0 rfl) rfl rfl (by rw [fb_put_0, mx_upR_self])
    refine mR 9 rfl (mA2 (mI hi) (mI (n := 54) (by decide))) ?_
    rw [c54, nI_cl (a := i) (by omega), mx_up_id _ _ _ _ 3 54 (by decide), mx_upR_rid _ _ _ 3 (by decide), h0.2.1.2.2.2.1, show vp_nar .boolean 1 = mz true by decide]
    refine mx_E_iret rfl rfl ⟨rfl, ?_⟩
    obtain ⟨g1, g2, g3, g4, g5, g6⟩ := h0
    refine ⟨?_, ?_, ?_, ?_, ?_, fun j hj => ?_⟩
    · rw [mx_up_rid _ _ _ _ 0 (by decide), mx_upR_rid _ _ _ 0 (by decide)]; exact g1
    · rw [mx_up_rid _ _ _ _ 3 (by decide), mx_upR_rid _ _ _ 3 (by decide)]; exact g2
    · rw [mx_up_rid _ _ _ _ 0 (by decide), mx_upR_rid _ _ _ 0 (by decide), mx_up_rid _ _ _ _ 1 (by decide), mx_upR_rid _ _ _ 1 (by decide)]; exact g3
    · rw [mx_up_rid _ _ _ _ 0 (by decide), mx_upR_rid _ _ _ 0 (by decide), mx_up_rid _ _ _ _ 8 (by decide), mx_upR_rid _ _ _ 8 (by decide), mx_up_rid _ _ _ _ 9 (by decide), mx_upR_rid _ _ _ 9 (by decide), mx_up_rid _ _ _ _ 10 (by decide), mx_upR_rid _ _ _ 10 (by decide)]; exact g4
    · rw [mx_up_rid _ _ _ _ 0 (by decide), mx_upR_rid _ _ _ 0 (by decide), mx_up_rid _ _ _ _ 5 (by decide), mx_upR_rid _ _ _ 5 (by decide)]; exact g5
    · rw [mx_up_rid _ _ _ _ 6 (by decide), mx_upR_row]
      by_cases e : j = i
      · subst e
        refine ⟨?_, fun p hp => ?_⟩
        · rw [mx_up_same]
          show mz true = mz (if j = j then some a.2.1 else a.2.2.2.2.2 j).isSome
          rw [if_pos rfl]
          rfl
        · have hp : (if j = j then some a.2.1 else a.2.2.2.2.2 j) = some p := hp
          rw [if_pos rfl] at hp
          cases hp
          exact rP_of hn.2 hm g2 (fun k hk => by rw [fb_put_in (by omega) (by omega)]; congr 1; omega)
      · refine ⟨?_, fun p hp => ?_⟩
        · rw [mx_up_ix _ _ _ _ _ _ e, mx_upR_rid _ _ _ 7 (by decide)]
          show _ = mz (if j = i then some a.2.1 else a.2.2.2.2.2 j).isSome
          rw [if_neg e]
          exact (g6 j hj).1
        · have hp : (if j = i then some a.2.1 else a.2.2.2.2.2 j) = some p := hp
          rw [if_neg e] at hp
          exact rP_of hn.2 hm ((g6 j hj).2 p hp) (fun k hk => by rw [fb_put_out (by omega)])
  · rw [hb]
    refine mR 1 rfl trivial ?_
    exact mx_E_iret rfl rfl ⟨rfl, h0⟩
theorem qr_back {c : mx_M} {a : mSt} (x : Int32) (h : rI c a) : mx_Spec 1 2 m_Mo_back [.ref 0, .int x] c (fun r c' => r = some (.int (aBack a x).1) ∧ rI c' (aBack a x).2) := by
  have h0 := rI_0 0 h
  obtain ⟨h8, h9, hn, hm⟩ := h0.1
  refine mx_Spec_E rfl rfl rfl ?_
  refine mR 6 rfl trivial ?_
  refine mx_E_callS (sp_Mo_in _ _ _ _) rfl rfl rfl (fun r c1 hr => ?_)
  obtain ⟨rfl, rfl⟩ := hr
  rw [show decide ((0 : Int32) ≤ x ∧ x ≤ 1) = mi x 2 from in_mk x 1 (by decide)]
  unfold aBack
  refine mbF rfl (fun hb => ?_) (fun hb => ?_)
  · rw [hb]
    obtain ⟨i, hi, rfl⟩ := mi_of (by decide) hb
    rw [nI_cl (a := i) (by omega)]
    generalize mx_up c 0 0 0 = c0 at h0 h8 h9
    refine mR 4 rfl (mA1 (mI hi)) ?_
    rw [nI_cl (a := i) (by omega), (h0.2.2.2.2.2 i hi).1]
    cases hK : a.2.2.2.2.2 i with
    | none =>
      refine mbF rfl (fun h => by cases h) (fun _ => ?_)
      refine mR 1 rfl trivial ?_
      exact mx_E_iret rfl rfl ⟨rfl, h0⟩
    | some p =>
      refine mbF rfl (fun _ => ?_) (fun h => by cases h)
      have hp := (h0.2.2.2.2.2 i hi).2 p hK
      have hp2 : rP (fb_put (c0 3) (fun j => c0 6 (244 * i + j)) 0 244) a.1.1 a.1.2 p := rP_of hn.2 hm hp (fun k hk => by rw [fb_put_in (by omega) (by omega)]; congr 1)
      refine mR 2 rfl trivial ?_
      refine mS (lp_Mo_back1 (w := i) hi ?_ 244 0 rfl) rfl rfl (by rw [fb_put_0, mx_upR_self])
      refine mR 7 rfl (mA1 (mI (n := 54) (by decide))) ?_
      rw [c54, mx_up_id _ _ _ _ 3 54 (by decide), mx_upR_row, hp2.2.2.2.1]
      refine mx_E_iret rfl rfl ⟨rfl, ?_⟩
      obtain ⟨g1, g2, g3, g4, g5, g6⟩ := h0
      refine ⟨?_, ?_, ?_, ?_, ⟨mx_up_same _ _ _ _, Nat.zero_le _, fun j hj => absurd hj (Nat.not_lt_zero j)⟩, ?_⟩
      · rw [mx_up_ix _ _ _ _ 0 8 (by decide), mx_up_ix _ _ _ _ 0 9 (by decide), mx_upR_rid _ _ _ 0 (by decide)]; exact g1
      · rw [mx_up_rid _ _ _ _ 3 (by decide), mx_upR_row]; exact hp2
      · rw [mx_up_ix _ _ _ _ 0 2 (by decide), mx_upR_rid _ _ _ 0 (by decide), mx_up_rid _ _ _ _ 1 (by decide), mx_upR_rid _ _ _ 1 (by decide)]; exact g3
      · rw [mx_up_ix _ _ _ _ 0 22 (by decide), mx_upR_rid _ _ _ 0 (by decide), mx_up_rid _ _ _ _ 8 (by decide), mx_upR_rid _ _ _ 8 (by decide), mx_up_rid _ _ _ _ 9 (by decide), mx_upR_rid _ _ _ 9 (by decide), mx_up_rid _ _ _ _ 10 (by decide), mx_upR_rid _ _ _ 10 (by decide)]; exact g4
      · rw [mx_up_rid _ _ _ _ 7 (by decide), mx_upR_rid _ _ _ 7 (by decide), mx_up_rid _ _ _ _ 6 (by decide), mx_upR_rid _ _ _ 6 (by decide)]; exact g6
  · rw [hb]
    refine mR 1 rfl trivial ?_
    exact mx_E_iret rfl rfl ⟨rfl, h0⟩
theorem qr_undo {c : mx_M} {a : mSt} (h : rI c a) : mx_Spec 1 1 m_Mo_undo [.ref 0] c (fun r c' => r = some (.int (aUndo a).1) ∧ rI c' (aUndo a).2) := by
  have h0 := rI_0 0 h
  obtain ⟨h8, h9, hn, hm⟩ := h0.1
  refine mx_Spec_E rfl rfl rfl ?_
  refine mR 3 rfl trivial ?_
  generalize mx_up c 0 0 0 = c0 at h0 h8 h9
  refine mR 2 rfl trivial ?_
  obtain ⟨g1, g2, g3, g4, g5, g6⟩ := id h0
  rw [g5.1]
  have hu := g5.2.1
  unfold aUndo
  by_cases e : a.2.2.2.2.1.1 = 0
  · rw [e, if_pos rfl]
    refine mx_E_br rfl rfl (fun h => absurd rfl h) (fun _ => ?_)
    refine mR 1 rfl trivial ?_
    exact mx_E_iret rfl rfl ⟨rfl, h0⟩
  · rw [if_neg e]
    refine mx_E_br rfl rfl (fun _ => ?_) (fun h => absurd (nI_ne0 (by omega) (by omega)) h)
    refine mR 8 rfl trivial ?_
    rw [g5.1, show (1 : Int32) = nI 1 from rfl, pk_sub (by omega)]
    obtain ⟨w, hw⟩ : ∃ w, w = a.2.2.2.2.1.1 - 1 := ⟨_, rfl⟩
    rw [← hw]
    have hp := g5.2.2 w (by omega)
    have hp2 : rP (fb_put (c0 3) (fun j => c0 5 (244 * w + j)) 0 244) a.1.1 a.1.2 (a.2.2.2.2.1.2 w) := rP_of hn.2 hm hp (fun k hk => by rw [fb_put_in (by omega) (by omega)]; congr 1)
    refine mS (lp_Mo_undo1 (c := mx_up c0 0 16 (nI w)) (w := w) (by omega) (mx_up_same _ _ _ _) ?_ 244 0 rfl) rfl rfl (by rw [fb_put_0, mx_upR_self])
    refine mR 2 rfl trivial ?_
    rw [mx_upR_rid _ _ _ 0 (by decide), mx_up_same, mx_up_rid _ _ _ _ 3 (by decide), mx_up_rid _ _ _ _ 5 (by decide)]
    refine mx_E_iret rfl rfl ⟨rfl, ?_⟩
    refine ⟨?_, ?_, ?_, ?_, ⟨?_, by show w ≤ 10; omega, fun j hj => ?_⟩, ?_⟩
    · rw [mx_upR_rid _ _ _ 0 (by decide), mx_up_ix _ _ _ _ 0 8 (by decide), mx_up_ix _ _ _ _ 0 9 (by decide)]; exact g1
    · rw [mx_upR_row]; exact hp2
    · rw [mx_upR_rid _ _ _ 0 (by decide), mx_up_ix _ _ _ _ 0 2 (by decide), mx_upR_rid _ _ _ 1 (by decide), mx_up_rid _ _ _ _ 1 (by decide)]; exact g3
    · rw [mx_upR_rid _ _ _ 0 (by decide), mx_up_ix _ _ _ _ 0 22 (by decide), mx_upR_rid _ _ _ 8 (by decide), mx_up_rid _ _ _ _ 8 (by decide), mx_upR_rid _ _ _ 9 (by decide), mx_up_rid _ _ _ _ 9 (by decide), mx_upR_rid _ _ _ 10 (by decide), mx_up_rid _ _ _ _ 10 (by decide)]; exact g4
    · rw [mx_upR_rid _ _ _ 0 (by decide), mx_up_same]
    · have hj2 : j < w := hj
      rw [mx_upR_rid _ _ _ 5 (by decide), mx_up_rid _ _ _ _ 5 (by decide)]
      exact g5.2.2 j (by omega)
    · rw [mx_upR_rid _ _ _ 7 (by decide), mx_up_rid _ _ _ _ 7 (by decide), mx_upR_rid _ _ _ 6 (by decide), mx_up_rid _ _ _ _ 6 (by decide)]; exact g6
end
section
/-! agendas laid out node by node, with a pile -/
/-- which place of a row becomes the number of the next node: none, or a branch of a node above -/
def lkI (lk : Option (Nat × Nat)) : Int32 := match lk with
  | none => -1
  | some u => nI u.1
def lkB (lk : Option (Nat × Nat)) : Nat := match lk with
  | none => 0
  | some u => u.2
def lkX (lk : Option (Nat × Nat)) : Option Nat := lk.map (fun u => (if u.2 = 0 then 118 else 181) + u.1)
def lkOk (lk : Option (Nat × Nat)) (b : Nat) : Prop := ∀ u, lk = some u → u.1 < b ∧ u.2 < 2
/-- behind comesTo: node b is there, below lk -/
def rCt (c c' : mx_M) (i b : Nat) (lk : Option (Nat × Nat)) : Prop := mfr [i] c c' ∧ c' i 54 = nI (b + 1) ∧ c' i (55 + b) = -9 ∧ c' i (118 + b) = -9 ∧ c' i (181 + b) = -9 ∧ (∀ x, lkX lk = some x → c' i x = nI b) ∧ ∀ x, x ≠ 54 → x ≠ 55 + b → x ≠ 118 + b → x ≠ 181 + b → lkX lk ≠ some x → c' i x = c i x
theorem sp_Mo_comesTo2 (c : mx_M) (b : Nat) (lk : Option (Nat × Nat)) (hb : b < 63) (h54 : c 2 54 = nI b) (hl : lkOk lk b) : mx_Spec 1 1 m_Mo_comesTo [.ref 2, .int (lkI lk), .int (nI (lkB lk))] c (fun r c' => r = some (.int (nI b)) ∧ rCt c c' 2 b lk) := by
  refine mx_Spec_E rfl rfl rfl ?_
  refine mR 4 rfl (mA1 (mI (n := 54) (by decide))) ?_
  rw [c54, h54]
  refine mR 18 rfl (mA3 (by rw [ixA 55 rfl]; exact mI (by omega)) (by rw [ixA 118 rfl]; exact mI (by omega)) (by rw [ixA 181 rfl]; exact mI (by omega))) ?_
  rw [ixA 55 rfl, ixA 118 rfl, ixA 181 rfl, nI_cl (a := 55 + b) (by omega), nI_cl (a := 118 + b) (by omega), nI_cl (a := 181 + b) (by omega)]
  refine mR 1 rfl trivial ?_
  cases lk with
  | none =>
    refine mx_E_br rfl rfl (fun _ => ?_) (fun h => absurd (by decide) h)
    refine mR 8 rfl (mA2 (mI (n := 54) (by decide)) (mI (n := 54) (by decide))) ?_
    rw [c54]
    refine mx_E_iret rfl rfl ⟨rfl, ?_, ?_, ?_, ?_, ?_, ?_, ?_⟩
    · exact mfr_up (mfr_up (mfr_up (mfr_up (mfr_rf _ _) (by decide)) (by decide)) (by decide)) (by decide)
    · rw [mx_up_same, mx_up_ix _ _ _ _ _ _ (by omega), mx_up_ix _ _ _ _ _ _ (by omega), mx_up_ix _ _ _ _ _ _ (by omega), h54, nI_1]
    · rw [mx_up_ix _ _ _ _ _ _ (by omega), mx_up_ix _ _ _ _ _ _ (by omega), mx_up_ix _ _ _ _ _ _ (by omega), mx_up_same]
    · rw [mx_up_ix _ _ _ _ _ _ (by omega), mx_up_ix _ _ _ _ _ _ (by omega), mx_up_same]
    · rw [mx_up_ix _ _ _ _ _ _ (by omega), mx_up_same]
    · intro x hx
      cases hx
    · intro x h1 h2 h3 h4 _
      rw [mx_up_ix _ _ _ _ _ _ h1, mx_up_ix _ _ _ _ _ _ h4, mx_up_ix _ _ _ _ _ _ h3, mx_up_ix _ _ _ _ _ _ h2]
  | some u =>
    obtain ⟨hu1, hu2⟩ := hl u rfl
    refine mx_E_br rfl rfl (fun h => absurd h (nI_pos (by omega))) (fun _ => ?_)
    refine mR 2 rfl trivial ?_
    rcases (show u.2 = 0 ∨ u.2 = 1 by omega) with e | e
    · have ex : lkX (some u) = some (118 + u.1) := by show some ((if u.2 = 0 then 118 else 181) + u.1) = _; rw [if_pos e]
      have eb : lkB (some u) = 0 := e
      rw [eb]
      refine mx_E_br rfl rfl (fun h => absurd rfl h) (fun _ => ?_)
      refine mR 6 rfl (mA1 (by show vp_in ((118 : Int32) + nI u.1) 244; rw [ixA 118 rfl]; exact mI (by omega))) ?_
      rw [show ((118 : Int32) + lkI (some u)).toNatClampNeg = 118 + u.1 by show ((118 : Int32) + nI u.1).toNatClampNeg = 118 + u.1; rw [ixA 118 rfl, nI_cl (by omega)]]
      refine mR 8 rfl (mA2 (mI (n := 54) (by decide)) (mI (n := 54) (by decide))) ?_
      rw [c54]
      refine mx_E_iret rfl rfl ⟨rfl, ?_, ?_, ?_, ?_, ?_, ?_, ?_⟩
      · exact mfr_up (mfr_up (mfr_up (mfr_up (mfr_up (mfr_rf _ _) (by decide)) (by decide)) (by decide)) (by decide)) (by decide)
      · rw [mx_up_same, mx_up_ix _ _ _ _ _ _ (by omega), mx_up_ix _ _ _ _ _ _ (by omega), mx_up_ix _ _ _ _ _ _ (by omega), mx_up_ix _ _ _ _ _ _ (by omega), h54, nI_1]
      · rw [mx_up_ix _ _ _ _ _ _ (by omega), mx_up_ix _ _ _ _ _ _ (by omega), mx_up_ix _ _ _ _ _ _ (by omega), mx_up_ix _ _ _ _ _ _ (by omega), mx_up_same]
      · rw [mx_up_ix _ _ _ _ _ _ (by omega), mx_up_ix _ _ _ _ _ _ (by omega), mx_up_ix _ _ _ _ _ _ (by omega), mx_up_same]
      · rw [mx_up_ix _ _ _ _ _ _ (by omega), mx_up_ix _ _ _ _ _ _ (by omega), mx_up_same]
      · intro x hx
        rw [ex] at hx
        cases hx
        rw [mx_up_ix _ _ _ _ _ _ (by omega), mx_up_same]
      · intro x h1 h2 h3 h4 h5
        rw [ex] at h5
        rw [mx_up_ix _ _ _ _ _ _ h1, mx_up_ix _ _ _ _ _ _ (fun z => h5 (by rw [z])), mx_up_ix _ _ _ _ _ _ h4, mx_up_ix _ _ _ _ _ _ h3, mx_up_ix _ _ _ _ _ _ h2]
    · have ex : lkX (some u) = some (181 + u.1) := by show some ((if u.2 = 0 then 118 else 181) + u.1) = _; rw [if_neg (by omega)]
      have eb : lkB (some u) = 1 := e
      rw [eb]
      refine mx_E_br rfl rfl (fun _ => ?_) (fun h => absurd (by decide) h)
      refine mR 5 rfl (mA1 (by show vp_in ((181 : Int32) + nI u.1) 244; rw [ixA 181 rfl]; exact mI (by omega))) ?_
      rw [show ((181 : Int32) + lkI (some u)).toNatClampNeg = 181 + u.1 by show ((181 : Int32) + nI u.1).toNatClampNeg = 181 + u.1; rw [ixA 181 rfl, nI_cl (by omega)]]
      refine mR 8 rfl (mA2 (mI (n := 54) (by decide)) (mI (n := 54) (by decide))) ?_
      rw [c54]
      refine mx_E_iret rfl rfl ⟨rfl, ?_, ?_, ?_, ?_, ?_, ?_, ?_⟩
      · exact mfr_up (mfr_up (mfr_up (mfr_up (mfr_up (mfr_rf _ _) (by decide)) (by decide)) (by decide)) (by decide)) (by decide)
      · rw [mx_up_same, mx_up_ix _ _ _ _ _ _ (by omega), mx_up_ix _ _ _ _ _ _ (by omega), mx_up_ix _ _ _ _ _ _ (by omega), mx_up_ix _ _ _ _ _ _ (by omega), h54, nI_1]
      · rw [mx_up_ix _ _ _ _ _ _ (by omega), mx_up_ix _ _ _ _ _ _ (by omega), mx_up_ix _ _ _ _ _ _ (by omega), mx_up_ix _ _ _ _ _ _ (by omega), mx_up_same]
      · rw [mx_up_ix _ _ _ _ _ _ (by omega), mx_up_ix _ _ _ _ _ _ (by omega), mx_up_ix _ _ _ _ _ _ (by omega), mx_up_same]
      · rw [mx_up_ix _ _ _ _ _ _ (by omega), mx_up_ix _ _ _ _ _ _ (by omega), mx_up_same]
      · intro x hx
        rw [ex] at hx
        cases hx
        rw [mx_up_ix _ _ _ _ _ _ (by omega), mx_up_same]
      · intro x h1 h2 h3 h4 h5
        rw [ex] at h5
        rw [mx_up_ix _ _ _ _ _ _ h1, mx_up_ix _ _ _ _ _ _ (fun z => h5 (by rw [z])), mx_up_ix _ _ _ _ _ _ h4, mx_up_ix _ _ _ _ _ _ h3, mx_up_ix _ _ _ _ _ _ h2]
theorem sp_Mo_comesTo3 (c : mx_M) (b : Nat) (lk : Option (Nat × Nat)) (hb : b < 63) (h54 : c 3 54 = nI b) (hl : lkOk lk b) : mx_Spec 1 1 m_Mo_comesTo [.ref 3, .int (lkI lk), .int (nI (lkB lk))] c (fun r c' => r = some (.int (nI b)) ∧ rCt c c' 3 b lk) := by
  refine mx_Spec_E rfl rfl rfl ?_
  refine mR 4 rfl (mA1 (mI (n := 54) (by decide))) ?_
  rw [c54, h54]
  refine mR 18 rfl (mA3 (by rw [ixA 55 rfl]; exact mI (by omega)) (by rw [ixA 118 rfl]; exact mI (by omega)) (by rw [ixA 181 rfl]; exact mI (by omega))) ?_
  rw [ixA 55 rfl, ixA 118 rfl, ixA 181 rfl, nI_cl (a := 55 + b) (by omega), nI_cl (a := 118 + b) (by omega), nI_cl (a := 181 + b) (by omega)]
  refine mR 1 rfl trivial ?_
  cases lk with
  | none =>
    refine mx_E_br rfl rfl (fun _ => ?_) (fun h => absurd (by decide) h)
    refine mR 8 rfl (mA2 (mI (n := 54) (by decide)) (mI (n := 54) (by decide))) ?_
    rw [c54]
    refine mx_E_iret rfl rfl ⟨rfl, ?_, ?_, ?_, ?_, ?_, ?_, ?_⟩
    · exact mfr_up (mfr_up (mfr_up (mfr_up (mfr_rf _ _) (by decide)) (by decide)) (by decide)) (by decide)
    · rw [mx_up_same, mx_up_ix _ _ _ _ _ _ (by omega), mx_up_ix _ _ _ _ _ _ (by omega), mx_up_ix _ _ _ _ _ _ (by omega), h54, nI_1]
    · rw [mx_up_ix _ _ _ _ _ _ (by omega), mx_up_ix _ _ _ _ _ _ (by omega), mx_up_ix _ _ _ _ _ _ (by omega), mx_up_same]
    · rw [mx_up_ix _ _ _ _ _ _ (by omega), mx_up_ix _ _ _ _ _ _ (by omega), mx_up_same]
    · rw [mx_up_ix _ _ _ _ _ _ (by omega), mx_up_same]
    · intro x hx
      cases hx
    · intro x h1 h2 h3 h4 _
      rw [mx_up_ix _ _ _ _ _ _ h1, mx_up_ix _ _ _ _ _ _ h4, mx_up_ix _ _ _ _ _ _ h3, mx_up_ix _ _ _ _ _ _ h2]
  | some u =>
    obtain ⟨hu1, hu2⟩ := hl u rfl
    refine mx_E_br rfl rfl (fun h => absurd h (nI_pos (by omega))) (fun _ => ?_)
    refine mR 2 rfl trivial ?_
    rcases (show u.2 = 0 ∨ u.2 = 1 by omega) with e | e
    · have ex : lkX (some u) = some (118 + u.1) := by show some ((if u.2 = 0 then 118 else 181) + u.1) = _; rw [if_pos e]
      have eb : lkB (some u) = 0 := e
      rw [eb]
      refine mx_E_br rfl rfl (fun h => absurd rfl h) (fun _ => ?_)
      refine mR 6 rfl (mA1 (by show vp_in ((118 : Int32) + nI u.1) 244; rw [ixA 118 rfl]; exact mI (by omega))) ?_
      rw [show ((118 : Int32) + lkI (some u)).toNatClampNeg = 118 + u.1 by show ((118 : Int32) + nI u.1).toNatClampNeg = 118 + u.1; rw [ixA 118 rfl, nI_cl (by omega)]]
      refine mR 8 rfl (mA2 (mI (n := 54) (by decide)) (mI (n := 54) (by decide))) ?_
      rw [c54]
      refine mx_E_iret rfl rfl ⟨rfl, ?_, ?_, ?_, ?_, ?_, ?_, ?_⟩
      · exact mfr_up (mfr_up (mfr_up (mfr_up (mfr_up (mfr_rf _ _) (by decide)) (by decide)) (by decide)) (by decide)) (by decide)
      · rw [mx_up_same, mx_up_ix _ _ _ _ _ _ (by omega), mx_up_ix _ _ _ _ _ _ (by omega), mx_up_ix _ _ _ _ _ _ (by omega), mx_up_ix _ _ _ _ _ _ (by omega), h54, nI_1]
      · rw [mx_up_ix _ _ _ _ _ _ (by omega), mx_up_ix _ _ _ _ _ _ (by omega), mx_up_ix _ _ _ _ _ _ (by omega), mx_up_ix _ _ _ _ _ _ (by omega), mx_up_same]
      · rw [mx_up_ix _ _ _ _ _ _ (by omega), mx_up_ix _ _ _ _ _ _ (by omega), mx_up_ix _ _ _ _ _ _ (by omega), mx_up_same]
      · rw [mx_up_ix _ _ _ _ _ _ (by omega), mx_up_ix _ _ _ _ _ _ (by omega), mx_up_same]
      · intro x hx
        rw [ex] at hx
        cases hx
        rw [mx_up_ix _ _ _ _ _ _ (by omega), mx_up_same]
      · intro x h1 h2 h3 h4 h5
        rw [ex] at h5
        rw [mx_up_ix _ _ _ _ _ _ h1, mx_up_ix _ _ _ _ _ _ (fun z => h5 (by rw [z])), mx_up_ix _ _ _ _ _ _ h4, mx_up_ix _ _ _ _ _ _ h3, mx_up_ix _ _ _ _ _ _ h2]
    · have ex : lkX (some u) = some (181 + u.1) := by show some ((if u.2 = 0 then 118 else 181) + u.1) = _; rw [if_neg (by omega)]
      have eb : lkB (some u) = 1 := e
      rw [eb]
      refine mx_E_br rfl rfl (fun _ => ?_) (fun h => absurd (by decide) h)
      refine mR 5 rfl (mA1 (by show vp_in ((181 : Int32) + nI u.1) 244; rw [ixA 181 rfl]; exact mI (by omega))) ?_
      rw [show ((181 : Int32) + lkI (some u)).toNatClampNeg = 181 + u.1 by show ((181 : Int32) + nI u.1).toNatClampNeg = 181 + u.1; rw [ixA 181 rfl, nI_cl (by omega)]]
      refine mR 8 rfl (mA2 (mI (n := 54) (by decide)) (mI (n := 54) (by decide))) ?_
      rw [c54]
      refine mx_E_iret rfl rfl ⟨rfl, ?_, ?_, ?_, ?_, ?_, ?_, ?_⟩
      · exact mfr_up (mfr_up (mfr_up (mfr_up (mfr_up (mfr_rf _ _) (by decide)) (by decide)) (by decide)) (by decide)) (by decide)
      · rw [mx_up_same, mx_up_ix _ _ _ _ _ _ (by omega), mx_up_ix _ _ _ _ _ _ (by omega), mx_up_ix _ _ _ _ _ _ (by omega), mx_up_ix _ _ _ _ _ _ (by omega), h54, nI_1]
      · rw [mx_up_ix _ _ _ _ _ _ (by omega), mx_up_ix _ _ _ _ _ _ (by omega), mx_up_ix _ _ _ _ _ _ (by omega), mx_up_ix _ _ _ _ _ _ (by omega), mx_up_same]
      · rw [mx_up_ix _ _ _ _ _ _ (by omega), mx_up_ix _ _ _ _ _ _ (by omega), mx_up_ix _ _ _ _ _ _ (by omega), mx_up_same]
      · rw [mx_up_ix _ _ _ _ _ _ (by omega), mx_up_ix _ _ _ _ _ _ (by omega), mx_up_same]
      · intro x hx
        rw [ex] at hx
        cases hx
        rw [mx_up_ix _ _ _ _ _ _ (by omega), mx_up_same]
      · intro x h1 h2 h3 h4 h5
        rw [ex] at h5
        rw [mx_up_ix _ _ _ _ _ _ h1, mx_up_ix _ _ _ _ _ _ (fun z => h5 (by rw [z])), mx_up_ix _ _ _ _ _ _ h4, mx_up_ix _ _ _ _ _ _ h3, mx_up_ix _ _ _ _ _ _ h2]
theorem sp_Mo_comesTo4 (c : mx_M) (b : Nat) (lk : Option (Nat × Nat)) (hb : b < 63) (h54 : c 4 54 = nI b) (hl : lkOk lk b) : mx_Spec 1 1 m_Mo_comesTo [.ref 4, .int (lkI lk), .int (nI (lkB lk))] c (fun r c' => r = some (.int (nI b)) ∧ rCt c c' 4 b lk) := by
  refine mx_Spec_E rfl rfl rfl ?_
  refine mR 4 rfl (mA1 (mI (n := 54) (by decide))) ?_
  rw [c54, h54]
  refine mR 18 rfl (mA3 (by rw [ixA 55 rfl]; exact mI (by omega)) (by rw [ixA 118 rfl]; exact mI (by omega)) (by rw [ixA 181 rfl]; exact mI (by omega))) ?_
  rw [ixA 55 rfl, ixA 118 rfl, ixA 181 rfl, nI_cl (a := 55 + b) (by omega), nI_cl (a := 118 + b) (by omega), nI_cl (a := 181 + b) (by omega)]
  refine mR 1 rfl trivial ?_
  cases lk with
  | none =>
    refine mx_E_br rfl rfl (fun _ => ?_) (fun h => absurd (by decide) h)
    refine mR 8 rfl (mA2 (mI (n := 54) (by decide)) (mI (n := 54) (by decide))) ?_
    rw [c54]
    refine mx_E_iret rfl rfl ⟨rfl, ?_, ?_, ?_, ?_, ?_, ?_, ?_⟩
    · exact mfr_up (mfr_up (mfr_up (mfr_up (mfr_rf _ _) (by decide)) (by decide)) (by decide)) (by decide)
    · rw [mx_up_same, mx_up_ix _ _ _ _ _ _ (by omega), mx_up_ix _ _ _ _ _ _ (by omega), mx_up_ix _ _ _ _ _ _ (by omega), h54, nI_1]
    · rw [mx_up_ix _ _ _ _ _ _ (by omega), mx_up_ix _ _ _ _ _ _ (by omega), mx_up_ix _ _ _ _ _ _ (by omega), mx_up_same]
    · rw [mx_up_ix _ _ _ _ _ _ (by omega), mx_up_ix _ _ _ _ _ _ (by omega), mx_up_same]
    · rw [mx_up_ix _ _ _ _ _ _ (by omega), mx_up_same]
    · intro x hx
      cases hx
    · intro x h1 h2 h3 h4 _
      rw [mx_up_ix _ _ _ _ _ _ h1, mx_up_ix _ _ _ _ _ _ h4, mx_up_ix _ _ _ _ _ _ h3, mx_up_ix _ _ _ _ _ _ h2]
  | some u =>
    obtain ⟨hu1, hu2⟩ := hl u rfl
    refine mx_E_br rfl rfl (fun h => absurd h (nI_pos (by omega))) (fun _ => ?_)
    refine mR 2 rfl trivial ?_
    rcases (show u.2 = 0 ∨ u.2 = 1 by omega) with e | e
    · have ex : lkX (some u) = some (118 + u.1) := by show some ((if u.2 = 0 then 118 else 181) + u.1) = _; rw [if_pos e]
      have eb : lkB (some u) = 0 := e
      rw [eb]
      refine mx_E_br rfl rfl (fun h => absurd rfl h) (fun _ => ?_)
      refine mR 6 rfl (mA1 (by show vp_in ((118 : Int32) + nI u.1) 244; rw [ixA 118 rfl]; exact mI (by omega))) ?_
      rw [show ((118 : Int32) + lkI (some u)).toNatClampNeg = 118 + u.1 by show ((118 : Int32) + nI u.1).toNatClampNeg = 118 + u.1; rw [ixA 118 rfl, nI_cl (by omega)]]
      refine mR 8 rfl (mA2 (mI (n := 54) (by decide)) (mI (n := 54) (by decide))) ?_
      rw [c54]
      refine mx_E_iret rfl rfl ⟨rfl, ?_, ?_, ?_, ?_, ?_, ?_, ?_⟩
      · exact mfr_up (mfr_up (mfr_up (mfr_up (mfr_up (mfr_rf _ _) (by decide)) (by decide)) (by decide)) (by decide)) (by decide)
      · rw [mx_up_same, mx_up_ix _ _ _ _ _ _ (by omega), mx_up_ix _ _ _ _ _ _ (by omega), mx_up_ix _ _ _ _ _ _ (by omega), mx_up_ix _ _ _ _ _ _ (by omega), h54, nI_1]
      · rw [mx_up_ix _ _ _ _ _ _ (by omega), mx_up_ix _ _ _ _ _ _ (by omega), mx_up_ix _ _ _ _ _ _ (by omega), mx_up_ix _ _ _ _ _ _ (by omega), mx_up_same]
      · rw [mx_up_ix _ _ _ _ _ _ (by omega), mx_up_ix _ _ _ _ _ _ (by omega), mx_up_ix _ _ _ _ _ _ (by omega), mx_up_same]
      · rw [mx_up_ix _ _ _ _ _ _ (by omega), mx_up_ix _ _ _ _ _ _ (by omega), mx_up_same]
      · intro x hx
        rw [ex] at hx
        cases hx
        rw [mx_up_ix _ _ _ _ _ _ (by omega), mx_up_same]
      · intro x h1 h2 h3 h4 h5
        rw [ex] at h5
        rw [mx_up_ix _ _ _ _ _ _ h1, mx_up_ix _ _ _ _ _ _ (fun z => h5 (by rw [z])), mx_up_ix _ _ _ _ _ _ h4, mx_up_ix _ _ _ _ _ _ h3, mx_up_ix _ _ _ _ _ _ h2]
    · have ex : lkX (some u) = some (181 + u.1) := by show some ((if u.2 = 0 then 118 else 181) + u.1) = _; rw [if_neg (by omega)]
      have eb : lkB (some u) = 1 := e
      rw [eb]
      refine mx_E_br rfl rfl (fun _ => ?_) (fun h => absurd (by decide) h)
      refine mR 5 rfl (mA1 (by show vp_in ((181 : Int32) + nI u.1) 244; rw [ixA 181 rfl]; exact mI (by omega))) ?_
      rw [show ((181 : Int32) + lkI (some u)).toNatClampNeg = 181 + u.1 by show ((181 : Int32) + nI u.1).toNatClampNeg = 181 + u.1; rw [ixA 181 rfl, nI_cl (by omega)]]
      refine mR 8 rfl (mA2 (mI (n := 54) (by decide)) (mI (n := 54) (by decide))) ?_
      rw [c54]
      refine mx_E_iret rfl rfl ⟨rfl, ?_, ?_, ?_, ?_, ?_, ?_, ?_⟩
      · exact mfr_up (mfr_up (mfr_up (mfr_up (mfr_up (mfr_rf _ _) (by decide)) (by decide)) (by decide)) (by decide)) (by decide)
      · rw [mx_up_same, mx_up_ix _ _ _ _ _ _ (by omega), mx_up_ix _ _ _ _ _ _ (by omega), mx_up_ix _ _ _ _ _ _ (by omega), mx_up_ix _ _ _ _ _ _ (by omega), h54, nI_1]
      · rw [mx_up_ix _ _ _ _ _ _ (by omega), mx_up_ix _ _ _ _ _ _ (by omega), mx_up_ix _ _ _ _ _ _ (by omega), mx_up_ix _ _ _ _ _ _ (by omega), mx_up_same]
      · rw [mx_up_ix _ _ _ _ _ _ (by omega), mx_up_ix _ _ _ _ _ _ (by omega), mx_up_ix _ _ _ _ _ _ (by omega), mx_up_same]
      · rw [mx_up_ix _ _ _ _ _ _ (by omega), mx_up_ix _ _ _ _ _ _ (by omega), mx_up_same]
      · intro x hx
        rw [ex] at hx
        cases hx
        rw [mx_up_ix _ _ _ _ _ _ (by omega), mx_up_same]
      · intro x h1 h2 h3 h4 h5
        rw [ex] at h5
        rw [mx_up_ix _ _ _ _ _ _ h1, mx_up_ix _ _ _ _ _ _ (fun z => h5 (by rw [z])), mx_up_ix _ _ _ _ _ _ h4, mx_up_ix _ _ _ _ _ _ h3, mx_up_ix _ _ _ _ _ _ h2]
/-- the pile, and how much there is -/
def rPi (c c' : mx_M) (q : Nat) (w1 w2 w3 w4 : Int32) : Prop := mfr [0, 15] c c' ∧ (∀ k, k ≠ 29 → c' 0 k = c 0 k) ∧ c' 0 29 = nI (q + 1) ∧ c' 15 (4 * q) = w1 ∧ c' 15 (4 * q + 1) = w2 ∧ c' 15 (4 * q + 2) = w3 ∧ c' 15 (4 * q + 3) = w4 ∧ ∀ x, x < 4 * q → c' 15 x = c 15 x
theorem ix4 (q r : Nat) : nI (4 * q) + nI r = nI (4 * q + r) := nI_add _ _
theorem sp_Mo_piles (c : mx_M) (q : Nat) (w1 w2 w3 w4 : Int32) (hq : q < 64) (h29 : c 0 29 = nI q) : mx_Spec 1 1 m_Mo_piles [.ref 0, .int w1, .int w2, .int w3, .int w4] c (fun r c' => r = none ∧ rPi c c' q w1 w2 w3 w4) := by
  have m4 : (4 : Int32) * nI q = nI (4 * q) := by rw [show (4 : Int32) = nI 4 from rfl, pk_mul]
  refine mx_Spec_E rfl rfl rfl ?_
  refine mR 8 rfl (mA1 (by rw [h29, m4]; exact mI (by omega))) ?_
  rw [h29, m4, nI_cl (a := 4 * q) (by omega)]
  refine mR 10 rfl (mA1 (by rw [mx_up_id _ _ _ _ 0 29 (by decide), h29, m4, show (1 : Int32) = nI 1 from rfl, ix4]; exact mI (by omega))) ?_
  rw [mx_up_id _ _ _ _ 0 29 (by decide), h29, m4, show nI (4 * q) + (1 : Int32) = nI (4 * q + 1) from ix4 q 1, nI_cl (a := 4 * q + 1) (by omega)]
  refine mR 10 rfl (mA1 (by rw [mx_up_id _ _ _ _ 0 29 (by decide), mx_up_id _ _ _ _ 0 29 (by decide), h29, m4, show (2 : Int32) = nI 2 from rfl, ix4]; exact mI (by omega))) ?_
  rw [mx_up_id _ _ _ _ 0 29 (by decide), mx_up_id _ _ _ _ 0 29 (by decide), h29, m4, show nI (4 * q) + (2 : Int32) = nI (4 * q + 2) from ix4 q 2, nI_cl (a := 4 * q + 2) (by omega)]
  refine mR 10 rfl (mA1 (by rw [mx_up_id _ _ _ _ 0 29 (by decide), mx_up_id _ _ _ _ 0 29 (by decide), mx_up_id _ _ _ _ 0 29 (by decide), h29, m4, show (3 : Int32) = nI 3 from rfl, ix4]; exact mI (by omega))) ?_
  rw [mx_up_id _ _ _ _ 0 29 (by decide), mx_up_id _ _ _ _ 0 29 (by decide), mx_up_id _ _ _ _ 0 29 (by decide), h29, m4, show nI (4 * q) + (3 : Int32) = nI (4 * q + 3) from ix4 q 3, nI_cl (a := 4 * q + 3) (by omega)]
  refine mR 6 rfl trivial ?_
  rw [mx_up_id _ _ _ _ 0 29 (by decide), mx_up_id _ _ _ _ 0 29 (by decide), mx_up_id _ _ _ _ 0 29 (by decide), mx_up_id _ _ _ _ 0 29 (by decide), h29, nI_1]
  refine mx_E_vret rfl rfl ⟨rfl, ?_, ?_, ?_, ?_, ?_, ?_, ?_, ?_⟩
  · exact mfr_up (mfr_up (mfr_up (mfr_up (mfr_up (mfr_rf _ _) (by decide)) (by decide)) (by decide)) (by decide)) (by decide)
  · intro k hk
    rw [mx_up_ix _ _ _ _ _ _ hk, mx_up_id _ _ _ _ 0 k (by decide), mx_up_id _ _ _ _ 0 k (by decide), mx_up_id _ _ _ _ 0 k (by decide), mx_up_id _ _ _ _ 0 k (by decide)]
  · rw [mx_up_same]
  · rw [mx_up_id _ _ _ _ 15 _ (by decide), mx_up_ix _ _ _ _ _ _ (by omega), mx_up_ix _ _ _ _ _ _ (by omega), mx_up_ix _ _ _ _ _ _ (by omega), mx_up_same]
  · rw [mx_up_id _ _ _ _ 15 _ (by decide), mx_up_ix _ _ _ _ _ _ (by omega), mx_up_ix _ _ _ _ _ _ (by omega), mx_up_same]
  · rw [mx_up_id _ _ _ _ 15 _ (by decide), mx_up_ix _ _ _ _ _ _ (by omega), mx_up_same]
  · rw [mx_up_id _ _ _ _ 15 _ (by decide), mx_up_same]
  · intro x hx
    rw [mx_up_id _ _ _ _ 15 _ (by decide), mx_up_ix _ _ _ _ _ _ (by omega), mx_up_ix _ _ _ _ _ _ (by omega), mx_up_ix _ _ _ _ _ _ (by omega), mx_up_ix _ _ _ _ _ _ (by omega)]
end
section
/-! two agendas below a vote -/
def mT (n : Nat) (K : Nat → Option Nat) (Z : Nat → Nat) (L : Nat) : Prop := 1 ≤ L ∧ Z 0 = L ∧ ∀ k, k < L → (∃ q, K k = some q ∧ q < n ∧ Z k = 1) ∨ (K k = none ∧ 1 ≤ Z (k + 1) ∧ 1 ≤ Z (k + 1 + Z (k + 1)) ∧ Z k = 1 + Z (k + 1) + Z (k + 1 + Z (k + 1)) ∧ k + Z k ≤ L)
theorem mT_tree {n L : Nat} {K : Nat → Option Nat} {Z : Nat → Nat} : mtree n K Z L ↔ mT n K Z L ∧ L ≤ 63 := ⟨fun h => ⟨⟨h.1, h.2.2.1, h.2.2.2⟩, h.2.1⟩, fun h => ⟨h.1.1, h.2, h.1.2.1, h.1.2.2⟩⟩
def jK (L1 : Nat) (K1 K2 : Nat → Option Nat) : Nat → Option Nat
  | 0 => none
  | j + 1 => if j < L1 then K1 j else K2 (j - L1)
def jZ (L1 L2 : Nat) (Z1 Z2 : Nat → Nat) : Nat → Nat
  | 0 => 1 + L1 + L2
  | j + 1 => if j < L1 then Z1 j else Z2 (j - L1)
theorem jK_1 {L1 j : Nat} {K1 K2 : Nat → Option Nat} (h : j < L1) : jK L1 K1 K2 (j + 1) = K1 j := by show (if j < L1 then K1 j else K2 (j - L1)) = _; rw [if_pos h]
theorem jK_2 {L1 j : Nat} {K1 K2 : Nat → Option Nat} : jK L1 K1 K2 (L1 + j + 1) = K2 j := by show (if L1 + j < L1 then K1 (L1 + j) else K2 (L1 + j - L1)) = _; rw [if_neg (by omega), Nat.add_sub_cancel_left]
theorem jZ_1 {L1 L2 j : Nat} {Z1 Z2 : Nat → Nat} (h : j < L1) : jZ L1 L2 Z1 Z2 (j + 1) = Z1 j := by show (if j < L1 then Z1 j else Z2 (j - L1)) = _; rw [if_pos h]
theorem jZ_2 {L1 L2 j : Nat} {Z1 Z2 : Nat → Nat} : jZ L1 L2 Z1 Z2 (L1 + j + 1) = Z2 j := by show (if L1 + j < L1 then Z1 (L1 + j) else Z2 (L1 + j - L1)) = _; rw [if_neg (by omega), Nat.add_sub_cancel_left]
theorem mT_vote {n L k : Nat} {K : Nat → Option Nat} {Z : Nat → Nat} (h : mT n K Z L) (hk : k < L) (e : K k = none) : 1 ≤ Z (k + 1) ∧ 1 ≤ Z (k + 1 + Z (k + 1)) ∧ Z k = 1 + Z (k + 1) + Z (k + 1 + Z (k + 1)) ∧ k + Z k ≤ L ∧ k + 1 < L ∧ k + 1 + Z (k + 1) < L := by
  rcases h.2.2 k hk with ⟨q', h1, h2, h3⟩ | ⟨h1, h2, h3, h4, h5⟩
  · rw [e] at h1
    cases h1
  · exact ⟨h2, h3, h4, h5, by omega, by omega⟩
theorem mT_leaf {n q : Nat} (hq : q < n) : mT n (fun _ => some q) (fun _ => 1) 1 := ⟨Nat.le_refl 1, rfl, fun k hk => Or.inl ⟨q, rfl, hq, rfl⟩⟩
theorem mT_join {n L1 L2 : Nat} {K1 K2 : Nat → Option Nat} {Z1 Z2 : Nat → Nat} (h1 : mT n K1 Z1 L1) (h2 : mT n K2 Z2 L2) : mT n (jK L1 K1 K2) (jZ L1 L2 Z1 Z2) (1 + L1 + L2) := by
  have p1 := h1.1
  have p2 := h2.1
  refine ⟨by omega, rfl, fun k hk => ?_⟩
  match k, hk with
  | 0, hk =>
    have e1 : jZ L1 L2 Z1 Z2 (0 + 1) = L1 := by rw [jZ_1 (by omega)]; exact h1.2.1
    have e2 : jZ L1 L2 Z1 Z2 (0 + 1 + L1) = L2 := by rw [show 0 + 1 + L1 = L1 + 0 + 1 by omega]; exact (jZ_2 (j := 0)).trans h2.2.1
    refine Or.inr ⟨rfl, by rw [e1]; omega, by rw [e1, e2]; omega, by rw [e1, e2]; rfl, by show 0 + (1 + L1 + L2) ≤ _; omega⟩
  | j + 1, hk =>
    rcases Nat.lt_or_ge j L1 with hj | hj
    · rw [jK_1 hj, jZ_1 hj]
      rcases h1.2.2 j hj with h | ⟨g1, g2, g3, g4, g5⟩
      · exact Or.inl h
      · have e1 : jZ L1 L2 Z1 Z2 (j + 1 + 1) = Z1 (j + 1) := jZ_1 (by omega)
        have e2 : jZ L1 L2 Z1 Z2 (j + 1 + 1 + Z1 (j + 1)) = Z1 (j + 1 + Z1 (j + 1)) := by rw [show j + 1 + 1 + Z1 (j + 1) = (j + 1 + Z1 (j + 1)) + 1 by omega, jZ_1 (by omega)]
        refine Or.inr ⟨g1, by rw [e1]; exact g2, by rw [e1, e2]; exact g3, by rw [e1, e2]; exact g4, by omega⟩
    · obtain ⟨i, rfl⟩ : ∃ i, j = L1 + i := ⟨j - L1, by omega⟩
      rw [jK_2, jZ_2]
      rcases h2.2.2 i (by omega) with h | ⟨g1, g2, g3, g4, g5⟩
      · exact Or.inl h
      · have e1 : jZ L1 L2 Z1 Z2 (L1 + i + 1 + 1) = Z2 (i + 1) := by rw [show L1 + i + 1 + 1 = L1 + (i + 1) + 1 by omega, jZ_2]
        have e2 : jZ L1 L2 Z1 Z2 (L1 + i + 1 + 1 + Z2 (i + 1)) = Z2 (i + 1 + Z2 (i + 1)) := by rw [show L1 + i + 1 + 1 + Z2 (i + 1) = L1 + (i + 1 + Z2 (i + 1)) + 1 by omega, jZ_2]
        refine Or.inr ⟨g1, by rw [e1]; exact g2, by rw [e1, e2]; exact g3, by rw [e1, e2]; exact g4, by omega⟩
/-- the agenda of an order, from place n - t on, if its has won all votes ahead -/
def tL (t : Nat) : Nat := 2 ^ (t + 1) - 1
theorem tL_0 : tL 0 = 1 := rfl
theorem tL_s (t : Nat) : tL (t + 1) = 1 + tL t + tL t := by
  unfold tL
  have := Nat.two_pow_pos (t + 1)
  rw [Nat.pow_succ 2 (t + 1)]
  omega
theorem tL_pos (t : Nat) : 1 ≤ tL t := by
  unfold tL
  have := Nat.pow_le_pow_right (show 0 < 2 by decide) (show 1 ≤ t + 1 by omega)
  omega
def tK (f : Nat → Nat) (n : Nat) : Nat → Nat → Nat → Option Nat
  | 0, its => fun _ => some its
  | t + 1, its => jK (tL t) (tK f n t its) (tK f n t (f (n - (t + 1))))
def tZ : Nat → Nat → Nat
  | 0 => fun _ => 1
  | t + 1 => jZ (tL t) (tL t) (tZ t) (tZ t)
theorem tT {f : Nat → Nat} {n : Nat} (hf : ∀ p, p < n → f p < n) : ∀ (t its : Nat), t < n → its < n → mT n (tK f n t its) (tZ t) (tL t)
  | 0, its, _, hi => mT_leaf hi
  | t + 1, its, ht, hi => by
    rw [tL_s]
    exact mT_join (tT hf t its (by omega) hi) (tT hf t _ (by omega) (hf _ (by omega)))
/-- laid out in row i from node b on, below lk; the pile is as it was, but for what was on top -/
def rLd (c c' : mx_M) (i b L q : Nat) (lk : Option (Nat × Nat)) (K : Nat → Option Nat) (Z : Nat → Nat) : Prop :=
  mfr [0, i, 15] c c' ∧ (∀ k, k ≠ 29 → c' 0 k = c 0 k) ∧ c' 0 29 = nI q ∧ (∀ x, x < 4 * q → c' 15 x = c 15 x) ∧ c' i 54 = nI (b + L) ∧
  (∀ j, j < L → c' i (55 + (b + j)) = kI (K j) ∧ (K j = none → c' i (118 + (b + j)) = nI (b + j + 1) ∧ c' i (181 + (b + j)) = nI (b + j + 1 + Z (j + 1))) ∧ (K j ≠ none → c' i (118 + (b + j)) = -9 ∧ c' i (181 + (b + j)) = -9)) ∧
  (∀ x, lkX lk = some x → c' i x = nI b) ∧
  (∀ x, (x < 54 ∨ (55 ≤ x ∧ x < 55 + b) ∨ (118 ≤ x ∧ x < 118 + b) ∨ (181 ≤ x ∧ x < 181 + b)) → lkX lk ≠ some x → c' i x = c i x)
theorem lkX_lt {lk : Option (Nat × Nat)} {b x : Nat} (h : lkOk lk b) (hx : lkX lk = some x) : (118 ≤ x ∧ x < 118 + b) ∨ (181 ≤ x ∧ x < 181 + b) := by
  cases lk with
  | none => cases hx
  | some u =>
    obtain ⟨h1, h2⟩ := h u rfl
    have hx : some ((if u.2 = 0 then 118 else 181) + u.1) = some x := hx
    by_cases e : u.2 = 0
    · rw [if_pos e] at hx
      cases hx
      omega
    · rw [if_neg e] at hx
      cases hx
      omega
/-- a vote's node and both its branches -/
theorem rLd_join {c c1 c2 c3 c4 c5 c6 : mx_M} {i b L1 L2 q n : Nat} {lk : Option (Nat × Nat)} {K1 K2 : Nat → Option Nat} {Z1 Z2 : Nat → Nat} (hi0 : i ≠ 0) (hi15 : i ≠ 15) (hb : b + (1 + L1 + L2) ≤ 63) (hl : lkOk lk b) (t1 : mT n K1 Z1 L1) (t2 : mT n K2 Z2 L2)
    (f1 : c1 = mx_up c 0 29 (nI q)) (h2 : rCt c1 c2 i b lk) {w1 w2 w3 w4 v1 v2 v3 v4 : Int32} (h3 : rPi c2 c3 q w1 w2 w3 w4) (h4 : rPi c3 c4 (q + 1) v1 v2 v3 v4) (h5 : rLd c4 c5 i (b + 1) L1 (q + 1) (some (b, 0)) K1 Z1) (h6 : rLd c5 c6 i (b + 1 + L1) L2 q (some (b, 1)) K2 Z2) :
    rLd c c6 i b (1 + L1 + L2) q lk (jK L1 K1 K2) (jZ L1 L2 Z1 Z2) := by
  obtain ⟨a1, a2, a3, a4, a5, a6, a7⟩ := h2
  obtain ⟨p1, p2, p3, p4, p5, p6, p7, p8⟩ := h3
  obtain ⟨o1, o2, o3, o4, o5, o6, o7, o8⟩ := h4
  obtain ⟨x1, x2, x3, x4, x5, x6, x7, x8⟩ := h5
  obtain ⟨y1, y2, y3, y4, y5, y6, y7, y8⟩ := h6
  have r3 : c3 i = c2 i := p1 i (by simp [hi0, hi15])
  have r4 : c4 i = c3 i := o1 i (by simp [hi0, hi15])
  have lx1 : lkX (some (b, 0)) = some (118 + b) := rfl
  have lx2 : lkX (some (b, 1)) = some (181 + b) := rfl
  have q1 := t1.1
  have q2 := t2.1
  refine ⟨?_, ?_, y3, ?_, ?_, ?_, ?_, ?_⟩
  · intro r hr
    simp only [List.mem_cons, List.not_mem_nil, or_false, not_or] at hr
    rw [y1 r (by simp [hr]), x1 r (by simp [hr]), o1 r (by simp [hr]), p1 r (by simp [hr]), a1 r (by simp [hr]), f1, mx_up_rid _ _ _ _ _ hr.1]
  · intro k hk
    rw [y2 k hk, x2 k hk, o2 k hk, p2 k hk, a1 0 (by simp [hi0.symm]), f1, mx_up_ix _ _ _ _ _ _ hk]
  · intro x hx
    rw [y4 x hx, x4 x (by omega), o8 x (by omega), p8 x hx, a1 15 (by simp [hi15.symm]), f1, mx_up_id _ _ _ _ _ _ (by decide)]
  · rw [y5]
    congr 1
    omega
  · intro j hj
    match j, hj with
    | 0, _ =>
      have e0 : c6 i (55 + b) = -9 := by rw [y8 _ (by omega) (by rw [lx2]; intro z; injection z; omega), x8 _ (by omega) (by rw [lx1]; intro z; injection z; omega), r4, r3]; exact a3
      have e1 : c6 i (118 + b) = nI (b + 1) := by rw [y8 _ (by omega) (by rw [lx2]; intro z; injection z; omega)]; exact x7 _ lx1
      have e2 : c6 i (181 + b) = nI (b + 1 + L1) := y7 _ lx2
      refine ⟨e0, fun _ => ⟨e1, ?_⟩, fun h => absurd rfl h⟩
      show c6 i (181 + b) = nI (b + 1 + jZ L1 L2 Z1 Z2 (0 + 1))
      rw [e2, jZ_1 (by omega), t1.2.1]
    | j + 1, hj =>
      rcases Nat.lt_or_ge j L1 with hj1 | hj1
      · obtain ⟨g1, g2, g3⟩ := x6 j hj1
        rw [jK_1 hj1]
        have ea : ∀ w, w = 55 ∨ w = 118 ∨ w = 181 → c6 i (w + (b + (j + 1))) = c5 i (w + (b + 1 + j)) := by
          intro w hw
          rw [show w + (b + (j + 1)) = w + (b + 1 + j) by omega]
          exact y8 _ (by omega) (by rw [lx2]; intro z; injection z; omega)
        rw [ea 55 (by simp), ea 118 (by simp), ea 181 (by simp)]
        refine ⟨g1, fun e => ?_, g3⟩
        obtain ⟨e1, e2⟩ := g2 e
        obtain ⟨-, -, -, -, m5, -⟩ := mT_vote t1 hj1 e
        rw [jZ_1 m5]
        exact ⟨by rw [e1]; congr 1; omega, by rw [e2]; congr 1; omega⟩
      · obtain ⟨k, rfl⟩ : ∃ k, j = L1 + k := ⟨j - L1, by omega⟩
        obtain ⟨g1, g2, g3⟩ := y6 k (by omega)
        rw [jK_2]
        have ea : ∀ w, w + (b + (L1 + k + 1)) = w + (b + 1 + L1 + k) := by intro w; omega
        rw [ea 55, ea 118, ea 181]
        refine ⟨g1, fun e => ?_, g3⟩
        obtain ⟨e1, e2⟩ := g2 e
        rw [show L1 + k + 1 + 1 = L1 + (k + 1) + 1 by omega, jZ_2]
        exact ⟨by rw [e1]; congr 1; omega, by rw [e2]; congr 1; omega⟩
  · intro x hx
    have hlt := lkX_lt hl hx
    rw [y8 _ (by omega) (by rw [lx2]; intro z; injection z; omega), x8 _ (by omega) (by rw [lx1]; intro z; injection z; omega), r4, r3]
    exact a6 x hx
  · intro x hx hn
    rw [y8 _ (by omega) (by rw [lx2]; intro z; injection z; omega), x8 _ (by omega) (by rw [lx1]; intro z; injection z; omega), r4, r3, a7 x (by omega) (by omega) (by omega) (by omega) hn, f1, mx_up_rid _ _ _ _ _ hi0]
/-- a leaf -/
theorem rLd_leaf {c c1 c2 : mx_M} {i b q n its : Nat} {lk : Option (Nat × Nat)} (hi0 : i ≠ 0) (hi15 : i ≠ 15) (hb : b + 1 ≤ 63) (hl : lkOk lk b) (f1 : c1 = mx_up c 0 29 (nI q)) (h2 : rCt c1 c2 i b lk) : rLd c (mx_up c2 i (55 + b) (nI its)) i b 1 q lk (fun _ => some its) (fun _ => 1) := by
  obtain ⟨a1, a2, a3, a4, a5, a6, a7⟩ := h2
  refine ⟨?_, ?_, ?_, ?_, ?_, ?_, ?_, ?_⟩
  · intro r hr
    simp only [List.mem_cons, List.not_mem_nil, or_false, not_or] at hr
    rw [mx_up_rid _ _ _ _ _ hr.2.1, a1 r (by simp [hr]), f1, mx_up_rid _ _ _ _ _ hr.1]
  · intro k hk
    rw [mx_up_rid _ _ _ _ _ hi0.symm, a1 0 (by simp [hi0.symm]), f1, mx_up_ix _ _ _ _ _ _ hk]
  · rw [mx_up_rid _ _ _ _ _ hi0.symm, a1 0 (by simp [hi0.symm]), f1, mx_up_same]
  · intro x hx
    rw [mx_up_rid _ _ _ _ _ hi15.symm, a1 15 (by simp [hi15.symm]), f1, mx_up_id _ _ _ _ _ _ (by decide)]
  · rw [mx_up_ix _ _ _ _ _ _ (by omega)]
    exact a2
  · intro j hj
    have e : j = 0 := by omega
    subst e
    refine ⟨by rw [Nat.add_zero, mx_up_same]; rfl, fun h => (by cases h), fun _ => ?_⟩
    rw [Nat.add_zero, mx_up_ix _ _ _ _ _ _ (by omega), mx_up_ix _ _ _ _ _ _ (by omega)]
    exact ⟨a4, a5⟩
  · intro x hx
    have hlt := lkX_lt hl hx
    rw [mx_up_ix _ _ _ _ _ _ (by omega)]
    exact a6 x hx
  · intro x hx hn
    rw [mx_up_ix _ _ _ _ _ _ (by omega), a7 x (by omega) (by omega) (by omega) (by omega) hn, f1, mx_up_rid _ _ _ _ _ hi0]
end
section
/-- an entry of the pile -/
def rPe (c : mx_M) (q : Nat) (its far : Nat) (lk : Option (Nat × Nat)) : Prop := c 15 (4 * q) = nI its ∧ c 15 (4 * q + 1) = nI far ∧ c 15 (4 * q + 2) = lkI lk ∧ c 15 (4 * q + 3) = nI (lkB lk)
theorem m4q (q : Nat) : (4 : Int32) * nI q = nI (4 * q) := by rw [show (4 : Int32) = nI 4 from rfl, pk_mul]
theorem lp_Mo_lays2 {n : Nat} {f : Nat → Nat} (hn : mn n) (hf : ∀ p, p < n → f p < n) {Q : Option Value → mx_M → Prop} :
    ∀ (t its b q : Nat) (lk : Option (Nat × Nat)) (c : mx_M), t < n → its < n → lkOk lk b → b + tL t ≤ 63 → q + tL t ≤ 63 → c 0 29 = nI (q + 1) → rPe c q its (n - t) lk → c 2 54 = nI b → (∀ p, p < n → c 14 p = nI (f p)) → (∀ c', rLd c c' 2 b (tL t) q lk (tK f n t its) (tZ t) → mx_E 1 2 m_Mo_lays Q 16 [.ref 0, .ref 2, .int (nI n), .null, .null, .null] [] c') → mx_E 1 2 m_Mo_lays Q 16 [.ref 0, .ref 2, .int (nI n), .null, .null, .null] [] c := by
  have h6 := hn.2
  intro t
  induction t with
  | zero =>
    intro its b q lk c ht hi hl hb hq h29 hpe h54 h14 hk
    rw [tL_0] at hb hq
    obtain ⟨e0, e1, e2, e3⟩ := hpe
    refine mR 2 rfl trivial ?_
    rw [h29]
    refine mx_E_br rfl rfl (fun h => absurd h (nI_nle (by omega) (by omega))) (fun _ => ?_)
    refine mR 6 rfl trivial ?_
    rw [h29, nI_p1]
    obtain ⟨c1, hc1⟩ : ∃ c1, c1 = mx_up c 0 29 (nI q) := ⟨_, rfl⟩
    have g29 : c1 0 29 = nI q := by rw [hc1, mx_up_same]
    have g15 : ∀ x, c1 15 x = c 15 x := fun x => by rw [hc1, mx_up_id _ _ _ _ _ _ (by decide)]
    rw [← hc1]
    refine mR 37 rfl (mA4 (by rw [g29, m4q]; exact mI (by omega)) (by rw [g29, m4q, show (1 : Int32) = nI 1 from rfl, ix4]; exact mI (by omega)) (by rw [g29, m4q, show (2 : Int32) = nI 2 from rfl, ix4]; exact mI (by omega)) (by rw [g29, m4q, show (3 : Int32) = nI 3 from rfl, ix4]; exact mI (by omega))) ?_
    rw [g29, m4q, show nI (4 * q) + (1 : Int32) = nI (4 * q + 1) from ix4 q 1, show nI (4 * q) + (2 : Int32) = nI (4 * q + 2) from ix4 q 2, show nI (4 * q) + (3 : Int32) = nI (4 * q + 3) from ix4 q 3, nI_cl (a := 4 * q) (by omega), nI_cl (a := 4 * q + 1) (by omega), nI_cl (a := 4 * q + 2) (by omega), nI_cl (a := 4 * q + 3) (by omega), g15, g15, g15, g15, e0, e1, e2, e3]
    refine mx_E_callS (sp_Mo_comesTo2 _ b lk (by omega) (by rw [hc1, mx_up_id _ _ _ _ _ _ (by decide)]; exact h54) hl) rfl rfl rfl (fun r c2 hr => ?_)
    obtain ⟨rfl, h2⟩ := hr
    refine mR 3 rfl trivial ?_
    refine mbNe (n - 0) n rfl (by omega) (by omega) (fun h => by omega) (fun _ => ?_)
    refine mR 8 rfl (mA1 (by rw [ixA 55 rfl]; exact mI (by omega))) ?_
    rw [ixA 55 rfl, nI_cl (a := 55 + b) (by omega)]
    exact mW (hk _ (rLd_leaf (n := n) (by decide) (by decide) (by omega) hl hc1 h2)) ⟨Or.inr rfl, Or.inr rfl, Or.inr rfl, Or.inl rfl, Or.inl rfl, Or.inl rfl, trivial⟩ rfl rfl
  | succ t ih =>
    intro its b q lk c ht hi hl hb hq h29 hpe h54 h14 hk
    have hts := tL_s t
    have htp := tL_pos t
    obtain ⟨e0, e1, e2, e3⟩ := hpe
    refine mR 2 rfl trivial ?_
    rw [h29]
    refine mx_E_br rfl rfl (fun h => absurd h (nI_nle (by omega) (by omega))) (fun _ => ?_)
    refine mR 6 rfl trivial ?_
    rw [h29, nI_p1]
    obtain ⟨c1, hc1⟩ : ∃ c1, c1 = mx_up c 0 29 (nI q) := ⟨_, rfl⟩
    have g29 : c1 0 29 = nI q := by rw [hc1, mx_up_same]
    have g15 : ∀ x, c1 15 x = c 15 x := fun x => by rw [hc1, mx_up_id _ _ _ _ _ _ (by decide)]
    rw [← hc1]
    refine mR 37 rfl (mA4 (by rw [g29, m4q]; exact mI (by omega)) (by rw [g29, m4q, show (1 : Int32) = nI 1 from rfl, ix4]; exact mI (by omega)) (by rw [g29, m4q, show (2 : Int32) = nI 2 from rfl, ix4]; exact mI (by omega)) (by rw [g29, m4q, show (3 : Int32) = nI 3 from rfl, ix4]; exact mI (by omega))) ?_
    rw [g29, m4q, show nI (4 * q) + (1 : Int32) = nI (4 * q + 1) from ix4 q 1, show nI (4 * q) + (2 : Int32) = nI (4 * q + 2) from ix4 q 2, show nI (4 * q) + (3 : Int32) = nI (4 * q + 3) from ix4 q 3, nI_cl (a := 4 * q) (by omega), nI_cl (a := 4 * q + 1) (by omega), nI_cl (a := 4 * q + 2) (by omega), nI_cl (a := 4 * q + 3) (by omega), g15, g15, g15, g15, e0, e1, e2, e3]
    refine mx_E_callS (sp_Mo_comesTo2 _ b lk (by omega) (by rw [hc1, mx_up_id _ _ _ _ _ _ (by decide)]; exact h54) hl) rfl rfl rfl (fun r c2 hr => ?_)
    obtain ⟨rfl, h2⟩ := hr
    have g29b : c2 0 29 = nI q := by rw [h2.1 0 (by decide)]; exact g29
    have g14 : ∀ p, p < n → c2 14 p = nI (f p) := fun p hp => by rw [h2.1 14 (by decide), hc1, mx_up_id _ _ _ _ _ _ (by decide)]; exact h14 p hp
    refine mR 3 rfl trivial ?_
    refine mbNe (n - (t + 1)) n rfl (by omega) (by omega) (fun _ => ?_) (fun h => by omega)
    refine mR 10 rfl (mA1 (mI (by omega))) ?_
    rw [nI_cl (a := n - (t + 1)) (by omega), g14 _ (by omega), nI_1, show n - (t + 1) + 1 = n - t by omega]
    refine mx_E_callV (sp_Mo_piles _ q _ _ _ _ (by omega) g29b) rfl rfl rfl (fun r c3 hr => ?_)
    obtain ⟨rfl, h3⟩ := hr
    refine mR 7 rfl trivial ?_
    rw [nI_1, show n - (t + 1) + 1 = n - t by omega]
    refine mx_E_callV (sp_Mo_piles _ (q + 1) _ _ _ _ (by omega) h3.2.2.1) rfl rfl rfl (fun r c4 hr => ?_)
    obtain ⟨rfl, h4⟩ := hr
    refine mR 1 rfl trivial ?_
    have k14 : ∀ p, p < n → c4 14 p = nI (f p) := fun p hp => by rw [h4.1 14 (by decide), h3.1 14 (by decide)]; exact g14 p hp
    have k54 : c4 2 54 = nI (b + 1) := by rw [h4.1 2 (by decide), h3.1 2 (by decide)]; exact h2.2.1
    refine mW (ih its (b + 1) (q + 1) (some (b, 0)) c4 (by omega) hi (fun u hu => by cases hu; exact ⟨by show b < b + 1; omega, by show (0 : Nat) < 2; decide⟩) (by omega) (by omega) h4.2.2.1 ⟨h4.2.2.2.1, h4.2.2.2.2.1, h4.2.2.2.2.2.1, h4.2.2.2.2.2.2.1⟩ k54 k14 (fun c5 h5 => ?_)) ⟨Or.inr rfl, Or.inr rfl, Or.inr rfl, Or.inl rfl, Or.inl rfl, Or.inl rfl, trivial⟩ rfl rfl
    have u0 : c5 15 (4 * q) = c3 15 (4 * q) := by rw [h5.2.2.2.1 _ (by omega), h4.2.2.2.2.2.2.2 _ (by omega)]
    have u1 : c5 15 (4 * q + 1) = c3 15 (4 * q + 1) := by rw [h5.2.2.2.1 _ (by omega), h4.2.2.2.2.2.2.2 _ (by omega)]
    have u2 : c5 15 (4 * q + 2) = c3 15 (4 * q + 2) := by rw [h5.2.2.2.1 _ (by omega), h4.2.2.2.2.2.2.2 _ (by omega)]
    have u3 : c5 15 (4 * q + 3) = c3 15 (4 * q + 3) := by rw [h5.2.2.2.1 _ (by omega), h4.2.2.2.2.2.2.2 _ (by omega)]
    refine ih (f (n - (t + 1))) (b + 1 + tL t) q (some (b, 1)) c5 (by omega) (hf _ (by omega)) (fun u hu => by cases hu; exact ⟨by show b < b + 1 + tL t; omega, by show (1 : Nat) < 2; decide⟩) (by omega) (by omega) h5.2.2.1 ⟨by rw [u0]; exact h3.2.2.2.1, by rw [u1]; exact h3.2.2.2.2.1, by rw [u2]; exact h3.2.2.2.2.2.1, by rw [u3]; exact h3.2.2.2.2.2.2.1⟩ h5.2.2.2.2.1 (fun p hp => by rw [h5.1 14 (by decide)]; exact k14 p hp) (fun c6 h6 => ?_)
    refine hk c6 ?_
    rw [tL_s]
    exact rLd_join (by decide) (by decide) (by omega) hl (tT hf t its (by omega) hi) (tT hf t _ (by omega) (hf _ (by omega))) hc1 h2 h3 h4 h5 h6
/-- the row holds the agenda of the order f, and all else as it was -/
theorem sp_Mo_lays2 (c : mx_M) {n : Nat} {f : Nat → Nat} (hn : mn n) (hf : ∀ p, p < n → f p < n) (h14 : ∀ p, p < n → c 14 p = nI (f p)) : mx_Spec 1 2 m_Mo_lays [.ref 0, .ref 2, .int (nI n)] c (fun r c' => r = none ∧ mfr [0, 2, 15] c c' ∧ (∀ k, k ≠ 29 → c' 0 k = c 0 k) ∧ (∀ x, x < 54 → c' 2 x = c 2 x) ∧ rTb (c' 2) (tK f n (n - 1) (f 0)) (tZ (n - 1)) (tL (n - 1))) := by
  have h2 := hn.1
  have h6 := hn.2
  have hl63 : tL (n - 1) ≤ 63 := by
    rcases mn_cases hn with rfl | rfl | rfl | rfl | rfl <;> decide
  refine mx_Spec_E rfl rfl rfl ?_
  refine mR 7 rfl (mA1 (mI (n := 54) (by decide))) ?_
  rw [c54]
  obtain ⟨c1, hc1⟩ : ∃ c1, c1 = mx_up (mx_up c 2 54 0) 0 29 0 := ⟨_, rfl⟩
  rw [← hc1]
  have k14 : ∀ p, p < n → c1 14 p = nI (f p) := fun p hp => by rw [hc1, mx_up_id _ _ _ _ _ _ (by decide), mx_up_id _ _ _ _ _ _ (by decide)]; exact h14 p hp
  refine mR 8 rfl (mA1 (mI (n := 0) (by decide))) ?_
  rw [show ((0 : Int32)).toNatClampNeg = 0 by decide, k14 0 (by omega)]
  refine mx_E_callV (sp_Mo_piles _ 0 _ _ _ _ (by decide) (by rw [hc1, mx_up_same]; rfl)) rfl rfl rfl (fun r c2 hr => ?_)
  obtain ⟨rfl, h3⟩ := hr
  refine mS (lp_Mo_lays2 hn hf (n - 1) (f 0) 0 0 none c2 (by omega) (hf 0 (by omega)) (fun u hu => by cases hu) (by omega) (by omega) h3.2.2.1 ⟨h3.2.2.2.1, by rw [show n - (n - 1) = 1 by omega]; exact h3.2.2.2.2.1, h3.2.2.2.2.2.1, h3.2.2.2.2.2.2.1⟩ (by rw [h3.1 2 (by decide), hc1, mx_up_id _ _ _ _ _ _ (by decide), mx_up_same]; rfl) (fun p hp => by rw [h3.1 14 (by decide)]; exact k14 p hp) (fun c' h => ?_)) rfl rfl rfl
  obtain ⟨y1, y2, y3, y4, y5, y6, y7, y8⟩ := h
  refine mR 2 rfl trivial ?_
  rw [y3]
  refine mx_E_br rfl rfl (fun _ => ?_) (fun h => absurd (by decide) h)
  refine mx_E_vret rfl rfl ⟨rfl, ?_, ?_, ?_, ?_⟩
  · intro r hr
    have hr2 := hr
    simp only [List.mem_cons, List.not_mem_nil, or_false, not_or] at hr
    rw [y1 r hr2, h3.1 r (by simp [hr]), hc1, mx_up_rid _ _ _ _ _ hr.1, mx_up_rid _ _ _ _ _ hr.2.1]
  · intro k hk
    rw [y2 k hk, h3.2.1 k hk, hc1, mx_up_ix _ _ _ _ _ _ hk, mx_up_id _ _ _ _ _ _ (by decide)]
  · intro x hx
    rw [y8 x (Or.inl hx) (fun z => by cases z), h3.1 2 (by decide), hc1, mx_up_rid _ _ _ _ _ (by decide), mx_up_ix _ _ _ _ _ _ (by omega)]
  · refine ⟨by rw [y5, Nat.zero_add], fun k hk => ?_⟩
    have z := y6 k hk
    rw [Nat.zero_add] at z
    exact z
theorem lp_Mo_lays3 {n : Nat} {f : Nat → Nat} (hn : mn n) (hf : ∀ p, p < n → f p < n) {Q : Option Value → mx_M → Prop} :
    ∀ (t its b q : Nat) (lk : Option (Nat × Nat)) (c : mx_M), t < n → its < n → lkOk lk b → b + tL t ≤ 63 → q + tL t ≤ 63 → c 0 29 = nI (q + 1) → rPe c q its (n - t) lk → c 3 54 = nI b → (∀ p, p < n → c 14 p = nI (f p)) → (∀ c', rLd c c' 3 b (tL t) q lk (tK f n t its) (tZ t) → mx_E 1 2 m_Mo_lays Q 16 [.ref 0, .ref 3, .int (nI n), .null, .null, .null] [] c') → mx_E 1 2 m_Mo_lays Q 16 [.ref 0, .ref 3, .int (nI n), .null, .null, .null] [] c := by
  have h6 := hn.2
  intro t
  induction t with
  | zero =>
    intro its b q lk c ht hi hl hb hq h29 hpe h54 h14 hk
    rw [tL_0] at hb hq
    obtain ⟨e0, e1, e2, e3⟩ := hpe
    refine mR 2 rfl trivial ?_
    rw [h29]
    refine mx_E_br rfl rfl (fun h => absurd h (nI_nle (by omega) (by omega))) (fun _ => ?_)
    refine mR 6 rfl trivial ?_
    rw [h29, nI_p1]
    obtain ⟨c1, hc1⟩ : ∃ c1, c1 = mx_up c 0 29 (nI q) := ⟨_, rfl⟩
    have g29 : c1 0 29 = nI q := by rw [hc1, mx_up_same]
    have g15 : ∀ x, c1 15 x = c 15 x := fun x => by rw [hc1, mx_up_id _ _ _ _ _ _ (by decide)]
    rw [← hc1]
    refine mR 37 rfl (mA4 (by rw [g29, m4q]; exact mI (by omega)) (by rw [g29, m4q, show (1 : Int32) = nI 1 from rfl, ix4]; exact mI (by omega)) (by rw [g29, m4q, show (2 : Int32) = nI 2 from rfl, ix4]; exact mI (by omega)) (by rw [g29, m4q, show (3 : Int32) = nI 3 from rfl, ix4]; exact mI (by omega))) ?_
    rw [g29, m4q, show nI (4 * q) + (1 : Int32) = nI (4 * q + 1) from ix4 q 1, show nI (4 * q) + (2 : Int32) = nI (4 * q + 2) from ix4 q 2, show nI (4 * q) + (3 : Int32) = nI (4 * q + 3) from ix4 q 3, nI_cl (a := 4 * q) (by omega), nI_cl (a := 4 * q + 1) (by omega), nI_cl (a := 4 * q + 2) (by omega), nI_cl (a := 4 * q + 3) (by omega), g15, g15, g15, g15, e0, e1, e2, e3]
    refine mx_E_callS (sp_Mo_comesTo3 _ b lk (by omega) (by rw [hc1, mx_up_id _ _ _ _ _ _ (by decide)]; exact h54) hl) rfl rfl rfl (fun r c2 hr => ?_)
    obtain ⟨rfl, h2⟩ := hr
    refine mR 3 rfl trivial ?_
    refine mbNe (n - 0) n rfl (by omega) (by omega) (fun h => by omega) (fun _ => ?_)
    refine mR 8 rfl (mA1 (by rw [ixA 55 rfl]; exact mI (by omega))) ?_
    rw [ixA 55 rfl, nI_cl (a := 55 + b) (by omega)]
    exact mW (hk _ (rLd_leaf (n := n) (by decide) (by decide) (by omega) hl hc1 h2)) ⟨Or.inr rfl, Or.inr rfl, Or.inr rfl, Or.inl rfl, Or.inl rfl, Or.inl rfl, trivial⟩ rfl rfl
  | succ t ih =>
    intro its b q lk c ht hi hl hb hq h29 hpe h54 h14 hk
    have hts := tL_s t
    have htp := tL_pos t
    obtain ⟨e0, e1, e2, e3⟩ := hpe
    refine mR 2 rfl trivial ?_
    rw [h29]
    refine mx_E_br rfl rfl (fun h => absurd h (nI_nle (by omega) (by omega))) (fun _ => ?_)
    refine mR 6 rfl trivial ?_
    rw [h29, nI_p1]
    obtain ⟨c1, hc1⟩ : ∃ c1, c1 = mx_up c 0 29 (nI q) := ⟨_, rfl⟩
    have g29 : c1 0 29 = nI q := by rw [hc1, mx_up_same]
    have g15 : ∀ x, c1 15 x = c 15 x := fun x => by rw [hc1, mx_up_id _ _ _ _ _ _ (by decide)]
    rw [← hc1]
    refine mR 37 rfl (mA4 (by rw [g29, m4q]; exact mI (by omega)) (by rw [g29, m4q, show (1 : Int32) = nI 1 from rfl, ix4]; exact mI (by omega)) (by rw [g29, m4q, show (2 : Int32) = nI 2 from rfl, ix4]; exact mI (by omega)) (by rw [g29, m4q, show (3 : Int32) = nI 3 from rfl, ix4]; exact mI (by omega))) ?_
    rw [g29, m4q, show nI (4 * q) + (1 : Int32) = nI (4 * q + 1) from ix4 q 1, show nI (4 * q) + (2 : Int32) = nI (4 * q + 2) from ix4 q 2, show nI (4 * q) + (3 : Int32) = nI (4 * q + 3) from ix4 q 3, nI_cl (a := 4 * q) (by omega), nI_cl (a := 4 * q + 1) (by omega), nI_cl (a := 4 * q + 2) (by omega), nI_cl (a := 4 * q + 3) (by omega), g15, g15, g15, g15, e0, e1, e2, e3]
    refine mx_E_callS (sp_Mo_comesTo3 _ b lk (by omega) (by rw [hc1, mx_up_id _ _ _ _ _ _ (by decide)]; exact h54) hl) rfl rfl rfl (fun r c2 hr => ?_)
    obtain ⟨rfl, h2⟩ := hr
    have g29b : c2 0 29 = nI q := by rw [h2.1 0 (by decide)]; exact g29
    have g14 : ∀ p, p < n → c2 14 p = nI (f p) := fun p hp => by rw [h2.1 14 (by decide), hc1, mx_up_id _ _ _ _ _ _ (by decide)]; exact h14 p hp
    refine mR 3 rfl trivial ?_
    refine mbNe (n - (t + 1)) n rfl (by omega) (by omega) (fun _ => ?_) (fun h => by omega)
    refine mR 10 rfl (mA1 (mI (by omega))) ?_
    rw [nI_cl (a := n - (t + 1)) (by omega), g14 _ (by omega), nI_1, show n - (t + 1) + 1 = n - t by omega]
    refine mx_E_callV (sp_Mo_piles _ q _ _ _ _ (by omega) g29b) rfl rfl rfl (fun r c3 hr => ?_)
    obtain ⟨rfl, h3⟩ := hr
    refine mR 7 rfl trivial ?_
    rw [nI_1, show n - (t + 1) + 1 = n - t by omega]
    refine mx_E_callV (sp_Mo_piles _ (q + 1) _ _ _ _ (by omega) h3.2.2.1) rfl rfl rfl (fun r c4 hr => ?_)
    obtain ⟨rfl, h4⟩ := hr
    refine mR 1 rfl trivial ?_
    have k14 : ∀ p, p < n → c4 14 p = nI (f p) := fun p hp => by rw [h4.1 14 (by decide), h3.1 14 (by decide)]; exact g14 p hp
    have k54 : c4 3 54 = nI (b + 1) := by rw [h4.1 3 (by decide), h3.1 3 (by decide)]; exact h2.2.1
    refine mW (ih its (b + 1) (q + 1) (some (b, 0)) c4 (by omega) hi (fun u hu => by cases hu; exact ⟨by show b < b + 1; omega, by show (0 : Nat) < 2; decide⟩) (by omega) (by omega) h4.2.2.1 ⟨h4.2.2.2.1, h4.2.2.2.2.1, h4.2.2.2.2.2.1, h4.2.2.2.2.2.2.1⟩ k54 k14 (fun c5 h5 => ?_)) ⟨Or.inr rfl, Or.inr rfl, Or.inr rfl, Or.inl rfl, Or.inl rfl, Or.inl rfl, trivial⟩ rfl rfl
    have u0 : c5 15 (4 * q) = c3 15 (4 * q) := by rw [h5.2.2.2.1 _ (by omega), h4.2.2.2.2.2.2.2 _ (by omega)]
    have u1 : c5 15 (4 * q + 1) = c3 15 (4 * q + 1) := by rw [h5.2.2.2.1 _ (by omega), h4.2.2.2.2.2.2.2 _ (by omega)]
    have u2 : c5 15 (4 * q + 2) = c3 15 (4 * q + 2) := by rw [h5.2.2.2.1 _ (by omega), h4.2.2.2.2.2.2.2 _ (by omega)]
    have u3 : c5 15 (4 * q + 3) = c3 15 (4 * q + 3) := by rw [h5.2.2.2.1 _ (by omega), h4.2.2.2.2.2.2.2 _ (by omega)]
    refine ih (f (n - (t + 1))) (b + 1 + tL t) q (some (b, 1)) c5 (by omega) (hf _ (by omega)) (fun u hu => by cases hu; exact ⟨by show b < b + 1 + tL t; omega, by show (1 : Nat) < 2; decide⟩) (by omega) (by omega) h5.2.2.1 ⟨by rw [u0]; exact h3.2.2.2.1, by rw [u1]; exact h3.2.2.2.2.1, by rw [u2]; exact h3.2.2.2.2.2.1, by rw [u3]; exact h3.2.2.2.2.2.2.1⟩ h5.2.2.2.2.1 (fun p hp => by rw [h5.1 14 (by decide)]; exact k14 p hp) (fun c6 h6 => ?_)
    refine hk c6 ?_
    rw [tL_s]
    exact rLd_join (by decide) (by decide) (by omega) hl (tT hf t its (by omega) hi) (tT hf t _ (by omega) (hf _ (by omega))) hc1 h2 h3 h4 h5 h6
/-- the row holds the agenda of the order f, and all else as it was -/
theorem sp_Mo_lays3 (c : mx_M) {n : Nat} {f : Nat → Nat} (hn : mn n) (hf : ∀ p, p < n → f p < n) (h14 : ∀ p, p < n → c 14 p = nI (f p)) : mx_Spec 1 2 m_Mo_lays [.ref 0, .ref 3, .int (nI n)] c (fun r c' => r = none ∧ mfr [0, 3, 15] c c' ∧ (∀ k, k ≠ 29 → c' 0 k = c 0 k) ∧ (∀ x, x < 54 → c' 3 x = c 3 x) ∧ rTb (c' 3) (tK f n (n - 1) (f 0)) (tZ (n - 1)) (tL (n - 1))) := by
  have h2 := hn.1
  have h6 := hn.2
  have hl63 : tL (n - 1) ≤ 63 := by
    rcases mn_cases hn with rfl | rfl | rfl | rfl | rfl <;> decide
  refine mx_Spec_E rfl rfl rfl ?_
  refine mR 7 rfl (mA1 (mI (n := 54) (by decide))) ?_
  rw [c54]
  obtain ⟨c1, hc1⟩ : ∃ c1, c1 = mx_up (mx_up c 3 54 0) 0 29 0 := ⟨_, rfl⟩
  rw [← hc1]
  have k14 : ∀ p, p < n → c1 14 p = nI (f p) := fun p hp => by rw [hc1, mx_up_id _ _ _ _ _ _ (by decide), mx_up_id _ _ _ _ _ _ (by decide)]; exact h14 p hp
  refine mR 8 rfl (mA1 (mI (n := 0) (by decide))) ?_
  rw [show ((0 : Int32)).toNatClampNeg = 0 by decide, k14 0 (by omega)]
  refine mx_E_callV (sp_Mo_piles _ 0 _ _ _ _ (by decide) (by rw [hc1, mx_up_same]; rfl)) rfl rfl rfl (fun r c2 hr => ?_)
  obtain ⟨rfl, h3⟩ := hr
  refine mS (lp_Mo_lays3 hn hf (n - 1) (f 0) 0 0 none c2 (by omega) (hf 0 (by omega)) (fun u hu => by cases hu) (by omega) (by omega) h3.2.2.1 ⟨h3.2.2.2.1, by rw [show n - (n - 1) = 1 by omega]; exact h3.2.2.2.2.1, h3.2.2.2.2.2.1, h3.2.2.2.2.2.2.1⟩ (by rw [h3.1 3 (by decide), hc1, mx_up_id _ _ _ _ _ _ (by decide), mx_up_same]; rfl) (fun p hp => by rw [h3.1 14 (by decide)]; exact k14 p hp) (fun c' h => ?_)) rfl rfl rfl
  obtain ⟨y1, y2, y3, y4, y5, y6, y7, y8⟩ := h
  refine mR 2 rfl trivial ?_
  rw [y3]
  refine mx_E_br rfl rfl (fun _ => ?_) (fun h => absurd (by decide) h)
  refine mx_E_vret rfl rfl ⟨rfl, ?_, ?_, ?_, ?_⟩
  · intro r hr
    have hr2 := hr
    simp only [List.mem_cons, List.not_mem_nil, or_false, not_or] at hr
    rw [y1 r hr2, h3.1 r (by simp [hr]), hc1, mx_up_rid _ _ _ _ _ hr.1, mx_up_rid _ _ _ _ _ hr.2.1]
  · intro k hk
    rw [y2 k hk, h3.2.1 k hk, hc1, mx_up_ix _ _ _ _ _ _ hk, mx_up_id _ _ _ _ _ _ (by decide)]
  · intro x hx
    rw [y8 x (Or.inl hx) (fun z => by cases z), h3.1 3 (by decide), hc1, mx_up_rid _ _ _ _ _ (by decide), mx_up_ix _ _ _ _ _ _ (by omega)]
  · refine ⟨by rw [y5, Nat.zero_add], fun k hk => ?_⟩
    have z := y6 k hk
    rw [Nat.zero_add] at z
    exact z
theorem lp_Mo_lays4 {n : Nat} {f : Nat → Nat} (hn : mn n) (hf : ∀ p, p < n → f p < n) {Q : Option Value → mx_M → Prop} :
    ∀ (t its b q : Nat) (lk : Option (Nat × Nat)) (c : mx_M), t < n → its < n → lkOk lk b → b + tL t ≤ 63 → q + tL t ≤ 63 → c 0 29 = nI (q + 1) → rPe c q its (n - t) lk → c 4 54 = nI b → (∀ p, p < n → c 14 p = nI (f p)) → (∀ c', rLd c c' 4 b (tL t) q lk (tK f n t its) (tZ t) → mx_E 1 2 m_Mo_lays Q 16 [.ref 0, .ref 4, .int (nI n), .null, .null, .null] [] c') → mx_E 1 2 m_Mo_lays Q 16 [.ref 0, .ref 4, .int (nI n), .null, .null, .null] [] c := by
  have h6 := hn.2
  intro t
  induction t with
  | zero =>
    intro its b q lk c ht hi hl hb hq h29 hpe h54 h14 hk
    rw [tL_0] at hb hq
    obtain ⟨e0, e1, e2, e3⟩ := hpe
    refine mR 2 rfl trivial ?_
    rw [h29]
    refine mx_E_br rfl rfl (fun h => absurd h (nI_nle (by omega) (by omega))) (fun _ => ?_)
    refine mR 6 rfl trivial ?_
    rw [h29, nI_p1]
    obtain ⟨c1, hc1⟩ : ∃ c1, c1 = mx_up c 0 29 (nI q) := ⟨_, rfl⟩
    have g29 : c1 0 29 = nI q := by rw [hc1, mx_up_same]
    have g15 : ∀ x, c1 15 x = c 15 x := fun x => by rw [hc1, mx_up_id _ _ _ _ _ _ (by decide)]
    rw [← hc1]
    refine mR 37 rfl (mA4 (by rw [g29, m4q]; exact mI (by omega)) (by rw [g29, m4q, show (1 : Int32) = nI 1 from rfl, ix4]; exact mI (by omega)) (by rw [g29, m4q, show (2 : Int32) = nI 2 from rfl, ix4]; exact mI (by omega)) (by rw [g29, m4q, show (3 : Int32) = nI 3 from rfl, ix4]; exact mI (by omega))) ?_
    rw [g29, m4q, show nI (4 * q) + (1 : Int32) = nI (4 * q + 1) from ix4 q 1, show nI (4 * q) + (2 : Int32) = nI (4 * q + 2) from ix4 q 2, show nI (4 * q) + (3 : Int32) = nI (4 * q + 3) from ix4 q 3, nI_cl (a := 4 * q) (by omega), nI_cl (a := 4 * q + 1) (by omega), nI_cl (a := 4 * q + 2) (by omega), nI_cl (a := 4 * q + 3) (by omega), g15, g15, g15, g15, e0, e1, e2, e3]
    refine mx_E_callS (sp_Mo_comesTo4 _ b lk (by omega) (by rw [hc1, mx_up_id _ _ _ _ _ _ (by decide)]; exact h54) hl) rfl rfl rfl (fun r c2 hr => ?_)
    obtain ⟨rfl, h2⟩ := hr
    refine mR 3 rfl trivial ?_
    refine mbNe (n - 0) n rfl (by omega) (by omega) (fun h => by omega) (fun _ => ?_)
    refine mR 8 rfl (mA1 (by rw [ixA 55 rfl]; exact mI (by omega))) ?_
    rw [ixA 55 rfl, nI_cl (a := 55 + b) (by omega)]
    exact mW (hk _ (rLd_leaf (n := n) (by decide) (by decide) (by omega) hl hc1 h2)) ⟨Or.inr rfl, Or.inr rfl, Or.inr rfl, Or.inl rfl, Or.inl rfl, Or.inl rfl, trivial⟩ rfl rfl
  | succ t ih =>
    intro its b q lk c ht hi hl hb hq h29 hpe h54 h14 hk
    have hts := tL_s t
    have htp := tL_pos t
    obtain ⟨e0, e1, e2, e3⟩ := hpe
    refine mR 2 rfl trivial ?_
    rw [h29]
    refine mx_E_br rfl rfl (fun h => absurd h (nI_nle (by omega) (by omega))) (fun _ => ?_)
    refine mR 6 rfl trivial ?_
    rw [h29, nI_p1]
    obtain ⟨c1, hc1⟩ : ∃ c1, c1 = mx_up c 0 29 (nI q) := ⟨_, rfl⟩
    have g29 : c1 0 29 = nI q := by rw [hc1, mx_up_same]
    have g15 : ∀ x, c1 15 x = c 15 x := fun x => by rw [hc1, mx_up_id _ _ _ _ _ _ (by decide)]
    rw [← hc1]
    refine mR 37 rfl (mA4 (by rw [g29, m4q]; exact mI (by omega)) (by rw [g29, m4q, show (1 : Int32) = nI 1 from rfl, ix4]; exact mI (by omega)) (by rw [g29, m4q, show (2 : Int32) = nI 2 from rfl, ix4]; exact mI (by omega)) (by rw [g29, m4q, show (3 : Int32) = nI 3 from rfl, ix4]; exact mI (by omega))) ?_
    rw [g29, m4q, show nI (4 * q) + (1 : Int32) = nI (4 * q + 1) from ix4 q 1, show nI (4 * q) + (2 : Int32) = nI (4 * q + 2) from ix4 q 2, show nI (4 * q) + (3 : Int32) = nI (4 * q + 3) from ix4 q 3, nI_cl (a := 4 * q) (by omega), nI_cl (a := 4 * q + 1) (by omega), nI_cl (a := 4 * q + 2) (by omega), nI_cl (a := 4 * q + 3) (by omega), g15, g15, g15, g15, e0, e1, e2, e3]
    refine mx_E_callS (sp_Mo_comesTo4 _ b lk (by omega) (by rw [hc1, mx_up_id _ _ _ _ _ _ (by decide)]; exact h54) hl) rfl rfl rfl (fun r c2 hr => ?_)
    obtain ⟨rfl, h2⟩ := hr
    have g29b : c2 0 29 = nI q := by rw [h2.1 0 (by decide)]; exact g29
    have g14 : ∀ p, p < n → c2 14 p = nI (f p) := fun p hp => by rw [h2.1 14 (by decide), hc1, mx_up_id _ _ _ _ _ _ (by decide)]; exact h14 p hp
    refine mR 3 rfl trivial ?_
    refine mbNe (n - (t + 1)) n rfl (by omega) (by omega) (fun _ => ?_) (fun h => by omega)
    refine mR 10 rfl (mA1 (mI (by omega))) ?_
    rw [nI_cl (a := n - (t + 1)) (by omega), g14 _ (by omega), nI_1, show n - (t + 1) + 1 = n - t by omega]
    refine mx_E_callV (sp_Mo_piles _ q _ _ _ _ (by omega) g29b) rfl rfl rfl (fun r c3 hr => ?_)
    obtain ⟨rfl, h3⟩ := hr
    refine mR 7 rfl trivial ?_
    rw [nI_1, show n - (t + 1) + 1 = n - t by omega]
    refine mx_E_callV (sp_Mo_piles _ (q + 1) _ _ _ _ (by omega) h3.2.2.1) rfl rfl rfl (fun r c4 hr => ?_)
    obtain ⟨rfl, h4⟩ := hr
    refine mR 1 rfl trivial ?_
    have k14 : ∀ p, p < n → c4 14 p = nI (f p) := fun p hp => by rw [h4.1 14 (by decide), h3.1 14 (by decide)]; exact g14 p hp
    have k54 : c4 4 54 = nI (b + 1) := by rw [h4.1 4 (by decide), h3.1 4 (by decide)]; exact h2.2.1
    refine mW (ih its (b + 1) (q + 1) (some (b, 0)) c4 (by omega) hi (fun u hu => by cases hu; exact ⟨by show b < b + 1; omega, by show (0 : Nat) < 2; decide⟩) (by omega) (by omega) h4.2.2.1 ⟨h4.2.2.2.1, h4.2.2.2.2.1, h4.2.2.2.2.2.1, h4.2.2.2.2.2.2.1⟩ k54 k14 (fun c5 h5 => ?_)) ⟨Or.inr rfl, Or.inr rfl, Or.inr rfl, Or.inl rfl, Or.inl rfl, Or.inl rfl, trivial⟩ rfl rfl
    have u0 : c5 15 (4 * q) = c3 15 (4 * q) := by rw [h5.2.2.2.1 _ (by omega), h4.2.2.2.2.2.2.2 _ (by omega)]
    have u1 : c5 15 (4 * q + 1) = c3 15 (4 * q + 1) := by rw [h5.2.2.2.1 _ (by omega), h4.2.2.2.2.2.2.2 _ (by omega)]
    have u2 : c5 15 (4 * q + 2) = c3 15 (4 * q + 2) := by rw [h5.2.2.2.1 _ (by omega), h4.2.2.2.2.2.2.2 _ (by omega)]
    have u3 : c5 15 (4 * q + 3) = c3 15 (4 * q + 3) := by rw [h5.2.2.2.1 _ (by omega), h4.2.2.2.2.2.2.2 _ (by omega)]
    refine ih (f (n - (t + 1))) (b + 1 + tL t) q (some (b, 1)) c5 (by omega) (hf _ (by omega)) (fun u hu => by cases hu; exact ⟨by show b < b + 1 + tL t; omega, by show (1 : Nat) < 2; decide⟩) (by omega) (by omega) h5.2.2.1 ⟨by rw [u0]; exact h3.2.2.2.1, by rw [u1]; exact h3.2.2.2.2.1, by rw [u2]; exact h3.2.2.2.2.2.1, by rw [u3]; exact h3.2.2.2.2.2.2.1⟩ h5.2.2.2.2.1 (fun p hp => by rw [h5.1 14 (by decide)]; exact k14 p hp) (fun c6 h6 => ?_)
    refine hk c6 ?_
    rw [tL_s]
    exact rLd_join (by decide) (by decide) (by omega) hl (tT hf t its (by omega) hi) (tT hf t _ (by omega) (hf _ (by omega))) hc1 h2 h3 h4 h5 h6
/-- the row holds the agenda of the order f, and all else as it was -/
theorem sp_Mo_lays4 (c : mx_M) {n : Nat} {f : Nat → Nat} (hn : mn n) (hf : ∀ p, p < n → f p < n) (h14 : ∀ p, p < n → c 14 p = nI (f p)) : mx_Spec 1 2 m_Mo_lays [.ref 0, .ref 4, .int (nI n)] c (fun r c' => r = none ∧ mfr [0, 4, 15] c c' ∧ (∀ k, k ≠ 29 → c' 0 k = c 0 k) ∧ (∀ x, x < 54 → c' 4 x = c 4 x) ∧ rTb (c' 4) (tK f n (n - 1) (f 0)) (tZ (n - 1)) (tL (n - 1))) := by
  have h2 := hn.1
  have h6 := hn.2
  have hl63 : tL (n - 1) ≤ 63 := by
    rcases mn_cases hn with rfl | rfl | rfl | rfl | rfl <;> decide
  refine mx_Spec_E rfl rfl rfl ?_
  refine mR 7 rfl (mA1 (mI (n := 54) (by decide))) ?_
  rw [c54]
  obtain ⟨c1, hc1⟩ : ∃ c1, c1 = mx_up (mx_up c 4 54 0) 0 29 0 := ⟨_, rfl⟩
  rw [← hc1]
  have k14 : ∀ p, p < n → c1 14 p = nI (f p) := fun p hp => by rw [hc1, mx_up_id _ _ _ _ _ _ (by decide), mx_up_id _ _ _ _ _ _ (by decide)]; exact h14 p hp
  refine mR 8 rfl (mA1 (mI (n := 0) (by decide))) ?_
  rw [show ((0 : Int32)).toNatClampNeg = 0 by decide, k14 0 (by omega)]
  refine mx_E_callV (sp_Mo_piles _ 0 _ _ _ _ (by decide) (by rw [hc1, mx_up_same]; rfl)) rfl rfl rfl (fun r c2 hr => ?_)
  obtain ⟨rfl, h3⟩ := hr
  refine mS (lp_Mo_lays4 hn hf (n - 1) (f 0) 0 0 none c2 (by omega) (hf 0 (by omega)) (fun u hu => by cases hu) (by omega) (by omega) h3.2.2.1 ⟨h3.2.2.2.1, by rw [show n - (n - 1) = 1 by omega]; exact h3.2.2.2.2.1, h3.2.2.2.2.2.1, h3.2.2.2.2.2.2.1⟩ (by rw [h3.1 4 (by decide), hc1, mx_up_id _ _ _ _ _ _ (by decide), mx_up_same]; rfl) (fun p hp => by rw [h3.1 14 (by decide)]; exact k14 p hp) (fun c' h => ?_)) rfl rfl rfl
  obtain ⟨y1, y2, y3, y4, y5, y6, y7, y8⟩ := h
  refine mR 2 rfl trivial ?_
  rw [y3]
  refine mx_E_br rfl rfl (fun _ => ?_) (fun h => absurd (by decide) h)
  refine mx_E_vret rfl rfl ⟨rfl, ?_, ?_, ?_, ?_⟩
  · intro r hr
    have hr2 := hr
    simp only [List.mem_cons, List.not_mem_nil, or_false, not_or] at hr
    rw [y1 r hr2, h3.1 r (by simp [hr]), hc1, mx_up_rid _ _ _ _ _ hr.1, mx_up_rid _ _ _ _ _ hr.2.1]
  · intro k hk
    rw [y2 k hk, h3.2.1 k hk, hc1, mx_up_ix _ _ _ _ _ _ hk, mx_up_id _ _ _ _ _ _ (by decide)]
  · intro x hx
    rw [y8 x (Or.inl hx) (fun z => by cases z), h3.1 4 (by decide), hc1, mx_up_rid _ _ _ _ _ (by decide), mx_up_ix _ _ _ _ _ _ (by omega)]
  · refine ⟨by rw [y5, Nat.zero_add], fun k hk => ?_⟩
    have z := y6 k hk
    rw [Nat.zero_add] at z
    exact z
end
section
/-- the state with what is done noted -/
def aN (a : mSt) : mSt := (a.1, a.2.1, a.2.2.1, a.2.2.2.1, aNote a, a.2.2.2.2.2)
theorem rI_und {c c' : mx_M} {a : mSt} {U : Nat × (Nat → mPic)} (h : rI c a) (h0 : ∀ k, k ≠ 16 → c' 0 k = c 0 k) (hf : mfr [0, 5] c c') (hu : c' 0 16 = nI U.1 ∧ U.1 ≤ 10 ∧ ∀ i, i < U.1 → rP (fun k => c' 5 (244 * i + k)) a.1.1 a.1.2 (U.2 i)) : rI c' (a.1, a.2.1, a.2.2.1, a.2.2.2.1, U, a.2.2.2.2.2) := by
  obtain ⟨g1, g2, g3, g4, g5, g6⟩ := h
  refine ⟨?_, ?_, ?_, ?_, hu, ?_⟩
  · rw [h0 8 (by decide), h0 9 (by decide)]; exact g1
  · rw [hf 3 (by decide)]; exact g2
  · rw [h0 2 (by decide), hf 1 (by decide)]; exact g3
  · rw [h0 22 (by decide), hf 8 (by decide), hf 9 (by decide), hf 10 (by decide)]; exact g4
  · rw [hf 7 (by decide), hf 6 (by decide)]; exact g6
theorem sp_Mo_notes (c : mx_M) {a : mSt} (h : rI c a) : mx_Spec 1 1 m_Mo_notes [.ref 0] c (fun r c' => r = none ∧ rI c' (aN a) ∧ mfr [0, 5] c c' ∧ ∀ k, k ≠ 16 → c' 0 k = c 0 k) := by
  obtain ⟨h8, h9, hn, hm⟩ := h.1
  obtain ⟨u16, u10, uP⟩ := h.2.2.2.2.1
  refine mx_Spec_E rfl rfl rfl ?_
  refine mR 3 rfl trivial ?_
  rw [u16, show (10 : Int32) = nI 10 from rfl]
  refine mbNe _ _ rfl (by omega) (by decide) (fun hu => ?_) (fun hu => ?_)
  · refine mR 2 rfl trivial ?_
    refine mS (lp_Mo_notes2 (w := a.2.2.2.2.1.1) (by omega) u16 ?_ 244 0 rfl) rfl rfl (by rw [fb_put_0, mx_upR_self])
    refine mR 6 rfl trivial ?_
    rw [mx_upR_rid _ _ _ 0 (by decide), u16, nI_1]
    have f1 : ∀ k, k ≠ 16 → mx_up (mx_upR c 5 (fb_put (c 5) (fun j => c 3 j) (244 * a.2.2.2.2.1.1) 244)) 0 16 (nI (a.2.2.2.2.1.1 + 1)) 0 k = c 0 k := fun k hk => by rw [mx_up_ix _ _ _ _ _ _ hk, mx_upR_rid _ _ _ 0 (by decide)]
    have f2 : mfr [0, 5] c (mx_up (mx_upR c 5 (fb_put (c 5) (fun j => c 3 j) (244 * a.2.2.2.2.1.1) 244)) 0 16 (nI (a.2.2.2.2.1.1 + 1))) := mfr_up (fun r hr => mx_upR_rid _ _ _ _ (fun e => hr (by rw [e]; decide))) (by decide)
    refine mx_E_vret rfl rfl ⟨rfl, ?_, f2, f1⟩
    refine rI_und h f1 f2 ?_
    unfold aNote
    rw [if_neg hu]
    refine ⟨mx_up_same _ _ _ _, by show a.2.2.2.2.1.1 + 1 ≤ 10; omega, fun i hi => ?_⟩
    have hi2 : i < a.2.2.2.2.1.1 + 1 := hi
    show rP _ _ _ (if i = a.2.2.2.2.1.1 then a.2.1 else a.2.2.2.2.1.2 i)
    rw [mx_up_rid _ _ _ _ 5 (by decide), mx_upR_row]
    by_cases e : i = a.2.2.2.2.1.1
    · rw [if_pos e]
      exact rP_of hn.2 hm h.2.1 (fun k hk => by rw [e, fb_put_in (by omega) (by omega)]; congr 1; omega)
    · rw [if_neg e]
      exact rP_of hn.2 hm (uP i (by omega)) (fun k hk => by rw [fb_put_out (by omega)])
  · refine mR 2 rfl trivial ?_
    refine mS (lp_Mo_notes1 ?_ 2196 0 rfl) rfl rfl (by rw [fb_put_0, mx_upR_self])
    refine mR 5 rfl trivial ?_
    obtain ⟨c2, hc2⟩ : ∃ c2, c2 = mx_up (mx_upR c 5 (fb_put (c 5) (fun j => c 5 (j + 244)) 0 2196)) 0 16 9 := ⟨_, rfl⟩
    rw [← hc2]
    have k16 : c2 0 16 = nI 9 := by rw [hc2, mx_up_same]; rfl
    have k5 : c2 5 = fb_put (c 5) (fun j => c 5 (j + 244)) 0 2196 := by rw [hc2, mx_up_rid _ _ _ _ 5 (by decide), mx_upR_row]
    have k3 : c2 3 = c 3 := by rw [hc2, mx_up_rid _ _ _ _ 3 (by decide), mx_upR_rid _ _ _ 3 (by decide)]
    refine mS (lp_Mo_notes2 (w := 9) (by omega) k16 ?_ 244 0 rfl) rfl rfl (by rw [fb_put_0, mx_upR_self])
    refine mR 6 rfl trivial ?_
    rw [mx_upR_rid _ _ _ 0 (by decide), k16, nI_1]
    have f1 : ∀ k, k ≠ 16 → mx_up (mx_upR c2 5 (fb_put (c2 5) (fun j => c2 3 j) (244 * 9) 244)) 0 16 (nI (9 + 1)) 0 k = c 0 k := fun k hk => by rw [mx_up_ix _ _ _ _ _ _ hk, mx_upR_rid _ _ _ 0 (by decide), hc2, mx_up_ix _ _ _ _ _ _ hk, mx_upR_rid _ _ _ 0 (by decide)]
    have f2 : mfr [0, 5] c (mx_up (mx_upR c2 5 (fb_put (c2 5) (fun j => c2 3 j) (244 * 9) 244)) 0 16 (nI (9 + 1))) := mfr_up (fun r hr => by
      rw [mx_upR_rid _ _ _ _ (fun e => hr (by rw [e]; decide)), hc2, mx_up_rid _ _ _ _ _ (fun e => hr (by rw [e]; decide)), mx_upR_rid _ _ _ _ (fun e => hr (by rw [e]; decide))]) (by decide)
    refine mx_E_vret rfl rfl ⟨rfl, ?_, f2, f1⟩
    refine rI_und h f1 f2 ?_
    unfold aNote
    rw [if_pos hu]
    refine ⟨mx_up_same _ _ _ _, Nat.le_refl 10, fun i hi => ?_⟩
    have hi2 : i < 10 := hi
    show rP _ _ _ (if i = 9 then a.2.1 else a.2.2.2.2.1.2 (i + 1))
    rw [mx_up_rid _ _ _ _ 5 (by decide), mx_upR_row, k5, k3]
    by_cases e : i = 9
    · rw [if_pos e]
      exact rP_of hn.2 hm h.2.1 (fun k hk => by rw [e, fb_put_in (by omega) (by omega), Nat.add_sub_cancel_left])
    · rw [if_neg e]
      exact rP_of hn.2 hm (uP (i + 1) (by omega)) (fun k hk => by rw [fb_put_out (by omega), fb_put_in (by omega) (by omega)]; congr 1; omega)
/-- two places of a ranking change -/
def mswp (f : Nat → Nat) (y : Nat) : Nat → Nat := fun p => if p = y then f (y + 1) else if p = y + 1 then f y else f p
theorem mswp_perm {n y : Nat} {f : Nat → Nat} (h : mperm n f) (hy : y + 1 < n) : mperm n (mswp f y) := by
  refine ⟨fun p hp => ?_, fun p q hp hq e => ?_⟩
  · unfold mswp
    split
    · exact h.1 _ hy
    · split
      · exact h.1 _ (by omega)
      · exact h.1 _ hp
  · unfold mswp at e
    have key := fun a b ha hb => h.2 a b ha hb
    by_cases p1 : p = y
    · rw [if_pos p1] at e
      by_cases q1 : q = y
      · omega
      · rw [if_neg q1] at e
        by_cases q2 : q = y + 1
        · rw [if_pos q2] at e
          have := key _ _ hy (by omega) e
          omega
        · rw [if_neg q2] at e
          have := key _ _ hy hq e
          omega
    · rw [if_neg p1] at e
      by_cases p2 : p = y + 1
      · rw [if_pos p2] at e
        by_cases q1 : q = y
        · rw [if_pos q1] at e
          have := key _ _ (by omega) hy e
          omega
        · rw [if_neg q1] at e
          by_cases q2 : q = y + 1
          · omega
          · rw [if_neg q2] at e
            have := key _ _ (by omega) hq e
            omega
      · rw [if_neg p2] at e
        by_cases q1 : q = y
        · rw [if_pos q1] at e
          have := key _ _ hp hy e
          omega
        · rw [if_neg q1] at e
          by_cases q2 : q = y + 1
          · rw [if_pos q2] at e
            have := key _ _ hp (by omega) e
            omega
          · rw [if_neg q2] at e
            exact key _ _ hp hq e
/-- the same state with another picture -/
def aPic (a : mSt) (p : mPic) : mSt := (a.1, p, a.2.2)
/-- another ranking of one member -/
def mRr (R : Nat → Nat → Nat) (i : Nat) (f : Nat → Nat) : Nat → Nat → Nat := fun j => if j = i then f else R j
def pRr (p : mPic) (i : Nat) (f : Nat → Nat) : mPic := (mRr p.1 i f, p.2)
def mall (a : mSt) : Nat := 2 ^ a.1.2 - 1
/-- what comes of a picture by a way, all being there -/
def aOut (a : mSt) (w : Nat) (p : mPic) : Nat := mout w (mall a) a.1.2 a.1.1 p.1 p.2.1 p.2.2.1 p.2.2.2
def aRanks (a : mSt) (x y : Int32) : Int32 × mSt := if mi x a.1.2 && mi y (a.1.1 - 1) then (nI (aOut a 1 (pRr a.2.1 x.toNatClampNeg (mswp (a.2.1.1 x.toNatClampNeg) y.toNatClampNeg))), aPic (aN a) (pRr a.2.1 x.toNatClampNeg (mswp (a.2.1.1 x.toNatClampNeg) y.toNatClampNeg))) else mBAD a
theorem rI_pic {c c' : mx_M} {a : mSt} {p : mPic} (h : rI c a) (hf : mfr [3] c c') (hp : rP (c' 3) a.1.1 a.1.2 p) : rI c' (aPic a p) := by
  obtain ⟨g1, g2, g3, g4, g5, g6⟩ := h
  refine ⟨?_, hp, ?_, ?_, ?_, ?_⟩
  · rw [hf 0 (by decide)]; exact g1
  · rw [hf 0 (by decide), hf 1 (by decide)]; exact g3
  · rw [hf 0 (by decide), hf 8 (by decide), hf 9 (by decide), hf 10 (by decide)]; exact g4
  · rw [hf 0 (by decide), hf 5 (by decide)]; exact g5
  · rw [hf 7 (by decide), hf 6 (by decide)]; exact g6
theorem in_m2 (x : Int32) {n : Nat} (h1 : 1 ≤ n) (hn : n < 1000000) : decide ((0 : Int32) ≤ x ∧ x ≤ nI n - 2) = mi x (n - 1) := by
  have h := in_mi x (n := n - 1) (by omega)
  rw [← h]
  congr 2
  rw [show (2 : Int32) = 1 + 1 by decide, ← Int32.sub_sub, show (1 : Int32) = nI 1 from rfl, pk_sub h1]
theorem rP_sw {g : Nat → Int32} {n m i y : Nat} {p : mPic} (hn : n ≤ 6) (hm : m ≤ 9) (hi : i < m) (hy : y + 1 < n) (h : rP g n m p) : rP (upd (upd g (6 * i + y) (nI (p.1 i (y + 1)))) (6 * i + y + 1) (nI (p.1 i y))) n m (pRr p i (mswp (p.1 i) y)) := by
  obtain ⟨h1, h2, h3, h4, h5⟩ := h
  have h63 := h3.2.1
  have out : ∀ x, x ≠ 6 * i + y → x ≠ 6 * i + y + 1 → upd (upd g (6 * i + y) (nI (p.1 i (y + 1)))) (6 * i + y + 1) (nI (p.1 i y)) x = g x := fun x e1 e2 => by rw [upd_ne _ _ _ _ e2, upd_ne _ _ _ _ e1]
  refine ⟨fun j hj => ?_, fun j q hj hq => ?_, h3, by rw [out _ (by omega) (by omega)]; exact h4, fun k hk => ?_⟩
  · show mperm n (if j = i then mswp (p.1 i) y else p.1 j)
    split
    · exact mswp_perm (h1 i hi) hy
    · exact h1 j hj
  · show _ = nI ((if j = i then mswp (p.1 i) y else p.1 j) q)
    by_cases e : j = i
    · rw [if_pos e]
      subst e
      unfold mswp
      by_cases e1 : q = y
      · rw [if_pos e1, e1, upd_ne _ _ _ _ (by omega), upd_same]
      · rw [if_neg e1]
        by_cases e2 : q = y + 1
        · rw [if_pos e2, e2, show 6 * j + (y + 1) = 6 * j + y + 1 by omega, upd_same]
        · rw [if_neg e2, out _ (by omega) (by omega)]
          exact h2 j q hj hq
    · rw [if_neg e, out _ (by omega) (by omega)]
      exact h2 j q hj hq
  · rw [out _ (by omega) (by omega), out _ (by omega) (by omega), out _ (by omega) (by omega)]
    exact h5 k hk
theorem qr_ranks {c : mx_M} {a : mSt} (x y : Int32) (h : rI c a) : mx_Spec 1 6 m_Mo_ranks [.ref 0, .int x, .int y] c (fun r c' => r = some (.int (aRanks a x y).1) ∧ rI c' (aRanks a x y).2) := by
  have h0 := rI_0 0 h
  obtain ⟨h8, h9, hn, hm⟩ := h0.1
  have h6 := hn.2
  have h2 := hn.1
  refine mx_Spec_E rfl rfl rfl ?_
  refine mR 5 rfl trivial ?_
  refine mx_E_callV (sp_Mo_isMember _ x _ h9 (by omega)) rfl rfl rfl (fun r c1 hr => ?_)
  obtain ⟨rfl, rfl⟩ := hr
  unfold aRanks
  refine mbT rfl (fun hb => ?_) (fun hb => ?_)
  · rw [hb]
    refine mR 1 rfl trivial ?_
    exact mx_E_iret rfl rfl ⟨rfl, h0⟩
  · refine mR 6 rfl trivial ?_
    rw [h8]
    refine mx_E_callS (sp_Mo_in _ _ _ _) rfl rfl rfl (fun r c1 hr => ?_)
    obtain ⟨rfl, rfl⟩ := hr
    rw [in_m2 y (by omega) (by omega)]
    refine mbF rfl (fun hb2 => ?_) (fun hb2 => ?_)
    · rw [hb, hb2]
      obtain ⟨i, hi, rfl⟩ := mi_of (by omega) hb
      obtain ⟨j, hj, rfl⟩ := mi_of (by omega) hb2
      rw [nI_cl (a := i) (by omega), nI_cl (a := j) (by omega)]
      refine mR 1 rfl trivial ?_
      refine mx_E_callV (sp_Mo_notes _ h0) rfl rfl rfl (fun r c1 hr => ?_)
      obtain ⟨rfl, hI, -, -⟩ := hr
      have er : ∀ p, p < a.1.1 → c1 3 (6 * i + p) = nI (a.2.1.1 i p) := fun p hp => hI.2.1.2.1 i p hi hp
      refine mR 9 rfl (mA1 (by rw [ix6]; exact mI (by omega))) ?_
      rw [ix6, nI_cl (a := 6 * i + j) (by omega), er j (by omega)]
      refine mR 18 rfl (mA2 (by rw [ix6, nI_1]; exact mI (by omega)) (by rw [ix6]; exact mI (by omega))) ?_
      rw [ix6, nI_1, nI_cl (a := 6 * i + j) (by omega), nI_cl (a := 6 * i + j + 1) (by omega), show 6 * i + j + 1 = 6 * i + (j + 1) by omega, er (j + 1) (by omega)]
      refine mR 11 rfl (mA1 (by rw [ix6, nI_1]; exact mI (by omega))) ?_
      rw [ix6, nI_1, nI_cl (a := 6 * i + j + 1) (by omega)]
      obtain ⟨c2, hc2⟩ : ∃ c2, c2 = mx_up (mx_up c1 3 (6 * i + j) (nI (a.2.1.1 i (j + 1)))) 3 (6 * i + j + 1) (nI (a.2.1.1 i j)) := ⟨_, rfl⟩
      rw [← hc2]
      have hf2 : mfr [3] c1 c2 := by rw [hc2]; exact mfr_up (mfr_up (mfr_rf _ _) (by decide)) (by decide)
      have hp2 : rP (c2 3) a.1.1 a.1.2 (pRr a.2.1 i (mswp (a.2.1.1 i) j)) := by
        rw [hc2, mx_up_row, mx_up_row]
        exact rP_sw h6 hm hi (by omega) hI.2.1
      have hI2 : rI c2 (aPic (aN a) (pRr a.2.1 i (mswp (a.2.1.1 i) j))) := rI_pic hI hf2 hp2
      refine mR 1 rfl trivial ?_
      refine mx_E_callV (sp_Mo_all _ _ hI2.1.2.1 hm) rfl rfl rfl (fun r c3 hr => ?_)
      obtain ⟨rfl, rfl⟩ := hr
      have hI3 := rI_up (k := 23) (x := nI (2 ^ a.1.2 - 1)) hI2 (by decide) (by decide) (by decide) (by decide) (by decide)
      refine mR 4 rfl trivial ?_
      refine mx_E_callV (sp_Mo_outcome3 (w := 1) _ (rI_V hI3 (mx_up_same _ _ _ _) (pw_lt hm)) (by decide)) rfl rfl rfl (fun r c4 hr => ?_)
      obtain ⟨rfl, hf⟩ := hr
      exact mx_E_iret rfl rfl ⟨rfl, rI_fr hI3 (mfr_mo hf (by decide))⟩
    · rw [hb2, Bool.and_false]
      refine mR 1 rfl trivial ?_
      exact mx_E_iret rfl rfl ⟨rfl, h0⟩
/-- the agenda of an order -/
def pOrd (n : Nat) (R : Nat → Nat → Nat) (f : Nat → Nat) : mPic := (R, tK f n (n - 1) (f 0), tZ (n - 1), tL (n - 1))
def aSets (a : mSt) (x : Int32) : Int32 × mSt := if mi x (mfact a.1.1) then (nI (tL (a.1.1 - 1)), aPic (aN a) (pOrd a.1.1 a.2.1.1 (mo a.1.1 x.toNatClampNeg))) else mBAD a
theorem tL_63 {n : Nat} (hn : mn n) : tL (n - 1) ≤ 63 := by
  rcases mn_cases hn with rfl | rfl | rfl | rfl | rfl <;> decide
theorem rP_ord {g : Nat → Int32} {n m : Nat} {R : Nat → Nat → Nat} {f : Nat → Nat} (hn : mn n) (hf : ∀ p, p < n → f p < n) (h1 : ∀ j, j < m → mperm n (R j)) (h2 : rRk g n m R) (h3 : rTb g (tK f n (n - 1) (f 0)) (tZ (n - 1)) (tL (n - 1))) : rP g n m (pOrd n R f) := ⟨h1, h2, mT_tree.mpr ⟨tT hf (n - 1) (f 0) (by have := hn.1; omega) (hf 0 (by have := hn.1; omega)), tL_63 hn⟩, h3⟩
theorem qr_sets {c : mx_M} {a : mSt} (x : Int32) (h : rI c a) : mx_Spec 1 3 m_Mo_sets [.ref 0, .int x] c (fun r c' => r = some (.int (aSets a x).1) ∧ rI c' (aSets a x).2) := by
  have h0 := rI_0 0 h
  obtain ⟨h8, h9, hn, hm⟩ := h0.1
  have h6 := hn.2
  have hfl := mfact_le a.1.1 (by omega)
  refine mx_Spec_E rfl rfl rfl ?_
  refine mR 7 rfl trivial ?_
  rw [h8]
  refine mx_E_callS (sp_Mo_orders _ a.1.1 (by omega)) rfl rfl rfl (fun r c1 hr => ?_)
  obtain ⟨rfl, rfl⟩ := hr
  refine mR 2 rfl trivial ?_
  refine mx_E_callS (sp_Mo_in _ _ _ _) rfl rfl rfl (fun r c1 hr => ?_)
  obtain ⟨rfl, rfl⟩ := hr
  rw [in_mi x (by omega)]
  unfold aSets
  refine mbF rfl (fun hb => ?_) (fun hb => ?_)
  · rw [hb]
    obtain ⟨i, hi, rfl⟩ := mi_of (by omega) hb
    rw [nI_cl (a := i) (by omega)]
    refine mR 1 rfl trivial ?_
    refine mx_E_callV (sp_Mo_notes _ h0) rfl rfl rfl (fun r c1 hr => ?_)
    obtain ⟨rfl, hI, -, -⟩ := hr
    refine mR 4 rfl trivial ?_
    rw [hI.1.1]
    refine mx_E_callV (sp_Mo_orderOf _ a.1.1 i hn hi) rfl rfl rfl (fun r c2 hr => ?_)
    obtain ⟨rfl, rfl⟩ := hr
    have hI2 : rI (mx_upR c1 14 (fa_fill (fun p => nI (mo a.1.1 i p)) (c1 14) a.1.1)) (aN a) := rI_fr hI (fun r hr => mx_upR_rid _ _ _ _ (fun e => hr (by rw [e]; decide)))
    have h14 : ∀ p, p < a.1.1 → (mx_upR c1 14 (fa_fill (fun p => nI (mo a.1.1 i p)) (c1 14) a.1.1)) 14 p = nI (mo a.1.1 i p) := fun p hp => by rw [mx_upR_row, fa_fill_in hp]
    generalize mx_upR c1 14 (fa_fill (fun p => nI (mo a.1.1 i p)) (c1 14) a.1.1) = c2 at hI2 h14
    refine mR 5 rfl trivial ?_
    rw [hI2.1.1]
    refine mx_E_callV (sp_Mo_lays3 _ hn (fun p hp => mo_lt hn hi hp) h14) rfl rfl rfl (fun r c3 hr => ?_)
    obtain ⟨rfl, f1, f2, f3, f4⟩ := hr
    refine mR 4 rfl (mA1 (mI (n := 54) (by decide))) ?_
    rw [c54, f4.1]
    refine mx_E_iret rfl rfl ⟨rfl, ?_⟩
    obtain ⟨g1, g2, g3, g4, g5, g6⟩ := hI2
    refine ⟨?_, ?_, ?_, ?_, ?_, ?_⟩
    · rw [f2 8 (by decide), f2 9 (by decide)]; exact g1
    · exact rP_ord hn (fun p hp => mo_lt hn hi hp) g2.1 (fun j p hj hp => by rw [f3 _ (by have : j < a.1.2 := hj; have : p < a.1.1 := hp; omega)]; exact g2.2.1 j p hj hp) f4
    · rw [f2 2 (by decide), f1 1 (by decide)]; exact g3
    · rw [f2 22 (by decide), f1 8 (by decide), f1 9 (by decide), f1 10 (by decide)]; exact g4
    · rw [f2 16 (by decide), f1 5 (by decide)]; exact g5
    · rw [f1 7 (by decide), f1 6 (by decide)]; exact g6
  · rw [hb]
    refine mR 1 rfl trivial ?_
    exact mx_E_iret rfl rfl ⟨rfl, h0⟩
end
section
/-- only what is used and left has changed, and how much the pile holds -/
def mfS (c c' : mx_M) : Prop := mfr (0 :: rSc) c c' ∧ ∀ k, k ≠ 29 → c' 0 k = c 0 k
theorem mfS_tr {c c1 c2 : mx_M} (h : mfS c c1) (h2 : mfS c1 c2) : mfS c c2 := ⟨mfr_tr h.1 h2.1, fun k hk => (h2.2 k hk).trans (h.2 k hk)⟩
theorem mfS_of {S : List Nat} {c c' : mx_M} (h : mfr S c c') (hs : ∀ r, r ∈ S → r ∈ rSc) : mfS c c' := ⟨mfr_mo h (fun r hr => List.mem_cons_of_mem _ (hs r hr)), fun k _ => by rw [h 0 (fun z => absurd (hs 0 z) (by decide))]⟩
theorem rI_fS {c c' : mx_M} {a : mSt} (h : rI c a) (hf : mfS c c') : rI c' a := by
  obtain ⟨g1, g2, g3, g4, g5, g6⟩ := h
  obtain ⟨f1, f2⟩ := hf
  refine ⟨?_, ?_, ?_, ?_, ?_, ?_⟩
  · rw [f2 8 (by decide), f2 9 (by decide)]; exact g1
  · rw [f1 3 (by decide)]; exact g2
  · rw [f2 2 (by decide), f1 1 (by decide)]; exact g3
  · rw [f2 22 (by decide), f1 8 (by decide), f1 9 (by decide), f1 10 (by decide)]; exact g4
  · rw [f2 16 (by decide), f1 5 (by decide)]; exact g5
  · rw [f1 7 (by decide), f1 6 (by decide)]; exact g6
/-- the first of which p holds -/
def mfst (p : Nat → Bool) (N : Nat) : Int32 := if fa_first p N < N then nI (fa_first p N) else -9
theorem ff_ct {p : Nat → Bool} {k : Nat} (h : fb_ct p k = 0) : fa_first p k = k := ff_none (fun j hj => fb_ct_zero.mp h j hj)
theorem ff_ct2 {p : Nat → Bool} {k : Nat} (h : fb_ct p k ≠ 0) : fa_first p k < k := by
  rcases Nat.lt_or_ge (fa_first p k) k with h1 | h1
  · exact h1
  · exfalso
    apply h
    rw [fb_ct_zero]
    intro j hj
    exact fa_first_no p k j (by omega)
theorem mfst_no {p : Nat → Bool} {k : Nat} (h : p k = false) : mfst p (k + 1) = mfst p k := by
  unfold mfst
  have e : fa_first p (k + 1) = if fa_first p k < k then fa_first p k else if p k then k else k + 1 := rfl
  by_cases h1 : fa_first p k < k
  · rw [if_pos h1] at e
    rw [e, if_pos (by omega), if_pos h1]
  · rw [if_neg h1, if_neg (by rw [h]; decide)] at e
    rw [e, if_neg (by omega), if_neg h1]
theorem mfst_0 {p : Nat → Bool} {k : Nat} (h : p k = true) (hc : fb_ct p k = 0) : mfst p (k + 1) = nI k := by
  unfold mfst
  have e : fa_first p (k + 1) = if fa_first p k < k then fa_first p k else if p k then k else k + 1 := rfl
  rw [if_neg (by rw [ff_ct hc]; omega), if_pos h] at e
  rw [e, if_pos (by omega)]
theorem mfst_s {p : Nat → Bool} {k : Nat} (hc : fb_ct p k ≠ 0) : mfst p (k + 1) = mfst p k := by
  unfold mfst
  have h1 := ff_ct2 hc
  have e : fa_first p (k + 1) = if fa_first p k < k then fa_first p k else if p k then k else k + 1 := rfl
  rw [if_pos h1] at e
  rw [e, if_pos (by omega), if_pos h1]
def aHit (a : mSt) (w x k : Nat) : Bool := aOut a w (pOrd a.1.1 a.2.1.1 (mo a.1.1 k)) == x
def aReach (a : mSt) (x w y : Int32) : Int32 × mSt := if mi x a.1.1 && mi w 2 && mi y 2 then ((if y = 0 then nI (fb_ct (aHit a w.toNatClampNeg x.toNatClampNeg) (mfact a.1.1)) else mfst (aHit a w.toNatClampNeg x.toNatClampNeg) (mfact a.1.1)), a) else mBAD a
theorem lp_Mo_reach {Q : Option Value → mx_M → Prop} {a : mSt} {x w y : Nat} (hx : x < a.1.1) (hw : w < 2) (hy : y < 2) (hq : ∀ c', rI c' a → Q (some (.int (if nI y = 0 then nI (fb_ct (aHit a w x) (mfact a.1.1)) else mfst (aHit a w x) (mfact a.1.1)))) c') :
    ∀ (u k : Nat) (c1 : mx_M), k + u = mfact a.1.1 → rI c1 a → c1 0 23 = nI (mall a) → (∀ z, z < 54 → c1 4 z = c1 3 z) → mx_E 1 6 m_Mo_reach Q 30 [.ref 0, .int (nI x), .int (nI w), .int (nI y), .int (nI (fb_ct (aHit a w x) k)), .int (mfst (aHit a w x) k), .int (nI k)] [] c1
  | 0, k, c1, h, hI, h23, h4 => by
    obtain ⟨h8, h9, hn, hm⟩ := hI.1
    have h6 := hn.2
    have hfl := mfact_le a.1.1 (by omega)
    have e : k = mfact a.1.1 := by omega
    rw [e]
    refine mR 3 rfl trivial ?_
    rw [h8]
    refine mx_E_callS (sp_Mo_orders _ a.1.1 (by omega)) rfl rfl rfl (fun r c2 hr => ?_)
    obtain ⟨rfl, hz⟩ := hr
    rw [hz]
    refine mbGe _ _ rfl (by omega) (by omega) (fun _ => ?_) (fun h => by omega)
    refine mR 1 rfl trivial ?_
    have hq2 := hq _ hI
    rcases (show y = 0 ∨ y = 1 by omega) with rfl | rfl
    · refine mx_E_br rfl rfl (fun h => absurd rfl h) (fun _ => ?_)
      refine mR 2 rfl trivial ?_
      exact mx_E_iret rfl rfl hq2
    · refine mx_E_br rfl rfl (fun _ => ?_) (fun h => absurd (by decide) h)
      refine mR 1 rfl trivial ?_
      exact mx_E_iret rfl rfl hq2
  | u + 1, k, c1, h, hI, h23, h4 => by
    obtain ⟨h8, h9, hn, hm⟩ := hI.1
    have h6 := hn.2
    have hfl := mfact_le a.1.1 (by omega)
    have hk : k < mfact a.1.1 := by omega
    have hct := fb_ct_le (aHit a w x) k
    refine mR 3 rfl trivial ?_
    rw [h8]
    refine mx_E_callS (sp_Mo_orders _ a.1.1 (by omega)) rfl rfl rfl (fun r c2 hr => ?_)
    obtain ⟨rfl, hz⟩ := hr
    rw [hz]
    refine mbGe _ _ rfl (by omega) (by omega) (fun h => by omega) (fun _ => ?_)
    refine mR 4 rfl trivial ?_
    rw [h8]
    refine mx_E_callV (sp_Mo_orderOf _ a.1.1 k hn hk) rfl rfl rfl (fun r c2 hr => ?_)
    obtain ⟨rfl, hc2⟩ := hr
    have fS2 : mfS c1 c2 := mfS_of (S := [14]) (fun r hr => by rw [hc2]; exact mx_upR_rid _ _ _ _ (fun e => hr (by rw [e]; decide))) (by decide)
    have h14 : ∀ p, p < a.1.1 → c2 14 p = nI (mo a.1.1 k p) := fun p hp => by rw [hc2, mx_upR_row, fa_fill_in hp]
    have hI2 := rI_fS hI fS2
    refine mR 5 rfl trivial ?_
    rw [hI2.1.1]
    refine mx_E_callV (sp_Mo_lays4 _ hn (fun p hp => mo_lt hn hk hp) h14) rfl rfl rfl (fun r c3 hr => ?_)
    obtain ⟨rfl, f1, f2, f3, f4⟩ := hr
    have fS3 : mfS c2 c3 := ⟨mfr_mo f1 (by decide), f2⟩
    have hI3 := rI_fS hI2 fS3
    have e3 : c3 3 = c1 3 := by rw [f1 3 (by decide), fS2.1 3 (by decide)]
    have e4 : ∀ z, z < 54 → c3 4 z = c3 3 z := fun z hz => by rw [f3 z hz, e3, hc2, mx_upR_rid _ _ _ 4 (by decide)]; exact h4 z hz
    have g23 : c3 0 23 = nI (mall a) := by rw [f2 23 (by decide), fS2.2 23 (by decide)]; exact h23
    have hP := rP_ord (m := a.1.2) (R := a.2.1.1) hn (fun p hp => mo_lt hn hk hp) hI3.2.1.1 (fun j p hj hp => by rw [e4 _ (by omega)]; exact hI3.2.1.2.1 j p hj hp) f4
    have hV : rV c3 4 (mall a) a.1.1 a.1.2 a.2.1.1 (tK (mo a.1.1 k) a.1.1 (a.1.1 - 1) (mo a.1.1 k 0)) (tZ (a.1.1 - 1)) (tL (a.1.1 - 1)) := ⟨⟨hI3.1.1, hI3.1.2.1, g23⟩, ⟨hn, hm, pw_lt hm⟩, hP.1, hP.2.1, hP.2.2.1, hP.2.2.2⟩
    refine mR 4 rfl trivial ?_
    refine mx_E_callV (sp_Mo_outcome4 (w := w) _ hV hw) rfl rfl rfl (fun r c4 hr => ?_)
    obtain ⟨rfl, hf4⟩ := hr
    have hI4 := rI_fS hI3 (mfS_of hf4 (by decide))
    have k23 : c4 0 23 = nI (mall a) := by rw [hf4 0 (by decide)]; exact g23
    have k4 : ∀ z, z < 54 → c4 4 z = c4 3 z := fun z hz => by rw [hf4 4 (by decide), hf4 3 (by decide)]; exact e4 z hz
    have hol : mout w (mall a) a.1.2 a.1.1 a.2.1.1 (tK (mo a.1.1 k) a.1.1 (a.1.1 - 1) (mo a.1.1 k 0)) (tZ (a.1.1 - 1)) (tL (a.1.1 - 1)) < a.1.1 := mout_lt hP.2.2.1
    have hs : fb_ct (aHit a w x) (k + 1) = fb_ct (aHit a w x) k + (if aHit a w x k then 1 else 0) := rfl
    refine mR 1 rfl trivial ?_
    refine mbNe _ _ rfl (by omega) (by omega) (fun hne => ?_) (fun heq => ?_)
    · have hh : aHit a w x k = false := beq_eq_false_iff_ne.mpr hne
      refine mR 2 rfl trivial ?_
      refine mS (lp_Mo_reach hx hw hy hq u (k + 1) c4 (by omega) hI4 k23 k4) ?_ rfl rfl
      rw [hs, hh, mfst_no hh, nI_1]
      rfl
    · have hh : aHit a w x k = true := beq_iff_eq.mpr heq
      refine mR 1 rfl trivial ?_
      by_cases hz : fb_ct (aHit a w x) k = 0
      · rw [hz]
        refine mx_E_br rfl rfl (fun h => absurd rfl h) (fun _ => ?_)
        refine mR 6 rfl trivial ?_
        refine mS (lp_Mo_reach hx hw hy hq u (k + 1) c4 (by omega) hI4 k23 k4) ?_ rfl rfl
        rw [hs, hh, hz, mfst_0 hh hz, nI_1, nI_1]
        rfl
      · refine mx_E_br rfl rfl (fun _ => ?_) (fun h => absurd (nI_ne0 (by omega) (by omega)) h)
        refine mR 5 rfl trivial ?_
        refine mS (lp_Mo_reach hx hw hy hq u (k + 1) c4 (by omega) hI4 k23 k4) ?_ rfl rfl
        rw [hs, hh, mfst_s hz, nI_1, nI_1]
        rfl
theorem rI_all {c : mx_M} {a : mSt} (h : rI c a) : rI (mx_up c 0 23 (nI (2 ^ a.1.2 - 1))) a := rI_up h (by decide) (by decide) (by decide) (by decide) (by decide)
theorem qr_reach {c : mx_M} {a : mSt} (x w y : Int32) (h : rI c a) : mx_Spec 1 6 m_Mo_reach [.ref 0, .int x, .int w, .int y] c (fun r c' => r = some (.int (aReach a x w y).1) ∧ rI c' (aReach a x w y).2) := by
  have h0 := rI_0 0 h
  obtain ⟨h8, h9, hn, hm⟩ := h0.1
  have h6 := hn.2
  refine mx_Spec_E rfl rfl rfl ?_
  refine mR 5 rfl trivial ?_
  refine mx_E_callV (sp_Mo_isMotion _ x _ h8 (by omega)) rfl rfl rfl (fun r c1 hr => ?_)
  obtain ⟨rfl, rfl⟩ := hr
  unfold aReach
  refine mbT rfl (fun hb => ?_) (fun hb => ?_)
  · rw [hb]
    refine mR 1 rfl trivial ?_
    exact mx_E_iret rfl rfl ⟨rfl, h0⟩
  · refine mR 1 rfl trivial ?_
    refine mx_E_callS (sp_Mo_isWay _ w) rfl rfl rfl (fun r c1 hr => ?_)
    obtain ⟨rfl, rfl⟩ := hr
    refine mbT rfl (fun hb2 => ?_) (fun hb2 => ?_)
    · rw [hb2, Bool.and_false]
      refine mR 1 rfl trivial ?_
      exact mx_E_iret rfl rfl ⟨rfl, h0⟩
    · refine mR 3 rfl trivial ?_
      refine mx_E_callS (sp_Mo_in _ _ _ _) rfl rfl rfl (fun r c1 hr => ?_)
      obtain ⟨rfl, rfl⟩ := hr
      rw [show decide ((0 : Int32) ≤ y ∧ y ≤ 1) = mi y 2 from in_mk y 1 (by decide)]
      refine mbF rfl (fun hb3 => ?_) (fun hb3 => ?_)
      · rw [hb, hb2, hb3]
        obtain ⟨i, hi, rfl⟩ := mi_of (by omega) hb
        obtain ⟨j, hj, rfl⟩ := mi_of (by omega) hb2
        obtain ⟨l, hl, rfl⟩ := mi_of (by omega) hb3
        rw [nI_cl (a := i) (by omega), nI_cl (a := j) (by omega)]
        refine mR 1 rfl trivial ?_
        refine mx_E_callV (sp_Mo_all _ _ h9 hm) rfl rfl rfl (fun r c1 hr => ?_)
        obtain ⟨rfl, hc1⟩ := hr
        have hI1 : rI c1 a := by rw [hc1]; exact rI_all h0
        refine mR 4 rfl trivial ?_
        refine mx_E_callS (sp_Mo_copies3 _) rfl rfl rfl (fun r c2 hr => ?_)
        obtain ⟨rfl, hc2⟩ := hr
        refine mR 6 rfl trivial ?_
        refine lp_Mo_reach hi hj hl (fun c' hI => ⟨rfl, hI⟩) (mfact a.1.1) 0 c2 (by omega) (rI_fr hI1 (fun r hr => by rw [hc2]; exact mx_upR_rid _ _ _ _ (fun e => hr (by rw [e]; decide)))) ?_ (fun z hz => ?_)
        · rw [hc2, mx_upR_rid _ _ _ 0 (by decide), hc1, mx_up_same]
          rfl
        · rw [hc2, mx_upR_row, mx_upR_rid _ _ _ 3 (by decide), fb_put_in (by omega) (by omega)]
          rfl
      · rw [hb3, Bool.and_false]
        refine mR 1 rfl trivial ?_
        exact mx_E_iret rfl rfl ⟨rfl, h0⟩
end
