-- ===== PART A: goes FIRST, ahead of the names: the tables' words, and 'selects' of the private methods out of them =====
/-- a private method of a class that the tables say can be made, by its rows of tables_1 -/
def lw_okq (q : MethodName × Nat) : Prop := (q.1.cls ≠ "java/lang/invoke/MethodHandle" ∧ q.1.cls ≠ "java/lang/invoke/VarHandle") ∧ Cond.instantiable q.1.cls q.2 ∈ tables_1 ∧ Cond.privateMethod q.1 ∈ tables_1 ∧ Cond.instanceMethod q.1 ∈ tables_1
theorem lw_p0 : lw_okq (⟨"OlderTale", "refuse", "(I)I"⟩, 17) := ⟨⟨by decide +kernel, by decide +kernel⟩, List.mem_of_getElem? (i := 20) (by decide +kernel), List.mem_of_getElem? (i := 352) (by decide +kernel), List.mem_of_getElem? (i := 353) (by decide +kernel)⟩
theorem lw_p1 : lw_okq (⟨"OlderTale$Table", "add", "(IIII)V"⟩, 12) := ⟨⟨by decide +kernel, by decide +kernel⟩, List.mem_of_getElem? (i := 28) (by decide +kernel), List.mem_of_getElem? (i := 356) (by decide +kernel), List.mem_of_getElem? (i := 357) (by decide +kernel)⟩
theorem lw_p2 : lw_okq (⟨"OlderTale$Plan", "spoil", "()V"⟩, 18) := ⟨⟨by decide +kernel, by decide +kernel⟩, List.mem_of_getElem? (i := 178) (by decide +kernel), List.mem_of_getElem? (i := 360) (by decide +kernel), List.mem_of_getElem? (i := 361) (by decide +kernel)⟩
theorem lw_p3 : lw_okq (⟨"OlderTale", "accept", "(I)I"⟩, 17) := ⟨⟨by decide +kernel, by decide +kernel⟩, List.mem_of_getElem? (i := 20) (by decide +kernel), List.mem_of_getElem? (i := 364) (by decide +kernel), List.mem_of_getElem? (i := 365) (by decide +kernel)⟩
theorem lw_p4 : lw_okq (⟨"OlderTale$Table", "has", "(I)Z"⟩, 12) := ⟨⟨by decide +kernel, by decide +kernel⟩, List.mem_of_getElem? (i := 28) (by decide +kernel), List.mem_of_getElem? (i := 373) (by decide +kernel), List.mem_of_getElem? (i := 374) (by decide +kernel)⟩
theorem lw_p5 : lw_okq (⟨"OlderTale$Table", "column", "(I)[I"⟩, 12) := ⟨⟨by decide +kernel, by decide +kernel⟩, List.mem_of_getElem? (i := 28) (by decide +kernel), List.mem_of_getElem? (i := 377) (by decide +kernel), List.mem_of_getElem? (i := 378) (by decide +kernel)⟩
theorem lw_p6 : lw_okq (⟨"OlderTale$Plan", "weigh", "(LOlderTale$Table;)V"⟩, 18) := ⟨⟨by decide +kernel, by decide +kernel⟩, List.mem_of_getElem? (i := 178) (by decide +kernel), List.mem_of_getElem? (i := 385) (by decide +kernel), List.mem_of_getElem? (i := 386) (by decide +kernel)⟩
theorem lw_p7 : lw_okq (⟨"OlderTale$Table", "lawInForce", "()LOlderTale$Law;"⟩, 12) := ⟨⟨by decide +kernel, by decide +kernel⟩, List.mem_of_getElem? (i := 28) (by decide +kernel), List.mem_of_getElem? (i := 389) (by decide +kernel), List.mem_of_getElem? (i := 390) (by decide +kernel)⟩
theorem lw_p8 : lw_okq (⟨"OlderTale$Judge", "look", "(LOlderTale$Table;I)V"⟩, 3) := ⟨⟨by decide +kernel, by decide +kernel⟩, List.mem_of_getElem? (i := 184) (by decide +kernel), List.mem_of_getElem? (i := 393) (by decide +kernel), List.mem_of_getElem? (i := 394) (by decide +kernel)⟩
theorem lw_p9 : lw_okq (⟨"OlderTale$Judge", "lastOf", "(LOlderTale$Law;III)I"⟩, 3) := ⟨⟨by decide +kernel, by decide +kernel⟩, List.mem_of_getElem? (i := 184) (by decide +kernel), List.mem_of_getElem? (i := 403) (by decide +kernel), List.mem_of_getElem? (i := 404) (by decide +kernel)⟩
theorem lw_p10 : lw_okq (⟨"OlderTale$Law", "isOf", "(II)Z"⟩, 4) := ⟨⟨by decide +kernel, by decide +kernel⟩, List.mem_of_getElem? (i := 409) (by decide +kernel), List.mem_of_getElem? (i := 407) (by decide +kernel), List.mem_of_getElem? (i := 408) (by decide +kernel)⟩
theorem lw_p11 : lw_okq (⟨"OlderTale$Judge", "holds", "(LOlderTale$Law;I)Z"⟩, 3) := ⟨⟨by decide +kernel, by decide +kernel⟩, List.mem_of_getElem? (i := 184) (by decide +kernel), List.mem_of_getElem? (i := 412) (by decide +kernel), List.mem_of_getElem? (i := 413) (by decide +kernel)⟩
theorem lw_p12 : lw_okq (⟨"OlderTale$Judge", "push", "(I)V"⟩, 3) := ⟨⟨by decide +kernel, by decide +kernel⟩, List.mem_of_getElem? (i := 184) (by decide +kernel), List.mem_of_getElem? (i := 419) (by decide +kernel), List.mem_of_getElem? (i := 420) (by decide +kernel)⟩
theorem lw_p13 : lw_okq (⟨"OlderTale$Judge", "top", "()I"⟩, 3) := ⟨⟨by decide +kernel, by decide +kernel⟩, List.mem_of_getElem? (i := 184) (by decide +kernel), List.mem_of_getElem? (i := 423) (by decide +kernel), List.mem_of_getElem? (i := 424) (by decide +kernel)⟩
theorem lw_p14 : lw_okq (⟨"OlderTale$Judge", "joins", "(I)Z"⟩, 3) := ⟨⟨by decide +kernel, by decide +kernel⟩, List.mem_of_getElem? (i := 184) (by decide +kernel), List.mem_of_getElem? (i := 430) (by decide +kernel), List.mem_of_getElem? (i := 431) (by decide +kernel)⟩
theorem lw_p15 : lw_okq (⟨"OlderTale$Judge", "isBarred", "(LOlderTale$Law;I)Z"⟩, 3) := ⟨⟨by decide +kernel, by decide +kernel⟩, List.mem_of_getElem? (i := 184) (by decide +kernel), List.mem_of_getElem? (i := 439) (by decide +kernel), List.mem_of_getElem? (i := 440) (by decide +kernel)⟩
def lw_privs_1 : List (MethodName × Nat) := [(⟨"OlderTale", "refuse", "(I)I"⟩, 17), (⟨"OlderTale$Table", "add", "(IIII)V"⟩, 12), (⟨"OlderTale$Plan", "spoil", "()V"⟩, 18), (⟨"OlderTale", "accept", "(I)I"⟩, 17), (⟨"OlderTale$Table", "has", "(I)Z"⟩, 12), (⟨"OlderTale$Table", "column", "(I)[I"⟩, 12), (⟨"OlderTale$Plan", "weigh", "(LOlderTale$Table;)V"⟩, 18), (⟨"OlderTale$Table", "lawInForce", "()LOlderTale$Law;"⟩, 12), (⟨"OlderTale$Judge", "look", "(LOlderTale$Table;I)V"⟩, 3), (⟨"OlderTale$Judge", "lastOf", "(LOlderTale$Law;III)I"⟩, 3), (⟨"OlderTale$Law", "isOf", "(II)Z"⟩, 4), (⟨"OlderTale$Judge", "holds", "(LOlderTale$Law;I)Z"⟩, 3), (⟨"OlderTale$Judge", "push", "(I)V"⟩, 3), (⟨"OlderTale$Judge", "top", "()I"⟩, 3), (⟨"OlderTale$Judge", "joins", "(I)Z"⟩, 3), (⟨"OlderTale$Judge", "isBarred", "(LOlderTale$Law;I)Z"⟩, 3)]
theorem lw_r1 : ∀ q ∈ lw_privs_1, lw_okq q := List.forall_mem_cons.mpr ⟨lw_p0, List.forall_mem_cons.mpr ⟨lw_p1, List.forall_mem_cons.mpr ⟨lw_p2, List.forall_mem_cons.mpr ⟨lw_p3, List.forall_mem_cons.mpr ⟨lw_p4, List.forall_mem_cons.mpr ⟨lw_p5, List.forall_mem_cons.mpr ⟨lw_p6, List.forall_mem_cons.mpr ⟨lw_p7, List.forall_mem_cons.mpr ⟨lw_p8, List.forall_mem_cons.mpr ⟨lw_p9, List.forall_mem_cons.mpr ⟨lw_p10, List.forall_mem_cons.mpr ⟨lw_p11, List.forall_mem_cons.mpr ⟨lw_p12, List.forall_mem_cons.mpr ⟨lw_p13, List.forall_mem_cons.mpr ⟨lw_p14, List.forall_mem_cons.mpr ⟨lw_p15, fun _ h => absurd h List.not_mem_nil⟩⟩⟩⟩⟩⟩⟩⟩⟩⟩⟩⟩⟩⟩⟩⟩
theorem lw_p16 : lw_okq (⟨"OlderTale$Table", "seats", "(I)Z"⟩, 12) := ⟨⟨by decide +kernel, by decide +kernel⟩, List.mem_of_getElem? (i := 28) (by decide +kernel), List.mem_of_getElem? (i := 447) (by decide +kernel), List.mem_of_getElem? (i := 448) (by decide +kernel)⟩
theorem lw_p17 : lw_okq (⟨"OlderTale", "lay", "(I)V"⟩, 17) := ⟨⟨by decide +kernel, by decide +kernel⟩, List.mem_of_getElem? (i := 20) (by decide +kernel), List.mem_of_getElem? (i := 459) (by decide +kernel), List.mem_of_getElem? (i := 460) (by decide +kernel)⟩
theorem lw_p18 : lw_okq (⟨"OlderTale", "comesFrom", "(I)Z"⟩, 17) := ⟨⟨by decide +kernel, by decide +kernel⟩, List.mem_of_getElem? (i := 20) (by decide +kernel), List.mem_of_getElem? (i := 471) (by decide +kernel), List.mem_of_getElem? (i := 472) (by decide +kernel)⟩
theorem lw_p19 : lw_okq (⟨"OlderTale$Reader", "read", "([II)LOlderTale$Law;"⟩, 12) := ⟨⟨by decide +kernel, by decide +kernel⟩, List.mem_of_getElem? (i := 133) (by decide +kernel), List.mem_of_getElem? (i := 483) (by decide +kernel), List.mem_of_getElem? (i := 484) (by decide +kernel)⟩
theorem lw_p20 : lw_okq (⟨"OlderTale$Reader", "split", "([II)V"⟩, 12) := ⟨⟨by decide +kernel, by decide +kernel⟩, List.mem_of_getElem? (i := 133) (by decide +kernel), List.mem_of_getElem? (i := 487) (by decide +kernel), List.mem_of_getElem? (i := 488) (by decide +kernel)⟩
theorem lw_p21 : lw_okq (⟨"OlderTale$Reader", "clause", "()V"⟩, 12) := ⟨⟨by decide +kernel, by decide +kernel⟩, List.mem_of_getElem? (i := 133) (by decide +kernel), List.mem_of_getElem? (i := 559) (by decide +kernel), List.mem_of_getElem? (i := 560) (by decide +kernel)⟩
theorem lw_p22 : lw_okq (⟨"OlderTale$Reader", "next", "()I"⟩, 12) := ⟨⟨by decide +kernel, by decide +kernel⟩, List.mem_of_getElem? (i := 133) (by decide +kernel), List.mem_of_getElem? (i := 563) (by decide +kernel), List.mem_of_getElem? (i := 564) (by decide +kernel)⟩
theorem lw_p23 : lw_okq (⟨"OlderTale$Reader", "stop", "()V"⟩, 12) := ⟨⟨by decide +kernel, by decide +kernel⟩, List.mem_of_getElem? (i := 133) (by decide +kernel), List.mem_of_getElem? (i := 567) (by decide +kernel), List.mem_of_getElem? (i := 568) (by decide +kernel)⟩
theorem lw_p24 : lw_okq (⟨"OlderTale$Reader", "step", "(II)V"⟩, 12) := ⟨⟨by decide +kernel, by decide +kernel⟩, List.mem_of_getElem? (i := 133) (by decide +kernel), List.mem_of_getElem? (i := 571) (by decide +kernel), List.mem_of_getElem? (i := 572) (by decide +kernel)⟩
theorem lw_p25 : lw_okq (⟨"OlderTale$Reader", "sum", "(I)V"⟩, 12) := ⟨⟨by decide +kernel, by decide +kernel⟩, List.mem_of_getElem? (i := 133) (by decide +kernel), List.mem_of_getElem? (i := 575) (by decide +kernel), List.mem_of_getElem? (i := 576) (by decide +kernel)⟩
theorem lw_p26 : lw_okq (⟨"OlderTale$Reader", "part", "(I)V"⟩, 12) := ⟨⟨by decide +kernel, by decide +kernel⟩, List.mem_of_getElem? (i := 133) (by decide +kernel), List.mem_of_getElem? (i := 579) (by decide +kernel), List.mem_of_getElem? (i := 580) (by decide +kernel)⟩
theorem lw_p27 : lw_okq (⟨"OlderTale$Reader", "takes", "(I)Z"⟩, 12) := ⟨⟨by decide +kernel, by decide +kernel⟩, List.mem_of_getElem? (i := 133) (by decide +kernel), List.mem_of_getElem? (i := 583) (by decide +kernel), List.mem_of_getElem? (i := 584) (by decide +kernel)⟩
theorem lw_p28 : lw_okq (⟨"OlderTale$Reader", "test", "(I)V"⟩, 12) := ⟨⟨by decide +kernel, by decide +kernel⟩, List.mem_of_getElem? (i := 133) (by decide +kernel), List.mem_of_getElem? (i := 587) (by decide +kernel), List.mem_of_getElem? (i := 588) (by decide +kernel)⟩
theorem lw_p29 : lw_okq (⟨"OlderTale$Reader", "plain", "(I)V"⟩, 12) := ⟨⟨by decide +kernel, by decide +kernel⟩, List.mem_of_getElem? (i := 133) (by decide +kernel), List.mem_of_getElem? (i := 591) (by decide +kernel), List.mem_of_getElem? (i := 592) (by decide +kernel)⟩
theorem lw_p30 : lw_okq (⟨"OlderTale$Reader", "land", "(I)V"⟩, 12) := ⟨⟨by decide +kernel, by decide +kernel⟩, List.mem_of_getElem? (i := 133) (by decide +kernel), List.mem_of_getElem? (i := 595) (by decide +kernel), List.mem_of_getElem? (i := 596) (by decide +kernel)⟩
theorem lw_p31 : lw_okq (⟨"OlderTale$Table", "lastYear", "()I"⟩, 12) := ⟨⟨by decide +kernel, by decide +kernel⟩, List.mem_of_getElem? (i := 28) (by decide +kernel), List.mem_of_getElem? (i := 648) (by decide +kernel), List.mem_of_getElem? (i := 649) (by decide +kernel)⟩
def lw_privs_2 : List (MethodName × Nat) := [(⟨"OlderTale$Table", "seats", "(I)Z"⟩, 12), (⟨"OlderTale", "lay", "(I)V"⟩, 17), (⟨"OlderTale", "comesFrom", "(I)Z"⟩, 17), (⟨"OlderTale$Reader", "read", "([II)LOlderTale$Law;"⟩, 12), (⟨"OlderTale$Reader", "split", "([II)V"⟩, 12), (⟨"OlderTale$Reader", "clause", "()V"⟩, 12), (⟨"OlderTale$Reader", "next", "()I"⟩, 12), (⟨"OlderTale$Reader", "stop", "()V"⟩, 12), (⟨"OlderTale$Reader", "step", "(II)V"⟩, 12), (⟨"OlderTale$Reader", "sum", "(I)V"⟩, 12), (⟨"OlderTale$Reader", "part", "(I)V"⟩, 12), (⟨"OlderTale$Reader", "takes", "(I)Z"⟩, 12), (⟨"OlderTale$Reader", "test", "(I)V"⟩, 12), (⟨"OlderTale$Reader", "plain", "(I)V"⟩, 12), (⟨"OlderTale$Reader", "land", "(I)V"⟩, 12), (⟨"OlderTale$Table", "lastYear", "()I"⟩, 12)]
theorem lw_r2 : ∀ q ∈ lw_privs_2, lw_okq q := List.forall_mem_cons.mpr ⟨lw_p16, List.forall_mem_cons.mpr ⟨lw_p17, List.forall_mem_cons.mpr ⟨lw_p18, List.forall_mem_cons.mpr ⟨lw_p19, List.forall_mem_cons.mpr ⟨lw_p20, List.forall_mem_cons.mpr ⟨lw_p21, List.forall_mem_cons.mpr ⟨lw_p22, List.forall_mem_cons.mpr ⟨lw_p23, List.forall_mem_cons.mpr ⟨lw_p24, List.forall_mem_cons.mpr ⟨lw_p25, List.forall_mem_cons.mpr ⟨lw_p26, List.forall_mem_cons.mpr ⟨lw_p27, List.forall_mem_cons.mpr ⟨lw_p28, List.forall_mem_cons.mpr ⟨lw_p29, List.forall_mem_cons.mpr ⟨lw_p30, List.forall_mem_cons.mpr ⟨lw_p31, fun _ h => absurd h List.not_mem_nil⟩⟩⟩⟩⟩⟩⟩⟩⟩⟩⟩⟩⟩⟩⟩⟩
theorem lw_p32 : lw_okq (⟨"OlderTale$Plan", "yearOf", "(II)I"⟩, 18) := ⟨⟨by decide +kernel, by decide +kernel⟩, List.mem_of_getElem? (i := 178) (by decide +kernel), List.mem_of_getElem? (i := 652) (by decide +kernel), List.mem_of_getElem? (i := 653) (by decide +kernel)⟩
theorem lw_p33 : lw_okq (⟨"OlderTale$Table", "lastTeller", "()I"⟩, 12) := ⟨⟨by decide +kernel, by decide +kernel⟩, List.mem_of_getElem? (i := 28) (by decide +kernel), List.mem_of_getElem? (i := 657) (by decide +kernel), List.mem_of_getElem? (i := 658) (by decide +kernel)⟩
theorem lw_p34 : lw_okq (⟨"OlderTale$Plan", "followers", "(II)I"⟩, 18) := ⟨⟨by decide +kernel, by decide +kernel⟩, List.mem_of_getElem? (i := 178) (by decide +kernel), List.mem_of_getElem? (i := 661) (by decide +kernel), List.mem_of_getElem? (i := 662) (by decide +kernel)⟩
theorem lw_p35 : lw_okq (⟨"OlderTale$Table", "toldSet", "()I"⟩, 12) := ⟨⟨by decide +kernel, by decide +kernel⟩, List.mem_of_getElem? (i := 28) (by decide +kernel), List.mem_of_getElem? (i := 666) (by decide +kernel), List.mem_of_getElem? (i := 667) (by decide +kernel)⟩
theorem lw_p36 : lw_okq (⟨"OlderTale$Triples", "add", "(III)V"⟩, 4) := ⟨⟨by decide +kernel, by decide +kernel⟩, List.mem_of_getElem? (i := 36) (by decide +kernel), List.mem_of_getElem? (i := 670) (by decide +kernel), List.mem_of_getElem? (i := 671) (by decide +kernel)⟩
theorem lw_p37 : lw_okq (⟨"OlderTale$Triples", "drop", "()I"⟩, 4) := ⟨⟨by decide +kernel, by decide +kernel⟩, List.mem_of_getElem? (i := 36) (by decide +kernel), List.mem_of_getElem? (i := 678) (by decide +kernel), List.mem_of_getElem? (i := 679) (by decide +kernel)⟩
theorem lw_p38 : lw_okq (⟨"OlderTale$Triples", "at", "(II)I"⟩, 4) := ⟨⟨by decide +kernel, by decide +kernel⟩, List.mem_of_getElem? (i := 36) (by decide +kernel), List.mem_of_getElem? (i := 686) (by decide +kernel), List.mem_of_getElem? (i := 687) (by decide +kernel)⟩
theorem lw_p39 : lw_okq (⟨"OlderTale$Table", "untold", "()I"⟩, 12) := ⟨⟨by decide +kernel, by decide +kernel⟩, List.mem_of_getElem? (i := 28) (by decide +kernel), List.mem_of_getElem? (i := 694) (by decide +kernel), List.mem_of_getElem? (i := 695) (by decide +kernel)⟩
theorem lw_p40 : lw_okq (⟨"OlderTale$Table", "all", "()I"⟩, 12) := ⟨⟨by decide +kernel, by decide +kernel⟩, List.mem_of_getElem? (i := 28) (by decide +kernel), List.mem_of_getElem? (i := 698) (by decide +kernel), List.mem_of_getElem? (i := 699) (by decide +kernel)⟩
theorem lw_p41 : lw_okq (⟨"OlderTale$Plan", "reckon", "(LOlderTale$Table;)V"⟩, 18) := ⟨⟨by decide +kernel, by decide +kernel⟩, List.mem_of_getElem? (i := 178) (by decide +kernel), List.mem_of_getElem? (i := 707) (by decide +kernel), List.mem_of_getElem? (i := 708) (by decide +kernel)⟩
theorem lw_p42 : lw_okq (⟨"OlderTale$Plan", "reckonSet", "(I)V"⟩, 18) := ⟨⟨by decide +kernel, by decide +kernel⟩, List.mem_of_getElem? (i := 178) (by decide +kernel), List.mem_of_getElem? (i := 712) (by decide +kernel), List.mem_of_getElem? (i := 713) (by decide +kernel)⟩
theorem lw_p43 : lw_okq (⟨"OlderTale$Plan", "yearNeeded", "(II)I"⟩, 18) := ⟨⟨by decide +kernel, by decide +kernel⟩, List.mem_of_getElem? (i := 178) (by decide +kernel), List.mem_of_getElem? (i := 717) (by decide +kernel), List.mem_of_getElem? (i := 718) (by decide +kernel)⟩
theorem lw_p44 : lw_okq (⟨"OlderTale$Plan", "yearAhead", "(II)I"⟩, 18) := ⟨⟨by decide +kernel, by decide +kernel⟩, List.mem_of_getElem? (i := 178) (by decide +kernel), List.mem_of_getElem? (i := 721) (by decide +kernel), List.mem_of_getElem? (i := 722) (by decide +kernel)⟩
theorem lw_p45 : lw_okq (⟨"OlderTale$Plan", "fits", "(III)Z"⟩, 18) := ⟨⟨by decide +kernel, by decide +kernel⟩, List.mem_of_getElem? (i := 178) (by decide +kernel), List.mem_of_getElem? (i := 726) (by decide +kernel), List.mem_of_getElem? (i := 727) (by decide +kernel)⟩
theorem lw_p46 : lw_okq (⟨"OlderTale$Plan", "choose", "(LOlderTale$Table;Z)V"⟩, 18) := ⟨⟨by decide +kernel, by decide +kernel⟩, List.mem_of_getElem? (i := 178) (by decide +kernel), List.mem_of_getElem? (i := 734) (by decide +kernel), List.mem_of_getElem? (i := 735) (by decide +kernel)⟩
theorem lw_p47 : lw_okq (⟨"OlderTale$Plan", "lineUp", "(LOlderTale$Table;ILOlderTale$Triples;)V"⟩, 18) := ⟨⟨by decide +kernel, by decide +kernel⟩, List.mem_of_getElem? (i := 178) (by decide +kernel), List.mem_of_getElem? (i := 747) (by decide +kernel), List.mem_of_getElem? (i := 748) (by decide +kernel)⟩
def lw_privs_3 : List (MethodName × Nat) := [(⟨"OlderTale$Plan", "yearOf", "(II)I"⟩, 18), (⟨"OlderTale$Table", "lastTeller", "()I"⟩, 12), (⟨"OlderTale$Plan", "followers", "(II)I"⟩, 18), (⟨"OlderTale$Table", "toldSet", "()I"⟩, 12), (⟨"OlderTale$Triples", "add", "(III)V"⟩, 4), (⟨"OlderTale$Triples", "drop", "()I"⟩, 4), (⟨"OlderTale$Triples", "at", "(II)I"⟩, 4), (⟨"OlderTale$Table", "untold", "()I"⟩, 12), (⟨"OlderTale$Table", "all", "()I"⟩, 12), (⟨"OlderTale$Plan", "reckon", "(LOlderTale$Table;)V"⟩, 18), (⟨"OlderTale$Plan", "reckonSet", "(I)V"⟩, 18), (⟨"OlderTale$Plan", "yearNeeded", "(II)I"⟩, 18), (⟨"OlderTale$Plan", "yearAhead", "(II)I"⟩, 18), (⟨"OlderTale$Plan", "fits", "(III)Z"⟩, 18), (⟨"OlderTale$Plan", "choose", "(LOlderTale$Table;Z)V"⟩, 18), (⟨"OlderTale$Plan", "lineUp", "(LOlderTale$Table;ILOlderTale$Triples;)V"⟩, 18)]
theorem lw_r3 : ∀ q ∈ lw_privs_3, lw_okq q := List.forall_mem_cons.mpr ⟨lw_p32, List.forall_mem_cons.mpr ⟨lw_p33, List.forall_mem_cons.mpr ⟨lw_p34, List.forall_mem_cons.mpr ⟨lw_p35, List.forall_mem_cons.mpr ⟨lw_p36, List.forall_mem_cons.mpr ⟨lw_p37, List.forall_mem_cons.mpr ⟨lw_p38, List.forall_mem_cons.mpr ⟨lw_p39, List.forall_mem_cons.mpr ⟨lw_p40, List.forall_mem_cons.mpr ⟨lw_p41, List.forall_mem_cons.mpr ⟨lw_p42, List.forall_mem_cons.mpr ⟨lw_p43, List.forall_mem_cons.mpr ⟨lw_p44, List.forall_mem_cons.mpr ⟨lw_p45, List.forall_mem_cons.mpr ⟨lw_p46, List.forall_mem_cons.mpr ⟨lw_p47, fun _ h => absurd h List.not_mem_nil⟩⟩⟩⟩⟩⟩⟩⟩⟩⟩⟩⟩⟩⟩⟩⟩
theorem lw_p48 : lw_okq (⟨"OlderTale$Plan", "firstTale", "(III)I"⟩, 18) := ⟨⟨by decide +kernel, by decide +kernel⟩, List.mem_of_getElem? (i := 178) (by decide +kernel), List.mem_of_getElem? (i := 752) (by decide +kernel), List.mem_of_getElem? (i := 753) (by decide +kernel)⟩
theorem lw_p49 : lw_okq (⟨"OlderTale$Plan", "leadsOn", "(IIII)Z"⟩, 18) := ⟨⟨by decide +kernel, by decide +kernel⟩, List.mem_of_getElem? (i := 178) (by decide +kernel), List.mem_of_getElem? (i := 756) (by decide +kernel), List.mem_of_getElem? (i := 757) (by decide +kernel)⟩
theorem lw_p50 : lw_okq (⟨"OlderTale$Plan", "nameTellers", "(LOlderTale$Triples;I)V"⟩, 18) := ⟨⟨by decide +kernel, by decide +kernel⟩, List.mem_of_getElem? (i := 178) (by decide +kernel), List.mem_of_getElem? (i := 763) (by decide +kernel), List.mem_of_getElem? (i := 764) (by decide +kernel)⟩
theorem lw_p51 : lw_okq (⟨"OlderTale$Plan", "leaders", "(II)I"⟩, 18) := ⟨⟨by decide +kernel, by decide +kernel⟩, List.mem_of_getElem? (i := 178) (by decide +kernel), List.mem_of_getElem? (i := 767) (by decide +kernel), List.mem_of_getElem? (i := 768) (by decide +kernel)⟩
theorem lw_p52 : lw_okq (⟨"OlderTale$Plan", "rows", "(IIII)I"⟩, 18) := ⟨⟨by decide +kernel, by decide +kernel⟩, List.mem_of_getElem? (i := 178) (by decide +kernel), List.mem_of_getElem? (i := 778) (by decide +kernel), List.mem_of_getElem? (i := 779) (by decide +kernel)⟩
theorem lw_p53 : lw_okq (⟨"OlderTale$Plan", "winningTale", "(IIII)I"⟩, 18) := ⟨⟨by decide +kernel, by decide +kernel⟩, List.mem_of_getElem? (i := 178) (by decide +kernel), List.mem_of_getElem? (i := 787) (by decide +kernel), List.mem_of_getElem? (i := 788) (by decide +kernel)⟩
theorem lw_p54 : lw_okq (⟨"OlderTale$Season", "lay", "(LOlderTale$Plan;I)V"⟩, 1) := ⟨⟨by decide +kernel, by decide +kernel⟩, List.mem_of_getElem? (i := 796) (by decide +kernel), List.mem_of_getElem? (i := 808) (by decide +kernel), List.mem_of_getElem? (i := 809) (by decide +kernel)⟩
theorem lw_p55 : lw_okq (⟨"OlderTale$Season", "most", "(LOlderTale$Plan;II)I"⟩, 1) := ⟨⟨by decide +kernel, by decide +kernel⟩, List.mem_of_getElem? (i := 796) (by decide +kernel), List.mem_of_getElem? (i := 812) (by decide +kernel), List.mem_of_getElem? (i := 813) (by decide +kernel)⟩
theorem lw_p56 : lw_okq (⟨"OlderTale$Season", "lowest", "(LOlderTale$Plan;II)I"⟩, 1) := ⟨⟨by decide +kernel, by decide +kernel⟩, List.mem_of_getElem? (i := 796) (by decide +kernel), List.mem_of_getElem? (i := 819) (by decide +kernel), List.mem_of_getElem? (i := 820) (by decide +kernel)⟩
theorem lw_p57 : lw_okq (⟨"OlderTale", "worthIfKnown", "(II)I"⟩, 17) := ⟨⟨by decide +kernel, by decide +kernel⟩, List.mem_of_getElem? (i := 20) (by decide +kernel), List.mem_of_getElem? (i := 827) (by decide +kernel), List.mem_of_getElem? (i := 828) (by decide +kernel)⟩
theorem lw_p58 : lw_okq (⟨"OlderTale$Triples", "isFull", "()Z"⟩, 4) := ⟨⟨by decide +kernel, by decide +kernel⟩, List.mem_of_getElem? (i := 36) (by decide +kernel), List.mem_of_getElem? (i := 835) (by decide +kernel), List.mem_of_getElem? (i := 836) (by decide +kernel)⟩
theorem lw_p59 : lw_okq (⟨"OlderTale$Dates", "agree", "(LOlderTale$Table;I)Z"⟩, 4) := ⟨⟨by decide +kernel, by decide +kernel⟩, List.mem_of_getElem? (i := 265) (by decide +kernel), List.mem_of_getElem? (i := 847) (by decide +kernel), List.mem_of_getElem? (i := 848) (by decide +kernel)⟩
theorem lw_p60 : lw_okq (⟨"OlderTale$Dates", "reckonLate", "(LOlderTale$Table;)V"⟩, 4) := ⟨⟨by decide +kernel, by decide +kernel⟩, List.mem_of_getElem? (i := 265) (by decide +kernel), List.mem_of_getElem? (i := 852) (by decide +kernel), List.mem_of_getElem? (i := 853) (by decide +kernel)⟩
theorem lw_p61 : lw_okq (⟨"OlderTale$Dates", "leaveOut", "(LOlderTale$Table;)V"⟩, 4) := ⟨⟨by decide +kernel, by decide +kernel⟩, List.mem_of_getElem? (i := 265) (by decide +kernel), List.mem_of_getElem? (i := 860) (by decide +kernel), List.mem_of_getElem? (i := 861) (by decide +kernel)⟩
theorem lw_p62 : lw_okq (⟨"OlderTale$Plan", "firstWrong", "(LOlderTale$Triples;I)I"⟩, 18) := ⟨⟨by decide +kernel, by decide +kernel⟩, List.mem_of_getElem? (i := 178) (by decide +kernel), List.mem_of_getElem? (i := 878) (by decide +kernel), List.mem_of_getElem? (i := 879) (by decide +kernel)⟩
theorem lw_p63 : lw_okq (⟨"OlderTale$Plan", "listChoices", "(III[I)I"⟩, 18) := ⟨⟨by decide +kernel, by decide +kernel⟩, List.mem_of_getElem? (i := 178) (by decide +kernel), List.mem_of_getElem? (i := 891) (by decide +kernel), List.mem_of_getElem? (i := 892) (by decide +kernel)⟩
def lw_privs_4 : List (MethodName × Nat) := [(⟨"OlderTale$Plan", "firstTale", "(III)I"⟩, 18), (⟨"OlderTale$Plan", "leadsOn", "(IIII)Z"⟩, 18), (⟨"OlderTale$Plan", "nameTellers", "(LOlderTale$Triples;I)V"⟩, 18), (⟨"OlderTale$Plan", "leaders", "(II)I"⟩, 18), (⟨"OlderTale$Plan", "rows", "(IIII)I"⟩, 18), (⟨"OlderTale$Plan", "winningTale", "(IIII)I"⟩, 18), (⟨"OlderTale$Season", "lay", "(LOlderTale$Plan;I)V"⟩, 1), (⟨"OlderTale$Season", "most", "(LOlderTale$Plan;II)I"⟩, 1), (⟨"OlderTale$Season", "lowest", "(LOlderTale$Plan;II)I"⟩, 1), (⟨"OlderTale", "worthIfKnown", "(II)I"⟩, 17), (⟨"OlderTale$Triples", "isFull", "()Z"⟩, 4), (⟨"OlderTale$Dates", "agree", "(LOlderTale$Table;I)Z"⟩, 4), (⟨"OlderTale$Dates", "reckonLate", "(LOlderTale$Table;)V"⟩, 4), (⟨"OlderTale$Dates", "leaveOut", "(LOlderTale$Table;)V"⟩, 4), (⟨"OlderTale$Plan", "firstWrong", "(LOlderTale$Triples;I)I"⟩, 18), (⟨"OlderTale$Plan", "listChoices", "(III[I)I"⟩, 18)]
theorem lw_r4 : ∀ q ∈ lw_privs_4, lw_okq q := List.forall_mem_cons.mpr ⟨lw_p48, List.forall_mem_cons.mpr ⟨lw_p49, List.forall_mem_cons.mpr ⟨lw_p50, List.forall_mem_cons.mpr ⟨lw_p51, List.forall_mem_cons.mpr ⟨lw_p52, List.forall_mem_cons.mpr ⟨lw_p53, List.forall_mem_cons.mpr ⟨lw_p54, List.forall_mem_cons.mpr ⟨lw_p55, List.forall_mem_cons.mpr ⟨lw_p56, List.forall_mem_cons.mpr ⟨lw_p57, List.forall_mem_cons.mpr ⟨lw_p58, List.forall_mem_cons.mpr ⟨lw_p59, List.forall_mem_cons.mpr ⟨lw_p60, List.forall_mem_cons.mpr ⟨lw_p61, List.forall_mem_cons.mpr ⟨lw_p62, List.forall_mem_cons.mpr ⟨lw_p63, fun _ h => absurd h List.not_mem_nil⟩⟩⟩⟩⟩⟩⟩⟩⟩⟩⟩⟩⟩⟩⟩⟩
theorem lw_p64 : lw_okq (⟨"OlderTale$Table", "copyFrom", "(LOlderTale$Table;)V"⟩, 12) := ⟨⟨by decide +kernel, by decide +kernel⟩, List.mem_of_getElem? (i := 28) (by decide +kernel), List.mem_of_getElem? (i := 906) (by decide +kernel), List.mem_of_getElem? (i := 907) (by decide +kernel)⟩
theorem lw_p65 : lw_okq (⟨"OlderTale$Triples", "copyFrom", "(LOlderTale$Triples;)V"⟩, 4) := ⟨⟨by decide +kernel, by decide +kernel⟩, List.mem_of_getElem? (i := 36) (by decide +kernel), List.mem_of_getElem? (i := 911) (by decide +kernel), List.mem_of_getElem? (i := 912) (by decide +kernel)⟩
theorem lw_p66 : lw_okq (⟨"OlderTaleModel", "refuses", "(I)I"⟩, 43) := ⟨⟨by decide +kernel, by decide +kernel⟩, List.mem_of_getElem? (i := 928) (by decide +kernel), List.mem_of_getElem? (i := 1071) (by decide +kernel), List.mem_of_getElem? (i := 1072) (by decide +kernel)⟩
theorem lw_p67 : lw_okq (⟨"OlderTaleModel", "good", "(I)I"⟩, 43) := ⟨⟨by decide +kernel, by decide +kernel⟩, List.mem_of_getElem? (i := 928) (by decide +kernel), List.mem_of_getElem? (i := 1075) (by decide +kernel), List.mem_of_getElem? (i := 1076) (by decide +kernel)⟩
theorem lw_p68 : lw_okq (⟨"OlderTaleModel", "tales", "()I"⟩, 43) := ⟨⟨by decide +kernel, by decide +kernel⟩, List.mem_of_getElem? (i := 928) (by decide +kernel), List.mem_of_getElem? (i := 1090) (by decide +kernel), List.mem_of_getElem? (i := 1091) (by decide +kernel)⟩
theorem lw_p69 : lw_okq (⟨"OlderTaleModel", "adds", "(IIII)I"⟩, 43) := ⟨⟨by decide +kernel, by decide +kernel⟩, List.mem_of_getElem? (i := 928) (by decide +kernel), List.mem_of_getElem? (i := 1094) (by decide +kernel), List.mem_of_getElem? (i := 1095) (by decide +kernel)⟩
theorem lw_p70 : lw_okq (⟨"OlderTaleModel", "isTale", "(I)Z"⟩, 43) := ⟨⟨by decide +kernel, by decide +kernel⟩, List.mem_of_getElem? (i := 928) (by decide +kernel), List.mem_of_getElem? (i := 1102) (by decide +kernel), List.mem_of_getElem? (i := 1103) (by decide +kernel)⟩
theorem lw_p71 : lw_okq (⟨"OlderTaleModel", "factOf", "(II)I"⟩, 43) := ⟨⟨by decide +kernel, by decide +kernel⟩, List.mem_of_getElem? (i := 928) (by decide +kernel), List.mem_of_getElem? (i := 1106) (by decide +kernel), List.mem_of_getElem? (i := 1107) (by decide +kernel)⟩
theorem lw_p72 : lw_okq (⟨"OlderTaleModel", "pair", "(I)I"⟩, 43) := ⟨⟨by decide +kernel, by decide +kernel⟩, List.mem_of_getElem? (i := 928) (by decide +kernel), List.mem_of_getElem? (i := 1118) (by decide +kernel), List.mem_of_getElem? (i := 1119) (by decide +kernel)⟩
theorem lw_p73 : lw_okq (⟨"OlderTaleModel", "reads", "()Z"⟩, 43) := ⟨⟨by decide +kernel, by decide +kernel⟩, List.mem_of_getElem? (i := 928) (by decide +kernel), List.mem_of_getElem? (i := 1138) (by decide +kernel), List.mem_of_getElem? (i := 1139) (by decide +kernel)⟩
theorem lw_p74 : lw_okq (⟨"OlderTaleModel", "splits", "(I)V"⟩, 43) := ⟨⟨by decide +kernel, by decide +kernel⟩, List.mem_of_getElem? (i := 928) (by decide +kernel), List.mem_of_getElem? (i := 1142) (by decide +kernel), List.mem_of_getElem? (i := 1143) (by decide +kernel)⟩
theorem lw_p75 : lw_okq (⟨"OlderTaleModel", "wordOf", "(II)I"⟩, 43) := ⟨⟨by decide +kernel, by decide +kernel⟩, List.mem_of_getElem? (i := 928) (by decide +kernel), List.mem_of_getElem? (i := 1152) (by decide +kernel), List.mem_of_getElem? (i := 1153) (by decide +kernel)⟩
theorem lw_p76 : lw_okq (⟨"OlderTaleModel", "readClause", "()V"⟩, 43) := ⟨⟨by decide +kernel, by decide +kernel⟩, List.mem_of_getElem? (i := 928) (by decide +kernel), List.mem_of_getElem? (i := 1157) (by decide +kernel), List.mem_of_getElem? (i := 1158) (by decide +kernel)⟩
theorem lw_p77 : lw_okq (⟨"OlderTaleModel", "takes0", "(I)Z"⟩, 43) := ⟨⟨by decide +kernel, by decide +kernel⟩, List.mem_of_getElem? (i := 928) (by decide +kernel), List.mem_of_getElem? (i := 1161) (by decide +kernel), List.mem_of_getElem? (i := 1162) (by decide +kernel)⟩
theorem lw_p78 : lw_okq (⟨"OlderTaleModel", "fine", "()Z"⟩, 43) := ⟨⟨by decide +kernel, by decide +kernel⟩, List.mem_of_getElem? (i := 928) (by decide +kernel), List.mem_of_getElem? (i := 1165) (by decide +kernel), List.mem_of_getElem? (i := 1166) (by decide +kernel)⟩
theorem lw_p79 : lw_okq (⟨"OlderTaleModel", "readSum", "(I)V"⟩, 43) := ⟨⟨by decide +kernel, by decide +kernel⟩, List.mem_of_getElem? (i := 928) (by decide +kernel), List.mem_of_getElem? (i := 1169) (by decide +kernel), List.mem_of_getElem? (i := 1170) (by decide +kernel)⟩
def lw_privs_5 : List (MethodName × Nat) := [(⟨"OlderTale$Table", "copyFrom", "(LOlderTale$Table;)V"⟩, 12), (⟨"OlderTale$Triples", "copyFrom", "(LOlderTale$Triples;)V"⟩, 4), (⟨"OlderTaleModel", "refuses", "(I)I"⟩, 43), (⟨"OlderTaleModel", "good", "(I)I"⟩, 43), (⟨"OlderTaleModel", "tales", "()I"⟩, 43), (⟨"OlderTaleModel", "adds", "(IIII)I"⟩, 43), (⟨"OlderTaleModel", "isTale", "(I)Z"⟩, 43), (⟨"OlderTaleModel", "factOf", "(II)I"⟩, 43), (⟨"OlderTaleModel", "pair", "(I)I"⟩, 43), (⟨"OlderTaleModel", "reads", "()Z"⟩, 43), (⟨"OlderTaleModel", "splits", "(I)V"⟩, 43), (⟨"OlderTaleModel", "wordOf", "(II)I"⟩, 43), (⟨"OlderTaleModel", "readClause", "()V"⟩, 43), (⟨"OlderTaleModel", "takes0", "(I)Z"⟩, 43), (⟨"OlderTaleModel", "fine", "()Z"⟩, 43), (⟨"OlderTaleModel", "readSum", "(I)V"⟩, 43)]
theorem lw_r5 : ∀ q ∈ lw_privs_5, lw_okq q := List.forall_mem_cons.mpr ⟨lw_p64, List.forall_mem_cons.mpr ⟨lw_p65, List.forall_mem_cons.mpr ⟨lw_p66, List.forall_mem_cons.mpr ⟨lw_p67, List.forall_mem_cons.mpr ⟨lw_p68, List.forall_mem_cons.mpr ⟨lw_p69, List.forall_mem_cons.mpr ⟨lw_p70, List.forall_mem_cons.mpr ⟨lw_p71, List.forall_mem_cons.mpr ⟨lw_p72, List.forall_mem_cons.mpr ⟨lw_p73, List.forall_mem_cons.mpr ⟨lw_p74, List.forall_mem_cons.mpr ⟨lw_p75, List.forall_mem_cons.mpr ⟨lw_p76, List.forall_mem_cons.mpr ⟨lw_p77, List.forall_mem_cons.mpr ⟨lw_p78, List.forall_mem_cons.mpr ⟨lw_p79, fun _ h => absurd h List.not_mem_nil⟩⟩⟩⟩⟩⟩⟩⟩⟩⟩⟩⟩⟩⟩⟩⟩
theorem lw_p80 : lw_okq (⟨"OlderTaleModel", "readTerm", "(I)V"⟩, 43) := ⟨⟨by decide +kernel, by decide +kernel⟩, List.mem_of_getElem? (i := 928) (by decide +kernel), List.mem_of_getElem? (i := 1173) (by decide +kernel), List.mem_of_getElem? (i := 1174) (by decide +kernel)⟩
theorem lw_p81 : lw_okq (⟨"OlderTaleModel", "readPart", "(I)V"⟩, 43) := ⟨⟨by decide +kernel, by decide +kernel⟩, List.mem_of_getElem? (i := 928) (by decide +kernel), List.mem_of_getElem? (i := 1177) (by decide +kernel), List.mem_of_getElem? (i := 1178) (by decide +kernel)⟩
theorem lw_p82 : lw_okq (⟨"OlderTaleModel", "faults", "()V"⟩, 43) := ⟨⟨by decide +kernel, by decide +kernel⟩, List.mem_of_getElem? (i := 928) (by decide +kernel), List.mem_of_getElem? (i := 1184) (by decide +kernel), List.mem_of_getElem? (i := 1185) (by decide +kernel)⟩
theorem lw_p83 : lw_okq (⟨"OlderTaleModel", "must", "(I)V"⟩, 43) := ⟨⟨by decide +kernel, by decide +kernel⟩, List.mem_of_getElem? (i := 928) (by decide +kernel), List.mem_of_getElem? (i := 1188) (by decide +kernel), List.mem_of_getElem? (i := 1189) (by decide +kernel)⟩
theorem lw_p84 : lw_okq (⟨"OlderTaleModel", "leaf", "()V"⟩, 43) := ⟨⟨by decide +kernel, by decide +kernel⟩, List.mem_of_getElem? (i := 928) (by decide +kernel), List.mem_of_getElem? (i := 1192) (by decide +kernel), List.mem_of_getElem? (i := 1193) (by decide +kernel)⟩
theorem lw_p85 : lw_okq (⟨"OlderTaleModel", "readTest", "(I)V"⟩, 43) := ⟨⟨by decide +kernel, by decide +kernel⟩, List.mem_of_getElem? (i := 928) (by decide +kernel), List.mem_of_getElem? (i := 1196) (by decide +kernel), List.mem_of_getElem? (i := 1197) (by decide +kernel)⟩
theorem lw_p86 : lw_okq (⟨"OlderTaleModel", "readBoth", "(I)V"⟩, 43) := ⟨⟨by decide +kernel, by decide +kernel⟩, List.mem_of_getElem? (i := 928) (by decide +kernel), List.mem_of_getElem? (i := 1200) (by decide +kernel), List.mem_of_getElem? (i := 1201) (by decide +kernel)⟩
theorem lw_p87 : lw_okq (⟨"OlderTaleModel", "readPlain", "(I)V"⟩, 43) := ⟨⟨by decide +kernel, by decide +kernel⟩, List.mem_of_getElem? (i := 928) (by decide +kernel), List.mem_of_getElem? (i := 1204) (by decide +kernel), List.mem_of_getElem? (i := 1205) (by decide +kernel)⟩
theorem lw_p88 : lw_okq (⟨"OlderTaleModel", "looks", "()V"⟩, 43) := ⟨⟨by decide +kernel, by decide +kernel⟩, List.mem_of_getElem? (i := 928) (by decide +kernel), List.mem_of_getElem? (i := 1220) (by decide +kernel), List.mem_of_getElem? (i := 1221) (by decide +kernel)⟩
theorem lw_p89 : lw_okq (⟨"OlderTaleModel", "lays", "()V"⟩, 43) := ⟨⟨by decide +kernel, by decide +kernel⟩, List.mem_of_getElem? (i := 928) (by decide +kernel), List.mem_of_getElem? (i := 1224) (by decide +kernel), List.mem_of_getElem? (i := 1225) (by decide +kernel)⟩
theorem lw_p90 : lw_okq (⟨"OlderTaleModel", "asksOf", "(II)V"⟩, 43) := ⟨⟨by decide +kernel, by decide +kernel⟩, List.mem_of_getElem? (i := 928) (by decide +kernel), List.mem_of_getElem? (i := 1228) (by decide +kernel), List.mem_of_getElem? (i := 1229) (by decide +kernel)⟩
theorem lw_p91 : lw_okq (⟨"OlderTaleModel", "codeAt", "(I)I"⟩, 43) := ⟨⟨by decide +kernel, by decide +kernel⟩, List.mem_of_getElem? (i := 928) (by decide +kernel), List.mem_of_getElem? (i := 1235) (by decide +kernel), List.mem_of_getElem? (i := 1236) (by decide +kernel)⟩
theorem lw_p92 : lw_okq (⟨"OlderTaleModel", "sumOf", "(Z)J"⟩, 43) := ⟨⟨by decide +kernel, by decide +kernel⟩, List.mem_of_getElem? (i := 928) (by decide +kernel), List.mem_of_getElem? (i := 1239) (by decide +kernel), List.mem_of_getElem? (i := 1240) (by decide +kernel)⟩
theorem lw_p93 : lw_okq (⟨"OlderTaleModel", "termOf", "(Z)J"⟩, 43) := ⟨⟨by decide +kernel, by decide +kernel⟩, List.mem_of_getElem? (i := 928) (by decide +kernel), List.mem_of_getElem? (i := 1243) (by decide +kernel), List.mem_of_getElem? (i := 1244) (by decide +kernel)⟩
theorem lw_p94 : lw_okq (⟨"OlderTaleModel", "partOf", "(Z)J"⟩, 43) := ⟨⟨by decide +kernel, by decide +kernel⟩, List.mem_of_getElem? (i := 928) (by decide +kernel), List.mem_of_getElem? (i := 1247) (by decide +kernel), List.mem_of_getElem? (i := 1248) (by decide +kernel)⟩
theorem lw_p95 : lw_okq (⟨"OlderTaleModel", "passes0", "(I)Z"⟩, 43) := ⟨⟨by decide +kernel, by decide +kernel⟩, List.mem_of_getElem? (i := 928) (by decide +kernel), List.mem_of_getElem? (i := 1251) (by decide +kernel), List.mem_of_getElem? (i := 1252) (by decide +kernel)⟩
def lw_privs_6 : List (MethodName × Nat) := [(⟨"OlderTaleModel", "readTerm", "(I)V"⟩, 43), (⟨"OlderTaleModel", "readPart", "(I)V"⟩, 43), (⟨"OlderTaleModel", "faults", "()V"⟩, 43), (⟨"OlderTaleModel", "must", "(I)V"⟩, 43), (⟨"OlderTaleModel", "leaf", "()V"⟩, 43), (⟨"OlderTaleModel", "readTest", "(I)V"⟩, 43), (⟨"OlderTaleModel", "readBoth", "(I)V"⟩, 43), (⟨"OlderTaleModel", "readPlain", "(I)V"⟩, 43), (⟨"OlderTaleModel", "looks", "()V"⟩, 43), (⟨"OlderTaleModel", "lays", "()V"⟩, 43), (⟨"OlderTaleModel", "asksOf", "(II)V"⟩, 43), (⟨"OlderTaleModel", "codeAt", "(I)I"⟩, 43), (⟨"OlderTaleModel", "sumOf", "(Z)J"⟩, 43), (⟨"OlderTaleModel", "termOf", "(Z)J"⟩, 43), (⟨"OlderTaleModel", "partOf", "(Z)J"⟩, 43), (⟨"OlderTaleModel", "passes0", "(I)Z"⟩, 43)]
theorem lw_r6 : ∀ q ∈ lw_privs_6, lw_okq q := List.forall_mem_cons.mpr ⟨lw_p80, List.forall_mem_cons.mpr ⟨lw_p81, List.forall_mem_cons.mpr ⟨lw_p82, List.forall_mem_cons.mpr ⟨lw_p83, List.forall_mem_cons.mpr ⟨lw_p84, List.forall_mem_cons.mpr ⟨lw_p85, List.forall_mem_cons.mpr ⟨lw_p86, List.forall_mem_cons.mpr ⟨lw_p87, List.forall_mem_cons.mpr ⟨lw_p88, List.forall_mem_cons.mpr ⟨lw_p89, List.forall_mem_cons.mpr ⟨lw_p90, List.forall_mem_cons.mpr ⟨lw_p91, List.forall_mem_cons.mpr ⟨lw_p92, List.forall_mem_cons.mpr ⟨lw_p93, List.forall_mem_cons.mpr ⟨lw_p94, List.forall_mem_cons.mpr ⟨lw_p95, fun _ h => absurd h List.not_mem_nil⟩⟩⟩⟩⟩⟩⟩⟩⟩⟩⟩⟩⟩⟩⟩⟩
theorem lw_p96 : lw_okq (⟨"OlderTaleModel", "bounded", "(JZ)J"⟩, 43) := ⟨⟨by decide +kernel, by decide +kernel⟩, List.mem_of_getElem? (i := 928) (by decide +kernel), List.mem_of_getElem? (i := 1255) (by decide +kernel), List.mem_of_getElem? (i := 1256) (by decide +kernel)⟩
theorem lw_p97 : lw_okq (⟨"OlderTaleModel", "testOf", "(Z)Z"⟩, 43) := ⟨⟨by decide +kernel, by decide +kernel⟩, List.mem_of_getElem? (i := 928) (by decide +kernel), List.mem_of_getElem? (i := 1261) (by decide +kernel), List.mem_of_getElem? (i := 1262) (by decide +kernel)⟩
theorem lw_p98 : lw_okq (⟨"OlderTaleModel", "bothOf", "(Z)Z"⟩, 43) := ⟨⟨by decide +kernel, by decide +kernel⟩, List.mem_of_getElem? (i := 928) (by decide +kernel), List.mem_of_getElem? (i := 1265) (by decide +kernel), List.mem_of_getElem? (i := 1266) (by decide +kernel)⟩
theorem lw_p99 : lw_okq (⟨"OlderTaleModel", "plainOf", "(Z)Z"⟩, 43) := ⟨⟨by decide +kernel, by decide +kernel⟩, List.mem_of_getElem? (i := 928) (by decide +kernel), List.mem_of_getElem? (i := 1269) (by decide +kernel), List.mem_of_getElem? (i := 1270) (by decide +kernel)⟩
theorem lw_p100 : lw_okq (⟨"OlderTaleModel", "positiveOf", "(Z)Z"⟩, 43) := ⟨⟨by decide +kernel, by decide +kernel⟩, List.mem_of_getElem? (i := 928) (by decide +kernel), List.mem_of_getElem? (i := 1273) (by decide +kernel), List.mem_of_getElem? (i := 1274) (by decide +kernel)⟩
theorem lw_p101 : lw_okq (⟨"OlderTaleModel", "needs", "()V"⟩, 43) := ⟨⟨by decide +kernel, by decide +kernel⟩, List.mem_of_getElem? (i := 928) (by decide +kernel), List.mem_of_getElem? (i := 1281) (by decide +kernel), List.mem_of_getElem? (i := 1282) (by decide +kernel)⟩
theorem lw_p102 : lw_okq (⟨"OlderTaleModel", "needOf", "(II)I"⟩, 43) := ⟨⟨by decide +kernel, by decide +kernel⟩, List.mem_of_getElem? (i := 928) (by decide +kernel), List.mem_of_getElem? (i := 1285) (by decide +kernel), List.mem_of_getElem? (i := 1286) (by decide +kernel)⟩
theorem lw_p103 : lw_okq (⟨"OlderTaleModel", "mayNext", "(II)Z"⟩, 43) := ⟨⟨by decide +kernel, by decide +kernel⟩, List.mem_of_getElem? (i := 928) (by decide +kernel), List.mem_of_getElem? (i := 1289) (by decide +kernel), List.mem_of_getElem? (i := 1290) (by decide +kernel)⟩
theorem lw_p104 : lw_okq (⟨"OlderTaleModel", "isTeller", "(I)Z"⟩, 43) := ⟨⟨by decide +kernel, by decide +kernel⟩, List.mem_of_getElem? (i := 928) (by decide +kernel), List.mem_of_getElem? (i := 1303) (by decide +kernel), List.mem_of_getElem? (i := 1304) (by decide +kernel)⟩
theorem lw_p105 : lw_okq (⟨"OlderTaleModel", "toldSet", "()I"⟩, 43) := ⟨⟨by decide +kernel, by decide +kernel⟩, List.mem_of_getElem? (i := 928) (by decide +kernel), List.mem_of_getElem? (i := 1311) (by decide +kernel), List.mem_of_getElem? (i := 1312) (by decide +kernel)⟩
theorem lw_p106 : lw_okq (⟨"OlderTaleModel", "lastYear", "()I"⟩, 43) := ⟨⟨by decide +kernel, by decide +kernel⟩, List.mem_of_getElem? (i := 928) (by decide +kernel), List.mem_of_getElem? (i := 1315) (by decide +kernel), List.mem_of_getElem? (i := 1316) (by decide +kernel)⟩
theorem lw_p107 : lw_okq (⟨"OlderTaleModel", "lastTeller", "()I"⟩, 43) := ⟨⟨by decide +kernel, by decide +kernel⟩, List.mem_of_getElem? (i := 928) (by decide +kernel), List.mem_of_getElem? (i := 1319) (by decide +kernel), List.mem_of_getElem? (i := 1320) (by decide +kernel)⟩
theorem lw_p108 : lw_okq (⟨"OlderTaleModel", "canNext", "(IIIII)Z"⟩, 43) := ⟨⟨by decide +kernel, by decide +kernel⟩, List.mem_of_getElem? (i := 928) (by decide +kernel), List.mem_of_getElem? (i := 1323) (by decide +kernel), List.mem_of_getElem? (i := 1324) (by decide +kernel)⟩
theorem lw_p109 : lw_okq (⟨"OlderTaleModel", "fits", "(II)Z"⟩, 43) := ⟨⟨by decide +kernel, by decide +kernel⟩, List.mem_of_getElem? (i := 928) (by decide +kernel), List.mem_of_getElem? (i := 1327) (by decide +kernel), List.mem_of_getElem? (i := 1328) (by decide +kernel)⟩
theorem lw_p110 : lw_okq (⟨"OlderTaleModel", "yearBehind", "(II)I"⟩, 43) := ⟨⟨by decide +kernel, by decide +kernel⟩, List.mem_of_getElem? (i := 928) (by decide +kernel), List.mem_of_getElem? (i := 1331) (by decide +kernel), List.mem_of_getElem? (i := 1332) (by decide +kernel)⟩
theorem lw_p111 : lw_okq (⟨"OlderTaleModel", "isSet", "(I)Z"⟩, 43) := ⟨⟨by decide +kernel, by decide +kernel⟩, List.mem_of_getElem? (i := 928) (by decide +kernel), List.mem_of_getElem? (i := 1351) (by decide +kernel), List.mem_of_getElem? (i := 1352) (by decide +kernel)⟩
def lw_privs_7 : List (MethodName × Nat) := [(⟨"OlderTaleModel", "bounded", "(JZ)J"⟩, 43), (⟨"OlderTaleModel", "testOf", "(Z)Z"⟩, 43), (⟨"OlderTaleModel", "bothOf", "(Z)Z"⟩, 43), (⟨"OlderTaleModel", "plainOf", "(Z)Z"⟩, 43), (⟨"OlderTaleModel", "positiveOf", "(Z)Z"⟩, 43), (⟨"OlderTaleModel", "needs", "()V"⟩, 43), (⟨"OlderTaleModel", "needOf", "(II)I"⟩, 43), (⟨"OlderTaleModel", "mayNext", "(II)Z"⟩, 43), (⟨"OlderTaleModel", "isTeller", "(I)Z"⟩, 43), (⟨"OlderTaleModel", "toldSet", "()I"⟩, 43), (⟨"OlderTaleModel", "lastYear", "()I"⟩, 43), (⟨"OlderTaleModel", "lastTeller", "()I"⟩, 43), (⟨"OlderTaleModel", "canNext", "(IIIII)Z"⟩, 43), (⟨"OlderTaleModel", "fits", "(II)Z"⟩, 43), (⟨"OlderTaleModel", "yearBehind", "(II)I"⟩, 43), (⟨"OlderTaleModel", "isSet", "(I)Z"⟩, 43)]
theorem lw_r7 : ∀ q ∈ lw_privs_7, lw_okq q := List.forall_mem_cons.mpr ⟨lw_p96, List.forall_mem_cons.mpr ⟨lw_p97, List.forall_mem_cons.mpr ⟨lw_p98, List.forall_mem_cons.mpr ⟨lw_p99, List.forall_mem_cons.mpr ⟨lw_p100, List.forall_mem_cons.mpr ⟨lw_p101, List.forall_mem_cons.mpr ⟨lw_p102, List.forall_mem_cons.mpr ⟨lw_p103, List.forall_mem_cons.mpr ⟨lw_p104, List.forall_mem_cons.mpr ⟨lw_p105, List.forall_mem_cons.mpr ⟨lw_p106, List.forall_mem_cons.mpr ⟨lw_p107, List.forall_mem_cons.mpr ⟨lw_p108, List.forall_mem_cons.mpr ⟨lw_p109, List.forall_mem_cons.mpr ⟨lw_p110, List.forall_mem_cons.mpr ⟨lw_p111, fun _ h => absurd h List.not_mem_nil⟩⟩⟩⟩⟩⟩⟩⟩⟩⟩⟩⟩⟩⟩⟩⟩
theorem lw_p112 : lw_okq (⟨"OlderTaleModel", "goesOn", "(I)Z"⟩, 43) := ⟨⟨by decide +kernel, by decide +kernel⟩, List.mem_of_getElem? (i := 928) (by decide +kernel), List.mem_of_getElem? (i := 1355) (by decide +kernel), List.mem_of_getElem? (i := 1356) (by decide +kernel)⟩
theorem lw_p113 : lw_okq (⟨"OlderTaleModel", "bestSet", "(I)I"⟩, 43) := ⟨⟨by decide +kernel, by decide +kernel⟩, List.mem_of_getElem? (i := 928) (by decide +kernel), List.mem_of_getElem? (i := 1363) (by decide +kernel), List.mem_of_getElem? (i := 1364) (by decide +kernel)⟩
theorem lw_p114 : lw_okq (⟨"OlderTaleModel", "worthOf", "(I)I"⟩, 43) := ⟨⟨by decide +kernel, by decide +kernel⟩, List.mem_of_getElem? (i := 928) (by decide +kernel), List.mem_of_getElem? (i := 1367) (by decide +kernel), List.mem_of_getElem? (i := 1368) (by decide +kernel)⟩
theorem lw_p115 : lw_okq (⟨"OlderTaleModel", "orders0", "(I)V"⟩, 43) := ⟨⟨by decide +kernel, by decide +kernel⟩, List.mem_of_getElem? (i := 928) (by decide +kernel), List.mem_of_getElem? (i := 1375) (by decide +kernel), List.mem_of_getElem? (i := 1376) (by decide +kernel)⟩
theorem lw_p116 : lw_okq (⟨"OlderTaleModel", "nexts", "(II)I"⟩, 43) := ⟨⟨by decide +kernel, by decide +kernel⟩, List.mem_of_getElem? (i := 928) (by decide +kernel), List.mem_of_getElem? (i := 1379) (by decide +kernel), List.mem_of_getElem? (i := 1380) (by decide +kernel)⟩
theorem lw_p117 : lw_okq (⟨"OlderTaleModel", "goOnBy", "(III)I"⟩, 43) := ⟨⟨by decide +kernel, by decide +kernel⟩, List.mem_of_getElem? (i := 928) (by decide +kernel), List.mem_of_getElem? (i := 1383) (by decide +kernel), List.mem_of_getElem? (i := 1384) (by decide +kernel)⟩
theorem lw_p118 : lw_okq (⟨"OlderTaleModel", "leadsOn", "(II)Z"⟩, 43) := ⟨⟨by decide +kernel, by decide +kernel⟩, List.mem_of_getElem? (i := 928) (by decide +kernel), List.mem_of_getElem? (i := 1387) (by decide +kernel), List.mem_of_getElem? (i := 1388) (by decide +kernel)⟩
theorem lw_p119 : lw_okq (⟨"OlderTaleModel", "counts", "(III)V"⟩, 43) := ⟨⟨by decide +kernel, by decide +kernel⟩, List.mem_of_getElem? (i := 928) (by decide +kernel), List.mem_of_getElem? (i := 1395) (by decide +kernel), List.mem_of_getElem? (i := 1396) (by decide +kernel)⟩
theorem lw_p120 : lw_okq (⟨"OlderTaleModel", "wins", "(III)Z"⟩, 43) := ⟨⟨by decide +kernel, by decide +kernel⟩, List.mem_of_getElem? (i := 928) (by decide +kernel), List.mem_of_getElem? (i := 1403) (by decide +kernel), List.mem_of_getElem? (i := 1404) (by decide +kernel)⟩
theorem lw_p121 : lw_okq (⟨"OlderTaleModel", "winters", "(I)V"⟩, 43) := ⟨⟨by decide +kernel, by decide +kernel⟩, List.mem_of_getElem? (i := 928) (by decide +kernel), List.mem_of_getElem? (i := 1411) (by decide +kernel), List.mem_of_getElem? (i := 1412) (by decide +kernel)⟩
theorem lw_p122 : lw_okq (⟨"OlderTaleModel", "isEvening", "(I)Z"⟩, 43) := ⟨⟨by decide +kernel, by decide +kernel⟩, List.mem_of_getElem? (i := 928) (by decide +kernel), List.mem_of_getElem? (i := 1415) (by decide +kernel), List.mem_of_getElem? (i := 1416) (by decide +kernel)⟩
theorem lw_p123 : lw_okq (⟨"OlderTaleModel", "agree", "(I)Z"⟩, 43) := ⟨⟨by decide +kernel, by decide +kernel⟩, List.mem_of_getElem? (i := 928) (by decide +kernel), List.mem_of_getElem? (i := 1435) (by decide +kernel), List.mem_of_getElem? (i := 1436) (by decide +kernel)⟩
theorem lw_p124 : lw_okq (⟨"OlderTaleModel", "wrongBut", "(I)I"⟩, 43) := ⟨⟨by decide +kernel, by decide +kernel⟩, List.mem_of_getElem? (i := 928) (by decide +kernel), List.mem_of_getElem? (i := 1455) (by decide +kernel), List.mem_of_getElem? (i := 1456) (by decide +kernel)⟩
theorem lw_p125 : lw_okq (⟨"OlderTaleModel", "draws", "(I)I"⟩, 43) := ⟨⟨by decide +kernel, by decide +kernel⟩, List.mem_of_getElem? (i := 928) (by decide +kernel), List.mem_of_getElem? (i := 1467) (by decide +kernel), List.mem_of_getElem? (i := 1468) (by decide +kernel)⟩
def lw_privs_8 : List (MethodName × Nat) := [(⟨"OlderTaleModel", "goesOn", "(I)Z"⟩, 43), (⟨"OlderTaleModel", "bestSet", "(I)I"⟩, 43), (⟨"OlderTaleModel", "worthOf", "(I)I"⟩, 43), (⟨"OlderTaleModel", "orders0", "(I)V"⟩, 43), (⟨"OlderTaleModel", "nexts", "(II)I"⟩, 43), (⟨"OlderTaleModel", "goOnBy", "(III)I"⟩, 43), (⟨"OlderTaleModel", "leadsOn", "(II)Z"⟩, 43), (⟨"OlderTaleModel", "counts", "(III)V"⟩, 43), (⟨"OlderTaleModel", "wins", "(III)Z"⟩, 43), (⟨"OlderTaleModel", "winters", "(I)V"⟩, 43), (⟨"OlderTaleModel", "isEvening", "(I)Z"⟩, 43), (⟨"OlderTaleModel", "agree", "(I)Z"⟩, 43), (⟨"OlderTaleModel", "wrongBut", "(I)I"⟩, 43), (⟨"OlderTaleModel", "draws", "(I)I"⟩, 43)]
theorem lw_r8 : ∀ q ∈ lw_privs_8, lw_okq q := List.forall_mem_cons.mpr ⟨lw_p112, List.forall_mem_cons.mpr ⟨lw_p113, List.forall_mem_cons.mpr ⟨lw_p114, List.forall_mem_cons.mpr ⟨lw_p115, List.forall_mem_cons.mpr ⟨lw_p116, List.forall_mem_cons.mpr ⟨lw_p117, List.forall_mem_cons.mpr ⟨lw_p118, List.forall_mem_cons.mpr ⟨lw_p119, List.forall_mem_cons.mpr ⟨lw_p120, List.forall_mem_cons.mpr ⟨lw_p121, List.forall_mem_cons.mpr ⟨lw_p122, List.forall_mem_cons.mpr ⟨lw_p123, List.forall_mem_cons.mpr ⟨lw_p124, List.forall_mem_cons.mpr ⟨lw_p125, fun _ h => absurd h List.not_mem_nil⟩⟩⟩⟩⟩⟩⟩⟩⟩⟩⟩⟩⟩⟩
def lw_privs : List (MethodName × Nat) := lw_privs_1 ++ (lw_privs_2 ++ (lw_privs_3 ++ (lw_privs_4 ++ (lw_privs_5 ++ (lw_privs_6 ++ (lw_privs_7 ++ (lw_privs_8)))))))
def lw_tbl : List Cond := k2_sels lw_privs ++ tables_1
theorem lw_privs_ok : ∀ q ∈ lw_privs, lw_okq q := by
  show ∀ q ∈ lw_privs_1 ++ (lw_privs_2 ++ (lw_privs_3 ++ (lw_privs_4 ++ (lw_privs_5 ++ (lw_privs_6 ++ (lw_privs_7 ++ (lw_privs_8))))))), lw_okq q
  exact List.forall_mem_append.mpr ⟨lw_r1, List.forall_mem_append.mpr ⟨lw_r2, List.forall_mem_append.mpr ⟨lw_r3, List.forall_mem_append.mpr ⟨lw_r4, List.forall_mem_append.mpr ⟨lw_r5, List.forall_mem_append.mpr ⟨lw_r6, List.forall_mem_append.mpr ⟨lw_r7, lw_r8⟩⟩⟩⟩⟩⟩⟩
/-! ===== BEGIN words of one list among another's, by their places ===== -/
theorem goodIn_r {big : List Cond} (ws : List Cond) (ps : List Nat) (hp : ws = ps.filterMap (fun i => big[i]?)) (h : ws.all goodWord = true) : GoodIn big ws := by
  intro w hw
  have h1 := List.all_eq_true.mp h w hw
  rw [hp] at hw
  obtain ⟨i, -, hi⟩ := List.mem_filterMap.mp hw
  have hm : w ∈ big := by first | exact List.mem_of_getElem? hi | exact List.getElem?_mem hi
  exact ⟨hm, good_of_word h1⟩
theorem goodIn_app {big a b : List Cond} (ha : GoodIn big a) (hb : GoodIn big b) : GoodIn big (a ++ b) := fun w h => (List.mem_append.mp h).elim (ha w) (hb w)
theorem goodIn_ca {big a b : List Cond} {c : Cond} (ha : GoodIn big (c :: a)) (hb : GoodIn big b) : GoodIn big (c :: (a ++ b)) := fun w h => (List.mem_cons.mp h).elim (fun e => ha w (List.mem_cons.mpr (Or.inl e))) (fun h => (List.mem_append.mp h).elim (fun h => ha w (List.mem_cons.mpr (Or.inr h))) (hb w))
theorem goodIn_sub {big ws : List Cond} (hm : ∀ w ∈ ws, w ∈ big) (h : ws.all goodWord = true) : GoodIn big ws := fun w hw => ⟨hm w hw, good_of_word (List.all_eq_true.mp h w hw)⟩
/-! ===== END ===== -/

/-! ===== BEGIN new T[n][m]: the outer array a place, the inner ones among the pooled ===== -/
/-- f, but v at every address of l -/
def vr_up {α : Type} (f : Nat → α) (l : List Nat) (v : α) : Nat → α := fun a => if a ∈ l then v else f a
theorem vr_up_in {α : Type} {f : Nat → α} {l : List Nat} {v : α} {a : Nat} (h : a ∈ l) : vr_up f l v a = v := if_pos h
theorem vr_up_ne {α : Type} {f : Nat → α} {l : List Nat} {v : α} {a : Nat} (h : a ∉ l) : vr_up f l v a = f a := if_neg h
theorem vr_rows {L l : List Nat} {f : Nat → va_E} {e : va_E} (h : ∀ a, a ∈ l → a ∉ L) : va_pl L f ++ l.map (fun a => (a, e)) = va_pl (L ++ l) (vr_up f l e) := by
  unfold va_pl
  rw [List.map_append]
  congr 1
  · apply List.map_congr_left
    intro a ha
    rw [vr_up_ne (fun q => h a q ha)]
  · apply List.map_congr_left
    intro a ha
    rw [vr_up_in ha]
theorem vr_lay {X rows : va_W} {x : Nat × va_E} {pl : va_W} {D : va_G} {cl : List vw_C} {H : Heap} (hP : va_P D cl (((X ++ pl) ++ [x]) ++ rows) H) : va_P D cl ((X ++ [x]) ++ (pl ++ rows)) H := by
  rw [List.append_assoc (X ++ pl)] at hP
  have h := va_P.swap hP
  rw [← List.append_assoc X] at h
  have h2 := va_P.swap h
  rw [List.append_assoc (X ++ [x])] at h2
  exact h2
theorem vr_layD {X rows : va_W} {x : Nat × va_E} {pl : va_W} {A : Nat → Prop} (hD : va_D A (((X ++ pl) ++ [x]) ++ rows)) : va_D A ((X ++ [x]) ++ (pl ++ rows)) := by
  rw [List.append_assoc (X ++ pl)] at hD
  have h := va_D.swap hD
  rw [← List.append_assoc X] at h
  have h2 := va_D.swap h
  rw [List.append_assoc (X ++ [x])] at h2
  exact h2
theorem vr_outer (c : ClassId) (N h0 : Nat) : ∀ i : Nat, Jvm.Free.Multi.outerC c N h0 i = arrV c N (fun j => va_rf (if j < i then some (h0 + 1 + j) else none))
  | 0 => by
    show ({ cls := c, slots := Array.replicate N .null, vm := .none } : Cell) = _
    rw [arrV_new]
    refine congrArg (arrV c N) (funext fun j => ?_)
    simp [va_rf]
  | i + 1 => by
    show (Jvm.Free.Multi.outerC c N h0 i).setSlot i (.ref (h0 + 1 + i)) = _
    rw [vr_outer c N h0 i, arrV_store]
    refine congrArg (arrV c N) (funext fun j => ?_)
    by_cases e : j = i
    · subst e
      simp [updV, va_rf]
    · by_cases h : j < i
      · simp [updV, e, h, Nat.lt_succ_of_lt h]
      · simp [updV, e, h, show ¬ j < i + 1 by omega]
/-! ===== END ===== -/

/-! ===== BEGIN printed: names, fields, word lists, decode rows ===== -/
def RX0 : String := "OlderTale$Dates"
def TX0 : u_T := fun k => match k with
  | 0 => ("OlderTale$Dates", "early", "[I", true)
  | 1 => ("OlderTale$Dates", "late", "[I", true)
  | 2 => ("OlderTale$Dates", "leftOut", "I", false)
  | _ => ("OlderTale$Dates", "ways", "I", false)
def tyX0 : Nat → FieldType := fun k => match k with
  | 0 => .array .int
  | 1 => .array .int
  | 2 => .int
  | _ => .int
abbrev wsX00 : List Cond := u_ws RX0 TX0 4
theorem nmX0 : ∀ a, a < 4 → ∀ b, b < 4 → a ≠ b → (TX0 a).2.1 ≠ (TX0 b).2.1 := by decide +kernel
theorem tyX0_ok : ∀ k, k < 4 → parseFieldDescriptor (TX0 k).2.2.1 = some (tyX0 k) := by decide +kernel
abbrev cX0_init : ByteArray := prog_2_method_1_code
def yX0_init : MethodName := ⟨RX0, "<init>", "()V"⟩
abbrev cX0_agree : ByteArray := prog_2_method_2_code
def yX0_agree : MethodName := ⟨RX0, "agree", "(LOlderTale$Table;I)Z"⟩
abbrev cX0_reckonLate : ByteArray := prog_2_method_3_code
def yX0_reckonLate : MethodName := ⟨RX0, "reckonLate", "(LOlderTale$Table;)V"⟩
abbrev cX0_leaveOut : ByteArray := prog_2_method_4_code
def yX0_leaveOut : MethodName := ⟨RX0, "leaveOut", "(LOlderTale$Table;)V"⟩
def RX1 : String := "OlderTale$Judge"
def TX1 : u_T := fun k => match k with
  | 0 => ("OlderTale$Judge", "facts", "[I", true)
  | 1 => ("OlderTale$Judge", "stack", "[I", true)
  | _ => ("OlderTale$Judge", "height", "I", false)
def tyX1 : Nat → FieldType := fun k => match k with
  | 0 => .array .int
  | 1 => .array .int
  | _ => .int
abbrev wsX10 : List Cond := u_ws RX1 TX1 3
theorem nmX1 : ∀ a, a < 3 → ∀ b, b < 3 → a ≠ b → (TX1 a).2.1 ≠ (TX1 b).2.1 := by decide +kernel
theorem tyX1_ok : ∀ k, k < 3 → parseFieldDescriptor (TX1 k).2.2.1 = some (tyX1 k) := by decide +kernel
abbrev cX1_init : ByteArray := prog_3_method_1_code
def yX1_init : MethodName := ⟨RX1, "<init>", "()V"⟩
abbrev cX1_look : ByteArray := prog_3_method_2_code
def yX1_look : MethodName := ⟨RX1, "look", "(LOlderTale$Table;I)V"⟩
abbrev cX1_lastOf : ByteArray := prog_3_method_3_code
def yX1_lastOf : MethodName := ⟨RX1, "lastOf", "(LOlderTale$Law;III)I"⟩
abbrev cX1_isBarred : ByteArray := prog_3_method_4_code
def yX1_isBarred : MethodName := ⟨RX1, "isBarred", "(LOlderTale$Law;I)Z"⟩
abbrev cX1_holds : ByteArray := prog_3_method_5_code
def yX1_holds : MethodName := ⟨RX1, "holds", "(LOlderTale$Law;I)Z"⟩
abbrev cX1_push : ByteArray := prog_3_method_6_code
def yX1_push : MethodName := ⟨RX1, "push", "(I)V"⟩
abbrev cX1_top : ByteArray := prog_3_method_7_code
def yX1_top : MethodName := ⟨RX1, "top", "()I"⟩
abbrev cX1_joins : ByteArray := prog_3_method_8_code
def yX1_joins : MethodName := ⟨RX1, "joins", "(I)Z"⟩
abbrev cX1_joined : ByteArray := prog_3_method_9_code
def yX1_joined : MethodName := ⟨RX1, "joined", "(IJJ)J"⟩
def RX2 : String := "OlderTale$Law"
def TX2 : u_T := fun k => match k with
  | 0 => ("OlderTale$Law", "kinds", "[I", true)
  | 1 => ("OlderTale$Law", "ends", "[I", true)
  | 2 => ("OlderTale$Law", "steps", "[I", true)
  | _ => ("OlderTale$Law", "args", "[I", true)
def tyX2 : Nat → FieldType := fun k => match k with
  | 0 => .array .int
  | 1 => .array .int
  | 2 => .array .int
  | _ => .array .int
abbrev wsX20 : List Cond := u_ws RX2 TX2 4
theorem nmX2 : ∀ a, a < 4 → ∀ b, b < 4 → a ≠ b → (TX2 a).2.1 ≠ (TX2 b).2.1 := by decide +kernel
theorem tyX2_ok : ∀ k, k < 4 → parseFieldDescriptor (TX2 k).2.2.1 = some (tyX2 k) := by decide +kernel
abbrev cX2_init : ByteArray := prog_4_method_1_code
def yX2_init : MethodName := ⟨RX2, "<init>", "([I[I[I[I)V"⟩
abbrev cX2_isOf : ByteArray := prog_4_method_2_code
def yX2_isOf : MethodName := ⟨RX2, "isOf", "(II)Z"⟩
def RX3 : String := "OlderTale$Plan"
def TX3 : u_T := fun k => match k with
  | 0 => ("OlderTale$Plan", "judge", "LOlderTale$Judge;", true)
  | 1 => ("OlderTale$Plan", "from", "[I", true)
  | 2 => ("OlderTale$Plan", "to", "[I", true)
  | 3 => ("OlderTale$Plan", "worth", "[I", true)
  | 4 => ("OlderTale$Plan", "gap", "[I", true)
  | 5 => ("OlderTale$Plan", "able", "[I", true)
  | 6 => ("OlderTale$Plan", "tales", "I", false)
  | 7 => ("OlderTale$Plan", "twice", "Z", false)
  | 8 => ("OlderTale$Plan", "weighed", "Z", false)
  | 9 => ("OlderTale$Plan", "reckoned", "Z", false)
  | 10 => ("OlderTale$Plan", "sums", "[I", true)
  | 11 => ("OlderTale$Plan", "least", "[I", true)
  | 12 => ("OlderTale$Plan", "who", "[I", true)
  | 13 => ("OlderTale$Plan", "other", "[I", true)
  | 14 => ("OlderTale$Plan", "ends", "[I", true)
  | 15 => ("OlderTale$Plan", "chosen", "I", false)
  | 16 => ("OlderTale$Plan", "ways", "I", false)
  | _ => ("OlderTale$Plan", "seasonRows", "I", false)
def tyX3 : Nat → FieldType := fun k => match k with
  | 0 => .object "OlderTale$Judge"
  | 1 => .array .int
  | 2 => .array .int
  | 3 => .array .int
  | 4 => .array .int
  | 5 => .array .int
  | 6 => .int
  | 7 => .boolean
  | 8 => .boolean
  | 9 => .boolean
  | 10 => .array .int
  | 11 => .array .int
  | 12 => .array .int
  | 13 => .array .int
  | 14 => .array .int
  | 15 => .int
  | 16 => .int
  | _ => .int
abbrev wsX30 : List Cond := u_ws RX3 TX3 18
theorem nmX3 : ∀ a, a < 18 → ∀ b, b < 18 → a ≠ b → (TX3 a).2.1 ≠ (TX3 b).2.1 := by decide +kernel
theorem tyX3_ok : ∀ k, k < 18 → parseFieldDescriptor (TX3 k).2.2.1 = some (tyX3 k) := by decide +kernel
abbrev cX3_init : ByteArray := prog_5_method_1_code
def yX3_init : MethodName := ⟨RX3, "<init>", "()V"⟩
abbrev cX3_spoil : ByteArray := prog_5_method_2_code
def yX3_spoil : MethodName := ⟨RX3, "spoil", "()V"⟩
abbrev cX3_weigh : ByteArray := prog_5_method_3_code
def yX3_weigh : MethodName := ⟨RX3, "weigh", "(LOlderTale$Table;)V"⟩
abbrev cX3_reckon : ByteArray := prog_5_method_4_code
def yX3_reckon : MethodName := ⟨RX3, "reckon", "(LOlderTale$Table;)V"⟩
abbrev cX3_reckonSet : ByteArray := prog_5_method_5_code
def yX3_reckonSet : MethodName := ⟨RX3, "reckonSet", "(I)V"⟩
abbrev cX3_yearNeeded : ByteArray := prog_5_method_6_code
def yX3_yearNeeded : MethodName := ⟨RX3, "yearNeeded", "(II)I"⟩
abbrev cX3_yearAhead : ByteArray := prog_5_method_7_code
def yX3_yearAhead : MethodName := ⟨RX3, "yearAhead", "(II)I"⟩
abbrev cX3_fits : ByteArray := prog_5_method_8_code
def yX3_fits : MethodName := ⟨RX3, "fits", "(III)Z"⟩
abbrev cX3_yearOf : ByteArray := prog_5_method_9_code
def yX3_yearOf : MethodName := ⟨RX3, "yearOf", "(II)I"⟩
abbrev cX3_followers : ByteArray := prog_5_method_10_code
def yX3_followers : MethodName := ⟨RX3, "followers", "(II)I"⟩
abbrev cX3_choose : ByteArray := prog_5_method_11_code
def yX3_choose : MethodName := ⟨RX3, "choose", "(LOlderTale$Table;Z)V"⟩
abbrev cX3_lineUp : ByteArray := prog_5_method_12_code
def yX3_lineUp : MethodName := ⟨RX3, "lineUp", "(LOlderTale$Table;ILOlderTale$Triples;)V"⟩
abbrev cX3_firstTale : ByteArray := prog_5_method_13_code
def yX3_firstTale : MethodName := ⟨RX3, "firstTale", "(III)I"⟩
abbrev cX3_leadsOn : ByteArray := prog_5_method_14_code
def yX3_leadsOn : MethodName := ⟨RX3, "leadsOn", "(IIII)Z"⟩
abbrev cX3_nameTellers : ByteArray := prog_5_method_15_code
def yX3_nameTellers : MethodName := ⟨RX3, "nameTellers", "(LOlderTale$Triples;I)V"⟩
abbrev cX3_leaders : ByteArray := prog_5_method_16_code
def yX3_leaders : MethodName := ⟨RX3, "leaders", "(II)I"⟩
abbrev cX3_lowestBit : ByteArray := prog_5_method_17_code
def yX3_lowestBit : MethodName := ⟨RX3, "lowestBit", "(I)I"⟩
abbrev cX3_rows : ByteArray := prog_5_method_18_code
def yX3_rows : MethodName := ⟨RX3, "rows", "(IIII)I"⟩
abbrev cX3_winningTale : ByteArray := prog_5_method_19_code
def yX3_winningTale : MethodName := ⟨RX3, "winningTale", "(IIII)I"⟩
abbrev cX3_firstWrong : ByteArray := prog_5_method_20_code
def yX3_firstWrong : MethodName := ⟨RX3, "firstWrong", "(LOlderTale$Triples;I)I"⟩
abbrev cX3_listChoices : ByteArray := prog_5_method_21_code
def yX3_listChoices : MethodName := ⟨RX3, "listChoices", "(III[I)I"⟩
def RX4 : String := "OlderTale$Reader"
def TX4 : u_T := fun k => match k with
  | 0 => ("OlderTale$Reader", "kinds", "[I", true)
  | 1 => ("OlderTale$Reader", "values", "[I", true)
  | 2 => ("OlderTale$Reader", "places", "[I", true)
  | 3 => ("OlderTale$Reader", "at", "I", false)
  | 4 => ("OlderTale$Reader", "clauseKinds", "[I", true)
  | 5 => ("OlderTale$Reader", "clauseEnds", "[I", true)
  | 6 => ("OlderTale$Reader", "clauses", "I", false)
  | 7 => ("OlderTale$Reader", "steps", "[I", true)
  | 8 => ("OlderTale$Reader", "args", "[I", true)
  | 9 => ("OlderTale$Reader", "length", "I", false)
  | 10 => ("OlderTale$Reader", "parts", "I", false)
  | _ => ("OlderTale$Reader", "faultAt", "I", false)
def tyX4 : Nat → FieldType := fun k => match k with
  | 0 => .array .int
  | 1 => .array .int
  | 2 => .array .int
  | 3 => .int
  | 4 => .array .int
  | 5 => .array .int
  | 6 => .int
  | 7 => .array .int
  | 8 => .array .int
  | 9 => .int
  | 10 => .int
  | _ => .int
abbrev wsX40 : List Cond := u_ws RX4 TX4 12
theorem nmX4 : ∀ a, a < 12 → ∀ b, b < 12 → a ≠ b → (TX4 a).2.1 ≠ (TX4 b).2.1 := by decide +kernel
theorem tyX4_ok : ∀ k, k < 12 → parseFieldDescriptor (TX4 k).2.2.1 = some (tyX4 k) := by decide +kernel
abbrev cX4_init : ByteArray := prog_6_method_1_code
def yX4_init : MethodName := ⟨RX4, "<init>", "()V"⟩
abbrev cX4_read : ByteArray := prog_6_method_2_code
def yX4_read : MethodName := ⟨RX4, "read", "([II)LOlderTale$Law;"⟩
abbrev cX4_split : ByteArray := prog_6_method_3_code
def yX4_split : MethodName := ⟨RX4, "split", "([II)V"⟩
abbrev cX4_isLetter : ByteArray := prog_6_method_4_code
def yX4_isLetter : MethodName := ⟨RX4, "isLetter", "(I)Z"⟩
abbrev cX4_isDigit : ByteArray := prog_6_method_5_code
def yX4_isDigit : MethodName := ⟨RX4, "isDigit", "(I)Z"⟩
abbrev cX4_runEnd : ByteArray := prog_6_method_6_code
def yX4_runEnd : MethodName := ⟨RX4, "runEnd", "([IIIZ)I"⟩
abbrev cX4_valueOf : ByteArray := prog_6_method_7_code
def yX4_valueOf : MethodName := ⟨RX4, "valueOf", "([III)I"⟩
abbrev cX4_wordOf : ByteArray := prog_6_method_8_code
def yX4_wordOf : MethodName := ⟨RX4, "wordOf", "([III)I"⟩
abbrev cX4_isWordAt : ByteArray := prog_6_method_9_code
def yX4_isWordAt : MethodName := ⟨RX4, "isWordAt", "([IIII)Z"⟩
abbrev cX4_next : ByteArray := prog_6_method_10_code
def yX4_next : MethodName := ⟨RX4, "next", "()I"⟩
abbrev cX4_takes : ByteArray := prog_6_method_11_code
def yX4_takes : MethodName := ⟨RX4, "takes", "(I)Z"⟩
abbrev cX4_stop : ByteArray := prog_6_method_12_code
def yX4_stop : MethodName := ⟨RX4, "stop", "()V"⟩
abbrev cX4_step : ByteArray := prog_6_method_13_code
def yX4_step : MethodName := ⟨RX4, "step", "(II)V"⟩
abbrev cX4_land : ByteArray := prog_6_method_14_code
def yX4_land : MethodName := ⟨RX4, "land", "(I)V"⟩
abbrev cX4_clause : ByteArray := prog_6_method_15_code
def yX4_clause : MethodName := ⟨RX4, "clause", "()V"⟩
abbrev cX4_test : ByteArray := prog_6_method_16_code
def yX4_test : MethodName := ⟨RX4, "test", "(I)V"⟩
abbrev cX4_plain : ByteArray := prog_6_method_17_code
def yX4_plain : MethodName := ⟨RX4, "plain", "(I)V"⟩
abbrev cX4_sum : ByteArray := prog_6_method_18_code
def yX4_sum : MethodName := ⟨RX4, "sum", "(I)V"⟩
abbrev cX4_part : ByteArray := prog_6_method_19_code
def yX4_part : MethodName := ⟨RX4, "part", "(I)V"⟩
def RX5 : String := "OlderTale$Season"
def TX5 : u_T := fun k => match k with
  | _ => ("OlderTale$Season", "rows", "[[I", true)
def tyX5 : Nat → FieldType := fun k => match k with
  | _ => .array (.array .int)
abbrev wsX50 : List Cond := u_ws RX5 TX5 1
theorem nmX5 : ∀ a, a < 1 → ∀ b, b < 1 → a ≠ b → (TX5 a).2.1 ≠ (TX5 b).2.1 := by decide +kernel
theorem tyX5_ok : ∀ k, k < 1 → parseFieldDescriptor (TX5 k).2.2.1 = some (tyX5 k) := by decide +kernel
abbrev cX5_init : ByteArray := prog_7_method_1_code
def yX5_init : MethodName := ⟨RX5, "<init>", "()V"⟩
abbrev cX5_lay : ByteArray := prog_7_method_2_code
def yX5_lay : MethodName := ⟨RX5, "lay", "(LOlderTale$Plan;I)V"⟩
abbrev cX5_most : ByteArray := prog_7_method_3_code
def yX5_most : MethodName := ⟨RX5, "most", "(LOlderTale$Plan;II)I"⟩
abbrev cX5_lowest : ByteArray := prog_7_method_4_code
def yX5_lowest : MethodName := ⟨RX5, "lowest", "(LOlderTale$Plan;II)I"⟩
def RX6 : String := "OlderTale$Table"
def TX6 : u_T := fun k => match k with
  | 0 => ("OlderTale$Table", "from", "[I", true)
  | 1 => ("OlderTale$Table", "to", "[I", true)
  | 2 => ("OlderTale$Table", "base", "[I", true)
  | 3 => ("OlderTale$Table", "known", "[I", true)
  | 4 => ("OlderTale$Table", "tales", "I", false)
  | 5 => ("OlderTale$Table", "terms", "[I", true)
  | 6 => ("OlderTale$Table", "laws", "[LOlderTale$Law;", true)
  | 7 => ("OlderTale$Table", "lawCount", "I", false)
  | 8 => ("OlderTale$Table", "inForce", "I", false)
  | 9 => ("OlderTale$Table", "told", "LOlderTale$Triples;", true)
  | 10 => ("OlderTale$Table", "mentions", "LOlderTale$Triples;", true)
  | _ => ("OlderTale$Table", "claims", "LOlderTale$Triples;", true)
def tyX6 : Nat → FieldType := fun k => match k with
  | 0 => .array .int
  | 1 => .array .int
  | 2 => .array .int
  | 3 => .array .int
  | 4 => .int
  | 5 => .array .int
  | 6 => .array (.object "OlderTale$Law")
  | 7 => .int
  | 8 => .int
  | 9 => .object "OlderTale$Triples"
  | 10 => .object "OlderTale$Triples"
  | _ => .object "OlderTale$Triples"
abbrev wsX60 : List Cond := u_ws RX6 TX6 12
theorem nmX6 : ∀ a, a < 12 → ∀ b, b < 12 → a ≠ b → (TX6 a).2.1 ≠ (TX6 b).2.1 := by decide +kernel
theorem tyX6_ok : ∀ k, k < 12 → parseFieldDescriptor (TX6 k).2.2.1 = some (tyX6 k) := by decide +kernel
abbrev cX6_init : ByteArray := prog_8_method_1_code
def yX6_init : MethodName := ⟨RX6, "<init>", "()V"⟩
abbrev cX6_canPut : ByteArray := prog_8_method_2_code
def yX6_canPut : MethodName := ⟨RX6, "canPut", "(II)Z"⟩
abbrev cX6_canBe : ByteArray := prog_8_method_3_code
def yX6_canBe : MethodName := ⟨RX6, "canBe", "(IIII)Z"⟩
abbrev cX6_add : ByteArray := prog_8_method_4_code
def yX6_add : MethodName := ⟨RX6, "add", "(IIII)V"⟩
abbrev cX6_has : ByteArray := prog_8_method_5_code
def yX6_has : MethodName := ⟨RX6, "has", "(I)Z"⟩
abbrev cX6_seats : ByteArray := prog_8_method_6_code
def yX6_seats : MethodName := ⟨RX6, "seats", "(I)Z"⟩
abbrev cX6_column : ByteArray := prog_8_method_7_code
def yX6_column : MethodName := ⟨RX6, "column", "(I)[I"⟩
abbrev cX6_all : ByteArray := prog_8_method_8_code
def yX6_all : MethodName := ⟨RX6, "all", "()I"⟩
abbrev cX6_toldSet : ByteArray := prog_8_method_9_code
def yX6_toldSet : MethodName := ⟨RX6, "toldSet", "()I"⟩
abbrev cX6_untold : ByteArray := prog_8_method_10_code
def yX6_untold : MethodName := ⟨RX6, "untold", "()I"⟩
abbrev cX6_lastYear : ByteArray := prog_8_method_11_code
def yX6_lastYear : MethodName := ⟨RX6, "lastYear", "()I"⟩
abbrev cX6_lastTeller : ByteArray := prog_8_method_12_code
def yX6_lastTeller : MethodName := ⟨RX6, "lastTeller", "()I"⟩
abbrev cX6_lawInForce : ByteArray := prog_8_method_13_code
def yX6_lawInForce : MethodName := ⟨RX6, "lawInForce", "()LOlderTale$Law;"⟩
abbrev cX6_copyFrom : ByteArray := prog_8_method_14_code
def yX6_copyFrom : MethodName := ⟨RX6, "copyFrom", "(LOlderTale$Table;)V"⟩
def RX7 : String := "OlderTale$Triples"
def TX7 : u_T := fun k => match k with
  | 0 => ("OlderTale$Triples", "first", "[I", true)
  | 1 => ("OlderTale$Triples", "second", "[I", true)
  | 2 => ("OlderTale$Triples", "third", "[I", true)
  | _ => ("OlderTale$Triples", "size", "I", false)
def tyX7 : Nat → FieldType := fun k => match k with
  | 0 => .array .int
  | 1 => .array .int
  | 2 => .array .int
  | _ => .int
abbrev wsX70 : List Cond := u_ws RX7 TX7 4
theorem nmX7 : ∀ a, a < 4 → ∀ b, b < 4 → a ≠ b → (TX7 a).2.1 ≠ (TX7 b).2.1 := by decide +kernel
theorem tyX7_ok : ∀ k, k < 4 → parseFieldDescriptor (TX7 k).2.2.1 = some (tyX7 k) := by decide +kernel
abbrev cX7_init : ByteArray := prog_9_method_1_code
def yX7_init : MethodName := ⟨RX7, "<init>", "()V"⟩
abbrev cX7_isFull : ByteArray := prog_9_method_2_code
def yX7_isFull : MethodName := ⟨RX7, "isFull", "()Z"⟩
abbrev cX7_add : ByteArray := prog_9_method_3_code
def yX7_add : MethodName := ⟨RX7, "add", "(III)V"⟩
abbrev cX7_drop : ByteArray := prog_9_method_4_code
def yX7_drop : MethodName := ⟨RX7, "drop", "()I"⟩
abbrev cX7_at : ByteArray := prog_9_method_5_code
def yX7_at : MethodName := ⟨RX7, "at", "(II)I"⟩
abbrev cX7_copyFrom : ByteArray := prog_9_method_6_code
def yX7_copyFrom : MethodName := ⟨RX7, "copyFrom", "(LOlderTale$Triples;)V"⟩
def RX8 : String := "OlderTale"
def TX8 : u_T := fun k => match k with
  | 0 => ("OlderTale", "table", "LOlderTale$Table;", true)
  | 1 => ("OlderTale", "images", "[LOlderTale$Table;", true)
  | 2 => ("OlderTale", "kept", "[Z", true)
  | 3 => ("OlderTale", "tape", "[I", true)
  | 4 => ("OlderTale", "bytes", "I", false)
  | 5 => ("OlderTale", "reader", "LOlderTale$Reader;", true)
  | 6 => ("OlderTale", "faultAt", "I", false)
  | 7 => ("OlderTale", "mumbledLast", "I", false)
  | 8 => ("OlderTale", "plan", "LOlderTale$Plan;", true)
  | 9 => ("OlderTale", "trial", "LOlderTale$Plan;", false)
  | 10 => ("OlderTale", "season", "LOlderTale$Season;", false)
  | 11 => ("OlderTale", "dates", "LOlderTale$Dates;", true)
  | 12 => ("OlderTale", "line", "LOlderTale$Triples;", true)
  | 13 => ("OlderTale", "evening", "LOlderTale$Triples;", true)
  | 14 => ("OlderTale", "choices", "[I", true)
  | 15 => ("OlderTale", "refused", "[I", true)
  | _ => ("OlderTale", "latest", "I", false)
def tyX8 : Nat → FieldType := fun k => match k with
  | 0 => .object "OlderTale$Table"
  | 1 => .array (.object "OlderTale$Table")
  | 2 => .array .boolean
  | 3 => .array .int
  | 4 => .int
  | 5 => .object "OlderTale$Reader"
  | 6 => .int
  | 7 => .int
  | 8 => .object "OlderTale$Plan"
  | 9 => .object "OlderTale$Plan"
  | 10 => .object "OlderTale$Season"
  | 11 => .object "OlderTale$Dates"
  | 12 => .object "OlderTale$Triples"
  | 13 => .object "OlderTale$Triples"
  | 14 => .array .int
  | 15 => .array .int
  | _ => .int
abbrev wsX80 : List Cond := u_ws RX8 TX8 17
theorem nmX8 : ∀ a, a < 17 → ∀ b, b < 17 → a ≠ b → (TX8 a).2.1 ≠ (TX8 b).2.1 := by decide +kernel
theorem tyX8_ok : ∀ k, k < 17 → parseFieldDescriptor (TX8 k).2.2.1 = some (tyX8 k) := by decide +kernel
abbrev cX8_init : ByteArray := prog_1_method_1_code
def yX8_init : MethodName := ⟨RX8, "<init>", "()V"⟩
abbrev cX8_tale : ByteArray := prog_1_method_2_code
def yX8_tale : MethodName := ⟨RX8, "tale", "(IIII)I"⟩
abbrev cX8_put : ByteArray := prog_1_method_3_code
def yX8_put : MethodName := ⟨RX8, "put", "(III)I"⟩
abbrev cX8_of : ByteArray := prog_1_method_4_code
def yX8_of : MethodName := ⟨RX8, "of", "(II)I"⟩
abbrev cX8_can : ByteArray := prog_1_method_5_code
def yX8_can : MethodName := ⟨RX8, "can", "(II)I"⟩
abbrev cX8_terms : ByteArray := prog_1_method_6_code
def yX8_terms : MethodName := ⟨RX8, "terms", "(II)I"⟩
abbrev cX8_feed : ByteArray := prog_1_method_7_code
def yX8_feed : MethodName := ⟨RX8, "feed", "(IIIII)I"⟩
abbrev cX8_end : ByteArray := prog_1_method_8_code
def yX8_end : MethodName := ⟨RX8, "end", "(I)I"⟩
abbrev cX8_row : ByteArray := prog_1_method_9_code
def yX8_row : MethodName := ⟨RX8, "row", "()I"⟩
abbrev cX8_mumbled : ByteArray := prog_1_method_10_code
def yX8_mumbled : MethodName := ⟨RX8, "mumbled", "()I"⟩
abbrev cX8_law : ByteArray := prog_1_method_11_code
def yX8_law : MethodName := ⟨RX8, "law", "()I"⟩
abbrev cX8_fault : ByteArray := prog_1_method_12_code
def yX8_fault : MethodName := ⟨RX8, "fault", "()I"⟩
abbrev cX8_force : ByteArray := prog_1_method_13_code
def yX8_force : MethodName := ⟨RX8, "force", "(I)I"⟩
abbrev cX8_tell : ByteArray := prog_1_method_14_code
def yX8_tell : MethodName := ⟨RX8, "tell", "(II)I"⟩
abbrev cX8_hush : ByteArray := prog_1_method_15_code
def yX8_hush : MethodName := ⟨RX8, "hush", "()I"⟩
abbrev cX8_heard : ByteArray := prog_1_method_16_code
def yX8_heard : MethodName := ⟨RX8, "heard", "(II)I"⟩
abbrev cX8_open : ByteArray := prog_1_method_17_code
def yX8_open : MethodName := ⟨RX8, "open", "()I"⟩
abbrev cX8_goes : ByteArray := prog_1_method_18_code
def yX8_goes : MethodName := ⟨RX8, "goes", "(I)I"⟩
abbrev cX8_best : ByteArray := prog_1_method_19_code
def yX8_best : MethodName := ⟨RX8, "best", "(II)I"⟩
abbrev cX8_order : ByteArray := prog_1_method_20_code
def yX8_order : MethodName := ⟨RX8, "order", "(III)I"⟩
abbrev cX8_orders : ByteArray := prog_1_method_21_code
def yX8_orders : MethodName := ⟨RX8, "orders", "(I)I"⟩
abbrev cX8_duel : ByteArray := prog_1_method_22_code
def yX8_duel : MethodName := ⟨RX8, "duel", "(I)I"⟩
abbrev cX8_winter : ByteArray := prog_1_method_23_code
def yX8_winter : MethodName := ⟨RX8, "winter", "(II)I"⟩
abbrev cX8_learn : ByteArray := prog_1_method_24_code
def yX8_learn : MethodName := ⟨RX8, "learn", "(II)I"⟩
abbrev cX8_mention : ByteArray := prog_1_method_25_code
def yX8_mention : MethodName := ⟨RX8, "mention", "(III)I"⟩
abbrev cX8_forget : ByteArray := prog_1_method_26_code
def yX8_forget : MethodName := ⟨RX8, "forget", "()I"⟩
abbrev cX8_dated : ByteArray := prog_1_method_27_code
def yX8_dated : MethodName := ⟨RX8, "dated", "(II)I"⟩
abbrev cX8_doubt : ByteArray := prog_1_method_28_code
def yX8_doubt : MethodName := ⟨RX8, "doubt", "(I)I"⟩
abbrev cX8_claim : ByteArray := prog_1_method_29_code
def yX8_claim : MethodName := ⟨RX8, "claim", "(III)I"⟩
abbrev cX8_clear : ByteArray := prog_1_method_30_code
def yX8_clear : MethodName := ⟨RX8, "clear", "()I"⟩
abbrev cX8_wrong : ByteArray := prog_1_method_31_code
def yX8_wrong : MethodName := ⟨RX8, "wrong", "()I"⟩
abbrev cX8_liars : ByteArray := prog_1_method_32_code
def yX8_liars : MethodName := ⟨RX8, "liars", "()I"⟩
abbrev cX8_draw : ByteArray := prog_1_method_33_code
def yX8_draw : MethodName := ⟨RX8, "draw", "(I)I"⟩
abbrev cX8_drawn : ByteArray := prog_1_method_34_code
def yX8_drawn : MethodName := ⟨RX8, "drawn", "(II)I"⟩
abbrev cX8_image : ByteArray := prog_1_method_35_code
def yX8_image : MethodName := ⟨RX8, "image", "(I)I"⟩
abbrev cX8_back : ByteArray := prog_1_method_36_code
def yX8_back : MethodName := ⟨RX8, "back", "(I)I"⟩
abbrev cX8_count : ByteArray := prog_1_method_37_code
def yX8_count : MethodName := ⟨RX8, "count", "(I)I"⟩
abbrev cX8_status : ByteArray := prog_1_method_38_code
def yX8_status : MethodName := ⟨RX8, "status", "()I"⟩
abbrev cX8_refuse : ByteArray := prog_1_method_39_code
def yX8_refuse : MethodName := ⟨RX8, "refuse", "(I)I"⟩
abbrev cX8_accept : ByteArray := prog_1_method_40_code
def yX8_accept : MethodName := ⟨RX8, "accept", "(I)I"⟩
abbrev cX8_lay : ByteArray := prog_1_method_41_code
def yX8_lay : MethodName := ⟨RX8, "lay", "(I)V"⟩
abbrev cX8_comesFrom : ByteArray := prog_1_method_42_code
def yX8_comesFrom : MethodName := ⟨RX8, "comesFrom", "(I)Z"⟩
abbrev cX8_worthIfKnown : ByteArray := prog_1_method_43_code
def yX8_worthIfKnown : MethodName := ⟨RX8, "worthIfKnown", "(II)I"⟩
def RX9 : String := "OlderTaleModel"
def TX9 : u_T := fun k => match k with
  | 0 => ("OlderTaleModel", "status", "I", false)
  | 1 => ("OlderTaleModel", "version", "I", false)
  | 2 => ("OlderTaleModel", "refused", "[I", true)
  | 3 => ("OlderTaleModel", "kept", "[I", true)
  | 4 => ("OlderTaleModel", "images", "[I", true)
  | 5 => ("OlderTaleModel", "hasImage", "[Z", true)
  | 6 => ("OlderTaleModel", "mumbled0", "I", false)
  | 7 => ("OlderTaleModel", "words", "[B", true)
  | 8 => ("OlderTaleModel", "tape", "[B", true)
  | 9 => ("OlderTaleModel", "five", "[I", true)
  | 10 => ("OlderTaleModel", "taped", "I", false)
  | 11 => ("OlderTaleModel", "fault", "I", false)
  | 12 => ("OlderTaleModel", "code", "[I", true)
  | 13 => ("OlderTaleModel", "value", "[I", true)
  | 14 => ("OlderTaleModel", "placed", "[I", true)
  | 15 => ("OlderTaleModel", "tokens", "I", false)
  | 16 => ("OlderTaleModel", "token", "I", false)
  | 17 => ("OlderTaleModel", "leaves", "I", false)
  | 18 => ("OlderTaleModel", "bad", "I", false)
  | 19 => ("OlderTaleModel", "go", "I", false)
  | 20 => ("OlderTaleModel", "goEnd", "I", false)
  | 21 => ("OlderTaleModel", "broken", "Z", false)
  | 22 => ("OlderTaleModel", "asked", "[I", true)
  | 23 => ("OlderTaleModel", "toldWorth", "I", false)
  | 24 => ("OlderTaleModel", "toldGap", "I", false)
  | 25 => ("OlderTaleModel", "toldBars", "Z", false)
  | 26 => ("OlderTaleModel", "worths", "[I", true)
  | 27 => ("OlderTaleModel", "gaps", "[I", true)
  | 28 => ("OlderTaleModel", "cans", "[I", true)
  | 29 => ("OlderTaleModel", "laidBy", "I", false)
  | 30 => ("OlderTaleModel", "needed", "[I", true)
  | 31 => ("OlderTaleModel", "bestMany", "I", false)
  | 32 => ("OlderTaleModel", "rowTale", "[I", true)
  | 33 => ("OlderTaleModel", "rowYear", "[I", true)
  | 34 => ("OlderTaleModel", "rowWho", "[I", true)
  | 35 => ("OlderTaleModel", "whoCan", "[I", true)
  | 36 => ("OlderTaleModel", "orderMany", "I", false)
  | 37 => ("OlderTaleModel", "mosts", "[I", true)
  | 38 => ("OlderTaleModel", "earliest", "[I", true)
  | 39 => ("OlderTaleModel", "latest0", "[I", true)
  | 40 => ("OlderTaleModel", "drawnRow", "[I", true)
  | 41 => ("OlderTaleModel", "drawnMany", "I", false)
  | _ => ("OlderTaleModel", "latest", "I", false)
def tyX9 : Nat → FieldType := fun k => match k with
  | 0 => .int
  | 1 => .int
  | 2 => .array .int
  | 3 => .array .int
  | 4 => .array .int
  | 5 => .array .boolean
  | 6 => .int
  | 7 => .array .byte
  | 8 => .array .byte
  | 9 => .array .int
  | 10 => .int
  | 11 => .int
  | 12 => .array .int
  | 13 => .array .int
  | 14 => .array .int
  | 15 => .int
  | 16 => .int
  | 17 => .int
  | 18 => .int
  | 19 => .int
  | 20 => .int
  | 21 => .boolean
  | 22 => .array .int
  | 23 => .int
  | 24 => .int
  | 25 => .boolean
  | 26 => .array .int
  | 27 => .array .int
  | 28 => .array .int
  | 29 => .int
  | 30 => .array .int
  | 31 => .int
  | 32 => .array .int
  | 33 => .array .int
  | 34 => .array .int
  | 35 => .array .int
  | 36 => .int
  | 37 => .array .int
  | 38 => .array .int
  | 39 => .array .int
  | 40 => .array .int
  | 41 => .int
  | _ => .int
abbrev wsX90 : List Cond := u_ws RX9 TX9 43
theorem nmX9 : ∀ a, a < 43 → ∀ b, b < 43 → a ≠ b → (TX9 a).2.1 ≠ (TX9 b).2.1 := by decide +kernel
theorem tyX9_ok : ∀ k, k < 43 → parseFieldDescriptor (TX9 k).2.2.1 = some (tyX9 k) := by decide +kernel
abbrev cX9_lies : ByteArray := prog_11_method_1_code
def yX9_lies : MethodName := ⟨RX9, "lies", "(III)Z"⟩
abbrev cX9_refuses : ByteArray := prog_11_method_2_code
def yX9_refuses : MethodName := ⟨RX9, "refuses", "(I)I"⟩
abbrev cX9_good : ByteArray := prog_11_method_3_code
def yX9_good : MethodName := ⟨RX9, "good", "(I)I"⟩
abbrev cX9_isIn : ByteArray := prog_11_method_4_code
def yX9_isIn : MethodName := ⟨RX9, "isIn", "(II)Z"⟩
abbrev cX9_ones : ByteArray := prog_11_method_5_code
def yX9_ones : MethodName := ⟨RX9, "ones", "(I)I"⟩
abbrev cX9_lesser : ByteArray := prog_11_method_6_code
def yX9_lesser : MethodName := ⟨RX9, "lesser", "(II)I"⟩
abbrev cX9_greater : ByteArray := prog_11_method_7_code
def yX9_greater : MethodName := ⟨RX9, "greater", "(II)I"⟩
abbrev cX9_init : ByteArray := prog_11_method_8_code
def yX9_init : MethodName := ⟨RX9, "<init>", "()V"⟩
abbrev cX9_image : ByteArray := prog_11_method_9_code
def yX9_image : MethodName := ⟨RX9, "image", "(I)I"⟩
abbrev cX9_back : ByteArray := prog_11_method_10_code
def yX9_back : MethodName := ⟨RX9, "back", "(I)I"⟩
abbrev cX9_tales : ByteArray := prog_11_method_11_code
def yX9_tales : MethodName := ⟨RX9, "tales", "()I"⟩
abbrev cX9_isTale : ByteArray := prog_11_method_12_code
def yX9_isTale : MethodName := ⟨RX9, "isTale", "(I)Z"⟩
abbrev cX9_isTeller : ByteArray := prog_11_method_13_code
def yX9_isTeller : MethodName := ⟨RX9, "isTeller", "(I)Z"⟩
abbrev cX9_factOf : ByteArray := prog_11_method_14_code
def yX9_factOf : MethodName := ⟨RX9, "factOf", "(II)I"⟩
abbrev cX9_canBe : ByteArray := prog_11_method_15_code
def yX9_canBe : MethodName := ⟨RX9, "canBe", "(IIII)Z"⟩
abbrev cX9_adds : ByteArray := prog_11_method_16_code
def yX9_adds : MethodName := ⟨RX9, "adds", "(IIII)I"⟩
abbrev cX9_tale : ByteArray := prog_11_method_17_code
def yX9_tale : MethodName := ⟨RX9, "tale", "(IIII)I"⟩
abbrev cX9_put : ByteArray := prog_11_method_18_code
def yX9_put : MethodName := ⟨RX9, "put", "(III)I"⟩
abbrev cX9_terms : ByteArray := prog_11_method_19_code
def yX9_terms : MethodName := ⟨RX9, "terms", "(II)I"⟩
abbrev cX9_pair : ByteArray := prog_11_method_20_code
def yX9_pair : MethodName := ⟨RX9, "pair", "(I)I"⟩
abbrev cX9_row : ByteArray := prog_11_method_21_code
def yX9_row : MethodName := ⟨RX9, "row", "()I"⟩
abbrev cX9_mumbled : ByteArray := prog_11_method_22_code
def yX9_mumbled : MethodName := ⟨RX9, "mumbled", "()I"⟩
abbrev cX9_feed : ByteArray := prog_11_method_23_code
def yX9_feed : MethodName := ⟨RX9, "feed", "(IIIII)I"⟩
abbrev cX9_end : ByteArray := prog_11_method_24_code
def yX9_end : MethodName := ⟨RX9, "end", "(I)I"⟩
abbrev cX9_isSmall : ByteArray := prog_11_method_25_code
def yX9_isSmall : MethodName := ⟨RX9, "isSmall", "(I)Z"⟩
abbrev cX9_isDigit : ByteArray := prog_11_method_26_code
def yX9_isDigit : MethodName := ⟨RX9, "isDigit", "(I)Z"⟩
abbrev cX9_wordOf : ByteArray := prog_11_method_27_code
def yX9_wordOf : MethodName := ⟨RX9, "wordOf", "(II)I"⟩
abbrev cX9_splits : ByteArray := prog_11_method_28_code
def yX9_splits : MethodName := ⟨RX9, "splits", "(I)V"⟩
abbrev cX9_fine : ByteArray := prog_11_method_29_code
def yX9_fine : MethodName := ⟨RX9, "fine", "()Z"⟩
abbrev cX9_faults : ByteArray := prog_11_method_30_code
def yX9_faults : MethodName := ⟨RX9, "faults", "()V"⟩
abbrev cX9_takes0 : ByteArray := prog_11_method_31_code
def yX9_takes0 : MethodName := ⟨RX9, "takes0", "(I)Z"⟩
abbrev cX9_must : ByteArray := prog_11_method_32_code
def yX9_must : MethodName := ⟨RX9, "must", "(I)V"⟩
abbrev cX9_leaf : ByteArray := prog_11_method_33_code
def yX9_leaf : MethodName := ⟨RX9, "leaf", "()V"⟩
abbrev cX9_sign : ByteArray := prog_11_method_34_code
def yX9_sign : MethodName := ⟨RX9, "sign", "(C)I"⟩
abbrev cX9_readClause : ByteArray := prog_11_method_35_code
def yX9_readClause : MethodName := ⟨RX9, "readClause", "()V"⟩
abbrev cX9_readTest : ByteArray := prog_11_method_36_code
def yX9_readTest : MethodName := ⟨RX9, "readTest", "(I)V"⟩
abbrev cX9_readBoth : ByteArray := prog_11_method_37_code
def yX9_readBoth : MethodName := ⟨RX9, "readBoth", "(I)V"⟩
abbrev cX9_readPlain : ByteArray := prog_11_method_38_code
def yX9_readPlain : MethodName := ⟨RX9, "readPlain", "(I)V"⟩
abbrev cX9_readSum : ByteArray := prog_11_method_39_code
def yX9_readSum : MethodName := ⟨RX9, "readSum", "(I)V"⟩
abbrev cX9_readTerm : ByteArray := prog_11_method_40_code
def yX9_readTerm : MethodName := ⟨RX9, "readTerm", "(I)V"⟩
abbrev cX9_readPart : ByteArray := prog_11_method_41_code
def yX9_readPart : MethodName := ⟨RX9, "readPart", "(I)V"⟩
abbrev cX9_reads : ByteArray := prog_11_method_42_code
def yX9_reads : MethodName := ⟨RX9, "reads", "()Z"⟩
abbrev cX9_law : ByteArray := prog_11_method_43_code
def yX9_law : MethodName := ⟨RX9, "law", "()I"⟩
abbrev cX9_fault : ByteArray := prog_11_method_44_code
def yX9_fault : MethodName := ⟨RX9, "fault", "()I"⟩
abbrev cX9_force : ByteArray := prog_11_method_45_code
def yX9_force : MethodName := ⟨RX9, "force", "(I)I"⟩
abbrev cX9_codeAt : ByteArray := prog_11_method_46_code
def yX9_codeAt : MethodName := ⟨RX9, "codeAt", "(I)I"⟩
abbrev cX9_passes0 : ByteArray := prog_11_method_47_code
def yX9_passes0 : MethodName := ⟨RX9, "passes0", "(I)Z"⟩
abbrev cX9_bounded : ByteArray := prog_11_method_48_code
def yX9_bounded : MethodName := ⟨RX9, "bounded", "(JZ)J"⟩
abbrev cX9_sumOf : ByteArray := prog_11_method_49_code
def yX9_sumOf : MethodName := ⟨RX9, "sumOf", "(Z)J"⟩
abbrev cX9_termOf : ByteArray := prog_11_method_50_code
def yX9_termOf : MethodName := ⟨RX9, "termOf", "(Z)J"⟩
abbrev cX9_partOf : ByteArray := prog_11_method_51_code
def yX9_partOf : MethodName := ⟨RX9, "partOf", "(Z)J"⟩
abbrev cX9_testOf : ByteArray := prog_11_method_52_code
def yX9_testOf : MethodName := ⟨RX9, "testOf", "(Z)Z"⟩
abbrev cX9_bothOf : ByteArray := prog_11_method_53_code
def yX9_bothOf : MethodName := ⟨RX9, "bothOf", "(Z)Z"⟩
abbrev cX9_plainOf : ByteArray := prog_11_method_54_code
def yX9_plainOf : MethodName := ⟨RX9, "plainOf", "(Z)Z"⟩
abbrev cX9_positiveOf : ByteArray := prog_11_method_55_code
def yX9_positiveOf : MethodName := ⟨RX9, "positiveOf", "(Z)Z"⟩
abbrev cX9_asksOf : ByteArray := prog_11_method_56_code
def yX9_asksOf : MethodName := ⟨RX9, "asksOf", "(II)V"⟩
abbrev cX9_lays : ByteArray := prog_11_method_57_code
def yX9_lays : MethodName := ⟨RX9, "lays", "()V"⟩
abbrev cX9_looks : ByteArray := prog_11_method_58_code
def yX9_looks : MethodName := ⟨RX9, "looks", "()V"⟩
abbrev cX9_of : ByteArray := prog_11_method_59_code
def yX9_of : MethodName := ⟨RX9, "of", "(II)I"⟩
abbrev cX9_can : ByteArray := prog_11_method_60_code
def yX9_can : MethodName := ⟨RX9, "can", "(II)I"⟩
abbrev cX9_mayNext : ByteArray := prog_11_method_61_code
def yX9_mayNext : MethodName := ⟨RX9, "mayNext", "(II)Z"⟩
abbrev cX9_needs : ByteArray := prog_11_method_62_code
def yX9_needs : MethodName := ⟨RX9, "needs", "()V"⟩
abbrev cX9_needOf : ByteArray := prog_11_method_63_code
def yX9_needOf : MethodName := ⟨RX9, "needOf", "(II)I"⟩
abbrev cX9_toldSet : ByteArray := prog_11_method_64_code
def yX9_toldSet : MethodName := ⟨RX9, "toldSet", "()I"⟩
abbrev cX9_lastYear : ByteArray := prog_11_method_65_code
def yX9_lastYear : MethodName := ⟨RX9, "lastYear", "()I"⟩
abbrev cX9_lastTeller : ByteArray := prog_11_method_66_code
def yX9_lastTeller : MethodName := ⟨RX9, "lastTeller", "()I"⟩
abbrev cX9_yearBehind : ByteArray := prog_11_method_67_code
def yX9_yearBehind : MethodName := ⟨RX9, "yearBehind", "(II)I"⟩
abbrev cX9_fits : ByteArray := prog_11_method_68_code
def yX9_fits : MethodName := ⟨RX9, "fits", "(II)Z"⟩
abbrev cX9_canNext : ByteArray := prog_11_method_69_code
def yX9_canNext : MethodName := ⟨RX9, "canNext", "(IIIII)Z"⟩
abbrev cX9_tell : ByteArray := prog_11_method_70_code
def yX9_tell : MethodName := ⟨RX9, "tell", "(II)I"⟩
abbrev cX9_hush : ByteArray := prog_11_method_71_code
def yX9_hush : MethodName := ⟨RX9, "hush", "()I"⟩
abbrev cX9_heard : ByteArray := prog_11_method_72_code
def yX9_heard : MethodName := ⟨RX9, "heard", "(II)I"⟩
abbrev cX9_open : ByteArray := prog_11_method_73_code
def yX9_open : MethodName := ⟨RX9, "open", "()I"⟩
abbrev cX9_isSet : ByteArray := prog_11_method_74_code
def yX9_isSet : MethodName := ⟨RX9, "isSet", "(I)Z"⟩
abbrev cX9_goesOn : ByteArray := prog_11_method_75_code
def yX9_goesOn : MethodName := ⟨RX9, "goesOn", "(I)Z"⟩
abbrev cX9_goes : ByteArray := prog_11_method_76_code
def yX9_goes : MethodName := ⟨RX9, "goes", "(I)I"⟩
abbrev cX9_worthOf : ByteArray := prog_11_method_77_code
def yX9_worthOf : MethodName := ⟨RX9, "worthOf", "(I)I"⟩
abbrev cX9_bestSet : ByteArray := prog_11_method_78_code
def yX9_bestSet : MethodName := ⟨RX9, "bestSet", "(I)I"⟩
abbrev cX9_best : ByteArray := prog_11_method_79_code
def yX9_best : MethodName := ⟨RX9, "best", "(II)I"⟩
abbrev cX9_nexts : ByteArray := prog_11_method_80_code
def yX9_nexts : MethodName := ⟨RX9, "nexts", "(II)I"⟩
abbrev cX9_orders0 : ByteArray := prog_11_method_81_code
def yX9_orders0 : MethodName := ⟨RX9, "orders0", "(I)V"⟩
abbrev cX9_leadsOn : ByteArray := prog_11_method_82_code
def yX9_leadsOn : MethodName := ⟨RX9, "leadsOn", "(II)Z"⟩
abbrev cX9_goOnBy : ByteArray := prog_11_method_83_code
def yX9_goOnBy : MethodName := ⟨RX9, "goOnBy", "(III)I"⟩
abbrev cX9_order : ByteArray := prog_11_method_84_code
def yX9_order : MethodName := ⟨RX9, "order", "(III)I"⟩
abbrev cX9_counts : ByteArray := prog_11_method_85_code
def yX9_counts : MethodName := ⟨RX9, "counts", "(III)V"⟩
abbrev cX9_orders : ByteArray := prog_11_method_86_code
def yX9_orders : MethodName := ⟨RX9, "orders", "(I)I"⟩
abbrev cX9_wins : ByteArray := prog_11_method_87_code
def yX9_wins : MethodName := ⟨RX9, "wins", "(III)Z"⟩
abbrev cX9_duel : ByteArray := prog_11_method_88_code
def yX9_duel : MethodName := ⟨RX9, "duel", "(I)I"⟩
abbrev cX9_isEvening : ByteArray := prog_11_method_89_code
def yX9_isEvening : MethodName := ⟨RX9, "isEvening", "(I)Z"⟩
abbrev cX9_winters : ByteArray := prog_11_method_90_code
def yX9_winters : MethodName := ⟨RX9, "winters", "(I)V"⟩
abbrev cX9_winter : ByteArray := prog_11_method_91_code
def yX9_winter : MethodName := ⟨RX9, "winter", "(II)I"⟩
abbrev cX9_learn : ByteArray := prog_11_method_92_code
def yX9_learn : MethodName := ⟨RX9, "learn", "(II)I"⟩
abbrev cX9_mention : ByteArray := prog_11_method_93_code
def yX9_mention : MethodName := ⟨RX9, "mention", "(III)I"⟩
abbrev cX9_forget : ByteArray := prog_11_method_94_code
def yX9_forget : MethodName := ⟨RX9, "forget", "()I"⟩
abbrev cX9_agree : ByteArray := prog_11_method_95_code
def yX9_agree : MethodName := ⟨RX9, "agree", "(I)Z"⟩
abbrev cX9_dated : ByteArray := prog_11_method_96_code
def yX9_dated : MethodName := ⟨RX9, "dated", "(II)I"⟩
abbrev cX9_doubt : ByteArray := prog_11_method_97_code
def yX9_doubt : MethodName := ⟨RX9, "doubt", "(I)I"⟩
abbrev cX9_claim : ByteArray := prog_11_method_98_code
def yX9_claim : MethodName := ⟨RX9, "claim", "(III)I"⟩
abbrev cX9_clear : ByteArray := prog_11_method_99_code
def yX9_clear : MethodName := ⟨RX9, "clear", "()I"⟩
abbrev cX9_wrongBut : ByteArray := prog_11_method_100_code
def yX9_wrongBut : MethodName := ⟨RX9, "wrongBut", "(I)I"⟩
abbrev cX9_wrong : ByteArray := prog_11_method_101_code
def yX9_wrong : MethodName := ⟨RX9, "wrong", "()I"⟩
abbrev cX9_liars : ByteArray := prog_11_method_102_code
def yX9_liars : MethodName := ⟨RX9, "liars", "()I"⟩
abbrev cX9_draws : ByteArray := prog_11_method_103_code
def yX9_draws : MethodName := ⟨RX9, "draws", "(I)I"⟩
abbrev cX9_draw : ByteArray := prog_11_method_104_code
def yX9_draw : MethodName := ⟨RX9, "draw", "(I)I"⟩
abbrev cX9_drawn : ByteArray := prog_11_method_105_code
def yX9_drawn : MethodName := ⟨RX9, "drawn", "(II)I"⟩
abbrev cX9_count : ByteArray := prog_11_method_106_code
def yX9_count : MethodName := ⟨RX9, "count", "(I)I"⟩
abbrev cX9_status : ByteArray := prog_11_method_107_code
def yX9_status : MethodName := ⟨RX9, "status", "()I"⟩
def RJx145de : String := "java/io/Serializable"
def TJx145de : u_T := fun k => match k with
  | _ => ("", "", "", false)
def tyJx145de : Nat → FieldType := fun k => match k with
  | _ => .int
abbrev wsJx145de0 : List Cond := u_ws RJx145de TJx145de 0
theorem nmJx145de : ∀ a, a < 0 → ∀ b, b < 0 → a ≠ b → (TJx145de a).2.1 ≠ (TJx145de b).2.1 := by decide +kernel
theorem tyJx145de_ok : ∀ k, k < 0 → parseFieldDescriptor (TJx145de k).2.2.1 = some (tyJx145de k) := by decide +kernel
def RJx9f9b0 : String := "java/lang/CharSequence"
def TJx9f9b0 : u_T := fun k => match k with
  | _ => ("", "", "", false)
def tyJx9f9b0 : Nat → FieldType := fun k => match k with
  | _ => .int
abbrev wsJx9f9b00 : List Cond := u_ws RJx9f9b0 TJx9f9b0 0
theorem nmJx9f9b0 : ∀ a, a < 0 → ∀ b, b < 0 → a ≠ b → (TJx9f9b0 a).2.1 ≠ (TJx9f9b0 b).2.1 := by decide +kernel
theorem tyJx9f9b0_ok : ∀ k, k < 0 → parseFieldDescriptor (TJx9f9b0 k).2.2.1 = some (tyJx9f9b0 k) := by decide +kernel
def RJx8e188 : String := "java/lang/Cloneable"
def TJx8e188 : u_T := fun k => match k with
  | _ => ("", "", "", false)
def tyJx8e188 : Nat → FieldType := fun k => match k with
  | _ => .int
abbrev wsJx8e1880 : List Cond := u_ws RJx8e188 TJx8e188 0
theorem nmJx8e188 : ∀ a, a < 0 → ∀ b, b < 0 → a ≠ b → (TJx8e188 a).2.1 ≠ (TJx8e188 b).2.1 := by decide +kernel
theorem tyJx8e188_ok : ∀ k, k < 0 → parseFieldDescriptor (TJx8e188 k).2.2.1 = some (tyJx8e188 k) := by decide +kernel
def RJxb160c : String := "java/lang/Comparable"
def TJxb160c : u_T := fun k => match k with
  | _ => ("", "", "", false)
def tyJxb160c : Nat → FieldType := fun k => match k with
  | _ => .int
abbrev wsJxb160c0 : List Cond := u_ws RJxb160c TJxb160c 0
theorem nmJxb160c : ∀ a, a < 0 → ∀ b, b < 0 → a ≠ b → (TJxb160c a).2.1 ≠ (TJxb160c b).2.1 := by decide +kernel
theorem tyJxb160c_ok : ∀ k, k < 0 → parseFieldDescriptor (TJxb160c k).2.2.1 = some (tyJxb160c k) := by decide +kernel
def RJ6 : String := "java/lang/Integer"
def TJ6 : u_T := fun k => match k with
  | _ => ("", "", "", false)
def tyJ6 : Nat → FieldType := fun k => match k with
  | _ => .int
abbrev wsJ60 : List Cond := u_ws RJ6 TJ6 0
theorem nmJ6 : ∀ a, a < 0 → ∀ b, b < 0 → a ≠ b → (TJ6 a).2.1 ≠ (TJ6 b).2.1 := by decide +kernel
theorem tyJ6_ok : ∀ k, k < 0 → parseFieldDescriptor (TJ6 k).2.2.1 = some (tyJ6 k) := by decide +kernel
abbrev cJ6_bitCount_0f7a4 : ByteArray := prog_13_method_49_code
def yJ6_bitCount_0f7a4 : MethodName := ⟨RJ6, "bitCount", "(I)I"⟩
def RJ9 : String := "java/lang/Math"
def TJ9 : u_T := fun k => match k with
  | _ => ("", "", "", false)
def tyJ9 : Nat → FieldType := fun k => match k with
  | _ => .int
abbrev wsJ90 : List Cond := u_ws RJ9 TJ9 0
theorem nmJ9 : ∀ a, a < 0 → ∀ b, b < 0 → a ≠ b → (TJ9 a).2.1 ≠ (TJ9 b).2.1 := by decide +kernel
theorem tyJ9_ok : ∀ k, k < 0 → parseFieldDescriptor (TJ9 k).2.2.1 = some (tyJ9 k) := by decide +kernel
abbrev cJ9_max_7cf53 : ByteArray := prog_14_method_65_code
def yJ9_max_7cf53 : MethodName := ⟨RJ9, "max", "(II)I"⟩
abbrev cJ9_min_7cf53 : ByteArray := prog_14_method_69_code
def yJ9_min_7cf53 : MethodName := ⟨RJ9, "min", "(II)I"⟩
def RJ0 : String := "java/lang/String"
def TJ0 : u_T := fun k => match k with
  | _ => ("", "", "", false)
def tyJ0 : Nat → FieldType := fun k => match k with
  | _ => .int
abbrev wsJ00 : List Cond := u_ws RJ0 TJ0 0
theorem nmJ0 : ∀ a, a < 0 → ∀ b, b < 0 → a ≠ b → (TJ0 a).2.1 ≠ (TJ0 b).2.1 := by decide +kernel
theorem tyJ0_ok : ∀ k, k < 0 → parseFieldDescriptor (TJ0 k).2.2.1 = some (tyJ0 k) := by decide +kernel
abbrev cJ0_length_8abf5 : ByteArray := prog_15_method_54_code
def yJ0_length_8abf5 : MethodName := ⟨RJ0, "length", "()I"⟩
abbrev cJ0_charAt_5068e : ByteArray := prog_15_method_56_code
def yJ0_charAt_5068e : MethodName := ⟨RJ0, "charAt", "(I)C"⟩
abbrev cJ0_coder_7d493 : ByteArray := prog_15_method_152_code
def yJ0_coder_7d493 : MethodName := ⟨RJ0, "coder", "()B"⟩
abbrev cJ0_isLatin1_aae02 : ByteArray := prog_15_method_154_code
def yJ0_isLatin1_aae02 : MethodName := ⟨RJ0, "isLatin1", "()Z"⟩
abbrev cJ0_checkIndex_df160 : ByteArray := prog_15_method_155_code
def yJ0_checkIndex_df160 : MethodName := ⟨RJ0, "checkIndex", "(II)V"⟩
def RJ1 : String := "java/lang/StringLatin1"
def TJ1 : u_T := fun k => match k with
  | _ => ("", "", "", false)
def tyJ1 : Nat → FieldType := fun k => match k with
  | _ => .int
abbrev wsJ10 : List Cond := u_ws RJ1 TJ1 0
theorem nmJ1 : ∀ a, a < 0 → ∀ b, b < 0 → a ≠ b → (TJ1 a).2.1 ≠ (TJ1 b).2.1 := by decide +kernel
theorem tyJ1_ok : ∀ k, k < 0 → parseFieldDescriptor (TJ1 k).2.2.1 = some (tyJ1 k) := by decide +kernel
abbrev cJ1_charAt_3b067 : ByteArray := prog_16_method_2_code
def yJ1_charAt_3b067 : MethodName := ⟨RJ1, "charAt", "([BI)C"⟩
def RJ2 : String := "java/lang/StringUTF16"
def TJ2 : u_T := fun k => match k with
  | _ => ("", "", "", false)
def tyJ2 : Nat → FieldType := fun k => match k with
  | _ => .int
abbrev wsJ20 : List Cond := u_ws RJ2 TJ2 0
theorem nmJ2 : ∀ a, a < 0 → ∀ b, b < 0 → a ≠ b → (TJ2 a).2.1 ≠ (TJ2 b).2.1 := by decide +kernel
theorem tyJ2_ok : ∀ k, k < 0 → parseFieldDescriptor (TJ2 k).2.2.1 = some (tyJ2 k) := by decide +kernel
abbrev cJ2_getChar_3b067 : ByteArray := prog_17_method_5_code
def yJ2_getChar_3b067 : MethodName := ⟨RJ2, "getChar", "([BI)C"⟩
abbrev cJ2_length_9d52b : ByteArray := prog_17_method_6_code
def yJ2_length_9d52b : MethodName := ⟨RJ2, "length", "([B)I"⟩
abbrev cJ2_charAt_3b067 : ByteArray := prog_17_method_83_code
def yJ2_charAt_3b067 : MethodName := ⟨RJ2, "charAt", "([BI)C"⟩
abbrev cJ2_checkIndex_2214a : ByteArray := prog_17_method_91_code
def yJ2_checkIndex_2214a : MethodName := ⟨RJ2, "checkIndex", "(I[B)V"⟩
def RJ10 : String := "java/lang/System"
def TJ10 : u_T := fun k => match k with
  | _ => ("", "", "", false)
def tyJ10 : Nat → FieldType := fun k => match k with
  | _ => .int
abbrev wsJ100 : List Cond := u_ws RJ10 TJ10 0
theorem nmJ10 : ∀ a, a < 0 → ∀ b, b < 0 → a ≠ b → (TJ10 a).2.1 ≠ (TJ10 b).2.1 := by decide +kernel
theorem tyJ10_ok : ∀ k, k < 0 → parseFieldDescriptor (TJ10 k).2.2.1 = some (tyJ10 k) := by decide +kernel
def RJxfd54e : String := "java/lang/constant/Constable"
def TJxfd54e : u_T := fun k => match k with
  | _ => ("", "", "", false)
def tyJxfd54e : Nat → FieldType := fun k => match k with
  | _ => .int
abbrev wsJxfd54e0 : List Cond := u_ws RJxfd54e TJxfd54e 0
theorem nmJxfd54e : ∀ a, a < 0 → ∀ b, b < 0 → a ≠ b → (TJxfd54e a).2.1 ≠ (TJxfd54e b).2.1 := by decide +kernel
theorem tyJxfd54e_ok : ∀ k, k < 0 → parseFieldDescriptor (TJxfd54e k).2.2.1 = some (tyJxfd54e k) := by decide +kernel
def RJx3cf43 : String := "java/lang/constant/ConstantDesc"
def TJx3cf43 : u_T := fun k => match k with
  | _ => ("", "", "", false)
def tyJx3cf43 : Nat → FieldType := fun k => match k with
  | _ => .int
abbrev wsJx3cf430 : List Cond := u_ws RJx3cf43 TJx3cf43 0
theorem nmJx3cf43 : ∀ a, a < 0 → ∀ b, b < 0 → a ≠ b → (TJx3cf43 a).2.1 ≠ (TJx3cf43 b).2.1 := by decide +kernel
theorem tyJx3cf43_ok : ∀ k, k < 0 → parseFieldDescriptor (TJx3cf43 k).2.2.1 = some (tyJx3cf43 k) := by decide +kernel
def RJ7 : String := "java/util/Arrays"
def TJ7 : u_T := fun k => match k with
  | _ => ("", "", "", false)
def tyJ7 : Nat → FieldType := fun k => match k with
  | _ => .int
abbrev wsJ70 : List Cond := u_ws RJ7 TJ7 0
theorem nmJ7 : ∀ a, a < 0 → ∀ b, b < 0 → a ≠ b → (TJ7 a).2.1 ≠ (TJ7 b).2.1 := by decide +kernel
theorem tyJ7_ok : ∀ k, k < 0 → parseFieldDescriptor (TJ7 k).2.2.1 = some (tyJ7 k) := by decide +kernel
abbrev cJ7_copyOf_59c91 : ByteArray := prog_19_method_123_code
def yJ7_copyOf_59c91 : MethodName := ⟨RJ7, "copyOf", "([II)[I"⟩
def RJ3 : String := "jdk/internal/util/Preconditions"
def TJ3 : u_T := fun k => match k with
  | _ => ("", "", "", false)
def tyJ3 : Nat → FieldType := fun k => match k with
  | _ => .int
abbrev wsJ30 : List Cond := u_ws RJ3 TJ3 0
theorem nmJ3 : ∀ a, a < 0 → ∀ b, b < 0 → a ≠ b → (TJ3 a).2.1 ≠ (TJ3 b).2.1 := by decide +kernel
theorem tyJ3_ok : ∀ k, k < 0 → parseFieldDescriptor (TJ3 k).2.2.1 = some (tyJ3 k) := by decide +kernel
abbrev cJ3_checkIndex_8e157 : ByteArray := prog_20_method_11_code
def yJ3_checkIndex_8e157 : MethodName := ⟨RJ3, "checkIndex", "(IILjava/util/function/BiFunction;)I"⟩
def RL : String := "OlderTaleLaw"
abbrev cL_law : ByteArray := code
def yL_law : MethodName := ⟨RL, "law", "([I)Z"⟩
abbrev vwCl : List vw_C := [(RX0, TX0, 4), (RX1, TX1, 3), (RX2, TX2, 4), (RX3, TX3, 18), (RX4, TX4, 12), (RX5, TX5, 1), (RX6, TX6, 12), (RX7, TX7, 4), (RX8, TX8, 17), (RX9, TX9, 43)]
