/-! ===== the cases of the law ===== -/
theorem g_fault {p : Program} {l : Launch} {e : Env} {s : State} {m : MethodId} {args : Array Value} {below : List Frame} {meth : Method} {c : Code} {H : Heap} {locs : List Loc} {cells slots : Nat} {Q0 : State → Prop} {D : va_G} {cy : Nat → ClassId} {A : Nat → Prop} {ls : Array Slot} {b L i v ox om : Nat} {xs : Nat → Int32} {w : va_W} (hc : cX p m meth c s args D cy A RL code 4 ret) (hX : va_X b L xs s s.heap) (hbl : b < s.heap.size) (hbA : ¬ A b) (hL : L ≤ 3072) (hl : lv_has ls 4 [(3, .int (nI i)), (2, .ref om), (1, .ref ox), (0, .ref b)]) (hi : i + 6 ≤ L) (hw : wV D A s.heap w H locs) (hR : Rel cy ox om v w) (hv : v < 1000) (hcs : cells + 14 ≤ 600000 ∧ slots + 4239 ≤ 7302250) (kk : ∀ (H1 : Heap) (locs1 : List Loc) (w' : va_W), wV D A s.heap w' H1 locs1 → Rel cy ox om (v + 1) w' → W p l e room_1 s m args below meth c H1 locs1 (cells + 14) (slots + 4239) Q0 (F0 m 1187 ls [])) : W p l e room_1 s m args below meth c H locs cells slots Q0 (F0 m 516 ls []) := by
  have hx := hc.1.1
  have hb := hc.1.2.1
  refine lv_aload_n hx hb dL_law_516 rfl (lv_at hl 2 rfl) ?_
  refine cllC (As := []) hc hw (o_fault hR (nodup_ix.mp hw.2.1).1 hv) lk_L_59 rfl (by decide) hl.1 hcs rfl rfl dL_law_517 (fun r aM S wr' Q1 H1 locs1 e1 hw1 hP hQ => ?_)
  subst e1
  refine lv_aload_n hx hb dL_law_520 rfl (lv_at hl 1 rfl) ?_
  refine cllM (As := []) hc hw1 (c_M_fault hP) (fun r' u h => ⟨S, rfl, h⟩) lk_L_62 rfl (by decide) (by decide) hl.1 hcs rfl rfl dL_law_521 (fun r' S' H2 locs2 q hw2 => ?_)
  obtain ⟨e2, hR2⟩ := hQ r' S' q
  refine lv_icmp_eq hx hb dL_law_524 (tgt := 1187) rfl (fun _ => ?_) (fun ne => absurd e2 ne)
  exact kk _ _ _ hw2 hR2
theorem g_force {p : Program} {l : Launch} {e : Env} {s : State} {m : MethodId} {args : Array Value} {below : List Frame} {meth : Method} {c : Code} {H : Heap} {locs : List Loc} {cells slots : Nat} {Q0 : State → Prop} {D : va_G} {cy : Nat → ClassId} {A : Nat → Prop} {ls : Array Slot} {b L i v ox om : Nat} {xs : Nat → Int32} {w : va_W} (hc : cX p m meth c s args D cy A RL code 4 ret) (hX : va_X b L xs s s.heap) (hbl : b < s.heap.size) (hbA : ¬ A b) (hL : L ≤ 3072) (hl : lv_has ls 4 [(3, .int (nI i)), (2, .ref om), (1, .ref ox), (0, .ref b)]) (hi : i + 6 ≤ L) (hw : wV D A s.heap w H locs) (hR : Rel cy ox om v w) (hv : v < 1000) (hcs : cells + 14 ≤ 600000 ∧ slots + 4239 ≤ 7302250) (kk : ∀ (H1 : Heap) (locs1 : List Loc) (w' : va_W), wV D A s.heap w' H1 locs1 → Rel cy ox om (v + 1) w' → W p l e room_1 s m args below meth c H1 locs1 (cells + 14) (slots + 4239) Q0 (F0 m 1187 ls [])) : W p l e room_1 s m args below meth c H locs cells slots Q0 (F0 m 529 ls []) := by
  have hx := hc.1.1
  have hb := hc.1.2.1
  refine lv_aload_n hx hb dL_law_529 rfl (lv_at hl 2 rfl) ?_
  refine rdA (k := 1) hc hX hbl hbA hw.2.2 hl (by omega) hL rfl dL_law_530 dL_law_531 dL_law_532 dL_law_533 dL_law_534 ?_
  refine cllC (As := [.int (xs (i + 1))]) hc hw (o_force hR (nodup_ix.mp hw.2.1).1 hv) lk_L_63 rfl (by decide) hl.1 hcs rfl rfl dL_law_535 (fun r aM S wr' Q1 H1 locs1 e1 hw1 hP hQ => ?_)
  subst e1
  refine lv_aload_n hx hb dL_law_538 rfl (lv_at hl 1 rfl) ?_
  refine rdA (k := 1) hc hX hbl hbA hw1.2.2 hl (by omega) hL rfl dL_law_539 dL_law_540 dL_law_541 dL_law_542 dL_law_543 ?_
  refine cllM (As := [.int (xs (i + 1))]) hc hw1 (c_M_force hP) (fun r' u h => ⟨u, rfl, h⟩) lk_L_66 rfl (by decide) (by decide) hl.1 hcs rfl rfl dL_law_544 (fun r' S' H2 locs2 q hw2 => ?_)
  obtain ⟨e2, hR2⟩ := hQ r' S' q
  refine lv_icmp_eq hx hb dL_law_547 (tgt := 1187) rfl (fun _ => ?_) (fun ne => absurd e2 ne)
  exact kk _ _ _ hw2 hR2
theorem g_tell {p : Program} {l : Launch} {e : Env} {s : State} {m : MethodId} {args : Array Value} {below : List Frame} {meth : Method} {c : Code} {H : Heap} {locs : List Loc} {cells slots : Nat} {Q0 : State → Prop} {D : va_G} {cy : Nat → ClassId} {A : Nat → Prop} {ls : Array Slot} {b L i v ox om : Nat} {xs : Nat → Int32} {w : va_W} (hc : cX p m meth c s args D cy A RL code 4 ret) (hX : va_X b L xs s s.heap) (hbl : b < s.heap.size) (hbA : ¬ A b) (hL : L ≤ 3072) (hl : lv_has ls 4 [(3, .int (nI i)), (2, .ref om), (1, .ref ox), (0, .ref b)]) (hi : i + 6 ≤ L) (hw : wV D A s.heap w H locs) (hR : Rel cy ox om v w) (hv : v < 1000) (hcs : cells + 14 ≤ 600000 ∧ slots + 4239 ≤ 7302250) (kk : ∀ (H1 : Heap) (locs1 : List Loc) (w' : va_W), wV D A s.heap w' H1 locs1 → Rel cy ox om (v + 1) w' → W p l e room_1 s m args below meth c H1 locs1 (cells + 14) (slots + 4239) Q0 (F0 m 1187 ls [])) : W p l e room_1 s m args below meth c H locs cells slots Q0 (F0 m 552 ls []) := by
  have hx := hc.1.1
  have hb := hc.1.2.1
  refine lv_aload_n hx hb dL_law_552 rfl (lv_at hl 2 rfl) ?_
  refine rdA (k := 1) hc hX hbl hbA hw.2.2 hl (by omega) hL rfl dL_law_553 dL_law_554 dL_law_555 dL_law_556 dL_law_557 ?_
  refine rdA (k := 2) hc hX hbl hbA hw.2.2 hl (by omega) hL rfl dL_law_558 dL_law_559 dL_law_560 dL_law_561 dL_law_562 ?_
  refine cllC (As := [.int (xs (i + 1)), .int (xs (i + 2))]) hc hw (o_tell hR (nodup_ix.mp hw.2.1).1 hv) lk_L_67 rfl (by decide) hl.1 hcs rfl rfl dL_law_563 (fun r aM S wr' Q1 H1 locs1 e1 hw1 hP hQ => ?_)
  subst e1
  refine lv_aload_n hx hb dL_law_566 rfl (lv_at hl 1 rfl) ?_
  refine rdA (k := 1) hc hX hbl hbA hw1.2.2 hl (by omega) hL rfl dL_law_567 dL_law_568 dL_law_569 dL_law_570 dL_law_571 ?_
  refine rdA (k := 2) hc hX hbl hbA hw1.2.2 hl (by omega) hL rfl dL_law_572 dL_law_573 dL_law_574 dL_law_575 dL_law_576 ?_
  refine cllM (As := [.int (xs (i + 1)), .int (xs (i + 2))]) hc hw1 (c_M_tell hP) (fun r' u h => ⟨u, rfl, h⟩) lk_L_70 rfl (by decide) (by decide) hl.1 hcs rfl rfl dL_law_577 (fun r' S' H2 locs2 q hw2 => ?_)
  obtain ⟨e2, hR2⟩ := hQ r' S' q
  refine lv_icmp_eq hx hb dL_law_580 (tgt := 1187) rfl (fun _ => ?_) (fun ne => absurd e2 ne)
  exact kk _ _ _ hw2 hR2
theorem g_hush {p : Program} {l : Launch} {e : Env} {s : State} {m : MethodId} {args : Array Value} {below : List Frame} {meth : Method} {c : Code} {H : Heap} {locs : List Loc} {cells slots : Nat} {Q0 : State → Prop} {D : va_G} {cy : Nat → ClassId} {A : Nat → Prop} {ls : Array Slot} {b L i v ox om : Nat} {xs : Nat → Int32} {w : va_W} (hc : cX p m meth c s args D cy A RL code 4 ret) (hX : va_X b L xs s s.heap) (hbl : b < s.heap.size) (hbA : ¬ A b) (hL : L ≤ 3072) (hl : lv_has ls 4 [(3, .int (nI i)), (2, .ref om), (1, .ref ox), (0, .ref b)]) (hi : i + 6 ≤ L) (hw : wV D A s.heap w H locs) (hR : Rel cy ox om v w) (hv : v < 1000) (hcs : cells + 14 ≤ 600000 ∧ slots + 4239 ≤ 7302250) (kk : ∀ (H1 : Heap) (locs1 : List Loc) (w' : va_W), wV D A s.heap w' H1 locs1 → Rel cy ox om (v + 1) w' → W p l e room_1 s m args below meth c H1 locs1 (cells + 14) (slots + 4239) Q0 (F0 m 1187 ls [])) : W p l e room_1 s m args below meth c H locs cells slots Q0 (F0 m 585 ls []) := by
  have hx := hc.1.1
  have hb := hc.1.2.1
  refine lv_aload_n hx hb dL_law_585 rfl (lv_at hl 2 rfl) ?_
  refine cllC (As := []) hc hw (o_hush hR (nodup_ix.mp hw.2.1).1 hv) lk_L_71 rfl (by decide) hl.1 hcs rfl rfl dL_law_586 (fun r aM S wr' Q1 H1 locs1 e1 hw1 hP hQ => ?_)
  subst e1
  refine lv_aload_n hx hb dL_law_589 rfl (lv_at hl 1 rfl) ?_
  refine cllM (As := []) hc hw1 (c_M_hush hP) (fun r' u h => ⟨u, rfl, h⟩) lk_L_74 rfl (by decide) (by decide) hl.1 hcs rfl rfl dL_law_590 (fun r' S' H2 locs2 q hw2 => ?_)
  obtain ⟨e2, hR2⟩ := hQ r' S' q
  refine lv_icmp_eq hx hb dL_law_593 (tgt := 1187) rfl (fun _ => ?_) (fun ne => absurd e2 ne)
  exact kk _ _ _ hw2 hR2
theorem g_heard {p : Program} {l : Launch} {e : Env} {s : State} {m : MethodId} {args : Array Value} {below : List Frame} {meth : Method} {c : Code} {H : Heap} {locs : List Loc} {cells slots : Nat} {Q0 : State → Prop} {D : va_G} {cy : Nat → ClassId} {A : Nat → Prop} {ls : Array Slot} {b L i v ox om : Nat} {xs : Nat → Int32} {w : va_W} (hc : cX p m meth c s args D cy A RL code 4 ret) (hX : va_X b L xs s s.heap) (hbl : b < s.heap.size) (hbA : ¬ A b) (hL : L ≤ 3072) (hl : lv_has ls 4 [(3, .int (nI i)), (2, .ref om), (1, .ref ox), (0, .ref b)]) (hi : i + 6 ≤ L) (hw : wV D A s.heap w H locs) (hR : Rel cy ox om v w) (hv : v < 1000) (hcs : cells + 14 ≤ 600000 ∧ slots + 4239 ≤ 7302250) (kk : ∀ (H1 : Heap) (locs1 : List Loc) (w' : va_W), wV D A s.heap w' H1 locs1 → Rel cy ox om (v + 1) w' → W p l e room_1 s m args below meth c H1 locs1 (cells + 14) (slots + 4239) Q0 (F0 m 1187 ls [])) : W p l e room_1 s m args below meth c H locs cells slots Q0 (F0 m 598 ls []) := by
  have hx := hc.1.1
  have hb := hc.1.2.1
  refine lv_aload_n hx hb dL_law_598 rfl (lv_at hl 2 rfl) ?_
  refine rdA (k := 1) hc hX hbl hbA hw.2.2 hl (by omega) hL rfl dL_law_599 dL_law_600 dL_law_601 dL_law_602 dL_law_603 ?_
  refine rdA (k := 2) hc hX hbl hbA hw.2.2 hl (by omega) hL rfl dL_law_604 dL_law_605 dL_law_606 dL_law_607 dL_law_608 ?_
  refine cllC (As := [.int (xs (i + 1)), .int (xs (i + 2))]) hc hw (o_heard hR (nodup_ix.mp hw.2.1).1 hv) lk_L_75 rfl (by decide) hl.1 hcs rfl rfl dL_law_609 (fun r aM S wr' Q1 H1 locs1 e1 hw1 hP hQ => ?_)
  subst e1
  refine lv_aload_n hx hb dL_law_612 rfl (lv_at hl 1 rfl) ?_
  refine rdA (k := 1) hc hX hbl hbA hw1.2.2 hl (by omega) hL rfl dL_law_613 dL_law_614 dL_law_615 dL_law_616 dL_law_617 ?_
  refine rdA (k := 2) hc hX hbl hbA hw1.2.2 hl (by omega) hL rfl dL_law_618 dL_law_619 dL_law_620 dL_law_621 dL_law_622 ?_
  refine cllM (As := [.int (xs (i + 1)), .int (xs (i + 2))]) hc hw1 (c_M_heard hP) (fun r' u h => ⟨S, rfl, h⟩) lk_L_78 rfl (by decide) (by decide) hl.1 hcs rfl rfl dL_law_623 (fun r' S' H2 locs2 q hw2 => ?_)
  obtain ⟨e2, hR2⟩ := hQ r' S' q
  refine lv_icmp_eq hx hb dL_law_626 (tgt := 1187) rfl (fun _ => ?_) (fun ne => absurd e2 ne)
  exact kk _ _ _ hw2 hR2
theorem g_open {p : Program} {l : Launch} {e : Env} {s : State} {m : MethodId} {args : Array Value} {below : List Frame} {meth : Method} {c : Code} {H : Heap} {locs : List Loc} {cells slots : Nat} {Q0 : State → Prop} {D : va_G} {cy : Nat → ClassId} {A : Nat → Prop} {ls : Array Slot} {b L i v ox om : Nat} {xs : Nat → Int32} {w : va_W} (hc : cX p m meth c s args D cy A RL code 4 ret) (hX : va_X b L xs s s.heap) (hbl : b < s.heap.size) (hbA : ¬ A b) (hL : L ≤ 3072) (hl : lv_has ls 4 [(3, .int (nI i)), (2, .ref om), (1, .ref ox), (0, .ref b)]) (hi : i + 6 ≤ L) (hw : wV D A s.heap w H locs) (hR : Rel cy ox om v w) (hv : v < 1000) (hcs : cells + 14 ≤ 600000 ∧ slots + 4239 ≤ 7302250) (kk : ∀ (H1 : Heap) (locs1 : List Loc) (w' : va_W), wV D A s.heap w' H1 locs1 → Rel cy ox om (v + 1) w' → W p l e room_1 s m args below meth c H1 locs1 (cells + 14) (slots + 4239) Q0 (F0 m 1187 ls [])) : W p l e room_1 s m args below meth c H locs cells slots Q0 (F0 m 631 ls []) := by
  have hx := hc.1.1
  have hb := hc.1.2.1
  refine lv_aload_n hx hb dL_law_631 rfl (lv_at hl 2 rfl) ?_
  refine cllC (As := []) hc hw (o_open hR (nodup_ix.mp hw.2.1).1 hv) lk_L_79 rfl (by decide) hl.1 hcs rfl rfl dL_law_632 (fun r aM S wr' Q1 H1 locs1 e1 hw1 hP hQ => ?_)
  subst e1
  refine lv_aload_n hx hb dL_law_635 rfl (lv_at hl 1 rfl) ?_
  refine cllM (As := []) hc hw1 (c_M_open hP) (fun r' u h => ⟨u, rfl, h⟩) lk_L_82 rfl (by decide) (by decide) hl.1 hcs rfl rfl dL_law_636 (fun r' S' H2 locs2 q hw2 => ?_)
  obtain ⟨e2, hR2⟩ := hQ r' S' q
  refine lv_icmp_eq hx hb dL_law_639 (tgt := 1187) rfl (fun _ => ?_) (fun ne => absurd e2 ne)
  exact kk _ _ _ hw2 hR2
theorem g_goes {p : Program} {l : Launch} {e : Env} {s : State} {m : MethodId} {args : Array Value} {below : List Frame} {meth : Method} {c : Code} {H : Heap} {locs : List Loc} {cells slots : Nat} {Q0 : State → Prop} {D : va_G} {cy : Nat → ClassId} {A : Nat → Prop} {ls : Array Slot} {b L i v ox om : Nat} {xs : Nat → Int32} {w : va_W} (hc : cX p m meth c s args D cy A RL code 4 ret) (hX : va_X b L xs s s.heap) (hbl : b < s.heap.size) (hbA : ¬ A b) (hL : L ≤ 3072) (hl : lv_has ls 4 [(3, .int (nI i)), (2, .ref om), (1, .ref ox), (0, .ref b)]) (hi : i + 6 ≤ L) (hw : wV D A s.heap w H locs) (hR : Rel cy ox om v w) (hv : v < 1000) (hcs : cells + 14 ≤ 600000 ∧ slots + 4239 ≤ 7302250) (kk : ∀ (H1 : Heap) (locs1 : List Loc) (w' : va_W), wV D A s.heap w' H1 locs1 → Rel cy ox om (v + 1) w' → W p l e room_1 s m args below meth c H1 locs1 (cells + 14) (slots + 4239) Q0 (F0 m 1187 ls [])) : W p l e room_1 s m args below meth c H locs cells slots Q0 (F0 m 644 ls []) := by
  have hx := hc.1.1
  have hb := hc.1.2.1
  refine lv_aload_n hx hb dL_law_644 rfl (lv_at hl 2 rfl) ?_
  refine rdA (k := 1) hc hX hbl hbA hw.2.2 hl (by omega) hL rfl dL_law_645 dL_law_646 dL_law_647 dL_law_648 dL_law_649 ?_
  refine cllC (As := [.int (xs (i + 1))]) hc hw (o_goes hR (nodup_ix.mp hw.2.1).1 hv) lk_L_83 rfl (by decide) hl.1 hcs rfl rfl dL_law_650 (fun r aM S wr' Q1 H1 locs1 e1 hw1 hP hQ => ?_)
  subst e1
  refine lv_aload_n hx hb dL_law_653 rfl (lv_at hl 1 rfl) ?_
  refine rdA (k := 1) hc hX hbl hbA hw1.2.2 hl (by omega) hL rfl dL_law_654 dL_law_655 dL_law_656 dL_law_657 dL_law_658 ?_
  refine cllM (As := [.int (xs (i + 1))]) hc hw1 (c_M_goes hP) (fun r' u h => ⟨u, rfl, h⟩) lk_L_86 rfl (by decide) (by decide) hl.1 hcs rfl rfl dL_law_659 (fun r' S' H2 locs2 q hw2 => ?_)
  obtain ⟨e2, hR2⟩ := hQ r' S' q
  refine lv_icmp_eq hx hb dL_law_662 (tgt := 1187) rfl (fun _ => ?_) (fun ne => absurd e2 ne)
  exact kk _ _ _ hw2 hR2
theorem g_best {p : Program} {l : Launch} {e : Env} {s : State} {m : MethodId} {args : Array Value} {below : List Frame} {meth : Method} {c : Code} {H : Heap} {locs : List Loc} {cells slots : Nat} {Q0 : State → Prop} {D : va_G} {cy : Nat → ClassId} {A : Nat → Prop} {ls : Array Slot} {b L i v ox om : Nat} {xs : Nat → Int32} {w : va_W} (hc : cX p m meth c s args D cy A RL code 4 ret) (hX : va_X b L xs s s.heap) (hbl : b < s.heap.size) (hbA : ¬ A b) (hL : L ≤ 3072) (hl : lv_has ls 4 [(3, .int (nI i)), (2, .ref om), (1, .ref ox), (0, .ref b)]) (hi : i + 6 ≤ L) (hw : wV D A s.heap w H locs) (hR : Rel cy ox om v w) (hv : v < 1000) (hcs : cells + 14 ≤ 600000 ∧ slots + 4239 ≤ 7302250) (kk : ∀ (H1 : Heap) (locs1 : List Loc) (w' : va_W), wV D A s.heap w' H1 locs1 → Rel cy ox om (v + 1) w' → W p l e room_1 s m args below meth c H1 locs1 (cells + 14) (slots + 4239) Q0 (F0 m 1187 ls [])) : W p l e room_1 s m args below meth c H locs cells slots Q0 (F0 m 667 ls []) := by
  have hx := hc.1.1
  have hb := hc.1.2.1
  refine lv_aload_n hx hb dL_law_667 rfl (lv_at hl 2 rfl) ?_
  refine rdA (k := 1) hc hX hbl hbA hw.2.2 hl (by omega) hL rfl dL_law_668 dL_law_669 dL_law_670 dL_law_671 dL_law_672 ?_
  refine rdA (k := 2) hc hX hbl hbA hw.2.2 hl (by omega) hL rfl dL_law_673 dL_law_674 dL_law_675 dL_law_676 dL_law_677 ?_
  refine cllC (As := [.int (xs (i + 1)), .int (xs (i + 2))]) hc hw (o_best hR (nodup_ix.mp hw.2.1).1 hv) lk_L_87 rfl (by decide) hl.1 hcs rfl rfl dL_law_678 (fun r aM S wr' Q1 H1 locs1 e1 hw1 hP hQ => ?_)
  subst e1
  refine lv_aload_n hx hb dL_law_681 rfl (lv_at hl 1 rfl) ?_
  refine rdA (k := 1) hc hX hbl hbA hw1.2.2 hl (by omega) hL rfl dL_law_682 dL_law_683 dL_law_684 dL_law_685 dL_law_686 ?_
  refine rdA (k := 2) hc hX hbl hbA hw1.2.2 hl (by omega) hL rfl dL_law_687 dL_law_688 dL_law_689 dL_law_690 dL_law_691 ?_
  refine cllM (As := [.int (xs (i + 1)), .int (xs (i + 2))]) hc hw1 (c_M_best hP) (fun r' u h => ⟨u, rfl, h⟩) lk_L_90 rfl (by decide) (by decide) hl.1 hcs rfl rfl dL_law_692 (fun r' S' H2 locs2 q hw2 => ?_)
  obtain ⟨e2, hR2⟩ := hQ r' S' q
  refine lv_icmp_eq hx hb dL_law_695 (tgt := 1187) rfl (fun _ => ?_) (fun ne => absurd e2 ne)
  exact kk _ _ _ hw2 hR2
theorem g_order {p : Program} {l : Launch} {e : Env} {s : State} {m : MethodId} {args : Array Value} {below : List Frame} {meth : Method} {c : Code} {H : Heap} {locs : List Loc} {cells slots : Nat} {Q0 : State → Prop} {D : va_G} {cy : Nat → ClassId} {A : Nat → Prop} {ls : Array Slot} {b L i v ox om : Nat} {xs : Nat → Int32} {w : va_W} (hc : cX p m meth c s args D cy A RL code 4 ret) (hX : va_X b L xs s s.heap) (hbl : b < s.heap.size) (hbA : ¬ A b) (hL : L ≤ 3072) (hl : lv_has ls 4 [(3, .int (nI i)), (2, .ref om), (1, .ref ox), (0, .ref b)]) (hi : i + 6 ≤ L) (hw : wV D A s.heap w H locs) (hR : Rel cy ox om v w) (hv : v < 1000) (hcs : cells + 14 ≤ 600000 ∧ slots + 4239 ≤ 7302250) (kk : ∀ (H1 : Heap) (locs1 : List Loc) (w' : va_W), wV D A s.heap w' H1 locs1 → Rel cy ox om (v + 1) w' → W p l e room_1 s m args below meth c H1 locs1 (cells + 14) (slots + 4239) Q0 (F0 m 1187 ls [])) : W p l e room_1 s m args below meth c H locs cells slots Q0 (F0 m 700 ls []) := by
  have hx := hc.1.1
  have hb := hc.1.2.1
  refine lv_aload_n hx hb dL_law_700 rfl (lv_at hl 2 rfl) ?_
  refine rdA (k := 1) hc hX hbl hbA hw.2.2 hl (by omega) hL rfl dL_law_701 dL_law_702 dL_law_703 dL_law_704 dL_law_705 ?_
  refine rdA (k := 2) hc hX hbl hbA hw.2.2 hl (by omega) hL rfl dL_law_706 dL_law_707 dL_law_708 dL_law_709 dL_law_710 ?_
  refine rdA (k := 3) hc hX hbl hbA hw.2.2 hl (by omega) hL rfl dL_law_711 dL_law_712 dL_law_713 dL_law_714 dL_law_715 ?_
  refine cllC (As := [.int (xs (i + 1)), .int (xs (i + 2)), .int (xs (i + 3))]) hc hw (o_order hR (nodup_ix.mp hw.2.1).1 hv) lk_L_91 rfl (by decide) hl.1 hcs rfl rfl dL_law_716 (fun r aM S wr' Q1 H1 locs1 e1 hw1 hP hQ => ?_)
  subst e1
  refine lv_aload_n hx hb dL_law_719 rfl (lv_at hl 1 rfl) ?_
  refine rdA (k := 1) hc hX hbl hbA hw1.2.2 hl (by omega) hL rfl dL_law_720 dL_law_721 dL_law_722 dL_law_723 dL_law_724 ?_
  refine rdA (k := 2) hc hX hbl hbA hw1.2.2 hl (by omega) hL rfl dL_law_725 dL_law_726 dL_law_727 dL_law_728 dL_law_729 ?_
  refine rdA (k := 3) hc hX hbl hbA hw1.2.2 hl (by omega) hL rfl dL_law_730 dL_law_731 dL_law_732 dL_law_733 dL_law_734 ?_
  refine cllM (As := [.int (xs (i + 1)), .int (xs (i + 2)), .int (xs (i + 3))]) hc hw1 (c_M_order hP) (fun r' u h => ⟨u, rfl, h⟩) lk_L_94 rfl (by decide) (by decide) hl.1 hcs rfl rfl dL_law_735 (fun r' S' H2 locs2 q hw2 => ?_)
  obtain ⟨e2, hR2⟩ := hQ r' S' q
  refine lv_icmp_eq hx hb dL_law_738 (tgt := 1187) rfl (fun _ => ?_) (fun ne => absurd e2 ne)
  exact kk _ _ _ hw2 hR2
theorem g_orders {p : Program} {l : Launch} {e : Env} {s : State} {m : MethodId} {args : Array Value} {below : List Frame} {meth : Method} {c : Code} {H : Heap} {locs : List Loc} {cells slots : Nat} {Q0 : State → Prop} {D : va_G} {cy : Nat → ClassId} {A : Nat → Prop} {ls : Array Slot} {b L i v ox om : Nat} {xs : Nat → Int32} {w : va_W} (hc : cX p m meth c s args D cy A RL code 4 ret) (hX : va_X b L xs s s.heap) (hbl : b < s.heap.size) (hbA : ¬ A b) (hL : L ≤ 3072) (hl : lv_has ls 4 [(3, .int (nI i)), (2, .ref om), (1, .ref ox), (0, .ref b)]) (hi : i + 6 ≤ L) (hw : wV D A s.heap w H locs) (hR : Rel cy ox om v w) (hv : v < 1000) (hcs : cells + 14 ≤ 600000 ∧ slots + 4239 ≤ 7302250) (kk : ∀ (H1 : Heap) (locs1 : List Loc) (w' : va_W), wV D A s.heap w' H1 locs1 → Rel cy ox om (v + 1) w' → W p l e room_1 s m args below meth c H1 locs1 (cells + 14) (slots + 4239) Q0 (F0 m 1187 ls [])) : W p l e room_1 s m args below meth c H locs cells slots Q0 (F0 m 743 ls []) := by
  have hx := hc.1.1
  have hb := hc.1.2.1
  refine lv_aload_n hx hb dL_law_743 rfl (lv_at hl 2 rfl) ?_
  refine rdA (k := 1) hc hX hbl hbA hw.2.2 hl (by omega) hL rfl dL_law_744 dL_law_745 dL_law_746 dL_law_747 dL_law_748 ?_
  refine cllC (As := [.int (xs (i + 1))]) hc hw (o_orders hR (nodup_ix.mp hw.2.1).1 hv) lk_L_95 rfl (by decide) hl.1 hcs rfl rfl dL_law_749 (fun r aM S wr' Q1 H1 locs1 e1 hw1 hP hQ => ?_)
  subst e1
  refine lv_aload_n hx hb dL_law_752 rfl (lv_at hl 1 rfl) ?_
  refine rdA (k := 1) hc hX hbl hbA hw1.2.2 hl (by omega) hL rfl dL_law_753 dL_law_754 dL_law_755 dL_law_756 dL_law_757 ?_
  refine cllM (As := [.int (xs (i + 1))]) hc hw1 (c_M_orders hP) (fun r' u h => ⟨u, rfl, h⟩) lk_L_98 rfl (by decide) (by decide) hl.1 hcs rfl rfl dL_law_758 (fun r' S' H2 locs2 q hw2 => ?_)
  obtain ⟨e2, hR2⟩ := hQ r' S' q
  refine lv_icmp_eq hx hb dL_law_761 (tgt := 1187) rfl (fun _ => ?_) (fun ne => absurd e2 ne)
  exact kk _ _ _ hw2 hR2
