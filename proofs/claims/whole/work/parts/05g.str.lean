/-! ===== the one text constant: its length, its chars ===== -/
section STR
variable {p : Program} {l : Launch} {e : Env} {R : Room} {s : State} {m : MethodId} {args : Array Value} {below : List Frame} {meth : Method} {c : Code} {H : Heap} {locs : List Loc} {cells slots : Nat} {Q0 : State → Prop} {D : va_G} {cy : Nat → ClassId} {A : Nat → Prop} {own : String} {cc : ByteArray} {nL pc : Nat} {ret : Option FieldType} {ls : Array Slot} {rest : List Value} {ws : va_W} {y : MethodName} {bytes : ByteArray} {maxL n index k : Nat} {ret1 : Option FieldType} {As st0 : List Value}
theorem retY {α : Type} {wo : α → va_W} {Q : Int32 → α → Prop} {r : Int32} {u : α} {ty : FieldType} (hc : cX p m meth c s args D cy A own cc nL (some ty)) (hw : wV D A s.heap (wo u) H locs) (hn : narrow ty (.int r) = .int r) (hq : Q r u) (hdg : decode cc pc = .ok (.ireturn, 1)) : W p l e R s m args below meth c H locs cells slots (MQ below (eI D cy A wo Q) args s cells slots A) (F0 m pc ls [.int r]) :=
  W.zret hc.1.1 hc.1.2.1 hc.2.2.2.1 hn (fun t ht hW => ⟨⟨r, u, rfl, hq, by rw [ht]; exact hw.1, hw.2.1⟩, hw.2.2.F ht⟩) hw.2.2.2.2 hdg hc.2.2.2.2.1
theorem kT_I {Q : Int32 → Unit → Prop} (hc : cX p m meth c s args D cy A own cc nL ret) (hw : wV D A s.heap ws H locs) (ct : CtI l y bytes maxL ret1 (rmN k) D cy (.ref (cy 100) :: As) [] (fun _ : Unit => []) Q) (lk : lkV own index y bytes maxL ret1 n) (hy : y.cls = "java/lang/String") (hR : (rmN k).frames + 1 ≤ R.frames ∧ 8 + (maxL + 11) + (rmN k).locals ≤ R.locals) (hcs : cells ≤ R.cells ∧ slots ≤ R.slots) (hnL : ls.size = nL) (hst : st0 = As.reverse ++ .ref (cy 100) :: rest) (hrest : (rest.map fun v => v.category).sum ≤ 8) (hlen : As.length = n) (hdg : decode cc pc = .ok (.invokevirtual index, 3))
    (kk : ∀ (r : Int32) (H1 : Heap) (locs1 : List Loc), Q r () → wV D A s.heap ws H1 locs1 → W p l e R s m args below meth c H1 locs1 cells slots Q0 (F0 m (pc + 3) ls (.int r :: rest))) : W p l e R s m args below meth c H locs cells slots Q0 (F0 m pc ls st0) := by
  subst hst
  have sp := spl_none ws
  have hPc : va_P D vwCl [] H := hw.1.sub [] (fm_of sp.1)
  have hDc : va_D A [] := hw.2.1.sub [] sp.2.2.1 sp.1
  have hFc := va_free (wc := []) hw.2.1 hw.2.2 hc.2.2.1 [] sp.1
  have hrecv := vk_recv (i := 0) hc.2.2.2.2.2.2.2.1 (by decide) hw.2.2
  rw [← hy] at hrecv
  refine va_calli (va_runV (As := As) (rest := rest) hc.1 (ct H.size) ⟨callB_of n hc.1.2.2.2.2 (tbl_good lk.2.1) rfl rfl rfl (hc.1.2.2.2.2 _ lk.2.2.1) (hc.1.2.2.2.2 _ lk.1) lk.2.2.2.2.2 hR, hc.1.2.2.2.2 _ lk.2.2.2.1, hc.1.2.2.2.2 _ lk.2.2.2.2.1⟩ ⟨prC_blind, hrecv, fun U hU hW => ⟨rfl, by rw [hU], by rw [hU]; exact hPc, va_K.moved hW.alike hc.2.1, hDc.weaken (fun _ _ _ _ => trivial), hc.2.2.2.2.2.1.warm hW, hc.2.2.2.2.2.2.to hw.2.2 hFc hU hW⟩⟩ rfl hlen hnL rfl (lv_room hrest) hdg hcs) hw.2.2 (fun q _ h => hFc q h) hFc (fun r u t H1 locs1 ht hvm hq hB hz1 hk1 hS1 => ?_)
  obtain ⟨hP1, hD1⟩ := hB
  rw [ht] at hP1
  obtain ⟨hP2, hD2⟩ := va_join (wr := ws) (w1 := []) hw.1 hw.2.1 [] (List.range ws.length) sp.1 sp.2.1 sp.2.2.2.1 sp.2.2.2.2 hk1 hFc hP1 hD1
  rw [List.append_nil] at hP2 hD2
  exact kk r H1 locs1 hq ⟨hP2, hD2, hS1⟩
theorem ldS (hc : cX p m meth c s args D cy A "OlderTale$Reader" cc nL ret) (hdg : decode cc pc = .ok (.ldc 101, 2)) (kk : W p l e R s m args below meth c H locs cells slots Q0 (F0 m (pc + 2) ls (.ref (cy 100) :: rest))) : W p l e R s m args below meth c H locs cells slots Q0 (F0 m pc ls rest) :=
  va_ldcS hc.1.1 hc.1.2.1 hc.1.2.2.2.1 hc.2.2.2.2.2.2.1 hdg kk
theorem gStr {nm ds : String} {v : Value} (hc : cX p m meth c s args D cy A own cc nL ret) (hw : wV D A s.heap ws H locs) (hE : va_OF "java/lang/String" nm ds v (cy 100) A s s.heap) (hlk : Cond.fieldLink own index "java/lang/String" nm ds ∈ gtb) (hdg : decode cc pc = .ok (.getfield index, 3)) (kk : W p l e R s m args below meth c H locs cells slots Q0 (F0 m (pc + 3) ls (v :: rest))) : W p l e R s m args below meth c H locs cells slots Q0 (F0 m pc ls (.ref (cy 100) :: rest)) :=
  vk_getf hc.1.1 hc.1.2.1 hE hw.2.2 hc.1.2.2.2.1 (hc.1.2.2.2.2 _ hlk) (fun _ h => h) hdg kk
theorem gCmp (hc : cX p m meth c s args D cy A own cc nL ret) (hw : wV D A s.heap ws H locs) (hlk : Cond.fieldLink own index "java/lang/String" "COMPACT_STRINGS" "Z" ∈ gtb) (hdg : decode cc pc = .ok (.getstatic index, 3)) (kk : W p l e R s m args below meth c H locs cells slots Q0 (F0 m (pc + 3) ls (.int 1 :: rest))) : W p l e R s m args below meth c H locs cells slots Q0 (F0 m pc ls rest) :=
  va_gets hc.1.1 hc.1.2.1 hc.2.2.2.2.2.2.2.2.1 hw.2.2 hc.1.2.2.2.1 (hc.1.2.2.2.2 _ hlk) (fun _ h => h) hdg kk
end STR
section STRC
variable {l : Launch} {D : va_G} {cy : Nat → ClassId}
theorem c_coder : CtI l yJ0_coder_7d493 cJ0_coder_7d493 1 (some .byte) (rmN 0) D cy [.ref (cy 100)] [] (fun _ : Unit => ([] : va_W)) (fun r _ => r = 0) := by
  refine CtI.ofW (by decide) (Nat.le_of_ble_eq_true rfl) ?_
  intro p e s m args below meth c A ls hc hnm hw hl
  have hx := hc.1.1
  have hb := hc.1.2.1
  have hl : lv_has ls 1 [(0, .ref (cy 100))] := hl
  refine gCmp hc hw (gm 637 (by decide +kernel) rfl) dJ0_coder_7d493_0 ?_
  refine lv_if_eq (tgt := 13) hx hb dJ0_coder_7d493_3 (by decide) (fun c0 => absurd c0 (by decide)) (fun _ => ?_)
  refine lv_aload_n hx hb dJ0_coder_7d493_6 rfl (lv_at hl 0 rfl) ?_
  refine gStr hc hw (hc.2.2.2.2.2.2.2.1.1 0 (by decide)).2.1 (gm 1612 (by decide +kernel) rfl) dJ0_coder_7d493_7 ?_
  refine lv_goto (tgt := 14) hx hb dJ0_coder_7d493_10 (by decide) ?_
  exact retY (u := ()) hc hw rfl rfl dJ0_coder_7d493_14
theorem c_isLatin1 : CtI l yJ0_isLatin1_aae02 cJ0_isLatin1_aae02 1 (some .boolean) (rmN 0) D cy [.ref (cy 100)] [] (fun _ : Unit => ([] : va_W)) (fun r _ => r = 1) := by
  refine CtI.ofW (by decide) (Nat.le_of_ble_eq_true rfl) ?_
  intro p e s m args below meth c A ls hc hnm hw hl
  have hx := hc.1.1
  have hb := hc.1.2.1
  have hl : lv_has ls 1 [(0, .ref (cy 100))] := hl
  refine gCmp hc hw (gm 637 (by decide +kernel) rfl) dJ0_isLatin1_aae02_0 ?_
  refine lv_if_eq (tgt := 17) hx hb dJ0_isLatin1_aae02_3 (by decide) (fun c0 => absurd c0 (by decide)) (fun _ => ?_)
  refine lv_aload_n hx hb dJ0_isLatin1_aae02_6 rfl (lv_at hl 0 rfl) ?_
  refine gStr hc hw (hc.2.2.2.2.2.2.2.1.1 0 (by decide)).2.1 (gm 1612 (by decide +kernel) rfl) dJ0_isLatin1_aae02_7 ?_
  refine lv_if_ne (tgt := 17) hx hb dJ0_isLatin1_aae02_10 (by decide) (fun c0 => absurd rfl c0) (fun _ => ?_)
  refine lv_iconst (v := 1) hx hb dJ0_isLatin1_aae02_13 (by decide) ?_
  refine lv_goto (tgt := 18) hx hb dJ0_isLatin1_aae02_14 (by decide) ?_
  exact retY (u := ()) hc hw rfl rfl dJ0_isLatin1_aae02_18
theorem lk_J0_335 : lkV RJ0 335 yJ0_coder_7d493 cJ0_coder_7d493 1 (some .byte) 0 := ⟨gm 633 (by decide +kernel) rfl, gm 636 (by decide +kernel) rfl, gm 137 (by decide +kernel) rfl, gm 634 (by decide +kernel) rfl, gm 635 (by decide +kernel) rfl, ⟨by decide, by decide, by decide +kernel⟩⟩
theorem lk_J0_492 : lkV RJ0 492 yJ0_isLatin1_aae02 cJ0_isLatin1_aae02 1 (some .boolean) 0 := ⟨gm 643 (by decide +kernel) rfl, gm 646 (by decide +kernel) rfl, gm 137 (by decide +kernel) rfl, gm 644 (by decide +kernel) rfl, gm 645 (by decide +kernel) rfl, ⟨by decide, by decide, by decide +kernel⟩⟩
theorem lk_J0_495 : lkS RJ0 495 yJ1_charAt_3b067 cJ1_charAt_3b067 2 (some .char) 2 := ⟨gm 647 (by decide +kernel) rfl, gm 649 (by decide +kernel) rfl, gm 138 (by decide +kernel) rfl, gm 648 (by decide +kernel) rfl, ⟨by decide, by decide, by decide +kernel⟩⟩
theorem lk_J0_1059 : lkS RJ0 1059 yJ3_checkIndex_8e157 cJ3_checkIndex_8e157 3 (some .int) 3 := ⟨gm 655 (by decide +kernel) rfl, gm 657 (by decide +kernel) rfl, gm 139 (by decide +kernel) rfl, gm 656 (by decide +kernel) rfl, ⟨by decide, by decide, by decide +kernel⟩⟩
theorem lk_J1_9 : lkS RJ1 9 yJ0_checkIndex_df160 cJ0_checkIndex_df160 2 none 2 := ⟨gm 650 (by decide +kernel) rfl, gm 652 (by decide +kernel) rfl, gm 137 (by decide +kernel) rfl, gm 651 (by decide +kernel) rfl, ⟨by decide, by decide, by decide +kernel⟩⟩
theorem lk_X4_103 : lkV RX4 103 yJ0_length_8abf5 cJ0_length_8abf5 1 (some .int) 0 := ⟨gm 629 (by decide +kernel) rfl, gm 632 (by decide +kernel) rfl, gm 137 (by decide +kernel) rfl, gm 630 (by decide +kernel) rfl, gm 631 (by decide +kernel) rfl, ⟨by decide, by decide, by decide +kernel⟩⟩
theorem lk_X4_107 : lkV RX4 107 yJ0_charAt_5068e cJ0_charAt_5068e 2 (some .char) 1 := ⟨gm 639 (by decide +kernel) rfl, gm 642 (by decide +kernel) rfl, gm 137 (by decide +kernel) rfl, gm 640 (by decide +kernel) rfl, gm 641 (by decide +kernel) rfl, ⟨by decide, by decide, by decide +kernel⟩⟩
theorem c_strlen : CtI l yJ0_length_8abf5 cJ0_length_8abf5 1 (some .int) (rmN 1) D cy [.ref (cy 100)] [] (fun _ : Unit => ([] : va_W)) (fun r _ => r = 70) := by
  refine CtI.ofW (by decide) (Nat.le_of_ble_eq_true rfl) ?_
  intro p e s m args below meth c A ls hc hnm hw hl
  have hx := hc.1.1
  have hb := hc.1.2.1
  have hl : lv_has ls 1 [(0, .ref (cy 100))] := hl
  have hE := hc.2.2.2.2.2.2.2.1.1 0 (by decide)
  refine lv_aload_n hx hb dJ0_length_8abf5_0 rfl (lv_at hl 0 rfl) ?_
  refine gStr hc hw hE.2.2.1 (gm 1611 (by decide +kernel) rfl) dJ0_length_8abf5_1 ?_
  refine va_tlen (v := 70) hx hb hE.2.2.2 hw.2.2 (by decide) dJ0_length_8abf5_4 ?_
  refine lv_aload_n hx hb dJ0_length_8abf5_5 rfl (lv_at hl 0 rfl) ?_
  refine kT_I (As := []) (rest := [.int 70]) hc hw c_coder lk_J0_335 rfl ⟨Nat.le_of_ble_eq_true rfl, Nat.le_of_ble_eq_true rfl⟩ ⟨Nat.le_of_ble_eq_true rfl, Nat.le_of_ble_eq_true rfl⟩ hl.1 rfl (Nat.le_of_ble_eq_true rfl) rfl dJ0_length_8abf5_6 (fun r H locs hq hw => ?_)
  refine lv_ishr hx hb dJ0_length_8abf5_9 ?_
  exact retI (u := ()) hc hw (by show _ = (70 : Int32); rw [show r = 0 from hq]; decide) dJ0_length_8abf5_10
theorem c_chk {i n : Int32} {v : Value} (hv : v = .null ∨ ∃ t, v = .ref t) (h0 : ¬ i < 0) (h1 : i < n) : CtI l yJ3_checkIndex_8e157 cJ3_checkIndex_8e157 3 (some .int) (rmN 0) D cy [.int i, .int n, v] [] (fun _ : Unit => ([] : va_W)) (fun r _ => True) := by
  refine CtI.ofW (by decide) (by rcases hv with rfl | ⟨t, rfl⟩ <;> exact Nat.le_of_ble_eq_true rfl) ?_
  intro p e s m args below meth c A ls hc hnm hw hl
  have hx := hc.1.1
  have hb := hc.1.2.1
  have hl : lv_has ls 3 [(0, .int i), (1, .int n), (2, v)] := by rcases hv with rfl | ⟨t, rfl⟩ <;> exact hl
  refine lv_iload_n hx hb dJ3_checkIndex_8e157_0 rfl (lv_at hl 0 rfl) ?_
  refine lv_if_lt (tgt := 9) hx hb dJ3_checkIndex_8e157_1 (by decide) (fun c0 => absurd c0 h0) (fun _ => ?_)
  refine lv_iload_n hx hb dJ3_checkIndex_8e157_4 rfl (lv_at hl 0 rfl) ?_
  refine lv_iload_n hx hb dJ3_checkIndex_8e157_5 rfl (lv_at hl 1 rfl) ?_
  refine lv_icmp_lt (tgt := 16) hx hb dJ3_checkIndex_8e157_6 (by decide) (fun _ => ?_) (fun c0 => absurd h1 c0)
  refine lv_iload_n hx hb dJ3_checkIndex_8e157_16 rfl (lv_at hl 0 rfl) ?_
  exact retI (u := ()) hc hw trivial dJ3_checkIndex_8e157_17
theorem c_chkS {i n : Int32} (h0 : ¬ i < 0) (h1 : i < n) : CtV l yJ0_checkIndex_df160 cJ0_checkIndex_df160 2 none (rmN 1) D cy [.int i, .int n] [] (fun _ : Unit => ([] : va_W)) (fun _ => True) := by
  refine CtV.ofW (by decide) (Nat.le_of_ble_eq_true rfl) ?_
  intro p e s m args below meth c A ls hc hnm hw hl
  have hx := hc.1.1
  have hb := hc.1.2.1
  have hl : lv_has ls 2 [(0, .int i), (1, .int n)] := hl
  refine lv_iload_n hx hb dJ0_checkIndex_df160_0 rfl (lv_at hl 0 rfl) ?_
  refine lv_iload_n hx hb dJ0_checkIndex_df160_1 rfl (lv_at hl 1 rfl) ?_
  have key : ∀ v : Value, (v = .null ∨ ∃ t, v = .ref t) → va_Z "jdk/internal/util/Preconditions" "SIOOBE_FORMATTER" "Ljava/util/function/BiFunction;" v A s s.heap → W p l e (rmN 1) s m args below meth c s.heap [] 0 0 (MQ below (eV D cy A (fun _ : Unit => ([] : va_W)) (fun _ => True)) args s (rmN 1).cells (rmN 1).slots A) (F0 m 2 ls [.int n, .int i]) := by
    intro v hv hZ
    refine va_gets hx hb hZ hw.2.2 hc.1.2.2.2.1 (hc.1.2.2.2.2 _ (gm 653 (by decide +kernel) rfl)) (fun _ h => h) dJ0_checkIndex_df160_2 ?_
    refine zS_I (As := [.int i, .int n, v]) (rest := []) hc hw (c_chk hv h0 h1) lk_J0_1059 ⟨Nat.le_of_ble_eq_true rfl, Nat.le_of_ble_eq_true rfl⟩ ⟨Nat.le_of_ble_eq_true rfl, Nat.le_of_ble_eq_true rfl⟩ hl.1 rfl (Nat.le_of_ble_eq_true rfl) rfl dJ0_checkIndex_df160_5 (fun r H locs hq hw => ?_)
    refine lv_pop hx hb dJ0_checkIndex_df160_8 rfl ?_
    exact retV (u := ()) hc hw trivial dJ0_checkIndex_df160_9
  rcases hc.2.2.2.2.2.2.2.2.2 with hZ | ⟨t, hZ⟩
  · exact key _ (Or.inl rfl) hZ
  · exact key _ (Or.inr ⟨t, rfl⟩) hZ
def sCh (i : Int32) : Int32 := ((wordsB.getD i.toNatClampNeg 0 &&& 255).toUInt32 % 65536).toInt32
theorem c_latAt {i : Int32} (h : vp_in i 70) : CtI l yJ1_charAt_3b067 cJ1_charAt_3b067 2 (some .char) (rmN 2) D cy [.ref (cy 101), .int i] [] (fun _ : Unit => ([] : va_W)) (fun r _ => r = sCh i) := by
  have h0 : ¬ i < 0 := fun q => h (Or.inl q)
  have h1 : i < 70 := by
    obtain ⟨j, hj, rfl⟩ := vp_in_of h (by decide)
    exact nI_lt (a := j) (b := 70) hj (by decide)
  refine CtI.ofW (by decide) (Nat.le_of_ble_eq_true rfl) ?_
  intro p e s m args below meth c A ls hc hnm hw hl
  have hx := hc.1.1
  have hb := hc.1.2.1
  have hl : lv_has ls 2 [(0, .ref (cy 101)), (1, .int i)] := hl
  have hE := hc.2.2.2.2.2.2.2.1.1 0 (by decide)
  refine lv_iload_n hx hb dJ1_charAt_3b067_0 rfl (lv_at hl 1 rfl) ?_
  refine lv_aload_n hx hb dJ1_charAt_3b067_1 rfl (lv_at hl 0 rfl) ?_
  refine va_tlen (v := 70) hx hb hE.2.2.2 hw.2.2 (by decide) dJ1_charAt_3b067_2 ?_
  refine zS_V (As := [.int i, .int 70]) (rest := []) hc hw (c_chkS h0 h1) lk_J1_9 ⟨Nat.le_of_ble_eq_true rfl, Nat.le_of_ble_eq_true rfl⟩ ⟨Nat.le_of_ble_eq_true rfl, Nat.le_of_ble_eq_true rfl⟩ hl.1 rfl (Nat.le_of_ble_eq_true rfl) rfl dJ1_charAt_3b067_3 (fun H locs hq hw => ?_)
  refine lv_aload_n hx hb dJ1_charAt_3b067_6 rfl (lv_at hl 0 rfl) ?_
  refine lv_iload_n hx hb dJ1_charAt_3b067_7 rfl (lv_at hl 1 rfl) ?_
  refine va_tb hx hb hE.2.2.2 hw.2.2 h rfl dJ1_charAt_3b067_8 ?_
  refine lv_sipush (v := 255) hx hb dJ1_charAt_3b067_9 (by decide) ?_
  refine lv_iand hx hb dJ1_charAt_3b067_12 ?_
  refine lv_i2c hx hb dJ1_charAt_3b067_13 rfl ?_
  exact retY (u := ()) hc hw (pk_nc _) rfl dJ1_charAt_3b067_14
theorem c_charAt {i : Int32} (h : vp_in i 70) : CtI l yJ0_charAt_5068e cJ0_charAt_5068e 2 (some .char) (rmN 3) D cy [.ref (cy 100), .int i] [] (fun _ : Unit => ([] : va_W)) (fun r _ => r = sCh i) := by
  refine CtI.ofW (by decide) (Nat.le_of_ble_eq_true rfl) ?_
  intro p e s m args below meth c A ls hc hnm hw hl
  have hx := hc.1.1
  have hb := hc.1.2.1
  have hl : lv_has ls 2 [(0, .ref (cy 100)), (1, .int i)] := hl
  have hE := hc.2.2.2.2.2.2.2.1.1 0 (by decide)
  refine lv_aload_n hx hb dJ0_charAt_5068e_0 rfl (lv_at hl 0 rfl) ?_
  refine kT_I (As := []) (rest := []) hc hw c_isLatin1 lk_J0_492 rfl ⟨Nat.le_of_ble_eq_true rfl, Nat.le_of_ble_eq_true rfl⟩ ⟨Nat.le_of_ble_eq_true rfl, Nat.le_of_ble_eq_true rfl⟩ hl.1 rfl (Nat.le_of_ble_eq_true rfl) rfl dJ0_charAt_5068e_1 (fun r H locs hq hw => ?_)
  refine lv_if_eq (tgt := 16) hx hb dJ0_charAt_5068e_4 (by decide) (fun c0 => absurd (c0.symm.trans hq) (by decide)) (fun _ => ?_)
  refine lv_aload_n hx hb dJ0_charAt_5068e_7 rfl (lv_at hl 0 rfl) ?_
  refine gStr hc hw hE.2.2.1 (gm 1611 (by decide +kernel) rfl) dJ0_charAt_5068e_8 ?_
  refine lv_iload_n hx hb dJ0_charAt_5068e_11 rfl (lv_at hl 1 rfl) ?_
  refine zS_I (As := [.ref (cy 101), .int i]) (rest := []) hc hw (c_latAt h) lk_J0_495 ⟨Nat.le_of_ble_eq_true rfl, Nat.le_of_ble_eq_true rfl⟩ ⟨Nat.le_of_ble_eq_true rfl, Nat.le_of_ble_eq_true rfl⟩ hl.1 rfl (Nat.le_of_ble_eq_true rfl) rfl dJ0_charAt_5068e_12 (fun r H locs hq hw => ?_)
  exact retY (u := ()) hc hw (by rw [show r = sCh i from hq]; exact pk_nc _) hq dJ0_charAt_5068e_15
end STRC
