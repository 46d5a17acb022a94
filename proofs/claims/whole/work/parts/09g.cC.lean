set_option maxHeartbeats 4000000 in
set_option maxRecDepth 100000 in
theorem c_X8_orderN {l : Launch} {D : va_G} {cy : Nat → ClassId} {aO : Nat → Nat} {aB : Nat → Nat} {als : Nat → Nat} {aP : Nat → Nat} {aJ : Nat → Nat} {atd : Nat → Nat} {ali : Nat → Nat} {e_O_images : Nat} {e_O_tape : Nat} {e_O_reader : Nat} {e_O_trial : Option Nat} {e_O_season : Option Nat} {e_O_dates : Nat} {e_O_evening : Nat} {e_O_choices : Nat} {e_B_mentions : Nat} {e_B_claims : Nat} {SO : Ob} {SB : Ob} {Sls : (Nat → Option Nat)} {SP : Ob} {SJ : Ob} {Std : Ob} {Sli : Ob} {x1 : Int32} {x2 : Int32} {x3 : Int32} {Q : Int32 → Ob → Ob → Ob → Prop} (hm : w_X8_orderN SO SB Sls SP SJ Std Sli x1 x2 x3 Q) : CtI l yX8_order cX8_order 4 (some .int) (rmN 6) D cy [.ref (aO 0), .int x1, .int x2, .int x3] ((oW cy aO (aB 0) e_O_images e_O_tape e_O_reader (aP 0) e_O_trial e_O_season e_O_dates (ali 0) e_O_evening e_O_choices SO) ++ ((bW cy aB (als 0) (atd 0) e_B_mentions e_B_claims SB) ++ ((lsW cy als Sls) ++ ((pW cy aP (aJ 0) SP) ++ ((jW cy aJ SJ) ++ ((tW cy atd Std) ++ (tW cy ali Sli))))))) (fun u : Ob × Ob × Ob => ((oW cy aO (aB 0) e_O_images e_O_tape e_O_reader (aP 0) e_O_trial e_O_season e_O_dates (ali 0) e_O_evening e_O_choices SO) ++ ((bW cy aB (als 0) (atd 0) e_B_mentions e_B_claims SB) ++ ((lsW cy als Sls) ++ ((pW cy aP (aJ 0) u.1) ++ ((jW cy aJ u.2.1) ++ ((tW cy atd Std) ++ (tW cy ali u.2.2)))))))) (fun (r : Int32) (u : Ob × Ob × Ob) => Q r u.1 u.2.1 u.2.2) := by
  refine CtI.ofW (by decide) (Nat.le_of_ble_eq_true rfl) ?_
  intro p e s m args below meth c A ls hc hnm hw hl
  have hx := hc.1.1
  have hb := hc.1.2.1
  have hown := hc.1.2.2.2.1
  have hts := hc.1.2.2.2.2
  have hl : lv_has ls 4 [(0, .ref (aO 0)), (1, .int x1), (2, .int x2), (3, .int x3)] := hl
  obtain ⟨H, hH⟩ : ∃ z, z = s.heap := ⟨_, rfl⟩
  obtain ⟨locs, hLc⟩ : ∃ z : List Loc, z = [] := ⟨_, rfl⟩
  have hw : wV D A s.heap ((oW cy aO (aB 0) e_O_images e_O_tape e_O_reader (aP 0) e_O_trial e_O_season e_O_dates (ali 0) e_O_evening e_O_choices SO) ++ ((bW cy aB (als 0) (atd 0) e_B_mentions e_B_claims SB) ++ ((lsW cy als Sls) ++ ((pW cy aP (aJ 0) SP) ++ ((jW cy aJ SJ) ++ ((tW cy atd Std) ++ (tW cy ali Sli))))))) H locs := by rw [hH, hLc]; exact hw
  have hgo : W p l e (rmN 6) s m args below meth c H locs 0 0 (MQ below (eI D cy A (fun u : Ob × Ob × Ob => ((oW cy aO (aB 0) e_O_images e_O_tape e_O_reader (aP 0) e_O_trial e_O_season e_O_dates (ali 0) e_O_evening e_O_choices SO) ++ ((bW cy aB (als 0) (atd 0) e_B_mentions e_B_claims SB) ++ ((lsW cy als Sls) ++ ((pW cy aP (aJ 0) u.1) ++ ((jW cy aJ u.2.1) ++ ((tW cy atd Std) ++ (tW cy ali u.2.2)))))))) (fun (r : Int32) (u : Ob × Ob × Ob) => Q r u.1 u.2.1 u.2.2)) args s (rmN 6).cells (rmN 6).slots A) (F0 m 0 ls []) := ?hgo
  · rw [hH, hLc] at hgo; exact hgo
  refine lv_iload_n hx hb dX8_order_0 rfl (lv_at hl 1 rfl) ?_
  refine lv_aload_n hx hb dX8_order_1 rfl (lv_at hl 0 rfl) ?_
  refine gF (k := 0) hc hw inX8 rfl 0 rfl (by decide) (gm 415 (by decide +kernel) rfl) rfl dX8_order_2 ?_
  refine nVN_I (As := []) (rest := [.int x1]) (wc := ((bW cy aB (als 0) (atd 0) e_B_mentions e_B_claims SB) ++ (tW cy atd Std))) (wr := ((oW cy aO (aB 0) e_O_images e_O_tape e_O_reader (aP 0) e_O_trial e_O_season e_O_dates (ali 0) e_O_evening e_O_choices SO) ++ ((lsW cy als Sls) ++ ((pW cy aP (aJ 0) SP) ++ ((jW cy aJ SJ) ++ (tW cy ali Sli)))))) (isC := [3, 4, 5, 6, 7, 8, 24, 25, 26, 27]) (isR := [0, 1, 2, 9, 10, 11, 12, 13, 14, 15, 16, 17, 18, 19, 20, 21, 22, 23, 28, 29, 30, 31]) hc hw (c_X6_untold hm) lk_X8_194 ⟨rfl, rfl, rfl, rfl, by decide⟩ rfl rfl ⟨Nat.le_of_ble_eq_true rfl, Nat.le_of_ble_eq_true rfl⟩ ⟨Nat.le_of_ble_eq_true rfl, Nat.le_of_ble_eq_true rfl⟩ hl.1 rfl (Nat.le_of_ble_eq_true rfl) rfl dX8_order_5 (fun r1 _ H locs hm hw => ?_)
  have hw : wV D A s.heap ((oW cy aO (aB 0) e_O_images e_O_tape e_O_reader (aP 0) e_O_trial e_O_season e_O_dates (ali 0) e_O_evening e_O_choices SO) ++ ((bW cy aB (als 0) (atd 0) e_B_mentions e_B_claims SB) ++ ((lsW cy als Sls) ++ ((pW cy aP (aJ 0) SP) ++ ((jW cy aJ SJ) ++ ((tW cy atd Std) ++ (tW cy ali Sli))))))) H locs := hw.perm [0, 1, 2, 22, 23, 24, 25, 26, 27, 3, 4, 5, 6, 7, 8, 9, 10, 11, 12, 13, 14, 15, 16, 17, 28, 29, 30, 31, 18, 19, 20, 21] rfl rfl
  refine lv_iconst (v := (-1)) hx hb dX8_order_8 (by decide) ?_
  refine lv_ixor hx hb dX8_order_9 ?_
  refine lv_iand hx hb dX8_order_10 ?_
  refine lv_if_eq (tgt := 16) hx hb dX8_order_11 (by decide) (fun c18 => ?_) (fun c18 => ?_)
  · have hm := hm.1 c18
    refine lv_aload_n hx hb dX8_order_16 rfl (lv_at hl 0 rfl) ?_
    refine gF (k := 8) hc hw inX8 rfl 0 rfl (by decide) (gm 423 (by decide +kernel) rfl) rfl dX8_order_17 ?_
    refine lv_aload_n hx hb dX8_order_20 rfl (lv_at hl 0 rfl) ?_
    refine gF (k := 0) hc hw inX8 rfl 0 rfl (by decide) (gm 415 (by decide +kernel) rfl) rfl dX8_order_21 ?_
    refine nVN_V (As := [.ref (aB 0)]) (rest := []) (wc := ((pW cy aP (aJ 0) SP) ++ ((jW cy aJ SJ) ++ ((bW cy aB (als 0) (atd 0) e_B_mentions e_B_claims SB) ++ (lsW cy als Sls))))) (wr := ((oW cy aO (aB 0) e_O_images e_O_tape e_O_reader (aP 0) e_O_trial e_O_season e_O_dates (ali 0) e_O_evening e_O_choices SO) ++ ((tW cy atd Std) ++ (tW cy ali Sli)))) (isC := [10, 11, 12, 13, 14, 15, 16, 17, 18, 19, 20, 21, 22, 23, 3, 4, 5, 6, 7, 8, 9]) (isR := [0, 1, 2, 24, 25, 26, 27, 28, 29, 30, 31]) hc hw (c_X3_reckonN hm) lk_X8_197 ⟨rfl, rfl, rfl, rfl, by decide⟩ rfl rfl ⟨Nat.le_of_ble_eq_true rfl, Nat.le_of_ble_eq_true rfl⟩ ⟨Nat.le_of_ble_eq_true rfl, Nat.le_of_ble_eq_true rfl⟩ hl.1 rfl (Nat.le_of_ble_eq_true rfl) rfl dX8_order_24 (fun u_4 H locs hm hw => ?_)
    obtain ⟨S3, S4⟩ := u_4
    have hw : wV D A s.heap ((oW cy aO (aB 0) e_O_images e_O_tape e_O_reader (aP 0) e_O_trial e_O_season e_O_dates (ali 0) e_O_evening e_O_choices SO) ++ ((bW cy aB (als 0) (atd 0) e_B_mentions e_B_claims SB) ++ ((lsW cy als Sls) ++ ((pW cy aP (aJ 0) S3) ++ ((jW cy aJ S4) ++ ((tW cy atd Std) ++ (tW cy ali Sli))))))) H locs := hw.perm [0, 1, 2, 25, 26, 27, 28, 29, 30, 31, 11, 12, 13, 14, 15, 16, 17, 18, 19, 20, 21, 22, 23, 24, 3, 4, 5, 6, 7, 8, 9, 10] rfl rfl
    refine lv_aload_n hx hb dX8_order_27 rfl (lv_at hl 0 rfl) ?_
    refine gF (k := 8) hc hw inX8 rfl 0 rfl (by decide) (gm 423 (by decide +kernel) rfl) rfl dX8_order_28 ?_
    refine lv_iload_n hx hb dX8_order_31 rfl (lv_at hl 1 rfl) ?_
    refine lv_aload_n hx hb dX8_order_32 rfl (lv_at hl 0 rfl) ?_
    refine gF (k := 0) hc hw inX8 rfl 0 rfl (by decide) (gm 415 (by decide +kernel) rfl) rfl dX8_order_33 ?_
    refine nVN_I (As := []) (rest := [.int x1, .ref (aP 0)]) (wc := ((bW cy aB (als 0) (atd 0) e_B_mentions e_B_claims SB) ++ (tW cy atd Std))) (wr := ((oW cy aO (aB 0) e_O_images e_O_tape e_O_reader (aP 0) e_O_trial e_O_season e_O_dates (ali 0) e_O_evening e_O_choices SO) ++ ((lsW cy als Sls) ++ ((pW cy aP (aJ 0) S3) ++ ((jW cy aJ S4) ++ (tW cy ali Sli)))))) (isC := [3, 4, 5, 6, 7, 8, 24, 25, 26, 27]) (isR := [0, 1, 2, 9, 10, 11, 12, 13, 14, 15, 16, 17, 18, 19, 20, 21, 22, 23, 28, 29, 30, 31]) hc hw (c_X6_lastYear hm) lk_X8_165 ⟨rfl, rfl, rfl, rfl, by decide⟩ rfl rfl ⟨Nat.le_of_ble_eq_true rfl, Nat.le_of_ble_eq_true rfl⟩ ⟨Nat.le_of_ble_eq_true rfl, Nat.le_of_ble_eq_true rfl⟩ hl.1 rfl (Nat.le_of_ble_eq_true rfl) rfl dX8_order_36 (fun r6 _ H locs hm hw => ?_)
    have hw : wV D A s.heap ((oW cy aO (aB 0) e_O_images e_O_tape e_O_reader (aP 0) e_O_trial e_O_season e_O_dates (ali 0) e_O_evening e_O_choices SO) ++ ((bW cy aB (als 0) (atd 0) e_B_mentions e_B_claims SB) ++ ((lsW cy als Sls) ++ ((pW cy aP (aJ 0) S3) ++ ((jW cy aJ S4) ++ ((tW cy atd Std) ++ (tW cy ali Sli))))))) H locs := hw.perm [0, 1, 2, 22, 23, 24, 25, 26, 27, 3, 4, 5, 6, 7, 8, 9, 10, 11, 12, 13, 14, 15, 16, 17, 28, 29, 30, 31, 18, 19, 20, 21] rfl rfl
    refine lv_aload_n hx hb dX8_order_39 rfl (lv_at hl 0 rfl) ?_
    refine gF (k := 0) hc hw inX8 rfl 0 rfl (by decide) (gm 415 (by decide +kernel) rfl) rfl dX8_order_40 ?_
    refine nVN_I (As := []) (rest := [.int r6, .int x1, .ref (aP 0)]) (wc := ((bW cy aB (als 0) (atd 0) e_B_mentions e_B_claims SB) ++ (tW cy atd Std))) (wr := ((oW cy aO (aB 0) e_O_images e_O_tape e_O_reader (aP 0) e_O_trial e_O_season e_O_dates (ali 0) e_O_evening e_O_choices SO) ++ ((lsW cy als Sls) ++ ((pW cy aP (aJ 0) S3) ++ ((jW cy aJ S4) ++ (tW cy ali Sli)))))) (isC := [3, 4, 5, 6, 7, 8, 24, 25, 26, 27]) (isR := [0, 1, 2, 9, 10, 11, 12, 13, 14, 15, 16, 17, 18, 19, 20, 21, 22, 23, 28, 29, 30, 31]) hc hw (c_X6_lastTeller hm) lk_X8_173 ⟨rfl, rfl, rfl, rfl, by decide⟩ rfl rfl ⟨Nat.le_of_ble_eq_true rfl, Nat.le_of_ble_eq_true rfl⟩ ⟨Nat.le_of_ble_eq_true rfl, Nat.le_of_ble_eq_true rfl⟩ hl.1 rfl (Nat.le_of_ble_eq_true rfl) rfl dX8_order_43 (fun r8 _ H locs hm hw => ?_)
    have hw : wV D A s.heap ((oW cy aO (aB 0) e_O_images e_O_tape e_O_reader (aP 0) e_O_trial e_O_season e_O_dates (ali 0) e_O_evening e_O_choices SO) ++ ((bW cy aB (als 0) (atd 0) e_B_mentions e_B_claims SB) ++ ((lsW cy als Sls) ++ ((pW cy aP (aJ 0) S3) ++ ((jW cy aJ S4) ++ ((tW cy atd Std) ++ (tW cy ali Sli))))))) H locs := hw.perm [0, 1, 2, 22, 23, 24, 25, 26, 27, 3, 4, 5, 6, 7, 8, 9, 10, 11, 12, 13, 14, 15, 16, 17, 28, 29, 30, 31, 18, 19, 20, 21] rfl rfl
    refine nVN_I (As := [.int x1, .int r6, .int r8]) (rest := []) (wc := (pW cy aP (aJ 0) S3)) (wr := ((oW cy aO (aB 0) e_O_images e_O_tape e_O_reader (aP 0) e_O_trial e_O_season e_O_dates (ali 0) e_O_evening e_O_choices SO) ++ ((bW cy aB (als 0) (atd 0) e_B_mentions e_B_claims SB) ++ ((lsW cy als Sls) ++ ((jW cy aJ S4) ++ ((tW cy atd Std) ++ (tW cy ali Sli))))))) (isC := [10, 11, 12, 13, 14, 15, 16, 17, 18, 19, 20]) (isR := [0, 1, 2, 3, 4, 5, 6, 7, 8, 9, 21, 22, 23, 24, 25, 26, 27, 28, 29, 30, 31]) hc hw (c_X3_fits hm) lk_X8_200 ⟨rfl, rfl, rfl, rfl, by decide⟩ rfl rfl ⟨Nat.le_of_ble_eq_true rfl, Nat.le_of_ble_eq_true rfl⟩ ⟨Nat.le_of_ble_eq_true rfl, Nat.le_of_ble_eq_true rfl⟩ hl.1 rfl (Nat.le_of_ble_eq_true rfl) rfl dX8_order_46 (fun r10 _ H locs hm hw => ?_)
    have hw : wV D A s.heap ((oW cy aO (aB 0) e_O_images e_O_tape e_O_reader (aP 0) e_O_trial e_O_season e_O_dates (ali 0) e_O_evening e_O_choices SO) ++ ((bW cy aB (als 0) (atd 0) e_B_mentions e_B_claims SB) ++ ((lsW cy als Sls) ++ ((pW cy aP (aJ 0) S3) ++ ((jW cy aJ S4) ++ ((tW cy atd Std) ++ (tW cy ali Sli))))))) H locs := hw.perm [0, 1, 2, 3, 4, 5, 6, 7, 8, 9, 21, 22, 23, 24, 25, 26, 27, 28, 29, 30, 31, 10, 11, 12, 13, 14, 15, 16, 17, 18, 19, 20] rfl rfl
    refine lv_if_ne (tgt := 54) hx hb dX8_order_49 (by decide) (fun c17 => ?_) (fun c17 => ?_)
    · have hm := hm.1 c17
      refine lv_aload_n hx hb dX8_order_54 rfl (lv_at hl 0 rfl) ?_
      refine gF (k := 8) hc hw inX8 rfl 0 rfl (by decide) (gm 423 (by decide +kernel) rfl) rfl dX8_order_55 ?_
      refine lv_aload_n hx hb dX8_order_58 rfl (lv_at hl 0 rfl) ?_
      refine gF (k := 0) hc hw inX8 rfl 0 rfl (by decide) (gm 415 (by decide +kernel) rfl) rfl dX8_order_59 ?_
      refine lv_iload_n hx hb dX8_order_62 rfl (lv_at hl 1 rfl) ?_
      refine lv_aload_n hx hb dX8_order_63 rfl (lv_at hl 0 rfl) ?_
      refine gF (k := 12) hc hw inX8 rfl 0 rfl (by decide) (gm 427 (by decide +kernel) rfl) rfl dX8_order_64 ?_
      refine nVN_V (As := [.ref (aB 0), .int x1, .ref (ali 0)]) (rest := []) (wc := ((pW cy aP (aJ 0) S3) ++ ((bW cy aB (als 0) (atd 0) e_B_mentions e_B_claims SB) ++ ((tW cy atd Std) ++ (tW cy ali Sli))))) (wr := ((oW cy aO (aB 0) e_O_images e_O_tape e_O_reader (aP 0) e_O_trial e_O_season e_O_dates (ali 0) e_O_evening e_O_choices SO) ++ ((lsW cy als Sls) ++ (jW cy aJ S4)))) (isC := [10, 11, 12, 13, 14, 15, 16, 17, 18, 19, 20, 3, 4, 5, 6, 7, 8, 24, 25, 26, 27, 28, 29, 30, 31]) (isR := [0, 1, 2, 9, 21, 22, 23]) hc hw (c_X3_lineUp hm) lk_X8_222 ⟨rfl, rfl, rfl, rfl, by decide⟩ rfl rfl ⟨Nat.le_of_ble_eq_true rfl, Nat.le_of_ble_eq_true rfl⟩ ⟨Nat.le_of_ble_eq_true rfl, Nat.le_of_ble_eq_true rfl⟩ hl.1 rfl (Nat.le_of_ble_eq_true rfl) rfl dX8_order_67 (fun u_13 H locs hm hw => ?_)
      obtain ⟨S12, S13⟩ := u_13
      have hw : wV D A s.heap ((oW cy aO (aB 0) e_O_images e_O_tape e_O_reader (aP 0) e_O_trial e_O_season e_O_dates (ali 0) e_O_evening e_O_choices SO) ++ ((bW cy aB (als 0) (atd 0) e_B_mentions e_B_claims SB) ++ ((lsW cy als Sls) ++ ((pW cy aP (aJ 0) S12) ++ ((jW cy aJ S4) ++ ((tW cy atd Std) ++ (tW cy ali S13))))))) H locs := hw.perm [0, 1, 2, 18, 19, 20, 21, 22, 23, 3, 7, 8, 9, 10, 11, 12, 13, 14, 15, 16, 17, 4, 5, 6, 24, 25, 26, 27, 28, 29, 30, 31] rfl rfl
      refine lv_aload_n hx hb dX8_order_70 rfl (lv_at hl 0 rfl) ?_
      refine gF (k := 12) hc hw inX8 rfl 0 rfl (by decide) (gm 427 (by decide +kernel) rfl) rfl dX8_order_71 ?_
      refine lv_iload_n hx hb dX8_order_74 rfl (lv_at hl 2 rfl) ?_
      refine lv_iload_n hx hb dX8_order_75 rfl (lv_at hl 3 rfl) ?_
      refine nVN_I (As := [.int x2, .int x3]) (rest := []) (wc := (tW cy ali S13)) (wr := ((oW cy aO (aB 0) e_O_images e_O_tape e_O_reader (aP 0) e_O_trial e_O_season e_O_dates (ali 0) e_O_evening e_O_choices SO) ++ ((bW cy aB (als 0) (atd 0) e_B_mentions e_B_claims SB) ++ ((lsW cy als Sls) ++ ((pW cy aP (aJ 0) S12) ++ ((jW cy aJ S4) ++ (tW cy atd Std))))))) (isC := [28, 29, 30, 31]) (isR := [0, 1, 2, 3, 4, 5, 6, 7, 8, 9, 10, 11, 12, 13, 14, 15, 16, 17, 18, 19, 20, 21, 22, 23, 24, 25, 26, 27]) hc hw (c_X7_at hm) lk_X8_191 ⟨rfl, rfl, rfl, rfl, by decide⟩ rfl rfl ⟨Nat.le_of_ble_eq_true rfl, Nat.le_of_ble_eq_true rfl⟩ ⟨Nat.le_of_ble_eq_true rfl, Nat.le_of_ble_eq_true rfl⟩ hl.1 rfl (Nat.le_of_ble_eq_true rfl) rfl dX8_order_76 (fun r15 _ H locs hm hw => ?_)
      have hw : wV D A s.heap ((oW cy aO (aB 0) e_O_images e_O_tape e_O_reader (aP 0) e_O_trial e_O_season e_O_dates (ali 0) e_O_evening e_O_choices SO) ++ ((bW cy aB (als 0) (atd 0) e_B_mentions e_B_claims SB) ++ ((lsW cy als Sls) ++ ((pW cy aP (aJ 0) S12) ++ ((jW cy aJ S4) ++ ((tW cy atd Std) ++ (tW cy ali S13))))))) H locs := hw.perm [0, 1, 2, 3, 4, 5, 6, 7, 8, 9, 10, 11, 12, 13, 14, 15, 16, 17, 18, 19, 20, 21, 22, 23, 24, 25, 26, 27, 28, 29, 30, 31] rfl rfl
      exact retI (u := (S12, S4, S13)) hc hw hm dX8_order_79
    · have hm := hm.2 c17
      refine lv_iconst (v := (-1)) hx hb dX8_order_52 (by decide) ?_
      exact retI (u := (S3, S4, Sli)) hc hw hm dX8_order_53
  · have hm := hm.2 c18
    refine lv_iconst (v := (-1)) hx hb dX8_order_14 (by decide) ?_
    exact retI (u := (SP, SJ, Sli)) hc hw hm dX8_order_15
set_option maxHeartbeats 4000000 in
set_option maxRecDepth 100000 in
theorem c_X8_wrong {l : Launch} {D : va_G} {cy : Nat → ClassId} {aO : Nat → Nat} {aB : Nat → Nat} {als : Nat → Nat} {aP : Nat → Nat} {aJ : Nat → Nat} {acl : Nat → Nat} {aLw : Nat → Nat} {e_O_images : Nat} {e_O_tape : Nat} {e_O_reader : Nat} {e_O_trial : Option Nat} {e_O_season : Option Nat} {e_O_dates : Nat} {e_O_line : Nat} {e_O_evening : Nat} {e_O_choices : Nat} {e_B_told : Nat} {e_B_mentions : Nat} {SO : Ob} {SB : Ob} {Sls : (Nat → Option Nat)} {SP : Ob} {SJ : Ob} {Scl : Ob} {SLw : Lw} {Q : Int32 → Ob → Ob → Prop} (hm : w_X8_wrong aLw SO SB Sls SP SJ Scl SLw Q) : CtI l yX8_wrong cX8_wrong 1 (some .int) (rmN 5) D cy [.ref (aO 0)] ((oW cy aO (aB 0) e_O_images e_O_tape e_O_reader (aP 0) e_O_trial e_O_season e_O_dates e_O_line e_O_evening e_O_choices SO) ++ ((bW cy aB (als 0) e_B_told e_B_mentions (acl 0) SB) ++ ((lsW cy als Sls) ++ ((pW cy aP (aJ 0) SP) ++ ((jW cy aJ SJ) ++ ((tW cy acl Scl) ++ (lwW cy aLw SLw))))))) (fun u : Ob × Ob => ((oW cy aO (aB 0) e_O_images e_O_tape e_O_reader (aP 0) e_O_trial e_O_season e_O_dates e_O_line e_O_evening e_O_choices SO) ++ ((bW cy aB (als 0) e_B_told e_B_mentions (acl 0) SB) ++ ((lsW cy als Sls) ++ ((pW cy aP (aJ 0) u.1) ++ ((jW cy aJ u.2) ++ ((tW cy acl Scl) ++ (lwW cy aLw SLw)))))))) (fun (r : Int32) (u : Ob × Ob) => Q r u.1 u.2) := by
  refine CtI.ofW (by decide) (Nat.le_of_ble_eq_true rfl) ?_
  intro p e s m args below meth c A ls hc hnm hw hl
  have hx := hc.1.1
  have hb := hc.1.2.1
  have hown := hc.1.2.2.2.1
  have hts := hc.1.2.2.2.2
  have hl : lv_has ls 1 [(0, .ref (aO 0))] := hl
  obtain ⟨H, hH⟩ : ∃ z, z = s.heap := ⟨_, rfl⟩
  obtain ⟨locs, hLc⟩ : ∃ z : List Loc, z = [] := ⟨_, rfl⟩
  have hw : wV D A s.heap ((oW cy aO (aB 0) e_O_images e_O_tape e_O_reader (aP 0) e_O_trial e_O_season e_O_dates e_O_line e_O_evening e_O_choices SO) ++ ((bW cy aB (als 0) e_B_told e_B_mentions (acl 0) SB) ++ ((lsW cy als Sls) ++ ((pW cy aP (aJ 0) SP) ++ ((jW cy aJ SJ) ++ ((tW cy acl Scl) ++ (lwW cy aLw SLw))))))) H locs := by rw [hH, hLc]; exact hw
  have hgo : W p l e (rmN 5) s m args below meth c H locs 0 0 (MQ below (eI D cy A (fun u : Ob × Ob => ((oW cy aO (aB 0) e_O_images e_O_tape e_O_reader (aP 0) e_O_trial e_O_season e_O_dates e_O_line e_O_evening e_O_choices SO) ++ ((bW cy aB (als 0) e_B_told e_B_mentions (acl 0) SB) ++ ((lsW cy als Sls) ++ ((pW cy aP (aJ 0) u.1) ++ ((jW cy aJ u.2) ++ ((tW cy acl Scl) ++ (lwW cy aLw SLw)))))))) (fun (r : Int32) (u : Ob × Ob) => Q r u.1 u.2)) args s (rmN 5).cells (rmN 5).slots A) (F0 m 0 ls []) := ?hgo
  · rw [hH, hLc] at hgo; exact hgo
  refine lv_aload_n hx hb dX8_wrong_0 rfl (lv_at hl 0 rfl) ?_
  refine gF (k := 8) hc hw inX8 rfl 0 rfl (by decide) (gm 423 (by decide +kernel) rfl) rfl dX8_wrong_1 ?_
  refine lv_aload_n hx hb dX8_wrong_4 rfl (lv_at hl 0 rfl) ?_
  refine gF (k := 0) hc hw inX8 rfl 0 rfl (by decide) (gm 415 (by decide +kernel) rfl) rfl dX8_wrong_5 ?_
  refine nVN_V (As := [.ref (aB 0)]) (rest := []) (wc := ((pW cy aP (aJ 0) SP) ++ ((jW cy aJ SJ) ++ ((bW cy aB (als 0) e_B_told e_B_mentions (acl 0) SB) ++ ((lsW cy als Sls) ++ (lwW cy aLw SLw)))))) (wr := ((oW cy aO (aB 0) e_O_images e_O_tape e_O_reader (aP 0) e_O_trial e_O_season e_O_dates e_O_line e_O_evening e_O_choices SO) ++ (tW cy acl Scl))) (isC := [10, 11, 12, 13, 14, 15, 16, 17, 18, 19, 20, 21, 22, 23, 3, 4, 5, 6, 7, 8, 9, 28, 29, 30, 31, 32]) (isR := [0, 1, 2, 24, 25, 26, 27]) hc hw (c_X3_weigh hm) lk_X8_124 ⟨rfl, rfl, rfl, rfl, by decide⟩ rfl rfl ⟨Nat.le_of_ble_eq_true rfl, Nat.le_of_ble_eq_true rfl⟩ ⟨Nat.le_of_ble_eq_true rfl, Nat.le_of_ble_eq_true rfl⟩ hl.1 rfl (Nat.le_of_ble_eq_true rfl) rfl dX8_wrong_8 (fun u_2 H locs hm hw => ?_)
  obtain ⟨S1, S2⟩ := u_2
  have hw : wV D A s.heap ((oW cy aO (aB 0) e_O_images e_O_tape e_O_reader (aP 0) e_O_trial e_O_season e_O_dates e_O_line e_O_evening e_O_choices SO) ++ ((bW cy aB (als 0) e_B_told e_B_mentions (acl 0) SB) ++ ((lsW cy als Sls) ++ ((pW cy aP (aJ 0) S1) ++ ((jW cy aJ S2) ++ ((tW cy acl Scl) ++ (lwW cy aLw SLw))))))) H locs := hw.perm [0, 1, 2, 21, 22, 23, 24, 25, 26, 27, 7, 8, 9, 10, 11, 12, 13, 14, 15, 16, 17, 18, 19, 20, 3, 4, 5, 6, 28, 29, 30, 31, 32] rfl rfl
  refine lv_aload_n hx hb dX8_wrong_11 rfl (lv_at hl 0 rfl) ?_
  refine gF (k := 8) hc hw inX8 rfl 0 rfl (by decide) (gm 423 (by decide +kernel) rfl) rfl dX8_wrong_12 ?_
  refine lv_aload_n hx hb dX8_wrong_15 rfl (lv_at hl 0 rfl) ?_
  refine gF (k := 0) hc hw inX8 rfl 0 rfl (by decide) (gm 415 (by decide +kernel) rfl) rfl dX8_wrong_16 ?_
  refine gN (k := 11) (host := "OlderTale") hc hw inX6 rfl 3 rfl (by decide) (nmm 231 (by decide +kernel)) rfl dX8_wrong_19 ?_
  refine lv_iconst (v := (-1)) hx hb dX8_wrong_22 (by decide) ?_
  refine nVN_I (As := [.ref (acl 0), .int (-1)]) (rest := []) (wc := ((pW cy aP (aJ 0) S1) ++ (tW cy acl Scl))) (wr := ((oW cy aO (aB 0) e_O_images e_O_tape e_O_reader (aP 0) e_O_trial e_O_season e_O_dates e_O_line e_O_evening e_O_choices SO) ++ ((bW cy aB (als 0) e_B_told e_B_mentions (acl 0) SB) ++ ((lsW cy als Sls) ++ ((jW cy aJ S2) ++ (lwW cy aLw SLw)))))) (isC := [10, 11, 12, 13, 14, 15, 16, 17, 18, 19, 20, 24, 25, 26, 27]) (isR := [0, 1, 2, 3, 4, 5, 6, 7, 8, 9, 21, 22, 23, 28, 29, 30, 31, 32]) hc hw (c_X3_firstWrong hm) lk_X8_288 ⟨rfl, rfl, rfl, rfl, by decide⟩ rfl rfl ⟨Nat.le_of_ble_eq_true rfl, Nat.le_of_ble_eq_true rfl⟩ ⟨Nat.le_of_ble_eq_true rfl, Nat.le_of_ble_eq_true rfl⟩ hl.1 rfl (Nat.le_of_ble_eq_true rfl) rfl dX8_wrong_23 (fun r4 _ H locs hm hw => ?_)
  have hw : wV D A s.heap ((oW cy aO (aB 0) e_O_images e_O_tape e_O_reader (aP 0) e_O_trial e_O_season e_O_dates e_O_line e_O_evening e_O_choices SO) ++ ((bW cy aB (als 0) e_B_told e_B_mentions (acl 0) SB) ++ ((lsW cy als Sls) ++ ((pW cy aP (aJ 0) S1) ++ ((jW cy aJ S2) ++ ((tW cy acl Scl) ++ (lwW cy aLw SLw))))))) H locs := hw.perm [0, 1, 2, 3, 4, 5, 6, 7, 8, 9, 18, 19, 20, 21, 22, 23, 24, 25, 26, 27, 28, 10, 11, 12, 29, 30, 31, 32, 13, 14, 15, 16, 17] rfl rfl
  exact retI (u := (S1, S2)) hc hw hm dX8_wrong_26
set_option maxHeartbeats 4000000 in
set_option maxRecDepth 100000 in
theorem c_X8_wrongN {l : Launch} {D : va_G} {cy : Nat → ClassId} {aO : Nat → Nat} {aB : Nat → Nat} {als : Nat → Nat} {aP : Nat → Nat} {aJ : Nat → Nat} {acl : Nat → Nat} {e_O_images : Nat} {e_O_tape : Nat} {e_O_reader : Nat} {e_O_trial : Option Nat} {e_O_season : Option Nat} {e_O_dates : Nat} {e_O_line : Nat} {e_O_evening : Nat} {e_O_choices : Nat} {e_B_told : Nat} {e_B_mentions : Nat} {SO : Ob} {SB : Ob} {Sls : (Nat → Option Nat)} {SP : Ob} {SJ : Ob} {Scl : Ob} {Q : Int32 → Ob → Ob → Prop} (hm : w_X8_wrongN SO SB Sls SP SJ Scl Q) : CtI l yX8_wrong cX8_wrong 1 (some .int) (rmN 5) D cy [.ref (aO 0)] ((oW cy aO (aB 0) e_O_images e_O_tape e_O_reader (aP 0) e_O_trial e_O_season e_O_dates e_O_line e_O_evening e_O_choices SO) ++ ((bW cy aB (als 0) e_B_told e_B_mentions (acl 0) SB) ++ ((lsW cy als Sls) ++ ((pW cy aP (aJ 0) SP) ++ ((jW cy aJ SJ) ++ (tW cy acl Scl)))))) (fun u : Ob × Ob => ((oW cy aO (aB 0) e_O_images e_O_tape e_O_reader (aP 0) e_O_trial e_O_season e_O_dates e_O_line e_O_evening e_O_choices SO) ++ ((bW cy aB (als 0) e_B_told e_B_mentions (acl 0) SB) ++ ((lsW cy als Sls) ++ ((pW cy aP (aJ 0) u.1) ++ ((jW cy aJ u.2) ++ (tW cy acl Scl))))))) (fun (r : Int32) (u : Ob × Ob) => Q r u.1 u.2) := by
  refine CtI.ofW (by decide) (Nat.le_of_ble_eq_true rfl) ?_
  intro p e s m args below meth c A ls hc hnm hw hl
  have hx := hc.1.1
  have hb := hc.1.2.1
  have hown := hc.1.2.2.2.1
  have hts := hc.1.2.2.2.2
  have hl : lv_has ls 1 [(0, .ref (aO 0))] := hl
  obtain ⟨H, hH⟩ : ∃ z, z = s.heap := ⟨_, rfl⟩
  obtain ⟨locs, hLc⟩ : ∃ z : List Loc, z = [] := ⟨_, rfl⟩
  have hw : wV D A s.heap ((oW cy aO (aB 0) e_O_images e_O_tape e_O_reader (aP 0) e_O_trial e_O_season e_O_dates e_O_line e_O_evening e_O_choices SO) ++ ((bW cy aB (als 0) e_B_told e_B_mentions (acl 0) SB) ++ ((lsW cy als Sls) ++ ((pW cy aP (aJ 0) SP) ++ ((jW cy aJ SJ) ++ (tW cy acl Scl)))))) H locs := by rw [hH, hLc]; exact hw
  have hgo : W p l e (rmN 5) s m args below meth c H locs 0 0 (MQ below (eI D cy A (fun u : Ob × Ob => ((oW cy aO (aB 0) e_O_images e_O_tape e_O_reader (aP 0) e_O_trial e_O_season e_O_dates e_O_line e_O_evening e_O_choices SO) ++ ((bW cy aB (als 0) e_B_told e_B_mentions (acl 0) SB) ++ ((lsW cy als Sls) ++ ((pW cy aP (aJ 0) u.1) ++ ((jW cy aJ u.2) ++ (tW cy acl Scl))))))) (fun (r : Int32) (u : Ob × Ob) => Q r u.1 u.2)) args s (rmN 5).cells (rmN 5).slots A) (F0 m 0 ls []) := ?hgo
  · rw [hH, hLc] at hgo; exact hgo
  refine lv_aload_n hx hb dX8_wrong_0 rfl (lv_at hl 0 rfl) ?_
  refine gF (k := 8) hc hw inX8 rfl 0 rfl (by decide) (gm 423 (by decide +kernel) rfl) rfl dX8_wrong_1 ?_
  refine lv_aload_n hx hb dX8_wrong_4 rfl (lv_at hl 0 rfl) ?_
  refine gF (k := 0) hc hw inX8 rfl 0 rfl (by decide) (gm 415 (by decide +kernel) rfl) rfl dX8_wrong_5 ?_
  refine nVN_V (As := [.ref (aB 0)]) (rest := []) (wc := ((pW cy aP (aJ 0) SP) ++ ((jW cy aJ SJ) ++ ((bW cy aB (als 0) e_B_told e_B_mentions (acl 0) SB) ++ (lsW cy als Sls))))) (wr := ((oW cy aO (aB 0) e_O_images e_O_tape e_O_reader (aP 0) e_O_trial e_O_season e_O_dates e_O_line e_O_evening e_O_choices SO) ++ (tW cy acl Scl))) (isC := [10, 11, 12, 13, 14, 15, 16, 17, 18, 19, 20, 21, 22, 23, 3, 4, 5, 6, 7, 8, 9]) (isR := [0, 1, 2, 24, 25, 26, 27]) hc hw (c_X3_weighN hm) lk_X8_124 ⟨rfl, rfl, rfl, rfl, by decide⟩ rfl rfl ⟨Nat.le_of_ble_eq_true rfl, Nat.le_of_ble_eq_true rfl⟩ ⟨Nat.le_of_ble_eq_true rfl, Nat.le_of_ble_eq_true rfl⟩ hl.1 rfl (Nat.le_of_ble_eq_true rfl) rfl dX8_wrong_8 (fun u_2 H locs hm hw => ?_)
  obtain ⟨S1, S2⟩ := u_2
  have hw : wV D A s.heap ((oW cy aO (aB 0) e_O_images e_O_tape e_O_reader (aP 0) e_O_trial e_O_season e_O_dates e_O_line e_O_evening e_O_choices SO) ++ ((bW cy aB (als 0) e_B_told e_B_mentions (acl 0) SB) ++ ((lsW cy als Sls) ++ ((pW cy aP (aJ 0) S1) ++ ((jW cy aJ S2) ++ (tW cy acl Scl)))))) H locs := hw.perm [0, 1, 2, 21, 22, 23, 24, 25, 26, 27, 7, 8, 9, 10, 11, 12, 13, 14, 15, 16, 17, 18, 19, 20, 3, 4, 5, 6] rfl rfl
  refine lv_aload_n hx hb dX8_wrong_11 rfl (lv_at hl 0 rfl) ?_
  refine gF (k := 8) hc hw inX8 rfl 0 rfl (by decide) (gm 423 (by decide +kernel) rfl) rfl dX8_wrong_12 ?_
  refine lv_aload_n hx hb dX8_wrong_15 rfl (lv_at hl 0 rfl) ?_
  refine gF (k := 0) hc hw inX8 rfl 0 rfl (by decide) (gm 415 (by decide +kernel) rfl) rfl dX8_wrong_16 ?_
  refine gN (k := 11) (host := "OlderTale") hc hw inX6 rfl 3 rfl (by decide) (nmm 231 (by decide +kernel)) rfl dX8_wrong_19 ?_
  refine lv_iconst (v := (-1)) hx hb dX8_wrong_22 (by decide) ?_
  refine nVN_I (As := [.ref (acl 0), .int (-1)]) (rest := []) (wc := ((pW cy aP (aJ 0) S1) ++ (tW cy acl Scl))) (wr := ((oW cy aO (aB 0) e_O_images e_O_tape e_O_reader (aP 0) e_O_trial e_O_season e_O_dates e_O_line e_O_evening e_O_choices SO) ++ ((bW cy aB (als 0) e_B_told e_B_mentions (acl 0) SB) ++ ((lsW cy als Sls) ++ (jW cy aJ S2))))) (isC := [10, 11, 12, 13, 14, 15, 16, 17, 18, 19, 20, 24, 25, 26, 27]) (isR := [0, 1, 2, 3, 4, 5, 6, 7, 8, 9, 21, 22, 23]) hc hw (c_X3_firstWrong hm) lk_X8_288 ⟨rfl, rfl, rfl, rfl, by decide⟩ rfl rfl ⟨Nat.le_of_ble_eq_true rfl, Nat.le_of_ble_eq_true rfl⟩ ⟨Nat.le_of_ble_eq_true rfl, Nat.le_of_ble_eq_true rfl⟩ hl.1 rfl (Nat.le_of_ble_eq_true rfl) rfl dX8_wrong_23 (fun r4 _ H locs hm hw => ?_)
  have hw : wV D A s.heap ((oW cy aO (aB 0) e_O_images e_O_tape e_O_reader (aP 0) e_O_trial e_O_season e_O_dates e_O_line e_O_evening e_O_choices SO) ++ ((bW cy aB (als 0) e_B_told e_B_mentions (acl 0) SB) ++ ((lsW cy als Sls) ++ ((pW cy aP (aJ 0) S1) ++ ((jW cy aJ S2) ++ (tW cy acl Scl)))))) H locs := hw.perm [0, 1, 2, 3, 4, 5, 6, 7, 8, 9, 13, 14, 15, 16, 17, 18, 19, 20, 21, 22, 23, 10, 11, 12, 24, 25, 26, 27] rfl rfl
  exact retI (u := (S1, S2)) hc hw hm dX8_wrong_26
set_option maxHeartbeats 4000000 in
set_option maxRecDepth 100000 in
theorem c_X8_liars {l : Launch} {D : va_G} {cy : Nat → ClassId} {aO : Nat → Nat} {aB : Nat → Nat} {als : Nat → Nat} {aP : Nat → Nat} {aJ : Nat → Nat} {acl : Nat → Nat} {aLw : Nat → Nat} {e_O_images : Nat} {e_O_tape : Nat} {e_O_reader : Nat} {e_O_trial : Option Nat} {e_O_season : Option Nat} {e_O_dates : Nat} {e_O_line : Nat} {e_O_evening : Nat} {e_O_choices : Nat} {e_B_told : Nat} {e_B_mentions : Nat} {SO : Ob} {SB : Ob} {Sls : (Nat → Option Nat)} {SP : Ob} {SJ : Ob} {Scl : Ob} {SLw : Lw} {Q : Int32 → Ob → Ob → Prop} (hm : w_X8_liars aLw SO SB Sls SP SJ Scl SLw Q) : CtI l yX8_liars cX8_liars 3 (some .int) (rmN 5) D cy [.ref (aO 0)] ((oW cy aO (aB 0) e_O_images e_O_tape e_O_reader (aP 0) e_O_trial e_O_season e_O_dates e_O_line e_O_evening e_O_choices SO) ++ ((bW cy aB (als 0) e_B_told e_B_mentions (acl 0) SB) ++ ((lsW cy als Sls) ++ ((pW cy aP (aJ 0) SP) ++ ((jW cy aJ SJ) ++ ((tW cy acl Scl) ++ (lwW cy aLw SLw))))))) (fun u : Ob × Ob => ((oW cy aO (aB 0) e_O_images e_O_tape e_O_reader (aP 0) e_O_trial e_O_season e_O_dates e_O_line e_O_evening e_O_choices SO) ++ ((bW cy aB (als 0) e_B_told e_B_mentions (acl 0) SB) ++ ((lsW cy als Sls) ++ ((pW cy aP (aJ 0) u.1) ++ ((jW cy aJ u.2) ++ ((tW cy acl Scl) ++ (lwW cy aLw SLw)))))))) (fun (r : Int32) (u : Ob × Ob) => Q r u.1 u.2) := by
  refine CtI.ofW (by decide) (Nat.le_of_ble_eq_true rfl) ?_
  intro p e s m args below meth c A ls hc hnm hw hl
  have hx := hc.1.1
  have hb := hc.1.2.1
  have hown := hc.1.2.2.2.1
  have hts := hc.1.2.2.2.2
  have hl : lv_has ls 3 [(0, .ref (aO 0))] := hl
  obtain ⟨H, hH⟩ : ∃ z, z = s.heap := ⟨_, rfl⟩
  obtain ⟨locs, hLc⟩ : ∃ z : List Loc, z = [] := ⟨_, rfl⟩
  have hw : wV D A s.heap ((oW cy aO (aB 0) e_O_images e_O_tape e_O_reader (aP 0) e_O_trial e_O_season e_O_dates e_O_line e_O_evening e_O_choices SO) ++ ((bW cy aB (als 0) e_B_told e_B_mentions (acl 0) SB) ++ ((lsW cy als Sls) ++ ((pW cy aP (aJ 0) SP) ++ ((jW cy aJ SJ) ++ ((tW cy acl Scl) ++ (lwW cy aLw SLw))))))) H locs := by rw [hH, hLc]; exact hw
  have hgo : W p l e (rmN 5) s m args below meth c H locs 0 0 (MQ below (eI D cy A (fun u : Ob × Ob => ((oW cy aO (aB 0) e_O_images e_O_tape e_O_reader (aP 0) e_O_trial e_O_season e_O_dates e_O_line e_O_evening e_O_choices SO) ++ ((bW cy aB (als 0) e_B_told e_B_mentions (acl 0) SB) ++ ((lsW cy als Sls) ++ ((pW cy aP (aJ 0) u.1) ++ ((jW cy aJ u.2) ++ ((tW cy acl Scl) ++ (lwW cy aLw SLw)))))))) (fun (r : Int32) (u : Ob × Ob) => Q r u.1 u.2)) args s (rmN 5).cells (rmN 5).slots A) (F0 m 0 ls []) := ?hgo
  · rw [hH, hLc] at hgo; exact hgo
  refine lv_aload_n hx hb dX8_liars_0 rfl (lv_at hl 0 rfl) ?_
  refine gF (k := 8) hc hw inX8 rfl 0 rfl (by decide) (gm 423 (by decide +kernel) rfl) rfl dX8_liars_1 ?_
  refine lv_aload_n hx hb dX8_liars_4 rfl (lv_at hl 0 rfl) ?_
  refine gF (k := 0) hc hw inX8 rfl 0 rfl (by decide) (gm 415 (by decide +kernel) rfl) rfl dX8_liars_5 ?_
  refine nVN_V (As := [.ref (aB 0)]) (rest := []) (wc := ((pW cy aP (aJ 0) SP) ++ ((jW cy aJ SJ) ++ ((bW cy aB (als 0) e_B_told e_B_mentions (acl 0) SB) ++ ((lsW cy als Sls) ++ (lwW cy aLw SLw)))))) (wr := ((oW cy aO (aB 0) e_O_images e_O_tape e_O_reader (aP 0) e_O_trial e_O_season e_O_dates e_O_line e_O_evening e_O_choices SO) ++ (tW cy acl Scl))) (isC := [10, 11, 12, 13, 14, 15, 16, 17, 18, 19, 20, 21, 22, 23, 3, 4, 5, 6, 7, 8, 9, 28, 29, 30, 31, 32]) (isR := [0, 1, 2, 24, 25, 26, 27]) hc hw (c_X3_weigh hm) lk_X8_124 ⟨rfl, rfl, rfl, rfl, by decide⟩ rfl rfl ⟨Nat.le_of_ble_eq_true rfl, Nat.le_of_ble_eq_true rfl⟩ ⟨Nat.le_of_ble_eq_true rfl, Nat.le_of_ble_eq_true rfl⟩ hl.1 rfl (Nat.le_of_ble_eq_true rfl) rfl dX8_liars_8 (fun u_2 H locs hm hw => ?_)
  obtain ⟨S1, S2⟩ := u_2
  have hw : wV D A s.heap ((oW cy aO (aB 0) e_O_images e_O_tape e_O_reader (aP 0) e_O_trial e_O_season e_O_dates e_O_line e_O_evening e_O_choices SO) ++ ((bW cy aB (als 0) e_B_told e_B_mentions (acl 0) SB) ++ ((lsW cy als Sls) ++ ((pW cy aP (aJ 0) S1) ++ ((jW cy aJ S2) ++ ((tW cy acl Scl) ++ (lwW cy aLw SLw))))))) H locs := hw.perm [0, 1, 2, 21, 22, 23, 24, 25, 26, 27, 7, 8, 9, 10, 11, 12, 13, 14, 15, 16, 17, 18, 19, 20, 3, 4, 5, 6, 28, 29, 30, 31, 32] rfl rfl
  refine lv_iconst (v := 0) hx hb dX8_liars_11 (by decide) ?_
  refine lv_istore_n (lv' := [(1, .int 0), (0, .ref (aO 0))]) hx hb dX8_liars_12 rfl hl (by decide) rfl (fun ls hl => ?_)
  refine lv_iconst (v := 0) hx hb dX8_liars_13 (by decide) ?_
  refine lv_istore_n (lv' := [(2, .int 0), (1, .int 0), (0, .ref (aO 0))]) hx hb dX8_liars_14 rfl hl (by decide) rfl (fun ls hl => ?_)
  refine wl2_ind (G := fun (x2_4 : Int32) (x1_5 : Int32) => ∀ (H : Heap) (locs : List Loc) (ls : Array Slot), wV D A s.heap ((oW cy aO (aB 0) e_O_images e_O_tape e_O_reader (aP 0) e_O_trial e_O_season e_O_dates e_O_line e_O_evening e_O_choices SO) ++ ((bW cy aB (als 0) e_B_told e_B_mentions (acl 0) SB) ++ ((lsW cy als Sls) ++ ((pW cy aP (aJ 0) S1) ++ ((jW cy aJ S2) ++ ((tW cy acl Scl) ++ (lwW cy aLw SLw))))))) H locs → lv_has ls 3 [(2, .int x2_4), (1, .int x1_5), (0, .ref (aO 0))] → W p l e (rmN 5) s m args below meth c H locs 0 0 (MQ below (eI D cy A (fun u : Ob × Ob => ((oW cy aO (aB 0) e_O_images e_O_tape e_O_reader (aP 0) e_O_trial e_O_season e_O_dates e_O_line e_O_evening e_O_choices SO) ++ ((bW cy aB (als 0) e_B_told e_B_mentions (acl 0) SB) ++ ((lsW cy als Sls) ++ ((pW cy aP (aJ 0) u.1) ++ ((jW cy aJ u.2) ++ ((tW cy acl Scl) ++ (lwW cy aLw SLw)))))))) (fun (r : Int32) (u : Ob × Ob) => Q r u.1 u.2)) args s (rmN 5).cells (rmN 5).slots A) (F0 m 15 ls [])) ?_ _ _ hm H locs ls hw (lv_sub hl [0, 1, 2] rfl)
  intro L6 ih6 x2_4 x1_5 hm H locs ls hw hl
  refine lv_iload_n hx hb dX8_liars_15 rfl (lv_at hl 0 rfl) ?_
  refine lv_aload_n hx hb dX8_liars_16 rfl (lv_at hl 2 rfl) ?_
  refine gF (k := 0) hc hw inX8 rfl 0 rfl (by decide) (gm 415 (by decide +kernel) rfl) rfl dX8_liars_17 ?_
  refine gN (k := 11) (host := "OlderTale") hc hw inX6 rfl 3 rfl (by decide) (nmm 231 (by decide +kernel)) rfl dX8_liars_20 ?_
  refine gN (k := 3) (host := "OlderTale") hc hw inX7 rfl 24 rfl (by decide) (nmm 183 (by decide +kernel)) rfl dX8_liars_23 ?_
  refine lv_icmp_ge (tgt := 60) hx hb dX8_liars_26 (by decide) (fun c13 => ?_) (fun c13 => ?_)
  · have hm := hm.1 c13
    refine lv_iload_n hx hb dX8_liars_60 rfl (lv_at hl 1 rfl) ?_
    exact retI (u := (S1, S2)) hc hw hm dX8_liars_61
  · have hm := hm.2 c13
    refine lv_aload_n hx hb dX8_liars_29 rfl (lv_at hl 2 rfl) ?_
    refine gF (k := 8) hc hw inX8 rfl 0 rfl (by decide) (gm 423 (by decide +kernel) rfl) rfl dX8_liars_30 ?_
    refine lv_aload_n hx hb dX8_liars_33 rfl (lv_at hl 2 rfl) ?_
    refine gF (k := 0) hc hw inX8 rfl 0 rfl (by decide) (gm 415 (by decide +kernel) rfl) rfl dX8_liars_34 ?_
    refine gN (k := 11) (host := "OlderTale") hc hw inX6 rfl 3 rfl (by decide) (nmm 231 (by decide +kernel)) rfl dX8_liars_37 ?_
    refine lv_iload_n hx hb dX8_liars_40 rfl (lv_at hl 0 rfl) ?_
    refine nVN_I (As := [.ref (acl 0), .int x2_4]) (rest := []) (wc := ((pW cy aP (aJ 0) S1) ++ (tW cy acl Scl))) (wr := ((oW cy aO (aB 0) e_O_images e_O_tape e_O_reader (aP 0) e_O_trial e_O_season e_O_dates e_O_line e_O_evening e_O_choices SO) ++ ((bW cy aB (als 0) e_B_told e_B_mentions (acl 0) SB) ++ ((lsW cy als Sls) ++ ((jW cy aJ S2) ++ (lwW cy aLw SLw)))))) (isC := [10, 11, 12, 13, 14, 15, 16, 17, 18, 19, 20, 24, 25, 26, 27]) (isR := [0, 1, 2, 3, 4, 5, 6, 7, 8, 9, 21, 22, 23, 28, 29, 30, 31, 32]) hc hw (c_X3_firstWrong hm) lk_X8_288 ⟨rfl, rfl, rfl, rfl, by decide⟩ rfl rfl ⟨Nat.le_of_ble_eq_true rfl, Nat.le_of_ble_eq_true rfl⟩ ⟨Nat.le_of_ble_eq_true rfl, Nat.le_of_ble_eq_true rfl⟩ hl.1 rfl (Nat.le_of_ble_eq_true rfl) rfl dX8_liars_41 (fun r7 _ H locs hm hw => ?_)
    have hw : wV D A s.heap ((oW cy aO (aB 0) e_O_images e_O_tape e_O_reader (aP 0) e_O_trial e_O_season e_O_dates e_O_line e_O_evening e_O_choices SO) ++ ((bW cy aB (als 0) e_B_told e_B_mentions (acl 0) SB) ++ ((lsW cy als Sls) ++ ((pW cy aP (aJ 0) S1) ++ ((jW cy aJ S2) ++ ((tW cy acl Scl) ++ (lwW cy aLw SLw))))))) H locs := hw.perm [0, 1, 2, 3, 4, 5, 6, 7, 8, 9, 18, 19, 20, 21, 22, 23, 24, 25, 26, 27, 28, 10, 11, 12, 29, 30, 31, 32, 13, 14, 15, 16, 17] rfl rfl
    refine lv_iconst (v := (-1)) hx hb dX8_liars_44 (by decide) ?_
    refine lv_icmp_ne (tgt := 54) hx hb dX8_liars_45 (by decide) (fun c12 => ?_) (fun c12 => ?_)
    · have hm := hm.1 c12
      obtain ⟨v9, e_v9⟩ : ∃ z : Int32, z = x2_4 + 1 := ⟨_, rfl⟩
      have hm := hm v9 e_v9
      refine lv_iinc (v := v9) (lv' := [(2, .int v9), (1, .int x1_5), (0, .ref (aO 0))]) hx hb dX8_liars_54 hl (k := 0) rfl (by rw [e_v9]; rfl) (by decide) rfl (fun ls hl => ?_)
      refine lv_goto (tgt := 15) hx hb dX8_liars_57 (by decide) ?_
      exact ih6 _ _ hm _ _ _ hw (lv_sub hl [0, 1, 2] rfl)
    · have hm := hm.2 c12
      refine lv_iload_n hx hb dX8_liars_48 rfl (lv_at hl 1 rfl) ?_
      refine lv_iconst (v := 1) hx hb dX8_liars_49 (by decide) ?_
      refine lv_iload_n hx hb dX8_liars_50 rfl (lv_at hl 0 rfl) ?_
      refine lv_ishl hx hb dX8_liars_51 ?_
      refine lv_ior hx hb dX8_liars_52 ?_
      refine lv_topi (fun v10 e_v10 => ?_)
      have hm := hm v10 e_v10
      refine lv_istore_n (lv' := [(1, .int v10), (2, .int x2_4), (0, .ref (aO 0))]) hx hb dX8_liars_53 rfl hl (by decide) rfl (fun ls hl => ?_)
      obtain ⟨v11, e_v11⟩ : ∃ z : Int32, z = x2_4 + 1 := ⟨_, rfl⟩
      have hm := hm v11 e_v11
      refine lv_iinc (v := v11) (lv' := [(2, .int v11), (1, .int v10), (0, .ref (aO 0))]) hx hb dX8_liars_54 hl (k := 1) rfl (by rw [e_v11]; rfl) (by decide) rfl (fun ls hl => ?_)
      refine lv_goto (tgt := 15) hx hb dX8_liars_57 (by decide) ?_
      exact ih6 _ _ hm _ _ _ hw (lv_sub hl [0, 1, 2] rfl)
set_option maxHeartbeats 4000000 in
set_option maxRecDepth 100000 in
theorem c_X8_liarsN {l : Launch} {D : va_G} {cy : Nat → ClassId} {aO : Nat → Nat} {aB : Nat → Nat} {als : Nat → Nat} {aP : Nat → Nat} {aJ : Nat → Nat} {acl : Nat → Nat} {e_O_images : Nat} {e_O_tape : Nat} {e_O_reader : Nat} {e_O_trial : Option Nat} {e_O_season : Option Nat} {e_O_dates : Nat} {e_O_line : Nat} {e_O_evening : Nat} {e_O_choices : Nat} {e_B_told : Nat} {e_B_mentions : Nat} {SO : Ob} {SB : Ob} {Sls : (Nat → Option Nat)} {SP : Ob} {SJ : Ob} {Scl : Ob} {Q : Int32 → Ob → Ob → Prop} (hm : w_X8_liarsN SO SB Sls SP SJ Scl Q) : CtI l yX8_liars cX8_liars 3 (some .int) (rmN 5) D cy [.ref (aO 0)] ((oW cy aO (aB 0) e_O_images e_O_tape e_O_reader (aP 0) e_O_trial e_O_season e_O_dates e_O_line e_O_evening e_O_choices SO) ++ ((bW cy aB (als 0) e_B_told e_B_mentions (acl 0) SB) ++ ((lsW cy als Sls) ++ ((pW cy aP (aJ 0) SP) ++ ((jW cy aJ SJ) ++ (tW cy acl Scl)))))) (fun u : Ob × Ob => ((oW cy aO (aB 0) e_O_images e_O_tape e_O_reader (aP 0) e_O_trial e_O_season e_O_dates e_O_line e_O_evening e_O_choices SO) ++ ((bW cy aB (als 0) e_B_told e_B_mentions (acl 0) SB) ++ ((lsW cy als Sls) ++ ((pW cy aP (aJ 0) u.1) ++ ((jW cy aJ u.2) ++ (tW cy acl Scl))))))) (fun (r : Int32) (u : Ob × Ob) => Q r u.1 u.2) := by
  refine CtI.ofW (by decide) (Nat.le_of_ble_eq_true rfl) ?_
  intro p e s m args below meth c A ls hc hnm hw hl
  have hx := hc.1.1
  have hb := hc.1.2.1
  have hown := hc.1.2.2.2.1
  have hts := hc.1.2.2.2.2
  have hl : lv_has ls 3 [(0, .ref (aO 0))] := hl
  obtain ⟨H, hH⟩ : ∃ z, z = s.heap := ⟨_, rfl⟩
  obtain ⟨locs, hLc⟩ : ∃ z : List Loc, z = [] := ⟨_, rfl⟩
  have hw : wV D A s.heap ((oW cy aO (aB 0) e_O_images e_O_tape e_O_reader (aP 0) e_O_trial e_O_season e_O_dates e_O_line e_O_evening e_O_choices SO) ++ ((bW cy aB (als 0) e_B_told e_B_mentions (acl 0) SB) ++ ((lsW cy als Sls) ++ ((pW cy aP (aJ 0) SP) ++ ((jW cy aJ SJ) ++ (tW cy acl Scl)))))) H locs := by rw [hH, hLc]; exact hw
  have hgo : W p l e (rmN 5) s m args below meth c H locs 0 0 (MQ below (eI D cy A (fun u : Ob × Ob => ((oW cy aO (aB 0) e_O_images e_O_tape e_O_reader (aP 0) e_O_trial e_O_season e_O_dates e_O_line e_O_evening e_O_choices SO) ++ ((bW cy aB (als 0) e_B_told e_B_mentions (acl 0) SB) ++ ((lsW cy als Sls) ++ ((pW cy aP (aJ 0) u.1) ++ ((jW cy aJ u.2) ++ (tW cy acl Scl))))))) (fun (r : Int32) (u : Ob × Ob) => Q r u.1 u.2)) args s (rmN 5).cells (rmN 5).slots A) (F0 m 0 ls []) := ?hgo
  · rw [hH, hLc] at hgo; exact hgo
  refine lv_aload_n hx hb dX8_liars_0 rfl (lv_at hl 0 rfl) ?_
  refine gF (k := 8) hc hw inX8 rfl 0 rfl (by decide) (gm 423 (by decide +kernel) rfl) rfl dX8_liars_1 ?_
  refine lv_aload_n hx hb dX8_liars_4 rfl (lv_at hl 0 rfl) ?_
  refine gF (k := 0) hc hw inX8 rfl 0 rfl (by decide) (gm 415 (by decide +kernel) rfl) rfl dX8_liars_5 ?_
  refine nVN_V (As := [.ref (aB 0)]) (rest := []) (wc := ((pW cy aP (aJ 0) SP) ++ ((jW cy aJ SJ) ++ ((bW cy aB (als 0) e_B_told e_B_mentions (acl 0) SB) ++ (lsW cy als Sls))))) (wr := ((oW cy aO (aB 0) e_O_images e_O_tape e_O_reader (aP 0) e_O_trial e_O_season e_O_dates e_O_line e_O_evening e_O_choices SO) ++ (tW cy acl Scl))) (isC := [10, 11, 12, 13, 14, 15, 16, 17, 18, 19, 20, 21, 22, 23, 3, 4, 5, 6, 7, 8, 9]) (isR := [0, 1, 2, 24, 25, 26, 27]) hc hw (c_X3_weighN hm) lk_X8_124 ⟨rfl, rfl, rfl, rfl, by decide⟩ rfl rfl ⟨Nat.le_of_ble_eq_true rfl, Nat.le_of_ble_eq_true rfl⟩ ⟨Nat.le_of_ble_eq_true rfl, Nat.le_of_ble_eq_true rfl⟩ hl.1 rfl (Nat.le_of_ble_eq_true rfl) rfl dX8_liars_8 (fun u_2 H locs hm hw => ?_)
  obtain ⟨S1, S2⟩ := u_2
  have hw : wV D A s.heap ((oW cy aO (aB 0) e_O_images e_O_tape e_O_reader (aP 0) e_O_trial e_O_season e_O_dates e_O_line e_O_evening e_O_choices SO) ++ ((bW cy aB (als 0) e_B_told e_B_mentions (acl 0) SB) ++ ((lsW cy als Sls) ++ ((pW cy aP (aJ 0) S1) ++ ((jW cy aJ S2) ++ (tW cy acl Scl)))))) H locs := hw.perm [0, 1, 2, 21, 22, 23, 24, 25, 26, 27, 7, 8, 9, 10, 11, 12, 13, 14, 15, 16, 17, 18, 19, 20, 3, 4, 5, 6] rfl rfl
  refine lv_iconst (v := 0) hx hb dX8_liars_11 (by decide) ?_
  refine lv_istore_n (lv' := [(1, .int 0), (0, .ref (aO 0))]) hx hb dX8_liars_12 rfl hl (by decide) rfl (fun ls hl => ?_)
  refine lv_iconst (v := 0) hx hb dX8_liars_13 (by decide) ?_
  refine lv_istore_n (lv' := [(2, .int 0), (1, .int 0), (0, .ref (aO 0))]) hx hb dX8_liars_14 rfl hl (by decide) rfl (fun ls hl => ?_)
  refine wl2_ind (G := fun (x2_4 : Int32) (x1_5 : Int32) => ∀ (H : Heap) (locs : List Loc) (ls : Array Slot), wV D A s.heap ((oW cy aO (aB 0) e_O_images e_O_tape e_O_reader (aP 0) e_O_trial e_O_season e_O_dates e_O_line e_O_evening e_O_choices SO) ++ ((bW cy aB (als 0) e_B_told e_B_mentions (acl 0) SB) ++ ((lsW cy als Sls) ++ ((pW cy aP (aJ 0) S1) ++ ((jW cy aJ S2) ++ (tW cy acl Scl)))))) H locs → lv_has ls 3 [(2, .int x2_4), (1, .int x1_5), (0, .ref (aO 0))] → W p l e (rmN 5) s m args below meth c H locs 0 0 (MQ below (eI D cy A (fun u : Ob × Ob => ((oW cy aO (aB 0) e_O_images e_O_tape e_O_reader (aP 0) e_O_trial e_O_season e_O_dates e_O_line e_O_evening e_O_choices SO) ++ ((bW cy aB (als 0) e_B_told e_B_mentions (acl 0) SB) ++ ((lsW cy als Sls) ++ ((pW cy aP (aJ 0) u.1) ++ ((jW cy aJ u.2) ++ (tW cy acl Scl))))))) (fun (r : Int32) (u : Ob × Ob) => Q r u.1 u.2)) args s (rmN 5).cells (rmN 5).slots A) (F0 m 15 ls [])) ?_ _ _ hm H locs ls hw (lv_sub hl [0, 1, 2] rfl)
  intro L6 ih6 x2_4 x1_5 hm H locs ls hw hl
  refine lv_iload_n hx hb dX8_liars_15 rfl (lv_at hl 0 rfl) ?_
  refine lv_aload_n hx hb dX8_liars_16 rfl (lv_at hl 2 rfl) ?_
  refine gF (k := 0) hc hw inX8 rfl 0 rfl (by decide) (gm 415 (by decide +kernel) rfl) rfl dX8_liars_17 ?_
  refine gN (k := 11) (host := "OlderTale") hc hw inX6 rfl 3 rfl (by decide) (nmm 231 (by decide +kernel)) rfl dX8_liars_20 ?_
  refine gN (k := 3) (host := "OlderTale") hc hw inX7 rfl 24 rfl (by decide) (nmm 183 (by decide +kernel)) rfl dX8_liars_23 ?_
  refine lv_icmp_ge (tgt := 60) hx hb dX8_liars_26 (by decide) (fun c13 => ?_) (fun c13 => ?_)
  · have hm := hm.1 c13
    refine lv_iload_n hx hb dX8_liars_60 rfl (lv_at hl 1 rfl) ?_
    exact retI (u := (S1, S2)) hc hw hm dX8_liars_61
  · have hm := hm.2 c13
    refine lv_aload_n hx hb dX8_liars_29 rfl (lv_at hl 2 rfl) ?_
    refine gF (k := 8) hc hw inX8 rfl 0 rfl (by decide) (gm 423 (by decide +kernel) rfl) rfl dX8_liars_30 ?_
    refine lv_aload_n hx hb dX8_liars_33 rfl (lv_at hl 2 rfl) ?_
    refine gF (k := 0) hc hw inX8 rfl 0 rfl (by decide) (gm 415 (by decide +kernel) rfl) rfl dX8_liars_34 ?_
    refine gN (k := 11) (host := "OlderTale") hc hw inX6 rfl 3 rfl (by decide) (nmm 231 (by decide +kernel)) rfl dX8_liars_37 ?_
    refine lv_iload_n hx hb dX8_liars_40 rfl (lv_at hl 0 rfl) ?_
    refine nVN_I (As := [.ref (acl 0), .int x2_4]) (rest := []) (wc := ((pW cy aP (aJ 0) S1) ++ (tW cy acl Scl))) (wr := ((oW cy aO (aB 0) e_O_images e_O_tape e_O_reader (aP 0) e_O_trial e_O_season e_O_dates e_O_line e_O_evening e_O_choices SO) ++ ((bW cy aB (als 0) e_B_told e_B_mentions (acl 0) SB) ++ ((lsW cy als Sls) ++ (jW cy aJ S2))))) (isC := [10, 11, 12, 13, 14, 15, 16, 17, 18, 19, 20, 24, 25, 26, 27]) (isR := [0, 1, 2, 3, 4, 5, 6, 7, 8, 9, 21, 22, 23]) hc hw (c_X3_firstWrong hm) lk_X8_288 ⟨rfl, rfl, rfl, rfl, by decide⟩ rfl rfl ⟨Nat.le_of_ble_eq_true rfl, Nat.le_of_ble_eq_true rfl⟩ ⟨Nat.le_of_ble_eq_true rfl, Nat.le_of_ble_eq_true rfl⟩ hl.1 rfl (Nat.le_of_ble_eq_true rfl) rfl dX8_liars_41 (fun r7 _ H locs hm hw => ?_)
    have hw : wV D A s.heap ((oW cy aO (aB 0) e_O_images e_O_tape e_O_reader (aP 0) e_O_trial e_O_season e_O_dates e_O_line e_O_evening e_O_choices SO) ++ ((bW cy aB (als 0) e_B_told e_B_mentions (acl 0) SB) ++ ((lsW cy als Sls) ++ ((pW cy aP (aJ 0) S1) ++ ((jW cy aJ S2) ++ (tW cy acl Scl)))))) H locs := hw.perm [0, 1, 2, 3, 4, 5, 6, 7, 8, 9, 13, 14, 15, 16, 17, 18, 19, 20, 21, 22, 23, 10, 11, 12, 24, 25, 26, 27] rfl rfl
    refine lv_iconst (v := (-1)) hx hb dX8_liars_44 (by decide) ?_
    refine lv_icmp_ne (tgt := 54) hx hb dX8_liars_45 (by decide) (fun c12 => ?_) (fun c12 => ?_)
    · have hm := hm.1 c12
      obtain ⟨v9, e_v9⟩ : ∃ z : Int32, z = x2_4 + 1 := ⟨_, rfl⟩
      have hm := hm v9 e_v9
      refine lv_iinc (v := v9) (lv' := [(2, .int v9), (1, .int x1_5), (0, .ref (aO 0))]) hx hb dX8_liars_54 hl (k := 0) rfl (by rw [e_v9]; rfl) (by decide) rfl (fun ls hl => ?_)
      refine lv_goto (tgt := 15) hx hb dX8_liars_57 (by decide) ?_
      exact ih6 _ _ hm _ _ _ hw (lv_sub hl [0, 1, 2] rfl)
    · have hm := hm.2 c12
      refine lv_iload_n hx hb dX8_liars_48 rfl (lv_at hl 1 rfl) ?_
      refine lv_iconst (v := 1) hx hb dX8_liars_49 (by decide) ?_
      refine lv_iload_n hx hb dX8_liars_50 rfl (lv_at hl 0 rfl) ?_
      refine lv_ishl hx hb dX8_liars_51 ?_
      refine lv_ior hx hb dX8_liars_52 ?_
      refine lv_topi (fun v10 e_v10 => ?_)
      have hm := hm v10 e_v10
      refine lv_istore_n (lv' := [(1, .int v10), (2, .int x2_4), (0, .ref (aO 0))]) hx hb dX8_liars_53 rfl hl (by decide) rfl (fun ls hl => ?_)
      obtain ⟨v11, e_v11⟩ : ∃ z : Int32, z = x2_4 + 1 := ⟨_, rfl⟩
      have hm := hm v11 e_v11
      refine lv_iinc (v := v11) (lv' := [(2, .int v11), (1, .int v10), (0, .ref (aO 0))]) hx hb dX8_liars_54 hl (k := 1) rfl (by rw [e_v11]; rfl) (by decide) rfl (fun ls hl => ?_)
      refine lv_goto (tgt := 15) hx hb dX8_liars_57 (by decide) ?_
      exact ih6 _ _ hm _ _ _ hw (lv_sub hl [0, 1, 2] rfl)
set_option maxHeartbeats 4000000 in
set_option maxRecDepth 100000 in
theorem c_X8_draw {l : Launch} {D : va_G} {cy : Nat → ClassId} {aO : Nat → Nat} {aB : Nat → Nat} {als : Nat → Nat} {aP : Nat → Nat} {aJ : Nat → Nat} {atd : Nat → Nat} {ach : Nat → Nat} {aev : Nat → Nat} {aLw : Nat → Nat} {e_O_images : Nat} {e_O_tape : Nat} {e_O_reader : Nat} {e_O_trial : Option Nat} {e_O_season : Option Nat} {e_O_dates : Nat} {e_O_line : Nat} {e_B_mentions : Nat} {e_B_claims : Nat} {SO : Ob} {SB : Ob} {Sls : (Nat → Option Nat)} {SP : Ob} {SJ : Ob} {Std : Ob} {Sch : (Nat → Int32)} {Sev : Ob} {SLw : Lw} {x1 : Int32} {Q : Int32 → Ob → Ob → Ob → (Nat → Int32) → Ob → Prop} (hm : w_X8_draw aLw SO SB Sls SP SJ Std Sch Sev SLw x1 Q) : CtI l yX8_draw cX8_draw 10 (some .int) (rmN 5) D cy [.ref (aO 0), .int x1] ((oW cy aO (aB 0) e_O_images e_O_tape e_O_reader (aP 0) e_O_trial e_O_season e_O_dates e_O_line (aev 0) (ach 0) SO) ++ ((bW cy aB (als 0) (atd 0) e_B_mentions e_B_claims SB) ++ ((lsW cy als Sls) ++ ((pW cy aP (aJ 0) SP) ++ ((jW cy aJ SJ) ++ ((tW cy atd Std) ++ ((chW cy ach Sch) ++ ((tW cy aev Sev) ++ (lwW cy aLw SLw))))))))) (fun u : Ob × Ob × Ob × (Nat → Int32) × Ob => ((oW cy aO (aB 0) e_O_images e_O_tape e_O_reader (aP 0) e_O_trial e_O_season e_O_dates e_O_line (aev 0) (ach 0) u.1) ++ ((bW cy aB (als 0) (atd 0) e_B_mentions e_B_claims SB) ++ ((lsW cy als Sls) ++ ((pW cy aP (aJ 0) u.2.1) ++ ((jW cy aJ u.2.2.1) ++ ((tW cy atd Std) ++ ((chW cy ach u.2.2.2.1) ++ ((tW cy aev u.2.2.2.2) ++ (lwW cy aLw SLw)))))))))) (fun (r : Int32) (u : Ob × Ob × Ob × (Nat → Int32) × Ob) => Q r u.1 u.2.1 u.2.2.1 u.2.2.2.1 u.2.2.2.2) := by
  refine CtI.ofW (by decide) (Nat.le_of_ble_eq_true rfl) ?_
  intro p e s m args below meth c A ls hc hnm hw hl
  have hx := hc.1.1
  have hb := hc.1.2.1
  have hown := hc.1.2.2.2.1
  have hts := hc.1.2.2.2.2
  have hl : lv_has ls 10 [(0, .ref (aO 0)), (1, .int x1)] := hl
  obtain ⟨H, hH⟩ : ∃ z, z = s.heap := ⟨_, rfl⟩
  obtain ⟨locs, hLc⟩ : ∃ z : List Loc, z = [] := ⟨_, rfl⟩
  have hw : wV D A s.heap ((oW cy aO (aB 0) e_O_images e_O_tape e_O_reader (aP 0) e_O_trial e_O_season e_O_dates e_O_line (aev 0) (ach 0) SO) ++ ((bW cy aB (als 0) (atd 0) e_B_mentions e_B_claims SB) ++ ((lsW cy als Sls) ++ ((pW cy aP (aJ 0) SP) ++ ((jW cy aJ SJ) ++ ((tW cy atd Std) ++ ((chW cy ach Sch) ++ ((tW cy aev Sev) ++ (lwW cy aLw SLw))))))))) H locs := by rw [hH, hLc]; exact hw
  have hgo : W p l e (rmN 5) s m args below meth c H locs 0 0 (MQ below (eI D cy A (fun u : Ob × Ob × Ob × (Nat → Int32) × Ob => ((oW cy aO (aB 0) e_O_images e_O_tape e_O_reader (aP 0) e_O_trial e_O_season e_O_dates e_O_line (aev 0) (ach 0) u.1) ++ ((bW cy aB (als 0) (atd 0) e_B_mentions e_B_claims SB) ++ ((lsW cy als Sls) ++ ((pW cy aP (aJ 0) u.2.1) ++ ((jW cy aJ u.2.2.1) ++ ((tW cy atd Std) ++ ((chW cy ach u.2.2.2.1) ++ ((tW cy aev u.2.2.2.2) ++ (lwW cy aLw SLw)))))))))) (fun (r : Int32) (u : Ob × Ob × Ob × (Nat → Int32) × Ob) => Q r u.1 u.2.1 u.2.2.1 u.2.2.2.1 u.2.2.2.2)) args s (rmN 5).cells (rmN 5).slots A) (F0 m 0 ls []) := ?hgo
  · rw [hH, hLc] at hgo; exact hgo
  refine lv_iload_n hx hb dX8_draw_0 rfl (lv_at hl 1 rfl) ?_
  obtain ⟨J2, eJ2, hm⟩ := jn_e hm
  have hJ2 : ∀ (z1 : Unit) (_ : J2 z1) (H : Heap) (locs : List Loc) (ls : Array Slot), wV D A s.heap ((oW cy aO (aB 0) e_O_images e_O_tape e_O_reader (aP 0) e_O_trial e_O_season e_O_dates e_O_line (aev 0) (ach 0) SO) ++ ((bW cy aB (als 0) (atd 0) e_B_mentions e_B_claims SB) ++ ((lsW cy als Sls) ++ ((pW cy aP (aJ 0) SP) ++ ((jW cy aJ SJ) ++ ((tW cy atd Std) ++ ((chW cy ach Sch) ++ ((tW cy aev Sev) ++ (lwW cy aLw SLw))))))))) H locs → lv_has ls 10 [(0, .ref (aO 0))] → W p l e (rmN 5) s m args below meth c H locs 0 0 (MQ below (eI D cy A (fun u : Ob × Ob × Ob × (Nat → Int32) × Ob => ((oW cy aO (aB 0) e_O_images e_O_tape e_O_reader (aP 0) e_O_trial e_O_season e_O_dates e_O_line (aev 0) (ach 0) u.1) ++ ((bW cy aB (als 0) (atd 0) e_B_mentions e_B_claims SB) ++ ((lsW cy als Sls) ++ ((pW cy aP (aJ 0) u.2.1) ++ ((jW cy aJ u.2.2.1) ++ ((tW cy atd Std) ++ ((chW cy ach u.2.2.2.1) ++ ((tW cy aev u.2.2.2.2) ++ (lwW cy aLw SLw)))))))))) (fun (r : Int32) (u : Ob × Ob × Ob × (Nat → Int32) × Ob) => Q r u.1 u.2.1 u.2.2.1 u.2.2.2.1 u.2.2.2.2)) args s (rmN 5).cells (rmN 5).slots A) (F0 m 11 ls []) := by
    intro z1 hm H locs ls hw hl
    rw [eJ2] at hm
    refine lv_aload_n hx hb dX8_draw_11 rfl (lv_at hl 0 rfl) ?_
    refine lv_iconst (v := (-1)) hx hb dX8_draw_12 (by decide) ?_
    refine nV_I (As := [.int (-1)]) (rest := []) (wc := (oW cy aO (aB 0) e_O_images e_O_tape e_O_reader (aP 0) e_O_trial e_O_season e_O_dates e_O_line (aev 0) (ach 0) SO)) (wr := ((bW cy aB (als 0) (atd 0) e_B_mentions e_B_claims SB) ++ ((lsW cy als Sls) ++ ((pW cy aP (aJ 0) SP) ++ ((jW cy aJ SJ) ++ ((tW cy atd Std) ++ ((chW cy ach Sch) ++ ((tW cy aev Sev) ++ (lwW cy aLw SLw))))))))) (isC := [0, 1, 2]) (isR := [3, 4, 5, 6, 7, 8, 9, 10, 11, 12, 13, 14, 15, 16, 17, 18, 19, 20, 21, 22, 23, 24, 25, 26, 27, 28, 29, 30, 31, 32, 33, 34, 35, 36, 37]) hc hw (c_X8_refuse hm) lk_X8_89 ⟨rfl, rfl, rfl, rfl, by decide⟩ rfl rfl ⟨Nat.le_of_ble_eq_true rfl, Nat.le_of_ble_eq_true rfl⟩ ⟨Nat.le_of_ble_eq_true rfl, Nat.le_of_ble_eq_true rfl⟩ hl.1 rfl (Nat.le_of_ble_eq_true rfl) rfl dX8_draw_13 (fun r3 S4 H locs hm hw => ?_)
    have hw : wV D A s.heap ((oW cy aO (aB 0) e_O_images e_O_tape e_O_reader (aP 0) e_O_trial e_O_season e_O_dates e_O_line (aev 0) (ach 0) S4) ++ ((bW cy aB (als 0) (atd 0) e_B_mentions e_B_claims SB) ++ ((lsW cy als Sls) ++ ((pW cy aP (aJ 0) SP) ++ ((jW cy aJ SJ) ++ ((tW cy atd Std) ++ ((chW cy ach Sch) ++ ((tW cy aev Sev) ++ (lwW cy aLw SLw))))))))) H locs := hw.perm [35, 36, 37, 0, 1, 2, 3, 4, 5, 6, 7, 8, 9, 10, 11, 12, 13, 14, 15, 16, 17, 18, 19, 20, 21, 22, 23, 24, 25, 26, 27, 28, 29, 30, 31, 32, 33, 34] rfl rfl
    exact retI (u := (S4, SP, SJ, Sch, Sev)) hc hw hm dX8_draw_16
  refine lv_if_lt (tgt := 11) hx hb dX8_draw_1 (by decide) (fun c49 => ?_) (fun c49 => ?_)
  · have hm := hm.1 c49
    exact hJ2 _ hm _ _ _ hw (lv_sub hl [0] rfl)
  · have hm := hm.2 c49
    refine lv_iload_n hx hb dX8_draw_4 rfl (lv_at hl 1 rfl) ?_
    refine lv_ldcw (v := 1000000) hx hb hown (hts _ (gm 1015 (by decide +kernel) rfl)) dX8_draw_5 ?_
    refine lv_icmp_le (tgt := 17) hx hb dX8_draw_8 (by decide) (fun c48 => ?_) (fun c48 => ?_)
    · have hm := hm.1 c48
      refine lv_aload_n hx hb dX8_draw_17 rfl (lv_at hl 0 rfl) ?_
      refine gF (k := 8) hc hw inX8 rfl 0 rfl (by decide) (gm 423 (by decide +kernel) rfl) rfl dX8_draw_18 ?_
      refine lv_aload_n hx hb dX8_draw_21 rfl (lv_at hl 0 rfl) ?_
      refine gF (k := 0) hc hw inX8 rfl 0 rfl (by decide) (gm 415 (by decide +kernel) rfl) rfl dX8_draw_22 ?_
      refine nVN_V (As := [.ref (aB 0)]) (rest := []) (wc := ((pW cy aP (aJ 0) SP) ++ ((jW cy aJ SJ) ++ ((bW cy aB (als 0) (atd 0) e_B_mentions e_B_claims SB) ++ ((lsW cy als Sls) ++ (lwW cy aLw SLw)))))) (wr := ((oW cy aO (aB 0) e_O_images e_O_tape e_O_reader (aP 0) e_O_trial e_O_season e_O_dates e_O_line (aev 0) (ach 0) SO) ++ ((tW cy atd Std) ++ ((chW cy ach Sch) ++ (tW cy aev Sev))))) (isC := [10, 11, 12, 13, 14, 15, 16, 17, 18, 19, 20, 21, 22, 23, 3, 4, 5, 6, 7, 8, 9, 33, 34, 35, 36, 37]) (isR := [0, 1, 2, 24, 25, 26, 27, 28, 29, 30, 31, 32]) hc hw (c_X3_weigh hm) lk_X8_124 ⟨rfl, rfl, rfl, rfl, by decide⟩ rfl rfl ⟨Nat.le_of_ble_eq_true rfl, Nat.le_of_ble_eq_true rfl⟩ ⟨Nat.le_of_ble_eq_true rfl, Nat.le_of_ble_eq_true rfl⟩ hl.1 rfl (Nat.le_of_ble_eq_true rfl) rfl dX8_draw_25 (fun u_7 H locs hm hw => ?_)
      obtain ⟨S6, S7⟩ := u_7
      have hw : wV D A s.heap ((oW cy aO (aB 0) e_O_images e_O_tape e_O_reader (aP 0) e_O_trial e_O_season e_O_dates e_O_line (aev 0) (ach 0) SO) ++ ((bW cy aB (als 0) (atd 0) e_B_mentions e_B_claims SB) ++ ((lsW cy als Sls) ++ ((pW cy aP (aJ 0) S6) ++ ((jW cy aJ S7) ++ ((tW cy atd Std) ++ ((chW cy ach Sch) ++ ((tW cy aev Sev) ++ (lwW cy aLw SLw))))))))) H locs := hw.perm [0, 1, 2, 26, 27, 28, 29, 30, 31, 32, 12, 13, 14, 15, 16, 17, 18, 19, 20, 21, 22, 23, 24, 25, 3, 4, 5, 6, 7, 8, 9, 10, 11, 33, 34, 35, 36, 37] rfl rfl
      refine lv_aload_n hx hb dX8_draw_28 rfl (lv_at hl 0 rfl) ?_
      refine gF (k := 13) hc hw inX8 rfl 0 rfl (by decide) (gm 428 (by decide +kernel) rfl) rfl dX8_draw_29 ?_
      refine nVN_I (As := []) (rest := []) (wc := (tW cy aev Sev)) (wr := ((oW cy aO (aB 0) e_O_images e_O_tape e_O_reader (aP 0) e_O_trial e_O_season e_O_dates e_O_line (aev 0) (ach 0) SO) ++ ((bW cy aB (als 0) (atd 0) e_B_mentions e_B_claims SB) ++ ((lsW cy als Sls) ++ ((pW cy aP (aJ 0) S6) ++ ((jW cy aJ S7) ++ ((tW cy atd Std) ++ ((chW cy ach Sch) ++ (lwW cy aLw SLw))))))))) (isC := [29, 30, 31, 32]) (isR := [0, 1, 2, 3, 4, 5, 6, 7, 8, 9, 10, 11, 12, 13, 14, 15, 16, 17, 18, 19, 20, 21, 22, 23, 24, 25, 26, 27, 28, 33, 34, 35, 36, 37]) hc hw (c_X7_drop hm) lk_X8_188 ⟨rfl, rfl, rfl, rfl, by decide⟩ rfl rfl ⟨Nat.le_of_ble_eq_true rfl, Nat.le_of_ble_eq_true rfl⟩ ⟨Nat.le_of_ble_eq_true rfl, Nat.le_of_ble_eq_true rfl⟩ hl.1 rfl (Nat.le_of_ble_eq_true rfl) rfl dX8_draw_32 (fun r9 S10 H locs hm hw => ?_)
      have hw : wV D A s.heap ((oW cy aO (aB 0) e_O_images e_O_tape e_O_reader (aP 0) e_O_trial e_O_season e_O_dates e_O_line (aev 0) (ach 0) SO) ++ ((bW cy aB (als 0) (atd 0) e_B_mentions e_B_claims SB) ++ ((lsW cy als Sls) ++ ((pW cy aP (aJ 0) S6) ++ ((jW cy aJ S7) ++ ((tW cy atd Std) ++ ((chW cy ach Sch) ++ ((tW cy aev S10) ++ (lwW cy aLw SLw))))))))) H locs := hw.perm [0, 1, 2, 3, 4, 5, 6, 7, 8, 9, 10, 11, 12, 13, 14, 15, 16, 17, 18, 19, 20, 21, 22, 23, 24, 25, 26, 27, 28, 34, 35, 36, 37, 29, 30, 31, 32, 33] rfl rfl
      refine lv_pop hx hb dX8_draw_35 rfl ?_
      refine lv_aload_n hx hb dX8_draw_36 rfl (lv_at hl 0 rfl) ?_
      refine gF (k := 0) hc hw inX8 rfl 0 rfl (by decide) (gm 415 (by decide +kernel) rfl) rfl dX8_draw_37 ?_
      refine nVN_I (As := []) (rest := []) (wc := ((bW cy aB (als 0) (atd 0) e_B_mentions e_B_claims SB) ++ (tW cy atd Std))) (wr := ((oW cy aO (aB 0) e_O_images e_O_tape e_O_reader (aP 0) e_O_trial e_O_season e_O_dates e_O_line (aev 0) (ach 0) SO) ++ ((lsW cy als Sls) ++ ((pW cy aP (aJ 0) S6) ++ ((jW cy aJ S7) ++ ((chW cy ach Sch) ++ ((tW cy aev S10) ++ (lwW cy aLw SLw)))))))) (isC := [3, 4, 5, 6, 7, 8, 24, 25, 26, 27]) (isR := [0, 1, 2, 9, 10, 11, 12, 13, 14, 15, 16, 17, 18, 19, 20, 21, 22, 23, 28, 29, 30, 31, 32, 33, 34, 35, 36, 37]) hc hw (c_X6_untold hm) lk_X8_194 ⟨rfl, rfl, rfl, rfl, by decide⟩ rfl rfl ⟨Nat.le_of_ble_eq_true rfl, Nat.le_of_ble_eq_true rfl⟩ ⟨Nat.le_of_ble_eq_true rfl, Nat.le_of_ble_eq_true rfl⟩ hl.1 rfl (Nat.le_of_ble_eq_true rfl) rfl dX8_draw_40 (fun r12 _ H locs hm hw => ?_)
      have hw : wV D A s.heap ((oW cy aO (aB 0) e_O_images e_O_tape e_O_reader (aP 0) e_O_trial e_O_season e_O_dates e_O_line (aev 0) (ach 0) SO) ++ ((bW cy aB (als 0) (atd 0) e_B_mentions e_B_claims SB) ++ ((lsW cy als Sls) ++ ((pW cy aP (aJ 0) S6) ++ ((jW cy aJ S7) ++ ((tW cy atd Std) ++ ((chW cy ach Sch) ++ ((tW cy aev S10) ++ (lwW cy aLw SLw))))))))) H locs := hw.perm [0, 1, 2, 28, 29, 30, 31, 32, 33, 3, 4, 5, 6, 7, 8, 9, 10, 11, 12, 13, 14, 15, 16, 17, 34, 35, 36, 37, 18, 19, 20, 21, 22, 23, 24, 25, 26, 27] rfl rfl
      refine lv_istore_n (lv' := [(2, .int r12), (0, .ref (aO 0)), (1, .int x1)]) hx hb dX8_draw_43 rfl hl (by decide) rfl (fun ls hl => ?_)
      refine lv_aload_n hx hb dX8_draw_44 rfl (lv_at hl 1 rfl) ?_
      refine gF (k := 0) hc hw inX8 rfl 0 rfl (by decide) (gm 415 (by decide +kernel) rfl) rfl dX8_draw_45 ?_
      refine nVN_I (As := []) (rest := []) (wc := ((bW cy aB (als 0) (atd 0) e_B_mentions e_B_claims SB) ++ (tW cy atd Std))) (wr := ((oW cy aO (aB 0) e_O_images e_O_tape e_O_reader (aP 0) e_O_trial e_O_season e_O_dates e_O_line (aev 0) (ach 0) SO) ++ ((lsW cy als Sls) ++ ((pW cy aP (aJ 0) S6) ++ ((jW cy aJ S7) ++ ((chW cy ach Sch) ++ ((tW cy aev S10) ++ (lwW cy aLw SLw)))))))) (isC := [3, 4, 5, 6, 7, 8, 24, 25, 26, 27]) (isR := [0, 1, 2, 9, 10, 11, 12, 13, 14, 15, 16, 17, 18, 19, 20, 21, 22, 23, 28, 29, 30, 31, 32, 33, 34, 35, 36, 37]) hc hw (c_X6_lastYear hm) lk_X8_165 ⟨rfl, rfl, rfl, rfl, by decide⟩ rfl rfl ⟨Nat.le_of_ble_eq_true rfl, Nat.le_of_ble_eq_true rfl⟩ ⟨Nat.le_of_ble_eq_true rfl, Nat.le_of_ble_eq_true rfl⟩ hl.1 rfl (Nat.le_of_ble_eq_true rfl) rfl dX8_draw_48 (fun r14 _ H locs hm hw => ?_)
      have hw : wV D A s.heap ((oW cy aO (aB 0) e_O_images e_O_tape e_O_reader (aP 0) e_O_trial e_O_season e_O_dates e_O_line (aev 0) (ach 0) SO) ++ ((bW cy aB (als 0) (atd 0) e_B_mentions e_B_claims SB) ++ ((lsW cy als Sls) ++ ((pW cy aP (aJ 0) S6) ++ ((jW cy aJ S7) ++ ((tW cy atd Std) ++ ((chW cy ach Sch) ++ ((tW cy aev S10) ++ (lwW cy aLw SLw))))))))) H locs := hw.perm [0, 1, 2, 28, 29, 30, 31, 32, 33, 3, 4, 5, 6, 7, 8, 9, 10, 11, 12, 13, 14, 15, 16, 17, 34, 35, 36, 37, 18, 19, 20, 21, 22, 23, 24, 25, 26, 27] rfl rfl
      refine lv_istore_n (lv' := [(3, .int r14), (2, .int r12), (0, .ref (aO 0)), (1, .int x1)]) hx hb dX8_draw_51 rfl hl (by decide) rfl (fun ls hl => ?_)
      refine lv_aload_n hx hb dX8_draw_52 rfl (lv_at hl 2 rfl) ?_
      refine gF (k := 0) hc hw inX8 rfl 0 rfl (by decide) (gm 415 (by decide +kernel) rfl) rfl dX8_draw_53 ?_
      refine nVN_I (As := []) (rest := []) (wc := ((bW cy aB (als 0) (atd 0) e_B_mentions e_B_claims SB) ++ (tW cy atd Std))) (wr := ((oW cy aO (aB 0) e_O_images e_O_tape e_O_reader (aP 0) e_O_trial e_O_season e_O_dates e_O_line (aev 0) (ach 0) SO) ++ ((lsW cy als Sls) ++ ((pW cy aP (aJ 0) S6) ++ ((jW cy aJ S7) ++ ((chW cy ach Sch) ++ ((tW cy aev S10) ++ (lwW cy aLw SLw)))))))) (isC := [3, 4, 5, 6, 7, 8, 24, 25, 26, 27]) (isR := [0, 1, 2, 9, 10, 11, 12, 13, 14, 15, 16, 17, 18, 19, 20, 21, 22, 23, 28, 29, 30, 31, 32, 33, 34, 35, 36, 37]) hc hw (c_X6_lastTeller hm) lk_X8_173 ⟨rfl, rfl, rfl, rfl, by decide⟩ rfl rfl ⟨Nat.le_of_ble_eq_true rfl, Nat.le_of_ble_eq_true rfl⟩ ⟨Nat.le_of_ble_eq_true rfl, Nat.le_of_ble_eq_true rfl⟩ hl.1 rfl (Nat.le_of_ble_eq_true rfl) rfl dX8_draw_56 (fun r16 _ H locs hm hw => ?_)
      have hw : wV D A s.heap ((oW cy aO (aB 0) e_O_images e_O_tape e_O_reader (aP 0) e_O_trial e_O_season e_O_dates e_O_line (aev 0) (ach 0) SO) ++ ((bW cy aB (als 0) (atd 0) e_B_mentions e_B_claims SB) ++ ((lsW cy als Sls) ++ ((pW cy aP (aJ 0) S6) ++ ((jW cy aJ S7) ++ ((tW cy atd Std) ++ ((chW cy ach Sch) ++ ((tW cy aev S10) ++ (lwW cy aLw SLw))))))))) H locs := hw.perm [0, 1, 2, 28, 29, 30, 31, 32, 33, 3, 4, 5, 6, 7, 8, 9, 10, 11, 12, 13, 14, 15, 16, 17, 34, 35, 36, 37, 18, 19, 20, 21, 22, 23, 24, 25, 26, 27] rfl rfl
      refine lv_istore (lv' := [(4, .int r16), (3, .int r14), (2, .int r12), (0, .ref (aO 0)), (1, .int x1)]) hx hb dX8_draw_59 hl (by decide) rfl (fun ls hl => ?_)
      refine lv_iload_n hx hb dX8_draw_61 rfl (lv_at hl 4 rfl) ?_
      refine lv_istore (lv' := [(5, .int x1), (4, .int r16), (3, .int r14), (2, .int r12), (0, .ref (aO 0)), (1, .int x1)]) hx hb dX8_draw_62 hl (by decide) rfl (fun ls hl => ?_)
      refine lv_iconst (v := 0) hx hb dX8_draw_64 (by decide) ?_
      refine lv_istore (lv' := [(6, .int 0), (5, .int x1), (4, .int r16), (3, .int r14), (2, .int r12), (0, .ref (aO 0)), (1, .int x1)]) hx hb dX8_draw_65 hl (by decide) rfl (fun ls hl => ?_)
      refine wl7_ind (G := fun (x6_18 : Int32) (x5_19 : Int32) (x4_20 : Int32) (x3_21 : Int32) (x2_22 : Int32) (S23 : (Nat → Int32)) (S24 : Ob) => ∀ (H : Heap) (locs : List Loc) (ls : Array Slot), wV D A s.heap ((oW cy aO (aB 0) e_O_images e_O_tape e_O_reader (aP 0) e_O_trial e_O_season e_O_dates e_O_line (aev 0) (ach 0) SO) ++ ((bW cy aB (als 0) (atd 0) e_B_mentions e_B_claims SB) ++ ((lsW cy als Sls) ++ ((pW cy aP (aJ 0) S6) ++ ((jW cy aJ S7) ++ ((tW cy atd Std) ++ ((chW cy ach S23) ++ ((tW cy aev S24) ++ (lwW cy aLw SLw))))))))) H locs → lv_has ls 10 [(6, .int x6_18), (5, .int x5_19), (4, .int x4_20), (3, .int x3_21), (2, .int x2_22), (0, .ref (aO 0))] → W p l e (rmN 5) s m args below meth c H locs 0 0 (MQ below (eI D cy A (fun u : Ob × Ob × Ob × (Nat → Int32) × Ob => ((oW cy aO (aB 0) e_O_images e_O_tape e_O_reader (aP 0) e_O_trial e_O_season e_O_dates e_O_line (aev 0) (ach 0) u.1) ++ ((bW cy aB (als 0) (atd 0) e_B_mentions e_B_claims SB) ++ ((lsW cy als Sls) ++ ((pW cy aP (aJ 0) u.2.1) ++ ((jW cy aJ u.2.2.1) ++ ((tW cy atd Std) ++ ((chW cy ach u.2.2.2.1) ++ ((tW cy aev u.2.2.2.2) ++ (lwW cy aLw SLw)))))))))) (fun (r : Int32) (u : Ob × Ob × Ob × (Nat → Int32) × Ob) => Q r u.1 u.2.1 u.2.2.1 u.2.2.2.1 u.2.2.2.2)) args s (rmN 5).cells (rmN 5).slots A) (F0 m 67 ls [])) ?_ _ _ _ _ _ _ _ hm H locs ls hw (lv_sub hl [0, 1, 2, 3, 4, 5] rfl)
      intro L25 ih25 x6_18 x5_19 x4_20 x3_21 x2_22 S23 S24 hm H locs ls hw hl
      refine lv_iload hx hb dX8_draw_67 (lv_at hl 0 rfl) ?_
      refine lv_bipush (v := 10) hx hb dX8_draw_69 (by decide) ?_
      obtain ⟨J27, eJ27, hm⟩ := jn_e hm
      have hJ27 : ∀ (S26 : (Nat → Int32)) (_ : J27 S26) (H : Heap) (locs : List Loc) (ls : Array Slot), wV D A s.heap ((oW cy aO (aB 0) e_O_images e_O_tape e_O_reader (aP 0) e_O_trial e_O_season e_O_dates e_O_line (aev 0) (ach 0) SO) ++ ((bW cy aB (als 0) (atd 0) e_B_mentions e_B_claims SB) ++ ((lsW cy als Sls) ++ ((pW cy aP (aJ 0) S6) ++ ((jW cy aJ S7) ++ ((tW cy atd Std) ++ ((chW cy ach S26) ++ ((tW cy aev S24) ++ (lwW cy aLw SLw))))))))) H locs → lv_has ls 10 [(0, .ref (aO 0))] → W p l e (rmN 5) s m args below meth c H locs 0 0 (MQ below (eI D cy A (fun u : Ob × Ob × Ob × (Nat → Int32) × Ob => ((oW cy aO (aB 0) e_O_images e_O_tape e_O_reader (aP 0) e_O_trial e_O_season e_O_dates e_O_line (aev 0) (ach 0) u.1) ++ ((bW cy aB (als 0) (atd 0) e_B_mentions e_B_claims SB) ++ ((lsW cy als Sls) ++ ((pW cy aP (aJ 0) u.2.1) ++ ((jW cy aJ u.2.2.1) ++ ((tW cy atd Std) ++ ((chW cy ach u.2.2.2.1) ++ ((tW cy aev u.2.2.2.2) ++ (lwW cy aLw SLw)))))))))) (fun (r : Int32) (u : Ob × Ob × Ob × (Nat → Int32) × Ob) => Q r u.1 u.2.1 u.2.2.1 u.2.2.2.1 u.2.2.2.2)) args s (rmN 5).cells (rmN 5).slots A) (F0 m 179 ls []) := by
        intro S26 hm H locs ls hw hl
        rw [eJ27] at hm
        refine lv_aload_n hx hb dX8_draw_179 rfl (lv_at hl 0 rfl) ?_
        refine lv_aload_n hx hb dX8_draw_180 rfl (lv_at hl 0 rfl) ?_
        refine gF (k := 13) hc hw inX8 rfl 0 rfl (by decide) (gm 428 (by decide +kernel) rfl) rfl dX8_draw_181 ?_
        refine gN (k := 3) (host := "OlderTale") hc hw inX7 rfl 29 rfl (by decide) (nmm 183 (by decide +kernel)) rfl dX8_draw_184 ?_
        refine nV_I (As := [.int (S24.1 3)]) (rest := []) (wc := (oW cy aO (aB 0) e_O_images e_O_tape e_O_reader (aP 0) e_O_trial e_O_season e_O_dates e_O_line (aev 0) (ach 0) SO)) (wr := ((bW cy aB (als 0) (atd 0) e_B_mentions e_B_claims SB) ++ ((lsW cy als Sls) ++ ((pW cy aP (aJ 0) S6) ++ ((jW cy aJ S7) ++ ((tW cy atd Std) ++ ((chW cy ach S26) ++ ((tW cy aev S24) ++ (lwW cy aLw SLw))))))))) (isC := [0, 1, 2]) (isR := [3, 4, 5, 6, 7, 8, 9, 10, 11, 12, 13, 14, 15, 16, 17, 18, 19, 20, 21, 22, 23, 24, 25, 26, 27, 28, 29, 30, 31, 32, 33, 34, 35, 36, 37]) hc hw (c_X8_accept hm) lk_X8_103 ⟨rfl, rfl, rfl, rfl, by decide⟩ rfl rfl ⟨Nat.le_of_ble_eq_true rfl, Nat.le_of_ble_eq_true rfl⟩ ⟨Nat.le_of_ble_eq_true rfl, Nat.le_of_ble_eq_true rfl⟩ hl.1 rfl (Nat.le_of_ble_eq_true rfl) rfl dX8_draw_187 (fun r28 S29 H locs hm hw => ?_)
        have hw : wV D A s.heap ((oW cy aO (aB 0) e_O_images e_O_tape e_O_reader (aP 0) e_O_trial e_O_season e_O_dates e_O_line (aev 0) (ach 0) S29) ++ ((bW cy aB (als 0) (atd 0) e_B_mentions e_B_claims SB) ++ ((lsW cy als Sls) ++ ((pW cy aP (aJ 0) S6) ++ ((jW cy aJ S7) ++ ((tW cy atd Std) ++ ((chW cy ach S26) ++ ((tW cy aev S24) ++ (lwW cy aLw SLw))))))))) H locs := hw.perm [35, 36, 37, 0, 1, 2, 3, 4, 5, 6, 7, 8, 9, 10, 11, 12, 13, 14, 15, 16, 17, 18, 19, 20, 21, 22, 23, 24, 25, 26, 27, 28, 29, 30, 31, 32, 33, 34] rfl rfl
        exact retI (u := (S29, S6, S7, S26, S24)) hc hw hm dX8_draw_190
      refine lv_icmp_ge (tgt := 179) hx hb dX8_draw_71 (by decide) (fun c47 => ?_) (fun c47 => ?_)
      · have hm := hm.1 c47
        exact hJ27 _ hm _ _ _ hw (lv_sub hl [5] rfl)
      · have hm := hm.2 c47
        refine lv_aload_n hx hb dX8_draw_74 rfl (lv_at hl 5 rfl) ?_
        refine gF (k := 8) hc hw inX8 rfl 0 rfl (by decide) (gm 423 (by decide +kernel) rfl) rfl dX8_draw_75 ?_
        refine lv_iload_n hx hb dX8_draw_78 rfl (lv_at hl 4 rfl) ?_
        refine lv_iload_n hx hb dX8_draw_79 rfl (lv_at hl 3 rfl) ?_
        refine lv_iload hx hb dX8_draw_80 (lv_at hl 2 rfl) ?_
        refine lv_aload_n hx hb dX8_draw_82 rfl (lv_at hl 5 rfl) ?_
        refine gF (k := 14) hc hw inX8 rfl 0 rfl (by decide) (gm 429 (by decide +kernel) rfl) rfl dX8_draw_83 ?_
        refine nVN_I (As := [.int x2_22, .int x3_21, .int x4_20, .ref (ach 0)]) (rest := []) (wc := ((pW cy aP (aJ 0) S6) ++ (chW cy ach S23))) (wr := ((oW cy aO (aB 0) e_O_images e_O_tape e_O_reader (aP 0) e_O_trial e_O_season e_O_dates e_O_line (aev 0) (ach 0) SO) ++ ((bW cy aB (als 0) (atd 0) e_B_mentions e_B_claims SB) ++ ((lsW cy als Sls) ++ ((jW cy aJ S7) ++ ((tW cy atd Std) ++ ((tW cy aev S24) ++ (lwW cy aLw SLw)))))))) (isC := [10, 11, 12, 13, 14, 15, 16, 17, 18, 19, 20, 28]) (isR := [0, 1, 2, 3, 4, 5, 6, 7, 8, 9, 21, 22, 23, 24, 25, 26, 27, 29, 30, 31, 32, 33, 34, 35, 36, 37]) hc hw (c_X3_listChoices hm) lk_X8_293 ⟨rfl, rfl, rfl, rfl, by decide⟩ rfl rfl ⟨Nat.le_of_ble_eq_true rfl, Nat.le_of_ble_eq_true rfl⟩ ⟨Nat.le_of_ble_eq_true rfl, Nat.le_of_ble_eq_true rfl⟩ hl.1 rfl (Nat.le_of_ble_eq_true rfl) rfl dX8_draw_86 (fun r31 S32 H locs hm hw => ?_)
        have hw : wV D A s.heap ((oW cy aO (aB 0) e_O_images e_O_tape e_O_reader (aP 0) e_O_trial e_O_season e_O_dates e_O_line (aev 0) (ach 0) SO) ++ ((bW cy aB (als 0) (atd 0) e_B_mentions e_B_claims SB) ++ ((lsW cy als Sls) ++ ((pW cy aP (aJ 0) S6) ++ ((jW cy aJ S7) ++ ((tW cy atd Std) ++ ((chW cy ach S32) ++ ((tW cy aev S24) ++ (lwW cy aLw SLw))))))))) H locs := hw.perm [0, 1, 2, 3, 4, 5, 6, 7, 8, 9, 26, 27, 28, 29, 30, 31, 32, 33, 34, 35, 36, 10, 11, 12, 13, 14, 15, 16, 37, 17, 18, 19, 20, 21, 22, 23, 24, 25] rfl rfl
        refine lv_istore (lv' := [(7, .int r31), (6, .int x6_18), (5, .int x5_19), (4, .int x4_20), (3, .int x3_21), (2, .int x2_22), (0, .ref (aO 0))]) hx hb dX8_draw_89 hl (by decide) rfl (fun ls hl => ?_)
        refine lv_iload hx hb dX8_draw_91 (lv_at hl 0 rfl) ?_
        refine lv_if_gt (tgt := 99) hx hb dX8_draw_93 (by decide) (fun c46 => ?_) (fun c46 => ?_)
        · have hm := hm.1 c46
          refine lv_iload hx hb dX8_draw_99 (lv_at hl 2 rfl) ?_
          refine lv_i2l hx hb dX8_draw_101 rfl ?_
          refine lv_ldc2 (v := 1103) hx hb hown (hts _ (gm 1020 (by decide +kernel) rfl)) dX8_draw_102 ?_
          refine lv_lmul hx hb dX8_draw_105 ?_
          refine lv_ldc2 (v := 12345) hx hb hown (hts _ (gm 1021 (by decide +kernel) rfl)) dX8_draw_106 ?_
          refine lv_ladd hx hb dX8_draw_109 ?_
          refine lv_ldc2 (v := 1000003) hx hb hown (hts _ (gm 1022 (by decide +kernel) rfl)) dX8_draw_110 ?_
          refine lv_lrem hx hb dX8_draw_113 (by decide) ?_
          refine lv_l2i hx hb dX8_draw_114 rfl ?_
          refine lv_topi (fun v34 e_v34 => ?_)
          have hm := hm v34 e_v34
          refine lv_istore (lv' := [(5, .int v34), (7, .int r31), (6, .int x6_18), (4, .int x4_20), (3, .int x3_21), (2, .int x2_22), (0, .ref (aO 0))]) hx hb dX8_draw_115 hl (by decide) rfl (fun ls hl => ?_)
          refine lv_aload_n hx hb dX8_draw_117 rfl (lv_at hl 6 rfl) ?_
          refine gF (k := 14) hc hw inX8 rfl 0 rfl (by decide) (gm 429 (by decide +kernel) rfl) rfl dX8_draw_118 ?_
          refine lv_iload hx hb dX8_draw_121 (lv_at hl 0 rfl) ?_
          refine lv_iload hx hb dX8_draw_123 (lv_at hl 1 rfl) ?_
          obtain ⟨c35, hm⟩ := hm
          refine lv_irem hx hb dX8_draw_125 c35 ?_
          obtain ⟨c36, hm⟩ := hm
          refine aI hc hw 28 rfl c36 rfl dX8_draw_126 ?_
          refine lv_topi (fun v37 e_v37 => ?_)
          have hm := hm v37 e_v37
          refine lv_istore (lv' := [(8, .int v37), (5, .int v34), (7, .int r31), (6, .int x6_18), (4, .int x4_20), (3, .int x3_21), (2, .int x2_22), (0, .ref (aO 0))]) hx hb dX8_draw_127 hl (by decide) rfl (fun ls hl => ?_)
          refine lv_iload hx hb dX8_draw_129 (lv_at hl 0 rfl) ?_
          refine lv_iconst (v := 4) hx hb dX8_draw_131 (by decide) ?_
          refine lv_idiv hx hb dX8_draw_132 (by decide) ?_
          refine lv_topi (fun v38 e_v38 => ?_)
          have hm := hm v38 e_v38
          refine lv_istore (lv' := [(9, .int v38), (8, .int v37), (5, .int v34), (7, .int r31), (6, .int x6_18), (4, .int x4_20), (3, .int x3_21), (2, .int x2_22), (0, .ref (aO 0))]) hx hb dX8_draw_133 hl (by decide) rfl (fun ls hl => ?_)
          refine lv_iload hx hb dX8_draw_135 (lv_at hl 1 rfl) ?_
          refine lv_iconst (v := 4) hx hb dX8_draw_137 (by decide) ?_
          refine lv_irem hx hb dX8_draw_138 (by decide) ?_
          refine lv_topi (fun v39 e_v39 => ?_)
          have hm := hm v39 e_v39
          refine lv_istore (lv' := [(4, .int v39), (9, .int v38), (8, .int v37), (5, .int v34), (7, .int r31), (6, .int x6_18), (3, .int x3_21), (2, .int x2_22), (0, .ref (aO 0))]) hx hb dX8_draw_139 hl (by decide) rfl (fun ls hl => ?_)
          refine lv_aload_n hx hb dX8_draw_141 rfl (lv_at hl 8 rfl) ?_
          refine gF (k := 8) hc hw inX8 rfl 0 rfl (by decide) (gm 423 (by decide +kernel) rfl) rfl dX8_draw_142 ?_
          refine lv_iload hx hb dX8_draw_145 (lv_at hl 1 rfl) ?_
          refine lv_iload_n hx hb dX8_draw_147 rfl (lv_at hl 6 rfl) ?_
          refine nVN_I (As := [.int v38, .int x3_21]) (rest := []) (wc := (pW cy aP (aJ 0) S6)) (wr := ((oW cy aO (aB 0) e_O_images e_O_tape e_O_reader (aP 0) e_O_trial e_O_season e_O_dates e_O_line (aev 0) (ach 0) SO) ++ ((bW cy aB (als 0) (atd 0) e_B_mentions e_B_claims SB) ++ ((lsW cy als Sls) ++ ((jW cy aJ S7) ++ ((tW cy atd Std) ++ ((chW cy ach S32) ++ ((tW cy aev S24) ++ (lwW cy aLw SLw))))))))) (isC := [10, 11, 12, 13, 14, 15, 16, 17, 18, 19, 20]) (isR := [0, 1, 2, 3, 4, 5, 6, 7, 8, 9, 21, 22, 23, 24, 25, 26, 27, 28, 29, 30, 31, 32, 33, 34, 35, 36, 37]) hc hw (c_X3_yearOf hm) lk_X8_169 ⟨rfl, rfl, rfl, rfl, by decide⟩ rfl rfl ⟨Nat.le_of_ble_eq_true rfl, Nat.le_of_ble_eq_true rfl⟩ ⟨Nat.le_of_ble_eq_true rfl, Nat.le_of_ble_eq_true rfl⟩ hl.1 rfl (Nat.le_of_ble_eq_true rfl) rfl dX8_draw_148 (fun r40 _ H locs hm hw => ?_)
          have hw : wV D A s.heap ((oW cy aO (aB 0) e_O_images e_O_tape e_O_reader (aP 0) e_O_trial e_O_season e_O_dates e_O_line (aev 0) (ach 0) SO) ++ ((bW cy aB (als 0) (atd 0) e_B_mentions e_B_claims SB) ++ ((lsW cy als Sls) ++ ((pW cy aP (aJ 0) S6) ++ ((jW cy aJ S7) ++ ((tW cy atd Std) ++ ((chW cy ach S32) ++ ((tW cy aev S24) ++ (lwW cy aLw SLw))))))))) H locs := hw.perm [0, 1, 2, 3, 4, 5, 6, 7, 8, 9, 27, 28, 29, 30, 31, 32, 33, 34, 35, 36, 37, 10, 11, 12, 13, 14, 15, 16, 17, 18, 19, 20, 21, 22, 23, 24, 25, 26] rfl rfl
          refine lv_istore_n (lv' := [(3, .int r40), (4, .int v39), (9, .int v38), (8, .int v37), (5, .int v34), (7, .int r31), (6, .int x6_18), (2, .int x2_22), (0, .ref (aO 0))]) hx hb dX8_draw_151 rfl hl (by decide) rfl (fun ls hl => ?_)
          refine lv_iload_n hx hb dX8_draw_152 rfl (lv_at hl 7 rfl) ?_
          refine lv_iconst (v := 1) hx hb dX8_draw_153 (by decide) ?_
          refine lv_iload hx hb dX8_draw_154 (lv_at hl 2 rfl) ?_
          refine lv_ishl hx hb dX8_draw_156 ?_
          refine lv_iconst (v := (-1)) hx hb dX8_draw_157 (by decide) ?_
          refine lv_ixor hx hb dX8_draw_158 ?_
          refine lv_iand hx hb dX8_draw_159 ?_
          refine lv_topi (fun v42 e_v42 => ?_)
          have hm := hm v42 e_v42
          refine lv_istore_n (lv' := [(2, .int v42), (3, .int r40), (4, .int v39), (9, .int v38), (8, .int v37), (5, .int v34), (7, .int r31), (6, .int x6_18), (0, .ref (aO 0))]) hx hb dX8_draw_160 rfl hl (by decide) rfl (fun ls hl => ?_)
          refine lv_aload_n hx hb dX8_draw_161 rfl (lv_at hl 8 rfl) ?_
          refine gF (k := 13) hc hw inX8 rfl 0 rfl (by decide) (gm 428 (by decide +kernel) rfl) rfl dX8_draw_162 ?_
          refine lv_iload hx hb dX8_draw_165 (lv_at hl 3 rfl) ?_
          refine lv_iload_n hx hb dX8_draw_167 rfl (lv_at hl 1 rfl) ?_
          refine lv_iload hx hb dX8_draw_168 (lv_at hl 2 rfl) ?_
          refine nVN_V (As := [.int v38, .int r40, .int v39]) (rest := []) (wc := (tW cy aev S24)) (wr := ((oW cy aO (aB 0) e_O_images e_O_tape e_O_reader (aP 0) e_O_trial e_O_season e_O_dates e_O_line (aev 0) (ach 0) SO) ++ ((bW cy aB (als 0) (atd 0) e_B_mentions e_B_claims SB) ++ ((lsW cy als Sls) ++ ((pW cy aP (aJ 0) S6) ++ ((jW cy aJ S7) ++ ((tW cy atd Std) ++ ((chW cy ach S32) ++ (lwW cy aLw SLw))))))))) (isC := [29, 30, 31, 32]) (isR := [0, 1, 2, 3, 4, 5, 6, 7, 8, 9, 10, 11, 12, 13, 14, 15, 16, 17, 18, 19, 20, 21, 22, 23, 24, 25, 26, 27, 28, 33, 34, 35, 36, 37]) hc hw (c_X7_add hm) lk_X8_185 ⟨rfl, rfl, rfl, rfl, by decide⟩ rfl rfl ⟨Nat.le_of_ble_eq_true rfl, Nat.le_of_ble_eq_true rfl⟩ ⟨Nat.le_of_ble_eq_true rfl, Nat.le_of_ble_eq_true rfl⟩ hl.1 rfl (Nat.le_of_ble_eq_true rfl) rfl dX8_draw_170 (fun S43 H locs hm hw => ?_)
          have hw : wV D A s.heap ((oW cy aO (aB 0) e_O_images e_O_tape e_O_reader (aP 0) e_O_trial e_O_season e_O_dates e_O_line (aev 0) (ach 0) SO) ++ ((bW cy aB (als 0) (atd 0) e_B_mentions e_B_claims SB) ++ ((lsW cy als Sls) ++ ((pW cy aP (aJ 0) S6) ++ ((jW cy aJ S7) ++ ((tW cy atd Std) ++ ((chW cy ach S32) ++ ((tW cy aev S43) ++ (lwW cy aLw SLw))))))))) H locs := hw.perm [0, 1, 2, 3, 4, 5, 6, 7, 8, 9, 10, 11, 12, 13, 14, 15, 16, 17, 18, 19, 20, 21, 22, 23, 24, 25, 26, 27, 28, 34, 35, 36, 37, 29, 30, 31, 32, 33] rfl rfl
          obtain ⟨v45, e_v45⟩ : ∃ z : Int32, z = x6_18 + 1 := ⟨_, rfl⟩
          have hm := hm v45 e_v45
          refine lv_iinc (v := v45) (lv' := [(6, .int v45), (2, .int v42), (3, .int r40), (4, .int v39), (9, .int v38), (8, .int v37), (5, .int v34), (7, .int r31), (0, .ref (aO 0))]) hx hb dX8_draw_173 hl (k := 7) rfl (by rw [e_v45]; rfl) (by decide) rfl (fun ls hl => ?_)
          refine lv_goto (tgt := 67) hx hb dX8_draw_176 (by decide) ?_
          exact ih25 _ _ _ _ _ _ _ hm _ _ _ hw (lv_sub hl [0, 6, 3, 2, 1, 8] rfl)
        · have hm := hm.2 c46
          refine lv_goto (tgt := 179) hx hb dX8_draw_96 (by decide) ?_
          exact hJ27 _ hm _ _ _ hw (lv_sub hl [6] rfl)
    · have hm := hm.2 c48
      exact hJ2 _ hm _ _ _ hw (lv_sub hl [0] rfl)
set_option maxHeartbeats 4000000 in
set_option maxRecDepth 100000 in
theorem c_X8_drawN {l : Launch} {D : va_G} {cy : Nat → ClassId} {aO : Nat → Nat} {aB : Nat → Nat} {als : Nat → Nat} {aP : Nat → Nat} {aJ : Nat → Nat} {atd : Nat → Nat} {ach : Nat → Nat} {aev : Nat → Nat} {e_O_images : Nat} {e_O_tape : Nat} {e_O_reader : Nat} {e_O_trial : Option Nat} {e_O_season : Option Nat} {e_O_dates : Nat} {e_O_line : Nat} {e_B_mentions : Nat} {e_B_claims : Nat} {SO : Ob} {SB : Ob} {Sls : (Nat → Option Nat)} {SP : Ob} {SJ : Ob} {Std : Ob} {Sch : (Nat → Int32)} {Sev : Ob} {x1 : Int32} {Q : Int32 → Ob → Ob → Ob → (Nat → Int32) → Ob → Prop} (hm : w_X8_drawN SO SB Sls SP SJ Std Sch Sev x1 Q) : CtI l yX8_draw cX8_draw 10 (some .int) (rmN 5) D cy [.ref (aO 0), .int x1] ((oW cy aO (aB 0) e_O_images e_O_tape e_O_reader (aP 0) e_O_trial e_O_season e_O_dates e_O_line (aev 0) (ach 0) SO) ++ ((bW cy aB (als 0) (atd 0) e_B_mentions e_B_claims SB) ++ ((lsW cy als Sls) ++ ((pW cy aP (aJ 0) SP) ++ ((jW cy aJ SJ) ++ ((tW cy atd Std) ++ ((chW cy ach Sch) ++ (tW cy aev Sev)))))))) (fun u : Ob × Ob × Ob × (Nat → Int32) × Ob => ((oW cy aO (aB 0) e_O_images e_O_tape e_O_reader (aP 0) e_O_trial e_O_season e_O_dates e_O_line (aev 0) (ach 0) u.1) ++ ((bW cy aB (als 0) (atd 0) e_B_mentions e_B_claims SB) ++ ((lsW cy als Sls) ++ ((pW cy aP (aJ 0) u.2.1) ++ ((jW cy aJ u.2.2.1) ++ ((tW cy atd Std) ++ ((chW cy ach u.2.2.2.1) ++ (tW cy aev u.2.2.2.2))))))))) (fun (r : Int32) (u : Ob × Ob × Ob × (Nat → Int32) × Ob) => Q r u.1 u.2.1 u.2.2.1 u.2.2.2.1 u.2.2.2.2) := by
  refine CtI.ofW (by decide) (Nat.le_of_ble_eq_true rfl) ?_
  intro p e s m args below meth c A ls hc hnm hw hl
  have hx := hc.1.1
  have hb := hc.1.2.1
  have hown := hc.1.2.2.2.1
  have hts := hc.1.2.2.2.2
  have hl : lv_has ls 10 [(0, .ref (aO 0)), (1, .int x1)] := hl
  obtain ⟨H, hH⟩ : ∃ z, z = s.heap := ⟨_, rfl⟩
  obtain ⟨locs, hLc⟩ : ∃ z : List Loc, z = [] := ⟨_, rfl⟩
  have hw : wV D A s.heap ((oW cy aO (aB 0) e_O_images e_O_tape e_O_reader (aP 0) e_O_trial e_O_season e_O_dates e_O_line (aev 0) (ach 0) SO) ++ ((bW cy aB (als 0) (atd 0) e_B_mentions e_B_claims SB) ++ ((lsW cy als Sls) ++ ((pW cy aP (aJ 0) SP) ++ ((jW cy aJ SJ) ++ ((tW cy atd Std) ++ ((chW cy ach Sch) ++ (tW cy aev Sev)))))))) H locs := by rw [hH, hLc]; exact hw
  have hgo : W p l e (rmN 5) s m args below meth c H locs 0 0 (MQ below (eI D cy A (fun u : Ob × Ob × Ob × (Nat → Int32) × Ob => ((oW cy aO (aB 0) e_O_images e_O_tape e_O_reader (aP 0) e_O_trial e_O_season e_O_dates e_O_line (aev 0) (ach 0) u.1) ++ ((bW cy aB (als 0) (atd 0) e_B_mentions e_B_claims SB) ++ ((lsW cy als Sls) ++ ((pW cy aP (aJ 0) u.2.1) ++ ((jW cy aJ u.2.2.1) ++ ((tW cy atd Std) ++ ((chW cy ach u.2.2.2.1) ++ (tW cy aev u.2.2.2.2))))))))) (fun (r : Int32) (u : Ob × Ob × Ob × (Nat → Int32) × Ob) => Q r u.1 u.2.1 u.2.2.1 u.2.2.2.1 u.2.2.2.2)) args s (rmN 5).cells (rmN 5).slots A) (F0 m 0 ls []) := ?hgo
  · rw [hH, hLc] at hgo; exact hgo
  refine lv_iload_n hx hb dX8_draw_0 rfl (lv_at hl 1 rfl) ?_
  obtain ⟨J2, eJ2, hm⟩ := jn_e hm
  have hJ2 : ∀ (z1 : Unit) (_ : J2 z1) (H : Heap) (locs : List Loc) (ls : Array Slot), wV D A s.heap ((oW cy aO (aB 0) e_O_images e_O_tape e_O_reader (aP 0) e_O_trial e_O_season e_O_dates e_O_line (aev 0) (ach 0) SO) ++ ((bW cy aB (als 0) (atd 0) e_B_mentions e_B_claims SB) ++ ((lsW cy als Sls) ++ ((pW cy aP (aJ 0) SP) ++ ((jW cy aJ SJ) ++ ((tW cy atd Std) ++ ((chW cy ach Sch) ++ (tW cy aev Sev)))))))) H locs → lv_has ls 10 [(0, .ref (aO 0))] → W p l e (rmN 5) s m args below meth c H locs 0 0 (MQ below (eI D cy A (fun u : Ob × Ob × Ob × (Nat → Int32) × Ob => ((oW cy aO (aB 0) e_O_images e_O_tape e_O_reader (aP 0) e_O_trial e_O_season e_O_dates e_O_line (aev 0) (ach 0) u.1) ++ ((bW cy aB (als 0) (atd 0) e_B_mentions e_B_claims SB) ++ ((lsW cy als Sls) ++ ((pW cy aP (aJ 0) u.2.1) ++ ((jW cy aJ u.2.2.1) ++ ((tW cy atd Std) ++ ((chW cy ach u.2.2.2.1) ++ (tW cy aev u.2.2.2.2))))))))) (fun (r : Int32) (u : Ob × Ob × Ob × (Nat → Int32) × Ob) => Q r u.1 u.2.1 u.2.2.1 u.2.2.2.1 u.2.2.2.2)) args s (rmN 5).cells (rmN 5).slots A) (F0 m 11 ls []) := by
    intro z1 hm H locs ls hw hl
    rw [eJ2] at hm
    refine lv_aload_n hx hb dX8_draw_11 rfl (lv_at hl 0 rfl) ?_
    refine lv_iconst (v := (-1)) hx hb dX8_draw_12 (by decide) ?_
    refine nV_I (As := [.int (-1)]) (rest := []) (wc := (oW cy aO (aB 0) e_O_images e_O_tape e_O_reader (aP 0) e_O_trial e_O_season e_O_dates e_O_line (aev 0) (ach 0) SO)) (wr := ((bW cy aB (als 0) (atd 0) e_B_mentions e_B_claims SB) ++ ((lsW cy als Sls) ++ ((pW cy aP (aJ 0) SP) ++ ((jW cy aJ SJ) ++ ((tW cy atd Std) ++ ((chW cy ach Sch) ++ (tW cy aev Sev)))))))) (isC := [0, 1, 2]) (isR := [3, 4, 5, 6, 7, 8, 9, 10, 11, 12, 13, 14, 15, 16, 17, 18, 19, 20, 21, 22, 23, 24, 25, 26, 27, 28, 29, 30, 31, 32]) hc hw (c_X8_refuse hm) lk_X8_89 ⟨rfl, rfl, rfl, rfl, by decide⟩ rfl rfl ⟨Nat.le_of_ble_eq_true rfl, Nat.le_of_ble_eq_true rfl⟩ ⟨Nat.le_of_ble_eq_true rfl, Nat.le_of_ble_eq_true rfl⟩ hl.1 rfl (Nat.le_of_ble_eq_true rfl) rfl dX8_draw_13 (fun r3 S4 H locs hm hw => ?_)
    have hw : wV D A s.heap ((oW cy aO (aB 0) e_O_images e_O_tape e_O_reader (aP 0) e_O_trial e_O_season e_O_dates e_O_line (aev 0) (ach 0) S4) ++ ((bW cy aB (als 0) (atd 0) e_B_mentions e_B_claims SB) ++ ((lsW cy als Sls) ++ ((pW cy aP (aJ 0) SP) ++ ((jW cy aJ SJ) ++ ((tW cy atd Std) ++ ((chW cy ach Sch) ++ (tW cy aev Sev)))))))) H locs := hw.perm [30, 31, 32, 0, 1, 2, 3, 4, 5, 6, 7, 8, 9, 10, 11, 12, 13, 14, 15, 16, 17, 18, 19, 20, 21, 22, 23, 24, 25, 26, 27, 28, 29] rfl rfl
    exact retI (u := (S4, SP, SJ, Sch, Sev)) hc hw hm dX8_draw_16
  refine lv_if_lt (tgt := 11) hx hb dX8_draw_1 (by decide) (fun c49 => ?_) (fun c49 => ?_)
  · have hm := hm.1 c49
    exact hJ2 _ hm _ _ _ hw (lv_sub hl [0] rfl)
  · have hm := hm.2 c49
    refine lv_iload_n hx hb dX8_draw_4 rfl (lv_at hl 1 rfl) ?_
    refine lv_ldcw (v := 1000000) hx hb hown (hts _ (gm 1015 (by decide +kernel) rfl)) dX8_draw_5 ?_
    refine lv_icmp_le (tgt := 17) hx hb dX8_draw_8 (by decide) (fun c48 => ?_) (fun c48 => ?_)
    · have hm := hm.1 c48
      refine lv_aload_n hx hb dX8_draw_17 rfl (lv_at hl 0 rfl) ?_
      refine gF (k := 8) hc hw inX8 rfl 0 rfl (by decide) (gm 423 (by decide +kernel) rfl) rfl dX8_draw_18 ?_
      refine lv_aload_n hx hb dX8_draw_21 rfl (lv_at hl 0 rfl) ?_
      refine gF (k := 0) hc hw inX8 rfl 0 rfl (by decide) (gm 415 (by decide +kernel) rfl) rfl dX8_draw_22 ?_
      refine nVN_V (As := [.ref (aB 0)]) (rest := []) (wc := ((pW cy aP (aJ 0) SP) ++ ((jW cy aJ SJ) ++ ((bW cy aB (als 0) (atd 0) e_B_mentions e_B_claims SB) ++ (lsW cy als Sls))))) (wr := ((oW cy aO (aB 0) e_O_images e_O_tape e_O_reader (aP 0) e_O_trial e_O_season e_O_dates e_O_line (aev 0) (ach 0) SO) ++ ((tW cy atd Std) ++ ((chW cy ach Sch) ++ (tW cy aev Sev))))) (isC := [10, 11, 12, 13, 14, 15, 16, 17, 18, 19, 20, 21, 22, 23, 3, 4, 5, 6, 7, 8, 9]) (isR := [0, 1, 2, 24, 25, 26, 27, 28, 29, 30, 31, 32]) hc hw (c_X3_weighN hm) lk_X8_124 ⟨rfl, rfl, rfl, rfl, by decide⟩ rfl rfl ⟨Nat.le_of_ble_eq_true rfl, Nat.le_of_ble_eq_true rfl⟩ ⟨Nat.le_of_ble_eq_true rfl, Nat.le_of_ble_eq_true rfl⟩ hl.1 rfl (Nat.le_of_ble_eq_true rfl) rfl dX8_draw_25 (fun u_7 H locs hm hw => ?_)
      obtain ⟨S6, S7⟩ := u_7
      have hw : wV D A s.heap ((oW cy aO (aB 0) e_O_images e_O_tape e_O_reader (aP 0) e_O_trial e_O_season e_O_dates e_O_line (aev 0) (ach 0) SO) ++ ((bW cy aB (als 0) (atd 0) e_B_mentions e_B_claims SB) ++ ((lsW cy als Sls) ++ ((pW cy aP (aJ 0) S6) ++ ((jW cy aJ S7) ++ ((tW cy atd Std) ++ ((chW cy ach Sch) ++ (tW cy aev Sev)))))))) H locs := hw.perm [0, 1, 2, 26, 27, 28, 29, 30, 31, 32, 12, 13, 14, 15, 16, 17, 18, 19, 20, 21, 22, 23, 24, 25, 3, 4, 5, 6, 7, 8, 9, 10, 11] rfl rfl
      refine lv_aload_n hx hb dX8_draw_28 rfl (lv_at hl 0 rfl) ?_
      refine gF (k := 13) hc hw inX8 rfl 0 rfl (by decide) (gm 428 (by decide +kernel) rfl) rfl dX8_draw_29 ?_
      refine nVN_I (As := []) (rest := []) (wc := (tW cy aev Sev)) (wr := ((oW cy aO (aB 0) e_O_images e_O_tape e_O_reader (aP 0) e_O_trial e_O_season e_O_dates e_O_line (aev 0) (ach 0) SO) ++ ((bW cy aB (als 0) (atd 0) e_B_mentions e_B_claims SB) ++ ((lsW cy als Sls) ++ ((pW cy aP (aJ 0) S6) ++ ((jW cy aJ S7) ++ ((tW cy atd Std) ++ (chW cy ach Sch)))))))) (isC := [29, 30, 31, 32]) (isR := [0, 1, 2, 3, 4, 5, 6, 7, 8, 9, 10, 11, 12, 13, 14, 15, 16, 17, 18, 19, 20, 21, 22, 23, 24, 25, 26, 27, 28]) hc hw (c_X7_drop hm) lk_X8_188 ⟨rfl, rfl, rfl, rfl, by decide⟩ rfl rfl ⟨Nat.le_of_ble_eq_true rfl, Nat.le_of_ble_eq_true rfl⟩ ⟨Nat.le_of_ble_eq_true rfl, Nat.le_of_ble_eq_true rfl⟩ hl.1 rfl (Nat.le_of_ble_eq_true rfl) rfl dX8_draw_32 (fun r9 S10 H locs hm hw => ?_)
      have hw : wV D A s.heap ((oW cy aO (aB 0) e_O_images e_O_tape e_O_reader (aP 0) e_O_trial e_O_season e_O_dates e_O_line (aev 0) (ach 0) SO) ++ ((bW cy aB (als 0) (atd 0) e_B_mentions e_B_claims SB) ++ ((lsW cy als Sls) ++ ((pW cy aP (aJ 0) S6) ++ ((jW cy aJ S7) ++ ((tW cy atd Std) ++ ((chW cy ach Sch) ++ (tW cy aev S10)))))))) H locs := hw.perm [0, 1, 2, 3, 4, 5, 6, 7, 8, 9, 10, 11, 12, 13, 14, 15, 16, 17, 18, 19, 20, 21, 22, 23, 24, 25, 26, 27, 28, 29, 30, 31, 32] rfl rfl
      refine lv_pop hx hb dX8_draw_35 rfl ?_
      refine lv_aload_n hx hb dX8_draw_36 rfl (lv_at hl 0 rfl) ?_
      refine gF (k := 0) hc hw inX8 rfl 0 rfl (by decide) (gm 415 (by decide +kernel) rfl) rfl dX8_draw_37 ?_
      refine nVN_I (As := []) (rest := []) (wc := ((bW cy aB (als 0) (atd 0) e_B_mentions e_B_claims SB) ++ (tW cy atd Std))) (wr := ((oW cy aO (aB 0) e_O_images e_O_tape e_O_reader (aP 0) e_O_trial e_O_season e_O_dates e_O_line (aev 0) (ach 0) SO) ++ ((lsW cy als Sls) ++ ((pW cy aP (aJ 0) S6) ++ ((jW cy aJ S7) ++ ((chW cy ach Sch) ++ (tW cy aev S10))))))) (isC := [3, 4, 5, 6, 7, 8, 24, 25, 26, 27]) (isR := [0, 1, 2, 9, 10, 11, 12, 13, 14, 15, 16, 17, 18, 19, 20, 21, 22, 23, 28, 29, 30, 31, 32]) hc hw (c_X6_untold hm) lk_X8_194 ⟨rfl, rfl, rfl, rfl, by decide⟩ rfl rfl ⟨Nat.le_of_ble_eq_true rfl, Nat.le_of_ble_eq_true rfl⟩ ⟨Nat.le_of_ble_eq_true rfl, Nat.le_of_ble_eq_true rfl⟩ hl.1 rfl (Nat.le_of_ble_eq_true rfl) rfl dX8_draw_40 (fun r12 _ H locs hm hw => ?_)
      have hw : wV D A s.heap ((oW cy aO (aB 0) e_O_images e_O_tape e_O_reader (aP 0) e_O_trial e_O_season e_O_dates e_O_line (aev 0) (ach 0) SO) ++ ((bW cy aB (als 0) (atd 0) e_B_mentions e_B_claims SB) ++ ((lsW cy als Sls) ++ ((pW cy aP (aJ 0) S6) ++ ((jW cy aJ S7) ++ ((tW cy atd Std) ++ ((chW cy ach Sch) ++ (tW cy aev S10)))))))) H locs := hw.perm [0, 1, 2, 23, 24, 25, 26, 27, 28, 3, 4, 5, 6, 7, 8, 9, 10, 11, 12, 13, 14, 15, 16, 17, 29, 30, 31, 32, 18, 19, 20, 21, 22] rfl rfl
      refine lv_istore_n (lv' := [(2, .int r12), (0, .ref (aO 0)), (1, .int x1)]) hx hb dX8_draw_43 rfl hl (by decide) rfl (fun ls hl => ?_)
      refine lv_aload_n hx hb dX8_draw_44 rfl (lv_at hl 1 rfl) ?_
      refine gF (k := 0) hc hw inX8 rfl 0 rfl (by decide) (gm 415 (by decide +kernel) rfl) rfl dX8_draw_45 ?_
      refine nVN_I (As := []) (rest := []) (wc := ((bW cy aB (als 0) (atd 0) e_B_mentions e_B_claims SB) ++ (tW cy atd Std))) (wr := ((oW cy aO (aB 0) e_O_images e_O_tape e_O_reader (aP 0) e_O_trial e_O_season e_O_dates e_O_line (aev 0) (ach 0) SO) ++ ((lsW cy als Sls) ++ ((pW cy aP (aJ 0) S6) ++ ((jW cy aJ S7) ++ ((chW cy ach Sch) ++ (tW cy aev S10))))))) (isC := [3, 4, 5, 6, 7, 8, 24, 25, 26, 27]) (isR := [0, 1, 2, 9, 10, 11, 12, 13, 14, 15, 16, 17, 18, 19, 20, 21, 22, 23, 28, 29, 30, 31, 32]) hc hw (c_X6_lastYear hm) lk_X8_165 ⟨rfl, rfl, rfl, rfl, by decide⟩ rfl rfl ⟨Nat.le_of_ble_eq_true rfl, Nat.le_of_ble_eq_true rfl⟩ ⟨Nat.le_of_ble_eq_true rfl, Nat.le_of_ble_eq_true rfl⟩ hl.1 rfl (Nat.le_of_ble_eq_true rfl) rfl dX8_draw_48 (fun r14 _ H locs hm hw => ?_)
      have hw : wV D A s.heap ((oW cy aO (aB 0) e_O_images e_O_tape e_O_reader (aP 0) e_O_trial e_O_season e_O_dates e_O_line (aev 0) (ach 0) SO) ++ ((bW cy aB (als 0) (atd 0) e_B_mentions e_B_claims SB) ++ ((lsW cy als Sls) ++ ((pW cy aP (aJ 0) S6) ++ ((jW cy aJ S7) ++ ((tW cy atd Std) ++ ((chW cy ach Sch) ++ (tW cy aev S10)))))))) H locs := hw.perm [0, 1, 2, 23, 24, 25, 26, 27, 28, 3, 4, 5, 6, 7, 8, 9, 10, 11, 12, 13, 14, 15, 16, 17, 29, 30, 31, 32, 18, 19, 20, 21, 22] rfl rfl
      refine lv_istore_n (lv' := [(3, .int r14), (2, .int r12), (0, .ref (aO 0)), (1, .int x1)]) hx hb dX8_draw_51 rfl hl (by decide) rfl (fun ls hl => ?_)
      refine lv_aload_n hx hb dX8_draw_52 rfl (lv_at hl 2 rfl) ?_
      refine gF (k := 0) hc hw inX8 rfl 0 rfl (by decide) (gm 415 (by decide +kernel) rfl) rfl dX8_draw_53 ?_
      refine nVN_I (As := []) (rest := []) (wc := ((bW cy aB (als 0) (atd 0) e_B_mentions e_B_claims SB) ++ (tW cy atd Std))) (wr := ((oW cy aO (aB 0) e_O_images e_O_tape e_O_reader (aP 0) e_O_trial e_O_season e_O_dates e_O_line (aev 0) (ach 0) SO) ++ ((lsW cy als Sls) ++ ((pW cy aP (aJ 0) S6) ++ ((jW cy aJ S7) ++ ((chW cy ach Sch) ++ (tW cy aev S10))))))) (isC := [3, 4, 5, 6, 7, 8, 24, 25, 26, 27]) (isR := [0, 1, 2, 9, 10, 11, 12, 13, 14, 15, 16, 17, 18, 19, 20, 21, 22, 23, 28, 29, 30, 31, 32]) hc hw (c_X6_lastTeller hm) lk_X8_173 ⟨rfl, rfl, rfl, rfl, by decide⟩ rfl rfl ⟨Nat.le_of_ble_eq_true rfl, Nat.le_of_ble_eq_true rfl⟩ ⟨Nat.le_of_ble_eq_true rfl, Nat.le_of_ble_eq_true rfl⟩ hl.1 rfl (Nat.le_of_ble_eq_true rfl) rfl dX8_draw_56 (fun r16 _ H locs hm hw => ?_)
      have hw : wV D A s.heap ((oW cy aO (aB 0) e_O_images e_O_tape e_O_reader (aP 0) e_O_trial e_O_season e_O_dates e_O_line (aev 0) (ach 0) SO) ++ ((bW cy aB (als 0) (atd 0) e_B_mentions e_B_claims SB) ++ ((lsW cy als Sls) ++ ((pW cy aP (aJ 0) S6) ++ ((jW cy aJ S7) ++ ((tW cy atd Std) ++ ((chW cy ach Sch) ++ (tW cy aev S10)))))))) H locs := hw.perm [0, 1, 2, 23, 24, 25, 26, 27, 28, 3, 4, 5, 6, 7, 8, 9, 10, 11, 12, 13, 14, 15, 16, 17, 29, 30, 31, 32, 18, 19, 20, 21, 22] rfl rfl
      refine lv_istore (lv' := [(4, .int r16), (3, .int r14), (2, .int r12), (0, .ref (aO 0)), (1, .int x1)]) hx hb dX8_draw_59 hl (by decide) rfl (fun ls hl => ?_)
      refine lv_iload_n hx hb dX8_draw_61 rfl (lv_at hl 4 rfl) ?_
      refine lv_istore (lv' := [(5, .int x1), (4, .int r16), (3, .int r14), (2, .int r12), (0, .ref (aO 0)), (1, .int x1)]) hx hb dX8_draw_62 hl (by decide) rfl (fun ls hl => ?_)
      refine lv_iconst (v := 0) hx hb dX8_draw_64 (by decide) ?_
      refine lv_istore (lv' := [(6, .int 0), (5, .int x1), (4, .int r16), (3, .int r14), (2, .int r12), (0, .ref (aO 0)), (1, .int x1)]) hx hb dX8_draw_65 hl (by decide) rfl (fun ls hl => ?_)
      refine wl7_ind (G := fun (x6_18 : Int32) (x5_19 : Int32) (x4_20 : Int32) (x3_21 : Int32) (x2_22 : Int32) (S23 : (Nat → Int32)) (S24 : Ob) => ∀ (H : Heap) (locs : List Loc) (ls : Array Slot), wV D A s.heap ((oW cy aO (aB 0) e_O_images e_O_tape e_O_reader (aP 0) e_O_trial e_O_season e_O_dates e_O_line (aev 0) (ach 0) SO) ++ ((bW cy aB (als 0) (atd 0) e_B_mentions e_B_claims SB) ++ ((lsW cy als Sls) ++ ((pW cy aP (aJ 0) S6) ++ ((jW cy aJ S7) ++ ((tW cy atd Std) ++ ((chW cy ach S23) ++ (tW cy aev S24)))))))) H locs → lv_has ls 10 [(6, .int x6_18), (5, .int x5_19), (4, .int x4_20), (3, .int x3_21), (2, .int x2_22), (0, .ref (aO 0))] → W p l e (rmN 5) s m args below meth c H locs 0 0 (MQ below (eI D cy A (fun u : Ob × Ob × Ob × (Nat → Int32) × Ob => ((oW cy aO (aB 0) e_O_images e_O_tape e_O_reader (aP 0) e_O_trial e_O_season e_O_dates e_O_line (aev 0) (ach 0) u.1) ++ ((bW cy aB (als 0) (atd 0) e_B_mentions e_B_claims SB) ++ ((lsW cy als Sls) ++ ((pW cy aP (aJ 0) u.2.1) ++ ((jW cy aJ u.2.2.1) ++ ((tW cy atd Std) ++ ((chW cy ach u.2.2.2.1) ++ (tW cy aev u.2.2.2.2))))))))) (fun (r : Int32) (u : Ob × Ob × Ob × (Nat → Int32) × Ob) => Q r u.1 u.2.1 u.2.2.1 u.2.2.2.1 u.2.2.2.2)) args s (rmN 5).cells (rmN 5).slots A) (F0 m 67 ls [])) ?_ _ _ _ _ _ _ _ hm H locs ls hw (lv_sub hl [0, 1, 2, 3, 4, 5] rfl)
      intro L25 ih25 x6_18 x5_19 x4_20 x3_21 x2_22 S23 S24 hm H locs ls hw hl
      refine lv_iload hx hb dX8_draw_67 (lv_at hl 0 rfl) ?_
      refine lv_bipush (v := 10) hx hb dX8_draw_69 (by decide) ?_
      obtain ⟨J27, eJ27, hm⟩ := jn_e hm
      have hJ27 : ∀ (S26 : (Nat → Int32)) (_ : J27 S26) (H : Heap) (locs : List Loc) (ls : Array Slot), wV D A s.heap ((oW cy aO (aB 0) e_O_images e_O_tape e_O_reader (aP 0) e_O_trial e_O_season e_O_dates e_O_line (aev 0) (ach 0) SO) ++ ((bW cy aB (als 0) (atd 0) e_B_mentions e_B_claims SB) ++ ((lsW cy als Sls) ++ ((pW cy aP (aJ 0) S6) ++ ((jW cy aJ S7) ++ ((tW cy atd Std) ++ ((chW cy ach S26) ++ (tW cy aev S24)))))))) H locs → lv_has ls 10 [(0, .ref (aO 0))] → W p l e (rmN 5) s m args below meth c H locs 0 0 (MQ below (eI D cy A (fun u : Ob × Ob × Ob × (Nat → Int32) × Ob => ((oW cy aO (aB 0) e_O_images e_O_tape e_O_reader (aP 0) e_O_trial e_O_season e_O_dates e_O_line (aev 0) (ach 0) u.1) ++ ((bW cy aB (als 0) (atd 0) e_B_mentions e_B_claims SB) ++ ((lsW cy als Sls) ++ ((pW cy aP (aJ 0) u.2.1) ++ ((jW cy aJ u.2.2.1) ++ ((tW cy atd Std) ++ ((chW cy ach u.2.2.2.1) ++ (tW cy aev u.2.2.2.2))))))))) (fun (r : Int32) (u : Ob × Ob × Ob × (Nat → Int32) × Ob) => Q r u.1 u.2.1 u.2.2.1 u.2.2.2.1 u.2.2.2.2)) args s (rmN 5).cells (rmN 5).slots A) (F0 m 179 ls []) := by
        intro S26 hm H locs ls hw hl
        rw [eJ27] at hm
        refine lv_aload_n hx hb dX8_draw_179 rfl (lv_at hl 0 rfl) ?_
        refine lv_aload_n hx hb dX8_draw_180 rfl (lv_at hl 0 rfl) ?_
        refine gF (k := 13) hc hw inX8 rfl 0 rfl (by decide) (gm 428 (by decide +kernel) rfl) rfl dX8_draw_181 ?_
        refine gN (k := 3) (host := "OlderTale") hc hw inX7 rfl 29 rfl (by decide) (nmm 183 (by decide +kernel)) rfl dX8_draw_184 ?_
        refine nV_I (As := [.int (S24.1 3)]) (rest := []) (wc := (oW cy aO (aB 0) e_O_images e_O_tape e_O_reader (aP 0) e_O_trial e_O_season e_O_dates e_O_line (aev 0) (ach 0) SO)) (wr := ((bW cy aB (als 0) (atd 0) e_B_mentions e_B_claims SB) ++ ((lsW cy als Sls) ++ ((pW cy aP (aJ 0) S6) ++ ((jW cy aJ S7) ++ ((tW cy atd Std) ++ ((chW cy ach S26) ++ (tW cy aev S24)))))))) (isC := [0, 1, 2]) (isR := [3, 4, 5, 6, 7, 8, 9, 10, 11, 12, 13, 14, 15, 16, 17, 18, 19, 20, 21, 22, 23, 24, 25, 26, 27, 28, 29, 30, 31, 32]) hc hw (c_X8_accept hm) lk_X8_103 ⟨rfl, rfl, rfl, rfl, by decide⟩ rfl rfl ⟨Nat.le_of_ble_eq_true rfl, Nat.le_of_ble_eq_true rfl⟩ ⟨Nat.le_of_ble_eq_true rfl, Nat.le_of_ble_eq_true rfl⟩ hl.1 rfl (Nat.le_of_ble_eq_true rfl) rfl dX8_draw_187 (fun r28 S29 H locs hm hw => ?_)
        have hw : wV D A s.heap ((oW cy aO (aB 0) e_O_images e_O_tape e_O_reader (aP 0) e_O_trial e_O_season e_O_dates e_O_line (aev 0) (ach 0) S29) ++ ((bW cy aB (als 0) (atd 0) e_B_mentions e_B_claims SB) ++ ((lsW cy als Sls) ++ ((pW cy aP (aJ 0) S6) ++ ((jW cy aJ S7) ++ ((tW cy atd Std) ++ ((chW cy ach S26) ++ (tW cy aev S24)))))))) H locs := hw.perm [30, 31, 32, 0, 1, 2, 3, 4, 5, 6, 7, 8, 9, 10, 11, 12, 13, 14, 15, 16, 17, 18, 19, 20, 21, 22, 23, 24, 25, 26, 27, 28, 29] rfl rfl
        exact retI (u := (S29, S6, S7, S26, S24)) hc hw hm dX8_draw_190
      refine lv_icmp_ge (tgt := 179) hx hb dX8_draw_71 (by decide) (fun c47 => ?_) (fun c47 => ?_)
      · have hm := hm.1 c47
        exact hJ27 _ hm _ _ _ hw (lv_sub hl [5] rfl)
      · have hm := hm.2 c47
        refine lv_aload_n hx hb dX8_draw_74 rfl (lv_at hl 5 rfl) ?_
        refine gF (k := 8) hc hw inX8 rfl 0 rfl (by decide) (gm 423 (by decide +kernel) rfl) rfl dX8_draw_75 ?_
        refine lv_iload_n hx hb dX8_draw_78 rfl (lv_at hl 4 rfl) ?_
        refine lv_iload_n hx hb dX8_draw_79 rfl (lv_at hl 3 rfl) ?_
        refine lv_iload hx hb dX8_draw_80 (lv_at hl 2 rfl) ?_
        refine lv_aload_n hx hb dX8_draw_82 rfl (lv_at hl 5 rfl) ?_
        refine gF (k := 14) hc hw inX8 rfl 0 rfl (by decide) (gm 429 (by decide +kernel) rfl) rfl dX8_draw_83 ?_
        refine nVN_I (As := [.int x2_22, .int x3_21, .int x4_20, .ref (ach 0)]) (rest := []) (wc := ((pW cy aP (aJ 0) S6) ++ (chW cy ach S23))) (wr := ((oW cy aO (aB 0) e_O_images e_O_tape e_O_reader (aP 0) e_O_trial e_O_season e_O_dates e_O_line (aev 0) (ach 0) SO) ++ ((bW cy aB (als 0) (atd 0) e_B_mentions e_B_claims SB) ++ ((lsW cy als Sls) ++ ((jW cy aJ S7) ++ ((tW cy atd Std) ++ (tW cy aev S24))))))) (isC := [10, 11, 12, 13, 14, 15, 16, 17, 18, 19, 20, 28]) (isR := [0, 1, 2, 3, 4, 5, 6, 7, 8, 9, 21, 22, 23, 24, 25, 26, 27, 29, 30, 31, 32]) hc hw (c_X3_listChoices hm) lk_X8_293 ⟨rfl, rfl, rfl, rfl, by decide⟩ rfl rfl ⟨Nat.le_of_ble_eq_true rfl, Nat.le_of_ble_eq_true rfl⟩ ⟨Nat.le_of_ble_eq_true rfl, Nat.le_of_ble_eq_true rfl⟩ hl.1 rfl (Nat.le_of_ble_eq_true rfl) rfl dX8_draw_86 (fun r31 S32 H locs hm hw => ?_)
        have hw : wV D A s.heap ((oW cy aO (aB 0) e_O_images e_O_tape e_O_reader (aP 0) e_O_trial e_O_season e_O_dates e_O_line (aev 0) (ach 0) SO) ++ ((bW cy aB (als 0) (atd 0) e_B_mentions e_B_claims SB) ++ ((lsW cy als Sls) ++ ((pW cy aP (aJ 0) S6) ++ ((jW cy aJ S7) ++ ((tW cy atd Std) ++ ((chW cy ach S32) ++ (tW cy aev S24)))))))) H locs := hw.perm [0, 1, 2, 3, 4, 5, 6, 7, 8, 9, 21, 22, 23, 24, 25, 26, 27, 28, 29, 30, 31, 10, 11, 12, 13, 14, 15, 16, 32, 17, 18, 19, 20] rfl rfl
        refine lv_istore (lv' := [(7, .int r31), (6, .int x6_18), (5, .int x5_19), (4, .int x4_20), (3, .int x3_21), (2, .int x2_22), (0, .ref (aO 0))]) hx hb dX8_draw_89 hl (by decide) rfl (fun ls hl => ?_)
        refine lv_iload hx hb dX8_draw_91 (lv_at hl 0 rfl) ?_
        refine lv_if_gt (tgt := 99) hx hb dX8_draw_93 (by decide) (fun c46 => ?_) (fun c46 => ?_)
        · have hm := hm.1 c46
          refine lv_iload hx hb dX8_draw_99 (lv_at hl 2 rfl) ?_
          refine lv_i2l hx hb dX8_draw_101 rfl ?_
          refine lv_ldc2 (v := 1103) hx hb hown (hts _ (gm 1020 (by decide +kernel) rfl)) dX8_draw_102 ?_
          refine lv_lmul hx hb dX8_draw_105 ?_
          refine lv_ldc2 (v := 12345) hx hb hown (hts _ (gm 1021 (by decide +kernel) rfl)) dX8_draw_106 ?_
          refine lv_ladd hx hb dX8_draw_109 ?_
          refine lv_ldc2 (v := 1000003) hx hb hown (hts _ (gm 1022 (by decide +kernel) rfl)) dX8_draw_110 ?_
          refine lv_lrem hx hb dX8_draw_113 (by decide) ?_
          refine lv_l2i hx hb dX8_draw_114 rfl ?_
          refine lv_topi (fun v34 e_v34 => ?_)
          have hm := hm v34 e_v34
          refine lv_istore (lv' := [(5, .int v34), (7, .int r31), (6, .int x6_18), (4, .int x4_20), (3, .int x3_21), (2, .int x2_22), (0, .ref (aO 0))]) hx hb dX8_draw_115 hl (by decide) rfl (fun ls hl => ?_)
          refine lv_aload_n hx hb dX8_draw_117 rfl (lv_at hl 6 rfl) ?_
          refine gF (k := 14) hc hw inX8 rfl 0 rfl (by decide) (gm 429 (by decide +kernel) rfl) rfl dX8_draw_118 ?_
          refine lv_iload hx hb dX8_draw_121 (lv_at hl 0 rfl) ?_
          refine lv_iload hx hb dX8_draw_123 (lv_at hl 1 rfl) ?_
          obtain ⟨c35, hm⟩ := hm
          refine lv_irem hx hb dX8_draw_125 c35 ?_
          obtain ⟨c36, hm⟩ := hm
          refine aI hc hw 28 rfl c36 rfl dX8_draw_126 ?_
          refine lv_topi (fun v37 e_v37 => ?_)
          have hm := hm v37 e_v37
          refine lv_istore (lv' := [(8, .int v37), (5, .int v34), (7, .int r31), (6, .int x6_18), (4, .int x4_20), (3, .int x3_21), (2, .int x2_22), (0, .ref (aO 0))]) hx hb dX8_draw_127 hl (by decide) rfl (fun ls hl => ?_)
          refine lv_iload hx hb dX8_draw_129 (lv_at hl 0 rfl) ?_
          refine lv_iconst (v := 4) hx hb dX8_draw_131 (by decide) ?_
          refine lv_idiv hx hb dX8_draw_132 (by decide) ?_
          refine lv_topi (fun v38 e_v38 => ?_)
          have hm := hm v38 e_v38
          refine lv_istore (lv' := [(9, .int v38), (8, .int v37), (5, .int v34), (7, .int r31), (6, .int x6_18), (4, .int x4_20), (3, .int x3_21), (2, .int x2_22), (0, .ref (aO 0))]) hx hb dX8_draw_133 hl (by decide) rfl (fun ls hl => ?_)
          refine lv_iload hx hb dX8_draw_135 (lv_at hl 1 rfl) ?_
          refine lv_iconst (v := 4) hx hb dX8_draw_137 (by decide) ?_
          refine lv_irem hx hb dX8_draw_138 (by decide) ?_
          refine lv_topi (fun v39 e_v39 => ?_)
          have hm := hm v39 e_v39
          refine lv_istore (lv' := [(4, .int v39), (9, .int v38), (8, .int v37), (5, .int v34), (7, .int r31), (6, .int x6_18), (3, .int x3_21), (2, .int x2_22), (0, .ref (aO 0))]) hx hb dX8_draw_139 hl (by decide) rfl (fun ls hl => ?_)
          refine lv_aload_n hx hb dX8_draw_141 rfl (lv_at hl 8 rfl) ?_
          refine gF (k := 8) hc hw inX8 rfl 0 rfl (by decide) (gm 423 (by decide +kernel) rfl) rfl dX8_draw_142 ?_
          refine lv_iload hx hb dX8_draw_145 (lv_at hl 1 rfl) ?_
          refine lv_iload_n hx hb dX8_draw_147 rfl (lv_at hl 6 rfl) ?_
          refine nVN_I (As := [.int v38, .int x3_21]) (rest := []) (wc := (pW cy aP (aJ 0) S6)) (wr := ((oW cy aO (aB 0) e_O_images e_O_tape e_O_reader (aP 0) e_O_trial e_O_season e_O_dates e_O_line (aev 0) (ach 0) SO) ++ ((bW cy aB (als 0) (atd 0) e_B_mentions e_B_claims SB) ++ ((lsW cy als Sls) ++ ((jW cy aJ S7) ++ ((tW cy atd Std) ++ ((chW cy ach S32) ++ (tW cy aev S24)))))))) (isC := [10, 11, 12, 13, 14, 15, 16, 17, 18, 19, 20]) (isR := [0, 1, 2, 3, 4, 5, 6, 7, 8, 9, 21, 22, 23, 24, 25, 26, 27, 28, 29, 30, 31, 32]) hc hw (c_X3_yearOf hm) lk_X8_169 ⟨rfl, rfl, rfl, rfl, by decide⟩ rfl rfl ⟨Nat.le_of_ble_eq_true rfl, Nat.le_of_ble_eq_true rfl⟩ ⟨Nat.le_of_ble_eq_true rfl, Nat.le_of_ble_eq_true rfl⟩ hl.1 rfl (Nat.le_of_ble_eq_true rfl) rfl dX8_draw_148 (fun r40 _ H locs hm hw => ?_)
          have hw : wV D A s.heap ((oW cy aO (aB 0) e_O_images e_O_tape e_O_reader (aP 0) e_O_trial e_O_season e_O_dates e_O_line (aev 0) (ach 0) SO) ++ ((bW cy aB (als 0) (atd 0) e_B_mentions e_B_claims SB) ++ ((lsW cy als Sls) ++ ((pW cy aP (aJ 0) S6) ++ ((jW cy aJ S7) ++ ((tW cy atd Std) ++ ((chW cy ach S32) ++ (tW cy aev S24)))))))) H locs := hw.perm [0, 1, 2, 3, 4, 5, 6, 7, 8, 9, 22, 23, 24, 25, 26, 27, 28, 29, 30, 31, 32, 10, 11, 12, 13, 14, 15, 16, 17, 18, 19, 20, 21] rfl rfl
          refine lv_istore_n (lv' := [(3, .int r40), (4, .int v39), (9, .int v38), (8, .int v37), (5, .int v34), (7, .int r31), (6, .int x6_18), (2, .int x2_22), (0, .ref (aO 0))]) hx hb dX8_draw_151 rfl hl (by decide) rfl (fun ls hl => ?_)
          refine lv_iload_n hx hb dX8_draw_152 rfl (lv_at hl 7 rfl) ?_
          refine lv_iconst (v := 1) hx hb dX8_draw_153 (by decide) ?_
          refine lv_iload hx hb dX8_draw_154 (lv_at hl 2 rfl) ?_
          refine lv_ishl hx hb dX8_draw_156 ?_
          refine lv_iconst (v := (-1)) hx hb dX8_draw_157 (by decide) ?_
          refine lv_ixor hx hb dX8_draw_158 ?_
          refine lv_iand hx hb dX8_draw_159 ?_
          refine lv_topi (fun v42 e_v42 => ?_)
          have hm := hm v42 e_v42
          refine lv_istore_n (lv' := [(2, .int v42), (3, .int r40), (4, .int v39), (9, .int v38), (8, .int v37), (5, .int v34), (7, .int r31), (6, .int x6_18), (0, .ref (aO 0))]) hx hb dX8_draw_160 rfl hl (by decide) rfl (fun ls hl => ?_)
          refine lv_aload_n hx hb dX8_draw_161 rfl (lv_at hl 8 rfl) ?_
          refine gF (k := 13) hc hw inX8 rfl 0 rfl (by decide) (gm 428 (by decide +kernel) rfl) rfl dX8_draw_162 ?_
          refine lv_iload hx hb dX8_draw_165 (lv_at hl 3 rfl) ?_
          refine lv_iload_n hx hb dX8_draw_167 rfl (lv_at hl 1 rfl) ?_
          refine lv_iload hx hb dX8_draw_168 (lv_at hl 2 rfl) ?_
          refine nVN_V (As := [.int v38, .int r40, .int v39]) (rest := []) (wc := (tW cy aev S24)) (wr := ((oW cy aO (aB 0) e_O_images e_O_tape e_O_reader (aP 0) e_O_trial e_O_season e_O_dates e_O_line (aev 0) (ach 0) SO) ++ ((bW cy aB (als 0) (atd 0) e_B_mentions e_B_claims SB) ++ ((lsW cy als Sls) ++ ((pW cy aP (aJ 0) S6) ++ ((jW cy aJ S7) ++ ((tW cy atd Std) ++ (chW cy ach S32)))))))) (isC := [29, 30, 31, 32]) (isR := [0, 1, 2, 3, 4, 5, 6, 7, 8, 9, 10, 11, 12, 13, 14, 15, 16, 17, 18, 19, 20, 21, 22, 23, 24, 25, 26, 27, 28]) hc hw (c_X7_add hm) lk_X8_185 ⟨rfl, rfl, rfl, rfl, by decide⟩ rfl rfl ⟨Nat.le_of_ble_eq_true rfl, Nat.le_of_ble_eq_true rfl⟩ ⟨Nat.le_of_ble_eq_true rfl, Nat.le_of_ble_eq_true rfl⟩ hl.1 rfl (Nat.le_of_ble_eq_true rfl) rfl dX8_draw_170 (fun S43 H locs hm hw => ?_)
          have hw : wV D A s.heap ((oW cy aO (aB 0) e_O_images e_O_tape e_O_reader (aP 0) e_O_trial e_O_season e_O_dates e_O_line (aev 0) (ach 0) SO) ++ ((bW cy aB (als 0) (atd 0) e_B_mentions e_B_claims SB) ++ ((lsW cy als Sls) ++ ((pW cy aP (aJ 0) S6) ++ ((jW cy aJ S7) ++ ((tW cy atd Std) ++ ((chW cy ach S32) ++ (tW cy aev S43)))))))) H locs := hw.perm [0, 1, 2, 3, 4, 5, 6, 7, 8, 9, 10, 11, 12, 13, 14, 15, 16, 17, 18, 19, 20, 21, 22, 23, 24, 25, 26, 27, 28, 29, 30, 31, 32] rfl rfl
          obtain ⟨v45, e_v45⟩ : ∃ z : Int32, z = x6_18 + 1 := ⟨_, rfl⟩
          have hm := hm v45 e_v45
          refine lv_iinc (v := v45) (lv' := [(6, .int v45), (2, .int v42), (3, .int r40), (4, .int v39), (9, .int v38), (8, .int v37), (5, .int v34), (7, .int r31), (0, .ref (aO 0))]) hx hb dX8_draw_173 hl (k := 7) rfl (by rw [e_v45]; rfl) (by decide) rfl (fun ls hl => ?_)
          refine lv_goto (tgt := 67) hx hb dX8_draw_176 (by decide) ?_
          exact ih25 _ _ _ _ _ _ _ hm _ _ _ hw (lv_sub hl [0, 6, 3, 2, 1, 8] rfl)
        · have hm := hm.2 c46
          refine lv_goto (tgt := 179) hx hb dX8_draw_96 (by decide) ?_
          exact hJ27 _ hm _ _ _ hw (lv_sub hl [6] rfl)
    · have hm := hm.2 c48
      exact hJ2 _ hm _ _ _ hw (lv_sub hl [0] rfl)
