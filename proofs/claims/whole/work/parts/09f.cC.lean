set_option maxHeartbeats 4000000 in
set_option maxRecDepth 100000 in
theorem c_X8_can {l : Launch} {D : va_G} {cy : Nat → ClassId} {aO : Nat → Nat} {aB : Nat → Nat} {als : Nat → Nat} {aP : Nat → Nat} {aJ : Nat → Nat} {aLw : Nat → Nat} {e_O_images : Nat} {e_O_tape : Nat} {e_O_reader : Nat} {e_O_trial : Option Nat} {e_O_season : Option Nat} {e_O_dates : Nat} {e_O_line : Nat} {e_O_evening : Nat} {e_O_choices : Nat} {e_B_told : Nat} {e_B_mentions : Nat} {e_B_claims : Nat} {SO : Ob} {SB : Ob} {Sls : (Nat → Option Nat)} {SP : Ob} {SJ : Ob} {SLw : Lw} {x1 : Int32} {x2 : Int32} {Q : Int32 → Ob → Ob → Prop} (hm : w_X8_can aLw SO SB Sls SP SJ SLw x1 x2 Q) : CtI l yX8_can cX8_can 3 (some .int) (rmN 5) D cy [.ref (aO 0), .int x1, .int x2] ((oW cy aO (aB 0) e_O_images e_O_tape e_O_reader (aP 0) e_O_trial e_O_season e_O_dates e_O_line e_O_evening e_O_choices SO) ++ ((bW cy aB (als 0) e_B_told e_B_mentions e_B_claims SB) ++ ((lsW cy als Sls) ++ ((pW cy aP (aJ 0) SP) ++ ((jW cy aJ SJ) ++ (lwW cy aLw SLw)))))) (fun u : Ob × Ob => ((oW cy aO (aB 0) e_O_images e_O_tape e_O_reader (aP 0) e_O_trial e_O_season e_O_dates e_O_line e_O_evening e_O_choices SO) ++ ((bW cy aB (als 0) e_B_told e_B_mentions e_B_claims SB) ++ ((lsW cy als Sls) ++ ((pW cy aP (aJ 0) u.1) ++ ((jW cy aJ u.2) ++ (lwW cy aLw SLw))))))) (fun (r : Int32) (u : Ob × Ob) => Q r u.1 u.2) := by
  refine CtI.ofW (by decide) (Nat.le_of_ble_eq_true rfl) ?_
  intro p e s m args below meth c A ls hc hnm hw hl
  have hx := hc.1.1
  have hb := hc.1.2.1
  have hown := hc.1.2.2.2.1
  have hts := hc.1.2.2.2.2
  have hl : lv_has ls 3 [(0, .ref (aO 0)), (1, .int x1), (2, .int x2)] := hl
  obtain ⟨H, hH⟩ : ∃ z, z = s.heap := ⟨_, rfl⟩
  obtain ⟨locs, hLc⟩ : ∃ z : List Loc, z = [] := ⟨_, rfl⟩
  have hw : wV D A s.heap ((oW cy aO (aB 0) e_O_images e_O_tape e_O_reader (aP 0) e_O_trial e_O_season e_O_dates e_O_line e_O_evening e_O_choices SO) ++ ((bW cy aB (als 0) e_B_told e_B_mentions e_B_claims SB) ++ ((lsW cy als Sls) ++ ((pW cy aP (aJ 0) SP) ++ ((jW cy aJ SJ) ++ (lwW cy aLw SLw)))))) H locs := by rw [hH, hLc]; exact hw
  have hgo : W p l e (rmN 5) s m args below meth c H locs 0 0 (MQ below (eI D cy A (fun u : Ob × Ob => ((oW cy aO (aB 0) e_O_images e_O_tape e_O_reader (aP 0) e_O_trial e_O_season e_O_dates e_O_line e_O_evening e_O_choices SO) ++ ((bW cy aB (als 0) e_B_told e_B_mentions e_B_claims SB) ++ ((lsW cy als Sls) ++ ((pW cy aP (aJ 0) u.1) ++ ((jW cy aJ u.2) ++ (lwW cy aLw SLw))))))) (fun (r : Int32) (u : Ob × Ob) => Q r u.1 u.2)) args s (rmN 5).cells (rmN 5).slots A) (F0 m 0 ls []) := ?hgo
  · rw [hH, hLc] at hgo; exact hgo
  refine lv_aload_n hx hb dX8_can_0 rfl (lv_at hl 0 rfl) ?_
  refine gF (k := 0) hc hw inX8 rfl 0 rfl (by decide) (gm 415 (by decide +kernel) rfl) rfl dX8_can_1 ?_
  refine lv_iload_n hx hb dX8_can_4 rfl (lv_at hl 1 rfl) ?_
  refine nVN_I (As := [.int x1]) (rest := []) (wc := (bW cy aB (als 0) e_B_told e_B_mentions e_B_claims SB)) (wr := ((oW cy aO (aB 0) e_O_images e_O_tape e_O_reader (aP 0) e_O_trial e_O_season e_O_dates e_O_line e_O_evening e_O_choices SO) ++ ((lsW cy als Sls) ++ ((pW cy aP (aJ 0) SP) ++ ((jW cy aJ SJ) ++ (lwW cy aLw SLw)))))) (isC := [3, 4, 5, 6, 7, 8]) (isR := [0, 1, 2, 9, 10, 11, 12, 13, 14, 15, 16, 17, 18, 19, 20, 21, 22, 23, 24, 25, 26, 27, 28]) hc hw (c_X6_has hm) lk_X8_110 ⟨rfl, rfl, rfl, rfl, by decide⟩ rfl rfl ⟨Nat.le_of_ble_eq_true rfl, Nat.le_of_ble_eq_true rfl⟩ ⟨Nat.le_of_ble_eq_true rfl, Nat.le_of_ble_eq_true rfl⟩ hl.1 rfl (Nat.le_of_ble_eq_true rfl) rfl dX8_can_5 (fun r1 _ H locs hm hw => ?_)
  have hw : wV D A s.heap ((oW cy aO (aB 0) e_O_images e_O_tape e_O_reader (aP 0) e_O_trial e_O_season e_O_dates e_O_line e_O_evening e_O_choices SO) ++ ((bW cy aB (als 0) e_B_told e_B_mentions e_B_claims SB) ++ ((lsW cy als Sls) ++ ((pW cy aP (aJ 0) SP) ++ ((jW cy aJ SJ) ++ (lwW cy aLw SLw)))))) H locs := hw.perm [0, 1, 2, 23, 24, 25, 26, 27, 28, 3, 4, 5, 6, 7, 8, 9, 10, 11, 12, 13, 14, 15, 16, 17, 18, 19, 20, 21, 22] rfl rfl
  refine lv_if_eq (tgt := 22) hx hb dX8_can_8 (by decide) (fun c10 => ?_) (fun c10 => ?_)
  · have hm := hm.1 c10
    refine lv_iconst (v := (-1)) hx hb dX8_can_22 (by decide) ?_
    exact retI (u := (SP, SJ)) hc hw hm dX8_can_23
  · have hm := hm.2 c10
    refine lv_aload_n hx hb dX8_can_11 rfl (lv_at hl 0 rfl) ?_
    refine gF (k := 0) hc hw inX8 rfl 0 rfl (by decide) (gm 415 (by decide +kernel) rfl) rfl dX8_can_12 ?_
    refine lv_iload_n hx hb dX8_can_15 rfl (lv_at hl 2 rfl) ?_
    refine nVN_I (As := [.int x2]) (rest := []) (wc := (bW cy aB (als 0) e_B_told e_B_mentions e_B_claims SB)) (wr := ((oW cy aO (aB 0) e_O_images e_O_tape e_O_reader (aP 0) e_O_trial e_O_season e_O_dates e_O_line e_O_evening e_O_choices SO) ++ ((lsW cy als Sls) ++ ((pW cy aP (aJ 0) SP) ++ ((jW cy aJ SJ) ++ (lwW cy aLw SLw)))))) (isC := [3, 4, 5, 6, 7, 8]) (isR := [0, 1, 2, 9, 10, 11, 12, 13, 14, 15, 16, 17, 18, 19, 20, 21, 22, 23, 24, 25, 26, 27, 28]) hc hw (c_X6_seats hm) lk_X8_134 ⟨rfl, rfl, rfl, rfl, by decide⟩ rfl rfl ⟨Nat.le_of_ble_eq_true rfl, Nat.le_of_ble_eq_true rfl⟩ ⟨Nat.le_of_ble_eq_true rfl, Nat.le_of_ble_eq_true rfl⟩ hl.1 rfl (Nat.le_of_ble_eq_true rfl) rfl dX8_can_16 (fun r3 _ H locs hm hw => ?_)
    have hw : wV D A s.heap ((oW cy aO (aB 0) e_O_images e_O_tape e_O_reader (aP 0) e_O_trial e_O_season e_O_dates e_O_line e_O_evening e_O_choices SO) ++ ((bW cy aB (als 0) e_B_told e_B_mentions e_B_claims SB) ++ ((lsW cy als Sls) ++ ((pW cy aP (aJ 0) SP) ++ ((jW cy aJ SJ) ++ (lwW cy aLw SLw)))))) H locs := hw.perm [0, 1, 2, 23, 24, 25, 26, 27, 28, 3, 4, 5, 6, 7, 8, 9, 10, 11, 12, 13, 14, 15, 16, 17, 18, 19, 20, 21, 22] rfl rfl
    refine lv_if_ne (tgt := 24) hx hb dX8_can_19 (by decide) (fun c9 => ?_) (fun c9 => ?_)
    · have hm := hm.1 c9
      refine lv_aload_n hx hb dX8_can_24 rfl (lv_at hl 0 rfl) ?_
      refine gF (k := 8) hc hw inX8 rfl 0 rfl (by decide) (gm 423 (by decide +kernel) rfl) rfl dX8_can_25 ?_
      refine lv_aload_n hx hb dX8_can_28 rfl (lv_at hl 0 rfl) ?_
      refine gF (k := 0) hc hw inX8 rfl 0 rfl (by decide) (gm 415 (by decide +kernel) rfl) rfl dX8_can_29 ?_
      refine nVN_V (As := [.ref (aB 0)]) (rest := []) (wc := ((pW cy aP (aJ 0) SP) ++ ((jW cy aJ SJ) ++ ((bW cy aB (als 0) e_B_told e_B_mentions e_B_claims SB) ++ ((lsW cy als Sls) ++ (lwW cy aLw SLw)))))) (wr := (oW cy aO (aB 0) e_O_images e_O_tape e_O_reader (aP 0) e_O_trial e_O_season e_O_dates e_O_line e_O_evening e_O_choices SO)) (isC := [10, 11, 12, 13, 14, 15, 16, 17, 18, 19, 20, 21, 22, 23, 3, 4, 5, 6, 7, 8, 9, 24, 25, 26, 27, 28]) (isR := [0, 1, 2]) hc hw (c_X3_weigh hm) lk_X8_124 ⟨rfl, rfl, rfl, rfl, by decide⟩ rfl rfl ⟨Nat.le_of_ble_eq_true rfl, Nat.le_of_ble_eq_true rfl⟩ ⟨Nat.le_of_ble_eq_true rfl, Nat.le_of_ble_eq_true rfl⟩ hl.1 rfl (Nat.le_of_ble_eq_true rfl) rfl dX8_can_32 (fun u_6 H locs hm hw => ?_)
      obtain ⟨S5, S6⟩ := u_6
      have hw : wV D A s.heap ((oW cy aO (aB 0) e_O_images e_O_tape e_O_reader (aP 0) e_O_trial e_O_season e_O_dates e_O_line e_O_evening e_O_choices SO) ++ ((bW cy aB (als 0) e_B_told e_B_mentions e_B_claims SB) ++ ((lsW cy als Sls) ++ ((pW cy aP (aJ 0) S5) ++ ((jW cy aJ S6) ++ (lwW cy aLw SLw)))))) H locs := hw.perm [0, 1, 2, 17, 18, 19, 20, 21, 22, 23, 3, 4, 5, 6, 7, 8, 9, 10, 11, 12, 13, 14, 15, 16, 24, 25, 26, 27, 28] rfl rfl
      refine lv_aload_n hx hb dX8_can_35 rfl (lv_at hl 0 rfl) ?_
      refine gF (k := 8) hc hw inX8 rfl 0 rfl (by decide) (gm 423 (by decide +kernel) rfl) rfl dX8_can_36 ?_
      refine gN (k := 5) (host := "OlderTale") hc hw inX3 rfl 10 rfl (by decide) (nmm 333 (by decide +kernel)) rfl dX8_can_39 ?_
      refine lv_iload_n hx hb dX8_can_42 rfl (lv_at hl 1 rfl) ?_
      obtain ⟨c8, hm⟩ := hm
      refine aI hc hw 15 rfl c8 rfl dX8_can_43 ?_
      refine lv_iload_n hx hb dX8_can_44 rfl (lv_at hl 2 rfl) ?_
      refine lv_ishr hx hb dX8_can_45 ?_
      refine lv_iconst (v := 1) hx hb dX8_can_46 (by decide) ?_
      refine lv_iand hx hb dX8_can_47 ?_
      exact retI (u := (S5, S6)) hc hw hm dX8_can_48
    · have hm := hm.2 c9
      refine lv_iconst (v := (-1)) hx hb dX8_can_22 (by decide) ?_
      exact retI (u := (SP, SJ)) hc hw hm dX8_can_23
set_option maxHeartbeats 4000000 in
set_option maxRecDepth 100000 in
theorem c_X8_canN {l : Launch} {D : va_G} {cy : Nat → ClassId} {aO : Nat → Nat} {aB : Nat → Nat} {als : Nat → Nat} {aP : Nat → Nat} {aJ : Nat → Nat} {e_O_images : Nat} {e_O_tape : Nat} {e_O_reader : Nat} {e_O_trial : Option Nat} {e_O_season : Option Nat} {e_O_dates : Nat} {e_O_line : Nat} {e_O_evening : Nat} {e_O_choices : Nat} {e_B_told : Nat} {e_B_mentions : Nat} {e_B_claims : Nat} {SO : Ob} {SB : Ob} {Sls : (Nat → Option Nat)} {SP : Ob} {SJ : Ob} {x1 : Int32} {x2 : Int32} {Q : Int32 → Ob → Ob → Prop} (hm : w_X8_canN SO SB Sls SP SJ x1 x2 Q) : CtI l yX8_can cX8_can 3 (some .int) (rmN 5) D cy [.ref (aO 0), .int x1, .int x2] ((oW cy aO (aB 0) e_O_images e_O_tape e_O_reader (aP 0) e_O_trial e_O_season e_O_dates e_O_line e_O_evening e_O_choices SO) ++ ((bW cy aB (als 0) e_B_told e_B_mentions e_B_claims SB) ++ ((lsW cy als Sls) ++ ((pW cy aP (aJ 0) SP) ++ (jW cy aJ SJ))))) (fun u : Ob × Ob => ((oW cy aO (aB 0) e_O_images e_O_tape e_O_reader (aP 0) e_O_trial e_O_season e_O_dates e_O_line e_O_evening e_O_choices SO) ++ ((bW cy aB (als 0) e_B_told e_B_mentions e_B_claims SB) ++ ((lsW cy als Sls) ++ ((pW cy aP (aJ 0) u.1) ++ (jW cy aJ u.2)))))) (fun (r : Int32) (u : Ob × Ob) => Q r u.1 u.2) := by
  refine CtI.ofW (by decide) (Nat.le_of_ble_eq_true rfl) ?_
  intro p e s m args below meth c A ls hc hnm hw hl
  have hx := hc.1.1
  have hb := hc.1.2.1
  have hown := hc.1.2.2.2.1
  have hts := hc.1.2.2.2.2
  have hl : lv_has ls 3 [(0, .ref (aO 0)), (1, .int x1), (2, .int x2)] := hl
  obtain ⟨H, hH⟩ : ∃ z, z = s.heap := ⟨_, rfl⟩
  obtain ⟨locs, hLc⟩ : ∃ z : List Loc, z = [] := ⟨_, rfl⟩
  have hw : wV D A s.heap ((oW cy aO (aB 0) e_O_images e_O_tape e_O_reader (aP 0) e_O_trial e_O_season e_O_dates e_O_line e_O_evening e_O_choices SO) ++ ((bW cy aB (als 0) e_B_told e_B_mentions e_B_claims SB) ++ ((lsW cy als Sls) ++ ((pW cy aP (aJ 0) SP) ++ (jW cy aJ SJ))))) H locs := by rw [hH, hLc]; exact hw
  have hgo : W p l e (rmN 5) s m args below meth c H locs 0 0 (MQ below (eI D cy A (fun u : Ob × Ob => ((oW cy aO (aB 0) e_O_images e_O_tape e_O_reader (aP 0) e_O_trial e_O_season e_O_dates e_O_line e_O_evening e_O_choices SO) ++ ((bW cy aB (als 0) e_B_told e_B_mentions e_B_claims SB) ++ ((lsW cy als Sls) ++ ((pW cy aP (aJ 0) u.1) ++ (jW cy aJ u.2)))))) (fun (r : Int32) (u : Ob × Ob) => Q r u.1 u.2)) args s (rmN 5).cells (rmN 5).slots A) (F0 m 0 ls []) := ?hgo
  · rw [hH, hLc] at hgo; exact hgo
  refine lv_aload_n hx hb dX8_can_0 rfl (lv_at hl 0 rfl) ?_
  refine gF (k := 0) hc hw inX8 rfl 0 rfl (by decide) (gm 415 (by decide +kernel) rfl) rfl dX8_can_1 ?_
  refine lv_iload_n hx hb dX8_can_4 rfl (lv_at hl 1 rfl) ?_
  refine nVN_I (As := [.int x1]) (rest := []) (wc := (bW cy aB (als 0) e_B_told e_B_mentions e_B_claims SB)) (wr := ((oW cy aO (aB 0) e_O_images e_O_tape e_O_reader (aP 0) e_O_trial e_O_season e_O_dates e_O_line e_O_evening e_O_choices SO) ++ ((lsW cy als Sls) ++ ((pW cy aP (aJ 0) SP) ++ (jW cy aJ SJ))))) (isC := [3, 4, 5, 6, 7, 8]) (isR := [0, 1, 2, 9, 10, 11, 12, 13, 14, 15, 16, 17, 18, 19, 20, 21, 22, 23]) hc hw (c_X6_has hm) lk_X8_110 ⟨rfl, rfl, rfl, rfl, by decide⟩ rfl rfl ⟨Nat.le_of_ble_eq_true rfl, Nat.le_of_ble_eq_true rfl⟩ ⟨Nat.le_of_ble_eq_true rfl, Nat.le_of_ble_eq_true rfl⟩ hl.1 rfl (Nat.le_of_ble_eq_true rfl) rfl dX8_can_5 (fun r1 _ H locs hm hw => ?_)
  have hw : wV D A s.heap ((oW cy aO (aB 0) e_O_images e_O_tape e_O_reader (aP 0) e_O_trial e_O_season e_O_dates e_O_line e_O_evening e_O_choices SO) ++ ((bW cy aB (als 0) e_B_told e_B_mentions e_B_claims SB) ++ ((lsW cy als Sls) ++ ((pW cy aP (aJ 0) SP) ++ (jW cy aJ SJ))))) H locs := hw.perm [0, 1, 2, 18, 19, 20, 21, 22, 23, 3, 4, 5, 6, 7, 8, 9, 10, 11, 12, 13, 14, 15, 16, 17] rfl rfl
  refine lv_if_eq (tgt := 22) hx hb dX8_can_8 (by decide) (fun c10 => ?_) (fun c10 => ?_)
  · have hm := hm.1 c10
    refine lv_iconst (v := (-1)) hx hb dX8_can_22 (by decide) ?_
    exact retI (u := (SP, SJ)) hc hw hm dX8_can_23
  · have hm := hm.2 c10
    refine lv_aload_n hx hb dX8_can_11 rfl (lv_at hl 0 rfl) ?_
    refine gF (k := 0) hc hw inX8 rfl 0 rfl (by decide) (gm 415 (by decide +kernel) rfl) rfl dX8_can_12 ?_
    refine lv_iload_n hx hb dX8_can_15 rfl (lv_at hl 2 rfl) ?_
    refine nVN_I (As := [.int x2]) (rest := []) (wc := (bW cy aB (als 0) e_B_told e_B_mentions e_B_claims SB)) (wr := ((oW cy aO (aB 0) e_O_images e_O_tape e_O_reader (aP 0) e_O_trial e_O_season e_O_dates e_O_line e_O_evening e_O_choices SO) ++ ((lsW cy als Sls) ++ ((pW cy aP (aJ 0) SP) ++ (jW cy aJ SJ))))) (isC := [3, 4, 5, 6, 7, 8]) (isR := [0, 1, 2, 9, 10, 11, 12, 13, 14, 15, 16, 17, 18, 19, 20, 21, 22, 23]) hc hw (c_X6_seats hm) lk_X8_134 ⟨rfl, rfl, rfl, rfl, by decide⟩ rfl rfl ⟨Nat.le_of_ble_eq_true rfl, Nat.le_of_ble_eq_true rfl⟩ ⟨Nat.le_of_ble_eq_true rfl, Nat.le_of_ble_eq_true rfl⟩ hl.1 rfl (Nat.le_of_ble_eq_true rfl) rfl dX8_can_16 (fun r3 _ H locs hm hw => ?_)
    have hw : wV D A s.heap ((oW cy aO (aB 0) e_O_images e_O_tape e_O_reader (aP 0) e_O_trial e_O_season e_O_dates e_O_line e_O_evening e_O_choices SO) ++ ((bW cy aB (als 0) e_B_told e_B_mentions e_B_claims SB) ++ ((lsW cy als Sls) ++ ((pW cy aP (aJ 0) SP) ++ (jW cy aJ SJ))))) H locs := hw.perm [0, 1, 2, 18, 19, 20, 21, 22, 23, 3, 4, 5, 6, 7, 8, 9, 10, 11, 12, 13, 14, 15, 16, 17] rfl rfl
    refine lv_if_ne (tgt := 24) hx hb dX8_can_19 (by decide) (fun c9 => ?_) (fun c9 => ?_)
    · have hm := hm.1 c9
      refine lv_aload_n hx hb dX8_can_24 rfl (lv_at hl 0 rfl) ?_
      refine gF (k := 8) hc hw inX8 rfl 0 rfl (by decide) (gm 423 (by decide +kernel) rfl) rfl dX8_can_25 ?_
      refine lv_aload_n hx hb dX8_can_28 rfl (lv_at hl 0 rfl) ?_
      refine gF (k := 0) hc hw inX8 rfl 0 rfl (by decide) (gm 415 (by decide +kernel) rfl) rfl dX8_can_29 ?_
      refine nVN_V (As := [.ref (aB 0)]) (rest := []) (wc := ((pW cy aP (aJ 0) SP) ++ ((jW cy aJ SJ) ++ ((bW cy aB (als 0) e_B_told e_B_mentions e_B_claims SB) ++ (lsW cy als Sls))))) (wr := (oW cy aO (aB 0) e_O_images e_O_tape e_O_reader (aP 0) e_O_trial e_O_season e_O_dates e_O_line e_O_evening e_O_choices SO)) (isC := [10, 11, 12, 13, 14, 15, 16, 17, 18, 19, 20, 21, 22, 23, 3, 4, 5, 6, 7, 8, 9]) (isR := [0, 1, 2]) hc hw (c_X3_weighN hm) lk_X8_124 ⟨rfl, rfl, rfl, rfl, by decide⟩ rfl rfl ⟨Nat.le_of_ble_eq_true rfl, Nat.le_of_ble_eq_true rfl⟩ ⟨Nat.le_of_ble_eq_true rfl, Nat.le_of_ble_eq_true rfl⟩ hl.1 rfl (Nat.le_of_ble_eq_true rfl) rfl dX8_can_32 (fun u_6 H locs hm hw => ?_)
      obtain ⟨S5, S6⟩ := u_6
      have hw : wV D A s.heap ((oW cy aO (aB 0) e_O_images e_O_tape e_O_reader (aP 0) e_O_trial e_O_season e_O_dates e_O_line e_O_evening e_O_choices SO) ++ ((bW cy aB (als 0) e_B_told e_B_mentions e_B_claims SB) ++ ((lsW cy als Sls) ++ ((pW cy aP (aJ 0) S5) ++ (jW cy aJ S6))))) H locs := hw.perm [0, 1, 2, 17, 18, 19, 20, 21, 22, 23, 3, 4, 5, 6, 7, 8, 9, 10, 11, 12, 13, 14, 15, 16] rfl rfl
      refine lv_aload_n hx hb dX8_can_35 rfl (lv_at hl 0 rfl) ?_
      refine gF (k := 8) hc hw inX8 rfl 0 rfl (by decide) (gm 423 (by decide +kernel) rfl) rfl dX8_can_36 ?_
      refine gN (k := 5) (host := "OlderTale") hc hw inX3 rfl 10 rfl (by decide) (nmm 333 (by decide +kernel)) rfl dX8_can_39 ?_
      refine lv_iload_n hx hb dX8_can_42 rfl (lv_at hl 1 rfl) ?_
      obtain ⟨c8, hm⟩ := hm
      refine aI hc hw 15 rfl c8 rfl dX8_can_43 ?_
      refine lv_iload_n hx hb dX8_can_44 rfl (lv_at hl 2 rfl) ?_
      refine lv_ishr hx hb dX8_can_45 ?_
      refine lv_iconst (v := 1) hx hb dX8_can_46 (by decide) ?_
      refine lv_iand hx hb dX8_can_47 ?_
      exact retI (u := (S5, S6)) hc hw hm dX8_can_48
    · have hm := hm.2 c9
      refine lv_iconst (v := (-1)) hx hb dX8_can_22 (by decide) ?_
      exact retI (u := (SP, SJ)) hc hw hm dX8_can_23
set_option maxHeartbeats 4000000 in
set_option maxRecDepth 100000 in
theorem c_X8_tell {l : Launch} {D : va_G} {cy : Nat → ClassId} {aO : Nat → Nat} {aB : Nat → Nat} {als : Nat → Nat} {aP : Nat → Nat} {aJ : Nat → Nat} {atd : Nat → Nat} {aLw : Nat → Nat} {e_O_images : Nat} {e_O_tape : Nat} {e_O_reader : Nat} {e_O_trial : Option Nat} {e_O_season : Option Nat} {e_O_dates : Nat} {e_O_line : Nat} {e_O_evening : Nat} {e_O_choices : Nat} {e_B_mentions : Nat} {e_B_claims : Nat} {SO : Ob} {SB : Ob} {Sls : (Nat → Option Nat)} {SP : Ob} {SJ : Ob} {Std : Ob} {SLw : Lw} {x1 : Int32} {x2 : Int32} {Q : Int32 → Ob → Ob → Ob → Ob → Prop} (hm : w_X8_tell aLw SO SB Sls SP SJ Std SLw x1 x2 Q) : CtI l yX8_tell cX8_tell 5 (some .int) (rmN 5) D cy [.ref (aO 0), .int x1, .int x2] ((oW cy aO (aB 0) e_O_images e_O_tape e_O_reader (aP 0) e_O_trial e_O_season e_O_dates e_O_line e_O_evening e_O_choices SO) ++ ((bW cy aB (als 0) (atd 0) e_B_mentions e_B_claims SB) ++ ((lsW cy als Sls) ++ ((pW cy aP (aJ 0) SP) ++ ((jW cy aJ SJ) ++ ((tW cy atd Std) ++ (lwW cy aLw SLw))))))) (fun u : Ob × Ob × Ob × Ob => ((oW cy aO (aB 0) e_O_images e_O_tape e_O_reader (aP 0) e_O_trial e_O_season e_O_dates e_O_line e_O_evening e_O_choices u.1) ++ ((bW cy aB (als 0) (atd 0) e_B_mentions e_B_claims SB) ++ ((lsW cy als Sls) ++ ((pW cy aP (aJ 0) u.2.1) ++ ((jW cy aJ u.2.2.1) ++ ((tW cy atd u.2.2.2) ++ (lwW cy aLw SLw)))))))) (fun (r : Int32) (u : Ob × Ob × Ob × Ob) => Q r u.1 u.2.1 u.2.2.1 u.2.2.2) := by
  refine CtI.ofW (by decide) (Nat.le_of_ble_eq_true rfl) ?_
  intro p e s m args below meth c A ls hc hnm hw hl
  have hx := hc.1.1
  have hb := hc.1.2.1
  have hown := hc.1.2.2.2.1
  have hts := hc.1.2.2.2.2
  have hl : lv_has ls 5 [(0, .ref (aO 0)), (1, .int x1), (2, .int x2)] := hl
  obtain ⟨H, hH⟩ : ∃ z, z = s.heap := ⟨_, rfl⟩
  obtain ⟨locs, hLc⟩ : ∃ z : List Loc, z = [] := ⟨_, rfl⟩
  have hw : wV D A s.heap ((oW cy aO (aB 0) e_O_images e_O_tape e_O_reader (aP 0) e_O_trial e_O_season e_O_dates e_O_line e_O_evening e_O_choices SO) ++ ((bW cy aB (als 0) (atd 0) e_B_mentions e_B_claims SB) ++ ((lsW cy als Sls) ++ ((pW cy aP (aJ 0) SP) ++ ((jW cy aJ SJ) ++ ((tW cy atd Std) ++ (lwW cy aLw SLw))))))) H locs := by rw [hH, hLc]; exact hw
  have hgo : W p l e (rmN 5) s m args below meth c H locs 0 0 (MQ below (eI D cy A (fun u : Ob × Ob × Ob × Ob => ((oW cy aO (aB 0) e_O_images e_O_tape e_O_reader (aP 0) e_O_trial e_O_season e_O_dates e_O_line e_O_evening e_O_choices u.1) ++ ((bW cy aB (als 0) (atd 0) e_B_mentions e_B_claims SB) ++ ((lsW cy als Sls) ++ ((pW cy aP (aJ 0) u.2.1) ++ ((jW cy aJ u.2.2.1) ++ ((tW cy atd u.2.2.2) ++ (lwW cy aLw SLw)))))))) (fun (r : Int32) (u : Ob × Ob × Ob × Ob) => Q r u.1 u.2.1 u.2.2.1 u.2.2.2)) args s (rmN 5).cells (rmN 5).slots A) (F0 m 0 ls []) := ?hgo
  · rw [hH, hLc] at hgo; exact hgo
  refine lv_aload_n hx hb dX8_tell_0 rfl (lv_at hl 0 rfl) ?_
  refine gF (k := 0) hc hw inX8 rfl 0 rfl (by decide) (gm 415 (by decide +kernel) rfl) rfl dX8_tell_1 ?_
  refine lv_iload_n hx hb dX8_tell_4 rfl (lv_at hl 2 rfl) ?_
  refine nVN_I (As := [.int x2]) (rest := []) (wc := (bW cy aB (als 0) (atd 0) e_B_mentions e_B_claims SB)) (wr := ((oW cy aO (aB 0) e_O_images e_O_tape e_O_reader (aP 0) e_O_trial e_O_season e_O_dates e_O_line e_O_evening e_O_choices SO) ++ ((lsW cy als Sls) ++ ((pW cy aP (aJ 0) SP) ++ ((jW cy aJ SJ) ++ ((tW cy atd Std) ++ (lwW cy aLw SLw))))))) (isC := [3, 4, 5, 6, 7, 8]) (isR := [0, 1, 2, 9, 10, 11, 12, 13, 14, 15, 16, 17, 18, 19, 20, 21, 22, 23, 24, 25, 26, 27, 28, 29, 30, 31, 32]) hc hw (c_X6_seats hm) lk_X8_134 ⟨rfl, rfl, rfl, rfl, by decide⟩ rfl rfl ⟨Nat.le_of_ble_eq_true rfl, Nat.le_of_ble_eq_true rfl⟩ ⟨Nat.le_of_ble_eq_true rfl, Nat.le_of_ble_eq_true rfl⟩ hl.1 rfl (Nat.le_of_ble_eq_true rfl) rfl dX8_tell_5 (fun r1 _ H locs hm hw => ?_)
  have hw : wV D A s.heap ((oW cy aO (aB 0) e_O_images e_O_tape e_O_reader (aP 0) e_O_trial e_O_season e_O_dates e_O_line e_O_evening e_O_choices SO) ++ ((bW cy aB (als 0) (atd 0) e_B_mentions e_B_claims SB) ++ ((lsW cy als Sls) ++ ((pW cy aP (aJ 0) SP) ++ ((jW cy aJ SJ) ++ ((tW cy atd Std) ++ (lwW cy aLw SLw))))))) H locs := hw.perm [0, 1, 2, 27, 28, 29, 30, 31, 32, 3, 4, 5, 6, 7, 8, 9, 10, 11, 12, 13, 14, 15, 16, 17, 18, 19, 20, 21, 22, 23, 24, 25, 26] rfl rfl
  refine lv_if_ne (tgt := 17) hx hb dX8_tell_8 (by decide) (fun c38 => ?_) (fun c38 => ?_)
  · have hm := hm.1 c38
    refine lv_aload_n hx hb dX8_tell_17 rfl (lv_at hl 0 rfl) ?_
    refine gF (k := 0) hc hw inX8 rfl 0 rfl (by decide) (gm 415 (by decide +kernel) rfl) rfl dX8_tell_18 ?_
    refine lv_iload_n hx hb dX8_tell_21 rfl (lv_at hl 1 rfl) ?_
    refine nVN_I (As := [.int x1]) (rest := []) (wc := (bW cy aB (als 0) (atd 0) e_B_mentions e_B_claims SB)) (wr := ((oW cy aO (aB 0) e_O_images e_O_tape e_O_reader (aP 0) e_O_trial e_O_season e_O_dates e_O_line e_O_evening e_O_choices SO) ++ ((lsW cy als Sls) ++ ((pW cy aP (aJ 0) SP) ++ ((jW cy aJ SJ) ++ ((tW cy atd Std) ++ (lwW cy aLw SLw))))))) (isC := [3, 4, 5, 6, 7, 8]) (isR := [0, 1, 2, 9, 10, 11, 12, 13, 14, 15, 16, 17, 18, 19, 20, 21, 22, 23, 24, 25, 26, 27, 28, 29, 30, 31, 32]) hc hw (c_X6_has hm) lk_X8_110 ⟨rfl, rfl, rfl, rfl, by decide⟩ rfl rfl ⟨Nat.le_of_ble_eq_true rfl, Nat.le_of_ble_eq_true rfl⟩ ⟨Nat.le_of_ble_eq_true rfl, Nat.le_of_ble_eq_true rfl⟩ hl.1 rfl (Nat.le_of_ble_eq_true rfl) rfl dX8_tell_22 (fun r3 _ H locs hm hw => ?_)
    have hw : wV D A s.heap ((oW cy aO (aB 0) e_O_images e_O_tape e_O_reader (aP 0) e_O_trial e_O_season e_O_dates e_O_line e_O_evening e_O_choices SO) ++ ((bW cy aB (als 0) (atd 0) e_B_mentions e_B_claims SB) ++ ((lsW cy als Sls) ++ ((pW cy aP (aJ 0) SP) ++ ((jW cy aJ SJ) ++ ((tW cy atd Std) ++ (lwW cy aLw SLw))))))) H locs := hw.perm [0, 1, 2, 27, 28, 29, 30, 31, 32, 3, 4, 5, 6, 7, 8, 9, 10, 11, 12, 13, 14, 15, 16, 17, 18, 19, 20, 21, 22, 23, 24, 25, 26] rfl rfl
    refine lv_if_ne (tgt := 35) hx hb dX8_tell_25 (by decide) (fun c34 => ?_) (fun c34 => ?_)
    · have hm := hm.1 c34
      refine lv_aload_n hx hb dX8_tell_35 rfl (lv_at hl 0 rfl) ?_
      refine gF (k := 8) hc hw inX8 rfl 0 rfl (by decide) (gm 423 (by decide +kernel) rfl) rfl dX8_tell_36 ?_
      refine lv_aload_n hx hb dX8_tell_39 rfl (lv_at hl 0 rfl) ?_
      refine gF (k := 0) hc hw inX8 rfl 0 rfl (by decide) (gm 415 (by decide +kernel) rfl) rfl dX8_tell_40 ?_
      refine nVN_V (As := [.ref (aB 0)]) (rest := []) (wc := ((pW cy aP (aJ 0) SP) ++ ((jW cy aJ SJ) ++ ((bW cy aB (als 0) (atd 0) e_B_mentions e_B_claims SB) ++ ((lsW cy als Sls) ++ (lwW cy aLw SLw)))))) (wr := ((oW cy aO (aB 0) e_O_images e_O_tape e_O_reader (aP 0) e_O_trial e_O_season e_O_dates e_O_line e_O_evening e_O_choices SO) ++ (tW cy atd Std))) (isC := [10, 11, 12, 13, 14, 15, 16, 17, 18, 19, 20, 21, 22, 23, 3, 4, 5, 6, 7, 8, 9, 28, 29, 30, 31, 32]) (isR := [0, 1, 2, 24, 25, 26, 27]) hc hw (c_X3_weigh hm) lk_X8_124 ⟨rfl, rfl, rfl, rfl, by decide⟩ rfl rfl ⟨Nat.le_of_ble_eq_true rfl, Nat.le_of_ble_eq_true rfl⟩ ⟨Nat.le_of_ble_eq_true rfl, Nat.le_of_ble_eq_true rfl⟩ hl.1 rfl (Nat.le_of_ble_eq_true rfl) rfl dX8_tell_43 (fun u_6 H locs hm hw => ?_)
      obtain ⟨S5, S6⟩ := u_6
      have hw : wV D A s.heap ((oW cy aO (aB 0) e_O_images e_O_tape e_O_reader (aP 0) e_O_trial e_O_season e_O_dates e_O_line e_O_evening e_O_choices SO) ++ ((bW cy aB (als 0) (atd 0) e_B_mentions e_B_claims SB) ++ ((lsW cy als Sls) ++ ((pW cy aP (aJ 0) S5) ++ ((jW cy aJ S6) ++ ((tW cy atd Std) ++ (lwW cy aLw SLw))))))) H locs := hw.perm [0, 1, 2, 21, 22, 23, 24, 25, 26, 27, 7, 8, 9, 10, 11, 12, 13, 14, 15, 16, 17, 18, 19, 20, 3, 4, 5, 6, 28, 29, 30, 31, 32] rfl rfl
      refine lv_aload_n hx hb dX8_tell_46 rfl (lv_at hl 0 rfl) ?_
      refine gF (k := 8) hc hw inX8 rfl 0 rfl (by decide) (gm 423 (by decide +kernel) rfl) rfl dX8_tell_47 ?_
      refine lv_iload_n hx hb dX8_tell_50 rfl (lv_at hl 1 rfl) ?_
      refine lv_aload_n hx hb dX8_tell_51 rfl (lv_at hl 0 rfl) ?_
      refine gF (k := 0) hc hw inX8 rfl 0 rfl (by decide) (gm 415 (by decide +kernel) rfl) rfl dX8_tell_52 ?_
      refine nVN_I (As := []) (rest := [.int x1, .ref (aP 0)]) (wc := ((bW cy aB (als 0) (atd 0) e_B_mentions e_B_claims SB) ++ (tW cy atd Std))) (wr := ((oW cy aO (aB 0) e_O_images e_O_tape e_O_reader (aP 0) e_O_trial e_O_season e_O_dates e_O_line e_O_evening e_O_choices SO) ++ ((lsW cy als Sls) ++ ((pW cy aP (aJ 0) S5) ++ ((jW cy aJ S6) ++ (lwW cy aLw SLw)))))) (isC := [3, 4, 5, 6, 7, 8, 24, 25, 26, 27]) (isR := [0, 1, 2, 9, 10, 11, 12, 13, 14, 15, 16, 17, 18, 19, 20, 21, 22, 23, 28, 29, 30, 31, 32]) hc hw (c_X6_lastYear hm) lk_X8_165 ⟨rfl, rfl, rfl, rfl, by decide⟩ rfl rfl ⟨Nat.le_of_ble_eq_true rfl, Nat.le_of_ble_eq_true rfl⟩ ⟨Nat.le_of_ble_eq_true rfl, Nat.le_of_ble_eq_true rfl⟩ hl.1 rfl (Nat.le_of_ble_eq_true rfl) rfl dX8_tell_55 (fun r8 _ H locs hm hw => ?_)
      have hw : wV D A s.heap ((oW cy aO (aB 0) e_O_images e_O_tape e_O_reader (aP 0) e_O_trial e_O_season e_O_dates e_O_line e_O_evening e_O_choices SO) ++ ((bW cy aB (als 0) (atd 0) e_B_mentions e_B_claims SB) ++ ((lsW cy als Sls) ++ ((pW cy aP (aJ 0) S5) ++ ((jW cy aJ S6) ++ ((tW cy atd Std) ++ (lwW cy aLw SLw))))))) H locs := hw.perm [0, 1, 2, 23, 24, 25, 26, 27, 28, 3, 4, 5, 6, 7, 8, 9, 10, 11, 12, 13, 14, 15, 16, 17, 29, 30, 31, 32, 18, 19, 20, 21, 22] rfl rfl
      refine nVN_I (As := [.int x1, .int r8]) (rest := []) (wc := (pW cy aP (aJ 0) S5)) (wr := ((oW cy aO (aB 0) e_O_images e_O_tape e_O_reader (aP 0) e_O_trial e_O_season e_O_dates e_O_line e_O_evening e_O_choices SO) ++ ((bW cy aB (als 0) (atd 0) e_B_mentions e_B_claims SB) ++ ((lsW cy als Sls) ++ ((jW cy aJ S6) ++ ((tW cy atd Std) ++ (lwW cy aLw SLw))))))) (isC := [10, 11, 12, 13, 14, 15, 16, 17, 18, 19, 20]) (isR := [0, 1, 2, 3, 4, 5, 6, 7, 8, 9, 21, 22, 23, 24, 25, 26, 27, 28, 29, 30, 31, 32]) hc hw (c_X3_yearOf hm) lk_X8_169 ⟨rfl, rfl, rfl, rfl, by decide⟩ rfl rfl ⟨Nat.le_of_ble_eq_true rfl, Nat.le_of_ble_eq_true rfl⟩ ⟨Nat.le_of_ble_eq_true rfl, Nat.le_of_ble_eq_true rfl⟩ hl.1 rfl (Nat.le_of_ble_eq_true rfl) rfl dX8_tell_58 (fun r10 _ H locs hm hw => ?_)
      have hw : wV D A s.heap ((oW cy aO (aB 0) e_O_images e_O_tape e_O_reader (aP 0) e_O_trial e_O_season e_O_dates e_O_line e_O_evening e_O_choices SO) ++ ((bW cy aB (als 0) (atd 0) e_B_mentions e_B_claims SB) ++ ((lsW cy als Sls) ++ ((pW cy aP (aJ 0) S5) ++ ((jW cy aJ S6) ++ ((tW cy atd Std) ++ (lwW cy aLw SLw))))))) H locs := hw.perm [0, 1, 2, 3, 4, 5, 6, 7, 8, 9, 22, 23, 24, 25, 26, 27, 28, 29, 30, 31, 32, 10, 11, 12, 13, 14, 15, 16, 17, 18, 19, 20, 21] rfl rfl
      refine lv_istore_n (lv' := [(3, .int r10), (0, .ref (aO 0)), (1, .int x1), (2, .int x2)]) hx hb dX8_tell_61 rfl hl (by decide) rfl (fun ls hl => ?_)
      refine lv_aload_n hx hb dX8_tell_62 rfl (lv_at hl 1 rfl) ?_
      refine gF (k := 8) hc hw inX8 rfl 0 rfl (by decide) (gm 423 (by decide +kernel) rfl) rfl dX8_tell_63 ?_
      refine lv_iload_n hx hb dX8_tell_66 rfl (lv_at hl 2 rfl) ?_
      refine lv_iconst (v := 1) hx hb dX8_tell_67 (by decide) ?_
      refine lv_aload_n hx hb dX8_tell_68 rfl (lv_at hl 1 rfl) ?_
      refine gF (k := 0) hc hw inX8 rfl 0 rfl (by decide) (gm 415 (by decide +kernel) rfl) rfl dX8_tell_69 ?_
      refine nVN_I (As := []) (rest := [.int 1, .int x1, .ref (aP 0)]) (wc := ((bW cy aB (als 0) (atd 0) e_B_mentions e_B_claims SB) ++ (tW cy atd Std))) (wr := ((oW cy aO (aB 0) e_O_images e_O_tape e_O_reader (aP 0) e_O_trial e_O_season e_O_dates e_O_line e_O_evening e_O_choices SO) ++ ((lsW cy als Sls) ++ ((pW cy aP (aJ 0) S5) ++ ((jW cy aJ S6) ++ (lwW cy aLw SLw)))))) (isC := [3, 4, 5, 6, 7, 8, 24, 25, 26, 27]) (isR := [0, 1, 2, 9, 10, 11, 12, 13, 14, 15, 16, 17, 18, 19, 20, 21, 22, 23, 28, 29, 30, 31, 32]) hc hw (c_X6_lastTeller hm) lk_X8_173 ⟨rfl, rfl, rfl, rfl, by decide⟩ rfl rfl ⟨Nat.le_of_ble_eq_true rfl, Nat.le_of_ble_eq_true rfl⟩ ⟨Nat.le_of_ble_eq_true rfl, Nat.le_of_ble_eq_true rfl⟩ hl.1 rfl (Nat.le_of_ble_eq_true rfl) rfl dX8_tell_72 (fun r12 _ H locs hm hw => ?_)
      have hw : wV D A s.heap ((oW cy aO (aB 0) e_O_images e_O_tape e_O_reader (aP 0) e_O_trial e_O_season e_O_dates e_O_line e_O_evening e_O_choices SO) ++ ((bW cy aB (als 0) (atd 0) e_B_mentions e_B_claims SB) ++ ((lsW cy als Sls) ++ ((pW cy aP (aJ 0) S5) ++ ((jW cy aJ S6) ++ ((tW cy atd Std) ++ (lwW cy aLw SLw))))))) H locs := hw.perm [0, 1, 2, 23, 24, 25, 26, 27, 28, 3, 4, 5, 6, 7, 8, 9, 10, 11, 12, 13, 14, 15, 16, 17, 29, 30, 31, 32, 18, 19, 20, 21, 22] rfl rfl
      refine lv_ishl hx hb dX8_tell_75 ?_
      refine nVN_I (As := [.int x1, .int ((1 : Int32) <<< (r12 &&& 31))]) (rest := []) (wc := (pW cy aP (aJ 0) S5)) (wr := ((oW cy aO (aB 0) e_O_images e_O_tape e_O_reader (aP 0) e_O_trial e_O_season e_O_dates e_O_line e_O_evening e_O_choices SO) ++ ((bW cy aB (als 0) (atd 0) e_B_mentions e_B_claims SB) ++ ((lsW cy als Sls) ++ ((jW cy aJ S6) ++ ((tW cy atd Std) ++ (lwW cy aLw SLw))))))) (isC := [10, 11, 12, 13, 14, 15, 16, 17, 18, 19, 20]) (isR := [0, 1, 2, 3, 4, 5, 6, 7, 8, 9, 21, 22, 23, 24, 25, 26, 27, 28, 29, 30, 31, 32]) hc hw (c_X3_followers hm) lk_X8_176 ⟨rfl, rfl, rfl, rfl, by decide⟩ rfl rfl ⟨Nat.le_of_ble_eq_true rfl, Nat.le_of_ble_eq_true rfl⟩ ⟨Nat.le_of_ble_eq_true rfl, Nat.le_of_ble_eq_true rfl⟩ hl.1 rfl (Nat.le_of_ble_eq_true rfl) rfl dX8_tell_76 (fun r14 _ H locs hm hw => ?_)
      have hw : wV D A s.heap ((oW cy aO (aB 0) e_O_images e_O_tape e_O_reader (aP 0) e_O_trial e_O_season e_O_dates e_O_line e_O_evening e_O_choices SO) ++ ((bW cy aB (als 0) (atd 0) e_B_mentions e_B_claims SB) ++ ((lsW cy als Sls) ++ ((pW cy aP (aJ 0) S5) ++ ((jW cy aJ S6) ++ ((tW cy atd Std) ++ (lwW cy aLw SLw))))))) H locs := hw.perm [0, 1, 2, 3, 4, 5, 6, 7, 8, 9, 22, 23, 24, 25, 26, 27, 28, 29, 30, 31, 32, 10, 11, 12, 13, 14, 15, 16, 17, 18, 19, 20, 21] rfl rfl
      refine lv_istore (lv' := [(4, .int r14), (3, .int r10), (0, .ref (aO 0)), (1, .int x1), (2, .int x2)]) hx hb dX8_tell_79 hl (by decide) rfl (fun ls hl => ?_)
      refine lv_aload_n hx hb dX8_tell_81 rfl (lv_at hl 2 rfl) ?_
      refine gF (k := 0) hc hw inX8 rfl 0 rfl (by decide) (gm 415 (by decide +kernel) rfl) rfl dX8_tell_82 ?_
      refine nVN_I (As := []) (rest := []) (wc := ((bW cy aB (als 0) (atd 0) e_B_mentions e_B_claims SB) ++ (tW cy atd Std))) (wr := ((oW cy aO (aB 0) e_O_images e_O_tape e_O_reader (aP 0) e_O_trial e_O_season e_O_dates e_O_line e_O_evening e_O_choices SO) ++ ((lsW cy als Sls) ++ ((pW cy aP (aJ 0) S5) ++ ((jW cy aJ S6) ++ (lwW cy aLw SLw)))))) (isC := [3, 4, 5, 6, 7, 8, 24, 25, 26, 27]) (isR := [0, 1, 2, 9, 10, 11, 12, 13, 14, 15, 16, 17, 18, 19, 20, 21, 22, 23, 28, 29, 30, 31, 32]) hc hw (c_X6_toldSet hm) lk_X8_179 ⟨rfl, rfl, rfl, rfl, by decide⟩ rfl rfl ⟨Nat.le_of_ble_eq_true rfl, Nat.le_of_ble_eq_true rfl⟩ ⟨Nat.le_of_ble_eq_true rfl, Nat.le_of_ble_eq_true rfl⟩ hl.1 rfl (Nat.le_of_ble_eq_true rfl) rfl dX8_tell_85 (fun r16 _ H locs hm hw => ?_)
      have hw : wV D A s.heap ((oW cy aO (aB 0) e_O_images e_O_tape e_O_reader (aP 0) e_O_trial e_O_season e_O_dates e_O_line e_O_evening e_O_choices SO) ++ ((bW cy aB (als 0) (atd 0) e_B_mentions e_B_claims SB) ++ ((lsW cy als Sls) ++ ((pW cy aP (aJ 0) S5) ++ ((jW cy aJ S6) ++ ((tW cy atd Std) ++ (lwW cy aLw SLw))))))) H locs := hw.perm [0, 1, 2, 23, 24, 25, 26, 27, 28, 3, 4, 5, 6, 7, 8, 9, 10, 11, 12, 13, 14, 15, 16, 17, 29, 30, 31, 32, 18, 19, 20, 21, 22] rfl rfl
      refine lv_iload_n hx hb dX8_tell_88 rfl (lv_at hl 3 rfl) ?_
      refine lv_ishr hx hb dX8_tell_89 ?_
      refine lv_iconst (v := 1) hx hb dX8_tell_90 (by decide) ?_
      refine lv_iand hx hb dX8_tell_91 ?_
      obtain ⟨J19, eJ19, hm⟩ := jn_e hm
      have hJ19 : ∀ (z18 : Unit) (_ : J19 z18) (H : Heap) (locs : List Loc) (ls : Array Slot), wV D A s.heap ((oW cy aO (aB 0) e_O_images e_O_tape e_O_reader (aP 0) e_O_trial e_O_season e_O_dates e_O_line e_O_evening e_O_choices SO) ++ ((bW cy aB (als 0) (atd 0) e_B_mentions e_B_claims SB) ++ ((lsW cy als Sls) ++ ((pW cy aP (aJ 0) S5) ++ ((jW cy aJ S6) ++ ((tW cy atd Std) ++ (lwW cy aLw SLw))))))) H locs → lv_has ls 5 [(0, .ref (aO 0))] → W p l e (rmN 5) s m args below meth c H locs 0 0 (MQ below (eI D cy A (fun u : Ob × Ob × Ob × Ob => ((oW cy aO (aB 0) e_O_images e_O_tape e_O_reader (aP 0) e_O_trial e_O_season e_O_dates e_O_line e_O_evening e_O_choices u.1) ++ ((bW cy aB (als 0) (atd 0) e_B_mentions e_B_claims SB) ++ ((lsW cy als Sls) ++ ((pW cy aP (aJ 0) u.2.1) ++ ((jW cy aJ u.2.2.1) ++ ((tW cy atd u.2.2.2) ++ (lwW cy aLw SLw)))))))) (fun (r : Int32) (u : Ob × Ob × Ob × Ob) => Q r u.1 u.2.1 u.2.2.1 u.2.2.2)) args s (rmN 5).cells (rmN 5).slots A) (F0 m 109 ls []) := by
        intro z18 hm H locs ls hw hl
        rw [eJ19] at hm
        refine lv_aload_n hx hb dX8_tell_109 rfl (lv_at hl 0 rfl) ?_
        refine lv_bipush (v := (-3)) hx hb dX8_tell_110 (by decide) ?_
        refine nV_I (As := [.int (-3)]) (rest := []) (wc := (oW cy aO (aB 0) e_O_images e_O_tape e_O_reader (aP 0) e_O_trial e_O_season e_O_dates e_O_line e_O_evening e_O_choices SO)) (wr := ((bW cy aB (als 0) (atd 0) e_B_mentions e_B_claims SB) ++ ((lsW cy als Sls) ++ ((pW cy aP (aJ 0) S5) ++ ((jW cy aJ S6) ++ ((tW cy atd Std) ++ (lwW cy aLw SLw))))))) (isC := [0, 1, 2]) (isR := [3, 4, 5, 6, 7, 8, 9, 10, 11, 12, 13, 14, 15, 16, 17, 18, 19, 20, 21, 22, 23, 24, 25, 26, 27, 28, 29, 30, 31, 32]) hc hw (c_X8_refuse hm) lk_X8_89 ⟨rfl, rfl, rfl, rfl, by decide⟩ rfl rfl ⟨Nat.le_of_ble_eq_true rfl, Nat.le_of_ble_eq_true rfl⟩ ⟨Nat.le_of_ble_eq_true rfl, Nat.le_of_ble_eq_true rfl⟩ hl.1 rfl (Nat.le_of_ble_eq_true rfl) rfl dX8_tell_112 (fun r20 S21 H locs hm hw => ?_)
        have hw : wV D A s.heap ((oW cy aO (aB 0) e_O_images e_O_tape e_O_reader (aP 0) e_O_trial e_O_season e_O_dates e_O_line e_O_evening e_O_choices S21) ++ ((bW cy aB (als 0) (atd 0) e_B_mentions e_B_claims SB) ++ ((lsW cy als Sls) ++ ((pW cy aP (aJ 0) S5) ++ ((jW cy aJ S6) ++ ((tW cy atd Std) ++ (lwW cy aLw SLw))))))) H locs := hw.perm [30, 31, 32, 0, 1, 2, 3, 4, 5, 6, 7, 8, 9, 10, 11, 12, 13, 14, 15, 16, 17, 18, 19, 20, 21, 22, 23, 24, 25, 26, 27, 28, 29] rfl rfl
        exact retI (u := (S21, S5, S6, Std)) hc hw hm dX8_tell_115
      refine lv_if_ne (tgt := 109) hx hb dX8_tell_92 (by decide) (fun c30 => ?_) (fun c30 => ?_)
      · have hm := hm.1 c30
        exact hJ19 _ hm _ _ _ hw (lv_sub hl [2] rfl)
      · have hm := hm.2 c30
        refine lv_iload_n hx hb dX8_tell_95 rfl (lv_at hl 1 rfl) ?_
        refine lv_iconst (v := (-1)) hx hb dX8_tell_96 (by decide) ?_
        refine lv_icmp_eq (tgt := 109) hx hb dX8_tell_97 (by decide) (fun c29 => ?_) (fun c29 => ?_)
        · have hm := hm.1 c29
          exact hJ19 _ hm _ _ _ hw (lv_sub hl [2] rfl)
        · have hm := hm.2 c29
          refine lv_iload hx hb dX8_tell_100 (lv_at hl 0 rfl) ?_
          refine lv_iload_n hx hb dX8_tell_102 rfl (lv_at hl 4 rfl) ?_
          refine lv_ishr hx hb dX8_tell_103 ?_
          refine lv_iconst (v := 1) hx hb dX8_tell_104 (by decide) ?_
          refine lv_iand hx hb dX8_tell_105 ?_
          refine lv_if_ne (tgt := 116) hx hb dX8_tell_106 (by decide) (fun c28 => ?_) (fun c28 => ?_)
          · have hm := hm.1 c28
            refine lv_aload_n hx hb dX8_tell_116 rfl (lv_at hl 2 rfl) ?_
            refine gF (k := 0) hc hw inX8 rfl 0 rfl (by decide) (gm 415 (by decide +kernel) rfl) rfl dX8_tell_117 ?_
            refine gN (k := 9) (host := "OlderTale") hc hw inX6 rfl 3 rfl (by decide) (nmm 226 (by decide +kernel)) rfl dX8_tell_120 ?_
            refine lv_iload_n hx hb dX8_tell_123 rfl (lv_at hl 3 rfl) ?_
            refine lv_iload_n hx hb dX8_tell_124 rfl (lv_at hl 1 rfl) ?_
            refine lv_iload_n hx hb dX8_tell_125 rfl (lv_at hl 4 rfl) ?_
            refine nVN_V (As := [.int x1, .int r10, .int x2]) (rest := []) (wc := (tW cy atd Std)) (wr := ((oW cy aO (aB 0) e_O_images e_O_tape e_O_reader (aP 0) e_O_trial e_O_season e_O_dates e_O_line e_O_evening e_O_choices SO) ++ ((bW cy aB (als 0) (atd 0) e_B_mentions e_B_claims SB) ++ ((lsW cy als Sls) ++ ((pW cy aP (aJ 0) S5) ++ ((jW cy aJ S6) ++ (lwW cy aLw SLw))))))) (isC := [24, 25, 26, 27]) (isR := [0, 1, 2, 3, 4, 5, 6, 7, 8, 9, 10, 11, 12, 13, 14, 15, 16, 17, 18, 19, 20, 21, 22, 23, 28, 29, 30, 31, 32]) hc hw (c_X7_add hm) lk_X8_185 ⟨rfl, rfl, rfl, rfl, by decide⟩ rfl rfl ⟨Nat.le_of_ble_eq_true rfl, Nat.le_of_ble_eq_true rfl⟩ ⟨Nat.le_of_ble_eq_true rfl, Nat.le_of_ble_eq_true rfl⟩ hl.1 rfl (Nat.le_of_ble_eq_true rfl) rfl dX8_tell_126 (fun S23 H locs hm hw => ?_)
            have hw : wV D A s.heap ((oW cy aO (aB 0) e_O_images e_O_tape e_O_reader (aP 0) e_O_trial e_O_season e_O_dates e_O_line e_O_evening e_O_choices SO) ++ ((bW cy aB (als 0) (atd 0) e_B_mentions e_B_claims SB) ++ ((lsW cy als Sls) ++ ((pW cy aP (aJ 0) S5) ++ ((jW cy aJ S6) ++ ((tW cy atd S23) ++ (lwW cy aLw SLw))))))) H locs := hw.perm [0, 1, 2, 3, 4, 5, 6, 7, 8, 9, 10, 11, 12, 13, 14, 15, 16, 17, 18, 19, 20, 21, 22, 23, 29, 30, 31, 32, 24, 25, 26, 27, 28] rfl rfl
            refine lv_aload_n hx hb dX8_tell_129 rfl (lv_at hl 2 rfl) ?_
            refine lv_iload_n hx hb dX8_tell_130 rfl (lv_at hl 1 rfl) ?_
            refine nV_I (As := [.int r10]) (rest := []) (wc := (oW cy aO (aB 0) e_O_images e_O_tape e_O_reader (aP 0) e_O_trial e_O_season e_O_dates e_O_line e_O_evening e_O_choices SO)) (wr := ((bW cy aB (als 0) (atd 0) e_B_mentions e_B_claims SB) ++ ((lsW cy als Sls) ++ ((pW cy aP (aJ 0) S5) ++ ((jW cy aJ S6) ++ ((tW cy atd S23) ++ (lwW cy aLw SLw))))))) (isC := [0, 1, 2]) (isR := [3, 4, 5, 6, 7, 8, 9, 10, 11, 12, 13, 14, 15, 16, 17, 18, 19, 20, 21, 22, 23, 24, 25, 26, 27, 28, 29, 30, 31, 32]) hc hw (c_X8_accept hm) lk_X8_103 ⟨rfl, rfl, rfl, rfl, by decide⟩ rfl rfl ⟨Nat.le_of_ble_eq_true rfl, Nat.le_of_ble_eq_true rfl⟩ ⟨Nat.le_of_ble_eq_true rfl, Nat.le_of_ble_eq_true rfl⟩ hl.1 rfl (Nat.le_of_ble_eq_true rfl) rfl dX8_tell_131 (fun r25 S26 H locs hm hw => ?_)
            have hw : wV D A s.heap ((oW cy aO (aB 0) e_O_images e_O_tape e_O_reader (aP 0) e_O_trial e_O_season e_O_dates e_O_line e_O_evening e_O_choices S26) ++ ((bW cy aB (als 0) (atd 0) e_B_mentions e_B_claims SB) ++ ((lsW cy als Sls) ++ ((pW cy aP (aJ 0) S5) ++ ((jW cy aJ S6) ++ ((tW cy atd S23) ++ (lwW cy aLw SLw))))))) H locs := hw.perm [30, 31, 32, 0, 1, 2, 3, 4, 5, 6, 7, 8, 9, 10, 11, 12, 13, 14, 15, 16, 17, 18, 19, 20, 21, 22, 23, 24, 25, 26, 27, 28, 29] rfl rfl
            exact retI (u := (S26, S5, S6, S23)) hc hw hm dX8_tell_134
          · have hm := hm.2 c28
            exact hJ19 _ hm _ _ _ hw (lv_sub hl [2] rfl)
    · have hm := hm.2 c34
      refine lv_aload_n hx hb dX8_tell_28 rfl (lv_at hl 0 rfl) ?_
      refine lv_bipush (v := (-2)) hx hb dX8_tell_29 (by decide) ?_
      refine nV_I (As := [.int (-2)]) (rest := []) (wc := (oW cy aO (aB 0) e_O_images e_O_tape e_O_reader (aP 0) e_O_trial e_O_season e_O_dates e_O_line e_O_evening e_O_choices SO)) (wr := ((bW cy aB (als 0) (atd 0) e_B_mentions e_B_claims SB) ++ ((lsW cy als Sls) ++ ((pW cy aP (aJ 0) SP) ++ ((jW cy aJ SJ) ++ ((tW cy atd Std) ++ (lwW cy aLw SLw))))))) (isC := [0, 1, 2]) (isR := [3, 4, 5, 6, 7, 8, 9, 10, 11, 12, 13, 14, 15, 16, 17, 18, 19, 20, 21, 22, 23, 24, 25, 26, 27, 28, 29, 30, 31, 32]) hc hw (c_X8_refuse hm) lk_X8_89 ⟨rfl, rfl, rfl, rfl, by decide⟩ rfl rfl ⟨Nat.le_of_ble_eq_true rfl, Nat.le_of_ble_eq_true rfl⟩ ⟨Nat.le_of_ble_eq_true rfl, Nat.le_of_ble_eq_true rfl⟩ hl.1 rfl (Nat.le_of_ble_eq_true rfl) rfl dX8_tell_31 (fun r31 S32 H locs hm hw => ?_)
      have hw : wV D A s.heap ((oW cy aO (aB 0) e_O_images e_O_tape e_O_reader (aP 0) e_O_trial e_O_season e_O_dates e_O_line e_O_evening e_O_choices S32) ++ ((bW cy aB (als 0) (atd 0) e_B_mentions e_B_claims SB) ++ ((lsW cy als Sls) ++ ((pW cy aP (aJ 0) SP) ++ ((jW cy aJ SJ) ++ ((tW cy atd Std) ++ (lwW cy aLw SLw))))))) H locs := hw.perm [30, 31, 32, 0, 1, 2, 3, 4, 5, 6, 7, 8, 9, 10, 11, 12, 13, 14, 15, 16, 17, 18, 19, 20, 21, 22, 23, 24, 25, 26, 27, 28, 29] rfl rfl
      exact retI (u := (S32, SP, SJ, Std)) hc hw hm dX8_tell_34
  · have hm := hm.2 c38
    refine lv_aload_n hx hb dX8_tell_11 rfl (lv_at hl 0 rfl) ?_
    refine lv_iconst (v := (-1)) hx hb dX8_tell_12 (by decide) ?_
    refine nV_I (As := [.int (-1)]) (rest := []) (wc := (oW cy aO (aB 0) e_O_images e_O_tape e_O_reader (aP 0) e_O_trial e_O_season e_O_dates e_O_line e_O_evening e_O_choices SO)) (wr := ((bW cy aB (als 0) (atd 0) e_B_mentions e_B_claims SB) ++ ((lsW cy als Sls) ++ ((pW cy aP (aJ 0) SP) ++ ((jW cy aJ SJ) ++ ((tW cy atd Std) ++ (lwW cy aLw SLw))))))) (isC := [0, 1, 2]) (isR := [3, 4, 5, 6, 7, 8, 9, 10, 11, 12, 13, 14, 15, 16, 17, 18, 19, 20, 21, 22, 23, 24, 25, 26, 27, 28, 29, 30, 31, 32]) hc hw (c_X8_refuse hm) lk_X8_89 ⟨rfl, rfl, rfl, rfl, by decide⟩ rfl rfl ⟨Nat.le_of_ble_eq_true rfl, Nat.le_of_ble_eq_true rfl⟩ ⟨Nat.le_of_ble_eq_true rfl, Nat.le_of_ble_eq_true rfl⟩ hl.1 rfl (Nat.le_of_ble_eq_true rfl) rfl dX8_tell_13 (fun r35 S36 H locs hm hw => ?_)
    have hw : wV D A s.heap ((oW cy aO (aB 0) e_O_images e_O_tape e_O_reader (aP 0) e_O_trial e_O_season e_O_dates e_O_line e_O_evening e_O_choices S36) ++ ((bW cy aB (als 0) (atd 0) e_B_mentions e_B_claims SB) ++ ((lsW cy als Sls) ++ ((pW cy aP (aJ 0) SP) ++ ((jW cy aJ SJ) ++ ((tW cy atd Std) ++ (lwW cy aLw SLw))))))) H locs := hw.perm [30, 31, 32, 0, 1, 2, 3, 4, 5, 6, 7, 8, 9, 10, 11, 12, 13, 14, 15, 16, 17, 18, 19, 20, 21, 22, 23, 24, 25, 26, 27, 28, 29] rfl rfl
    exact retI (u := (S36, SP, SJ, Std)) hc hw hm dX8_tell_16
set_option maxHeartbeats 4000000 in
set_option maxRecDepth 100000 in
theorem c_X8_tellN {l : Launch} {D : va_G} {cy : Nat → ClassId} {aO : Nat → Nat} {aB : Nat → Nat} {als : Nat → Nat} {aP : Nat → Nat} {aJ : Nat → Nat} {atd : Nat → Nat} {e_O_images : Nat} {e_O_tape : Nat} {e_O_reader : Nat} {e_O_trial : Option Nat} {e_O_season : Option Nat} {e_O_dates : Nat} {e_O_line : Nat} {e_O_evening : Nat} {e_O_choices : Nat} {e_B_mentions : Nat} {e_B_claims : Nat} {SO : Ob} {SB : Ob} {Sls : (Nat → Option Nat)} {SP : Ob} {SJ : Ob} {Std : Ob} {x1 : Int32} {x2 : Int32} {Q : Int32 → Ob → Ob → Ob → Ob → Prop} (hm : w_X8_tellN SO SB Sls SP SJ Std x1 x2 Q) : CtI l yX8_tell cX8_tell 5 (some .int) (rmN 5) D cy [.ref (aO 0), .int x1, .int x2] ((oW cy aO (aB 0) e_O_images e_O_tape e_O_reader (aP 0) e_O_trial e_O_season e_O_dates e_O_line e_O_evening e_O_choices SO) ++ ((bW cy aB (als 0) (atd 0) e_B_mentions e_B_claims SB) ++ ((lsW cy als Sls) ++ ((pW cy aP (aJ 0) SP) ++ ((jW cy aJ SJ) ++ (tW cy atd Std)))))) (fun u : Ob × Ob × Ob × Ob => ((oW cy aO (aB 0) e_O_images e_O_tape e_O_reader (aP 0) e_O_trial e_O_season e_O_dates e_O_line e_O_evening e_O_choices u.1) ++ ((bW cy aB (als 0) (atd 0) e_B_mentions e_B_claims SB) ++ ((lsW cy als Sls) ++ ((pW cy aP (aJ 0) u.2.1) ++ ((jW cy aJ u.2.2.1) ++ (tW cy atd u.2.2.2))))))) (fun (r : Int32) (u : Ob × Ob × Ob × Ob) => Q r u.1 u.2.1 u.2.2.1 u.2.2.2) := by
  refine CtI.ofW (by decide) (Nat.le_of_ble_eq_true rfl) ?_
  intro p e s m args below meth c A ls hc hnm hw hl
  have hx := hc.1.1
  have hb := hc.1.2.1
  have hown := hc.1.2.2.2.1
  have hts := hc.1.2.2.2.2
  have hl : lv_has ls 5 [(0, .ref (aO 0)), (1, .int x1), (2, .int x2)] := hl
  obtain ⟨H, hH⟩ : ∃ z, z = s.heap := ⟨_, rfl⟩
  obtain ⟨locs, hLc⟩ : ∃ z : List Loc, z = [] := ⟨_, rfl⟩
  have hw : wV D A s.heap ((oW cy aO (aB 0) e_O_images e_O_tape e_O_reader (aP 0) e_O_trial e_O_season e_O_dates e_O_line e_O_evening e_O_choices SO) ++ ((bW cy aB (als 0) (atd 0) e_B_mentions e_B_claims SB) ++ ((lsW cy als Sls) ++ ((pW cy aP (aJ 0) SP) ++ ((jW cy aJ SJ) ++ (tW cy atd Std)))))) H locs := by rw [hH, hLc]; exact hw
  have hgo : W p l e (rmN 5) s m args below meth c H locs 0 0 (MQ below (eI D cy A (fun u : Ob × Ob × Ob × Ob => ((oW cy aO (aB 0) e_O_images e_O_tape e_O_reader (aP 0) e_O_trial e_O_season e_O_dates e_O_line e_O_evening e_O_choices u.1) ++ ((bW cy aB (als 0) (atd 0) e_B_mentions e_B_claims SB) ++ ((lsW cy als Sls) ++ ((pW cy aP (aJ 0) u.2.1) ++ ((jW cy aJ u.2.2.1) ++ (tW cy atd u.2.2.2))))))) (fun (r : Int32) (u : Ob × Ob × Ob × Ob) => Q r u.1 u.2.1 u.2.2.1 u.2.2.2)) args s (rmN 5).cells (rmN 5).slots A) (F0 m 0 ls []) := ?hgo
  · rw [hH, hLc] at hgo; exact hgo
  refine lv_aload_n hx hb dX8_tell_0 rfl (lv_at hl 0 rfl) ?_
  refine gF (k := 0) hc hw inX8 rfl 0 rfl (by decide) (gm 415 (by decide +kernel) rfl) rfl dX8_tell_1 ?_
  refine lv_iload_n hx hb dX8_tell_4 rfl (lv_at hl 2 rfl) ?_
  refine nVN_I (As := [.int x2]) (rest := []) (wc := (bW cy aB (als 0) (atd 0) e_B_mentions e_B_claims SB)) (wr := ((oW cy aO (aB 0) e_O_images e_O_tape e_O_reader (aP 0) e_O_trial e_O_season e_O_dates e_O_line e_O_evening e_O_choices SO) ++ ((lsW cy als Sls) ++ ((pW cy aP (aJ 0) SP) ++ ((jW cy aJ SJ) ++ (tW cy atd Std)))))) (isC := [3, 4, 5, 6, 7, 8]) (isR := [0, 1, 2, 9, 10, 11, 12, 13, 14, 15, 16, 17, 18, 19, 20, 21, 22, 23, 24, 25, 26, 27]) hc hw (c_X6_seats hm) lk_X8_134 ⟨rfl, rfl, rfl, rfl, by decide⟩ rfl rfl ⟨Nat.le_of_ble_eq_true rfl, Nat.le_of_ble_eq_true rfl⟩ ⟨Nat.le_of_ble_eq_true rfl, Nat.le_of_ble_eq_true rfl⟩ hl.1 rfl (Nat.le_of_ble_eq_true rfl) rfl dX8_tell_5 (fun r1 _ H locs hm hw => ?_)
  have hw : wV D A s.heap ((oW cy aO (aB 0) e_O_images e_O_tape e_O_reader (aP 0) e_O_trial e_O_season e_O_dates e_O_line e_O_evening e_O_choices SO) ++ ((bW cy aB (als 0) (atd 0) e_B_mentions e_B_claims SB) ++ ((lsW cy als Sls) ++ ((pW cy aP (aJ 0) SP) ++ ((jW cy aJ SJ) ++ (tW cy atd Std)))))) H locs := hw.perm [0, 1, 2, 22, 23, 24, 25, 26, 27, 3, 4, 5, 6, 7, 8, 9, 10, 11, 12, 13, 14, 15, 16, 17, 18, 19, 20, 21] rfl rfl
  refine lv_if_ne (tgt := 17) hx hb dX8_tell_8 (by decide) (fun c38 => ?_) (fun c38 => ?_)
  · have hm := hm.1 c38
    refine lv_aload_n hx hb dX8_tell_17 rfl (lv_at hl 0 rfl) ?_
    refine gF (k := 0) hc hw inX8 rfl 0 rfl (by decide) (gm 415 (by decide +kernel) rfl) rfl dX8_tell_18 ?_
    refine lv_iload_n hx hb dX8_tell_21 rfl (lv_at hl 1 rfl) ?_
    refine nVN_I (As := [.int x1]) (rest := []) (wc := (bW cy aB (als 0) (atd 0) e_B_mentions e_B_claims SB)) (wr := ((oW cy aO (aB 0) e_O_images e_O_tape e_O_reader (aP 0) e_O_trial e_O_season e_O_dates e_O_line e_O_evening e_O_choices SO) ++ ((lsW cy als Sls) ++ ((pW cy aP (aJ 0) SP) ++ ((jW cy aJ SJ) ++ (tW cy atd Std)))))) (isC := [3, 4, 5, 6, 7, 8]) (isR := [0, 1, 2, 9, 10, 11, 12, 13, 14, 15, 16, 17, 18, 19, 20, 21, 22, 23, 24, 25, 26, 27]) hc hw (c_X6_has hm) lk_X8_110 ⟨rfl, rfl, rfl, rfl, by decide⟩ rfl rfl ⟨Nat.le_of_ble_eq_true rfl, Nat.le_of_ble_eq_true rfl⟩ ⟨Nat.le_of_ble_eq_true rfl, Nat.le_of_ble_eq_true rfl⟩ hl.1 rfl (Nat.le_of_ble_eq_true rfl) rfl dX8_tell_22 (fun r3 _ H locs hm hw => ?_)
    have hw : wV D A s.heap ((oW cy aO (aB 0) e_O_images e_O_tape e_O_reader (aP 0) e_O_trial e_O_season e_O_dates e_O_line e_O_evening e_O_choices SO) ++ ((bW cy aB (als 0) (atd 0) e_B_mentions e_B_claims SB) ++ ((lsW cy als Sls) ++ ((pW cy aP (aJ 0) SP) ++ ((jW cy aJ SJ) ++ (tW cy atd Std)))))) H locs := hw.perm [0, 1, 2, 22, 23, 24, 25, 26, 27, 3, 4, 5, 6, 7, 8, 9, 10, 11, 12, 13, 14, 15, 16, 17, 18, 19, 20, 21] rfl rfl
    refine lv_if_ne (tgt := 35) hx hb dX8_tell_25 (by decide) (fun c34 => ?_) (fun c34 => ?_)
    · have hm := hm.1 c34
      refine lv_aload_n hx hb dX8_tell_35 rfl (lv_at hl 0 rfl) ?_
      refine gF (k := 8) hc hw inX8 rfl 0 rfl (by decide) (gm 423 (by decide +kernel) rfl) rfl dX8_tell_36 ?_
      refine lv_aload_n hx hb dX8_tell_39 rfl (lv_at hl 0 rfl) ?_
      refine gF (k := 0) hc hw inX8 rfl 0 rfl (by decide) (gm 415 (by decide +kernel) rfl) rfl dX8_tell_40 ?_
      refine nVN_V (As := [.ref (aB 0)]) (rest := []) (wc := ((pW cy aP (aJ 0) SP) ++ ((jW cy aJ SJ) ++ ((bW cy aB (als 0) (atd 0) e_B_mentions e_B_claims SB) ++ (lsW cy als Sls))))) (wr := ((oW cy aO (aB 0) e_O_images e_O_tape e_O_reader (aP 0) e_O_trial e_O_season e_O_dates e_O_line e_O_evening e_O_choices SO) ++ (tW cy atd Std))) (isC := [10, 11, 12, 13, 14, 15, 16, 17, 18, 19, 20, 21, 22, 23, 3, 4, 5, 6, 7, 8, 9]) (isR := [0, 1, 2, 24, 25, 26, 27]) hc hw (c_X3_weighN hm) lk_X8_124 ⟨rfl, rfl, rfl, rfl, by decide⟩ rfl rfl ⟨Nat.le_of_ble_eq_true rfl, Nat.le_of_ble_eq_true rfl⟩ ⟨Nat.le_of_ble_eq_true rfl, Nat.le_of_ble_eq_true rfl⟩ hl.1 rfl (Nat.le_of_ble_eq_true rfl) rfl dX8_tell_43 (fun u_6 H locs hm hw => ?_)
      obtain ⟨S5, S6⟩ := u_6
      have hw : wV D A s.heap ((oW cy aO (aB 0) e_O_images e_O_tape e_O_reader (aP 0) e_O_trial e_O_season e_O_dates e_O_line e_O_evening e_O_choices SO) ++ ((bW cy aB (als 0) (atd 0) e_B_mentions e_B_claims SB) ++ ((lsW cy als Sls) ++ ((pW cy aP (aJ 0) S5) ++ ((jW cy aJ S6) ++ (tW cy atd Std)))))) H locs := hw.perm [0, 1, 2, 21, 22, 23, 24, 25, 26, 27, 7, 8, 9, 10, 11, 12, 13, 14, 15, 16, 17, 18, 19, 20, 3, 4, 5, 6] rfl rfl
      refine lv_aload_n hx hb dX8_tell_46 rfl (lv_at hl 0 rfl) ?_
      refine gF (k := 8) hc hw inX8 rfl 0 rfl (by decide) (gm 423 (by decide +kernel) rfl) rfl dX8_tell_47 ?_
      refine lv_iload_n hx hb dX8_tell_50 rfl (lv_at hl 1 rfl) ?_
      refine lv_aload_n hx hb dX8_tell_51 rfl (lv_at hl 0 rfl) ?_
      refine gF (k := 0) hc hw inX8 rfl 0 rfl (by decide) (gm 415 (by decide +kernel) rfl) rfl dX8_tell_52 ?_
      refine nVN_I (As := []) (rest := [.int x1, .ref (aP 0)]) (wc := ((bW cy aB (als 0) (atd 0) e_B_mentions e_B_claims SB) ++ (tW cy atd Std))) (wr := ((oW cy aO (aB 0) e_O_images e_O_tape e_O_reader (aP 0) e_O_trial e_O_season e_O_dates e_O_line e_O_evening e_O_choices SO) ++ ((lsW cy als Sls) ++ ((pW cy aP (aJ 0) S5) ++ (jW cy aJ S6))))) (isC := [3, 4, 5, 6, 7, 8, 24, 25, 26, 27]) (isR := [0, 1, 2, 9, 10, 11, 12, 13, 14, 15, 16, 17, 18, 19, 20, 21, 22, 23]) hc hw (c_X6_lastYear hm) lk_X8_165 ⟨rfl, rfl, rfl, rfl, by decide⟩ rfl rfl ⟨Nat.le_of_ble_eq_true rfl, Nat.le_of_ble_eq_true rfl⟩ ⟨Nat.le_of_ble_eq_true rfl, Nat.le_of_ble_eq_true rfl⟩ hl.1 rfl (Nat.le_of_ble_eq_true rfl) rfl dX8_tell_55 (fun r8 _ H locs hm hw => ?_)
      have hw : wV D A s.heap ((oW cy aO (aB 0) e_O_images e_O_tape e_O_reader (aP 0) e_O_trial e_O_season e_O_dates e_O_line e_O_evening e_O_choices SO) ++ ((bW cy aB (als 0) (atd 0) e_B_mentions e_B_claims SB) ++ ((lsW cy als Sls) ++ ((pW cy aP (aJ 0) S5) ++ ((jW cy aJ S6) ++ (tW cy atd Std)))))) H locs := hw.perm [0, 1, 2, 18, 19, 20, 21, 22, 23, 3, 4, 5, 6, 7, 8, 9, 10, 11, 12, 13, 14, 15, 16, 17, 24, 25, 26, 27] rfl rfl
      refine nVN_I (As := [.int x1, .int r8]) (rest := []) (wc := (pW cy aP (aJ 0) S5)) (wr := ((oW cy aO (aB 0) e_O_images e_O_tape e_O_reader (aP 0) e_O_trial e_O_season e_O_dates e_O_line e_O_evening e_O_choices SO) ++ ((bW cy aB (als 0) (atd 0) e_B_mentions e_B_claims SB) ++ ((lsW cy als Sls) ++ ((jW cy aJ S6) ++ (tW cy atd Std)))))) (isC := [10, 11, 12, 13, 14, 15, 16, 17, 18, 19, 20]) (isR := [0, 1, 2, 3, 4, 5, 6, 7, 8, 9, 21, 22, 23, 24, 25, 26, 27]) hc hw (c_X3_yearOf hm) lk_X8_169 ⟨rfl, rfl, rfl, rfl, by decide⟩ rfl rfl ⟨Nat.le_of_ble_eq_true rfl, Nat.le_of_ble_eq_true rfl⟩ ⟨Nat.le_of_ble_eq_true rfl, Nat.le_of_ble_eq_true rfl⟩ hl.1 rfl (Nat.le_of_ble_eq_true rfl) rfl dX8_tell_58 (fun r10 _ H locs hm hw => ?_)
      have hw : wV D A s.heap ((oW cy aO (aB 0) e_O_images e_O_tape e_O_reader (aP 0) e_O_trial e_O_season e_O_dates e_O_line e_O_evening e_O_choices SO) ++ ((bW cy aB (als 0) (atd 0) e_B_mentions e_B_claims SB) ++ ((lsW cy als Sls) ++ ((pW cy aP (aJ 0) S5) ++ ((jW cy aJ S6) ++ (tW cy atd Std)))))) H locs := hw.perm [0, 1, 2, 3, 4, 5, 6, 7, 8, 9, 17, 18, 19, 20, 21, 22, 23, 24, 25, 26, 27, 10, 11, 12, 13, 14, 15, 16] rfl rfl
      refine lv_istore_n (lv' := [(3, .int r10), (0, .ref (aO 0)), (1, .int x1), (2, .int x2)]) hx hb dX8_tell_61 rfl hl (by decide) rfl (fun ls hl => ?_)
      refine lv_aload_n hx hb dX8_tell_62 rfl (lv_at hl 1 rfl) ?_
      refine gF (k := 8) hc hw inX8 rfl 0 rfl (by decide) (gm 423 (by decide +kernel) rfl) rfl dX8_tell_63 ?_
      refine lv_iload_n hx hb dX8_tell_66 rfl (lv_at hl 2 rfl) ?_
      refine lv_iconst (v := 1) hx hb dX8_tell_67 (by decide) ?_
      refine lv_aload_n hx hb dX8_tell_68 rfl (lv_at hl 1 rfl) ?_
      refine gF (k := 0) hc hw inX8 rfl 0 rfl (by decide) (gm 415 (by decide +kernel) rfl) rfl dX8_tell_69 ?_
      refine nVN_I (As := []) (rest := [.int 1, .int x1, .ref (aP 0)]) (wc := ((bW cy aB (als 0) (atd 0) e_B_mentions e_B_claims SB) ++ (tW cy atd Std))) (wr := ((oW cy aO (aB 0) e_O_images e_O_tape e_O_reader (aP 0) e_O_trial e_O_season e_O_dates e_O_line e_O_evening e_O_choices SO) ++ ((lsW cy als Sls) ++ ((pW cy aP (aJ 0) S5) ++ (jW cy aJ S6))))) (isC := [3, 4, 5, 6, 7, 8, 24, 25, 26, 27]) (isR := [0, 1, 2, 9, 10, 11, 12, 13, 14, 15, 16, 17, 18, 19, 20, 21, 22, 23]) hc hw (c_X6_lastTeller hm) lk_X8_173 ⟨rfl, rfl, rfl, rfl, by decide⟩ rfl rfl ⟨Nat.le_of_ble_eq_true rfl, Nat.le_of_ble_eq_true rfl⟩ ⟨Nat.le_of_ble_eq_true rfl, Nat.le_of_ble_eq_true rfl⟩ hl.1 rfl (Nat.le_of_ble_eq_true rfl) rfl dX8_tell_72 (fun r12 _ H locs hm hw => ?_)
      have hw : wV D A s.heap ((oW cy aO (aB 0) e_O_images e_O_tape e_O_reader (aP 0) e_O_trial e_O_season e_O_dates e_O_line e_O_evening e_O_choices SO) ++ ((bW cy aB (als 0) (atd 0) e_B_mentions e_B_claims SB) ++ ((lsW cy als Sls) ++ ((pW cy aP (aJ 0) S5) ++ ((jW cy aJ S6) ++ (tW cy atd Std)))))) H locs := hw.perm [0, 1, 2, 18, 19, 20, 21, 22, 23, 3, 4, 5, 6, 7, 8, 9, 10, 11, 12, 13, 14, 15, 16, 17, 24, 25, 26, 27] rfl rfl
      refine lv_ishl hx hb dX8_tell_75 ?_
      refine nVN_I (As := [.int x1, .int ((1 : Int32) <<< (r12 &&& 31))]) (rest := []) (wc := (pW cy aP (aJ 0) S5)) (wr := ((oW cy aO (aB 0) e_O_images e_O_tape e_O_reader (aP 0) e_O_trial e_O_season e_O_dates e_O_line e_O_evening e_O_choices SO) ++ ((bW cy aB (als 0) (atd 0) e_B_mentions e_B_claims SB) ++ ((lsW cy als Sls) ++ ((jW cy aJ S6) ++ (tW cy atd Std)))))) (isC := [10, 11, 12, 13, 14, 15, 16, 17, 18, 19, 20]) (isR := [0, 1, 2, 3, 4, 5, 6, 7, 8, 9, 21, 22, 23, 24, 25, 26, 27]) hc hw (c_X3_followers hm) lk_X8_176 ⟨rfl, rfl, rfl, rfl, by decide⟩ rfl rfl ⟨Nat.le_of_ble_eq_true rfl, Nat.le_of_ble_eq_true rfl⟩ ⟨Nat.le_of_ble_eq_true rfl, Nat.le_of_ble_eq_true rfl⟩ hl.1 rfl (Nat.le_of_ble_eq_true rfl) rfl dX8_tell_76 (fun r14 _ H locs hm hw => ?_)
      have hw : wV D A s.heap ((oW cy aO (aB 0) e_O_images e_O_tape e_O_reader (aP 0) e_O_trial e_O_season e_O_dates e_O_line e_O_evening e_O_choices SO) ++ ((bW cy aB (als 0) (atd 0) e_B_mentions e_B_claims SB) ++ ((lsW cy als Sls) ++ ((pW cy aP (aJ 0) S5) ++ ((jW cy aJ S6) ++ (tW cy atd Std)))))) H locs := hw.perm [0, 1, 2, 3, 4, 5, 6, 7, 8, 9, 17, 18, 19, 20, 21, 22, 23, 24, 25, 26, 27, 10, 11, 12, 13, 14, 15, 16] rfl rfl
      refine lv_istore (lv' := [(4, .int r14), (3, .int r10), (0, .ref (aO 0)), (1, .int x1), (2, .int x2)]) hx hb dX8_tell_79 hl (by decide) rfl (fun ls hl => ?_)
      refine lv_aload_n hx hb dX8_tell_81 rfl (lv_at hl 2 rfl) ?_
      refine gF (k := 0) hc hw inX8 rfl 0 rfl (by decide) (gm 415 (by decide +kernel) rfl) rfl dX8_tell_82 ?_
      refine nVN_I (As := []) (rest := []) (wc := ((bW cy aB (als 0) (atd 0) e_B_mentions e_B_claims SB) ++ (tW cy atd Std))) (wr := ((oW cy aO (aB 0) e_O_images e_O_tape e_O_reader (aP 0) e_O_trial e_O_season e_O_dates e_O_line e_O_evening e_O_choices SO) ++ ((lsW cy als Sls) ++ ((pW cy aP (aJ 0) S5) ++ (jW cy aJ S6))))) (isC := [3, 4, 5, 6, 7, 8, 24, 25, 26, 27]) (isR := [0, 1, 2, 9, 10, 11, 12, 13, 14, 15, 16, 17, 18, 19, 20, 21, 22, 23]) hc hw (c_X6_toldSet hm) lk_X8_179 ⟨rfl, rfl, rfl, rfl, by decide⟩ rfl rfl ⟨Nat.le_of_ble_eq_true rfl, Nat.le_of_ble_eq_true rfl⟩ ⟨Nat.le_of_ble_eq_true rfl, Nat.le_of_ble_eq_true rfl⟩ hl.1 rfl (Nat.le_of_ble_eq_true rfl) rfl dX8_tell_85 (fun r16 _ H locs hm hw => ?_)
      have hw : wV D A s.heap ((oW cy aO (aB 0) e_O_images e_O_tape e_O_reader (aP 0) e_O_trial e_O_season e_O_dates e_O_line e_O_evening e_O_choices SO) ++ ((bW cy aB (als 0) (atd 0) e_B_mentions e_B_claims SB) ++ ((lsW cy als Sls) ++ ((pW cy aP (aJ 0) S5) ++ ((jW cy aJ S6) ++ (tW cy atd Std)))))) H locs := hw.perm [0, 1, 2, 18, 19, 20, 21, 22, 23, 3, 4, 5, 6, 7, 8, 9, 10, 11, 12, 13, 14, 15, 16, 17, 24, 25, 26, 27] rfl rfl
      refine lv_iload_n hx hb dX8_tell_88 rfl (lv_at hl 3 rfl) ?_
      refine lv_ishr hx hb dX8_tell_89 ?_
      refine lv_iconst (v := 1) hx hb dX8_tell_90 (by decide) ?_
      refine lv_iand hx hb dX8_tell_91 ?_
      obtain ⟨J19, eJ19, hm⟩ := jn_e hm
      have hJ19 : ∀ (z18 : Unit) (_ : J19 z18) (H : Heap) (locs : List Loc) (ls : Array Slot), wV D A s.heap ((oW cy aO (aB 0) e_O_images e_O_tape e_O_reader (aP 0) e_O_trial e_O_season e_O_dates e_O_line e_O_evening e_O_choices SO) ++ ((bW cy aB (als 0) (atd 0) e_B_mentions e_B_claims SB) ++ ((lsW cy als Sls) ++ ((pW cy aP (aJ 0) S5) ++ ((jW cy aJ S6) ++ (tW cy atd Std)))))) H locs → lv_has ls 5 [(0, .ref (aO 0))] → W p l e (rmN 5) s m args below meth c H locs 0 0 (MQ below (eI D cy A (fun u : Ob × Ob × Ob × Ob => ((oW cy aO (aB 0) e_O_images e_O_tape e_O_reader (aP 0) e_O_trial e_O_season e_O_dates e_O_line e_O_evening e_O_choices u.1) ++ ((bW cy aB (als 0) (atd 0) e_B_mentions e_B_claims SB) ++ ((lsW cy als Sls) ++ ((pW cy aP (aJ 0) u.2.1) ++ ((jW cy aJ u.2.2.1) ++ (tW cy atd u.2.2.2))))))) (fun (r : Int32) (u : Ob × Ob × Ob × Ob) => Q r u.1 u.2.1 u.2.2.1 u.2.2.2)) args s (rmN 5).cells (rmN 5).slots A) (F0 m 109 ls []) := by
        intro z18 hm H locs ls hw hl
        rw [eJ19] at hm
        refine lv_aload_n hx hb dX8_tell_109 rfl (lv_at hl 0 rfl) ?_
        refine lv_bipush (v := (-3)) hx hb dX8_tell_110 (by decide) ?_
        refine nV_I (As := [.int (-3)]) (rest := []) (wc := (oW cy aO (aB 0) e_O_images e_O_tape e_O_reader (aP 0) e_O_trial e_O_season e_O_dates e_O_line e_O_evening e_O_choices SO)) (wr := ((bW cy aB (als 0) (atd 0) e_B_mentions e_B_claims SB) ++ ((lsW cy als Sls) ++ ((pW cy aP (aJ 0) S5) ++ ((jW cy aJ S6) ++ (tW cy atd Std)))))) (isC := [0, 1, 2]) (isR := [3, 4, 5, 6, 7, 8, 9, 10, 11, 12, 13, 14, 15, 16, 17, 18, 19, 20, 21, 22, 23, 24, 25, 26, 27]) hc hw (c_X8_refuse hm) lk_X8_89 ⟨rfl, rfl, rfl, rfl, by decide⟩ rfl rfl ⟨Nat.le_of_ble_eq_true rfl, Nat.le_of_ble_eq_true rfl⟩ ⟨Nat.le_of_ble_eq_true rfl, Nat.le_of_ble_eq_true rfl⟩ hl.1 rfl (Nat.le_of_ble_eq_true rfl) rfl dX8_tell_112 (fun r20 S21 H locs hm hw => ?_)
        have hw : wV D A s.heap ((oW cy aO (aB 0) e_O_images e_O_tape e_O_reader (aP 0) e_O_trial e_O_season e_O_dates e_O_line e_O_evening e_O_choices S21) ++ ((bW cy aB (als 0) (atd 0) e_B_mentions e_B_claims SB) ++ ((lsW cy als Sls) ++ ((pW cy aP (aJ 0) S5) ++ ((jW cy aJ S6) ++ (tW cy atd Std)))))) H locs := hw.perm [25, 26, 27, 0, 1, 2, 3, 4, 5, 6, 7, 8, 9, 10, 11, 12, 13, 14, 15, 16, 17, 18, 19, 20, 21, 22, 23, 24] rfl rfl
        exact retI (u := (S21, S5, S6, Std)) hc hw hm dX8_tell_115
      refine lv_if_ne (tgt := 109) hx hb dX8_tell_92 (by decide) (fun c30 => ?_) (fun c30 => ?_)
      · have hm := hm.1 c30
        exact hJ19 _ hm _ _ _ hw (lv_sub hl [2] rfl)
      · have hm := hm.2 c30
        refine lv_iload_n hx hb dX8_tell_95 rfl (lv_at hl 1 rfl) ?_
        refine lv_iconst (v := (-1)) hx hb dX8_tell_96 (by decide) ?_
        refine lv_icmp_eq (tgt := 109) hx hb dX8_tell_97 (by decide) (fun c29 => ?_) (fun c29 => ?_)
        · have hm := hm.1 c29
          exact hJ19 _ hm _ _ _ hw (lv_sub hl [2] rfl)
        · have hm := hm.2 c29
          refine lv_iload hx hb dX8_tell_100 (lv_at hl 0 rfl) ?_
          refine lv_iload_n hx hb dX8_tell_102 rfl (lv_at hl 4 rfl) ?_
          refine lv_ishr hx hb dX8_tell_103 ?_
          refine lv_iconst (v := 1) hx hb dX8_tell_104 (by decide) ?_
          refine lv_iand hx hb dX8_tell_105 ?_
          refine lv_if_ne (tgt := 116) hx hb dX8_tell_106 (by decide) (fun c28 => ?_) (fun c28 => ?_)
          · have hm := hm.1 c28
            refine lv_aload_n hx hb dX8_tell_116 rfl (lv_at hl 2 rfl) ?_
            refine gF (k := 0) hc hw inX8 rfl 0 rfl (by decide) (gm 415 (by decide +kernel) rfl) rfl dX8_tell_117 ?_
            refine gN (k := 9) (host := "OlderTale") hc hw inX6 rfl 3 rfl (by decide) (nmm 226 (by decide +kernel)) rfl dX8_tell_120 ?_
            refine lv_iload_n hx hb dX8_tell_123 rfl (lv_at hl 3 rfl) ?_
            refine lv_iload_n hx hb dX8_tell_124 rfl (lv_at hl 1 rfl) ?_
            refine lv_iload_n hx hb dX8_tell_125 rfl (lv_at hl 4 rfl) ?_
            refine nVN_V (As := [.int x1, .int r10, .int x2]) (rest := []) (wc := (tW cy atd Std)) (wr := ((oW cy aO (aB 0) e_O_images e_O_tape e_O_reader (aP 0) e_O_trial e_O_season e_O_dates e_O_line e_O_evening e_O_choices SO) ++ ((bW cy aB (als 0) (atd 0) e_B_mentions e_B_claims SB) ++ ((lsW cy als Sls) ++ ((pW cy aP (aJ 0) S5) ++ (jW cy aJ S6)))))) (isC := [24, 25, 26, 27]) (isR := [0, 1, 2, 3, 4, 5, 6, 7, 8, 9, 10, 11, 12, 13, 14, 15, 16, 17, 18, 19, 20, 21, 22, 23]) hc hw (c_X7_add hm) lk_X8_185 ⟨rfl, rfl, rfl, rfl, by decide⟩ rfl rfl ⟨Nat.le_of_ble_eq_true rfl, Nat.le_of_ble_eq_true rfl⟩ ⟨Nat.le_of_ble_eq_true rfl, Nat.le_of_ble_eq_true rfl⟩ hl.1 rfl (Nat.le_of_ble_eq_true rfl) rfl dX8_tell_126 (fun S23 H locs hm hw => ?_)
            have hw : wV D A s.heap ((oW cy aO (aB 0) e_O_images e_O_tape e_O_reader (aP 0) e_O_trial e_O_season e_O_dates e_O_line e_O_evening e_O_choices SO) ++ ((bW cy aB (als 0) (atd 0) e_B_mentions e_B_claims SB) ++ ((lsW cy als Sls) ++ ((pW cy aP (aJ 0) S5) ++ ((jW cy aJ S6) ++ (tW cy atd S23)))))) H locs := hw.perm [0, 1, 2, 3, 4, 5, 6, 7, 8, 9, 10, 11, 12, 13, 14, 15, 16, 17, 18, 19, 20, 21, 22, 23, 24, 25, 26, 27] rfl rfl
            refine lv_aload_n hx hb dX8_tell_129 rfl (lv_at hl 2 rfl) ?_
            refine lv_iload_n hx hb dX8_tell_130 rfl (lv_at hl 1 rfl) ?_
            refine nV_I (As := [.int r10]) (rest := []) (wc := (oW cy aO (aB 0) e_O_images e_O_tape e_O_reader (aP 0) e_O_trial e_O_season e_O_dates e_O_line e_O_evening e_O_choices SO)) (wr := ((bW cy aB (als 0) (atd 0) e_B_mentions e_B_claims SB) ++ ((lsW cy als Sls) ++ ((pW cy aP (aJ 0) S5) ++ ((jW cy aJ S6) ++ (tW cy atd S23)))))) (isC := [0, 1, 2]) (isR := [3, 4, 5, 6, 7, 8, 9, 10, 11, 12, 13, 14, 15, 16, 17, 18, 19, 20, 21, 22, 23, 24, 25, 26, 27]) hc hw (c_X8_accept hm) lk_X8_103 ⟨rfl, rfl, rfl, rfl, by decide⟩ rfl rfl ⟨Nat.le_of_ble_eq_true rfl, Nat.le_of_ble_eq_true rfl⟩ ⟨Nat.le_of_ble_eq_true rfl, Nat.le_of_ble_eq_true rfl⟩ hl.1 rfl (Nat.le_of_ble_eq_true rfl) rfl dX8_tell_131 (fun r25 S26 H locs hm hw => ?_)
            have hw : wV D A s.heap ((oW cy aO (aB 0) e_O_images e_O_tape e_O_reader (aP 0) e_O_trial e_O_season e_O_dates e_O_line e_O_evening e_O_choices S26) ++ ((bW cy aB (als 0) (atd 0) e_B_mentions e_B_claims SB) ++ ((lsW cy als Sls) ++ ((pW cy aP (aJ 0) S5) ++ ((jW cy aJ S6) ++ (tW cy atd S23)))))) H locs := hw.perm [25, 26, 27, 0, 1, 2, 3, 4, 5, 6, 7, 8, 9, 10, 11, 12, 13, 14, 15, 16, 17, 18, 19, 20, 21, 22, 23, 24] rfl rfl
            exact retI (u := (S26, S5, S6, S23)) hc hw hm dX8_tell_134
          · have hm := hm.2 c28
            exact hJ19 _ hm _ _ _ hw (lv_sub hl [2] rfl)
    · have hm := hm.2 c34
      refine lv_aload_n hx hb dX8_tell_28 rfl (lv_at hl 0 rfl) ?_
      refine lv_bipush (v := (-2)) hx hb dX8_tell_29 (by decide) ?_
      refine nV_I (As := [.int (-2)]) (rest := []) (wc := (oW cy aO (aB 0) e_O_images e_O_tape e_O_reader (aP 0) e_O_trial e_O_season e_O_dates e_O_line e_O_evening e_O_choices SO)) (wr := ((bW cy aB (als 0) (atd 0) e_B_mentions e_B_claims SB) ++ ((lsW cy als Sls) ++ ((pW cy aP (aJ 0) SP) ++ ((jW cy aJ SJ) ++ (tW cy atd Std)))))) (isC := [0, 1, 2]) (isR := [3, 4, 5, 6, 7, 8, 9, 10, 11, 12, 13, 14, 15, 16, 17, 18, 19, 20, 21, 22, 23, 24, 25, 26, 27]) hc hw (c_X8_refuse hm) lk_X8_89 ⟨rfl, rfl, rfl, rfl, by decide⟩ rfl rfl ⟨Nat.le_of_ble_eq_true rfl, Nat.le_of_ble_eq_true rfl⟩ ⟨Nat.le_of_ble_eq_true rfl, Nat.le_of_ble_eq_true rfl⟩ hl.1 rfl (Nat.le_of_ble_eq_true rfl) rfl dX8_tell_31 (fun r31 S32 H locs hm hw => ?_)
      have hw : wV D A s.heap ((oW cy aO (aB 0) e_O_images e_O_tape e_O_reader (aP 0) e_O_trial e_O_season e_O_dates e_O_line e_O_evening e_O_choices S32) ++ ((bW cy aB (als 0) (atd 0) e_B_mentions e_B_claims SB) ++ ((lsW cy als Sls) ++ ((pW cy aP (aJ 0) SP) ++ ((jW cy aJ SJ) ++ (tW cy atd Std)))))) H locs := hw.perm [25, 26, 27, 0, 1, 2, 3, 4, 5, 6, 7, 8, 9, 10, 11, 12, 13, 14, 15, 16, 17, 18, 19, 20, 21, 22, 23, 24] rfl rfl
      exact retI (u := (S32, SP, SJ, Std)) hc hw hm dX8_tell_34
  · have hm := hm.2 c38
    refine lv_aload_n hx hb dX8_tell_11 rfl (lv_at hl 0 rfl) ?_
    refine lv_iconst (v := (-1)) hx hb dX8_tell_12 (by decide) ?_
    refine nV_I (As := [.int (-1)]) (rest := []) (wc := (oW cy aO (aB 0) e_O_images e_O_tape e_O_reader (aP 0) e_O_trial e_O_season e_O_dates e_O_line e_O_evening e_O_choices SO)) (wr := ((bW cy aB (als 0) (atd 0) e_B_mentions e_B_claims SB) ++ ((lsW cy als Sls) ++ ((pW cy aP (aJ 0) SP) ++ ((jW cy aJ SJ) ++ (tW cy atd Std)))))) (isC := [0, 1, 2]) (isR := [3, 4, 5, 6, 7, 8, 9, 10, 11, 12, 13, 14, 15, 16, 17, 18, 19, 20, 21, 22, 23, 24, 25, 26, 27]) hc hw (c_X8_refuse hm) lk_X8_89 ⟨rfl, rfl, rfl, rfl, by decide⟩ rfl rfl ⟨Nat.le_of_ble_eq_true rfl, Nat.le_of_ble_eq_true rfl⟩ ⟨Nat.le_of_ble_eq_true rfl, Nat.le_of_ble_eq_true rfl⟩ hl.1 rfl (Nat.le_of_ble_eq_true rfl) rfl dX8_tell_13 (fun r35 S36 H locs hm hw => ?_)
    have hw : wV D A s.heap ((oW cy aO (aB 0) e_O_images e_O_tape e_O_reader (aP 0) e_O_trial e_O_season e_O_dates e_O_line e_O_evening e_O_choices S36) ++ ((bW cy aB (als 0) (atd 0) e_B_mentions e_B_claims SB) ++ ((lsW cy als Sls) ++ ((pW cy aP (aJ 0) SP) ++ ((jW cy aJ SJ) ++ (tW cy atd Std)))))) H locs := hw.perm [25, 26, 27, 0, 1, 2, 3, 4, 5, 6, 7, 8, 9, 10, 11, 12, 13, 14, 15, 16, 17, 18, 19, 20, 21, 22, 23, 24] rfl rfl
    exact retI (u := (S36, SP, SJ, Std)) hc hw hm dX8_tell_16
set_option maxHeartbeats 4000000 in
set_option maxRecDepth 100000 in
theorem c_X8_open {l : Launch} {D : va_G} {cy : Nat → ClassId} {aO : Nat → Nat} {aB : Nat → Nat} {als : Nat → Nat} {aP : Nat → Nat} {aJ : Nat → Nat} {atd : Nat → Nat} {aLw : Nat → Nat} {e_O_images : Nat} {e_O_tape : Nat} {e_O_reader : Nat} {e_O_trial : Option Nat} {e_O_season : Option Nat} {e_O_dates : Nat} {e_O_line : Nat} {e_O_evening : Nat} {e_O_choices : Nat} {e_B_mentions : Nat} {e_B_claims : Nat} {SO : Ob} {SB : Ob} {Sls : (Nat → Option Nat)} {SP : Ob} {SJ : Ob} {Std : Ob} {SLw : Lw} {Q : Int32 → Ob → Ob → Prop} (hm : w_X8_open aLw SO SB Sls SP SJ Std SLw Q) : CtI l yX8_open cX8_open 5 (some .int) (rmN 5) D cy [.ref (aO 0)] ((oW cy aO (aB 0) e_O_images e_O_tape e_O_reader (aP 0) e_O_trial e_O_season e_O_dates e_O_line e_O_evening e_O_choices SO) ++ ((bW cy aB (als 0) (atd 0) e_B_mentions e_B_claims SB) ++ ((lsW cy als Sls) ++ ((pW cy aP (aJ 0) SP) ++ ((jW cy aJ SJ) ++ ((tW cy atd Std) ++ (lwW cy aLw SLw))))))) (fun u : Ob × Ob => ((oW cy aO (aB 0) e_O_images e_O_tape e_O_reader (aP 0) e_O_trial e_O_season e_O_dates e_O_line e_O_evening e_O_choices SO) ++ ((bW cy aB (als 0) (atd 0) e_B_mentions e_B_claims SB) ++ ((lsW cy als Sls) ++ ((pW cy aP (aJ 0) u.1) ++ ((jW cy aJ u.2) ++ ((tW cy atd Std) ++ (lwW cy aLw SLw)))))))) (fun (r : Int32) (u : Ob × Ob) => Q r u.1 u.2) := by
  refine CtI.ofW (by decide) (Nat.le_of_ble_eq_true rfl) ?_
  intro p e s m args below meth c A ls hc hnm hw hl
  have hx := hc.1.1
  have hb := hc.1.2.1
  have hown := hc.1.2.2.2.1
  have hts := hc.1.2.2.2.2
  have hl : lv_has ls 5 [(0, .ref (aO 0))] := hl
  obtain ⟨H, hH⟩ : ∃ z, z = s.heap := ⟨_, rfl⟩
  obtain ⟨locs, hLc⟩ : ∃ z : List Loc, z = [] := ⟨_, rfl⟩
  have hw : wV D A s.heap ((oW cy aO (aB 0) e_O_images e_O_tape e_O_reader (aP 0) e_O_trial e_O_season e_O_dates e_O_line e_O_evening e_O_choices SO) ++ ((bW cy aB (als 0) (atd 0) e_B_mentions e_B_claims SB) ++ ((lsW cy als Sls) ++ ((pW cy aP (aJ 0) SP) ++ ((jW cy aJ SJ) ++ ((tW cy atd Std) ++ (lwW cy aLw SLw))))))) H locs := by rw [hH, hLc]; exact hw
  have hgo : W p l e (rmN 5) s m args below meth c H locs 0 0 (MQ below (eI D cy A (fun u : Ob × Ob => ((oW cy aO (aB 0) e_O_images e_O_tape e_O_reader (aP 0) e_O_trial e_O_season e_O_dates e_O_line e_O_evening e_O_choices SO) ++ ((bW cy aB (als 0) (atd 0) e_B_mentions e_B_claims SB) ++ ((lsW cy als Sls) ++ ((pW cy aP (aJ 0) u.1) ++ ((jW cy aJ u.2) ++ ((tW cy atd Std) ++ (lwW cy aLw SLw)))))))) (fun (r : Int32) (u : Ob × Ob) => Q r u.1 u.2)) args s (rmN 5).cells (rmN 5).slots A) (F0 m 0 ls []) := ?hgo
  · rw [hH, hLc] at hgo; exact hgo
  refine lv_aload_n hx hb dX8_open_0 rfl (lv_at hl 0 rfl) ?_
  refine gF (k := 8) hc hw inX8 rfl 0 rfl (by decide) (gm 423 (by decide +kernel) rfl) rfl dX8_open_1 ?_
  refine lv_aload_n hx hb dX8_open_4 rfl (lv_at hl 0 rfl) ?_
  refine gF (k := 0) hc hw inX8 rfl 0 rfl (by decide) (gm 415 (by decide +kernel) rfl) rfl dX8_open_5 ?_
  refine nVN_V (As := [.ref (aB 0)]) (rest := []) (wc := ((pW cy aP (aJ 0) SP) ++ ((jW cy aJ SJ) ++ ((bW cy aB (als 0) (atd 0) e_B_mentions e_B_claims SB) ++ ((lsW cy als Sls) ++ (lwW cy aLw SLw)))))) (wr := ((oW cy aO (aB 0) e_O_images e_O_tape e_O_reader (aP 0) e_O_trial e_O_season e_O_dates e_O_line e_O_evening e_O_choices SO) ++ (tW cy atd Std))) (isC := [10, 11, 12, 13, 14, 15, 16, 17, 18, 19, 20, 21, 22, 23, 3, 4, 5, 6, 7, 8, 9, 28, 29, 30, 31, 32]) (isR := [0, 1, 2, 24, 25, 26, 27]) hc hw (c_X3_weigh hm) lk_X8_124 ⟨rfl, rfl, rfl, rfl, by decide⟩ rfl rfl ⟨Nat.le_of_ble_eq_true rfl, Nat.le_of_ble_eq_true rfl⟩ ⟨Nat.le_of_ble_eq_true rfl, Nat.le_of_ble_eq_true rfl⟩ hl.1 rfl (Nat.le_of_ble_eq_true rfl) rfl dX8_open_8 (fun u_2 H locs hm hw => ?_)
  obtain ⟨S1, S2⟩ := u_2
  have hw : wV D A s.heap ((oW cy aO (aB 0) e_O_images e_O_tape e_O_reader (aP 0) e_O_trial e_O_season e_O_dates e_O_line e_O_evening e_O_choices SO) ++ ((bW cy aB (als 0) (atd 0) e_B_mentions e_B_claims SB) ++ ((lsW cy als Sls) ++ ((pW cy aP (aJ 0) S1) ++ ((jW cy aJ S2) ++ ((tW cy atd Std) ++ (lwW cy aLw SLw))))))) H locs := hw.perm [0, 1, 2, 21, 22, 23, 24, 25, 26, 27, 7, 8, 9, 10, 11, 12, 13, 14, 15, 16, 17, 18, 19, 20, 3, 4, 5, 6, 28, 29, 30, 31, 32] rfl rfl
  refine lv_aload_n hx hb dX8_open_11 rfl (lv_at hl 0 rfl) ?_
  refine gF (k := 0) hc hw inX8 rfl 0 rfl (by decide) (gm 415 (by decide +kernel) rfl) rfl dX8_open_12 ?_
  refine nVN_I (As := []) (rest := []) (wc := ((bW cy aB (als 0) (atd 0) e_B_mentions e_B_claims SB) ++ (tW cy atd Std))) (wr := ((oW cy aO (aB 0) e_O_images e_O_tape e_O_reader (aP 0) e_O_trial e_O_season e_O_dates e_O_line e_O_evening e_O_choices SO) ++ ((lsW cy als Sls) ++ ((pW cy aP (aJ 0) S1) ++ ((jW cy aJ S2) ++ (lwW cy aLw SLw)))))) (isC := [3, 4, 5, 6, 7, 8, 24, 25, 26, 27]) (isR := [0, 1, 2, 9, 10, 11, 12, 13, 14, 15, 16, 17, 18, 19, 20, 21, 22, 23, 28, 29, 30, 31, 32]) hc hw (c_X6_untold hm) lk_X8_194 ⟨rfl, rfl, rfl, rfl, by decide⟩ rfl rfl ⟨Nat.le_of_ble_eq_true rfl, Nat.le_of_ble_eq_true rfl⟩ ⟨Nat.le_of_ble_eq_true rfl, Nat.le_of_ble_eq_true rfl⟩ hl.1 rfl (Nat.le_of_ble_eq_true rfl) rfl dX8_open_15 (fun r4 _ H locs hm hw => ?_)
  have hw : wV D A s.heap ((oW cy aO (aB 0) e_O_images e_O_tape e_O_reader (aP 0) e_O_trial e_O_season e_O_dates e_O_line e_O_evening e_O_choices SO) ++ ((bW cy aB (als 0) (atd 0) e_B_mentions e_B_claims SB) ++ ((lsW cy als Sls) ++ ((pW cy aP (aJ 0) S1) ++ ((jW cy aJ S2) ++ ((tW cy atd Std) ++ (lwW cy aLw SLw))))))) H locs := hw.perm [0, 1, 2, 23, 24, 25, 26, 27, 28, 3, 4, 5, 6, 7, 8, 9, 10, 11, 12, 13, 14, 15, 16, 17, 29, 30, 31, 32, 18, 19, 20, 21, 22] rfl rfl
  refine lv_istore_n (lv' := [(1, .int r4), (0, .ref (aO 0))]) hx hb dX8_open_18 rfl hl (by decide) rfl (fun ls hl => ?_)
  refine lv_iconst (v := 0) hx hb dX8_open_19 (by decide) ?_
  refine lv_istore_n (lv' := [(2, .int 0), (1, .int r4), (0, .ref (aO 0))]) hx hb dX8_open_20 rfl hl (by decide) rfl (fun ls hl => ?_)
  refine lv_iconst (v := 0) hx hb dX8_open_21 (by decide) ?_
  refine lv_istore_n (lv' := [(3, .int 0), (2, .int 0), (1, .int r4), (0, .ref (aO 0))]) hx hb dX8_open_22 rfl hl (by decide) rfl (fun ls hl => ?_)
  refine wl2_ind (G := fun (x3_6 : Int32) (x2_7 : Int32) => ∀ (H : Heap) (locs : List Loc) (ls : Array Slot), wV D A s.heap ((oW cy aO (aB 0) e_O_images e_O_tape e_O_reader (aP 0) e_O_trial e_O_season e_O_dates e_O_line e_O_evening e_O_choices SO) ++ ((bW cy aB (als 0) (atd 0) e_B_mentions e_B_claims SB) ++ ((lsW cy als Sls) ++ ((pW cy aP (aJ 0) S1) ++ ((jW cy aJ S2) ++ ((tW cy atd Std) ++ (lwW cy aLw SLw))))))) H locs → lv_has ls 5 [(3, .int x3_6), (2, .int x2_7), (1, .int r4), (0, .ref (aO 0))] → W p l e (rmN 5) s m args below meth c H locs 0 0 (MQ below (eI D cy A (fun u : Ob × Ob => ((oW cy aO (aB 0) e_O_images e_O_tape e_O_reader (aP 0) e_O_trial e_O_season e_O_dates e_O_line e_O_evening e_O_choices SO) ++ ((bW cy aB (als 0) (atd 0) e_B_mentions e_B_claims SB) ++ ((lsW cy als Sls) ++ ((pW cy aP (aJ 0) u.1) ++ ((jW cy aJ u.2) ++ ((tW cy atd Std) ++ (lwW cy aLw SLw)))))))) (fun (r : Int32) (u : Ob × Ob) => Q r u.1 u.2)) args s (rmN 5).cells (rmN 5).slots A) (F0 m 23 ls [])) ?_ _ _ hm H locs ls hw (lv_sub hl [0, 1, 2, 3] rfl)
  intro L8 ih8 x3_6 x2_7 hm H locs ls hw hl
  refine lv_iload_n hx hb dX8_open_23 rfl (lv_at hl 0 rfl) ?_
  refine lv_aload_n hx hb dX8_open_24 rfl (lv_at hl 3 rfl) ?_
  refine gF (k := 0) hc hw inX8 rfl 0 rfl (by decide) (gm 415 (by decide +kernel) rfl) rfl dX8_open_25 ?_
  refine gN (k := 4) (host := "OlderTale") hc hw inX6 rfl 3 rfl (by decide) (nmm 212 (by decide +kernel)) rfl dX8_open_28 ?_
  refine lv_icmp_ge (tgt := 105) hx hb dX8_open_31 (by decide) (fun c29 => ?_) (fun c29 => ?_)
  · have hm := hm.1 c29
    refine lv_iload_n hx hb dX8_open_105 rfl (lv_at hl 1 rfl) ?_
    exact retI (u := (S1, S2)) hc hw hm dX8_open_106
  · have hm := hm.2 c29
    refine lv_aload_n hx hb dX8_open_34 rfl (lv_at hl 3 rfl) ?_
    refine gF (k := 8) hc hw inX8 rfl 0 rfl (by decide) (gm 423 (by decide +kernel) rfl) rfl dX8_open_35 ?_
    refine lv_iload_n hx hb dX8_open_38 rfl (lv_at hl 0 rfl) ?_
    refine lv_aload_n hx hb dX8_open_39 rfl (lv_at hl 3 rfl) ?_
    refine gF (k := 0) hc hw inX8 rfl 0 rfl (by decide) (gm 415 (by decide +kernel) rfl) rfl dX8_open_40 ?_
    refine nVN_I (As := []) (rest := [.int x3_6, .ref (aP 0)]) (wc := ((bW cy aB (als 0) (atd 0) e_B_mentions e_B_claims SB) ++ (tW cy atd Std))) (wr := ((oW cy aO (aB 0) e_O_images e_O_tape e_O_reader (aP 0) e_O_trial e_O_season e_O_dates e_O_line e_O_evening e_O_choices SO) ++ ((lsW cy als Sls) ++ ((pW cy aP (aJ 0) S1) ++ ((jW cy aJ S2) ++ (lwW cy aLw SLw)))))) (isC := [3, 4, 5, 6, 7, 8, 24, 25, 26, 27]) (isR := [0, 1, 2, 9, 10, 11, 12, 13, 14, 15, 16, 17, 18, 19, 20, 21, 22, 23, 28, 29, 30, 31, 32]) hc hw (c_X6_lastYear hm) lk_X8_165 ⟨rfl, rfl, rfl, rfl, by decide⟩ rfl rfl ⟨Nat.le_of_ble_eq_true rfl, Nat.le_of_ble_eq_true rfl⟩ ⟨Nat.le_of_ble_eq_true rfl, Nat.le_of_ble_eq_true rfl⟩ hl.1 rfl (Nat.le_of_ble_eq_true rfl) rfl dX8_open_43 (fun r9 _ H locs hm hw => ?_)
    have hw : wV D A s.heap ((oW cy aO (aB 0) e_O_images e_O_tape e_O_reader (aP 0) e_O_trial e_O_season e_O_dates e_O_line e_O_evening e_O_choices SO) ++ ((bW cy aB (als 0) (atd 0) e_B_mentions e_B_claims SB) ++ ((lsW cy als Sls) ++ ((pW cy aP (aJ 0) S1) ++ ((jW cy aJ S2) ++ ((tW cy atd Std) ++ (lwW cy aLw SLw))))))) H locs := hw.perm [0, 1, 2, 23, 24, 25, 26, 27, 28, 3, 4, 5, 6, 7, 8, 9, 10, 11, 12, 13, 14, 15, 16, 17, 29, 30, 31, 32, 18, 19, 20, 21, 22] rfl rfl
    refine nVN_I (As := [.int x3_6, .int r9]) (rest := []) (wc := (pW cy aP (aJ 0) S1)) (wr := ((oW cy aO (aB 0) e_O_images e_O_tape e_O_reader (aP 0) e_O_trial e_O_season e_O_dates e_O_line e_O_evening e_O_choices SO) ++ ((bW cy aB (als 0) (atd 0) e_B_mentions e_B_claims SB) ++ ((lsW cy als Sls) ++ ((jW cy aJ S2) ++ ((tW cy atd Std) ++ (lwW cy aLw SLw))))))) (isC := [10, 11, 12, 13, 14, 15, 16, 17, 18, 19, 20]) (isR := [0, 1, 2, 3, 4, 5, 6, 7, 8, 9, 21, 22, 23, 24, 25, 26, 27, 28, 29, 30, 31, 32]) hc hw (c_X3_yearOf hm) lk_X8_169 ⟨rfl, rfl, rfl, rfl, by decide⟩ rfl rfl ⟨Nat.le_of_ble_eq_true rfl, Nat.le_of_ble_eq_true rfl⟩ ⟨Nat.le_of_ble_eq_true rfl, Nat.le_of_ble_eq_true rfl⟩ hl.1 rfl (Nat.le_of_ble_eq_true rfl) rfl dX8_open_46 (fun r11 _ H locs hm hw => ?_)
    have hw : wV D A s.heap ((oW cy aO (aB 0) e_O_images e_O_tape e_O_reader (aP 0) e_O_trial e_O_season e_O_dates e_O_line e_O_evening e_O_choices SO) ++ ((bW cy aB (als 0) (atd 0) e_B_mentions e_B_claims SB) ++ ((lsW cy als Sls) ++ ((pW cy aP (aJ 0) S1) ++ ((jW cy aJ S2) ++ ((tW cy atd Std) ++ (lwW cy aLw SLw))))))) H locs := hw.perm [0, 1, 2, 3, 4, 5, 6, 7, 8, 9, 22, 23, 24, 25, 26, 27, 28, 29, 30, 31, 32, 10, 11, 12, 13, 14, 15, 16, 17, 18, 19, 20, 21] rfl rfl
    refine lv_iconst (v := (-1)) hx hb dX8_open_49 (by decide) ?_
    obtain ⟨J14, eJ14, hm⟩ := jn_e hm
    have hJ14 : ∀ (t13 : Int32) (_ : J14 t13) (H : Heap) (locs : List Loc) (ls : Array Slot), wV D A s.heap ((oW cy aO (aB 0) e_O_images e_O_tape e_O_reader (aP 0) e_O_trial e_O_season e_O_dates e_O_line e_O_evening e_O_choices SO) ++ ((bW cy aB (als 0) (atd 0) e_B_mentions e_B_claims SB) ++ ((lsW cy als Sls) ++ ((pW cy aP (aJ 0) S1) ++ ((jW cy aJ S2) ++ ((tW cy atd Std) ++ (lwW cy aLw SLw))))))) H locs → lv_has ls 5 [(0, .ref (aO 0)), (1, .int r4), (2, .int x2_7), (3, .int x3_6)] → W p l e (rmN 5) s m args below meth c H locs 0 0 (MQ below (eI D cy A (fun u : Ob × Ob => ((oW cy aO (aB 0) e_O_images e_O_tape e_O_reader (aP 0) e_O_trial e_O_season e_O_dates e_O_line e_O_evening e_O_choices SO) ++ ((bW cy aB (als 0) (atd 0) e_B_mentions e_B_claims SB) ++ ((lsW cy als Sls) ++ ((pW cy aP (aJ 0) u.1) ++ ((jW cy aJ u.2) ++ ((tW cy atd Std) ++ (lwW cy aLw SLw)))))))) (fun (r : Int32) (u : Ob × Ob) => Q r u.1 u.2)) args s (rmN 5).cells (rmN 5).slots A) (F0 m 78 ls [.int t13]) := by
      intro t13 hm H locs ls hw hl
      rw [eJ14] at hm
      refine lv_istore (lv' := [(4, .int t13), (0, .ref (aO 0)), (1, .int r4), (2, .int x2_7), (3, .int x3_6)]) hx hb dX8_open_78 hl (by decide) rfl (fun ls hl => ?_)
      refine lv_iload hx hb dX8_open_80 (lv_at hl 0 rfl) ?_
      refine lv_if_eq (tgt := 99) hx hb dX8_open_82 (by decide) (fun c20 => ?_) (fun c20 => ?_)
      · have hm := hm.1 c20
        obtain ⟨v15, e_v15⟩ : ∃ z : Int32, z = x3_6 + 1 := ⟨_, rfl⟩
        have hm := hm v15 e_v15
        refine lv_iinc (v := v15) (lv' := [(3, .int v15), (4, .int t13), (0, .ref (aO 0)), (1, .int r4), (2, .int x2_7)]) hx hb dX8_open_99 hl (k := 4) rfl (by rw [e_v15]; rfl) (by decide) rfl (fun ls hl => ?_)
        refine lv_goto (tgt := 23) hx hb dX8_open_102 (by decide) ?_
        exact ih8 _ _ hm _ _ _ hw (lv_sub hl [0, 4, 3, 2] rfl)
      · have hm := hm.2 c20
        refine lv_iload_n hx hb dX8_open_85 rfl (lv_at hl 2 rfl) ?_
        refine lv_iload_n hx hb dX8_open_86 rfl (lv_at hl 4 rfl) ?_
        refine lv_ishr hx hb dX8_open_87 ?_
        refine lv_iconst (v := 1) hx hb dX8_open_88 (by decide) ?_
        refine lv_iand hx hb dX8_open_89 ?_
        refine lv_if_eq (tgt := 99) hx hb dX8_open_90 (by decide) (fun c19 => ?_) (fun c19 => ?_)
        · have hm := hm.1 c19
          obtain ⟨v16, e_v16⟩ : ∃ z : Int32, z = x3_6 + 1 := ⟨_, rfl⟩
          have hm := hm v16 e_v16
          refine lv_iinc (v := v16) (lv' := [(3, .int v16), (4, .int t13), (0, .ref (aO 0)), (1, .int r4), (2, .int x2_7)]) hx hb dX8_open_99 hl (k := 4) rfl (by rw [e_v16]; rfl) (by decide) rfl (fun ls hl => ?_)
          refine lv_goto (tgt := 23) hx hb dX8_open_102 (by decide) ?_
          exact ih8 _ _ hm _ _ _ hw (lv_sub hl [0, 4, 3, 2] rfl)
        · have hm := hm.2 c19
          refine lv_iload_n hx hb dX8_open_93 rfl (lv_at hl 3 rfl) ?_
          refine lv_iconst (v := 1) hx hb dX8_open_94 (by decide) ?_
          refine lv_iload_n hx hb dX8_open_95 rfl (lv_at hl 4 rfl) ?_
          refine lv_ishl hx hb dX8_open_96 ?_
          refine lv_ior hx hb dX8_open_97 ?_
          refine lv_topi (fun v17 e_v17 => ?_)
          have hm := hm v17 e_v17
          refine lv_istore_n (lv' := [(2, .int v17), (4, .int t13), (0, .ref (aO 0)), (1, .int r4), (3, .int x3_6)]) hx hb dX8_open_98 rfl hl (by decide) rfl (fun ls hl => ?_)
          obtain ⟨v18, e_v18⟩ : ∃ z : Int32, z = x3_6 + 1 := ⟨_, rfl⟩
          have hm := hm v18 e_v18
          refine lv_iinc (v := v18) (lv' := [(3, .int v18), (2, .int v17), (4, .int t13), (0, .ref (aO 0)), (1, .int r4)]) hx hb dX8_open_99 hl (k := 4) rfl (by rw [e_v18]; rfl) (by decide) rfl (fun ls hl => ?_)
          refine lv_goto (tgt := 23) hx hb dX8_open_102 (by decide) ?_
          exact ih8 _ _ hm _ _ _ hw (lv_sub hl [0, 1, 4, 3] rfl)
    obtain ⟨J22, eJ22, hm⟩ := jn_e hm
    have hJ22 : ∀ (z21 : Unit) (_ : J22 z21) (H : Heap) (locs : List Loc) (ls : Array Slot), wV D A s.heap ((oW cy aO (aB 0) e_O_images e_O_tape e_O_reader (aP 0) e_O_trial e_O_season e_O_dates e_O_line e_O_evening e_O_choices SO) ++ ((bW cy aB (als 0) (atd 0) e_B_mentions e_B_claims SB) ++ ((lsW cy als Sls) ++ ((pW cy aP (aJ 0) S1) ++ ((jW cy aJ S2) ++ ((tW cy atd Std) ++ (lwW cy aLw SLw))))))) H locs → lv_has ls 5 [(0, .ref (aO 0)), (1, .int r4), (2, .int x2_7), (3, .int x3_6)] → W p l e (rmN 5) s m args below meth c H locs 0 0 (MQ below (eI D cy A (fun u : Ob × Ob => ((oW cy aO (aB 0) e_O_images e_O_tape e_O_reader (aP 0) e_O_trial e_O_season e_O_dates e_O_line e_O_evening e_O_choices SO) ++ ((bW cy aB (als 0) (atd 0) e_B_mentions e_B_claims SB) ++ ((lsW cy als Sls) ++ ((pW cy aP (aJ 0) u.1) ++ ((jW cy aJ u.2) ++ ((tW cy atd Std) ++ (lwW cy aLw SLw)))))))) (fun (r : Int32) (u : Ob × Ob) => Q r u.1 u.2)) args s (rmN 5).cells (rmN 5).slots A) (F0 m 77 ls []) := by
      intro z21 hm H locs ls hw hl
      rw [eJ22] at hm
      refine lv_iconst (v := 0) hx hb dX8_open_77 (by decide) ?_
      exact hJ14 _ hm _ _ _ hw (lv_sub hl [0, 1, 2, 3] rfl)
    refine lv_icmp_eq (tgt := 77) hx hb dX8_open_50 (by decide) (fun c28 => ?_) (fun c28 => ?_)
    · have hm := hm.1 c28
      exact hJ22 _ hm _ _ _ hw (lv_sub hl [3, 2, 1, 0] rfl)
    · have hm := hm.2 c28
      refine lv_aload_n hx hb dX8_open_53 rfl (lv_at hl 3 rfl) ?_
      refine gF (k := 8) hc hw inX8 rfl 0 rfl (by decide) (gm 423 (by decide +kernel) rfl) rfl dX8_open_54 ?_
      refine lv_iload_n hx hb dX8_open_57 rfl (lv_at hl 0 rfl) ?_
      refine lv_iconst (v := 1) hx hb dX8_open_58 (by decide) ?_
      refine lv_aload_n hx hb dX8_open_59 rfl (lv_at hl 3 rfl) ?_
      refine gF (k := 0) hc hw inX8 rfl 0 rfl (by decide) (gm 415 (by decide +kernel) rfl) rfl dX8_open_60 ?_
      refine nVN_I (As := []) (rest := [.int 1, .int x3_6, .ref (aP 0)]) (wc := ((bW cy aB (als 0) (atd 0) e_B_mentions e_B_claims SB) ++ (tW cy atd Std))) (wr := ((oW cy aO (aB 0) e_O_images e_O_tape e_O_reader (aP 0) e_O_trial e_O_season e_O_dates e_O_line e_O_evening e_O_choices SO) ++ ((lsW cy als Sls) ++ ((pW cy aP (aJ 0) S1) ++ ((jW cy aJ S2) ++ (lwW cy aLw SLw)))))) (isC := [3, 4, 5, 6, 7, 8, 24, 25, 26, 27]) (isR := [0, 1, 2, 9, 10, 11, 12, 13, 14, 15, 16, 17, 18, 19, 20, 21, 22, 23, 28, 29, 30, 31, 32]) hc hw (c_X6_lastTeller hm) lk_X8_173 ⟨rfl, rfl, rfl, rfl, by decide⟩ rfl rfl ⟨Nat.le_of_ble_eq_true rfl, Nat.le_of_ble_eq_true rfl⟩ ⟨Nat.le_of_ble_eq_true rfl, Nat.le_of_ble_eq_true rfl⟩ hl.1 rfl (Nat.le_of_ble_eq_true rfl) rfl dX8_open_63 (fun r23 _ H locs hm hw => ?_)
      have hw : wV D A s.heap ((oW cy aO (aB 0) e_O_images e_O_tape e_O_reader (aP 0) e_O_trial e_O_season e_O_dates e_O_line e_O_evening e_O_choices SO) ++ ((bW cy aB (als 0) (atd 0) e_B_mentions e_B_claims SB) ++ ((lsW cy als Sls) ++ ((pW cy aP (aJ 0) S1) ++ ((jW cy aJ S2) ++ ((tW cy atd Std) ++ (lwW cy aLw SLw))))))) H locs := hw.perm [0, 1, 2, 23, 24, 25, 26, 27, 28, 3, 4, 5, 6, 7, 8, 9, 10, 11, 12, 13, 14, 15, 16, 17, 29, 30, 31, 32, 18, 19, 20, 21, 22] rfl rfl
      refine lv_ishl hx hb dX8_open_66 ?_
      refine nVN_I (As := [.int x3_6, .int ((1 : Int32) <<< (r23 &&& 31))]) (rest := []) (wc := (pW cy aP (aJ 0) S1)) (wr := ((oW cy aO (aB 0) e_O_images e_O_tape e_O_reader (aP 0) e_O_trial e_O_season e_O_dates e_O_line e_O_evening e_O_choices SO) ++ ((bW cy aB (als 0) (atd 0) e_B_mentions e_B_claims SB) ++ ((lsW cy als Sls) ++ ((jW cy aJ S2) ++ ((tW cy atd Std) ++ (lwW cy aLw SLw))))))) (isC := [10, 11, 12, 13, 14, 15, 16, 17, 18, 19, 20]) (isR := [0, 1, 2, 3, 4, 5, 6, 7, 8, 9, 21, 22, 23, 24, 25, 26, 27, 28, 29, 30, 31, 32]) hc hw (c_X3_followers hm) lk_X8_176 ⟨rfl, rfl, rfl, rfl, by decide⟩ rfl rfl ⟨Nat.le_of_ble_eq_true rfl, Nat.le_of_ble_eq_true rfl⟩ ⟨Nat.le_of_ble_eq_true rfl, Nat.le_of_ble_eq_true rfl⟩ hl.1 rfl (Nat.le_of_ble_eq_true rfl) rfl dX8_open_67 (fun r25 _ H locs hm hw => ?_)
      have hw : wV D A s.heap ((oW cy aO (aB 0) e_O_images e_O_tape e_O_reader (aP 0) e_O_trial e_O_season e_O_dates e_O_line e_O_evening e_O_choices SO) ++ ((bW cy aB (als 0) (atd 0) e_B_mentions e_B_claims SB) ++ ((lsW cy als Sls) ++ ((pW cy aP (aJ 0) S1) ++ ((jW cy aJ S2) ++ ((tW cy atd Std) ++ (lwW cy aLw SLw))))))) H locs := hw.perm [0, 1, 2, 3, 4, 5, 6, 7, 8, 9, 22, 23, 24, 25, 26, 27, 28, 29, 30, 31, 32, 10, 11, 12, 13, 14, 15, 16, 17, 18, 19, 20, 21] rfl rfl
      refine lv_if_eq (tgt := 77) hx hb dX8_open_70 (by decide) (fun c27 => ?_) (fun c27 => ?_)
      · have hm := hm.1 c27
        exact hJ22 _ hm _ _ _ hw (lv_sub hl [3, 2, 1, 0] rfl)
      · have hm := hm.2 c27
        refine lv_iconst (v := 1) hx hb dX8_open_73 (by decide) ?_
        refine lv_goto (tgt := 78) hx hb dX8_open_74 (by decide) ?_
        exact hJ14 _ hm _ _ _ hw (lv_sub hl [3, 2, 1, 0] rfl)
set_option maxHeartbeats 4000000 in
set_option maxRecDepth 100000 in
theorem c_X8_openN {l : Launch} {D : va_G} {cy : Nat → ClassId} {aO : Nat → Nat} {aB : Nat → Nat} {als : Nat → Nat} {aP : Nat → Nat} {aJ : Nat → Nat} {atd : Nat → Nat} {e_O_images : Nat} {e_O_tape : Nat} {e_O_reader : Nat} {e_O_trial : Option Nat} {e_O_season : Option Nat} {e_O_dates : Nat} {e_O_line : Nat} {e_O_evening : Nat} {e_O_choices : Nat} {e_B_mentions : Nat} {e_B_claims : Nat} {SO : Ob} {SB : Ob} {Sls : (Nat → Option Nat)} {SP : Ob} {SJ : Ob} {Std : Ob} {Q : Int32 → Ob → Ob → Prop} (hm : w_X8_openN SO SB Sls SP SJ Std Q) : CtI l yX8_open cX8_open 5 (some .int) (rmN 5) D cy [.ref (aO 0)] ((oW cy aO (aB 0) e_O_images e_O_tape e_O_reader (aP 0) e_O_trial e_O_season e_O_dates e_O_line e_O_evening e_O_choices SO) ++ ((bW cy aB (als 0) (atd 0) e_B_mentions e_B_claims SB) ++ ((lsW cy als Sls) ++ ((pW cy aP (aJ 0) SP) ++ ((jW cy aJ SJ) ++ (tW cy atd Std)))))) (fun u : Ob × Ob => ((oW cy aO (aB 0) e_O_images e_O_tape e_O_reader (aP 0) e_O_trial e_O_season e_O_dates e_O_line e_O_evening e_O_choices SO) ++ ((bW cy aB (als 0) (atd 0) e_B_mentions e_B_claims SB) ++ ((lsW cy als Sls) ++ ((pW cy aP (aJ 0) u.1) ++ ((jW cy aJ u.2) ++ (tW cy atd Std))))))) (fun (r : Int32) (u : Ob × Ob) => Q r u.1 u.2) := by
  refine CtI.ofW (by decide) (Nat.le_of_ble_eq_true rfl) ?_
  intro p e s m args below meth c A ls hc hnm hw hl
  have hx := hc.1.1
  have hb := hc.1.2.1
  have hown := hc.1.2.2.2.1
  have hts := hc.1.2.2.2.2
  have hl : lv_has ls 5 [(0, .ref (aO 0))] := hl
  obtain ⟨H, hH⟩ : ∃ z, z = s.heap := ⟨_, rfl⟩
  obtain ⟨locs, hLc⟩ : ∃ z : List Loc, z = [] := ⟨_, rfl⟩
  have hw : wV D A s.heap ((oW cy aO (aB 0) e_O_images e_O_tape e_O_reader (aP 0) e_O_trial e_O_season e_O_dates e_O_line e_O_evening e_O_choices SO) ++ ((bW cy aB (als 0) (atd 0) e_B_mentions e_B_claims SB) ++ ((lsW cy als Sls) ++ ((pW cy aP (aJ 0) SP) ++ ((jW cy aJ SJ) ++ (tW cy atd Std)))))) H locs := by rw [hH, hLc]; exact hw
  have hgo : W p l e (rmN 5) s m args below meth c H locs 0 0 (MQ below (eI D cy A (fun u : Ob × Ob => ((oW cy aO (aB 0) e_O_images e_O_tape e_O_reader (aP 0) e_O_trial e_O_season e_O_dates e_O_line e_O_evening e_O_choices SO) ++ ((bW cy aB (als 0) (atd 0) e_B_mentions e_B_claims SB) ++ ((lsW cy als Sls) ++ ((pW cy aP (aJ 0) u.1) ++ ((jW cy aJ u.2) ++ (tW cy atd Std))))))) (fun (r : Int32) (u : Ob × Ob) => Q r u.1 u.2)) args s (rmN 5).cells (rmN 5).slots A) (F0 m 0 ls []) := ?hgo
  · rw [hH, hLc] at hgo; exact hgo
  refine lv_aload_n hx hb dX8_open_0 rfl (lv_at hl 0 rfl) ?_
  refine gF (k := 8) hc hw inX8 rfl 0 rfl (by decide) (gm 423 (by decide +kernel) rfl) rfl dX8_open_1 ?_
  refine lv_aload_n hx hb dX8_open_4 rfl (lv_at hl 0 rfl) ?_
  refine gF (k := 0) hc hw inX8 rfl 0 rfl (by decide) (gm 415 (by decide +kernel) rfl) rfl dX8_open_5 ?_
  refine nVN_V (As := [.ref (aB 0)]) (rest := []) (wc := ((pW cy aP (aJ 0) SP) ++ ((jW cy aJ SJ) ++ ((bW cy aB (als 0) (atd 0) e_B_mentions e_B_claims SB) ++ (lsW cy als Sls))))) (wr := ((oW cy aO (aB 0) e_O_images e_O_tape e_O_reader (aP 0) e_O_trial e_O_season e_O_dates e_O_line e_O_evening e_O_choices SO) ++ (tW cy atd Std))) (isC := [10, 11, 12, 13, 14, 15, 16, 17, 18, 19, 20, 21, 22, 23, 3, 4, 5, 6, 7, 8, 9]) (isR := [0, 1, 2, 24, 25, 26, 27]) hc hw (c_X3_weighN hm) lk_X8_124 ⟨rfl, rfl, rfl, rfl, by decide⟩ rfl rfl ⟨Nat.le_of_ble_eq_true rfl, Nat.le_of_ble_eq_true rfl⟩ ⟨Nat.le_of_ble_eq_true rfl, Nat.le_of_ble_eq_true rfl⟩ hl.1 rfl (Nat.le_of_ble_eq_true rfl) rfl dX8_open_8 (fun u_2 H locs hm hw => ?_)
  obtain ⟨S1, S2⟩ := u_2
  have hw : wV D A s.heap ((oW cy aO (aB 0) e_O_images e_O_tape e_O_reader (aP 0) e_O_trial e_O_season e_O_dates e_O_line e_O_evening e_O_choices SO) ++ ((bW cy aB (als 0) (atd 0) e_B_mentions e_B_claims SB) ++ ((lsW cy als Sls) ++ ((pW cy aP (aJ 0) S1) ++ ((jW cy aJ S2) ++ (tW cy atd Std)))))) H locs := hw.perm [0, 1, 2, 21, 22, 23, 24, 25, 26, 27, 7, 8, 9, 10, 11, 12, 13, 14, 15, 16, 17, 18, 19, 20, 3, 4, 5, 6] rfl rfl
  refine lv_aload_n hx hb dX8_open_11 rfl (lv_at hl 0 rfl) ?_
  refine gF (k := 0) hc hw inX8 rfl 0 rfl (by decide) (gm 415 (by decide +kernel) rfl) rfl dX8_open_12 ?_
  refine nVN_I (As := []) (rest := []) (wc := ((bW cy aB (als 0) (atd 0) e_B_mentions e_B_claims SB) ++ (tW cy atd Std))) (wr := ((oW cy aO (aB 0) e_O_images e_O_tape e_O_reader (aP 0) e_O_trial e_O_season e_O_dates e_O_line e_O_evening e_O_choices SO) ++ ((lsW cy als Sls) ++ ((pW cy aP (aJ 0) S1) ++ (jW cy aJ S2))))) (isC := [3, 4, 5, 6, 7, 8, 24, 25, 26, 27]) (isR := [0, 1, 2, 9, 10, 11, 12, 13, 14, 15, 16, 17, 18, 19, 20, 21, 22, 23]) hc hw (c_X6_untold hm) lk_X8_194 ⟨rfl, rfl, rfl, rfl, by decide⟩ rfl rfl ⟨Nat.le_of_ble_eq_true rfl, Nat.le_of_ble_eq_true rfl⟩ ⟨Nat.le_of_ble_eq_true rfl, Nat.le_of_ble_eq_true rfl⟩ hl.1 rfl (Nat.le_of_ble_eq_true rfl) rfl dX8_open_15 (fun r4 _ H locs hm hw => ?_)
  have hw : wV D A s.heap ((oW cy aO (aB 0) e_O_images e_O_tape e_O_reader (aP 0) e_O_trial e_O_season e_O_dates e_O_line e_O_evening e_O_choices SO) ++ ((bW cy aB (als 0) (atd 0) e_B_mentions e_B_claims SB) ++ ((lsW cy als Sls) ++ ((pW cy aP (aJ 0) S1) ++ ((jW cy aJ S2) ++ (tW cy atd Std)))))) H locs := hw.perm [0, 1, 2, 18, 19, 20, 21, 22, 23, 3, 4, 5, 6, 7, 8, 9, 10, 11, 12, 13, 14, 15, 16, 17, 24, 25, 26, 27] rfl rfl
  refine lv_istore_n (lv' := [(1, .int r4), (0, .ref (aO 0))]) hx hb dX8_open_18 rfl hl (by decide) rfl (fun ls hl => ?_)
  refine lv_iconst (v := 0) hx hb dX8_open_19 (by decide) ?_
  refine lv_istore_n (lv' := [(2, .int 0), (1, .int r4), (0, .ref (aO 0))]) hx hb dX8_open_20 rfl hl (by decide) rfl (fun ls hl => ?_)
  refine lv_iconst (v := 0) hx hb dX8_open_21 (by decide) ?_
  refine lv_istore_n (lv' := [(3, .int 0), (2, .int 0), (1, .int r4), (0, .ref (aO 0))]) hx hb dX8_open_22 rfl hl (by decide) rfl (fun ls hl => ?_)
  refine wl2_ind (G := fun (x3_6 : Int32) (x2_7 : Int32) => ∀ (H : Heap) (locs : List Loc) (ls : Array Slot), wV D A s.heap ((oW cy aO (aB 0) e_O_images e_O_tape e_O_reader (aP 0) e_O_trial e_O_season e_O_dates e_O_line e_O_evening e_O_choices SO) ++ ((bW cy aB (als 0) (atd 0) e_B_mentions e_B_claims SB) ++ ((lsW cy als Sls) ++ ((pW cy aP (aJ 0) S1) ++ ((jW cy aJ S2) ++ (tW cy atd Std)))))) H locs → lv_has ls 5 [(3, .int x3_6), (2, .int x2_7), (1, .int r4), (0, .ref (aO 0))] → W p l e (rmN 5) s m args below meth c H locs 0 0 (MQ below (eI D cy A (fun u : Ob × Ob => ((oW cy aO (aB 0) e_O_images e_O_tape e_O_reader (aP 0) e_O_trial e_O_season e_O_dates e_O_line e_O_evening e_O_choices SO) ++ ((bW cy aB (als 0) (atd 0) e_B_mentions e_B_claims SB) ++ ((lsW cy als Sls) ++ ((pW cy aP (aJ 0) u.1) ++ ((jW cy aJ u.2) ++ (tW cy atd Std))))))) (fun (r : Int32) (u : Ob × Ob) => Q r u.1 u.2)) args s (rmN 5).cells (rmN 5).slots A) (F0 m 23 ls [])) ?_ _ _ hm H locs ls hw (lv_sub hl [0, 1, 2, 3] rfl)
  intro L8 ih8 x3_6 x2_7 hm H locs ls hw hl
  refine lv_iload_n hx hb dX8_open_23 rfl (lv_at hl 0 rfl) ?_
  refine lv_aload_n hx hb dX8_open_24 rfl (lv_at hl 3 rfl) ?_
  refine gF (k := 0) hc hw inX8 rfl 0 rfl (by decide) (gm 415 (by decide +kernel) rfl) rfl dX8_open_25 ?_
  refine gN (k := 4) (host := "OlderTale") hc hw inX6 rfl 3 rfl (by decide) (nmm 212 (by decide +kernel)) rfl dX8_open_28 ?_
  refine lv_icmp_ge (tgt := 105) hx hb dX8_open_31 (by decide) (fun c29 => ?_) (fun c29 => ?_)
  · have hm := hm.1 c29
    refine lv_iload_n hx hb dX8_open_105 rfl (lv_at hl 1 rfl) ?_
    exact retI (u := (S1, S2)) hc hw hm dX8_open_106
  · have hm := hm.2 c29
    refine lv_aload_n hx hb dX8_open_34 rfl (lv_at hl 3 rfl) ?_
    refine gF (k := 8) hc hw inX8 rfl 0 rfl (by decide) (gm 423 (by decide +kernel) rfl) rfl dX8_open_35 ?_
    refine lv_iload_n hx hb dX8_open_38 rfl (lv_at hl 0 rfl) ?_
    refine lv_aload_n hx hb dX8_open_39 rfl (lv_at hl 3 rfl) ?_
    refine gF (k := 0) hc hw inX8 rfl 0 rfl (by decide) (gm 415 (by decide +kernel) rfl) rfl dX8_open_40 ?_
    refine nVN_I (As := []) (rest := [.int x3_6, .ref (aP 0)]) (wc := ((bW cy aB (als 0) (atd 0) e_B_mentions e_B_claims SB) ++ (tW cy atd Std))) (wr := ((oW cy aO (aB 0) e_O_images e_O_tape e_O_reader (aP 0) e_O_trial e_O_season e_O_dates e_O_line e_O_evening e_O_choices SO) ++ ((lsW cy als Sls) ++ ((pW cy aP (aJ 0) S1) ++ (jW cy aJ S2))))) (isC := [3, 4, 5, 6, 7, 8, 24, 25, 26, 27]) (isR := [0, 1, 2, 9, 10, 11, 12, 13, 14, 15, 16, 17, 18, 19, 20, 21, 22, 23]) hc hw (c_X6_lastYear hm) lk_X8_165 ⟨rfl, rfl, rfl, rfl, by decide⟩ rfl rfl ⟨Nat.le_of_ble_eq_true rfl, Nat.le_of_ble_eq_true rfl⟩ ⟨Nat.le_of_ble_eq_true rfl, Nat.le_of_ble_eq_true rfl⟩ hl.1 rfl (Nat.le_of_ble_eq_true rfl) rfl dX8_open_43 (fun r9 _ H locs hm hw => ?_)
    have hw : wV D A s.heap ((oW cy aO (aB 0) e_O_images e_O_tape e_O_reader (aP 0) e_O_trial e_O_season e_O_dates e_O_line e_O_evening e_O_choices SO) ++ ((bW cy aB (als 0) (atd 0) e_B_mentions e_B_claims SB) ++ ((lsW cy als Sls) ++ ((pW cy aP (aJ 0) S1) ++ ((jW cy aJ S2) ++ (tW cy atd Std)))))) H locs := hw.perm [0, 1, 2, 18, 19, 20, 21, 22, 23, 3, 4, 5, 6, 7, 8, 9, 10, 11, 12, 13, 14, 15, 16, 17, 24, 25, 26, 27] rfl rfl
    refine nVN_I (As := [.int x3_6, .int r9]) (rest := []) (wc := (pW cy aP (aJ 0) S1)) (wr := ((oW cy aO (aB 0) e_O_images e_O_tape e_O_reader (aP 0) e_O_trial e_O_season e_O_dates e_O_line e_O_evening e_O_choices SO) ++ ((bW cy aB (als 0) (atd 0) e_B_mentions e_B_claims SB) ++ ((lsW cy als Sls) ++ ((jW cy aJ S2) ++ (tW cy atd Std)))))) (isC := [10, 11, 12, 13, 14, 15, 16, 17, 18, 19, 20]) (isR := [0, 1, 2, 3, 4, 5, 6, 7, 8, 9, 21, 22, 23, 24, 25, 26, 27]) hc hw (c_X3_yearOf hm) lk_X8_169 ⟨rfl, rfl, rfl, rfl, by decide⟩ rfl rfl ⟨Nat.le_of_ble_eq_true rfl, Nat.le_of_ble_eq_true rfl⟩ ⟨Nat.le_of_ble_eq_true rfl, Nat.le_of_ble_eq_true rfl⟩ hl.1 rfl (Nat.le_of_ble_eq_true rfl) rfl dX8_open_46 (fun r11 _ H locs hm hw => ?_)
    have hw : wV D A s.heap ((oW cy aO (aB 0) e_O_images e_O_tape e_O_reader (aP 0) e_O_trial e_O_season e_O_dates e_O_line e_O_evening e_O_choices SO) ++ ((bW cy aB (als 0) (atd 0) e_B_mentions e_B_claims SB) ++ ((lsW cy als Sls) ++ ((pW cy aP (aJ 0) S1) ++ ((jW cy aJ S2) ++ (tW cy atd Std)))))) H locs := hw.perm [0, 1, 2, 3, 4, 5, 6, 7, 8, 9, 17, 18, 19, 20, 21, 22, 23, 24, 25, 26, 27, 10, 11, 12, 13, 14, 15, 16] rfl rfl
    refine lv_iconst (v := (-1)) hx hb dX8_open_49 (by decide) ?_
    obtain ⟨J14, eJ14, hm⟩ := jn_e hm
    have hJ14 : ∀ (t13 : Int32) (_ : J14 t13) (H : Heap) (locs : List Loc) (ls : Array Slot), wV D A s.heap ((oW cy aO (aB 0) e_O_images e_O_tape e_O_reader (aP 0) e_O_trial e_O_season e_O_dates e_O_line e_O_evening e_O_choices SO) ++ ((bW cy aB (als 0) (atd 0) e_B_mentions e_B_claims SB) ++ ((lsW cy als Sls) ++ ((pW cy aP (aJ 0) S1) ++ ((jW cy aJ S2) ++ (tW cy atd Std)))))) H locs → lv_has ls 5 [(0, .ref (aO 0)), (1, .int r4), (2, .int x2_7), (3, .int x3_6)] → W p l e (rmN 5) s m args below meth c H locs 0 0 (MQ below (eI D cy A (fun u : Ob × Ob => ((oW cy aO (aB 0) e_O_images e_O_tape e_O_reader (aP 0) e_O_trial e_O_season e_O_dates e_O_line e_O_evening e_O_choices SO) ++ ((bW cy aB (als 0) (atd 0) e_B_mentions e_B_claims SB) ++ ((lsW cy als Sls) ++ ((pW cy aP (aJ 0) u.1) ++ ((jW cy aJ u.2) ++ (tW cy atd Std))))))) (fun (r : Int32) (u : Ob × Ob) => Q r u.1 u.2)) args s (rmN 5).cells (rmN 5).slots A) (F0 m 78 ls [.int t13]) := by
      intro t13 hm H locs ls hw hl
      rw [eJ14] at hm
      refine lv_istore (lv' := [(4, .int t13), (0, .ref (aO 0)), (1, .int r4), (2, .int x2_7), (3, .int x3_6)]) hx hb dX8_open_78 hl (by decide) rfl (fun ls hl => ?_)
      refine lv_iload hx hb dX8_open_80 (lv_at hl 0 rfl) ?_
      refine lv_if_eq (tgt := 99) hx hb dX8_open_82 (by decide) (fun c20 => ?_) (fun c20 => ?_)
      · have hm := hm.1 c20
        obtain ⟨v15, e_v15⟩ : ∃ z : Int32, z = x3_6 + 1 := ⟨_, rfl⟩
        have hm := hm v15 e_v15
        refine lv_iinc (v := v15) (lv' := [(3, .int v15), (4, .int t13), (0, .ref (aO 0)), (1, .int r4), (2, .int x2_7)]) hx hb dX8_open_99 hl (k := 4) rfl (by rw [e_v15]; rfl) (by decide) rfl (fun ls hl => ?_)
        refine lv_goto (tgt := 23) hx hb dX8_open_102 (by decide) ?_
        exact ih8 _ _ hm _ _ _ hw (lv_sub hl [0, 4, 3, 2] rfl)
      · have hm := hm.2 c20
        refine lv_iload_n hx hb dX8_open_85 rfl (lv_at hl 2 rfl) ?_
        refine lv_iload_n hx hb dX8_open_86 rfl (lv_at hl 4 rfl) ?_
        refine lv_ishr hx hb dX8_open_87 ?_
        refine lv_iconst (v := 1) hx hb dX8_open_88 (by decide) ?_
        refine lv_iand hx hb dX8_open_89 ?_
        refine lv_if_eq (tgt := 99) hx hb dX8_open_90 (by decide) (fun c19 => ?_) (fun c19 => ?_)
        · have hm := hm.1 c19
          obtain ⟨v16, e_v16⟩ : ∃ z : Int32, z = x3_6 + 1 := ⟨_, rfl⟩
          have hm := hm v16 e_v16
          refine lv_iinc (v := v16) (lv' := [(3, .int v16), (4, .int t13), (0, .ref (aO 0)), (1, .int r4), (2, .int x2_7)]) hx hb dX8_open_99 hl (k := 4) rfl (by rw [e_v16]; rfl) (by decide) rfl (fun ls hl => ?_)
          refine lv_goto (tgt := 23) hx hb dX8_open_102 (by decide) ?_
          exact ih8 _ _ hm _ _ _ hw (lv_sub hl [0, 4, 3, 2] rfl)
        · have hm := hm.2 c19
          refine lv_iload_n hx hb dX8_open_93 rfl (lv_at hl 3 rfl) ?_
          refine lv_iconst (v := 1) hx hb dX8_open_94 (by decide) ?_
          refine lv_iload_n hx hb dX8_open_95 rfl (lv_at hl 4 rfl) ?_
          refine lv_ishl hx hb dX8_open_96 ?_
          refine lv_ior hx hb dX8_open_97 ?_
          refine lv_topi (fun v17 e_v17 => ?_)
          have hm := hm v17 e_v17
          refine lv_istore_n (lv' := [(2, .int v17), (4, .int t13), (0, .ref (aO 0)), (1, .int r4), (3, .int x3_6)]) hx hb dX8_open_98 rfl hl (by decide) rfl (fun ls hl => ?_)
          obtain ⟨v18, e_v18⟩ : ∃ z : Int32, z = x3_6 + 1 := ⟨_, rfl⟩
          have hm := hm v18 e_v18
          refine lv_iinc (v := v18) (lv' := [(3, .int v18), (2, .int v17), (4, .int t13), (0, .ref (aO 0)), (1, .int r4)]) hx hb dX8_open_99 hl (k := 4) rfl (by rw [e_v18]; rfl) (by decide) rfl (fun ls hl => ?_)
          refine lv_goto (tgt := 23) hx hb dX8_open_102 (by decide) ?_
          exact ih8 _ _ hm _ _ _ hw (lv_sub hl [0, 1, 4, 3] rfl)
    obtain ⟨J22, eJ22, hm⟩ := jn_e hm
    have hJ22 : ∀ (z21 : Unit) (_ : J22 z21) (H : Heap) (locs : List Loc) (ls : Array Slot), wV D A s.heap ((oW cy aO (aB 0) e_O_images e_O_tape e_O_reader (aP 0) e_O_trial e_O_season e_O_dates e_O_line e_O_evening e_O_choices SO) ++ ((bW cy aB (als 0) (atd 0) e_B_mentions e_B_claims SB) ++ ((lsW cy als Sls) ++ ((pW cy aP (aJ 0) S1) ++ ((jW cy aJ S2) ++ (tW cy atd Std)))))) H locs → lv_has ls 5 [(0, .ref (aO 0)), (1, .int r4), (2, .int x2_7), (3, .int x3_6)] → W p l e (rmN 5) s m args below meth c H locs 0 0 (MQ below (eI D cy A (fun u : Ob × Ob => ((oW cy aO (aB 0) e_O_images e_O_tape e_O_reader (aP 0) e_O_trial e_O_season e_O_dates e_O_line e_O_evening e_O_choices SO) ++ ((bW cy aB (als 0) (atd 0) e_B_mentions e_B_claims SB) ++ ((lsW cy als Sls) ++ ((pW cy aP (aJ 0) u.1) ++ ((jW cy aJ u.2) ++ (tW cy atd Std))))))) (fun (r : Int32) (u : Ob × Ob) => Q r u.1 u.2)) args s (rmN 5).cells (rmN 5).slots A) (F0 m 77 ls []) := by
      intro z21 hm H locs ls hw hl
      rw [eJ22] at hm
      refine lv_iconst (v := 0) hx hb dX8_open_77 (by decide) ?_
      exact hJ14 _ hm _ _ _ hw (lv_sub hl [0, 1, 2, 3] rfl)
    refine lv_icmp_eq (tgt := 77) hx hb dX8_open_50 (by decide) (fun c28 => ?_) (fun c28 => ?_)
    · have hm := hm.1 c28
      exact hJ22 _ hm _ _ _ hw (lv_sub hl [3, 2, 1, 0] rfl)
    · have hm := hm.2 c28
      refine lv_aload_n hx hb dX8_open_53 rfl (lv_at hl 3 rfl) ?_
      refine gF (k := 8) hc hw inX8 rfl 0 rfl (by decide) (gm 423 (by decide +kernel) rfl) rfl dX8_open_54 ?_
      refine lv_iload_n hx hb dX8_open_57 rfl (lv_at hl 0 rfl) ?_
      refine lv_iconst (v := 1) hx hb dX8_open_58 (by decide) ?_
      refine lv_aload_n hx hb dX8_open_59 rfl (lv_at hl 3 rfl) ?_
      refine gF (k := 0) hc hw inX8 rfl 0 rfl (by decide) (gm 415 (by decide +kernel) rfl) rfl dX8_open_60 ?_
      refine nVN_I (As := []) (rest := [.int 1, .int x3_6, .ref (aP 0)]) (wc := ((bW cy aB (als 0) (atd 0) e_B_mentions e_B_claims SB) ++ (tW cy atd Std))) (wr := ((oW cy aO (aB 0) e_O_images e_O_tape e_O_reader (aP 0) e_O_trial e_O_season e_O_dates e_O_line e_O_evening e_O_choices SO) ++ ((lsW cy als Sls) ++ ((pW cy aP (aJ 0) S1) ++ (jW cy aJ S2))))) (isC := [3, 4, 5, 6, 7, 8, 24, 25, 26, 27]) (isR := [0, 1, 2, 9, 10, 11, 12, 13, 14, 15, 16, 17, 18, 19, 20, 21, 22, 23]) hc hw (c_X6_lastTeller hm) lk_X8_173 ⟨rfl, rfl, rfl, rfl, by decide⟩ rfl rfl ⟨Nat.le_of_ble_eq_true rfl, Nat.le_of_ble_eq_true rfl⟩ ⟨Nat.le_of_ble_eq_true rfl, Nat.le_of_ble_eq_true rfl⟩ hl.1 rfl (Nat.le_of_ble_eq_true rfl) rfl dX8_open_63 (fun r23 _ H locs hm hw => ?_)
      have hw : wV D A s.heap ((oW cy aO (aB 0) e_O_images e_O_tape e_O_reader (aP 0) e_O_trial e_O_season e_O_dates e_O_line e_O_evening e_O_choices SO) ++ ((bW cy aB (als 0) (atd 0) e_B_mentions e_B_claims SB) ++ ((lsW cy als Sls) ++ ((pW cy aP (aJ 0) S1) ++ ((jW cy aJ S2) ++ (tW cy atd Std)))))) H locs := hw.perm [0, 1, 2, 18, 19, 20, 21, 22, 23, 3, 4, 5, 6, 7, 8, 9, 10, 11, 12, 13, 14, 15, 16, 17, 24, 25, 26, 27] rfl rfl
      refine lv_ishl hx hb dX8_open_66 ?_
      refine nVN_I (As := [.int x3_6, .int ((1 : Int32) <<< (r23 &&& 31))]) (rest := []) (wc := (pW cy aP (aJ 0) S1)) (wr := ((oW cy aO (aB 0) e_O_images e_O_tape e_O_reader (aP 0) e_O_trial e_O_season e_O_dates e_O_line e_O_evening e_O_choices SO) ++ ((bW cy aB (als 0) (atd 0) e_B_mentions e_B_claims SB) ++ ((lsW cy als Sls) ++ ((jW cy aJ S2) ++ (tW cy atd Std)))))) (isC := [10, 11, 12, 13, 14, 15, 16, 17, 18, 19, 20]) (isR := [0, 1, 2, 3, 4, 5, 6, 7, 8, 9, 21, 22, 23, 24, 25, 26, 27]) hc hw (c_X3_followers hm) lk_X8_176 ⟨rfl, rfl, rfl, rfl, by decide⟩ rfl rfl ⟨Nat.le_of_ble_eq_true rfl, Nat.le_of_ble_eq_true rfl⟩ ⟨Nat.le_of_ble_eq_true rfl, Nat.le_of_ble_eq_true rfl⟩ hl.1 rfl (Nat.le_of_ble_eq_true rfl) rfl dX8_open_67 (fun r25 _ H locs hm hw => ?_)
      have hw : wV D A s.heap ((oW cy aO (aB 0) e_O_images e_O_tape e_O_reader (aP 0) e_O_trial e_O_season e_O_dates e_O_line e_O_evening e_O_choices SO) ++ ((bW cy aB (als 0) (atd 0) e_B_mentions e_B_claims SB) ++ ((lsW cy als Sls) ++ ((pW cy aP (aJ 0) S1) ++ ((jW cy aJ S2) ++ (tW cy atd Std)))))) H locs := hw.perm [0, 1, 2, 3, 4, 5, 6, 7, 8, 9, 17, 18, 19, 20, 21, 22, 23, 24, 25, 26, 27, 10, 11, 12, 13, 14, 15, 16] rfl rfl
      refine lv_if_eq (tgt := 77) hx hb dX8_open_70 (by decide) (fun c27 => ?_) (fun c27 => ?_)
      · have hm := hm.1 c27
        exact hJ22 _ hm _ _ _ hw (lv_sub hl [3, 2, 1, 0] rfl)
      · have hm := hm.2 c27
        refine lv_iconst (v := 1) hx hb dX8_open_73 (by decide) ?_
        refine lv_goto (tgt := 78) hx hb dX8_open_74 (by decide) ?_
        exact hJ14 _ hm _ _ _ hw (lv_sub hl [3, 2, 1, 0] rfl)
set_option maxHeartbeats 4000000 in
set_option maxRecDepth 100000 in
theorem c_X8_goes {l : Launch} {D : va_G} {cy : Nat → ClassId} {aO : Nat → Nat} {aB : Nat → Nat} {als : Nat → Nat} {aP : Nat → Nat} {aJ : Nat → Nat} {atd : Nat → Nat} {aLw : Nat → Nat} {e_O_images : Nat} {e_O_tape : Nat} {e_O_reader : Nat} {e_O_trial : Option Nat} {e_O_season : Option Nat} {e_O_dates : Nat} {e_O_line : Nat} {e_O_evening : Nat} {e_O_choices : Nat} {e_B_mentions : Nat} {e_B_claims : Nat} {SO : Ob} {SB : Ob} {Sls : (Nat → Option Nat)} {SP : Ob} {SJ : Ob} {Std : Ob} {SLw : Lw} {x1 : Int32} {Q : Int32 → Ob → Ob → Prop} (hm : w_X8_goes aLw SO SB Sls SP SJ Std SLw x1 Q) : CtI l yX8_goes cX8_goes 2 (some .int) (rmN 6) D cy [.ref (aO 0), .int x1] ((oW cy aO (aB 0) e_O_images e_O_tape e_O_reader (aP 0) e_O_trial e_O_season e_O_dates e_O_line e_O_evening e_O_choices SO) ++ ((bW cy aB (als 0) (atd 0) e_B_mentions e_B_claims SB) ++ ((lsW cy als Sls) ++ ((pW cy aP (aJ 0) SP) ++ ((jW cy aJ SJ) ++ ((tW cy atd Std) ++ (lwW cy aLw SLw))))))) (fun u : Ob × Ob => ((oW cy aO (aB 0) e_O_images e_O_tape e_O_reader (aP 0) e_O_trial e_O_season e_O_dates e_O_line e_O_evening e_O_choices SO) ++ ((bW cy aB (als 0) (atd 0) e_B_mentions e_B_claims SB) ++ ((lsW cy als Sls) ++ ((pW cy aP (aJ 0) u.1) ++ ((jW cy aJ u.2) ++ ((tW cy atd Std) ++ (lwW cy aLw SLw)))))))) (fun (r : Int32) (u : Ob × Ob) => Q r u.1 u.2) := by
  refine CtI.ofW (by decide) (Nat.le_of_ble_eq_true rfl) ?_
  intro p e s m args below meth c A ls hc hnm hw hl
  have hx := hc.1.1
  have hb := hc.1.2.1
  have hown := hc.1.2.2.2.1
  have hts := hc.1.2.2.2.2
  have hl : lv_has ls 2 [(0, .ref (aO 0)), (1, .int x1)] := hl
  obtain ⟨H, hH⟩ : ∃ z, z = s.heap := ⟨_, rfl⟩
  obtain ⟨locs, hLc⟩ : ∃ z : List Loc, z = [] := ⟨_, rfl⟩
  have hw : wV D A s.heap ((oW cy aO (aB 0) e_O_images e_O_tape e_O_reader (aP 0) e_O_trial e_O_season e_O_dates e_O_line e_O_evening e_O_choices SO) ++ ((bW cy aB (als 0) (atd 0) e_B_mentions e_B_claims SB) ++ ((lsW cy als Sls) ++ ((pW cy aP (aJ 0) SP) ++ ((jW cy aJ SJ) ++ ((tW cy atd Std) ++ (lwW cy aLw SLw))))))) H locs := by rw [hH, hLc]; exact hw
  have hgo : W p l e (rmN 6) s m args below meth c H locs 0 0 (MQ below (eI D cy A (fun u : Ob × Ob => ((oW cy aO (aB 0) e_O_images e_O_tape e_O_reader (aP 0) e_O_trial e_O_season e_O_dates e_O_line e_O_evening e_O_choices SO) ++ ((bW cy aB (als 0) (atd 0) e_B_mentions e_B_claims SB) ++ ((lsW cy als Sls) ++ ((pW cy aP (aJ 0) u.1) ++ ((jW cy aJ u.2) ++ ((tW cy atd Std) ++ (lwW cy aLw SLw)))))))) (fun (r : Int32) (u : Ob × Ob) => Q r u.1 u.2)) args s (rmN 6).cells (rmN 6).slots A) (F0 m 0 ls []) := ?hgo
  · rw [hH, hLc] at hgo; exact hgo
  refine lv_iload_n hx hb dX8_goes_0 rfl (lv_at hl 1 rfl) ?_
  refine lv_aload_n hx hb dX8_goes_1 rfl (lv_at hl 0 rfl) ?_
  refine gF (k := 0) hc hw inX8 rfl 0 rfl (by decide) (gm 415 (by decide +kernel) rfl) rfl dX8_goes_2 ?_
  refine nVN_I (As := []) (rest := [.int x1]) (wc := ((bW cy aB (als 0) (atd 0) e_B_mentions e_B_claims SB) ++ (tW cy atd Std))) (wr := ((oW cy aO (aB 0) e_O_images e_O_tape e_O_reader (aP 0) e_O_trial e_O_season e_O_dates e_O_line e_O_evening e_O_choices SO) ++ ((lsW cy als Sls) ++ ((pW cy aP (aJ 0) SP) ++ ((jW cy aJ SJ) ++ (lwW cy aLw SLw)))))) (isC := [3, 4, 5, 6, 7, 8, 24, 25, 26, 27]) (isR := [0, 1, 2, 9, 10, 11, 12, 13, 14, 15, 16, 17, 18, 19, 20, 21, 22, 23, 28, 29, 30, 31, 32]) hc hw (c_X6_untold hm) lk_X8_194 ⟨rfl, rfl, rfl, rfl, by decide⟩ rfl rfl ⟨Nat.le_of_ble_eq_true rfl, Nat.le_of_ble_eq_true rfl⟩ ⟨Nat.le_of_ble_eq_true rfl, Nat.le_of_ble_eq_true rfl⟩ hl.1 rfl (Nat.le_of_ble_eq_true rfl) rfl dX8_goes_5 (fun r1 _ H locs hm hw => ?_)
  have hw : wV D A s.heap ((oW cy aO (aB 0) e_O_images e_O_tape e_O_reader (aP 0) e_O_trial e_O_season e_O_dates e_O_line e_O_evening e_O_choices SO) ++ ((bW cy aB (als 0) (atd 0) e_B_mentions e_B_claims SB) ++ ((lsW cy als Sls) ++ ((pW cy aP (aJ 0) SP) ++ ((jW cy aJ SJ) ++ ((tW cy atd Std) ++ (lwW cy aLw SLw))))))) H locs := hw.perm [0, 1, 2, 23, 24, 25, 26, 27, 28, 3, 4, 5, 6, 7, 8, 9, 10, 11, 12, 13, 14, 15, 16, 17, 29, 30, 31, 32, 18, 19, 20, 21, 22] rfl rfl
  refine lv_iconst (v := (-1)) hx hb dX8_goes_8 (by decide) ?_
  refine lv_ixor hx hb dX8_goes_9 ?_
  refine lv_iand hx hb dX8_goes_10 ?_
  refine lv_if_eq (tgt := 16) hx hb dX8_goes_11 (by decide) (fun c13 => ?_) (fun c13 => ?_)
  · have hm := hm.1 c13
    refine lv_aload_n hx hb dX8_goes_16 rfl (lv_at hl 0 rfl) ?_
    refine gF (k := 8) hc hw inX8 rfl 0 rfl (by decide) (gm 423 (by decide +kernel) rfl) rfl dX8_goes_17 ?_
    refine lv_aload_n hx hb dX8_goes_20 rfl (lv_at hl 0 rfl) ?_
    refine gF (k := 0) hc hw inX8 rfl 0 rfl (by decide) (gm 415 (by decide +kernel) rfl) rfl dX8_goes_21 ?_
    refine nVN_V (As := [.ref (aB 0)]) (rest := []) (wc := ((pW cy aP (aJ 0) SP) ++ ((jW cy aJ SJ) ++ ((bW cy aB (als 0) (atd 0) e_B_mentions e_B_claims SB) ++ ((lsW cy als Sls) ++ (lwW cy aLw SLw)))))) (wr := ((oW cy aO (aB 0) e_O_images e_O_tape e_O_reader (aP 0) e_O_trial e_O_season e_O_dates e_O_line e_O_evening e_O_choices SO) ++ (tW cy atd Std))) (isC := [10, 11, 12, 13, 14, 15, 16, 17, 18, 19, 20, 21, 22, 23, 3, 4, 5, 6, 7, 8, 9, 28, 29, 30, 31, 32]) (isR := [0, 1, 2, 24, 25, 26, 27]) hc hw (c_X3_reckon hm) lk_X8_197 ⟨rfl, rfl, rfl, rfl, by decide⟩ rfl rfl ⟨Nat.le_of_ble_eq_true rfl, Nat.le_of_ble_eq_true rfl⟩ ⟨Nat.le_of_ble_eq_true rfl, Nat.le_of_ble_eq_true rfl⟩ hl.1 rfl (Nat.le_of_ble_eq_true rfl) rfl dX8_goes_24 (fun u_4 H locs hm hw => ?_)
    obtain ⟨S3, S4⟩ := u_4
    have hw : wV D A s.heap ((oW cy aO (aB 0) e_O_images e_O_tape e_O_reader (aP 0) e_O_trial e_O_season e_O_dates e_O_line e_O_evening e_O_choices SO) ++ ((bW cy aB (als 0) (atd 0) e_B_mentions e_B_claims SB) ++ ((lsW cy als Sls) ++ ((pW cy aP (aJ 0) S3) ++ ((jW cy aJ S4) ++ ((tW cy atd Std) ++ (lwW cy aLw SLw))))))) H locs := hw.perm [0, 1, 2, 21, 22, 23, 24, 25, 26, 27, 7, 8, 9, 10, 11, 12, 13, 14, 15, 16, 17, 18, 19, 20, 3, 4, 5, 6, 28, 29, 30, 31, 32] rfl rfl
    refine lv_aload_n hx hb dX8_goes_27 rfl (lv_at hl 0 rfl) ?_
    refine gF (k := 8) hc hw inX8 rfl 0 rfl (by decide) (gm 423 (by decide +kernel) rfl) rfl dX8_goes_28 ?_
    refine lv_iload_n hx hb dX8_goes_31 rfl (lv_at hl 1 rfl) ?_
    refine lv_aload_n hx hb dX8_goes_32 rfl (lv_at hl 0 rfl) ?_
    refine gF (k := 0) hc hw inX8 rfl 0 rfl (by decide) (gm 415 (by decide +kernel) rfl) rfl dX8_goes_33 ?_
    refine nVN_I (As := []) (rest := [.int x1, .ref (aP 0)]) (wc := ((bW cy aB (als 0) (atd 0) e_B_mentions e_B_claims SB) ++ (tW cy atd Std))) (wr := ((oW cy aO (aB 0) e_O_images e_O_tape e_O_reader (aP 0) e_O_trial e_O_season e_O_dates e_O_line e_O_evening e_O_choices SO) ++ ((lsW cy als Sls) ++ ((pW cy aP (aJ 0) S3) ++ ((jW cy aJ S4) ++ (lwW cy aLw SLw)))))) (isC := [3, 4, 5, 6, 7, 8, 24, 25, 26, 27]) (isR := [0, 1, 2, 9, 10, 11, 12, 13, 14, 15, 16, 17, 18, 19, 20, 21, 22, 23, 28, 29, 30, 31, 32]) hc hw (c_X6_lastYear hm) lk_X8_165 ⟨rfl, rfl, rfl, rfl, by decide⟩ rfl rfl ⟨Nat.le_of_ble_eq_true rfl, Nat.le_of_ble_eq_true rfl⟩ ⟨Nat.le_of_ble_eq_true rfl, Nat.le_of_ble_eq_true rfl⟩ hl.1 rfl (Nat.le_of_ble_eq_true rfl) rfl dX8_goes_36 (fun r6 _ H locs hm hw => ?_)
    have hw : wV D A s.heap ((oW cy aO (aB 0) e_O_images e_O_tape e_O_reader (aP 0) e_O_trial e_O_season e_O_dates e_O_line e_O_evening e_O_choices SO) ++ ((bW cy aB (als 0) (atd 0) e_B_mentions e_B_claims SB) ++ ((lsW cy als Sls) ++ ((pW cy aP (aJ 0) S3) ++ ((jW cy aJ S4) ++ ((tW cy atd Std) ++ (lwW cy aLw SLw))))))) H locs := hw.perm [0, 1, 2, 23, 24, 25, 26, 27, 28, 3, 4, 5, 6, 7, 8, 9, 10, 11, 12, 13, 14, 15, 16, 17, 29, 30, 31, 32, 18, 19, 20, 21, 22] rfl rfl
    refine lv_aload_n hx hb dX8_goes_39 rfl (lv_at hl 0 rfl) ?_
    refine gF (k := 0) hc hw inX8 rfl 0 rfl (by decide) (gm 415 (by decide +kernel) rfl) rfl dX8_goes_40 ?_
    refine nVN_I (As := []) (rest := [.int r6, .int x1, .ref (aP 0)]) (wc := ((bW cy aB (als 0) (atd 0) e_B_mentions e_B_claims SB) ++ (tW cy atd Std))) (wr := ((oW cy aO (aB 0) e_O_images e_O_tape e_O_reader (aP 0) e_O_trial e_O_season e_O_dates e_O_line e_O_evening e_O_choices SO) ++ ((lsW cy als Sls) ++ ((pW cy aP (aJ 0) S3) ++ ((jW cy aJ S4) ++ (lwW cy aLw SLw)))))) (isC := [3, 4, 5, 6, 7, 8, 24, 25, 26, 27]) (isR := [0, 1, 2, 9, 10, 11, 12, 13, 14, 15, 16, 17, 18, 19, 20, 21, 22, 23, 28, 29, 30, 31, 32]) hc hw (c_X6_lastTeller hm) lk_X8_173 ⟨rfl, rfl, rfl, rfl, by decide⟩ rfl rfl ⟨Nat.le_of_ble_eq_true rfl, Nat.le_of_ble_eq_true rfl⟩ ⟨Nat.le_of_ble_eq_true rfl, Nat.le_of_ble_eq_true rfl⟩ hl.1 rfl (Nat.le_of_ble_eq_true rfl) rfl dX8_goes_43 (fun r8 _ H locs hm hw => ?_)
    have hw : wV D A s.heap ((oW cy aO (aB 0) e_O_images e_O_tape e_O_reader (aP 0) e_O_trial e_O_season e_O_dates e_O_line e_O_evening e_O_choices SO) ++ ((bW cy aB (als 0) (atd 0) e_B_mentions e_B_claims SB) ++ ((lsW cy als Sls) ++ ((pW cy aP (aJ 0) S3) ++ ((jW cy aJ S4) ++ ((tW cy atd Std) ++ (lwW cy aLw SLw))))))) H locs := hw.perm [0, 1, 2, 23, 24, 25, 26, 27, 28, 3, 4, 5, 6, 7, 8, 9, 10, 11, 12, 13, 14, 15, 16, 17, 29, 30, 31, 32, 18, 19, 20, 21, 22] rfl rfl
    refine nVN_I (As := [.int x1, .int r6, .int r8]) (rest := []) (wc := (pW cy aP (aJ 0) S3)) (wr := ((oW cy aO (aB 0) e_O_images e_O_tape e_O_reader (aP 0) e_O_trial e_O_season e_O_dates e_O_line e_O_evening e_O_choices SO) ++ ((bW cy aB (als 0) (atd 0) e_B_mentions e_B_claims SB) ++ ((lsW cy als Sls) ++ ((jW cy aJ S4) ++ ((tW cy atd Std) ++ (lwW cy aLw SLw))))))) (isC := [10, 11, 12, 13, 14, 15, 16, 17, 18, 19, 20]) (isR := [0, 1, 2, 3, 4, 5, 6, 7, 8, 9, 21, 22, 23, 24, 25, 26, 27, 28, 29, 30, 31, 32]) hc hw (c_X3_fits hm) lk_X8_200 ⟨rfl, rfl, rfl, rfl, by decide⟩ rfl rfl ⟨Nat.le_of_ble_eq_true rfl, Nat.le_of_ble_eq_true rfl⟩ ⟨Nat.le_of_ble_eq_true rfl, Nat.le_of_ble_eq_true rfl⟩ hl.1 rfl (Nat.le_of_ble_eq_true rfl) rfl dX8_goes_46 (fun r10 _ H locs hm hw => ?_)
    have hw : wV D A s.heap ((oW cy aO (aB 0) e_O_images e_O_tape e_O_reader (aP 0) e_O_trial e_O_season e_O_dates e_O_line e_O_evening e_O_choices SO) ++ ((bW cy aB (als 0) (atd 0) e_B_mentions e_B_claims SB) ++ ((lsW cy als Sls) ++ ((pW cy aP (aJ 0) S3) ++ ((jW cy aJ S4) ++ ((tW cy atd Std) ++ (lwW cy aLw SLw))))))) H locs := hw.perm [0, 1, 2, 3, 4, 5, 6, 7, 8, 9, 22, 23, 24, 25, 26, 27, 28, 29, 30, 31, 32, 10, 11, 12, 13, 14, 15, 16, 17, 18, 19, 20, 21] rfl rfl
    refine lv_if_eq (tgt := 56) hx hb dX8_goes_49 (by decide) (fun c12 => ?_) (fun c12 => ?_)
    · have hm := hm.1 c12
      refine lv_iconst (v := 0) hx hb dX8_goes_56 (by decide) ?_
      exact retI (u := (S3, S4)) hc hw hm dX8_goes_57
    · have hm := hm.2 c12
      refine lv_iconst (v := 1) hx hb dX8_goes_52 (by decide) ?_
      refine lv_goto (tgt := 57) hx hb dX8_goes_53 (by decide) ?_
      exact retI (u := (S3, S4)) hc hw hm dX8_goes_57
  · have hm := hm.2 c13
    refine lv_iconst (v := (-1)) hx hb dX8_goes_14 (by decide) ?_
    exact retI (u := (SP, SJ)) hc hw hm dX8_goes_15
set_option maxHeartbeats 4000000 in
set_option maxRecDepth 100000 in
theorem c_X8_goesN {l : Launch} {D : va_G} {cy : Nat → ClassId} {aO : Nat → Nat} {aB : Nat → Nat} {als : Nat → Nat} {aP : Nat → Nat} {aJ : Nat → Nat} {atd : Nat → Nat} {e_O_images : Nat} {e_O_tape : Nat} {e_O_reader : Nat} {e_O_trial : Option Nat} {e_O_season : Option Nat} {e_O_dates : Nat} {e_O_line : Nat} {e_O_evening : Nat} {e_O_choices : Nat} {e_B_mentions : Nat} {e_B_claims : Nat} {SO : Ob} {SB : Ob} {Sls : (Nat → Option Nat)} {SP : Ob} {SJ : Ob} {Std : Ob} {x1 : Int32} {Q : Int32 → Ob → Ob → Prop} (hm : w_X8_goesN SO SB Sls SP SJ Std x1 Q) : CtI l yX8_goes cX8_goes 2 (some .int) (rmN 6) D cy [.ref (aO 0), .int x1] ((oW cy aO (aB 0) e_O_images e_O_tape e_O_reader (aP 0) e_O_trial e_O_season e_O_dates e_O_line e_O_evening e_O_choices SO) ++ ((bW cy aB (als 0) (atd 0) e_B_mentions e_B_claims SB) ++ ((lsW cy als Sls) ++ ((pW cy aP (aJ 0) SP) ++ ((jW cy aJ SJ) ++ (tW cy atd Std)))))) (fun u : Ob × Ob => ((oW cy aO (aB 0) e_O_images e_O_tape e_O_reader (aP 0) e_O_trial e_O_season e_O_dates e_O_line e_O_evening e_O_choices SO) ++ ((bW cy aB (als 0) (atd 0) e_B_mentions e_B_claims SB) ++ ((lsW cy als Sls) ++ ((pW cy aP (aJ 0) u.1) ++ ((jW cy aJ u.2) ++ (tW cy atd Std))))))) (fun (r : Int32) (u : Ob × Ob) => Q r u.1 u.2) := by
  refine CtI.ofW (by decide) (Nat.le_of_ble_eq_true rfl) ?_
  intro p e s m args below meth c A ls hc hnm hw hl
  have hx := hc.1.1
  have hb := hc.1.2.1
  have hown := hc.1.2.2.2.1
  have hts := hc.1.2.2.2.2
  have hl : lv_has ls 2 [(0, .ref (aO 0)), (1, .int x1)] := hl
  obtain ⟨H, hH⟩ : ∃ z, z = s.heap := ⟨_, rfl⟩
  obtain ⟨locs, hLc⟩ : ∃ z : List Loc, z = [] := ⟨_, rfl⟩
  have hw : wV D A s.heap ((oW cy aO (aB 0) e_O_images e_O_tape e_O_reader (aP 0) e_O_trial e_O_season e_O_dates e_O_line e_O_evening e_O_choices SO) ++ ((bW cy aB (als 0) (atd 0) e_B_mentions e_B_claims SB) ++ ((lsW cy als Sls) ++ ((pW cy aP (aJ 0) SP) ++ ((jW cy aJ SJ) ++ (tW cy atd Std)))))) H locs := by rw [hH, hLc]; exact hw
  have hgo : W p l e (rmN 6) s m args below meth c H locs 0 0 (MQ below (eI D cy A (fun u : Ob × Ob => ((oW cy aO (aB 0) e_O_images e_O_tape e_O_reader (aP 0) e_O_trial e_O_season e_O_dates e_O_line e_O_evening e_O_choices SO) ++ ((bW cy aB (als 0) (atd 0) e_B_mentions e_B_claims SB) ++ ((lsW cy als Sls) ++ ((pW cy aP (aJ 0) u.1) ++ ((jW cy aJ u.2) ++ (tW cy atd Std))))))) (fun (r : Int32) (u : Ob × Ob) => Q r u.1 u.2)) args s (rmN 6).cells (rmN 6).slots A) (F0 m 0 ls []) := ?hgo
  · rw [hH, hLc] at hgo; exact hgo
  refine lv_iload_n hx hb dX8_goes_0 rfl (lv_at hl 1 rfl) ?_
  refine lv_aload_n hx hb dX8_goes_1 rfl (lv_at hl 0 rfl) ?_
  refine gF (k := 0) hc hw inX8 rfl 0 rfl (by decide) (gm 415 (by decide +kernel) rfl) rfl dX8_goes_2 ?_
  refine nVN_I (As := []) (rest := [.int x1]) (wc := ((bW cy aB (als 0) (atd 0) e_B_mentions e_B_claims SB) ++ (tW cy atd Std))) (wr := ((oW cy aO (aB 0) e_O_images e_O_tape e_O_reader (aP 0) e_O_trial e_O_season e_O_dates e_O_line e_O_evening e_O_choices SO) ++ ((lsW cy als Sls) ++ ((pW cy aP (aJ 0) SP) ++ (jW cy aJ SJ))))) (isC := [3, 4, 5, 6, 7, 8, 24, 25, 26, 27]) (isR := [0, 1, 2, 9, 10, 11, 12, 13, 14, 15, 16, 17, 18, 19, 20, 21, 22, 23]) hc hw (c_X6_untold hm) lk_X8_194 ⟨rfl, rfl, rfl, rfl, by decide⟩ rfl rfl ⟨Nat.le_of_ble_eq_true rfl, Nat.le_of_ble_eq_true rfl⟩ ⟨Nat.le_of_ble_eq_true rfl, Nat.le_of_ble_eq_true rfl⟩ hl.1 rfl (Nat.le_of_ble_eq_true rfl) rfl dX8_goes_5 (fun r1 _ H locs hm hw => ?_)
  have hw : wV D A s.heap ((oW cy aO (aB 0) e_O_images e_O_tape e_O_reader (aP 0) e_O_trial e_O_season e_O_dates e_O_line e_O_evening e_O_choices SO) ++ ((bW cy aB (als 0) (atd 0) e_B_mentions e_B_claims SB) ++ ((lsW cy als Sls) ++ ((pW cy aP (aJ 0) SP) ++ ((jW cy aJ SJ) ++ (tW cy atd Std)))))) H locs := hw.perm [0, 1, 2, 18, 19, 20, 21, 22, 23, 3, 4, 5, 6, 7, 8, 9, 10, 11, 12, 13, 14, 15, 16, 17, 24, 25, 26, 27] rfl rfl
  refine lv_iconst (v := (-1)) hx hb dX8_goes_8 (by decide) ?_
  refine lv_ixor hx hb dX8_goes_9 ?_
  refine lv_iand hx hb dX8_goes_10 ?_
  refine lv_if_eq (tgt := 16) hx hb dX8_goes_11 (by decide) (fun c13 => ?_) (fun c13 => ?_)
  · have hm := hm.1 c13
    refine lv_aload_n hx hb dX8_goes_16 rfl (lv_at hl 0 rfl) ?_
    refine gF (k := 8) hc hw inX8 rfl 0 rfl (by decide) (gm 423 (by decide +kernel) rfl) rfl dX8_goes_17 ?_
    refine lv_aload_n hx hb dX8_goes_20 rfl (lv_at hl 0 rfl) ?_
    refine gF (k := 0) hc hw inX8 rfl 0 rfl (by decide) (gm 415 (by decide +kernel) rfl) rfl dX8_goes_21 ?_
    refine nVN_V (As := [.ref (aB 0)]) (rest := []) (wc := ((pW cy aP (aJ 0) SP) ++ ((jW cy aJ SJ) ++ ((bW cy aB (als 0) (atd 0) e_B_mentions e_B_claims SB) ++ (lsW cy als Sls))))) (wr := ((oW cy aO (aB 0) e_O_images e_O_tape e_O_reader (aP 0) e_O_trial e_O_season e_O_dates e_O_line e_O_evening e_O_choices SO) ++ (tW cy atd Std))) (isC := [10, 11, 12, 13, 14, 15, 16, 17, 18, 19, 20, 21, 22, 23, 3, 4, 5, 6, 7, 8, 9]) (isR := [0, 1, 2, 24, 25, 26, 27]) hc hw (c_X3_reckonN hm) lk_X8_197 ⟨rfl, rfl, rfl, rfl, by decide⟩ rfl rfl ⟨Nat.le_of_ble_eq_true rfl, Nat.le_of_ble_eq_true rfl⟩ ⟨Nat.le_of_ble_eq_true rfl, Nat.le_of_ble_eq_true rfl⟩ hl.1 rfl (Nat.le_of_ble_eq_true rfl) rfl dX8_goes_24 (fun u_4 H locs hm hw => ?_)
    obtain ⟨S3, S4⟩ := u_4
    have hw : wV D A s.heap ((oW cy aO (aB 0) e_O_images e_O_tape e_O_reader (aP 0) e_O_trial e_O_season e_O_dates e_O_line e_O_evening e_O_choices SO) ++ ((bW cy aB (als 0) (atd 0) e_B_mentions e_B_claims SB) ++ ((lsW cy als Sls) ++ ((pW cy aP (aJ 0) S3) ++ ((jW cy aJ S4) ++ (tW cy atd Std)))))) H locs := hw.perm [0, 1, 2, 21, 22, 23, 24, 25, 26, 27, 7, 8, 9, 10, 11, 12, 13, 14, 15, 16, 17, 18, 19, 20, 3, 4, 5, 6] rfl rfl
    refine lv_aload_n hx hb dX8_goes_27 rfl (lv_at hl 0 rfl) ?_
    refine gF (k := 8) hc hw inX8 rfl 0 rfl (by decide) (gm 423 (by decide +kernel) rfl) rfl dX8_goes_28 ?_
    refine lv_iload_n hx hb dX8_goes_31 rfl (lv_at hl 1 rfl) ?_
    refine lv_aload_n hx hb dX8_goes_32 rfl (lv_at hl 0 rfl) ?_
    refine gF (k := 0) hc hw inX8 rfl 0 rfl (by decide) (gm 415 (by decide +kernel) rfl) rfl dX8_goes_33 ?_
    refine nVN_I (As := []) (rest := [.int x1, .ref (aP 0)]) (wc := ((bW cy aB (als 0) (atd 0) e_B_mentions e_B_claims SB) ++ (tW cy atd Std))) (wr := ((oW cy aO (aB 0) e_O_images e_O_tape e_O_reader (aP 0) e_O_trial e_O_season e_O_dates e_O_line e_O_evening e_O_choices SO) ++ ((lsW cy als Sls) ++ ((pW cy aP (aJ 0) S3) ++ (jW cy aJ S4))))) (isC := [3, 4, 5, 6, 7, 8, 24, 25, 26, 27]) (isR := [0, 1, 2, 9, 10, 11, 12, 13, 14, 15, 16, 17, 18, 19, 20, 21, 22, 23]) hc hw (c_X6_lastYear hm) lk_X8_165 ⟨rfl, rfl, rfl, rfl, by decide⟩ rfl rfl ⟨Nat.le_of_ble_eq_true rfl, Nat.le_of_ble_eq_true rfl⟩ ⟨Nat.le_of_ble_eq_true rfl, Nat.le_of_ble_eq_true rfl⟩ hl.1 rfl (Nat.le_of_ble_eq_true rfl) rfl dX8_goes_36 (fun r6 _ H locs hm hw => ?_)
    have hw : wV D A s.heap ((oW cy aO (aB 0) e_O_images e_O_tape e_O_reader (aP 0) e_O_trial e_O_season e_O_dates e_O_line e_O_evening e_O_choices SO) ++ ((bW cy aB (als 0) (atd 0) e_B_mentions e_B_claims SB) ++ ((lsW cy als Sls) ++ ((pW cy aP (aJ 0) S3) ++ ((jW cy aJ S4) ++ (tW cy atd Std)))))) H locs := hw.perm [0, 1, 2, 18, 19, 20, 21, 22, 23, 3, 4, 5, 6, 7, 8, 9, 10, 11, 12, 13, 14, 15, 16, 17, 24, 25, 26, 27] rfl rfl
    refine lv_aload_n hx hb dX8_goes_39 rfl (lv_at hl 0 rfl) ?_
    refine gF (k := 0) hc hw inX8 rfl 0 rfl (by decide) (gm 415 (by decide +kernel) rfl) rfl dX8_goes_40 ?_
    refine nVN_I (As := []) (rest := [.int r6, .int x1, .ref (aP 0)]) (wc := ((bW cy aB (als 0) (atd 0) e_B_mentions e_B_claims SB) ++ (tW cy atd Std))) (wr := ((oW cy aO (aB 0) e_O_images e_O_tape e_O_reader (aP 0) e_O_trial e_O_season e_O_dates e_O_line e_O_evening e_O_choices SO) ++ ((lsW cy als Sls) ++ ((pW cy aP (aJ 0) S3) ++ (jW cy aJ S4))))) (isC := [3, 4, 5, 6, 7, 8, 24, 25, 26, 27]) (isR := [0, 1, 2, 9, 10, 11, 12, 13, 14, 15, 16, 17, 18, 19, 20, 21, 22, 23]) hc hw (c_X6_lastTeller hm) lk_X8_173 ⟨rfl, rfl, rfl, rfl, by decide⟩ rfl rfl ⟨Nat.le_of_ble_eq_true rfl, Nat.le_of_ble_eq_true rfl⟩ ⟨Nat.le_of_ble_eq_true rfl, Nat.le_of_ble_eq_true rfl⟩ hl.1 rfl (Nat.le_of_ble_eq_true rfl) rfl dX8_goes_43 (fun r8 _ H locs hm hw => ?_)
    have hw : wV D A s.heap ((oW cy aO (aB 0) e_O_images e_O_tape e_O_reader (aP 0) e_O_trial e_O_season e_O_dates e_O_line e_O_evening e_O_choices SO) ++ ((bW cy aB (als 0) (atd 0) e_B_mentions e_B_claims SB) ++ ((lsW cy als Sls) ++ ((pW cy aP (aJ 0) S3) ++ ((jW cy aJ S4) ++ (tW cy atd Std)))))) H locs := hw.perm [0, 1, 2, 18, 19, 20, 21, 22, 23, 3, 4, 5, 6, 7, 8, 9, 10, 11, 12, 13, 14, 15, 16, 17, 24, 25, 26, 27] rfl rfl
    refine nVN_I (As := [.int x1, .int r6, .int r8]) (rest := []) (wc := (pW cy aP (aJ 0) S3)) (wr := ((oW cy aO (aB 0) e_O_images e_O_tape e_O_reader (aP 0) e_O_trial e_O_season e_O_dates e_O_line e_O_evening e_O_choices SO) ++ ((bW cy aB (als 0) (atd 0) e_B_mentions e_B_claims SB) ++ ((lsW cy als Sls) ++ ((jW cy aJ S4) ++ (tW cy atd Std)))))) (isC := [10, 11, 12, 13, 14, 15, 16, 17, 18, 19, 20]) (isR := [0, 1, 2, 3, 4, 5, 6, 7, 8, 9, 21, 22, 23, 24, 25, 26, 27]) hc hw (c_X3_fits hm) lk_X8_200 ⟨rfl, rfl, rfl, rfl, by decide⟩ rfl rfl ⟨Nat.le_of_ble_eq_true rfl, Nat.le_of_ble_eq_true rfl⟩ ⟨Nat.le_of_ble_eq_true rfl, Nat.le_of_ble_eq_true rfl⟩ hl.1 rfl (Nat.le_of_ble_eq_true rfl) rfl dX8_goes_46 (fun r10 _ H locs hm hw => ?_)
    have hw : wV D A s.heap ((oW cy aO (aB 0) e_O_images e_O_tape e_O_reader (aP 0) e_O_trial e_O_season e_O_dates e_O_line e_O_evening e_O_choices SO) ++ ((bW cy aB (als 0) (atd 0) e_B_mentions e_B_claims SB) ++ ((lsW cy als Sls) ++ ((pW cy aP (aJ 0) S3) ++ ((jW cy aJ S4) ++ (tW cy atd Std)))))) H locs := hw.perm [0, 1, 2, 3, 4, 5, 6, 7, 8, 9, 17, 18, 19, 20, 21, 22, 23, 24, 25, 26, 27, 10, 11, 12, 13, 14, 15, 16] rfl rfl
    refine lv_if_eq (tgt := 56) hx hb dX8_goes_49 (by decide) (fun c12 => ?_) (fun c12 => ?_)
    · have hm := hm.1 c12
      refine lv_iconst (v := 0) hx hb dX8_goes_56 (by decide) ?_
      exact retI (u := (S3, S4)) hc hw hm dX8_goes_57
    · have hm := hm.2 c12
      refine lv_iconst (v := 1) hx hb dX8_goes_52 (by decide) ?_
      refine lv_goto (tgt := 57) hx hb dX8_goes_53 (by decide) ?_
      exact retI (u := (S3, S4)) hc hw hm dX8_goes_57
  · have hm := hm.2 c13
    refine lv_iconst (v := (-1)) hx hb dX8_goes_14 (by decide) ?_
    exact retI (u := (SP, SJ)) hc hw hm dX8_goes_15
set_option maxHeartbeats 4000000 in
set_option maxRecDepth 100000 in
theorem c_X8_best {l : Launch} {D : va_G} {cy : Nat → ClassId} {aO : Nat → Nat} {aB : Nat → Nat} {als : Nat → Nat} {aP : Nat → Nat} {aJ : Nat → Nat} {atd : Nat → Nat} {aLw : Nat → Nat} {e_O_images : Nat} {e_O_tape : Nat} {e_O_reader : Nat} {e_O_trial : Option Nat} {e_O_season : Option Nat} {e_O_dates : Nat} {e_O_line : Nat} {e_O_evening : Nat} {e_O_choices : Nat} {e_B_mentions : Nat} {e_B_claims : Nat} {SO : Ob} {SB : Ob} {Sls : (Nat → Option Nat)} {SP : Ob} {SJ : Ob} {Std : Ob} {SLw : Lw} {x1 : Int32} {x2 : Int32} {Q : Int32 → Ob → Ob → Prop} (hm : w_X8_best aLw SO SB Sls SP SJ Std SLw x1 x2 Q) : CtI l yX8_best cX8_best 3 (some .int) (rmN 6) D cy [.ref (aO 0), .int x1, .int x2] ((oW cy aO (aB 0) e_O_images e_O_tape e_O_reader (aP 0) e_O_trial e_O_season e_O_dates e_O_line e_O_evening e_O_choices SO) ++ ((bW cy aB (als 0) (atd 0) e_B_mentions e_B_claims SB) ++ ((lsW cy als Sls) ++ ((pW cy aP (aJ 0) SP) ++ ((jW cy aJ SJ) ++ ((tW cy atd Std) ++ (lwW cy aLw SLw))))))) (fun u : Ob × Ob => ((oW cy aO (aB 0) e_O_images e_O_tape e_O_reader (aP 0) e_O_trial e_O_season e_O_dates e_O_line e_O_evening e_O_choices SO) ++ ((bW cy aB (als 0) (atd 0) e_B_mentions e_B_claims SB) ++ ((lsW cy als Sls) ++ ((pW cy aP (aJ 0) u.1) ++ ((jW cy aJ u.2) ++ ((tW cy atd Std) ++ (lwW cy aLw SLw)))))))) (fun (r : Int32) (u : Ob × Ob) => Q r u.1 u.2) := by
  refine CtI.ofW (by decide) (Nat.le_of_ble_eq_true rfl) ?_
  intro p e s m args below meth c A ls hc hnm hw hl
  have hx := hc.1.1
  have hb := hc.1.2.1
  have hown := hc.1.2.2.2.1
  have hts := hc.1.2.2.2.2
  have hl : lv_has ls 3 [(0, .ref (aO 0)), (1, .int x1), (2, .int x2)] := hl
  obtain ⟨H, hH⟩ : ∃ z, z = s.heap := ⟨_, rfl⟩
  obtain ⟨locs, hLc⟩ : ∃ z : List Loc, z = [] := ⟨_, rfl⟩
  have hw : wV D A s.heap ((oW cy aO (aB 0) e_O_images e_O_tape e_O_reader (aP 0) e_O_trial e_O_season e_O_dates e_O_line e_O_evening e_O_choices SO) ++ ((bW cy aB (als 0) (atd 0) e_B_mentions e_B_claims SB) ++ ((lsW cy als Sls) ++ ((pW cy aP (aJ 0) SP) ++ ((jW cy aJ SJ) ++ ((tW cy atd Std) ++ (lwW cy aLw SLw))))))) H locs := by rw [hH, hLc]; exact hw
  have hgo : W p l e (rmN 6) s m args below meth c H locs 0 0 (MQ below (eI D cy A (fun u : Ob × Ob => ((oW cy aO (aB 0) e_O_images e_O_tape e_O_reader (aP 0) e_O_trial e_O_season e_O_dates e_O_line e_O_evening e_O_choices SO) ++ ((bW cy aB (als 0) (atd 0) e_B_mentions e_B_claims SB) ++ ((lsW cy als Sls) ++ ((pW cy aP (aJ 0) u.1) ++ ((jW cy aJ u.2) ++ ((tW cy atd Std) ++ (lwW cy aLw SLw)))))))) (fun (r : Int32) (u : Ob × Ob) => Q r u.1 u.2)) args s (rmN 6).cells (rmN 6).slots A) (F0 m 0 ls []) := ?hgo
  · rw [hH, hLc] at hgo; exact hgo
  refine lv_iload_n hx hb dX8_best_0 rfl (lv_at hl 1 rfl) ?_
  refine lv_if_lt (tgt := 18) hx hb dX8_best_1 (by decide) (fun c18 => ?_) (fun c18 => ?_)
  · have hm := hm.1 c18
    refine lv_iconst (v := (-1)) hx hb dX8_best_18 (by decide) ?_
    exact retI (u := (SP, SJ)) hc hw hm dX8_best_19
  · have hm := hm.2 c18
    refine lv_iload_n hx hb dX8_best_4 rfl (lv_at hl 1 rfl) ?_
    refine lv_iconst (v := 1) hx hb dX8_best_5 (by decide) ?_
    refine lv_icmp_gt (tgt := 18) hx hb dX8_best_6 (by decide) (fun c17 => ?_) (fun c17 => ?_)
    · have hm := hm.1 c17
      refine lv_iconst (v := (-1)) hx hb dX8_best_18 (by decide) ?_
      exact retI (u := (SP, SJ)) hc hw hm dX8_best_19
    · have hm := hm.2 c17
      refine lv_iload_n hx hb dX8_best_9 rfl (lv_at hl 2 rfl) ?_
      refine lv_if_lt (tgt := 18) hx hb dX8_best_10 (by decide) (fun c16 => ?_) (fun c16 => ?_)
      · have hm := hm.1 c16
        refine lv_iconst (v := (-1)) hx hb dX8_best_18 (by decide) ?_
        exact retI (u := (SP, SJ)) hc hw hm dX8_best_19
      · have hm := hm.2 c16
        refine lv_iload_n hx hb dX8_best_13 rfl (lv_at hl 2 rfl) ?_
        refine lv_iconst (v := 3) hx hb dX8_best_14 (by decide) ?_
        refine lv_icmp_le (tgt := 20) hx hb dX8_best_15 (by decide) (fun c15 => ?_) (fun c15 => ?_)
        · have hm := hm.1 c15
          refine lv_aload_n hx hb dX8_best_20 rfl (lv_at hl 0 rfl) ?_
          refine gF (k := 8) hc hw inX8 rfl 0 rfl (by decide) (gm 423 (by decide +kernel) rfl) rfl dX8_best_21 ?_
          refine lv_aload_n hx hb dX8_best_24 rfl (lv_at hl 0 rfl) ?_
          refine gF (k := 0) hc hw inX8 rfl 0 rfl (by decide) (gm 415 (by decide +kernel) rfl) rfl dX8_best_25 ?_
          refine nVN_V (As := [.ref (aB 0)]) (rest := []) (wc := ((pW cy aP (aJ 0) SP) ++ ((jW cy aJ SJ) ++ ((bW cy aB (als 0) (atd 0) e_B_mentions e_B_claims SB) ++ ((lsW cy als Sls) ++ (lwW cy aLw SLw)))))) (wr := ((oW cy aO (aB 0) e_O_images e_O_tape e_O_reader (aP 0) e_O_trial e_O_season e_O_dates e_O_line e_O_evening e_O_choices SO) ++ (tW cy atd Std))) (isC := [10, 11, 12, 13, 14, 15, 16, 17, 18, 19, 20, 21, 22, 23, 3, 4, 5, 6, 7, 8, 9, 28, 29, 30, 31, 32]) (isR := [0, 1, 2, 24, 25, 26, 27]) hc hw (c_X3_reckon hm) lk_X8_197 ⟨rfl, rfl, rfl, rfl, by decide⟩ rfl rfl ⟨Nat.le_of_ble_eq_true rfl, Nat.le_of_ble_eq_true rfl⟩ ⟨Nat.le_of_ble_eq_true rfl, Nat.le_of_ble_eq_true rfl⟩ hl.1 rfl (Nat.le_of_ble_eq_true rfl) rfl dX8_best_28 (fun u_2 H locs hm hw => ?_)
          obtain ⟨S1, S2⟩ := u_2
          have hw : wV D A s.heap ((oW cy aO (aB 0) e_O_images e_O_tape e_O_reader (aP 0) e_O_trial e_O_season e_O_dates e_O_line e_O_evening e_O_choices SO) ++ ((bW cy aB (als 0) (atd 0) e_B_mentions e_B_claims SB) ++ ((lsW cy als Sls) ++ ((pW cy aP (aJ 0) S1) ++ ((jW cy aJ S2) ++ ((tW cy atd Std) ++ (lwW cy aLw SLw))))))) H locs := hw.perm [0, 1, 2, 21, 22, 23, 24, 25, 26, 27, 7, 8, 9, 10, 11, 12, 13, 14, 15, 16, 17, 18, 19, 20, 3, 4, 5, 6, 28, 29, 30, 31, 32] rfl rfl
          refine lv_aload_n hx hb dX8_best_31 rfl (lv_at hl 0 rfl) ?_
          refine gF (k := 8) hc hw inX8 rfl 0 rfl (by decide) (gm 423 (by decide +kernel) rfl) rfl dX8_best_32 ?_
          refine lv_aload_n hx hb dX8_best_35 rfl (lv_at hl 0 rfl) ?_
          refine gF (k := 0) hc hw inX8 rfl 0 rfl (by decide) (gm 415 (by decide +kernel) rfl) rfl dX8_best_36 ?_
          refine lv_iload_n hx hb dX8_best_39 rfl (lv_at hl 1 rfl) ?_
          refine lv_iconst (v := 1) hx hb dX8_best_40 (by decide) ?_
          obtain ⟨J5, eJ5, hm⟩ := jn_e hm
          have hJ5 : ∀ (t4 : Int32) (_ : J5 t4) (H : Heap) (locs : List Loc) (ls : Array Slot), wV D A s.heap ((oW cy aO (aB 0) e_O_images e_O_tape e_O_reader (aP 0) e_O_trial e_O_season e_O_dates e_O_line e_O_evening e_O_choices SO) ++ ((bW cy aB (als 0) (atd 0) e_B_mentions e_B_claims SB) ++ ((lsW cy als Sls) ++ ((pW cy aP (aJ 0) S1) ++ ((jW cy aJ S2) ++ ((tW cy atd Std) ++ (lwW cy aLw SLw))))))) H locs → lv_has ls 3 [(0, .ref (aO 0)), (2, .int x2)] → W p l e (rmN 6) s m args below meth c H locs 0 0 (MQ below (eI D cy A (fun u : Ob × Ob => ((oW cy aO (aB 0) e_O_images e_O_tape e_O_reader (aP 0) e_O_trial e_O_season e_O_dates e_O_line e_O_evening e_O_choices SO) ++ ((bW cy aB (als 0) (atd 0) e_B_mentions e_B_claims SB) ++ ((lsW cy als Sls) ++ ((pW cy aP (aJ 0) u.1) ++ ((jW cy aJ u.2) ++ ((tW cy atd Std) ++ (lwW cy aLw SLw)))))))) (fun (r : Int32) (u : Ob × Ob) => Q r u.1 u.2)) args s (rmN 6).cells (rmN 6).slots A) (F0 m 49 ls [.int t4, .ref (aB 0), .ref (aP 0)]) := by
            intro t4 hm H locs ls hw hl
            rw [eJ5] at hm
            refine nVN_V (As := [.ref (aB 0), .int t4]) (rest := []) (wc := ((pW cy aP (aJ 0) S1) ++ ((bW cy aB (als 0) (atd 0) e_B_mentions e_B_claims SB) ++ (tW cy atd Std)))) (wr := ((oW cy aO (aB 0) e_O_images e_O_tape e_O_reader (aP 0) e_O_trial e_O_season e_O_dates e_O_line e_O_evening e_O_choices SO) ++ ((lsW cy als Sls) ++ ((jW cy aJ S2) ++ (lwW cy aLw SLw))))) (isC := [10, 11, 12, 13, 14, 15, 16, 17, 18, 19, 20, 3, 4, 5, 6, 7, 8, 24, 25, 26, 27]) (isR := [0, 1, 2, 9, 21, 22, 23, 28, 29, 30, 31, 32]) hc hw (c_X3_choose hm) lk_X8_204 ⟨rfl, rfl, rfl, rfl, by decide⟩ rfl rfl ⟨Nat.le_of_ble_eq_true rfl, Nat.le_of_ble_eq_true rfl⟩ ⟨Nat.le_of_ble_eq_true rfl, Nat.le_of_ble_eq_true rfl⟩ hl.1 rfl (Nat.le_of_ble_eq_true rfl) rfl dX8_best_49 (fun S6 H locs hm hw => ?_)
            have hw : wV D A s.heap ((oW cy aO (aB 0) e_O_images e_O_tape e_O_reader (aP 0) e_O_trial e_O_season e_O_dates e_O_line e_O_evening e_O_choices SO) ++ ((bW cy aB (als 0) (atd 0) e_B_mentions e_B_claims SB) ++ ((lsW cy als Sls) ++ ((pW cy aP (aJ 0) S6) ++ ((jW cy aJ S2) ++ ((tW cy atd Std) ++ (lwW cy aLw SLw))))))) H locs := hw.perm [0, 1, 2, 23, 24, 25, 26, 27, 28, 3, 12, 13, 14, 15, 16, 17, 18, 19, 20, 21, 22, 4, 5, 6, 29, 30, 31, 32, 7, 8, 9, 10, 11] rfl rfl
            refine lv_iload_n hx hb dX8_best_52 rfl (lv_at hl 1 rfl) ?_
            refine lv_if_ne (tgt := 72) hx hb dX8_best_53 (by decide) (fun c13 => ?_) (fun c13 => ?_)
            · have hm := hm.1 c13
              refine lv_iload_n hx hb dX8_best_72 rfl (lv_at hl 1 rfl) ?_
              refine lv_iconst (v := 1) hx hb dX8_best_73 (by decide) ?_
              refine lv_icmp_ne (tgt := 88) hx hb dX8_best_74 (by decide) (fun c11 => ?_) (fun c11 => ?_)
              · have hm := hm.1 c11
                refine lv_iload_n hx hb dX8_best_88 rfl (lv_at hl 1 rfl) ?_
                refine lv_iconst (v := 2) hx hb dX8_best_89 (by decide) ?_
                refine lv_icmp_ne (tgt := 103) hx hb dX8_best_90 (by decide) (fun c8 => ?_) (fun c8 => ?_)
                · have hm := hm.1 c8
                  refine lv_aload_n hx hb dX8_best_103 rfl (lv_at hl 0 rfl) ?_
                  refine gF (k := 8) hc hw inX8 rfl 0 rfl (by decide) (gm 423 (by decide +kernel) rfl) rfl dX8_best_104 ?_
                  refine gN (k := 16) (host := "OlderTale") hc hw inX3 rfl 10 rfl (by decide) (nmm 350 (by decide +kernel)) rfl dX8_best_107 ?_
                  exact retI (u := (S6, S2)) hc hw hm dX8_best_110
                · have hm := hm.2 c8
                  refine lv_aload_n hx hb dX8_best_93 rfl (lv_at hl 0 rfl) ?_
                  refine gF (k := 8) hc hw inX8 rfl 0 rfl (by decide) (gm 423 (by decide +kernel) rfl) rfl dX8_best_94 ?_
                  refine gN (k := 15) (host := "OlderTale") hc hw inX3 rfl 10 rfl (by decide) (nmm 348 (by decide +kernel)) rfl dX8_best_97 ?_
                  refine lv_goto (tgt := 110) hx hb dX8_best_100 (by decide) ?_
                  exact retI (u := (S6, S2)) hc hw hm dX8_best_110
              · have hm := hm.2 c11
                refine lv_aload_n hx hb dX8_best_77 rfl (lv_at hl 0 rfl) ?_
                refine gF (k := 8) hc hw inX8 rfl 0 rfl (by decide) (gm 423 (by decide +kernel) rfl) rfl dX8_best_78 ?_
                refine gN (k := 15) (host := "OlderTale") hc hw inX3 rfl 10 rfl (by decide) (nmm 348 (by decide +kernel)) rfl dX8_best_81 ?_
                refine zS_I (As := [.int (S6.1 15)]) (rest := []) hc hw (c_J6_bitCount_0f7a4 hm) lk_X8_214 ⟨Nat.le_of_ble_eq_true rfl, Nat.le_of_ble_eq_true rfl⟩ ⟨Nat.le_of_ble_eq_true rfl, Nat.le_of_ble_eq_true rfl⟩ hl.1 rfl (Nat.le_of_ble_eq_true rfl) rfl dX8_best_84 (fun r9 H locs hm hw => ?_)
                exact retI (u := (S6, S2)) hc hw hm dX8_best_87
            · have hm := hm.2 c13
              refine lv_aload_n hx hb dX8_best_56 rfl (lv_at hl 0 rfl) ?_
              refine gF (k := 8) hc hw inX8 rfl 0 rfl (by decide) (gm 423 (by decide +kernel) rfl) rfl dX8_best_57 ?_
              refine gN (k := 10) (host := "OlderTale") hc hw inX3 rfl 10 rfl (by decide) (nmm 341 (by decide +kernel)) rfl dX8_best_60 ?_
              refine lv_aload_n hx hb dX8_best_63 rfl (lv_at hl 0 rfl) ?_
              refine gF (k := 8) hc hw inX8 rfl 0 rfl (by decide) (gm 423 (by decide +kernel) rfl) rfl dX8_best_64 ?_
              refine gN (k := 15) (host := "OlderTale") hc hw inX3 rfl 10 rfl (by decide) (nmm 348 (by decide +kernel)) rfl dX8_best_67 ?_
              obtain ⟨c12, hm⟩ := hm
              refine aI hc hw 16 rfl c12 rfl dX8_best_70 ?_
              exact retI (u := (S6, S2)) hc hw hm dX8_best_71
          refine lv_icmp_ne (tgt := 48) hx hb dX8_best_41 (by decide) (fun c14 => ?_) (fun c14 => ?_)
          · have hm := hm.1 c14
            refine lv_iconst (v := 0) hx hb dX8_best_48 (by decide) ?_
            exact hJ5 _ hm _ _ _ hw (lv_sub hl [0, 2] rfl)
          · have hm := hm.2 c14
            refine lv_iconst (v := 1) hx hb dX8_best_44 (by decide) ?_
            refine lv_goto (tgt := 49) hx hb dX8_best_45 (by decide) ?_
            exact hJ5 _ hm _ _ _ hw (lv_sub hl [0, 2] rfl)
        · have hm := hm.2 c15
          refine lv_iconst (v := (-1)) hx hb dX8_best_18 (by decide) ?_
          exact retI (u := (SP, SJ)) hc hw hm dX8_best_19
set_option maxHeartbeats 4000000 in
set_option maxRecDepth 100000 in
theorem c_X8_bestN {l : Launch} {D : va_G} {cy : Nat → ClassId} {aO : Nat → Nat} {aB : Nat → Nat} {als : Nat → Nat} {aP : Nat → Nat} {aJ : Nat → Nat} {atd : Nat → Nat} {e_O_images : Nat} {e_O_tape : Nat} {e_O_reader : Nat} {e_O_trial : Option Nat} {e_O_season : Option Nat} {e_O_dates : Nat} {e_O_line : Nat} {e_O_evening : Nat} {e_O_choices : Nat} {e_B_mentions : Nat} {e_B_claims : Nat} {SO : Ob} {SB : Ob} {Sls : (Nat → Option Nat)} {SP : Ob} {SJ : Ob} {Std : Ob} {x1 : Int32} {x2 : Int32} {Q : Int32 → Ob → Ob → Prop} (hm : w_X8_bestN SO SB Sls SP SJ Std x1 x2 Q) : CtI l yX8_best cX8_best 3 (some .int) (rmN 6) D cy [.ref (aO 0), .int x1, .int x2] ((oW cy aO (aB 0) e_O_images e_O_tape e_O_reader (aP 0) e_O_trial e_O_season e_O_dates e_O_line e_O_evening e_O_choices SO) ++ ((bW cy aB (als 0) (atd 0) e_B_mentions e_B_claims SB) ++ ((lsW cy als Sls) ++ ((pW cy aP (aJ 0) SP) ++ ((jW cy aJ SJ) ++ (tW cy atd Std)))))) (fun u : Ob × Ob => ((oW cy aO (aB 0) e_O_images e_O_tape e_O_reader (aP 0) e_O_trial e_O_season e_O_dates e_O_line e_O_evening e_O_choices SO) ++ ((bW cy aB (als 0) (atd 0) e_B_mentions e_B_claims SB) ++ ((lsW cy als Sls) ++ ((pW cy aP (aJ 0) u.1) ++ ((jW cy aJ u.2) ++ (tW cy atd Std))))))) (fun (r : Int32) (u : Ob × Ob) => Q r u.1 u.2) := by
  refine CtI.ofW (by decide) (Nat.le_of_ble_eq_true rfl) ?_
  intro p e s m args below meth c A ls hc hnm hw hl
  have hx := hc.1.1
  have hb := hc.1.2.1
  have hown := hc.1.2.2.2.1
  have hts := hc.1.2.2.2.2
  have hl : lv_has ls 3 [(0, .ref (aO 0)), (1, .int x1), (2, .int x2)] := hl
  obtain ⟨H, hH⟩ : ∃ z, z = s.heap := ⟨_, rfl⟩
  obtain ⟨locs, hLc⟩ : ∃ z : List Loc, z = [] := ⟨_, rfl⟩
  have hw : wV D A s.heap ((oW cy aO (aB 0) e_O_images e_O_tape e_O_reader (aP 0) e_O_trial e_O_season e_O_dates e_O_line e_O_evening e_O_choices SO) ++ ((bW cy aB (als 0) (atd 0) e_B_mentions e_B_claims SB) ++ ((lsW cy als Sls) ++ ((pW cy aP (aJ 0) SP) ++ ((jW cy aJ SJ) ++ (tW cy atd Std)))))) H locs := by rw [hH, hLc]; exact hw
  have hgo : W p l e (rmN 6) s m args below meth c H locs 0 0 (MQ below (eI D cy A (fun u : Ob × Ob => ((oW cy aO (aB 0) e_O_images e_O_tape e_O_reader (aP 0) e_O_trial e_O_season e_O_dates e_O_line e_O_evening e_O_choices SO) ++ ((bW cy aB (als 0) (atd 0) e_B_mentions e_B_claims SB) ++ ((lsW cy als Sls) ++ ((pW cy aP (aJ 0) u.1) ++ ((jW cy aJ u.2) ++ (tW cy atd Std))))))) (fun (r : Int32) (u : Ob × Ob) => Q r u.1 u.2)) args s (rmN 6).cells (rmN 6).slots A) (F0 m 0 ls []) := ?hgo
  · rw [hH, hLc] at hgo; exact hgo
  refine lv_iload_n hx hb dX8_best_0 rfl (lv_at hl 1 rfl) ?_
  refine lv_if_lt (tgt := 18) hx hb dX8_best_1 (by decide) (fun c18 => ?_) (fun c18 => ?_)
  · have hm := hm.1 c18
    refine lv_iconst (v := (-1)) hx hb dX8_best_18 (by decide) ?_
    exact retI (u := (SP, SJ)) hc hw hm dX8_best_19
  · have hm := hm.2 c18
    refine lv_iload_n hx hb dX8_best_4 rfl (lv_at hl 1 rfl) ?_
    refine lv_iconst (v := 1) hx hb dX8_best_5 (by decide) ?_
    refine lv_icmp_gt (tgt := 18) hx hb dX8_best_6 (by decide) (fun c17 => ?_) (fun c17 => ?_)
    · have hm := hm.1 c17
      refine lv_iconst (v := (-1)) hx hb dX8_best_18 (by decide) ?_
      exact retI (u := (SP, SJ)) hc hw hm dX8_best_19
    · have hm := hm.2 c17
      refine lv_iload_n hx hb dX8_best_9 rfl (lv_at hl 2 rfl) ?_
      refine lv_if_lt (tgt := 18) hx hb dX8_best_10 (by decide) (fun c16 => ?_) (fun c16 => ?_)
      · have hm := hm.1 c16
        refine lv_iconst (v := (-1)) hx hb dX8_best_18 (by decide) ?_
        exact retI (u := (SP, SJ)) hc hw hm dX8_best_19
      · have hm := hm.2 c16
        refine lv_iload_n hx hb dX8_best_13 rfl (lv_at hl 2 rfl) ?_
        refine lv_iconst (v := 3) hx hb dX8_best_14 (by decide) ?_
        refine lv_icmp_le (tgt := 20) hx hb dX8_best_15 (by decide) (fun c15 => ?_) (fun c15 => ?_)
        · have hm := hm.1 c15
          refine lv_aload_n hx hb dX8_best_20 rfl (lv_at hl 0 rfl) ?_
          refine gF (k := 8) hc hw inX8 rfl 0 rfl (by decide) (gm 423 (by decide +kernel) rfl) rfl dX8_best_21 ?_
          refine lv_aload_n hx hb dX8_best_24 rfl (lv_at hl 0 rfl) ?_
          refine gF (k := 0) hc hw inX8 rfl 0 rfl (by decide) (gm 415 (by decide +kernel) rfl) rfl dX8_best_25 ?_
          refine nVN_V (As := [.ref (aB 0)]) (rest := []) (wc := ((pW cy aP (aJ 0) SP) ++ ((jW cy aJ SJ) ++ ((bW cy aB (als 0) (atd 0) e_B_mentions e_B_claims SB) ++ (lsW cy als Sls))))) (wr := ((oW cy aO (aB 0) e_O_images e_O_tape e_O_reader (aP 0) e_O_trial e_O_season e_O_dates e_O_line e_O_evening e_O_choices SO) ++ (tW cy atd Std))) (isC := [10, 11, 12, 13, 14, 15, 16, 17, 18, 19, 20, 21, 22, 23, 3, 4, 5, 6, 7, 8, 9]) (isR := [0, 1, 2, 24, 25, 26, 27]) hc hw (c_X3_reckonN hm) lk_X8_197 ⟨rfl, rfl, rfl, rfl, by decide⟩ rfl rfl ⟨Nat.le_of_ble_eq_true rfl, Nat.le_of_ble_eq_true rfl⟩ ⟨Nat.le_of_ble_eq_true rfl, Nat.le_of_ble_eq_true rfl⟩ hl.1 rfl (Nat.le_of_ble_eq_true rfl) rfl dX8_best_28 (fun u_2 H locs hm hw => ?_)
          obtain ⟨S1, S2⟩ := u_2
          have hw : wV D A s.heap ((oW cy aO (aB 0) e_O_images e_O_tape e_O_reader (aP 0) e_O_trial e_O_season e_O_dates e_O_line e_O_evening e_O_choices SO) ++ ((bW cy aB (als 0) (atd 0) e_B_mentions e_B_claims SB) ++ ((lsW cy als Sls) ++ ((pW cy aP (aJ 0) S1) ++ ((jW cy aJ S2) ++ (tW cy atd Std)))))) H locs := hw.perm [0, 1, 2, 21, 22, 23, 24, 25, 26, 27, 7, 8, 9, 10, 11, 12, 13, 14, 15, 16, 17, 18, 19, 20, 3, 4, 5, 6] rfl rfl
          refine lv_aload_n hx hb dX8_best_31 rfl (lv_at hl 0 rfl) ?_
          refine gF (k := 8) hc hw inX8 rfl 0 rfl (by decide) (gm 423 (by decide +kernel) rfl) rfl dX8_best_32 ?_
          refine lv_aload_n hx hb dX8_best_35 rfl (lv_at hl 0 rfl) ?_
          refine gF (k := 0) hc hw inX8 rfl 0 rfl (by decide) (gm 415 (by decide +kernel) rfl) rfl dX8_best_36 ?_
          refine lv_iload_n hx hb dX8_best_39 rfl (lv_at hl 1 rfl) ?_
          refine lv_iconst (v := 1) hx hb dX8_best_40 (by decide) ?_
          obtain ⟨J5, eJ5, hm⟩ := jn_e hm
          have hJ5 : ∀ (t4 : Int32) (_ : J5 t4) (H : Heap) (locs : List Loc) (ls : Array Slot), wV D A s.heap ((oW cy aO (aB 0) e_O_images e_O_tape e_O_reader (aP 0) e_O_trial e_O_season e_O_dates e_O_line e_O_evening e_O_choices SO) ++ ((bW cy aB (als 0) (atd 0) e_B_mentions e_B_claims SB) ++ ((lsW cy als Sls) ++ ((pW cy aP (aJ 0) S1) ++ ((jW cy aJ S2) ++ (tW cy atd Std)))))) H locs → lv_has ls 3 [(0, .ref (aO 0)), (2, .int x2)] → W p l e (rmN 6) s m args below meth c H locs 0 0 (MQ below (eI D cy A (fun u : Ob × Ob => ((oW cy aO (aB 0) e_O_images e_O_tape e_O_reader (aP 0) e_O_trial e_O_season e_O_dates e_O_line e_O_evening e_O_choices SO) ++ ((bW cy aB (als 0) (atd 0) e_B_mentions e_B_claims SB) ++ ((lsW cy als Sls) ++ ((pW cy aP (aJ 0) u.1) ++ ((jW cy aJ u.2) ++ (tW cy atd Std))))))) (fun (r : Int32) (u : Ob × Ob) => Q r u.1 u.2)) args s (rmN 6).cells (rmN 6).slots A) (F0 m 49 ls [.int t4, .ref (aB 0), .ref (aP 0)]) := by
            intro t4 hm H locs ls hw hl
            rw [eJ5] at hm
            refine nVN_V (As := [.ref (aB 0), .int t4]) (rest := []) (wc := ((pW cy aP (aJ 0) S1) ++ ((bW cy aB (als 0) (atd 0) e_B_mentions e_B_claims SB) ++ (tW cy atd Std)))) (wr := ((oW cy aO (aB 0) e_O_images e_O_tape e_O_reader (aP 0) e_O_trial e_O_season e_O_dates e_O_line e_O_evening e_O_choices SO) ++ ((lsW cy als Sls) ++ (jW cy aJ S2)))) (isC := [10, 11, 12, 13, 14, 15, 16, 17, 18, 19, 20, 3, 4, 5, 6, 7, 8, 24, 25, 26, 27]) (isR := [0, 1, 2, 9, 21, 22, 23]) hc hw (c_X3_choose hm) lk_X8_204 ⟨rfl, rfl, rfl, rfl, by decide⟩ rfl rfl ⟨Nat.le_of_ble_eq_true rfl, Nat.le_of_ble_eq_true rfl⟩ ⟨Nat.le_of_ble_eq_true rfl, Nat.le_of_ble_eq_true rfl⟩ hl.1 rfl (Nat.le_of_ble_eq_true rfl) rfl dX8_best_49 (fun S6 H locs hm hw => ?_)
            have hw : wV D A s.heap ((oW cy aO (aB 0) e_O_images e_O_tape e_O_reader (aP 0) e_O_trial e_O_season e_O_dates e_O_line e_O_evening e_O_choices SO) ++ ((bW cy aB (als 0) (atd 0) e_B_mentions e_B_claims SB) ++ ((lsW cy als Sls) ++ ((pW cy aP (aJ 0) S6) ++ ((jW cy aJ S2) ++ (tW cy atd Std)))))) H locs := hw.perm [0, 1, 2, 18, 19, 20, 21, 22, 23, 3, 7, 8, 9, 10, 11, 12, 13, 14, 15, 16, 17, 4, 5, 6, 24, 25, 26, 27] rfl rfl
            refine lv_iload_n hx hb dX8_best_52 rfl (lv_at hl 1 rfl) ?_
            refine lv_if_ne (tgt := 72) hx hb dX8_best_53 (by decide) (fun c13 => ?_) (fun c13 => ?_)
            · have hm := hm.1 c13
              refine lv_iload_n hx hb dX8_best_72 rfl (lv_at hl 1 rfl) ?_
              refine lv_iconst (v := 1) hx hb dX8_best_73 (by decide) ?_
              refine lv_icmp_ne (tgt := 88) hx hb dX8_best_74 (by decide) (fun c11 => ?_) (fun c11 => ?_)
              · have hm := hm.1 c11
                refine lv_iload_n hx hb dX8_best_88 rfl (lv_at hl 1 rfl) ?_
                refine lv_iconst (v := 2) hx hb dX8_best_89 (by decide) ?_
                refine lv_icmp_ne (tgt := 103) hx hb dX8_best_90 (by decide) (fun c8 => ?_) (fun c8 => ?_)
                · have hm := hm.1 c8
                  refine lv_aload_n hx hb dX8_best_103 rfl (lv_at hl 0 rfl) ?_
                  refine gF (k := 8) hc hw inX8 rfl 0 rfl (by decide) (gm 423 (by decide +kernel) rfl) rfl dX8_best_104 ?_
                  refine gN (k := 16) (host := "OlderTale") hc hw inX3 rfl 10 rfl (by decide) (nmm 350 (by decide +kernel)) rfl dX8_best_107 ?_
                  exact retI (u := (S6, S2)) hc hw hm dX8_best_110
                · have hm := hm.2 c8
                  refine lv_aload_n hx hb dX8_best_93 rfl (lv_at hl 0 rfl) ?_
                  refine gF (k := 8) hc hw inX8 rfl 0 rfl (by decide) (gm 423 (by decide +kernel) rfl) rfl dX8_best_94 ?_
                  refine gN (k := 15) (host := "OlderTale") hc hw inX3 rfl 10 rfl (by decide) (nmm 348 (by decide +kernel)) rfl dX8_best_97 ?_
                  refine lv_goto (tgt := 110) hx hb dX8_best_100 (by decide) ?_
                  exact retI (u := (S6, S2)) hc hw hm dX8_best_110
              · have hm := hm.2 c11
                refine lv_aload_n hx hb dX8_best_77 rfl (lv_at hl 0 rfl) ?_
                refine gF (k := 8) hc hw inX8 rfl 0 rfl (by decide) (gm 423 (by decide +kernel) rfl) rfl dX8_best_78 ?_
                refine gN (k := 15) (host := "OlderTale") hc hw inX3 rfl 10 rfl (by decide) (nmm 348 (by decide +kernel)) rfl dX8_best_81 ?_
                refine zS_I (As := [.int (S6.1 15)]) (rest := []) hc hw (c_J6_bitCount_0f7a4 hm) lk_X8_214 ⟨Nat.le_of_ble_eq_true rfl, Nat.le_of_ble_eq_true rfl⟩ ⟨Nat.le_of_ble_eq_true rfl, Nat.le_of_ble_eq_true rfl⟩ hl.1 rfl (Nat.le_of_ble_eq_true rfl) rfl dX8_best_84 (fun r9 H locs hm hw => ?_)
                exact retI (u := (S6, S2)) hc hw hm dX8_best_87
            · have hm := hm.2 c13
              refine lv_aload_n hx hb dX8_best_56 rfl (lv_at hl 0 rfl) ?_
              refine gF (k := 8) hc hw inX8 rfl 0 rfl (by decide) (gm 423 (by decide +kernel) rfl) rfl dX8_best_57 ?_
              refine gN (k := 10) (host := "OlderTale") hc hw inX3 rfl 10 rfl (by decide) (nmm 341 (by decide +kernel)) rfl dX8_best_60 ?_
              refine lv_aload_n hx hb dX8_best_63 rfl (lv_at hl 0 rfl) ?_
              refine gF (k := 8) hc hw inX8 rfl 0 rfl (by decide) (gm 423 (by decide +kernel) rfl) rfl dX8_best_64 ?_
              refine gN (k := 15) (host := "OlderTale") hc hw inX3 rfl 10 rfl (by decide) (nmm 348 (by decide +kernel)) rfl dX8_best_67 ?_
              obtain ⟨c12, hm⟩ := hm
              refine aI hc hw 16 rfl c12 rfl dX8_best_70 ?_
              exact retI (u := (S6, S2)) hc hw hm dX8_best_71
          refine lv_icmp_ne (tgt := 48) hx hb dX8_best_41 (by decide) (fun c14 => ?_) (fun c14 => ?_)
          · have hm := hm.1 c14
            refine lv_iconst (v := 0) hx hb dX8_best_48 (by decide) ?_
            exact hJ5 _ hm _ _ _ hw (lv_sub hl [0, 2] rfl)
          · have hm := hm.2 c14
            refine lv_iconst (v := 1) hx hb dX8_best_44 (by decide) ?_
            refine lv_goto (tgt := 49) hx hb dX8_best_45 (by decide) ?_
            exact hJ5 _ hm _ _ _ hw (lv_sub hl [0, 2] rfl)
        · have hm := hm.2 c15
          refine lv_iconst (v := (-1)) hx hb dX8_best_18 (by decide) ?_
          exact retI (u := (SP, SJ)) hc hw hm dX8_best_19
set_option maxHeartbeats 4000000 in
set_option maxRecDepth 100000 in
theorem c_X8_orders {l : Launch} {D : va_G} {cy : Nat → ClassId} {aO : Nat → Nat} {aB : Nat → Nat} {als : Nat → Nat} {aP : Nat → Nat} {aJ : Nat → Nat} {atd : Nat → Nat} {aLw : Nat → Nat} {e_O_images : Nat} {e_O_tape : Nat} {e_O_reader : Nat} {e_O_trial : Option Nat} {e_O_season : Option Nat} {e_O_dates : Nat} {e_O_line : Nat} {e_O_evening : Nat} {e_O_choices : Nat} {e_B_mentions : Nat} {e_B_claims : Nat} {SO : Ob} {SB : Ob} {Sls : (Nat → Option Nat)} {SP : Ob} {SJ : Ob} {Std : Ob} {SLw : Lw} {x1 : Int32} {Q : Int32 → Ob → Ob → Prop} (hm : w_X8_orders aLw SO SB Sls SP SJ Std SLw x1 Q) : CtI l yX8_orders cX8_orders 2 (some .int) (rmN 52) D cy [.ref (aO 0), .int x1] ((oW cy aO (aB 0) e_O_images e_O_tape e_O_reader (aP 0) e_O_trial e_O_season e_O_dates e_O_line e_O_evening e_O_choices SO) ++ ((bW cy aB (als 0) (atd 0) e_B_mentions e_B_claims SB) ++ ((lsW cy als Sls) ++ ((pW cy aP (aJ 0) SP) ++ ((jW cy aJ SJ) ++ ((tW cy atd Std) ++ (lwW cy aLw SLw))))))) (fun u : Ob × Ob => ((oW cy aO (aB 0) e_O_images e_O_tape e_O_reader (aP 0) e_O_trial e_O_season e_O_dates e_O_line e_O_evening e_O_choices SO) ++ ((bW cy aB (als 0) (atd 0) e_B_mentions e_B_claims SB) ++ ((lsW cy als Sls) ++ ((pW cy aP (aJ 0) u.1) ++ ((jW cy aJ u.2) ++ ((tW cy atd Std) ++ (lwW cy aLw SLw)))))))) (fun (r : Int32) (u : Ob × Ob) => Q r u.1 u.2) := by
  refine CtI.ofW (by decide) (Nat.le_of_ble_eq_true rfl) ?_
  intro p e s m args below meth c A ls hc hnm hw hl
  have hx := hc.1.1
  have hb := hc.1.2.1
  have hown := hc.1.2.2.2.1
  have hts := hc.1.2.2.2.2
  have hl : lv_has ls 2 [(0, .ref (aO 0)), (1, .int x1)] := hl
  obtain ⟨H, hH⟩ : ∃ z, z = s.heap := ⟨_, rfl⟩
  obtain ⟨locs, hLc⟩ : ∃ z : List Loc, z = [] := ⟨_, rfl⟩
  have hw : wV D A s.heap ((oW cy aO (aB 0) e_O_images e_O_tape e_O_reader (aP 0) e_O_trial e_O_season e_O_dates e_O_line e_O_evening e_O_choices SO) ++ ((bW cy aB (als 0) (atd 0) e_B_mentions e_B_claims SB) ++ ((lsW cy als Sls) ++ ((pW cy aP (aJ 0) SP) ++ ((jW cy aJ SJ) ++ ((tW cy atd Std) ++ (lwW cy aLw SLw))))))) H locs := by rw [hH, hLc]; exact hw
  have hgo : W p l e (rmN 52) s m args below meth c H locs 0 0 (MQ below (eI D cy A (fun u : Ob × Ob => ((oW cy aO (aB 0) e_O_images e_O_tape e_O_reader (aP 0) e_O_trial e_O_season e_O_dates e_O_line e_O_evening e_O_choices SO) ++ ((bW cy aB (als 0) (atd 0) e_B_mentions e_B_claims SB) ++ ((lsW cy als Sls) ++ ((pW cy aP (aJ 0) u.1) ++ ((jW cy aJ u.2) ++ ((tW cy atd Std) ++ (lwW cy aLw SLw)))))))) (fun (r : Int32) (u : Ob × Ob) => Q r u.1 u.2)) args s (rmN 52).cells (rmN 52).slots A) (F0 m 0 ls []) := ?hgo
  · rw [hH, hLc] at hgo; exact hgo
  refine lv_iload_n hx hb dX8_orders_0 rfl (lv_at hl 1 rfl) ?_
  refine lv_aload_n hx hb dX8_orders_1 rfl (lv_at hl 0 rfl) ?_
  refine gF (k := 0) hc hw inX8 rfl 0 rfl (by decide) (gm 415 (by decide +kernel) rfl) rfl dX8_orders_2 ?_
  refine nVN_I (As := []) (rest := [.int x1]) (wc := ((bW cy aB (als 0) (atd 0) e_B_mentions e_B_claims SB) ++ (tW cy atd Std))) (wr := ((oW cy aO (aB 0) e_O_images e_O_tape e_O_reader (aP 0) e_O_trial e_O_season e_O_dates e_O_line e_O_evening e_O_choices SO) ++ ((lsW cy als Sls) ++ ((pW cy aP (aJ 0) SP) ++ ((jW cy aJ SJ) ++ (lwW cy aLw SLw)))))) (isC := [3, 4, 5, 6, 7, 8, 24, 25, 26, 27]) (isR := [0, 1, 2, 9, 10, 11, 12, 13, 14, 15, 16, 17, 18, 19, 20, 21, 22, 23, 28, 29, 30, 31, 32]) hc hw (c_X6_untold hm) lk_X8_194 ⟨rfl, rfl, rfl, rfl, by decide⟩ rfl rfl ⟨Nat.le_of_ble_eq_true rfl, Nat.le_of_ble_eq_true rfl⟩ ⟨Nat.le_of_ble_eq_true rfl, Nat.le_of_ble_eq_true rfl⟩ hl.1 rfl (Nat.le_of_ble_eq_true rfl) rfl dX8_orders_5 (fun r1 _ H locs hm hw => ?_)
  have hw : wV D A s.heap ((oW cy aO (aB 0) e_O_images e_O_tape e_O_reader (aP 0) e_O_trial e_O_season e_O_dates e_O_line e_O_evening e_O_choices SO) ++ ((bW cy aB (als 0) (atd 0) e_B_mentions e_B_claims SB) ++ ((lsW cy als Sls) ++ ((pW cy aP (aJ 0) SP) ++ ((jW cy aJ SJ) ++ ((tW cy atd Std) ++ (lwW cy aLw SLw))))))) H locs := hw.perm [0, 1, 2, 23, 24, 25, 26, 27, 28, 3, 4, 5, 6, 7, 8, 9, 10, 11, 12, 13, 14, 15, 16, 17, 29, 30, 31, 32, 18, 19, 20, 21, 22] rfl rfl
  refine lv_iconst (v := (-1)) hx hb dX8_orders_8 (by decide) ?_
  refine lv_ixor hx hb dX8_orders_9 ?_
  refine lv_iand hx hb dX8_orders_10 ?_
  refine lv_if_ne (tgt := 23) hx hb dX8_orders_11 (by decide) (fun c15 => ?_) (fun c15 => ?_)
  · have hm := hm.1 c15
    refine lv_iconst (v := (-1)) hx hb dX8_orders_23 (by decide) ?_
    exact retI (u := (SP, SJ)) hc hw hm dX8_orders_24
  · have hm := hm.2 c15
    refine lv_iload_n hx hb dX8_orders_14 rfl (lv_at hl 1 rfl) ?_
    refine zS_I (As := [.int x1]) (rest := []) hc hw (c_J6_bitCount_0f7a4 hm) lk_X8_214 ⟨Nat.le_of_ble_eq_true rfl, Nat.le_of_ble_eq_true rfl⟩ ⟨Nat.le_of_ble_eq_true rfl, Nat.le_of_ble_eq_true rfl⟩ hl.1 rfl (Nat.le_of_ble_eq_true rfl) rfl dX8_orders_15 (fun r3 H locs hm hw => ?_)
    refine lv_bipush (v := 7) hx hb dX8_orders_18 (by decide) ?_
    refine lv_icmp_le (tgt := 25) hx hb dX8_orders_20 (by decide) (fun c14 => ?_) (fun c14 => ?_)
    · have hm := hm.1 c14
      refine lv_aload_n hx hb dX8_orders_25 rfl (lv_at hl 0 rfl) ?_
      refine gF (k := 8) hc hw inX8 rfl 0 rfl (by decide) (gm 423 (by decide +kernel) rfl) rfl dX8_orders_26 ?_
      refine lv_aload_n hx hb dX8_orders_29 rfl (lv_at hl 0 rfl) ?_
      refine gF (k := 0) hc hw inX8 rfl 0 rfl (by decide) (gm 415 (by decide +kernel) rfl) rfl dX8_orders_30 ?_
      refine nVN_V (As := [.ref (aB 0)]) (rest := []) (wc := ((pW cy aP (aJ 0) SP) ++ ((jW cy aJ SJ) ++ ((bW cy aB (als 0) (atd 0) e_B_mentions e_B_claims SB) ++ ((lsW cy als Sls) ++ (lwW cy aLw SLw)))))) (wr := ((oW cy aO (aB 0) e_O_images e_O_tape e_O_reader (aP 0) e_O_trial e_O_season e_O_dates e_O_line e_O_evening e_O_choices SO) ++ (tW cy atd Std))) (isC := [10, 11, 12, 13, 14, 15, 16, 17, 18, 19, 20, 21, 22, 23, 3, 4, 5, 6, 7, 8, 9, 28, 29, 30, 31, 32]) (isR := [0, 1, 2, 24, 25, 26, 27]) hc hw (c_X3_weigh hm) lk_X8_124 ⟨rfl, rfl, rfl, rfl, by decide⟩ rfl rfl ⟨Nat.le_of_ble_eq_true rfl, Nat.le_of_ble_eq_true rfl⟩ ⟨Nat.le_of_ble_eq_true rfl, Nat.le_of_ble_eq_true rfl⟩ hl.1 rfl (Nat.le_of_ble_eq_true rfl) rfl dX8_orders_33 (fun u_6 H locs hm hw => ?_)
      obtain ⟨S5, S6⟩ := u_6
      have hw : wV D A s.heap ((oW cy aO (aB 0) e_O_images e_O_tape e_O_reader (aP 0) e_O_trial e_O_season e_O_dates e_O_line e_O_evening e_O_choices SO) ++ ((bW cy aB (als 0) (atd 0) e_B_mentions e_B_claims SB) ++ ((lsW cy als Sls) ++ ((pW cy aP (aJ 0) S5) ++ ((jW cy aJ S6) ++ ((tW cy atd Std) ++ (lwW cy aLw SLw))))))) H locs := hw.perm [0, 1, 2, 21, 22, 23, 24, 25, 26, 27, 7, 8, 9, 10, 11, 12, 13, 14, 15, 16, 17, 18, 19, 20, 3, 4, 5, 6, 28, 29, 30, 31, 32] rfl rfl
      refine lv_aload_n hx hb dX8_orders_36 rfl (lv_at hl 0 rfl) ?_
      refine gF (k := 8) hc hw inX8 rfl 0 rfl (by decide) (gm 423 (by decide +kernel) rfl) rfl dX8_orders_37 ?_
      refine lv_iload_n hx hb dX8_orders_40 rfl (lv_at hl 1 rfl) ?_
      refine lv_aload_n hx hb dX8_orders_41 rfl (lv_at hl 0 rfl) ?_
      refine gF (k := 0) hc hw inX8 rfl 0 rfl (by decide) (gm 415 (by decide +kernel) rfl) rfl dX8_orders_42 ?_
      refine nVN_I (As := []) (rest := [.int x1, .ref (aP 0)]) (wc := ((bW cy aB (als 0) (atd 0) e_B_mentions e_B_claims SB) ++ (tW cy atd Std))) (wr := ((oW cy aO (aB 0) e_O_images e_O_tape e_O_reader (aP 0) e_O_trial e_O_season e_O_dates e_O_line e_O_evening e_O_choices SO) ++ ((lsW cy als Sls) ++ ((pW cy aP (aJ 0) S5) ++ ((jW cy aJ S6) ++ (lwW cy aLw SLw)))))) (isC := [3, 4, 5, 6, 7, 8, 24, 25, 26, 27]) (isR := [0, 1, 2, 9, 10, 11, 12, 13, 14, 15, 16, 17, 18, 19, 20, 21, 22, 23, 28, 29, 30, 31, 32]) hc hw (c_X6_lastYear hm) lk_X8_165 ⟨rfl, rfl, rfl, rfl, by decide⟩ rfl rfl ⟨Nat.le_of_ble_eq_true rfl, Nat.le_of_ble_eq_true rfl⟩ ⟨Nat.le_of_ble_eq_true rfl, Nat.le_of_ble_eq_true rfl⟩ hl.1 rfl (Nat.le_of_ble_eq_true rfl) rfl dX8_orders_45 (fun r8 _ H locs hm hw => ?_)
      have hw : wV D A s.heap ((oW cy aO (aB 0) e_O_images e_O_tape e_O_reader (aP 0) e_O_trial e_O_season e_O_dates e_O_line e_O_evening e_O_choices SO) ++ ((bW cy aB (als 0) (atd 0) e_B_mentions e_B_claims SB) ++ ((lsW cy als Sls) ++ ((pW cy aP (aJ 0) S5) ++ ((jW cy aJ S6) ++ ((tW cy atd Std) ++ (lwW cy aLw SLw))))))) H locs := hw.perm [0, 1, 2, 23, 24, 25, 26, 27, 28, 3, 4, 5, 6, 7, 8, 9, 10, 11, 12, 13, 14, 15, 16, 17, 29, 30, 31, 32, 18, 19, 20, 21, 22] rfl rfl
      refine lv_iconst (v := 1) hx hb dX8_orders_48 (by decide) ?_
      refine lv_aload_n hx hb dX8_orders_49 rfl (lv_at hl 0 rfl) ?_
      refine gF (k := 0) hc hw inX8 rfl 0 rfl (by decide) (gm 415 (by decide +kernel) rfl) rfl dX8_orders_50 ?_
      refine nVN_I (As := []) (rest := [.int 1, .int r8, .int x1, .ref (aP 0)]) (wc := ((bW cy aB (als 0) (atd 0) e_B_mentions e_B_claims SB) ++ (tW cy atd Std))) (wr := ((oW cy aO (aB 0) e_O_images e_O_tape e_O_reader (aP 0) e_O_trial e_O_season e_O_dates e_O_line e_O_evening e_O_choices SO) ++ ((lsW cy als Sls) ++ ((pW cy aP (aJ 0) S5) ++ ((jW cy aJ S6) ++ (lwW cy aLw SLw)))))) (isC := [3, 4, 5, 6, 7, 8, 24, 25, 26, 27]) (isR := [0, 1, 2, 9, 10, 11, 12, 13, 14, 15, 16, 17, 18, 19, 20, 21, 22, 23, 28, 29, 30, 31, 32]) hc hw (c_X6_lastTeller hm) lk_X8_173 ⟨rfl, rfl, rfl, rfl, by decide⟩ rfl rfl ⟨Nat.le_of_ble_eq_true rfl, Nat.le_of_ble_eq_true rfl⟩ ⟨Nat.le_of_ble_eq_true rfl, Nat.le_of_ble_eq_true rfl⟩ hl.1 rfl (Nat.le_of_ble_eq_true rfl) rfl dX8_orders_53 (fun r10 _ H locs hm hw => ?_)
      have hw : wV D A s.heap ((oW cy aO (aB 0) e_O_images e_O_tape e_O_reader (aP 0) e_O_trial e_O_season e_O_dates e_O_line e_O_evening e_O_choices SO) ++ ((bW cy aB (als 0) (atd 0) e_B_mentions e_B_claims SB) ++ ((lsW cy als Sls) ++ ((pW cy aP (aJ 0) S5) ++ ((jW cy aJ S6) ++ ((tW cy atd Std) ++ (lwW cy aLw SLw))))))) H locs := hw.perm [0, 1, 2, 23, 24, 25, 26, 27, 28, 3, 4, 5, 6, 7, 8, 9, 10, 11, 12, 13, 14, 15, 16, 17, 29, 30, 31, 32, 18, 19, 20, 21, 22] rfl rfl
      refine lv_ishl hx hb dX8_orders_56 ?_
      refine lv_iconst (v := 0) hx hb dX8_orders_57 (by decide) ?_
      refine nVN_I (As := [.int x1, .int r8, .int ((1 : Int32) <<< (r10 &&& 31)), .int 0]) (rest := []) (wc := (pW cy aP (aJ 0) S5)) (wr := ((oW cy aO (aB 0) e_O_images e_O_tape e_O_reader (aP 0) e_O_trial e_O_season e_O_dates e_O_line e_O_evening e_O_choices SO) ++ ((bW cy aB (als 0) (atd 0) e_B_mentions e_B_claims SB) ++ ((lsW cy als Sls) ++ ((jW cy aJ S6) ++ ((tW cy atd Std) ++ (lwW cy aLw SLw))))))) (isC := [10, 11, 12, 13, 14, 15, 16, 17, 18, 19, 20]) (isR := [0, 1, 2, 3, 4, 5, 6, 7, 8, 9, 21, 22, 23, 24, 25, 26, 27, 28, 29, 30, 31, 32]) hc hw (c_X3_rows 12 _ _ _ _ _ _ hm) lk_X8_226 ⟨rfl, rfl, rfl, rfl, by decide⟩ rfl rfl (rm_ok (by omega) (by omega)) ⟨Nat.le_of_ble_eq_true rfl, Nat.le_of_ble_eq_true rfl⟩ hl.1 rfl (Nat.le_of_ble_eq_true rfl) rfl dX8_orders_58 (fun r12 _ H locs hm hw => ?_)
      have hw : wV D A s.heap ((oW cy aO (aB 0) e_O_images e_O_tape e_O_reader (aP 0) e_O_trial e_O_season e_O_dates e_O_line e_O_evening e_O_choices SO) ++ ((bW cy aB (als 0) (atd 0) e_B_mentions e_B_claims SB) ++ ((lsW cy als Sls) ++ ((pW cy aP (aJ 0) S5) ++ ((jW cy aJ S6) ++ ((tW cy atd Std) ++ (lwW cy aLw SLw))))))) H locs := hw.perm [0, 1, 2, 3, 4, 5, 6, 7, 8, 9, 22, 23, 24, 25, 26, 27, 28, 29, 30, 31, 32, 10, 11, 12, 13, 14, 15, 16, 17, 18, 19, 20, 21] rfl rfl
      exact retI (u := (S5, S6)) hc hw hm dX8_orders_61
    · have hm := hm.2 c14
      refine lv_iconst (v := (-1)) hx hb dX8_orders_23 (by decide) ?_
      exact retI (u := (SP, SJ)) hc hw hm dX8_orders_24
set_option maxHeartbeats 4000000 in
set_option maxRecDepth 100000 in
theorem c_X8_ordersN {l : Launch} {D : va_G} {cy : Nat → ClassId} {aO : Nat → Nat} {aB : Nat → Nat} {als : Nat → Nat} {aP : Nat → Nat} {aJ : Nat → Nat} {atd : Nat → Nat} {e_O_images : Nat} {e_O_tape : Nat} {e_O_reader : Nat} {e_O_trial : Option Nat} {e_O_season : Option Nat} {e_O_dates : Nat} {e_O_line : Nat} {e_O_evening : Nat} {e_O_choices : Nat} {e_B_mentions : Nat} {e_B_claims : Nat} {SO : Ob} {SB : Ob} {Sls : (Nat → Option Nat)} {SP : Ob} {SJ : Ob} {Std : Ob} {x1 : Int32} {Q : Int32 → Ob → Ob → Prop} (hm : w_X8_ordersN SO SB Sls SP SJ Std x1 Q) : CtI l yX8_orders cX8_orders 2 (some .int) (rmN 52) D cy [.ref (aO 0), .int x1] ((oW cy aO (aB 0) e_O_images e_O_tape e_O_reader (aP 0) e_O_trial e_O_season e_O_dates e_O_line e_O_evening e_O_choices SO) ++ ((bW cy aB (als 0) (atd 0) e_B_mentions e_B_claims SB) ++ ((lsW cy als Sls) ++ ((pW cy aP (aJ 0) SP) ++ ((jW cy aJ SJ) ++ (tW cy atd Std)))))) (fun u : Ob × Ob => ((oW cy aO (aB 0) e_O_images e_O_tape e_O_reader (aP 0) e_O_trial e_O_season e_O_dates e_O_line e_O_evening e_O_choices SO) ++ ((bW cy aB (als 0) (atd 0) e_B_mentions e_B_claims SB) ++ ((lsW cy als Sls) ++ ((pW cy aP (aJ 0) u.1) ++ ((jW cy aJ u.2) ++ (tW cy atd Std))))))) (fun (r : Int32) (u : Ob × Ob) => Q r u.1 u.2) := by
  refine CtI.ofW (by decide) (Nat.le_of_ble_eq_true rfl) ?_
  intro p e s m args below meth c A ls hc hnm hw hl
  have hx := hc.1.1
  have hb := hc.1.2.1
  have hown := hc.1.2.2.2.1
  have hts := hc.1.2.2.2.2
  have hl : lv_has ls 2 [(0, .ref (aO 0)), (1, .int x1)] := hl
  obtain ⟨H, hH⟩ : ∃ z, z = s.heap := ⟨_, rfl⟩
  obtain ⟨locs, hLc⟩ : ∃ z : List Loc, z = [] := ⟨_, rfl⟩
  have hw : wV D A s.heap ((oW cy aO (aB 0) e_O_images e_O_tape e_O_reader (aP 0) e_O_trial e_O_season e_O_dates e_O_line e_O_evening e_O_choices SO) ++ ((bW cy aB (als 0) (atd 0) e_B_mentions e_B_claims SB) ++ ((lsW cy als Sls) ++ ((pW cy aP (aJ 0) SP) ++ ((jW cy aJ SJ) ++ (tW cy atd Std)))))) H locs := by rw [hH, hLc]; exact hw
  have hgo : W p l e (rmN 52) s m args below meth c H locs 0 0 (MQ below (eI D cy A (fun u : Ob × Ob => ((oW cy aO (aB 0) e_O_images e_O_tape e_O_reader (aP 0) e_O_trial e_O_season e_O_dates e_O_line e_O_evening e_O_choices SO) ++ ((bW cy aB (als 0) (atd 0) e_B_mentions e_B_claims SB) ++ ((lsW cy als Sls) ++ ((pW cy aP (aJ 0) u.1) ++ ((jW cy aJ u.2) ++ (tW cy atd Std))))))) (fun (r : Int32) (u : Ob × Ob) => Q r u.1 u.2)) args s (rmN 52).cells (rmN 52).slots A) (F0 m 0 ls []) := ?hgo
  · rw [hH, hLc] at hgo; exact hgo
  refine lv_iload_n hx hb dX8_orders_0 rfl (lv_at hl 1 rfl) ?_
  refine lv_aload_n hx hb dX8_orders_1 rfl (lv_at hl 0 rfl) ?_
  refine gF (k := 0) hc hw inX8 rfl 0 rfl (by decide) (gm 415 (by decide +kernel) rfl) rfl dX8_orders_2 ?_
  refine nVN_I (As := []) (rest := [.int x1]) (wc := ((bW cy aB (als 0) (atd 0) e_B_mentions e_B_claims SB) ++ (tW cy atd Std))) (wr := ((oW cy aO (aB 0) e_O_images e_O_tape e_O_reader (aP 0) e_O_trial e_O_season e_O_dates e_O_line e_O_evening e_O_choices SO) ++ ((lsW cy als Sls) ++ ((pW cy aP (aJ 0) SP) ++ (jW cy aJ SJ))))) (isC := [3, 4, 5, 6, 7, 8, 24, 25, 26, 27]) (isR := [0, 1, 2, 9, 10, 11, 12, 13, 14, 15, 16, 17, 18, 19, 20, 21, 22, 23]) hc hw (c_X6_untold hm) lk_X8_194 ⟨rfl, rfl, rfl, rfl, by decide⟩ rfl rfl ⟨Nat.le_of_ble_eq_true rfl, Nat.le_of_ble_eq_true rfl⟩ ⟨Nat.le_of_ble_eq_true rfl, Nat.le_of_ble_eq_true rfl⟩ hl.1 rfl (Nat.le_of_ble_eq_true rfl) rfl dX8_orders_5 (fun r1 _ H locs hm hw => ?_)
  have hw : wV D A s.heap ((oW cy aO (aB 0) e_O_images e_O_tape e_O_reader (aP 0) e_O_trial e_O_season e_O_dates e_O_line e_O_evening e_O_choices SO) ++ ((bW cy aB (als 0) (atd 0) e_B_mentions e_B_claims SB) ++ ((lsW cy als Sls) ++ ((pW cy aP (aJ 0) SP) ++ ((jW cy aJ SJ) ++ (tW cy atd Std)))))) H locs := hw.perm [0, 1, 2, 18, 19, 20, 21, 22, 23, 3, 4, 5, 6, 7, 8, 9, 10, 11, 12, 13, 14, 15, 16, 17, 24, 25, 26, 27] rfl rfl
  refine lv_iconst (v := (-1)) hx hb dX8_orders_8 (by decide) ?_
  refine lv_ixor hx hb dX8_orders_9 ?_
  refine lv_iand hx hb dX8_orders_10 ?_
  refine lv_if_ne (tgt := 23) hx hb dX8_orders_11 (by decide) (fun c15 => ?_) (fun c15 => ?_)
  · have hm := hm.1 c15
    refine lv_iconst (v := (-1)) hx hb dX8_orders_23 (by decide) ?_
    exact retI (u := (SP, SJ)) hc hw hm dX8_orders_24
  · have hm := hm.2 c15
    refine lv_iload_n hx hb dX8_orders_14 rfl (lv_at hl 1 rfl) ?_
    refine zS_I (As := [.int x1]) (rest := []) hc hw (c_J6_bitCount_0f7a4 hm) lk_X8_214 ⟨Nat.le_of_ble_eq_true rfl, Nat.le_of_ble_eq_true rfl⟩ ⟨Nat.le_of_ble_eq_true rfl, Nat.le_of_ble_eq_true rfl⟩ hl.1 rfl (Nat.le_of_ble_eq_true rfl) rfl dX8_orders_15 (fun r3 H locs hm hw => ?_)
    refine lv_bipush (v := 7) hx hb dX8_orders_18 (by decide) ?_
    refine lv_icmp_le (tgt := 25) hx hb dX8_orders_20 (by decide) (fun c14 => ?_) (fun c14 => ?_)
    · have hm := hm.1 c14
      refine lv_aload_n hx hb dX8_orders_25 rfl (lv_at hl 0 rfl) ?_
      refine gF (k := 8) hc hw inX8 rfl 0 rfl (by decide) (gm 423 (by decide +kernel) rfl) rfl dX8_orders_26 ?_
      refine lv_aload_n hx hb dX8_orders_29 rfl (lv_at hl 0 rfl) ?_
      refine gF (k := 0) hc hw inX8 rfl 0 rfl (by decide) (gm 415 (by decide +kernel) rfl) rfl dX8_orders_30 ?_
      refine nVN_V (As := [.ref (aB 0)]) (rest := []) (wc := ((pW cy aP (aJ 0) SP) ++ ((jW cy aJ SJ) ++ ((bW cy aB (als 0) (atd 0) e_B_mentions e_B_claims SB) ++ (lsW cy als Sls))))) (wr := ((oW cy aO (aB 0) e_O_images e_O_tape e_O_reader (aP 0) e_O_trial e_O_season e_O_dates e_O_line e_O_evening e_O_choices SO) ++ (tW cy atd Std))) (isC := [10, 11, 12, 13, 14, 15, 16, 17, 18, 19, 20, 21, 22, 23, 3, 4, 5, 6, 7, 8, 9]) (isR := [0, 1, 2, 24, 25, 26, 27]) hc hw (c_X3_weighN hm) lk_X8_124 ⟨rfl, rfl, rfl, rfl, by decide⟩ rfl rfl ⟨Nat.le_of_ble_eq_true rfl, Nat.le_of_ble_eq_true rfl⟩ ⟨Nat.le_of_ble_eq_true rfl, Nat.le_of_ble_eq_true rfl⟩ hl.1 rfl (Nat.le_of_ble_eq_true rfl) rfl dX8_orders_33 (fun u_6 H locs hm hw => ?_)
      obtain ⟨S5, S6⟩ := u_6
      have hw : wV D A s.heap ((oW cy aO (aB 0) e_O_images e_O_tape e_O_reader (aP 0) e_O_trial e_O_season e_O_dates e_O_line e_O_evening e_O_choices SO) ++ ((bW cy aB (als 0) (atd 0) e_B_mentions e_B_claims SB) ++ ((lsW cy als Sls) ++ ((pW cy aP (aJ 0) S5) ++ ((jW cy aJ S6) ++ (tW cy atd Std)))))) H locs := hw.perm [0, 1, 2, 21, 22, 23, 24, 25, 26, 27, 7, 8, 9, 10, 11, 12, 13, 14, 15, 16, 17, 18, 19, 20, 3, 4, 5, 6] rfl rfl
      refine lv_aload_n hx hb dX8_orders_36 rfl (lv_at hl 0 rfl) ?_
      refine gF (k := 8) hc hw inX8 rfl 0 rfl (by decide) (gm 423 (by decide +kernel) rfl) rfl dX8_orders_37 ?_
      refine lv_iload_n hx hb dX8_orders_40 rfl (lv_at hl 1 rfl) ?_
      refine lv_aload_n hx hb dX8_orders_41 rfl (lv_at hl 0 rfl) ?_
      refine gF (k := 0) hc hw inX8 rfl 0 rfl (by decide) (gm 415 (by decide +kernel) rfl) rfl dX8_orders_42 ?_
      refine nVN_I (As := []) (rest := [.int x1, .ref (aP 0)]) (wc := ((bW cy aB (als 0) (atd 0) e_B_mentions e_B_claims SB) ++ (tW cy atd Std))) (wr := ((oW cy aO (aB 0) e_O_images e_O_tape e_O_reader (aP 0) e_O_trial e_O_season e_O_dates e_O_line e_O_evening e_O_choices SO) ++ ((lsW cy als Sls) ++ ((pW cy aP (aJ 0) S5) ++ (jW cy aJ S6))))) (isC := [3, 4, 5, 6, 7, 8, 24, 25, 26, 27]) (isR := [0, 1, 2, 9, 10, 11, 12, 13, 14, 15, 16, 17, 18, 19, 20, 21, 22, 23]) hc hw (c_X6_lastYear hm) lk_X8_165 ⟨rfl, rfl, rfl, rfl, by decide⟩ rfl rfl ⟨Nat.le_of_ble_eq_true rfl, Nat.le_of_ble_eq_true rfl⟩ ⟨Nat.le_of_ble_eq_true rfl, Nat.le_of_ble_eq_true rfl⟩ hl.1 rfl (Nat.le_of_ble_eq_true rfl) rfl dX8_orders_45 (fun r8 _ H locs hm hw => ?_)
      have hw : wV D A s.heap ((oW cy aO (aB 0) e_O_images e_O_tape e_O_reader (aP 0) e_O_trial e_O_season e_O_dates e_O_line e_O_evening e_O_choices SO) ++ ((bW cy aB (als 0) (atd 0) e_B_mentions e_B_claims SB) ++ ((lsW cy als Sls) ++ ((pW cy aP (aJ 0) S5) ++ ((jW cy aJ S6) ++ (tW cy atd Std)))))) H locs := hw.perm [0, 1, 2, 18, 19, 20, 21, 22, 23, 3, 4, 5, 6, 7, 8, 9, 10, 11, 12, 13, 14, 15, 16, 17, 24, 25, 26, 27] rfl rfl
      refine lv_iconst (v := 1) hx hb dX8_orders_48 (by decide) ?_
      refine lv_aload_n hx hb dX8_orders_49 rfl (lv_at hl 0 rfl) ?_
      refine gF (k := 0) hc hw inX8 rfl 0 rfl (by decide) (gm 415 (by decide +kernel) rfl) rfl dX8_orders_50 ?_
      refine nVN_I (As := []) (rest := [.int 1, .int r8, .int x1, .ref (aP 0)]) (wc := ((bW cy aB (als 0) (atd 0) e_B_mentions e_B_claims SB) ++ (tW cy atd Std))) (wr := ((oW cy aO (aB 0) e_O_images e_O_tape e_O_reader (aP 0) e_O_trial e_O_season e_O_dates e_O_line e_O_evening e_O_choices SO) ++ ((lsW cy als Sls) ++ ((pW cy aP (aJ 0) S5) ++ (jW cy aJ S6))))) (isC := [3, 4, 5, 6, 7, 8, 24, 25, 26, 27]) (isR := [0, 1, 2, 9, 10, 11, 12, 13, 14, 15, 16, 17, 18, 19, 20, 21, 22, 23]) hc hw (c_X6_lastTeller hm) lk_X8_173 ⟨rfl, rfl, rfl, rfl, by decide⟩ rfl rfl ⟨Nat.le_of_ble_eq_true rfl, Nat.le_of_ble_eq_true rfl⟩ ⟨Nat.le_of_ble_eq_true rfl, Nat.le_of_ble_eq_true rfl⟩ hl.1 rfl (Nat.le_of_ble_eq_true rfl) rfl dX8_orders_53 (fun r10 _ H locs hm hw => ?_)
      have hw : wV D A s.heap ((oW cy aO (aB 0) e_O_images e_O_tape e_O_reader (aP 0) e_O_trial e_O_season e_O_dates e_O_line e_O_evening e_O_choices SO) ++ ((bW cy aB (als 0) (atd 0) e_B_mentions e_B_claims SB) ++ ((lsW cy als Sls) ++ ((pW cy aP (aJ 0) S5) ++ ((jW cy aJ S6) ++ (tW cy atd Std)))))) H locs := hw.perm [0, 1, 2, 18, 19, 20, 21, 22, 23, 3, 4, 5, 6, 7, 8, 9, 10, 11, 12, 13, 14, 15, 16, 17, 24, 25, 26, 27] rfl rfl
      refine lv_ishl hx hb dX8_orders_56 ?_
      refine lv_iconst (v := 0) hx hb dX8_orders_57 (by decide) ?_
      refine nVN_I (As := [.int x1, .int r8, .int ((1 : Int32) <<< (r10 &&& 31)), .int 0]) (rest := []) (wc := (pW cy aP (aJ 0) S5)) (wr := ((oW cy aO (aB 0) e_O_images e_O_tape e_O_reader (aP 0) e_O_trial e_O_season e_O_dates e_O_line e_O_evening e_O_choices SO) ++ ((bW cy aB (als 0) (atd 0) e_B_mentions e_B_claims SB) ++ ((lsW cy als Sls) ++ ((jW cy aJ S6) ++ (tW cy atd Std)))))) (isC := [10, 11, 12, 13, 14, 15, 16, 17, 18, 19, 20]) (isR := [0, 1, 2, 3, 4, 5, 6, 7, 8, 9, 21, 22, 23, 24, 25, 26, 27]) hc hw (c_X3_rows 12 _ _ _ _ _ _ hm) lk_X8_226 ⟨rfl, rfl, rfl, rfl, by decide⟩ rfl rfl (rm_ok (by omega) (by omega)) ⟨Nat.le_of_ble_eq_true rfl, Nat.le_of_ble_eq_true rfl⟩ hl.1 rfl (Nat.le_of_ble_eq_true rfl) rfl dX8_orders_58 (fun r12 _ H locs hm hw => ?_)
      have hw : wV D A s.heap ((oW cy aO (aB 0) e_O_images e_O_tape e_O_reader (aP 0) e_O_trial e_O_season e_O_dates e_O_line e_O_evening e_O_choices SO) ++ ((bW cy aB (als 0) (atd 0) e_B_mentions e_B_claims SB) ++ ((lsW cy als Sls) ++ ((pW cy aP (aJ 0) S5) ++ ((jW cy aJ S6) ++ (tW cy atd Std)))))) H locs := hw.perm [0, 1, 2, 3, 4, 5, 6, 7, 8, 9, 17, 18, 19, 20, 21, 22, 23, 24, 25, 26, 27, 10, 11, 12, 13, 14, 15, 16] rfl rfl
      exact retI (u := (S5, S6)) hc hw hm dX8_orders_61
    · have hm := hm.2 c14
      refine lv_iconst (v := (-1)) hx hb dX8_orders_23 (by decide) ?_
      exact retI (u := (SP, SJ)) hc hw hm dX8_orders_24
set_option maxHeartbeats 4000000 in
set_option maxRecDepth 100000 in
theorem c_X8_duel {l : Launch} {D : va_G} {cy : Nat → ClassId} {aO : Nat → Nat} {aB : Nat → Nat} {als : Nat → Nat} {aP : Nat → Nat} {aJ : Nat → Nat} {atd : Nat → Nat} {aLw : Nat → Nat} {e_O_images : Nat} {e_O_tape : Nat} {e_O_reader : Nat} {e_O_trial : Option Nat} {e_O_season : Option Nat} {e_O_dates : Nat} {e_O_line : Nat} {e_O_evening : Nat} {e_O_choices : Nat} {e_B_mentions : Nat} {e_B_claims : Nat} {SO : Ob} {SB : Ob} {Sls : (Nat → Option Nat)} {SP : Ob} {SJ : Ob} {Std : Ob} {SLw : Lw} {x1 : Int32} {Q : Int32 → Ob → Ob → Prop} (hm : w_X8_duel aLw SO SB Sls SP SJ Std SLw x1 Q) : CtI l yX8_duel cX8_duel 5 (some .int) (rmN 52) D cy [.ref (aO 0), .int x1] ((oW cy aO (aB 0) e_O_images e_O_tape e_O_reader (aP 0) e_O_trial e_O_season e_O_dates e_O_line e_O_evening e_O_choices SO) ++ ((bW cy aB (als 0) (atd 0) e_B_mentions e_B_claims SB) ++ ((lsW cy als Sls) ++ ((pW cy aP (aJ 0) SP) ++ ((jW cy aJ SJ) ++ ((tW cy atd Std) ++ (lwW cy aLw SLw))))))) (fun u : Ob × Ob => ((oW cy aO (aB 0) e_O_images e_O_tape e_O_reader (aP 0) e_O_trial e_O_season e_O_dates e_O_line e_O_evening e_O_choices SO) ++ ((bW cy aB (als 0) (atd 0) e_B_mentions e_B_claims SB) ++ ((lsW cy als Sls) ++ ((pW cy aP (aJ 0) u.1) ++ ((jW cy aJ u.2) ++ ((tW cy atd Std) ++ (lwW cy aLw SLw)))))))) (fun (r : Int32) (u : Ob × Ob) => Q r u.1 u.2) := by
  refine CtI.ofW (by decide) (Nat.le_of_ble_eq_true rfl) ?_
  intro p e s m args below meth c A ls hc hnm hw hl
  have hx := hc.1.1
  have hb := hc.1.2.1
  have hown := hc.1.2.2.2.1
  have hts := hc.1.2.2.2.2
  have hl : lv_has ls 5 [(0, .ref (aO 0)), (1, .int x1)] := hl
  obtain ⟨H, hH⟩ : ∃ z, z = s.heap := ⟨_, rfl⟩
  obtain ⟨locs, hLc⟩ : ∃ z : List Loc, z = [] := ⟨_, rfl⟩
  have hw : wV D A s.heap ((oW cy aO (aB 0) e_O_images e_O_tape e_O_reader (aP 0) e_O_trial e_O_season e_O_dates e_O_line e_O_evening e_O_choices SO) ++ ((bW cy aB (als 0) (atd 0) e_B_mentions e_B_claims SB) ++ ((lsW cy als Sls) ++ ((pW cy aP (aJ 0) SP) ++ ((jW cy aJ SJ) ++ ((tW cy atd Std) ++ (lwW cy aLw SLw))))))) H locs := by rw [hH, hLc]; exact hw
  have hgo : W p l e (rmN 52) s m args below meth c H locs 0 0 (MQ below (eI D cy A (fun u : Ob × Ob => ((oW cy aO (aB 0) e_O_images e_O_tape e_O_reader (aP 0) e_O_trial e_O_season e_O_dates e_O_line e_O_evening e_O_choices SO) ++ ((bW cy aB (als 0) (atd 0) e_B_mentions e_B_claims SB) ++ ((lsW cy als Sls) ++ ((pW cy aP (aJ 0) u.1) ++ ((jW cy aJ u.2) ++ ((tW cy atd Std) ++ (lwW cy aLw SLw)))))))) (fun (r : Int32) (u : Ob × Ob) => Q r u.1 u.2)) args s (rmN 52).cells (rmN 52).slots A) (F0 m 0 ls []) := ?hgo
  · rw [hH, hLc] at hgo; exact hgo
  refine lv_aload_n hx hb dX8_duel_0 rfl (lv_at hl 0 rfl) ?_
  refine gF (k := 0) hc hw inX8 rfl 0 rfl (by decide) (gm 415 (by decide +kernel) rfl) rfl dX8_duel_1 ?_
  refine nVN_I (As := []) (rest := []) (wc := ((bW cy aB (als 0) (atd 0) e_B_mentions e_B_claims SB) ++ (tW cy atd Std))) (wr := ((oW cy aO (aB 0) e_O_images e_O_tape e_O_reader (aP 0) e_O_trial e_O_season e_O_dates e_O_line e_O_evening e_O_choices SO) ++ ((lsW cy als Sls) ++ ((pW cy aP (aJ 0) SP) ++ ((jW cy aJ SJ) ++ (lwW cy aLw SLw)))))) (isC := [3, 4, 5, 6, 7, 8, 24, 25, 26, 27]) (isR := [0, 1, 2, 9, 10, 11, 12, 13, 14, 15, 16, 17, 18, 19, 20, 21, 22, 23, 28, 29, 30, 31, 32]) hc hw (c_X6_untold hm) lk_X8_194 ⟨rfl, rfl, rfl, rfl, by decide⟩ rfl rfl ⟨Nat.le_of_ble_eq_true rfl, Nat.le_of_ble_eq_true rfl⟩ ⟨Nat.le_of_ble_eq_true rfl, Nat.le_of_ble_eq_true rfl⟩ hl.1 rfl (Nat.le_of_ble_eq_true rfl) rfl dX8_duel_4 (fun r1 _ H locs hm hw => ?_)
  have hw : wV D A s.heap ((oW cy aO (aB 0) e_O_images e_O_tape e_O_reader (aP 0) e_O_trial e_O_season e_O_dates e_O_line e_O_evening e_O_choices SO) ++ ((bW cy aB (als 0) (atd 0) e_B_mentions e_B_claims SB) ++ ((lsW cy als Sls) ++ ((pW cy aP (aJ 0) SP) ++ ((jW cy aJ SJ) ++ ((tW cy atd Std) ++ (lwW cy aLw SLw))))))) H locs := hw.perm [0, 1, 2, 23, 24, 25, 26, 27, 28, 3, 4, 5, 6, 7, 8, 9, 10, 11, 12, 13, 14, 15, 16, 17, 29, 30, 31, 32, 18, 19, 20, 21, 22] rfl rfl
  refine lv_istore_n (lv' := [(2, .int r1), (0, .ref (aO 0)), (1, .int x1)]) hx hb dX8_duel_7 rfl hl (by decide) rfl (fun ls hl => ?_)
  refine lv_iload_n hx hb dX8_duel_8 rfl (lv_at hl 2 rfl) ?_
  refine lv_if_lt (tgt := 26) hx hb dX8_duel_9 (by decide) (fun c21 => ?_) (fun c21 => ?_)
  · have hm := hm.1 c21
    refine lv_iconst (v := (-1)) hx hb dX8_duel_26 (by decide) ?_
    exact retI (u := (SP, SJ)) hc hw hm dX8_duel_27
  · have hm := hm.2 c21
    refine lv_iload_n hx hb dX8_duel_12 rfl (lv_at hl 2 rfl) ?_
    refine lv_iconst (v := 1) hx hb dX8_duel_13 (by decide) ?_
    refine lv_icmp_gt (tgt := 26) hx hb dX8_duel_14 (by decide) (fun c20 => ?_) (fun c20 => ?_)
    · have hm := hm.1 c20
      refine lv_iconst (v := (-1)) hx hb dX8_duel_26 (by decide) ?_
      exact retI (u := (SP, SJ)) hc hw hm dX8_duel_27
    · have hm := hm.2 c20
      refine lv_iload_n hx hb dX8_duel_17 rfl (lv_at hl 0 rfl) ?_
      refine zS_I (As := [.int r1]) (rest := []) hc hw (c_J6_bitCount_0f7a4 hm) lk_X8_214 ⟨Nat.le_of_ble_eq_true rfl, Nat.le_of_ble_eq_true rfl⟩ ⟨Nat.le_of_ble_eq_true rfl, Nat.le_of_ble_eq_true rfl⟩ hl.1 rfl (Nat.le_of_ble_eq_true rfl) rfl dX8_duel_18 (fun r3 H locs hm hw => ?_)
      refine lv_bipush (v := 7) hx hb dX8_duel_21 (by decide) ?_
      refine lv_icmp_le (tgt := 28) hx hb dX8_duel_23 (by decide) (fun c19 => ?_) (fun c19 => ?_)
      · have hm := hm.1 c19
        refine lv_aload_n hx hb dX8_duel_28 rfl (lv_at hl 1 rfl) ?_
        refine gF (k := 8) hc hw inX8 rfl 0 rfl (by decide) (gm 423 (by decide +kernel) rfl) rfl dX8_duel_29 ?_
        refine lv_aload_n hx hb dX8_duel_32 rfl (lv_at hl 1 rfl) ?_
        refine gF (k := 0) hc hw inX8 rfl 0 rfl (by decide) (gm 415 (by decide +kernel) rfl) rfl dX8_duel_33 ?_
        refine nVN_V (As := [.ref (aB 0)]) (rest := []) (wc := ((pW cy aP (aJ 0) SP) ++ ((jW cy aJ SJ) ++ ((bW cy aB (als 0) (atd 0) e_B_mentions e_B_claims SB) ++ ((lsW cy als Sls) ++ (lwW cy aLw SLw)))))) (wr := ((oW cy aO (aB 0) e_O_images e_O_tape e_O_reader (aP 0) e_O_trial e_O_season e_O_dates e_O_line e_O_evening e_O_choices SO) ++ (tW cy atd Std))) (isC := [10, 11, 12, 13, 14, 15, 16, 17, 18, 19, 20, 21, 22, 23, 3, 4, 5, 6, 7, 8, 9, 28, 29, 30, 31, 32]) (isR := [0, 1, 2, 24, 25, 26, 27]) hc hw (c_X3_weigh hm) lk_X8_124 ⟨rfl, rfl, rfl, rfl, by decide⟩ rfl rfl ⟨Nat.le_of_ble_eq_true rfl, Nat.le_of_ble_eq_true rfl⟩ ⟨Nat.le_of_ble_eq_true rfl, Nat.le_of_ble_eq_true rfl⟩ hl.1 rfl (Nat.le_of_ble_eq_true rfl) rfl dX8_duel_36 (fun u_6 H locs hm hw => ?_)
        obtain ⟨S5, S6⟩ := u_6
        have hw : wV D A s.heap ((oW cy aO (aB 0) e_O_images e_O_tape e_O_reader (aP 0) e_O_trial e_O_season e_O_dates e_O_line e_O_evening e_O_choices SO) ++ ((bW cy aB (als 0) (atd 0) e_B_mentions e_B_claims SB) ++ ((lsW cy als Sls) ++ ((pW cy aP (aJ 0) S5) ++ ((jW cy aJ S6) ++ ((tW cy atd Std) ++ (lwW cy aLw SLw))))))) H locs := hw.perm [0, 1, 2, 21, 22, 23, 24, 25, 26, 27, 7, 8, 9, 10, 11, 12, 13, 14, 15, 16, 17, 18, 19, 20, 3, 4, 5, 6, 28, 29, 30, 31, 32] rfl rfl
        refine lv_aload_n hx hb dX8_duel_39 rfl (lv_at hl 1 rfl) ?_
        refine gF (k := 0) hc hw inX8 rfl 0 rfl (by decide) (gm 415 (by decide +kernel) rfl) rfl dX8_duel_40 ?_
        refine nVN_I (As := []) (rest := []) (wc := ((bW cy aB (als 0) (atd 0) e_B_mentions e_B_claims SB) ++ (tW cy atd Std))) (wr := ((oW cy aO (aB 0) e_O_images e_O_tape e_O_reader (aP 0) e_O_trial e_O_season e_O_dates e_O_line e_O_evening e_O_choices SO) ++ ((lsW cy als Sls) ++ ((pW cy aP (aJ 0) S5) ++ ((jW cy aJ S6) ++ (lwW cy aLw SLw)))))) (isC := [3, 4, 5, 6, 7, 8, 24, 25, 26, 27]) (isR := [0, 1, 2, 9, 10, 11, 12, 13, 14, 15, 16, 17, 18, 19, 20, 21, 22, 23, 28, 29, 30, 31, 32]) hc hw (c_X6_lastTeller hm) lk_X8_173 ⟨rfl, rfl, rfl, rfl, by decide⟩ rfl rfl ⟨Nat.le_of_ble_eq_true rfl, Nat.le_of_ble_eq_true rfl⟩ ⟨Nat.le_of_ble_eq_true rfl, Nat.le_of_ble_eq_true rfl⟩ hl.1 rfl (Nat.le_of_ble_eq_true rfl) rfl dX8_duel_43 (fun r8 _ H locs hm hw => ?_)
        have hw : wV D A s.heap ((oW cy aO (aB 0) e_O_images e_O_tape e_O_reader (aP 0) e_O_trial e_O_season e_O_dates e_O_line e_O_evening e_O_choices SO) ++ ((bW cy aB (als 0) (atd 0) e_B_mentions e_B_claims SB) ++ ((lsW cy als Sls) ++ ((pW cy aP (aJ 0) S5) ++ ((jW cy aJ S6) ++ ((tW cy atd Std) ++ (lwW cy aLw SLw))))))) H locs := hw.perm [0, 1, 2, 23, 24, 25, 26, 27, 28, 3, 4, 5, 6, 7, 8, 9, 10, 11, 12, 13, 14, 15, 16, 17, 29, 30, 31, 32, 18, 19, 20, 21, 22] rfl rfl
        obtain ⟨J11, eJ11, hm⟩ := jn_e hm
        have hJ11 : ∀ (t10 : Int32) (_ : J11 t10) (H : Heap) (locs : List Loc) (ls : Array Slot), wV D A s.heap ((oW cy aO (aB 0) e_O_images e_O_tape e_O_reader (aP 0) e_O_trial e_O_season e_O_dates e_O_line e_O_evening e_O_choices SO) ++ ((bW cy aB (als 0) (atd 0) e_B_mentions e_B_claims SB) ++ ((lsW cy als Sls) ++ ((pW cy aP (aJ 0) S5) ++ ((jW cy aJ S6) ++ ((tW cy atd Std) ++ (lwW cy aLw SLw))))))) H locs → lv_has ls 5 [(0, .ref (aO 0)), (1, .int x1), (2, .int r1)] → W p l e (rmN 52) s m args below meth c H locs 0 0 (MQ below (eI D cy A (fun u : Ob × Ob => ((oW cy aO (aB 0) e_O_images e_O_tape e_O_reader (aP 0) e_O_trial e_O_season e_O_dates e_O_line e_O_evening e_O_choices SO) ++ ((bW cy aB (als 0) (atd 0) e_B_mentions e_B_claims SB) ++ ((lsW cy als Sls) ++ ((pW cy aP (aJ 0) u.1) ++ ((jW cy aJ u.2) ++ ((tW cy atd Std) ++ (lwW cy aLw SLw)))))))) (fun (r : Int32) (u : Ob × Ob) => Q r u.1 u.2)) args s (rmN 52).cells (rmN 52).slots A) (F0 m 54 ls [.int t10]) := by
          intro t10 hm H locs ls hw hl
          rw [eJ11] at hm
          refine lv_istore_n (lv' := [(3, .int t10), (0, .ref (aO 0)), (1, .int x1), (2, .int r1)]) hx hb dX8_duel_54 rfl hl (by decide) rfl (fun ls hl => ?_)
          refine lv_aload_n hx hb dX8_duel_55 rfl (lv_at hl 1 rfl) ?_
          refine gF (k := 8) hc hw inX8 rfl 0 rfl (by decide) (gm 423 (by decide +kernel) rfl) rfl dX8_duel_56 ?_
          refine lv_iload_n hx hb dX8_duel_59 rfl (lv_at hl 3 rfl) ?_
          refine lv_aload_n hx hb dX8_duel_60 rfl (lv_at hl 1 rfl) ?_
          refine gF (k := 0) hc hw inX8 rfl 0 rfl (by decide) (gm 415 (by decide +kernel) rfl) rfl dX8_duel_61 ?_
          refine nVN_I (As := []) (rest := [.int r1, .ref (aP 0)]) (wc := ((bW cy aB (als 0) (atd 0) e_B_mentions e_B_claims SB) ++ (tW cy atd Std))) (wr := ((oW cy aO (aB 0) e_O_images e_O_tape e_O_reader (aP 0) e_O_trial e_O_season e_O_dates e_O_line e_O_evening e_O_choices SO) ++ ((lsW cy als Sls) ++ ((pW cy aP (aJ 0) S5) ++ ((jW cy aJ S6) ++ (lwW cy aLw SLw)))))) (isC := [3, 4, 5, 6, 7, 8, 24, 25, 26, 27]) (isR := [0, 1, 2, 9, 10, 11, 12, 13, 14, 15, 16, 17, 18, 19, 20, 21, 22, 23, 28, 29, 30, 31, 32]) hc hw (c_X6_lastYear hm) lk_X8_165 ⟨rfl, rfl, rfl, rfl, by decide⟩ rfl rfl ⟨Nat.le_of_ble_eq_true rfl, Nat.le_of_ble_eq_true rfl⟩ ⟨Nat.le_of_ble_eq_true rfl, Nat.le_of_ble_eq_true rfl⟩ hl.1 rfl (Nat.le_of_ble_eq_true rfl) rfl dX8_duel_64 (fun r12 _ H locs hm hw => ?_)
          have hw : wV D A s.heap ((oW cy aO (aB 0) e_O_images e_O_tape e_O_reader (aP 0) e_O_trial e_O_season e_O_dates e_O_line e_O_evening e_O_choices SO) ++ ((bW cy aB (als 0) (atd 0) e_B_mentions e_B_claims SB) ++ ((lsW cy als Sls) ++ ((pW cy aP (aJ 0) S5) ++ ((jW cy aJ S6) ++ ((tW cy atd Std) ++ (lwW cy aLw SLw))))))) H locs := hw.perm [0, 1, 2, 23, 24, 25, 26, 27, 28, 3, 4, 5, 6, 7, 8, 9, 10, 11, 12, 13, 14, 15, 16, 17, 29, 30, 31, 32, 18, 19, 20, 21, 22] rfl rfl
          refine lv_iload_n hx hb dX8_duel_67 rfl (lv_at hl 0 rfl) ?_
          refine lv_iconst (v := 0) hx hb dX8_duel_68 (by decide) ?_
          refine nVN_I (As := [.int r1, .int r12, .int t10, .int 0]) (rest := []) (wc := (pW cy aP (aJ 0) S5)) (wr := ((oW cy aO (aB 0) e_O_images e_O_tape e_O_reader (aP 0) e_O_trial e_O_season e_O_dates e_O_line e_O_evening e_O_choices SO) ++ ((bW cy aB (als 0) (atd 0) e_B_mentions e_B_claims SB) ++ ((lsW cy als Sls) ++ ((jW cy aJ S6) ++ ((tW cy atd Std) ++ (lwW cy aLw SLw))))))) (isC := [10, 11, 12, 13, 14, 15, 16, 17, 18, 19, 20]) (isR := [0, 1, 2, 3, 4, 5, 6, 7, 8, 9, 21, 22, 23, 24, 25, 26, 27, 28, 29, 30, 31, 32]) hc hw (c_X3_winningTale 12 _ _ _ _ _ _ hm) lk_X8_230 ⟨rfl, rfl, rfl, rfl, by decide⟩ rfl rfl (rm_ok (by omega) (by omega)) ⟨Nat.le_of_ble_eq_true rfl, Nat.le_of_ble_eq_true rfl⟩ hl.1 rfl (Nat.le_of_ble_eq_true rfl) rfl dX8_duel_69 (fun r14 _ H locs hm hw => ?_)
          have hw : wV D A s.heap ((oW cy aO (aB 0) e_O_images e_O_tape e_O_reader (aP 0) e_O_trial e_O_season e_O_dates e_O_line e_O_evening e_O_choices SO) ++ ((bW cy aB (als 0) (atd 0) e_B_mentions e_B_claims SB) ++ ((lsW cy als Sls) ++ ((pW cy aP (aJ 0) S5) ++ ((jW cy aJ S6) ++ ((tW cy atd Std) ++ (lwW cy aLw SLw))))))) H locs := hw.perm [0, 1, 2, 3, 4, 5, 6, 7, 8, 9, 22, 23, 24, 25, 26, 27, 28, 29, 30, 31, 32, 10, 11, 12, 13, 14, 15, 16, 17, 18, 19, 20, 21] rfl rfl
          refine lv_istore (lv' := [(4, .int r14), (3, .int t10), (0, .ref (aO 0)), (1, .int x1), (2, .int r1)]) hx hb dX8_duel_72 hl (by decide) rfl (fun ls hl => ?_)
          refine lv_iload_n hx hb dX8_duel_74 rfl (lv_at hl 3 rfl) ?_
          refine lv_iconst (v := 1) hx hb dX8_duel_75 (by decide) ?_
          refine lv_icmp_ne (tgt := 82) hx hb dX8_duel_76 (by decide) (fun c17 => ?_) (fun c17 => ?_)
          · have hm := hm.1 c17
            refine lv_iload hx hb dX8_duel_82 (lv_at hl 0 rfl) ?_
            refine lv_iconst (v := (-1)) hx hb dX8_duel_84 (by decide) ?_
            refine lv_icmp_ne (tgt := 94) hx hb dX8_duel_85 (by decide) (fun c16 => ?_) (fun c16 => ?_)
            · have hm := hm.1 c16
              refine lv_iload_n hx hb dX8_duel_94 rfl (lv_at hl 1 rfl) ?_
              exact retI (u := (S5, S6)) hc hw hm dX8_duel_95
            · have hm := hm.2 c16
              refine lv_iconst (v := 1) hx hb dX8_duel_88 (by decide) ?_
              refine lv_iload_n hx hb dX8_duel_89 rfl (lv_at hl 1 rfl) ?_
              refine lv_isub hx hb dX8_duel_90 ?_
              refine lv_goto (tgt := 95) hx hb dX8_duel_91 (by decide) ?_
              exact retI (u := (S5, S6)) hc hw hm dX8_duel_95
          · have hm := hm.2 c17
            refine lv_iload hx hb dX8_duel_79 (lv_at hl 0 rfl) ?_
            exact retI (u := (S5, S6)) hc hw hm dX8_duel_81
        refine lv_if_ne (tgt := 53) hx hb dX8_duel_46 (by decide) (fun c18 => ?_) (fun c18 => ?_)
        · have hm := hm.1 c18
          refine lv_iconst (v := 0) hx hb dX8_duel_53 (by decide) ?_
          exact hJ11 _ hm _ _ _ hw (lv_sub hl [1, 2, 0] rfl)
        · have hm := hm.2 c18
          refine lv_iconst (v := 1) hx hb dX8_duel_49 (by decide) ?_
          refine lv_goto (tgt := 54) hx hb dX8_duel_50 (by decide) ?_
          exact hJ11 _ hm _ _ _ hw (lv_sub hl [1, 2, 0] rfl)
      · have hm := hm.2 c19
        refine lv_iconst (v := (-1)) hx hb dX8_duel_26 (by decide) ?_
        exact retI (u := (SP, SJ)) hc hw hm dX8_duel_27
set_option maxHeartbeats 4000000 in
set_option maxRecDepth 100000 in
theorem c_X8_duelN {l : Launch} {D : va_G} {cy : Nat → ClassId} {aO : Nat → Nat} {aB : Nat → Nat} {als : Nat → Nat} {aP : Nat → Nat} {aJ : Nat → Nat} {atd : Nat → Nat} {e_O_images : Nat} {e_O_tape : Nat} {e_O_reader : Nat} {e_O_trial : Option Nat} {e_O_season : Option Nat} {e_O_dates : Nat} {e_O_line : Nat} {e_O_evening : Nat} {e_O_choices : Nat} {e_B_mentions : Nat} {e_B_claims : Nat} {SO : Ob} {SB : Ob} {Sls : (Nat → Option Nat)} {SP : Ob} {SJ : Ob} {Std : Ob} {x1 : Int32} {Q : Int32 → Ob → Ob → Prop} (hm : w_X8_duelN SO SB Sls SP SJ Std x1 Q) : CtI l yX8_duel cX8_duel 5 (some .int) (rmN 52) D cy [.ref (aO 0), .int x1] ((oW cy aO (aB 0) e_O_images e_O_tape e_O_reader (aP 0) e_O_trial e_O_season e_O_dates e_O_line e_O_evening e_O_choices SO) ++ ((bW cy aB (als 0) (atd 0) e_B_mentions e_B_claims SB) ++ ((lsW cy als Sls) ++ ((pW cy aP (aJ 0) SP) ++ ((jW cy aJ SJ) ++ (tW cy atd Std)))))) (fun u : Ob × Ob => ((oW cy aO (aB 0) e_O_images e_O_tape e_O_reader (aP 0) e_O_trial e_O_season e_O_dates e_O_line e_O_evening e_O_choices SO) ++ ((bW cy aB (als 0) (atd 0) e_B_mentions e_B_claims SB) ++ ((lsW cy als Sls) ++ ((pW cy aP (aJ 0) u.1) ++ ((jW cy aJ u.2) ++ (tW cy atd Std))))))) (fun (r : Int32) (u : Ob × Ob) => Q r u.1 u.2) := by
  refine CtI.ofW (by decide) (Nat.le_of_ble_eq_true rfl) ?_
  intro p e s m args below meth c A ls hc hnm hw hl
  have hx := hc.1.1
  have hb := hc.1.2.1
  have hown := hc.1.2.2.2.1
  have hts := hc.1.2.2.2.2
  have hl : lv_has ls 5 [(0, .ref (aO 0)), (1, .int x1)] := hl
  obtain ⟨H, hH⟩ : ∃ z, z = s.heap := ⟨_, rfl⟩
  obtain ⟨locs, hLc⟩ : ∃ z : List Loc, z = [] := ⟨_, rfl⟩
  have hw : wV D A s.heap ((oW cy aO (aB 0) e_O_images e_O_tape e_O_reader (aP 0) e_O_trial e_O_season e_O_dates e_O_line e_O_evening e_O_choices SO) ++ ((bW cy aB (als 0) (atd 0) e_B_mentions e_B_claims SB) ++ ((lsW cy als Sls) ++ ((pW cy aP (aJ 0) SP) ++ ((jW cy aJ SJ) ++ (tW cy atd Std)))))) H locs := by rw [hH, hLc]; exact hw
  have hgo : W p l e (rmN 52) s m args below meth c H locs 0 0 (MQ below (eI D cy A (fun u : Ob × Ob => ((oW cy aO (aB 0) e_O_images e_O_tape e_O_reader (aP 0) e_O_trial e_O_season e_O_dates e_O_line e_O_evening e_O_choices SO) ++ ((bW cy aB (als 0) (atd 0) e_B_mentions e_B_claims SB) ++ ((lsW cy als Sls) ++ ((pW cy aP (aJ 0) u.1) ++ ((jW cy aJ u.2) ++ (tW cy atd Std))))))) (fun (r : Int32) (u : Ob × Ob) => Q r u.1 u.2)) args s (rmN 52).cells (rmN 52).slots A) (F0 m 0 ls []) := ?hgo
  · rw [hH, hLc] at hgo; exact hgo
  refine lv_aload_n hx hb dX8_duel_0 rfl (lv_at hl 0 rfl) ?_
  refine gF (k := 0) hc hw inX8 rfl 0 rfl (by decide) (gm 415 (by decide +kernel) rfl) rfl dX8_duel_1 ?_
  refine nVN_I (As := []) (rest := []) (wc := ((bW cy aB (als 0) (atd 0) e_B_mentions e_B_claims SB) ++ (tW cy atd Std))) (wr := ((oW cy aO (aB 0) e_O_images e_O_tape e_O_reader (aP 0) e_O_trial e_O_season e_O_dates e_O_line e_O_evening e_O_choices SO) ++ ((lsW cy als Sls) ++ ((pW cy aP (aJ 0) SP) ++ (jW cy aJ SJ))))) (isC := [3, 4, 5, 6, 7, 8, 24, 25, 26, 27]) (isR := [0, 1, 2, 9, 10, 11, 12, 13, 14, 15, 16, 17, 18, 19, 20, 21, 22, 23]) hc hw (c_X6_untold hm) lk_X8_194 ⟨rfl, rfl, rfl, rfl, by decide⟩ rfl rfl ⟨Nat.le_of_ble_eq_true rfl, Nat.le_of_ble_eq_true rfl⟩ ⟨Nat.le_of_ble_eq_true rfl, Nat.le_of_ble_eq_true rfl⟩ hl.1 rfl (Nat.le_of_ble_eq_true rfl) rfl dX8_duel_4 (fun r1 _ H locs hm hw => ?_)
  have hw : wV D A s.heap ((oW cy aO (aB 0) e_O_images e_O_tape e_O_reader (aP 0) e_O_trial e_O_season e_O_dates e_O_line e_O_evening e_O_choices SO) ++ ((bW cy aB (als 0) (atd 0) e_B_mentions e_B_claims SB) ++ ((lsW cy als Sls) ++ ((pW cy aP (aJ 0) SP) ++ ((jW cy aJ SJ) ++ (tW cy atd Std)))))) H locs := hw.perm [0, 1, 2, 18, 19, 20, 21, 22, 23, 3, 4, 5, 6, 7, 8, 9, 10, 11, 12, 13, 14, 15, 16, 17, 24, 25, 26, 27] rfl rfl
  refine lv_istore_n (lv' := [(2, .int r1), (0, .ref (aO 0)), (1, .int x1)]) hx hb dX8_duel_7 rfl hl (by decide) rfl (fun ls hl => ?_)
  refine lv_iload_n hx hb dX8_duel_8 rfl (lv_at hl 2 rfl) ?_
  refine lv_if_lt (tgt := 26) hx hb dX8_duel_9 (by decide) (fun c21 => ?_) (fun c21 => ?_)
  · have hm := hm.1 c21
    refine lv_iconst (v := (-1)) hx hb dX8_duel_26 (by decide) ?_
    exact retI (u := (SP, SJ)) hc hw hm dX8_duel_27
  · have hm := hm.2 c21
    refine lv_iload_n hx hb dX8_duel_12 rfl (lv_at hl 2 rfl) ?_
    refine lv_iconst (v := 1) hx hb dX8_duel_13 (by decide) ?_
    refine lv_icmp_gt (tgt := 26) hx hb dX8_duel_14 (by decide) (fun c20 => ?_) (fun c20 => ?_)
    · have hm := hm.1 c20
      refine lv_iconst (v := (-1)) hx hb dX8_duel_26 (by decide) ?_
      exact retI (u := (SP, SJ)) hc hw hm dX8_duel_27
    · have hm := hm.2 c20
      refine lv_iload_n hx hb dX8_duel_17 rfl (lv_at hl 0 rfl) ?_
      refine zS_I (As := [.int r1]) (rest := []) hc hw (c_J6_bitCount_0f7a4 hm) lk_X8_214 ⟨Nat.le_of_ble_eq_true rfl, Nat.le_of_ble_eq_true rfl⟩ ⟨Nat.le_of_ble_eq_true rfl, Nat.le_of_ble_eq_true rfl⟩ hl.1 rfl (Nat.le_of_ble_eq_true rfl) rfl dX8_duel_18 (fun r3 H locs hm hw => ?_)
      refine lv_bipush (v := 7) hx hb dX8_duel_21 (by decide) ?_
      refine lv_icmp_le (tgt := 28) hx hb dX8_duel_23 (by decide) (fun c19 => ?_) (fun c19 => ?_)
      · have hm := hm.1 c19
        refine lv_aload_n hx hb dX8_duel_28 rfl (lv_at hl 1 rfl) ?_
        refine gF (k := 8) hc hw inX8 rfl 0 rfl (by decide) (gm 423 (by decide +kernel) rfl) rfl dX8_duel_29 ?_
        refine lv_aload_n hx hb dX8_duel_32 rfl (lv_at hl 1 rfl) ?_
        refine gF (k := 0) hc hw inX8 rfl 0 rfl (by decide) (gm 415 (by decide +kernel) rfl) rfl dX8_duel_33 ?_
        refine nVN_V (As := [.ref (aB 0)]) (rest := []) (wc := ((pW cy aP (aJ 0) SP) ++ ((jW cy aJ SJ) ++ ((bW cy aB (als 0) (atd 0) e_B_mentions e_B_claims SB) ++ (lsW cy als Sls))))) (wr := ((oW cy aO (aB 0) e_O_images e_O_tape e_O_reader (aP 0) e_O_trial e_O_season e_O_dates e_O_line e_O_evening e_O_choices SO) ++ (tW cy atd Std))) (isC := [10, 11, 12, 13, 14, 15, 16, 17, 18, 19, 20, 21, 22, 23, 3, 4, 5, 6, 7, 8, 9]) (isR := [0, 1, 2, 24, 25, 26, 27]) hc hw (c_X3_weighN hm) lk_X8_124 ⟨rfl, rfl, rfl, rfl, by decide⟩ rfl rfl ⟨Nat.le_of_ble_eq_true rfl, Nat.le_of_ble_eq_true rfl⟩ ⟨Nat.le_of_ble_eq_true rfl, Nat.le_of_ble_eq_true rfl⟩ hl.1 rfl (Nat.le_of_ble_eq_true rfl) rfl dX8_duel_36 (fun u_6 H locs hm hw => ?_)
        obtain ⟨S5, S6⟩ := u_6
        have hw : wV D A s.heap ((oW cy aO (aB 0) e_O_images e_O_tape e_O_reader (aP 0) e_O_trial e_O_season e_O_dates e_O_line e_O_evening e_O_choices SO) ++ ((bW cy aB (als 0) (atd 0) e_B_mentions e_B_claims SB) ++ ((lsW cy als Sls) ++ ((pW cy aP (aJ 0) S5) ++ ((jW cy aJ S6) ++ (tW cy atd Std)))))) H locs := hw.perm [0, 1, 2, 21, 22, 23, 24, 25, 26, 27, 7, 8, 9, 10, 11, 12, 13, 14, 15, 16, 17, 18, 19, 20, 3, 4, 5, 6] rfl rfl
        refine lv_aload_n hx hb dX8_duel_39 rfl (lv_at hl 1 rfl) ?_
        refine gF (k := 0) hc hw inX8 rfl 0 rfl (by decide) (gm 415 (by decide +kernel) rfl) rfl dX8_duel_40 ?_
        refine nVN_I (As := []) (rest := []) (wc := ((bW cy aB (als 0) (atd 0) e_B_mentions e_B_claims SB) ++ (tW cy atd Std))) (wr := ((oW cy aO (aB 0) e_O_images e_O_tape e_O_reader (aP 0) e_O_trial e_O_season e_O_dates e_O_line e_O_evening e_O_choices SO) ++ ((lsW cy als Sls) ++ ((pW cy aP (aJ 0) S5) ++ (jW cy aJ S6))))) (isC := [3, 4, 5, 6, 7, 8, 24, 25, 26, 27]) (isR := [0, 1, 2, 9, 10, 11, 12, 13, 14, 15, 16, 17, 18, 19, 20, 21, 22, 23]) hc hw (c_X6_lastTeller hm) lk_X8_173 ⟨rfl, rfl, rfl, rfl, by decide⟩ rfl rfl ⟨Nat.le_of_ble_eq_true rfl, Nat.le_of_ble_eq_true rfl⟩ ⟨Nat.le_of_ble_eq_true rfl, Nat.le_of_ble_eq_true rfl⟩ hl.1 rfl (Nat.le_of_ble_eq_true rfl) rfl dX8_duel_43 (fun r8 _ H locs hm hw => ?_)
        have hw : wV D A s.heap ((oW cy aO (aB 0) e_O_images e_O_tape e_O_reader (aP 0) e_O_trial e_O_season e_O_dates e_O_line e_O_evening e_O_choices SO) ++ ((bW cy aB (als 0) (atd 0) e_B_mentions e_B_claims SB) ++ ((lsW cy als Sls) ++ ((pW cy aP (aJ 0) S5) ++ ((jW cy aJ S6) ++ (tW cy atd Std)))))) H locs := hw.perm [0, 1, 2, 18, 19, 20, 21, 22, 23, 3, 4, 5, 6, 7, 8, 9, 10, 11, 12, 13, 14, 15, 16, 17, 24, 25, 26, 27] rfl rfl
        obtain ⟨J11, eJ11, hm⟩ := jn_e hm
        have hJ11 : ∀ (t10 : Int32) (_ : J11 t10) (H : Heap) (locs : List Loc) (ls : Array Slot), wV D A s.heap ((oW cy aO (aB 0) e_O_images e_O_tape e_O_reader (aP 0) e_O_trial e_O_season e_O_dates e_O_line e_O_evening e_O_choices SO) ++ ((bW cy aB (als 0) (atd 0) e_B_mentions e_B_claims SB) ++ ((lsW cy als Sls) ++ ((pW cy aP (aJ 0) S5) ++ ((jW cy aJ S6) ++ (tW cy atd Std)))))) H locs → lv_has ls 5 [(0, .ref (aO 0)), (1, .int x1), (2, .int r1)] → W p l e (rmN 52) s m args below meth c H locs 0 0 (MQ below (eI D cy A (fun u : Ob × Ob => ((oW cy aO (aB 0) e_O_images e_O_tape e_O_reader (aP 0) e_O_trial e_O_season e_O_dates e_O_line e_O_evening e_O_choices SO) ++ ((bW cy aB (als 0) (atd 0) e_B_mentions e_B_claims SB) ++ ((lsW cy als Sls) ++ ((pW cy aP (aJ 0) u.1) ++ ((jW cy aJ u.2) ++ (tW cy atd Std))))))) (fun (r : Int32) (u : Ob × Ob) => Q r u.1 u.2)) args s (rmN 52).cells (rmN 52).slots A) (F0 m 54 ls [.int t10]) := by
          intro t10 hm H locs ls hw hl
          rw [eJ11] at hm
          refine lv_istore_n (lv' := [(3, .int t10), (0, .ref (aO 0)), (1, .int x1), (2, .int r1)]) hx hb dX8_duel_54 rfl hl (by decide) rfl (fun ls hl => ?_)
          refine lv_aload_n hx hb dX8_duel_55 rfl (lv_at hl 1 rfl) ?_
          refine gF (k := 8) hc hw inX8 rfl 0 rfl (by decide) (gm 423 (by decide +kernel) rfl) rfl dX8_duel_56 ?_
          refine lv_iload_n hx hb dX8_duel_59 rfl (lv_at hl 3 rfl) ?_
          refine lv_aload_n hx hb dX8_duel_60 rfl (lv_at hl 1 rfl) ?_
          refine gF (k := 0) hc hw inX8 rfl 0 rfl (by decide) (gm 415 (by decide +kernel) rfl) rfl dX8_duel_61 ?_
          refine nVN_I (As := []) (rest := [.int r1, .ref (aP 0)]) (wc := ((bW cy aB (als 0) (atd 0) e_B_mentions e_B_claims SB) ++ (tW cy atd Std))) (wr := ((oW cy aO (aB 0) e_O_images e_O_tape e_O_reader (aP 0) e_O_trial e_O_season e_O_dates e_O_line e_O_evening e_O_choices SO) ++ ((lsW cy als Sls) ++ ((pW cy aP (aJ 0) S5) ++ (jW cy aJ S6))))) (isC := [3, 4, 5, 6, 7, 8, 24, 25, 26, 27]) (isR := [0, 1, 2, 9, 10, 11, 12, 13, 14, 15, 16, 17, 18, 19, 20, 21, 22, 23]) hc hw (c_X6_lastYear hm) lk_X8_165 ⟨rfl, rfl, rfl, rfl, by decide⟩ rfl rfl ⟨Nat.le_of_ble_eq_true rfl, Nat.le_of_ble_eq_true rfl⟩ ⟨Nat.le_of_ble_eq_true rfl, Nat.le_of_ble_eq_true rfl⟩ hl.1 rfl (Nat.le_of_ble_eq_true rfl) rfl dX8_duel_64 (fun r12 _ H locs hm hw => ?_)
          have hw : wV D A s.heap ((oW cy aO (aB 0) e_O_images e_O_tape e_O_reader (aP 0) e_O_trial e_O_season e_O_dates e_O_line e_O_evening e_O_choices SO) ++ ((bW cy aB (als 0) (atd 0) e_B_mentions e_B_claims SB) ++ ((lsW cy als Sls) ++ ((pW cy aP (aJ 0) S5) ++ ((jW cy aJ S6) ++ (tW cy atd Std)))))) H locs := hw.perm [0, 1, 2, 18, 19, 20, 21, 22, 23, 3, 4, 5, 6, 7, 8, 9, 10, 11, 12, 13, 14, 15, 16, 17, 24, 25, 26, 27] rfl rfl
          refine lv_iload_n hx hb dX8_duel_67 rfl (lv_at hl 0 rfl) ?_
          refine lv_iconst (v := 0) hx hb dX8_duel_68 (by decide) ?_
          refine nVN_I (As := [.int r1, .int r12, .int t10, .int 0]) (rest := []) (wc := (pW cy aP (aJ 0) S5)) (wr := ((oW cy aO (aB 0) e_O_images e_O_tape e_O_reader (aP 0) e_O_trial e_O_season e_O_dates e_O_line e_O_evening e_O_choices SO) ++ ((bW cy aB (als 0) (atd 0) e_B_mentions e_B_claims SB) ++ ((lsW cy als Sls) ++ ((jW cy aJ S6) ++ (tW cy atd Std)))))) (isC := [10, 11, 12, 13, 14, 15, 16, 17, 18, 19, 20]) (isR := [0, 1, 2, 3, 4, 5, 6, 7, 8, 9, 21, 22, 23, 24, 25, 26, 27]) hc hw (c_X3_winningTale 12 _ _ _ _ _ _ hm) lk_X8_230 ⟨rfl, rfl, rfl, rfl, by decide⟩ rfl rfl (rm_ok (by omega) (by omega)) ⟨Nat.le_of_ble_eq_true rfl, Nat.le_of_ble_eq_true rfl⟩ hl.1 rfl (Nat.le_of_ble_eq_true rfl) rfl dX8_duel_69 (fun r14 _ H locs hm hw => ?_)
          have hw : wV D A s.heap ((oW cy aO (aB 0) e_O_images e_O_tape e_O_reader (aP 0) e_O_trial e_O_season e_O_dates e_O_line e_O_evening e_O_choices SO) ++ ((bW cy aB (als 0) (atd 0) e_B_mentions e_B_claims SB) ++ ((lsW cy als Sls) ++ ((pW cy aP (aJ 0) S5) ++ ((jW cy aJ S6) ++ (tW cy atd Std)))))) H locs := hw.perm [0, 1, 2, 3, 4, 5, 6, 7, 8, 9, 17, 18, 19, 20, 21, 22, 23, 24, 25, 26, 27, 10, 11, 12, 13, 14, 15, 16] rfl rfl
          refine lv_istore (lv' := [(4, .int r14), (3, .int t10), (0, .ref (aO 0)), (1, .int x1), (2, .int r1)]) hx hb dX8_duel_72 hl (by decide) rfl (fun ls hl => ?_)
          refine lv_iload_n hx hb dX8_duel_74 rfl (lv_at hl 3 rfl) ?_
          refine lv_iconst (v := 1) hx hb dX8_duel_75 (by decide) ?_
          refine lv_icmp_ne (tgt := 82) hx hb dX8_duel_76 (by decide) (fun c17 => ?_) (fun c17 => ?_)
          · have hm := hm.1 c17
            refine lv_iload hx hb dX8_duel_82 (lv_at hl 0 rfl) ?_
            refine lv_iconst (v := (-1)) hx hb dX8_duel_84 (by decide) ?_
            refine lv_icmp_ne (tgt := 94) hx hb dX8_duel_85 (by decide) (fun c16 => ?_) (fun c16 => ?_)
            · have hm := hm.1 c16
              refine lv_iload_n hx hb dX8_duel_94 rfl (lv_at hl 1 rfl) ?_
              exact retI (u := (S5, S6)) hc hw hm dX8_duel_95
            · have hm := hm.2 c16
              refine lv_iconst (v := 1) hx hb dX8_duel_88 (by decide) ?_
              refine lv_iload_n hx hb dX8_duel_89 rfl (lv_at hl 1 rfl) ?_
              refine lv_isub hx hb dX8_duel_90 ?_
              refine lv_goto (tgt := 95) hx hb dX8_duel_91 (by decide) ?_
              exact retI (u := (S5, S6)) hc hw hm dX8_duel_95
          · have hm := hm.2 c17
            refine lv_iload hx hb dX8_duel_79 (lv_at hl 0 rfl) ?_
            exact retI (u := (S5, S6)) hc hw hm dX8_duel_81
        refine lv_if_ne (tgt := 53) hx hb dX8_duel_46 (by decide) (fun c18 => ?_) (fun c18 => ?_)
        · have hm := hm.1 c18
          refine lv_iconst (v := 0) hx hb dX8_duel_53 (by decide) ?_
          exact hJ11 _ hm _ _ _ hw (lv_sub hl [1, 2, 0] rfl)
        · have hm := hm.2 c18
          refine lv_iconst (v := 1) hx hb dX8_duel_49 (by decide) ?_
          refine lv_goto (tgt := 54) hx hb dX8_duel_50 (by decide) ?_
          exact hJ11 _ hm _ _ _ hw (lv_sub hl [1, 2, 0] rfl)
      · have hm := hm.2 c19
        refine lv_iconst (v := (-1)) hx hb dX8_duel_26 (by decide) ?_
        exact retI (u := (SP, SJ)) hc hw hm dX8_duel_27
set_option maxHeartbeats 4000000 in
set_option maxRecDepth 100000 in
theorem c_X8_order {l : Launch} {D : va_G} {cy : Nat → ClassId} {aO : Nat → Nat} {aB : Nat → Nat} {als : Nat → Nat} {aP : Nat → Nat} {aJ : Nat → Nat} {atd : Nat → Nat} {ali : Nat → Nat} {aLw : Nat → Nat} {e_O_images : Nat} {e_O_tape : Nat} {e_O_reader : Nat} {e_O_trial : Option Nat} {e_O_season : Option Nat} {e_O_dates : Nat} {e_O_evening : Nat} {e_O_choices : Nat} {e_B_mentions : Nat} {e_B_claims : Nat} {SO : Ob} {SB : Ob} {Sls : (Nat → Option Nat)} {SP : Ob} {SJ : Ob} {Std : Ob} {Sli : Ob} {SLw : Lw} {x1 : Int32} {x2 : Int32} {x3 : Int32} {Q : Int32 → Ob → Ob → Ob → Prop} (hm : w_X8_order aLw SO SB Sls SP SJ Std Sli SLw x1 x2 x3 Q) : CtI l yX8_order cX8_order 4 (some .int) (rmN 6) D cy [.ref (aO 0), .int x1, .int x2, .int x3] ((oW cy aO (aB 0) e_O_images e_O_tape e_O_reader (aP 0) e_O_trial e_O_season e_O_dates (ali 0) e_O_evening e_O_choices SO) ++ ((bW cy aB (als 0) (atd 0) e_B_mentions e_B_claims SB) ++ ((lsW cy als Sls) ++ ((pW cy aP (aJ 0) SP) ++ ((jW cy aJ SJ) ++ ((tW cy atd Std) ++ ((tW cy ali Sli) ++ (lwW cy aLw SLw)))))))) (fun u : Ob × Ob × Ob => ((oW cy aO (aB 0) e_O_images e_O_tape e_O_reader (aP 0) e_O_trial e_O_season e_O_dates (ali 0) e_O_evening e_O_choices SO) ++ ((bW cy aB (als 0) (atd 0) e_B_mentions e_B_claims SB) ++ ((lsW cy als Sls) ++ ((pW cy aP (aJ 0) u.1) ++ ((jW cy aJ u.2.1) ++ ((tW cy atd Std) ++ ((tW cy ali u.2.2) ++ (lwW cy aLw SLw))))))))) (fun (r : Int32) (u : Ob × Ob × Ob) => Q r u.1 u.2.1 u.2.2) := by
  refine CtI.ofW (by decide) (Nat.le_of_ble_eq_true rfl) ?_
  intro p e s m args below meth c A ls hc hnm hw hl
  have hx := hc.1.1
  have hb := hc.1.2.1
  have hown := hc.1.2.2.2.1
  have hts := hc.1.2.2.2.2
  have hl : lv_has ls 4 [(0, .ref (aO 0)), (1, .int x1), (2, .int x2), (3, .int x3)] := hl
  obtain ⟨H, hH⟩ : ∃ z, z = s.heap := ⟨_, rfl⟩
  obtain ⟨locs, hLc⟩ : ∃ z : List Loc, z = [] := ⟨_, rfl⟩
  have hw : wV D A s.heap ((oW cy aO (aB 0) e_O_images e_O_tape e_O_reader (aP 0) e_O_trial e_O_season e_O_dates (ali 0) e_O_evening e_O_choices SO) ++ ((bW cy aB (als 0) (atd 0) e_B_mentions e_B_claims SB) ++ ((lsW cy als Sls) ++ ((pW cy aP (aJ 0) SP) ++ ((jW cy aJ SJ) ++ ((tW cy atd Std) ++ ((tW cy ali Sli) ++ (lwW cy aLw SLw)))))))) H locs := by rw [hH, hLc]; exact hw
  have hgo : W p l e (rmN 6) s m args below meth c H locs 0 0 (MQ below (eI D cy A (fun u : Ob × Ob × Ob => ((oW cy aO (aB 0) e_O_images e_O_tape e_O_reader (aP 0) e_O_trial e_O_season e_O_dates (ali 0) e_O_evening e_O_choices SO) ++ ((bW cy aB (als 0) (atd 0) e_B_mentions e_B_claims SB) ++ ((lsW cy als Sls) ++ ((pW cy aP (aJ 0) u.1) ++ ((jW cy aJ u.2.1) ++ ((tW cy atd Std) ++ ((tW cy ali u.2.2) ++ (lwW cy aLw SLw))))))))) (fun (r : Int32) (u : Ob × Ob × Ob) => Q r u.1 u.2.1 u.2.2)) args s (rmN 6).cells (rmN 6).slots A) (F0 m 0 ls []) := ?hgo
  · rw [hH, hLc] at hgo; exact hgo
  refine lv_iload_n hx hb dX8_order_0 rfl (lv_at hl 1 rfl) ?_
  refine lv_aload_n hx hb dX8_order_1 rfl (lv_at hl 0 rfl) ?_
  refine gF (k := 0) hc hw inX8 rfl 0 rfl (by decide) (gm 415 (by decide +kernel) rfl) rfl dX8_order_2 ?_
  refine nVN_I (As := []) (rest := [.int x1]) (wc := ((bW cy aB (als 0) (atd 0) e_B_mentions e_B_claims SB) ++ (tW cy atd Std))) (wr := ((oW cy aO (aB 0) e_O_images e_O_tape e_O_reader (aP 0) e_O_trial e_O_season e_O_dates (ali 0) e_O_evening e_O_choices SO) ++ ((lsW cy als Sls) ++ ((pW cy aP (aJ 0) SP) ++ ((jW cy aJ SJ) ++ ((tW cy ali Sli) ++ (lwW cy aLw SLw))))))) (isC := [3, 4, 5, 6, 7, 8, 24, 25, 26, 27]) (isR := [0, 1, 2, 9, 10, 11, 12, 13, 14, 15, 16, 17, 18, 19, 20, 21, 22, 23, 28, 29, 30, 31, 32, 33, 34, 35, 36]) hc hw (c_X6_untold hm) lk_X8_194 ⟨rfl, rfl, rfl, rfl, by decide⟩ rfl rfl ⟨Nat.le_of_ble_eq_true rfl, Nat.le_of_ble_eq_true rfl⟩ ⟨Nat.le_of_ble_eq_true rfl, Nat.le_of_ble_eq_true rfl⟩ hl.1 rfl (Nat.le_of_ble_eq_true rfl) rfl dX8_order_5 (fun r1 _ H locs hm hw => ?_)
  have hw : wV D A s.heap ((oW cy aO (aB 0) e_O_images e_O_tape e_O_reader (aP 0) e_O_trial e_O_season e_O_dates (ali 0) e_O_evening e_O_choices SO) ++ ((bW cy aB (als 0) (atd 0) e_B_mentions e_B_claims SB) ++ ((lsW cy als Sls) ++ ((pW cy aP (aJ 0) SP) ++ ((jW cy aJ SJ) ++ ((tW cy atd Std) ++ ((tW cy ali Sli) ++ (lwW cy aLw SLw)))))))) H locs := hw.perm [0, 1, 2, 27, 28, 29, 30, 31, 32, 3, 4, 5, 6, 7, 8, 9, 10, 11, 12, 13, 14, 15, 16, 17, 33, 34, 35, 36, 18, 19, 20, 21, 22, 23, 24, 25, 26] rfl rfl
  refine lv_iconst (v := (-1)) hx hb dX8_order_8 (by decide) ?_
  refine lv_ixor hx hb dX8_order_9 ?_
  refine lv_iand hx hb dX8_order_10 ?_
  refine lv_if_eq (tgt := 16) hx hb dX8_order_11 (by decide) (fun c18 => ?_) (fun c18 => ?_)
  · have hm := hm.1 c18
    refine lv_aload_n hx hb dX8_order_16 rfl (lv_at hl 0 rfl) ?_
    refine gF (k := 8) hc hw inX8 rfl 0 rfl (by decide) (gm 423 (by decide +kernel) rfl) rfl dX8_order_17 ?_
    refine lv_aload_n hx hb dX8_order_20 rfl (lv_at hl 0 rfl) ?_
    refine gF (k := 0) hc hw inX8 rfl 0 rfl (by decide) (gm 415 (by decide +kernel) rfl) rfl dX8_order_21 ?_
    refine nVN_V (As := [.ref (aB 0)]) (rest := []) (wc := ((pW cy aP (aJ 0) SP) ++ ((jW cy aJ SJ) ++ ((bW cy aB (als 0) (atd 0) e_B_mentions e_B_claims SB) ++ ((lsW cy als Sls) ++ (lwW cy aLw SLw)))))) (wr := ((oW cy aO (aB 0) e_O_images e_O_tape e_O_reader (aP 0) e_O_trial e_O_season e_O_dates (ali 0) e_O_evening e_O_choices SO) ++ ((tW cy atd Std) ++ (tW cy ali Sli)))) (isC := [10, 11, 12, 13, 14, 15, 16, 17, 18, 19, 20, 21, 22, 23, 3, 4, 5, 6, 7, 8, 9, 32, 33, 34, 35, 36]) (isR := [0, 1, 2, 24, 25, 26, 27, 28, 29, 30, 31]) hc hw (c_X3_reckon hm) lk_X8_197 ⟨rfl, rfl, rfl, rfl, by decide⟩ rfl rfl ⟨Nat.le_of_ble_eq_true rfl, Nat.le_of_ble_eq_true rfl⟩ ⟨Nat.le_of_ble_eq_true rfl, Nat.le_of_ble_eq_true rfl⟩ hl.1 rfl (Nat.le_of_ble_eq_true rfl) rfl dX8_order_24 (fun u_4 H locs hm hw => ?_)
    obtain ⟨S3, S4⟩ := u_4
    have hw : wV D A s.heap ((oW cy aO (aB 0) e_O_images e_O_tape e_O_reader (aP 0) e_O_trial e_O_season e_O_dates (ali 0) e_O_evening e_O_choices SO) ++ ((bW cy aB (als 0) (atd 0) e_B_mentions e_B_claims SB) ++ ((lsW cy als Sls) ++ ((pW cy aP (aJ 0) S3) ++ ((jW cy aJ S4) ++ ((tW cy atd Std) ++ ((tW cy ali Sli) ++ (lwW cy aLw SLw)))))))) H locs := hw.perm [0, 1, 2, 25, 26, 27, 28, 29, 30, 31, 11, 12, 13, 14, 15, 16, 17, 18, 19, 20, 21, 22, 23, 24, 3, 4, 5, 6, 7, 8, 9, 10, 32, 33, 34, 35, 36] rfl rfl
    refine lv_aload_n hx hb dX8_order_27 rfl (lv_at hl 0 rfl) ?_
    refine gF (k := 8) hc hw inX8 rfl 0 rfl (by decide) (gm 423 (by decide +kernel) rfl) rfl dX8_order_28 ?_
    refine lv_iload_n hx hb dX8_order_31 rfl (lv_at hl 1 rfl) ?_
    refine lv_aload_n hx hb dX8_order_32 rfl (lv_at hl 0 rfl) ?_
    refine gF (k := 0) hc hw inX8 rfl 0 rfl (by decide) (gm 415 (by decide +kernel) rfl) rfl dX8_order_33 ?_
    refine nVN_I (As := []) (rest := [.int x1, .ref (aP 0)]) (wc := ((bW cy aB (als 0) (atd 0) e_B_mentions e_B_claims SB) ++ (tW cy atd Std))) (wr := ((oW cy aO (aB 0) e_O_images e_O_tape e_O_reader (aP 0) e_O_trial e_O_season e_O_dates (ali 0) e_O_evening e_O_choices SO) ++ ((lsW cy als Sls) ++ ((pW cy aP (aJ 0) S3) ++ ((jW cy aJ S4) ++ ((tW cy ali Sli) ++ (lwW cy aLw SLw))))))) (isC := [3, 4, 5, 6, 7, 8, 24, 25, 26, 27]) (isR := [0, 1, 2, 9, 10, 11, 12, 13, 14, 15, 16, 17, 18, 19, 20, 21, 22, 23, 28, 29, 30, 31, 32, 33, 34, 35, 36]) hc hw (c_X6_lastYear hm) lk_X8_165 ⟨rfl, rfl, rfl, rfl, by decide⟩ rfl rfl ⟨Nat.le_of_ble_eq_true rfl, Nat.le_of_ble_eq_true rfl⟩ ⟨Nat.le_of_ble_eq_true rfl, Nat.le_of_ble_eq_true rfl⟩ hl.1 rfl (Nat.le_of_ble_eq_true rfl) rfl dX8_order_36 (fun r6 _ H locs hm hw => ?_)
    have hw : wV D A s.heap ((oW cy aO (aB 0) e_O_images e_O_tape e_O_reader (aP 0) e_O_trial e_O_season e_O_dates (ali 0) e_O_evening e_O_choices SO) ++ ((bW cy aB (als 0) (atd 0) e_B_mentions e_B_claims SB) ++ ((lsW cy als Sls) ++ ((pW cy aP (aJ 0) S3) ++ ((jW cy aJ S4) ++ ((tW cy atd Std) ++ ((tW cy ali Sli) ++ (lwW cy aLw SLw)))))))) H locs := hw.perm [0, 1, 2, 27, 28, 29, 30, 31, 32, 3, 4, 5, 6, 7, 8, 9, 10, 11, 12, 13, 14, 15, 16, 17, 33, 34, 35, 36, 18, 19, 20, 21, 22, 23, 24, 25, 26] rfl rfl
    refine lv_aload_n hx hb dX8_order_39 rfl (lv_at hl 0 rfl) ?_
    refine gF (k := 0) hc hw inX8 rfl 0 rfl (by decide) (gm 415 (by decide +kernel) rfl) rfl dX8_order_40 ?_
    refine nVN_I (As := []) (rest := [.int r6, .int x1, .ref (aP 0)]) (wc := ((bW cy aB (als 0) (atd 0) e_B_mentions e_B_claims SB) ++ (tW cy atd Std))) (wr := ((oW cy aO (aB 0) e_O_images e_O_tape e_O_reader (aP 0) e_O_trial e_O_season e_O_dates (ali 0) e_O_evening e_O_choices SO) ++ ((lsW cy als Sls) ++ ((pW cy aP (aJ 0) S3) ++ ((jW cy aJ S4) ++ ((tW cy ali Sli) ++ (lwW cy aLw SLw))))))) (isC := [3, 4, 5, 6, 7, 8, 24, 25, 26, 27]) (isR := [0, 1, 2, 9, 10, 11, 12, 13, 14, 15, 16, 17, 18, 19, 20, 21, 22, 23, 28, 29, 30, 31, 32, 33, 34, 35, 36]) hc hw (c_X6_lastTeller hm) lk_X8_173 ⟨rfl, rfl, rfl, rfl, by decide⟩ rfl rfl ⟨Nat.le_of_ble_eq_true rfl, Nat.le_of_ble_eq_true rfl⟩ ⟨Nat.le_of_ble_eq_true rfl, Nat.le_of_ble_eq_true rfl⟩ hl.1 rfl (Nat.le_of_ble_eq_true rfl) rfl dX8_order_43 (fun r8 _ H locs hm hw => ?_)
    have hw : wV D A s.heap ((oW cy aO (aB 0) e_O_images e_O_tape e_O_reader (aP 0) e_O_trial e_O_season e_O_dates (ali 0) e_O_evening e_O_choices SO) ++ ((bW cy aB (als 0) (atd 0) e_B_mentions e_B_claims SB) ++ ((lsW cy als Sls) ++ ((pW cy aP (aJ 0) S3) ++ ((jW cy aJ S4) ++ ((tW cy atd Std) ++ ((tW cy ali Sli) ++ (lwW cy aLw SLw)))))))) H locs := hw.perm [0, 1, 2, 27, 28, 29, 30, 31, 32, 3, 4, 5, 6, 7, 8, 9, 10, 11, 12, 13, 14, 15, 16, 17, 33, 34, 35, 36, 18, 19, 20, 21, 22, 23, 24, 25, 26] rfl rfl
    refine nVN_I (As := [.int x1, .int r6, .int r8]) (rest := []) (wc := (pW cy aP (aJ 0) S3)) (wr := ((oW cy aO (aB 0) e_O_images e_O_tape e_O_reader (aP 0) e_O_trial e_O_season e_O_dates (ali 0) e_O_evening e_O_choices SO) ++ ((bW cy aB (als 0) (atd 0) e_B_mentions e_B_claims SB) ++ ((lsW cy als Sls) ++ ((jW cy aJ S4) ++ ((tW cy atd Std) ++ ((tW cy ali Sli) ++ (lwW cy aLw SLw)))))))) (isC := [10, 11, 12, 13, 14, 15, 16, 17, 18, 19, 20]) (isR := [0, 1, 2, 3, 4, 5, 6, 7, 8, 9, 21, 22, 23, 24, 25, 26, 27, 28, 29, 30, 31, 32, 33, 34, 35, 36]) hc hw (c_X3_fits hm) lk_X8_200 ⟨rfl, rfl, rfl, rfl, by decide⟩ rfl rfl ⟨Nat.le_of_ble_eq_true rfl, Nat.le_of_ble_eq_true rfl⟩ ⟨Nat.le_of_ble_eq_true rfl, Nat.le_of_ble_eq_true rfl⟩ hl.1 rfl (Nat.le_of_ble_eq_true rfl) rfl dX8_order_46 (fun r10 _ H locs hm hw => ?_)
    have hw : wV D A s.heap ((oW cy aO (aB 0) e_O_images e_O_tape e_O_reader (aP 0) e_O_trial e_O_season e_O_dates (ali 0) e_O_evening e_O_choices SO) ++ ((bW cy aB (als 0) (atd 0) e_B_mentions e_B_claims SB) ++ ((lsW cy als Sls) ++ ((pW cy aP (aJ 0) S3) ++ ((jW cy aJ S4) ++ ((tW cy atd Std) ++ ((tW cy ali Sli) ++ (lwW cy aLw SLw)))))))) H locs := hw.perm [0, 1, 2, 3, 4, 5, 6, 7, 8, 9, 26, 27, 28, 29, 30, 31, 32, 33, 34, 35, 36, 10, 11, 12, 13, 14, 15, 16, 17, 18, 19, 20, 21, 22, 23, 24, 25] rfl rfl
    refine lv_if_ne (tgt := 54) hx hb dX8_order_49 (by decide) (fun c17 => ?_) (fun c17 => ?_)
    · have hm := hm.1 c17
      refine lv_aload_n hx hb dX8_order_54 rfl (lv_at hl 0 rfl) ?_
      refine gF (k := 8) hc hw inX8 rfl 0 rfl (by decide) (gm 423 (by decide +kernel) rfl) rfl dX8_order_55 ?_
      refine lv_aload_n hx hb dX8_order_58 rfl (lv_at hl 0 rfl) ?_
      refine gF (k := 0) hc hw inX8 rfl 0 rfl (by decide) (gm 415 (by decide +kernel) rfl) rfl dX8_order_59 ?_
      refine lv_iload_n hx hb dX8_order_62 rfl (lv_at hl 1 rfl) ?_
      refine lv_aload_n hx hb dX8_order_63 rfl (lv_at hl 0 rfl) ?_
      refine gF (k := 12) hc hw inX8 rfl 0 rfl (by decide) (gm 427 (by decide +kernel) rfl) rfl dX8_order_64 ?_
      refine nVN_V (As := [.ref (aB 0), .int x1, .ref (ali 0)]) (rest := []) (wc := ((pW cy aP (aJ 0) S3) ++ ((bW cy aB (als 0) (atd 0) e_B_mentions e_B_claims SB) ++ ((tW cy atd Std) ++ (tW cy ali Sli))))) (wr := ((oW cy aO (aB 0) e_O_images e_O_tape e_O_reader (aP 0) e_O_trial e_O_season e_O_dates (ali 0) e_O_evening e_O_choices SO) ++ ((lsW cy als Sls) ++ ((jW cy aJ S4) ++ (lwW cy aLw SLw))))) (isC := [10, 11, 12, 13, 14, 15, 16, 17, 18, 19, 20, 3, 4, 5, 6, 7, 8, 24, 25, 26, 27, 28, 29, 30, 31]) (isR := [0, 1, 2, 9, 21, 22, 23, 32, 33, 34, 35, 36]) hc hw (c_X3_lineUp hm) lk_X8_222 ⟨rfl, rfl, rfl, rfl, by decide⟩ rfl rfl ⟨Nat.le_of_ble_eq_true rfl, Nat.le_of_ble_eq_true rfl⟩ ⟨Nat.le_of_ble_eq_true rfl, Nat.le_of_ble_eq_true rfl⟩ hl.1 rfl (Nat.le_of_ble_eq_true rfl) rfl dX8_order_67 (fun u_13 H locs hm hw => ?_)
      obtain ⟨S12, S13⟩ := u_13
      have hw : wV D A s.heap ((oW cy aO (aB 0) e_O_images e_O_tape e_O_reader (aP 0) e_O_trial e_O_season e_O_dates (ali 0) e_O_evening e_O_choices SO) ++ ((bW cy aB (als 0) (atd 0) e_B_mentions e_B_claims SB) ++ ((lsW cy als Sls) ++ ((pW cy aP (aJ 0) S12) ++ ((jW cy aJ S4) ++ ((tW cy atd Std) ++ ((tW cy ali S13) ++ (lwW cy aLw SLw)))))))) H locs := hw.perm [0, 1, 2, 23, 24, 25, 26, 27, 28, 3, 12, 13, 14, 15, 16, 17, 18, 19, 20, 21, 22, 4, 5, 6, 29, 30, 31, 32, 33, 34, 35, 36, 7, 8, 9, 10, 11] rfl rfl
      refine lv_aload_n hx hb dX8_order_70 rfl (lv_at hl 0 rfl) ?_
      refine gF (k := 12) hc hw inX8 rfl 0 rfl (by decide) (gm 427 (by decide +kernel) rfl) rfl dX8_order_71 ?_
      refine lv_iload_n hx hb dX8_order_74 rfl (lv_at hl 2 rfl) ?_
      refine lv_iload_n hx hb dX8_order_75 rfl (lv_at hl 3 rfl) ?_
      refine nVN_I (As := [.int x2, .int x3]) (rest := []) (wc := (tW cy ali S13)) (wr := ((oW cy aO (aB 0) e_O_images e_O_tape e_O_reader (aP 0) e_O_trial e_O_season e_O_dates (ali 0) e_O_evening e_O_choices SO) ++ ((bW cy aB (als 0) (atd 0) e_B_mentions e_B_claims SB) ++ ((lsW cy als Sls) ++ ((pW cy aP (aJ 0) S12) ++ ((jW cy aJ S4) ++ ((tW cy atd Std) ++ (lwW cy aLw SLw)))))))) (isC := [28, 29, 30, 31]) (isR := [0, 1, 2, 3, 4, 5, 6, 7, 8, 9, 10, 11, 12, 13, 14, 15, 16, 17, 18, 19, 20, 21, 22, 23, 24, 25, 26, 27, 32, 33, 34, 35, 36]) hc hw (c_X7_at hm) lk_X8_191 ⟨rfl, rfl, rfl, rfl, by decide⟩ rfl rfl ⟨Nat.le_of_ble_eq_true rfl, Nat.le_of_ble_eq_true rfl⟩ ⟨Nat.le_of_ble_eq_true rfl, Nat.le_of_ble_eq_true rfl⟩ hl.1 rfl (Nat.le_of_ble_eq_true rfl) rfl dX8_order_76 (fun r15 _ H locs hm hw => ?_)
      have hw : wV D A s.heap ((oW cy aO (aB 0) e_O_images e_O_tape e_O_reader (aP 0) e_O_trial e_O_season e_O_dates (ali 0) e_O_evening e_O_choices SO) ++ ((bW cy aB (als 0) (atd 0) e_B_mentions e_B_claims SB) ++ ((lsW cy als Sls) ++ ((pW cy aP (aJ 0) S12) ++ ((jW cy aJ S4) ++ ((tW cy atd Std) ++ ((tW cy ali S13) ++ (lwW cy aLw SLw)))))))) H locs := hw.perm [0, 1, 2, 3, 4, 5, 6, 7, 8, 9, 10, 11, 12, 13, 14, 15, 16, 17, 18, 19, 20, 21, 22, 23, 24, 25, 26, 27, 33, 34, 35, 36, 28, 29, 30, 31, 32] rfl rfl
      exact retI (u := (S12, S4, S13)) hc hw hm dX8_order_79
    · have hm := hm.2 c17
      refine lv_iconst (v := (-1)) hx hb dX8_order_52 (by decide) ?_
      exact retI (u := (S3, S4, Sli)) hc hw hm dX8_order_53
  · have hm := hm.2 c18
    refine lv_iconst (v := (-1)) hx hb dX8_order_14 (by decide) ?_
    exact retI (u := (SP, SJ, Sli)) hc hw hm dX8_order_15
