set_option maxHeartbeats 4000000 in
set_option maxRecDepth 100000 in
theorem c_X3_choose {l : Launch} {D : va_G} {cy : Nat → ClassId} {aP : Nat → Nat} {aB : Nat → Nat} {atd : Nat → Nat} {e_P_judge : Nat} {e_B_laws : Nat} {e_B_mentions : Nat} {e_B_claims : Nat} {SP : Ob} {SB : Ob} {Std : Ob} {x2 : Int32} {Q : Ob → Prop} (hm : w_X3_choose SP SB Std x2 Q) : CtV l yX3_choose cX3_choose 9 none (rmN 2) D cy [.ref (aP 0), .ref (aB 0), .int x2] ((pW cy aP e_P_judge SP) ++ ((bW cy aB e_B_laws (atd 0) e_B_mentions e_B_claims SB) ++ (tW cy atd Std))) (fun u : Ob => ((pW cy aP e_P_judge u) ++ ((bW cy aB e_B_laws (atd 0) e_B_mentions e_B_claims SB) ++ (tW cy atd Std)))) Q := by
  refine CtV.ofW (by decide) (Nat.le_of_ble_eq_true rfl) ?_
  intro p e s m args below meth c A ls hc hnm hw hl
  have hx := hc.1.1
  have hb := hc.1.2.1
  have hown := hc.1.2.2.2.1
  have hts := hc.1.2.2.2.2
  have hl : lv_has ls 9 [(0, .ref (aP 0)), (1, .ref (aB 0)), (2, .int x2)] := hl
  obtain ⟨H, hH⟩ : ∃ z, z = s.heap := ⟨_, rfl⟩
  obtain ⟨locs, hLc⟩ : ∃ z : List Loc, z = [] := ⟨_, rfl⟩
  have hw : wV D A s.heap ((pW cy aP e_P_judge SP) ++ ((bW cy aB e_B_laws (atd 0) e_B_mentions e_B_claims SB) ++ (tW cy atd Std))) H locs := by rw [hH, hLc]; exact hw
  have hgo : W p l e (rmN 2) s m args below meth c H locs 0 0 (MQ below (eV D cy A (fun u : Ob => ((pW cy aP e_P_judge u) ++ ((bW cy aB e_B_laws (atd 0) e_B_mentions e_B_claims SB) ++ (tW cy atd Std)))) Q) args s (rmN 2).cells (rmN 2).slots A) (F0 m 0 ls []) := ?hgo
  · rw [hH, hLc] at hgo; exact hgo
  refine lv_aload_n hx hb dX3_choose_0 rfl (lv_at hl 1 rfl) ?_
  refine nVN_I (As := []) (rest := []) (wc := ((bW cy aB e_B_laws (atd 0) e_B_mentions e_B_claims SB) ++ (tW cy atd Std))) (wr := (pW cy aP e_P_judge SP)) (isC := [11, 12, 13, 14, 15, 16, 17, 18, 19, 20]) (isR := [0, 1, 2, 3, 4, 5, 6, 7, 8, 9, 10]) hc hw (c_X6_toldSet hm) lk_X3_132 ⟨rfl, rfl, rfl, rfl, by decide⟩ rfl rfl ⟨Nat.le_of_ble_eq_true rfl, Nat.le_of_ble_eq_true rfl⟩ ⟨Nat.le_of_ble_eq_true rfl, Nat.le_of_ble_eq_true rfl⟩ hl.1 rfl (Nat.le_of_ble_eq_true rfl) rfl dX3_choose_1 (fun r1 _ H locs hm hw => ?_)
  have hw : wV D A s.heap ((pW cy aP e_P_judge SP) ++ ((bW cy aB e_B_laws (atd 0) e_B_mentions e_B_claims SB) ++ (tW cy atd Std))) H locs := hw.perm [0, 1, 2, 3, 4, 5, 6, 7, 8, 9, 10, 11, 12, 13, 14, 15, 16, 17, 18, 19, 20] rfl rfl
  refine lv_istore_n (lv' := [(3, .int r1), (0, .ref (aP 0)), (1, .ref (aB 0)), (2, .int x2)]) hx hb dX3_choose_4 rfl hl (by decide) rfl (fun ls hl => ?_)
  refine lv_aload_n hx hb dX3_choose_5 rfl (lv_at hl 2 rfl) ?_
  refine nVN_I (As := []) (rest := []) (wc := ((bW cy aB e_B_laws (atd 0) e_B_mentions e_B_claims SB) ++ (tW cy atd Std))) (wr := (pW cy aP e_P_judge SP)) (isC := [11, 12, 13, 14, 15, 16, 17, 18, 19, 20]) (isR := [0, 1, 2, 3, 4, 5, 6, 7, 8, 9, 10]) hc hw (c_X6_lastYear hm) lk_X3_136 ⟨rfl, rfl, rfl, rfl, by decide⟩ rfl rfl ⟨Nat.le_of_ble_eq_true rfl, Nat.le_of_ble_eq_true rfl⟩ ⟨Nat.le_of_ble_eq_true rfl, Nat.le_of_ble_eq_true rfl⟩ hl.1 rfl (Nat.le_of_ble_eq_true rfl) rfl dX3_choose_6 (fun r3 _ H locs hm hw => ?_)
  have hw : wV D A s.heap ((pW cy aP e_P_judge SP) ++ ((bW cy aB e_B_laws (atd 0) e_B_mentions e_B_claims SB) ++ (tW cy atd Std))) H locs := hw.perm [0, 1, 2, 3, 4, 5, 6, 7, 8, 9, 10, 11, 12, 13, 14, 15, 16, 17, 18, 19, 20] rfl rfl
  refine lv_istore (lv' := [(4, .int r3), (3, .int r1), (0, .ref (aP 0)), (1, .ref (aB 0)), (2, .int x2)]) hx hb dX3_choose_9 hl (by decide) rfl (fun ls hl => ?_)
  refine lv_aload_n hx hb dX3_choose_11 rfl (lv_at hl 3 rfl) ?_
  refine nVN_I (As := []) (rest := []) (wc := ((bW cy aB e_B_laws (atd 0) e_B_mentions e_B_claims SB) ++ (tW cy atd Std))) (wr := (pW cy aP e_P_judge SP)) (isC := [11, 12, 13, 14, 15, 16, 17, 18, 19, 20]) (isR := [0, 1, 2, 3, 4, 5, 6, 7, 8, 9, 10]) hc hw (c_X6_lastTeller hm) lk_X3_139 ⟨rfl, rfl, rfl, rfl, by decide⟩ rfl rfl ⟨Nat.le_of_ble_eq_true rfl, Nat.le_of_ble_eq_true rfl⟩ ⟨Nat.le_of_ble_eq_true rfl, Nat.le_of_ble_eq_true rfl⟩ hl.1 rfl (Nat.le_of_ble_eq_true rfl) rfl dX3_choose_12 (fun r5 _ H locs hm hw => ?_)
  have hw : wV D A s.heap ((pW cy aP e_P_judge SP) ++ ((bW cy aB e_B_laws (atd 0) e_B_mentions e_B_claims SB) ++ (tW cy atd Std))) H locs := hw.perm [0, 1, 2, 3, 4, 5, 6, 7, 8, 9, 10, 11, 12, 13, 14, 15, 16, 17, 18, 19, 20] rfl rfl
  refine lv_istore (lv' := [(5, .int r5), (4, .int r3), (3, .int r1), (0, .ref (aP 0)), (1, .ref (aB 0)), (2, .int x2)]) hx hb dX3_choose_15 hl (by decide) rfl (fun ls hl => ?_)
  refine lv_iconst (v := (-1)) hx hb dX3_choose_17 (by decide) ?_
  refine lv_istore (lv' := [(6, .int (-1)), (5, .int r5), (4, .int r3), (3, .int r1), (0, .ref (aP 0)), (1, .ref (aB 0)), (2, .int x2)]) hx hb dX3_choose_18 hl (by decide) rfl (fun ls hl => ?_)
  refine lv_iconst (v := 0) hx hb dX3_choose_20 (by decide) ?_
  refine lv_istore (lv' := [(7, .int 0), (6, .int (-1)), (5, .int r5), (4, .int r3), (3, .int r1), (0, .ref (aP 0)), (1, .ref (aB 0)), (2, .int x2)]) hx hb dX3_choose_21 hl (by decide) rfl (fun ls hl => ?_)
  refine wl3_ind (G := fun (x7_7 : Int32) (x6_8 : Int32) (S9 : Ob) => ∀ (H : Heap) (locs : List Loc) (ls : Array Slot), wV D A s.heap ((pW cy aP e_P_judge S9) ++ ((bW cy aB e_B_laws (atd 0) e_B_mentions e_B_claims SB) ++ (tW cy atd Std))) H locs → lv_has ls 9 [(7, .int x7_7), (6, .int x6_8), (5, .int r5), (4, .int r3), (3, .int r1), (0, .ref (aP 0)), (2, .int x2)] → W p l e (rmN 2) s m args below meth c H locs 0 0 (MQ below (eV D cy A (fun u : Ob => ((pW cy aP e_P_judge u) ++ ((bW cy aB e_B_laws (atd 0) e_B_mentions e_B_claims SB) ++ (tW cy atd Std)))) Q) args s (rmN 2).cells (rmN 2).slots A) (F0 m 23 ls [])) ?_ _ _ _ hm H locs ls hw (lv_sub hl [0, 1, 2, 3, 4, 5, 7] rfl)
  intro L10 ih10 x7_7 x6_8 S9 hm H locs ls hw hl
  refine lv_iload hx hb dX3_choose_23 (lv_at hl 0 rfl) ?_
  refine lv_iconst (v := 1) hx hb dX3_choose_25 (by decide) ?_
  refine lv_aload_n hx hb dX3_choose_26 rfl (lv_at hl 5 rfl) ?_
  refine gF (k := 6) hc hw inX3 rfl 0 rfl (by decide) (gm 334 (by decide +kernel) rfl) rfl dX3_choose_27 ?_
  refine lv_ishl hx hb dX3_choose_30 ?_
  refine lv_icmp_ge (tgt := 132) hx hb dX3_choose_31 (by decide) (fun c32 => ?_) (fun c32 => ?_)
  · have hm := hm.1 c32
    exact retV (u := S9) hc hw hm dX3_choose_132
  · have hm := hm.2 c32
    refine lv_iload hx hb dX3_choose_34 (lv_at hl 0 rfl) ?_
    refine lv_iload_n hx hb dX3_choose_36 rfl (lv_at hl 4 rfl) ?_
    refine lv_iand hx hb dX3_choose_37 ?_
    refine lv_if_ne (tgt := 126) hx hb dX3_choose_38 (by decide) (fun c31 => ?_) (fun c31 => ?_)
    · have hm := hm.1 c31
      obtain ⟨v11, e_v11⟩ : ∃ z : Int32, z = x7_7 + 1 := ⟨_, rfl⟩
      have hm := hm v11 e_v11
      refine lv_iinc (v := v11) (lv' := [(7, .int v11), (6, .int x6_8), (5, .int r5), (4, .int r3), (3, .int r1), (0, .ref (aP 0)), (2, .int x2)]) hx hb dX3_choose_126 hl (k := 0) rfl (by rw [e_v11]; rfl) (by decide) rfl (fun ls hl => ?_)
      refine lv_goto (tgt := 23) hx hb dX3_choose_129 (by decide) ?_
      exact ih10 _ _ _ hm _ _ _ hw (lv_sub hl [0, 1, 2, 3, 4, 5, 6] rfl)
    · have hm := hm.2 c31
      refine lv_aload_n hx hb dX3_choose_41 rfl (lv_at hl 5 rfl) ?_
      refine lv_iload hx hb dX3_choose_42 (lv_at hl 0 rfl) ?_
      refine lv_iload hx hb dX3_choose_44 (lv_at hl 3 rfl) ?_
      refine lv_iload hx hb dX3_choose_46 (lv_at hl 2 rfl) ?_
      refine nV_I (As := [.int x7_7, .int r3, .int r5]) (rest := []) (wc := (pW cy aP e_P_judge S9)) (wr := ((bW cy aB e_B_laws (atd 0) e_B_mentions e_B_claims SB) ++ (tW cy atd Std))) (isC := [0, 1, 2, 3, 4, 5, 6, 7, 8, 9, 10]) (isR := [11, 12, 13, 14, 15, 16, 17, 18, 19, 20]) hc hw (c_X3_fits hm) lk_X3_142 ⟨rfl, rfl, rfl, rfl, by decide⟩ rfl rfl ⟨Nat.le_of_ble_eq_true rfl, Nat.le_of_ble_eq_true rfl⟩ ⟨Nat.le_of_ble_eq_true rfl, Nat.le_of_ble_eq_true rfl⟩ hl.1 rfl (Nat.le_of_ble_eq_true rfl) rfl dX3_choose_48 (fun r12 _ H locs hm hw => ?_)
      have hw : wV D A s.heap ((pW cy aP e_P_judge S9) ++ ((bW cy aB e_B_laws (atd 0) e_B_mentions e_B_claims SB) ++ (tW cy atd Std))) H locs := hw.perm [10, 11, 12, 13, 14, 15, 16, 17, 18, 19, 20, 0, 1, 2, 3, 4, 5, 6, 7, 8, 9] rfl rfl
      refine lv_if_ne (tgt := 57) hx hb dX3_choose_51 (by decide) (fun c30 => ?_) (fun c30 => ?_)
      · have hm := hm.1 c30
        refine lv_aload_n hx hb dX3_choose_57 rfl (lv_at hl 5 rfl) ?_
        refine gF (k := 10) hc hw inX3 rfl 0 rfl (by decide) (gm 339 (by decide +kernel) rfl) rfl dX3_choose_58 ?_
        refine lv_iload hx hb dX3_choose_61 (lv_at hl 0 rfl) ?_
        obtain ⟨c14, hm⟩ := hm
        refine aI hc hw 6 rfl c14 rfl dX3_choose_63 ?_
        refine lv_iload_n hx hb dX3_choose_64 rfl (lv_at hl 6 rfl) ?_
        obtain ⟨J16, eJ16, hm⟩ := jn_e hm
        have hJ16 : ∀ (t15 : Int32) (_ : J16 t15) (H : Heap) (locs : List Loc) (ls : Array Slot), wV D A s.heap ((pW cy aP e_P_judge S9) ++ ((bW cy aB e_B_laws (atd 0) e_B_mentions e_B_claims SB) ++ (tW cy atd Std))) H locs → lv_has ls 9 [(0, .ref (aP 0)), (2, .int x2), (3, .int r1), (4, .int r3), (5, .int r5), (6, .int x6_8), (7, .int x7_7)] → W p l e (rmN 2) s m args below meth c H locs 0 0 (MQ below (eV D cy A (fun u : Ob => ((pW cy aP e_P_judge u) ++ ((bW cy aB e_B_laws (atd 0) e_B_mentions e_B_claims SB) ++ (tW cy atd Std)))) Q) args s (rmN 2).cells (rmN 2).slots A) (F0 m 81 ls [.int t15, .int (S9.2 10 (Int32.toNatClampNeg x7_7))]) := by
          intro t15 hm H locs ls hw hl
          rw [eJ16] at hm
          refine lv_iadd hx hb dX3_choose_81 ?_
          refine lv_topi (fun v17 e_v17 => ?_)
          have hm := hm v17 e_v17
          refine lv_istore (lv' := [(8, .int v17), (0, .ref (aP 0)), (2, .int x2), (3, .int r1), (4, .int r3), (5, .int r5), (6, .int x6_8), (7, .int x7_7)]) hx hb dX3_choose_82 hl (by decide) rfl (fun ls hl => ?_)
          refine lv_iload hx hb dX3_choose_84 (lv_at hl 0 rfl) ?_
          refine lv_iload hx hb dX3_choose_86 (lv_at hl 6 rfl) ?_
          refine lv_icmp_le (tgt := 109) hx hb dX3_choose_88 (by decide) (fun c25 => ?_) (fun c25 => ?_)
          · have hm := hm.1 c25
            refine lv_iload hx hb dX3_choose_109 (lv_at hl 0 rfl) ?_
            refine lv_iload hx hb dX3_choose_111 (lv_at hl 6 rfl) ?_
            refine lv_icmp_ne (tgt := 126) hx hb dX3_choose_113 (by decide) (fun c21 => ?_) (fun c21 => ?_)
            · have hm := hm.1 c21
              obtain ⟨v18, e_v18⟩ : ∃ z : Int32, z = x7_7 + 1 := ⟨_, rfl⟩
              have hm := hm v18 e_v18
              refine lv_iinc (v := v18) (lv' := [(7, .int v18), (8, .int v17), (0, .ref (aP 0)), (2, .int x2), (3, .int r1), (4, .int r3), (5, .int r5), (6, .int x6_8)]) hx hb dX3_choose_126 hl (k := 7) rfl (by rw [e_v18]; rfl) (by decide) rfl (fun ls hl => ?_)
              refine lv_goto (tgt := 23) hx hb dX3_choose_129 (by decide) ?_
              exact ih10 _ _ _ hm _ _ _ hw (lv_sub hl [0, 7, 6, 5, 4, 2, 3] rfl)
            · have hm := hm.2 c21
              refine lv_aload_n hx hb dX3_choose_116 rfl (lv_at hl 1 rfl) ?_
              refine lv_dup hx hb dX3_choose_117 rfl ?_
              refine gF (k := 16) hc hw inX3 rfl 0 rfl (by decide) (gm 349 (by decide +kernel) rfl) rfl dX3_choose_118 ?_
              refine lv_iconst (v := 1) hx hb dX3_choose_121 (by decide) ?_
              refine lv_iadd hx hb dX3_choose_122 ?_
              refine pF (k := 16) (ty := .int) hc hw inX3 tyX3_ok nmX3 rfl 0 rfl (by decide) (gm 349 (by decide +kernel) rfl) rfl (by decide +kernel) rfl rfl (Nat.le_of_ble_eq_true rfl) dX3_choose_123 (fun H locs hw => ?_)
              obtain ⟨S19, e_S19⟩ : ∃ z : Ob, z = uS S9 16 ((S9.1 16) + 1) := ⟨_, rfl⟩
              have hm := hm S19 e_S19
              have hw : wV D A s.heap ((pW cy aP e_P_judge S19) ++ ((bW cy aB e_B_laws (atd 0) e_B_mentions e_B_claims SB) ++ (tW cy atd Std))) H locs := by rw [e_S19]; exact hw
              obtain ⟨v20, e_v20⟩ : ∃ z : Int32, z = x7_7 + 1 := ⟨_, rfl⟩
              have hm := hm v20 e_v20
              refine lv_iinc (v := v20) (lv' := [(7, .int v20), (8, .int v17), (0, .ref (aP 0)), (2, .int x2), (3, .int r1), (4, .int r3), (5, .int r5), (6, .int x6_8)]) hx hb dX3_choose_126 hl (k := 7) rfl (by rw [e_v20]; rfl) (by decide) rfl (fun ls hl => ?_)
              refine lv_goto (tgt := 23) hx hb dX3_choose_129 (by decide) ?_
              exact ih10 _ _ _ hm _ _ _ hw (lv_sub hl [0, 7, 6, 5, 4, 2, 3] rfl)
          · have hm := hm.2 c25
            refine lv_iload hx hb dX3_choose_91 (lv_at hl 0 rfl) ?_
            refine lv_istore (lv' := [(6, .int v17), (8, .int v17), (0, .ref (aP 0)), (2, .int x2), (3, .int r1), (4, .int r3), (5, .int r5), (7, .int x7_7)]) hx hb dX3_choose_93 hl (by decide) rfl (fun ls hl => ?_)
            refine lv_aload_n hx hb dX3_choose_95 rfl (lv_at hl 2 rfl) ?_
            refine lv_iload hx hb dX3_choose_96 (lv_at hl 7 rfl) ?_
            refine pF (k := 15) (ty := .int) hc hw inX3 tyX3_ok nmX3 rfl 0 rfl (by decide) (gm 347 (by decide +kernel) rfl) rfl (by decide +kernel) rfl rfl (Nat.le_of_ble_eq_true rfl) dX3_choose_98 (fun H locs hw => ?_)
            obtain ⟨S22, e_S22⟩ : ∃ z : Ob, z = uS S9 15 x7_7 := ⟨_, rfl⟩
            have hm := hm S22 e_S22
            have hw : wV D A s.heap ((pW cy aP e_P_judge S22) ++ ((bW cy aB e_B_laws (atd 0) e_B_mentions e_B_claims SB) ++ (tW cy atd Std))) H locs := by rw [e_S22]; exact hw
            refine lv_aload_n hx hb dX3_choose_101 rfl (lv_at hl 2 rfl) ?_
            refine lv_iconst (v := 1) hx hb dX3_choose_102 (by decide) ?_
            refine pF (k := 16) (ty := .int) hc hw inX3 tyX3_ok nmX3 rfl 0 rfl (by decide) (gm 349 (by decide +kernel) rfl) rfl (by decide +kernel) rfl rfl (Nat.le_of_ble_eq_true rfl) dX3_choose_103 (fun H locs hw => ?_)
            obtain ⟨S23, e_S23⟩ : ∃ z : Ob, z = uS S22 16 1 := ⟨_, rfl⟩
            have hm := hm S23 e_S23
            have hw : wV D A s.heap ((pW cy aP e_P_judge S23) ++ ((bW cy aB e_B_laws (atd 0) e_B_mentions e_B_claims SB) ++ (tW cy atd Std))) H locs := by rw [e_S23]; exact hw
            refine lv_goto (tgt := 126) hx hb dX3_choose_106 (by decide) ?_
            obtain ⟨v24, e_v24⟩ : ∃ z : Int32, z = x7_7 + 1 := ⟨_, rfl⟩
            have hm := hm v24 e_v24
            refine lv_iinc (v := v24) (lv' := [(7, .int v24), (6, .int v17), (8, .int v17), (0, .ref (aP 0)), (2, .int x2), (3, .int r1), (4, .int r3), (5, .int r5)]) hx hb dX3_choose_126 hl (k := 7) rfl (by rw [e_v24]; rfl) (by decide) rfl (fun ls hl => ?_)
            refine lv_goto (tgt := 23) hx hb dX3_choose_129 (by decide) ?_
            exact ih10 _ _ _ hm _ _ _ hw (lv_sub hl [0, 1, 7, 6, 5, 3, 4] rfl)
        refine lv_if_eq (tgt := 80) hx hb dX3_choose_65 (by decide) (fun c28 => ?_) (fun c28 => ?_)
        · have hm := hm.1 c28
          refine lv_iconst (v := 0) hx hb dX3_choose_80 (by decide) ?_
          exact hJ16 _ hm _ _ _ hw (lv_sub hl [5, 6, 4, 3, 2, 1, 0] rfl)
        · have hm := hm.2 c28
          refine lv_iload hx hb dX3_choose_68 (lv_at hl 0 rfl) ?_
          refine zS_I (As := [.int x7_7]) (rest := [.int (S9.2 10 (Int32.toNatClampNeg x7_7))]) hc hw (c_J6_bitCount_0f7a4 hm) lk_X3_126 ⟨Nat.le_of_ble_eq_true rfl, Nat.le_of_ble_eq_true rfl⟩ ⟨Nat.le_of_ble_eq_true rfl, Nat.le_of_ble_eq_true rfl⟩ hl.1 rfl (Nat.le_of_ble_eq_true rfl) rfl dX3_choose_70 (fun r26 H locs hm hw => ?_)
          refine lv_sipush (v := 10000) hx hb dX3_choose_73 (by decide) ?_
          refine lv_imul hx hb dX3_choose_76 ?_
          refine lv_goto (tgt := 81) hx hb dX3_choose_77 (by decide) ?_
          exact hJ16 _ hm _ _ _ hw (lv_sub hl [5, 6, 4, 3, 2, 1, 0] rfl)
      · have hm := hm.2 c30
        refine lv_goto (tgt := 126) hx hb dX3_choose_54 (by decide) ?_
        obtain ⟨v29, e_v29⟩ : ∃ z : Int32, z = x7_7 + 1 := ⟨_, rfl⟩
        have hm := hm v29 e_v29
        refine lv_iinc (v := v29) (lv' := [(7, .int v29), (6, .int x6_8), (5, .int r5), (4, .int r3), (3, .int r1), (0, .ref (aP 0)), (2, .int x2)]) hx hb dX3_choose_126 hl (k := 0) rfl (by rw [e_v29]; rfl) (by decide) rfl (fun ls hl => ?_)
        refine lv_goto (tgt := 23) hx hb dX3_choose_129 (by decide) ?_
        exact ih10 _ _ _ hm _ _ _ hw (lv_sub hl [0, 1, 2, 3, 4, 5, 6] rfl)
set_option maxHeartbeats 4000000 in
set_option maxRecDepth 100000 in
theorem c_X3_leadsOn {l : Launch} {D : va_G} {cy : Nat → ClassId} {aP : Nat → Nat} {e_P_judge : Nat} {SP : Ob} {x1 : Int32} {x2 : Int32} {x3 : Int32} {x4 : Int32} {Q : Int32 → Prop} (hm : w_X3_leadsOn SP x1 x2 x3 x4 Q) : CtI l yX3_leadsOn cX3_leadsOn 8 (some .boolean) (rmN 3) D cy [.ref (aP 0), .int x1, .int x2, .int x3, .int x4] (pW cy aP e_P_judge SP) (fun _ : Unit => (pW cy aP e_P_judge SP)) (fun (r : Int32) (_ : Unit) => Q r) := by
  refine CtI.ofW (by decide) (Nat.le_of_ble_eq_true rfl) ?_
  intro p e s m args below meth c A ls hc hnm hw hl
  have hx := hc.1.1
  have hb := hc.1.2.1
  have hown := hc.1.2.2.2.1
  have hts := hc.1.2.2.2.2
  have hl : lv_has ls 8 [(0, .ref (aP 0)), (1, .int x1), (2, .int x2), (3, .int x3), (4, .int x4)] := hl
  obtain ⟨H, hH⟩ : ∃ z, z = s.heap := ⟨_, rfl⟩
  obtain ⟨locs, hLc⟩ : ∃ z : List Loc, z = [] := ⟨_, rfl⟩
  have hw : wV D A s.heap (pW cy aP e_P_judge SP) H locs := by rw [hH, hLc]; exact hw
  have hgo : W p l e (rmN 3) s m args below meth c H locs 0 0 (MQ below (eI D cy A (fun _ : Unit => (pW cy aP e_P_judge SP)) (fun (r : Int32) (_ : Unit) => Q r)) args s (rmN 3).cells (rmN 3).slots A) (F0 m 0 ls []) := ?hgo
  · rw [hH, hLc] at hgo; exact hgo
  refine lv_aload_n hx hb dX3_leadsOn_0 rfl (lv_at hl 0 rfl) ?_
  refine lv_iload_n hx hb dX3_leadsOn_1 rfl (lv_at hl 1 rfl) ?_
  refine lv_iload_n hx hb dX3_leadsOn_2 rfl (lv_at hl 3 rfl) ?_
  refine aV_I (As := [.int x1, .int x3]) (rest := []) hc hw (c_X3_yearOf hm) lk_X3_155 rfl rfl ⟨Nat.le_of_ble_eq_true rfl, Nat.le_of_ble_eq_true rfl⟩ ⟨Nat.le_of_ble_eq_true rfl, Nat.le_of_ble_eq_true rfl⟩ hl.1 rfl (Nat.le_of_ble_eq_true rfl) rfl dX3_leadsOn_3 (fun r1 _ H locs hm hw => ?_)
  have hw : wV D A s.heap (pW cy aP e_P_judge SP) H locs := hw
  refine lv_istore (lv' := [(5, .int r1), (0, .ref (aP 0)), (1, .int x1), (2, .int x2), (3, .int x3), (4, .int x4)]) hx hb dX3_leadsOn_6 hl (by decide) rfl (fun ls hl => ?_)
  refine lv_aload_n hx hb dX3_leadsOn_8 rfl (lv_at hl 1 rfl) ?_
  refine lv_iload_n hx hb dX3_leadsOn_9 rfl (lv_at hl 2 rfl) ?_
  refine lv_iload hx hb dX3_leadsOn_10 (lv_at hl 5 rfl) ?_
  refine aV_I (As := [.int x1, .int x4]) (rest := []) hc hw (c_X3_followers hm) lk_X3_158 rfl rfl ⟨Nat.le_of_ble_eq_true rfl, Nat.le_of_ble_eq_true rfl⟩ ⟨Nat.le_of_ble_eq_true rfl, Nat.le_of_ble_eq_true rfl⟩ hl.1 rfl (Nat.le_of_ble_eq_true rfl) rfl dX3_leadsOn_12 (fun r3 _ H locs hm hw => ?_)
  have hw : wV D A s.heap (pW cy aP e_P_judge SP) H locs := hw
  refine lv_istore (lv' := [(6, .int r3), (5, .int r1), (0, .ref (aP 0)), (1, .int x1), (2, .int x2), (3, .int x3), (4, .int x4)]) hx hb dX3_leadsOn_15 hl (by decide) rfl (fun ls hl => ?_)
  refine lv_iconst (v := 0) hx hb dX3_leadsOn_17 (by decide) ?_
  refine lv_istore (lv' := [(7, .int 0), (6, .int r3), (5, .int r1), (0, .ref (aP 0)), (1, .int x1), (2, .int x2), (3, .int x3), (4, .int x4)]) hx hb dX3_leadsOn_18 hl (by decide) rfl (fun ls hl => ?_)
  refine wl1_ind (G := fun (x7_5 : Int32) => ∀ (H : Heap) (locs : List Loc) (ls : Array Slot), wV D A s.heap (pW cy aP e_P_judge SP) H locs → lv_has ls 8 [(7, .int x7_5), (6, .int r3), (5, .int r1), (0, .ref (aP 0)), (2, .int x2)] → W p l e (rmN 3) s m args below meth c H locs 0 0 (MQ below (eI D cy A (fun _ : Unit => (pW cy aP e_P_judge SP)) (fun (r : Int32) (_ : Unit) => Q r)) args s (rmN 3).cells (rmN 3).slots A) (F0 m 20 ls [])) ?_ _ hm H locs ls hw (lv_sub hl [0, 1, 2, 3, 5] rfl)
  intro L6 ih6 x7_5 hm H locs ls hw hl
  refine lv_iload hx hb dX3_leadsOn_20 (lv_at hl 0 rfl) ?_
  refine lv_iconst (v := 4) hx hb dX3_leadsOn_22 (by decide) ?_
  refine lv_icmp_ge (tgt := 62) hx hb dX3_leadsOn_23 (by decide) (fun c15 => ?_) (fun c15 => ?_)
  · have hm := hm.1 c15
    refine lv_iconst (v := 0) hx hb dX3_leadsOn_62 (by decide) ?_
    exact retZ (u := ()) hc hw rfl hm dX3_leadsOn_63
  · have hm := hm.2 c15
    refine lv_iload hx hb dX3_leadsOn_26 (lv_at hl 2 rfl) ?_
    refine lv_iconst (v := (-1)) hx hb dX3_leadsOn_28 (by decide) ?_
    refine lv_icmp_eq (tgt := 56) hx hb dX3_leadsOn_29 (by decide) (fun c14 => ?_) (fun c14 => ?_)
    · have hm := hm.1 c14
      obtain ⟨v7, e_v7⟩ : ∃ z : Int32, z = x7_5 + 1 := ⟨_, rfl⟩
      have hm := hm v7 e_v7
      refine lv_iinc (v := v7) (lv' := [(7, .int v7), (6, .int r3), (5, .int r1), (0, .ref (aP 0)), (2, .int x2)]) hx hb dX3_leadsOn_56 hl (k := 0) rfl (by rw [e_v7]; rfl) (by decide) rfl (fun ls hl => ?_)
      refine lv_goto (tgt := 20) hx hb dX3_leadsOn_59 (by decide) ?_
      exact ih6 _ hm _ _ _ hw (lv_sub hl [0, 1, 2, 3, 4] rfl)
    · have hm := hm.2 c14
      refine lv_iload hx hb dX3_leadsOn_32 (lv_at hl 1 rfl) ?_
      refine lv_iload hx hb dX3_leadsOn_34 (lv_at hl 0 rfl) ?_
      refine lv_ishr hx hb dX3_leadsOn_36 ?_
      refine lv_iconst (v := 1) hx hb dX3_leadsOn_37 (by decide) ?_
      refine lv_iand hx hb dX3_leadsOn_38 ?_
      refine lv_if_eq (tgt := 56) hx hb dX3_leadsOn_39 (by decide) (fun c13 => ?_) (fun c13 => ?_)
      · have hm := hm.1 c13
        obtain ⟨v8, e_v8⟩ : ∃ z : Int32, z = x7_5 + 1 := ⟨_, rfl⟩
        have hm := hm v8 e_v8
        refine lv_iinc (v := v8) (lv' := [(7, .int v8), (6, .int r3), (5, .int r1), (0, .ref (aP 0)), (2, .int x2)]) hx hb dX3_leadsOn_56 hl (k := 0) rfl (by rw [e_v8]; rfl) (by decide) rfl (fun ls hl => ?_)
        refine lv_goto (tgt := 20) hx hb dX3_leadsOn_59 (by decide) ?_
        exact ih6 _ hm _ _ _ hw (lv_sub hl [0, 1, 2, 3, 4] rfl)
      · have hm := hm.2 c13
        refine lv_aload_n hx hb dX3_leadsOn_42 rfl (lv_at hl 3 rfl) ?_
        refine lv_iload_n hx hb dX3_leadsOn_43 rfl (lv_at hl 4 rfl) ?_
        refine lv_iload hx hb dX3_leadsOn_44 (lv_at hl 2 rfl) ?_
        refine lv_iload hx hb dX3_leadsOn_46 (lv_at hl 0 rfl) ?_
        refine aV_I (As := [.int x2, .int r1, .int x7_5]) (rest := []) hc hw (c_X3_fits hm) lk_X3_142 rfl rfl ⟨Nat.le_of_ble_eq_true rfl, Nat.le_of_ble_eq_true rfl⟩ ⟨Nat.le_of_ble_eq_true rfl, Nat.le_of_ble_eq_true rfl⟩ hl.1 rfl (Nat.le_of_ble_eq_true rfl) rfl dX3_leadsOn_48 (fun r9 _ H locs hm hw => ?_)
        have hw : wV D A s.heap (pW cy aP e_P_judge SP) H locs := hw
        refine lv_if_eq (tgt := 56) hx hb dX3_leadsOn_51 (by decide) (fun c12 => ?_) (fun c12 => ?_)
        · have hm := hm.1 c12
          obtain ⟨v11, e_v11⟩ : ∃ z : Int32, z = x7_5 + 1 := ⟨_, rfl⟩
          have hm := hm v11 e_v11
          refine lv_iinc (v := v11) (lv' := [(7, .int v11), (6, .int r3), (5, .int r1), (0, .ref (aP 0)), (2, .int x2)]) hx hb dX3_leadsOn_56 hl (k := 0) rfl (by rw [e_v11]; rfl) (by decide) rfl (fun ls hl => ?_)
          refine lv_goto (tgt := 20) hx hb dX3_leadsOn_59 (by decide) ?_
          exact ih6 _ hm _ _ _ hw (lv_sub hl [0, 1, 2, 3, 4] rfl)
        · have hm := hm.2 c12
          refine lv_iconst (v := 1) hx hb dX3_leadsOn_54 (by decide) ?_
          exact retZ (u := ()) hc hw rfl hm dX3_leadsOn_55
set_option maxHeartbeats 4000000 in
set_option maxRecDepth 100000 in
theorem c_X3_firstTale {l : Launch} {D : va_G} {cy : Nat → ClassId} {aP : Nat → Nat} {e_P_judge : Nat} {SP : Ob} {x1 : Int32} {x2 : Int32} {x3 : Int32} {Q : Int32 → Prop} (hm : w_X3_firstTale SP x1 x2 x3 Q) : CtI l yX3_firstTale cX3_firstTale 5 (some .int) (rmN 4) D cy [.ref (aP 0), .int x1, .int x2, .int x3] (pW cy aP e_P_judge SP) (fun _ : Unit => (pW cy aP e_P_judge SP)) (fun (r : Int32) (_ : Unit) => Q r) := by
  refine CtI.ofW (by decide) (Nat.le_of_ble_eq_true rfl) ?_
  intro p e s m args below meth c A ls hc hnm hw hl
  have hx := hc.1.1
  have hb := hc.1.2.1
  have hown := hc.1.2.2.2.1
  have hts := hc.1.2.2.2.2
  have hl : lv_has ls 5 [(0, .ref (aP 0)), (1, .int x1), (2, .int x2), (3, .int x3)] := hl
  obtain ⟨H, hH⟩ : ∃ z, z = s.heap := ⟨_, rfl⟩
  obtain ⟨locs, hLc⟩ : ∃ z : List Loc, z = [] := ⟨_, rfl⟩
  have hw : wV D A s.heap (pW cy aP e_P_judge SP) H locs := by rw [hH, hLc]; exact hw
  have hgo : W p l e (rmN 4) s m args below meth c H locs 0 0 (MQ below (eI D cy A (fun _ : Unit => (pW cy aP e_P_judge SP)) (fun (r : Int32) (_ : Unit) => Q r)) args s (rmN 4).cells (rmN 4).slots A) (F0 m 0 ls []) := ?hgo
  · rw [hH, hLc] at hgo; exact hgo
  refine lv_iconst (v := 0) hx hb dX3_firstTale_0 (by decide) ?_
  refine lv_istore (lv' := [(4, .int 0), (0, .ref (aP 0)), (1, .int x1), (2, .int x2), (3, .int x3)]) hx hb dX3_firstTale_1 hl (by decide) rfl (fun ls hl => ?_)
  refine wl1_ind (G := fun (x4_1 : Int32) => ∀ (H : Heap) (locs : List Loc) (ls : Array Slot), wV D A s.heap (pW cy aP e_P_judge SP) H locs → lv_has ls 5 [(4, .int x4_1), (0, .ref (aP 0)), (1, .int x1), (2, .int x2), (3, .int x3)] → W p l e (rmN 4) s m args below meth c H locs 0 0 (MQ below (eI D cy A (fun _ : Unit => (pW cy aP e_P_judge SP)) (fun (r : Int32) (_ : Unit) => Q r)) args s (rmN 4).cells (rmN 4).slots A) (F0 m 3 ls [])) ?_ _ hm H locs ls hw (lv_sub hl [0, 1, 2, 3, 4] rfl)
  intro L2 ih2 x4_1 hm H locs ls hw hl
  refine lv_iload hx hb dX3_firstTale_3 (lv_at hl 0 rfl) ?_
  refine lv_aload_n hx hb dX3_firstTale_5 rfl (lv_at hl 1 rfl) ?_
  refine gF (k := 6) hc hw inX3 rfl 0 rfl (by decide) (gm 334 (by decide +kernel) rfl) rfl dX3_firstTale_6 ?_
  refine lv_icmp_ge (tgt := 49) hx hb dX3_firstTale_9 (by decide) (fun c9 => ?_) (fun c9 => ?_)
  · have hm := hm.1 c9
    refine lv_iconst (v := (-1)) hx hb dX3_firstTale_49 (by decide) ?_
    exact retI (u := ()) hc hw hm dX3_firstTale_50
  · have hm := hm.2 c9
    refine lv_iload_n hx hb dX3_firstTale_12 rfl (lv_at hl 2 rfl) ?_
    refine lv_iload hx hb dX3_firstTale_13 (lv_at hl 0 rfl) ?_
    refine lv_ishr hx hb dX3_firstTale_15 ?_
    refine lv_iconst (v := 1) hx hb dX3_firstTale_16 (by decide) ?_
    refine lv_iand hx hb dX3_firstTale_17 ?_
    refine lv_if_eq (tgt := 43) hx hb dX3_firstTale_18 (by decide) (fun c8 => ?_) (fun c8 => ?_)
    · have hm := hm.1 c8
      obtain ⟨v3, e_v3⟩ : ∃ z : Int32, z = x4_1 + 1 := ⟨_, rfl⟩
      have hm := hm v3 e_v3
      refine lv_iinc (v := v3) (lv' := [(4, .int v3), (0, .ref (aP 0)), (1, .int x1), (2, .int x2), (3, .int x3)]) hx hb dX3_firstTale_43 hl (k := 0) rfl (by rw [e_v3]; rfl) (by decide) rfl (fun ls hl => ?_)
      refine lv_goto (tgt := 3) hx hb dX3_firstTale_46 (by decide) ?_
      exact ih2 _ hm _ _ _ hw (lv_sub hl [0, 1, 2, 3, 4] rfl)
    · have hm := hm.2 c8
      refine lv_aload_n hx hb dX3_firstTale_21 rfl (lv_at hl 1 rfl) ?_
      refine lv_iload hx hb dX3_firstTale_22 (lv_at hl 0 rfl) ?_
      refine lv_iload_n hx hb dX3_firstTale_24 rfl (lv_at hl 2 rfl) ?_
      refine lv_iconst (v := 1) hx hb dX3_firstTale_25 (by decide) ?_
      refine lv_iload hx hb dX3_firstTale_26 (lv_at hl 0 rfl) ?_
      refine lv_ishl hx hb dX3_firstTale_28 ?_
      refine lv_iconst (v := (-1)) hx hb dX3_firstTale_29 (by decide) ?_
      refine lv_ixor hx hb dX3_firstTale_30 ?_
      refine lv_iand hx hb dX3_firstTale_31 ?_
      refine lv_iload_n hx hb dX3_firstTale_32 rfl (lv_at hl 3 rfl) ?_
      refine lv_iload_n hx hb dX3_firstTale_33 rfl (lv_at hl 4 rfl) ?_
      refine aV_I (As := [.int x4_1, .int (x1 &&& (((1 : Int32) <<< (x4_1 &&& 31)) ^^^ (-1))), .int x2, .int x3]) (rest := []) hc hw (c_X3_leadsOn hm) lk_X3_169 rfl rfl ⟨Nat.le_of_ble_eq_true rfl, Nat.le_of_ble_eq_true rfl⟩ ⟨Nat.le_of_ble_eq_true rfl, Nat.le_of_ble_eq_true rfl⟩ hl.1 rfl (Nat.le_of_ble_eq_true rfl) rfl dX3_firstTale_34 (fun r4 _ H locs hm hw => ?_)
      have hw : wV D A s.heap (pW cy aP e_P_judge SP) H locs := hw
      refine lv_if_eq (tgt := 43) hx hb dX3_firstTale_37 (by decide) (fun c7 => ?_) (fun c7 => ?_)
      · have hm := hm.1 c7
        obtain ⟨v6, e_v6⟩ : ∃ z : Int32, z = x4_1 + 1 := ⟨_, rfl⟩
        have hm := hm v6 e_v6
        refine lv_iinc (v := v6) (lv' := [(4, .int v6), (0, .ref (aP 0)), (1, .int x1), (2, .int x2), (3, .int x3)]) hx hb dX3_firstTale_43 hl (k := 0) rfl (by rw [e_v6]; rfl) (by decide) rfl (fun ls hl => ?_)
        refine lv_goto (tgt := 3) hx hb dX3_firstTale_46 (by decide) ?_
        exact ih2 _ hm _ _ _ hw (lv_sub hl [0, 1, 2, 3, 4] rfl)
      · have hm := hm.2 c7
        refine lv_iload hx hb dX3_firstTale_40 (lv_at hl 0 rfl) ?_
        exact retI (u := ()) hc hw hm dX3_firstTale_42
set_option maxHeartbeats 4000000 in
set_option maxRecDepth 100000 in
theorem c_X3_nameTellers {l : Launch} {D : va_G} {cy : Nat → ClassId} {aP : Nat → Nat} {ali : Nat → Nat} {e_P_judge : Nat} {SP : Ob} {Sli : Ob} {x2 : Int32} {Q : Ob → Ob → Prop} (hm : w_X3_nameTellers SP Sli x2 Q) : CtV l yX3_nameTellers cX3_nameTellers 7 none (rmN 2) D cy [.ref (aP 0), .ref (ali 0), .int x2] ((pW cy aP e_P_judge SP) ++ (tW cy ali Sli)) (fun u : Ob × Ob => ((pW cy aP e_P_judge u.1) ++ (tW cy ali u.2))) (fun (u : Ob × Ob) => Q u.1 u.2) := by
  refine CtV.ofW (by decide) (Nat.le_of_ble_eq_true rfl) ?_
  intro p e s m args below meth c A ls hc hnm hw hl
  have hx := hc.1.1
  have hb := hc.1.2.1
  have hown := hc.1.2.2.2.1
  have hts := hc.1.2.2.2.2
  have hl : lv_has ls 7 [(0, .ref (aP 0)), (1, .ref (ali 0)), (2, .int x2)] := hl
  obtain ⟨H, hH⟩ : ∃ z, z = s.heap := ⟨_, rfl⟩
  obtain ⟨locs, hLc⟩ : ∃ z : List Loc, z = [] := ⟨_, rfl⟩
  have hw : wV D A s.heap ((pW cy aP e_P_judge SP) ++ (tW cy ali Sli)) H locs := by rw [hH, hLc]; exact hw
  have hgo : W p l e (rmN 2) s m args below meth c H locs 0 0 (MQ below (eV D cy A (fun u : Ob × Ob => ((pW cy aP e_P_judge u.1) ++ (tW cy ali u.2))) (fun (u : Ob × Ob) => Q u.1 u.2)) args s (rmN 2).cells (rmN 2).slots A) (F0 m 0 ls []) := ?hgo
  · rw [hH, hLc] at hgo; exact hgo
  refine lv_iconst (v := 0) hx hb dX3_nameTellers_0 (by decide) ?_
  refine lv_istore_n (lv' := [(3, .int 0), (0, .ref (aP 0)), (1, .ref (ali 0)), (2, .int x2)]) hx hb dX3_nameTellers_1 rfl hl (by decide) rfl (fun ls hl => ?_)
  refine lv_aload_n hx hb dX3_nameTellers_2 rfl (lv_at hl 2 rfl) ?_
  refine gN (k := 3) (host := "OlderTale") hc hw inX7 rfl 11 rfl (by decide) (nmm 182 (by decide +kernel)) rfl dX3_nameTellers_3 ?_
  refine lv_iconst (v := 1) hx hb dX3_nameTellers_6 (by decide) ?_
  refine lv_isub hx hb dX3_nameTellers_7 ?_
  refine lv_topi (fun v1 e_v1 => ?_)
  have hm := hm v1 e_v1
  refine lv_istore (lv' := [(4, .int v1), (3, .int 0), (0, .ref (aP 0)), (1, .ref (ali 0)), (2, .int x2)]) hx hb dX3_nameTellers_8 hl (by decide) rfl (fun ls hl => ?_)
  refine wl3_ind (G := fun (x4_2 : Int32) (x3_3 : Int32) (S4 : Ob) => ∀ (H : Heap) (locs : List Loc) (ls : Array Slot), wV D A s.heap ((pW cy aP e_P_judge S4) ++ (tW cy ali Sli)) H locs → lv_has ls 7 [(4, .int x4_2), (3, .int x3_3), (0, .ref (aP 0)), (1, .ref (ali 0)), (2, .int x2)] → W p l e (rmN 2) s m args below meth c H locs 0 0 (MQ below (eV D cy A (fun u : Ob × Ob => ((pW cy aP e_P_judge u.1) ++ (tW cy ali u.2))) (fun (u : Ob × Ob) => Q u.1 u.2)) args s (rmN 2).cells (rmN 2).slots A) (F0 m 10 ls [])) ?_ _ _ _ hm H locs ls hw (lv_sub hl [0, 1, 2, 3, 4] rfl)
  intro L5 ih5 x4_2 x3_3 S4 hm H locs ls hw hl
  refine lv_iload hx hb dX3_nameTellers_10 (lv_at hl 0 rfl) ?_
  refine lv_if_lt (tgt := 80) hx hb dX3_nameTellers_12 (by decide) (fun c35 => ?_) (fun c35 => ?_)
  · have hm := hm.1 c35
    refine lv_iload_n hx hb dX3_nameTellers_80 rfl (lv_at hl 4 rfl) ?_
    refine lv_istore (lv' := [(4, .int x2), (3, .int x3_3), (0, .ref (aP 0)), (1, .ref (ali 0)), (2, .int x2)]) hx hb dX3_nameTellers_81 hl (by decide) rfl (fun ls hl => ?_)
    refine lv_iconst (v := 0) hx hb dX3_nameTellers_83 (by decide) ?_
    refine lv_istore (lv' := [(5, .int 0), (4, .int x2), (3, .int x3_3), (0, .ref (aP 0)), (1, .ref (ali 0)), (2, .int x2)]) hx hb dX3_nameTellers_84 hl (by decide) rfl (fun ls hl => ?_)
    refine wl3_ind (G := fun (x5_6 : Int32) (x4_7 : Int32) (S8 : Ob) => ∀ (H : Heap) (locs : List Loc) (ls : Array Slot), wV D A s.heap ((pW cy aP e_P_judge S4) ++ (tW cy ali S8)) H locs → lv_has ls 7 [(5, .int x5_6), (4, .int x4_7), (0, .ref (aP 0)), (1, .ref (ali 0))] → W p l e (rmN 2) s m args below meth c H locs 0 0 (MQ below (eV D cy A (fun u : Ob × Ob => ((pW cy aP e_P_judge u.1) ++ (tW cy ali u.2))) (fun (u : Ob × Ob) => Q u.1 u.2)) args s (rmN 2).cells (rmN 2).slots A) (F0 m 86 ls [])) ?_ _ _ _ hm H locs ls hw (lv_sub hl [0, 1, 3, 4] rfl)
    intro L9 ih9 x5_6 x4_7 S8 hm H locs ls hw hl
    refine lv_iload hx hb dX3_nameTellers_86 (lv_at hl 0 rfl) ?_
    refine lv_aload_n hx hb dX3_nameTellers_88 rfl (lv_at hl 3 rfl) ?_
    refine gN (k := 3) (host := "OlderTale") hc hw inX7 rfl 11 rfl (by decide) (nmm 182 (by decide +kernel)) rfl dX3_nameTellers_89 ?_
    refine lv_icmp_ge (tgt := 150) hx hb dX3_nameTellers_92 (by decide) (fun c20 => ?_) (fun c20 => ?_)
    · have hm := hm.1 c20
      exact retV (u := (S4, S8)) hc hw hm dX3_nameTellers_150
    · have hm := hm.2 c20
      refine lv_aload_n hx hb dX3_nameTellers_95 rfl (lv_at hl 2 rfl) ?_
      refine gF (k := 7) hc hw inX3 rfl 0 rfl (by decide) (gm 336 (by decide +kernel) rfl) rfl dX3_nameTellers_96 ?_
      obtain ⟨J11, eJ11, hm⟩ := jn_e hm
      have hJ11 : ∀ (t10 : Int32) (_ : J11 t10) (H : Heap) (locs : List Loc) (ls : Array Slot), wV D A s.heap ((pW cy aP e_P_judge S4) ++ (tW cy ali S8)) H locs → lv_has ls 7 [(0, .ref (aP 0)), (1, .ref (ali 0)), (5, .int x5_6)] → W p l e (rmN 2) s m args below meth c H locs 0 0 (MQ below (eV D cy A (fun u : Ob × Ob => ((pW cy aP e_P_judge u.1) ++ (tW cy ali u.2))) (fun (u : Ob × Ob) => Q u.1 u.2)) args s (rmN 2).cells (rmN 2).slots A) (F0 m 126 ls [.int t10]) := by
        intro t10 hm H locs ls hw hl
        rw [eJ11] at hm
        refine lv_istore (lv' := [(6, .int t10), (0, .ref (aP 0)), (1, .ref (ali 0)), (5, .int x5_6)]) hx hb dX3_nameTellers_126 hl (by decide) rfl (fun ls hl => ?_)
        refine lv_iload hx hb dX3_nameTellers_128 (lv_at hl 0 rfl) ?_
        refine zS_I (As := [.int t10]) (rest := []) hc hw (c_X3_lowestBit hm) lk_X3_182 ⟨Nat.le_of_ble_eq_true rfl, Nat.le_of_ble_eq_true rfl⟩ ⟨Nat.le_of_ble_eq_true rfl, Nat.le_of_ble_eq_true rfl⟩ hl.1 rfl (Nat.le_of_ble_eq_true rfl) rfl dX3_nameTellers_130 (fun r12 H locs hm hw => ?_)
        refine lv_istore (lv' := [(4, .int r12), (6, .int t10), (0, .ref (aP 0)), (1, .ref (ali 0)), (5, .int x5_6)]) hx hb dX3_nameTellers_133 hl (by decide) rfl (fun ls hl => ?_)
        refine lv_aload_n hx hb dX3_nameTellers_135 rfl (lv_at hl 3 rfl) ?_
        refine gN (k := 2) (host := "OlderTale") hc hw inX7 rfl 11 rfl (by decide) (nmm 178 (by decide +kernel)) rfl dX3_nameTellers_136 ?_
        refine lv_iload hx hb dX3_nameTellers_139 (lv_at hl 4 rfl) ?_
        refine lv_iload hx hb dX3_nameTellers_141 (lv_at hl 0 rfl) ?_
        obtain ⟨c14, hm⟩ := hm
        refine sI hc hw 14 rfl c14 rfl dX3_nameTellers_143 (fun H locs hw => ?_)
        obtain ⟨S15, e_S15⟩ : ∃ z : Ob, z = uA S8 2 (Int32.toNatClampNeg x5_6) r12 := ⟨_, rfl⟩
        have hm := hm S15 e_S15
        have hw : wV D A s.heap ((pW cy aP e_P_judge S4) ++ (tW cy ali S15)) H locs := by rw [e_S15]; exact hw
        obtain ⟨v16, e_v16⟩ : ∃ z : Int32, z = x5_6 + 1 := ⟨_, rfl⟩
        have hm := hm v16 e_v16
        refine lv_iinc (v := v16) (lv' := [(5, .int v16), (4, .int r12), (6, .int t10), (0, .ref (aP 0)), (1, .ref (ali 0))]) hx hb dX3_nameTellers_144 hl (k := 4) rfl (by rw [e_v16]; rfl) (by decide) rfl (fun ls hl => ?_)
        refine lv_goto (tgt := 86) hx hb dX3_nameTellers_147 (by decide) ?_
        exact ih9 _ _ _ hm _ _ _ hw (lv_sub hl [0, 1, 3, 4] rfl)
      refine lv_if_eq (tgt := 112) hx hb dX3_nameTellers_99 (by decide) (fun c19 => ?_) (fun c19 => ?_)
      · have hm := hm.1 c19
        refine lv_aload_n hx hb dX3_nameTellers_112 rfl (lv_at hl 2 rfl) ?_
        refine gF (k := 14) hc hw inX3 rfl 0 rfl (by decide) (gm 346 (by decide +kernel) rfl) rfl dX3_nameTellers_113 ?_
        refine lv_iload hx hb dX3_nameTellers_116 (lv_at hl 0 rfl) ?_
        obtain ⟨c17, hm⟩ := hm
        refine aI hc hw 10 rfl c17 rfl dX3_nameTellers_118 ?_
        refine lv_iconst (v := 1) hx hb dX3_nameTellers_119 (by decide) ?_
        refine lv_iload hx hb dX3_nameTellers_120 (lv_at hl 1 rfl) ?_
        refine lv_ishl hx hb dX3_nameTellers_122 ?_
        refine lv_iconst (v := (-1)) hx hb dX3_nameTellers_123 (by decide) ?_
        refine lv_ixor hx hb dX3_nameTellers_124 ?_
        refine lv_iand hx hb dX3_nameTellers_125 ?_
        exact hJ11 _ hm _ _ _ hw (lv_sub hl [2, 3, 0] rfl)
      · have hm := hm.2 c19
        refine lv_aload_n hx hb dX3_nameTellers_102 rfl (lv_at hl 2 rfl) ?_
        refine gF (k := 14) hc hw inX3 rfl 0 rfl (by decide) (gm 346 (by decide +kernel) rfl) rfl dX3_nameTellers_103 ?_
        refine lv_iload hx hb dX3_nameTellers_106 (lv_at hl 0 rfl) ?_
        obtain ⟨c18, hm⟩ := hm
        refine aI hc hw 10 rfl c18 rfl dX3_nameTellers_108 ?_
        refine lv_goto (tgt := 126) hx hb dX3_nameTellers_109 (by decide) ?_
        exact hJ11 _ hm _ _ _ hw (lv_sub hl [2, 3, 0] rfl)
  · have hm := hm.2 c35
    refine lv_iload hx hb dX3_nameTellers_15 (lv_at hl 0 rfl) ?_
    refine lv_aload_n hx hb dX3_nameTellers_17 rfl (lv_at hl 3 rfl) ?_
    refine gN (k := 3) (host := "OlderTale") hc hw inX7 rfl 11 rfl (by decide) (nmm 182 (by decide +kernel)) rfl dX3_nameTellers_18 ?_
    refine lv_iconst (v := 1) hx hb dX3_nameTellers_21 (by decide) ?_
    refine lv_isub hx hb dX3_nameTellers_22 ?_
    obtain ⟨J22, eJ22, hm⟩ := jn_e hm
    have hJ22 : ∀ (t21 : Int32) (_ : J22 t21) (H : Heap) (locs : List Loc) (ls : Array Slot), wV D A s.heap ((pW cy aP e_P_judge S4) ++ (tW cy ali Sli)) H locs → lv_has ls 7 [(0, .ref (aP 0)), (1, .ref (ali 0)), (2, .int x2), (3, .int x3_3), (4, .int x4_2)] → W p l e (rmN 2) s m args below meth c H locs 0 0 (MQ below (eV D cy A (fun u : Ob × Ob => ((pW cy aP e_P_judge u.1) ++ (tW cy ali u.2))) (fun (u : Ob × Ob) => Q u.1 u.2)) args s (rmN 2).cells (rmN 2).slots A) (F0 m 31 ls [.int t21]) := by
      intro t21 hm H locs ls hw hl
      rw [eJ22] at hm
      refine lv_istore (lv' := [(5, .int t21), (0, .ref (aP 0)), (1, .ref (ali 0)), (2, .int x2), (3, .int x3_3), (4, .int x4_2)]) hx hb dX3_nameTellers_31 hl (by decide) rfl (fun ls hl => ?_)
      refine lv_iload hx hb dX3_nameTellers_33 (lv_at hl 0 rfl) ?_
      obtain ⟨J24, eJ24, hm⟩ := jn_e hm
      have hJ24 : ∀ (t23 : Int32) (_ : J24 t23) (H : Heap) (locs : List Loc) (ls : Array Slot), wV D A s.heap ((pW cy aP e_P_judge S4) ++ (tW cy ali Sli)) H locs → lv_has ls 7 [(0, .ref (aP 0)), (1, .ref (ali 0)), (2, .int x2), (4, .int x4_2)] → W p l e (rmN 2) s m args below meth c H locs 0 0 (MQ below (eV D cy A (fun u : Ob × Ob => ((pW cy aP e_P_judge u.1) ++ (tW cy ali u.2))) (fun (u : Ob × Ob) => Q u.1 u.2)) args s (rmN 2).cells (rmN 2).slots A) (F0 m 65 ls [.int t23]) := by
        intro t23 hm H locs ls hw hl
        rw [eJ24] at hm
        refine lv_istore_n (lv' := [(3, .int t23), (0, .ref (aP 0)), (1, .ref (ali 0)), (2, .int x2), (4, .int x4_2)]) hx hb dX3_nameTellers_65 rfl hl (by decide) rfl (fun ls hl => ?_)
        refine lv_aload_n hx hb dX3_nameTellers_66 rfl (lv_at hl 1 rfl) ?_
        refine gF (k := 14) hc hw inX3 rfl 0 rfl (by decide) (gm 346 (by decide +kernel) rfl) rfl dX3_nameTellers_67 ?_
        refine lv_iload hx hb dX3_nameTellers_70 (lv_at hl 4 rfl) ?_
        refine lv_iload_n hx hb dX3_nameTellers_72 rfl (lv_at hl 0 rfl) ?_
        obtain ⟨c25, hm⟩ := hm
        refine sI hc hw 10 rfl c25 rfl dX3_nameTellers_73 (fun H locs hw => ?_)
        obtain ⟨S26, e_S26⟩ : ∃ z : Ob, z = uA S4 14 (Int32.toNatClampNeg x4_2) t23 := ⟨_, rfl⟩
        have hm := hm S26 e_S26
        have hw : wV D A s.heap ((pW cy aP e_P_judge S26) ++ (tW cy ali Sli)) H locs := by rw [e_S26]; exact hw
        obtain ⟨v27, e_v27⟩ : ∃ z : Int32, z = x4_2 + (-1) := ⟨_, rfl⟩
        have hm := hm v27 e_v27
        refine lv_iinc (v := v27) (lv' := [(4, .int v27), (3, .int t23), (0, .ref (aP 0)), (1, .ref (ali 0)), (2, .int x2)]) hx hb dX3_nameTellers_74 hl (k := 4) rfl (by rw [e_v27]; rfl) (by decide) rfl (fun ls hl => ?_)
        refine lv_goto (tgt := 10) hx hb dX3_nameTellers_77 (by decide) ?_
        exact ih5 _ _ _ hm _ _ _ hw (lv_sub hl [0, 1, 2, 3, 4] rfl)
      refine lv_if_eq (tgt := 53) hx hb dX3_nameTellers_35 (by decide) (fun c33 => ?_) (fun c33 => ?_)
      · have hm := hm.1 c33
        refine lv_aload_n hx hb dX3_nameTellers_53 rfl (lv_at hl 1 rfl) ?_
        refine lv_aload_n hx hb dX3_nameTellers_54 rfl (lv_at hl 2 rfl) ?_
        refine gN (k := 0) (host := "OlderTale") hc hw inX7 rfl 11 rfl (by decide) (nmm 170 (by decide +kernel)) rfl dX3_nameTellers_55 ?_
        refine lv_iload hx hb dX3_nameTellers_58 (lv_at hl 5 rfl) ?_
        obtain ⟨c28, hm⟩ := hm
        refine aI hc hw 12 rfl c28 rfl dX3_nameTellers_60 ?_
        refine lv_iload_n hx hb dX3_nameTellers_61 rfl (lv_at hl 4 rfl) ?_
        refine nV_I (As := [.int (Sli.2 0 (Int32.toNatClampNeg x4_2)), .int x3_3]) (rest := []) (wc := (pW cy aP e_P_judge S4)) (wr := (tW cy ali Sli)) (isC := [0, 1, 2, 3, 4, 5, 6, 7, 8, 9, 10]) (isR := [11, 12, 13, 14]) hc hw (c_X3_leaders hm) lk_X3_179 ⟨rfl, rfl, rfl, rfl, by decide⟩ rfl rfl ⟨Nat.le_of_ble_eq_true rfl, Nat.le_of_ble_eq_true rfl⟩ ⟨Nat.le_of_ble_eq_true rfl, Nat.le_of_ble_eq_true rfl⟩ hl.1 rfl (Nat.le_of_ble_eq_true rfl) rfl dX3_nameTellers_62 (fun r29 _ H locs hm hw => ?_)
        have hw : wV D A s.heap ((pW cy aP e_P_judge S4) ++ (tW cy ali Sli)) H locs := hw.perm [4, 5, 6, 7, 8, 9, 10, 11, 12, 13, 14, 0, 1, 2, 3] rfl rfl
        exact hJ24 _ hm _ _ _ hw (lv_sub hl [1, 2, 3, 5] rfl)
      · have hm := hm.2 c33
        refine lv_aload_n hx hb dX3_nameTellers_38 rfl (lv_at hl 1 rfl) ?_
        refine gF (k := 5) hc hw inX3 rfl 0 rfl (by decide) (gm 332 (by decide +kernel) rfl) rfl dX3_nameTellers_39 ?_
        refine lv_aload_n hx hb dX3_nameTellers_42 rfl (lv_at hl 2 rfl) ?_
        refine gN (k := 0) (host := "OlderTale") hc hw inX7 rfl 11 rfl (by decide) (nmm 170 (by decide +kernel)) rfl dX3_nameTellers_43 ?_
        refine lv_iload hx hb dX3_nameTellers_46 (lv_at hl 5 rfl) ?_
        obtain ⟨c31, hm⟩ := hm
        refine aI hc hw 12 rfl c31 rfl dX3_nameTellers_48 ?_
        obtain ⟨c32, hm⟩ := hm
        refine aI hc hw 5 rfl c32 rfl dX3_nameTellers_49 ?_
        refine lv_goto (tgt := 65) hx hb dX3_nameTellers_50 (by decide) ?_
        exact hJ24 _ hm _ _ _ hw (lv_sub hl [1, 2, 3, 5] rfl)
    refine lv_icmp_ne (tgt := 30) hx hb dX3_nameTellers_23 (by decide) (fun c34 => ?_) (fun c34 => ?_)
    · have hm := hm.1 c34
      refine lv_iconst (v := 0) hx hb dX3_nameTellers_30 (by decide) ?_
      exact hJ22 _ hm _ _ _ hw (lv_sub hl [2, 3, 4, 1, 0] rfl)
    · have hm := hm.2 c34
      refine lv_iconst (v := 1) hx hb dX3_nameTellers_26 (by decide) ?_
      refine lv_goto (tgt := 31) hx hb dX3_nameTellers_27 (by decide) ?_
      exact hJ22 _ hm _ _ _ hw (lv_sub hl [2, 3, 4, 1, 0] rfl)
set_option maxHeartbeats 4000000 in
set_option maxRecDepth 100000 in
theorem c_X3_lineUp {l : Launch} {D : va_G} {cy : Nat → ClassId} {aP : Nat → Nat} {aB : Nat → Nat} {atd : Nat → Nat} {ali : Nat → Nat} {e_P_judge : Nat} {e_B_laws : Nat} {e_B_mentions : Nat} {e_B_claims : Nat} {SP : Ob} {SB : Ob} {Std : Ob} {Sli : Ob} {x2 : Int32} {Q : Ob → Ob → Prop} (hm : w_X3_lineUp SP SB Std Sli x2 Q) : CtV l yX3_lineUp cX3_lineUp 9 none (rmN 5) D cy [.ref (aP 0), .ref (aB 0), .int x2, .ref (ali 0)] ((pW cy aP e_P_judge SP) ++ ((bW cy aB e_B_laws (atd 0) e_B_mentions e_B_claims SB) ++ ((tW cy atd Std) ++ (tW cy ali Sli)))) (fun u : Ob × Ob => ((pW cy aP e_P_judge u.1) ++ ((bW cy aB e_B_laws (atd 0) e_B_mentions e_B_claims SB) ++ ((tW cy atd Std) ++ (tW cy ali u.2))))) (fun (u : Ob × Ob) => Q u.1 u.2) := by
  refine CtV.ofW (by decide) (Nat.le_of_ble_eq_true rfl) ?_
  intro p e s m args below meth c A ls hc hnm hw hl
  have hx := hc.1.1
  have hb := hc.1.2.1
  have hown := hc.1.2.2.2.1
  have hts := hc.1.2.2.2.2
  have hl : lv_has ls 9 [(0, .ref (aP 0)), (1, .ref (aB 0)), (2, .int x2), (3, .ref (ali 0))] := hl
  obtain ⟨H, hH⟩ : ∃ z, z = s.heap := ⟨_, rfl⟩
  obtain ⟨locs, hLc⟩ : ∃ z : List Loc, z = [] := ⟨_, rfl⟩
  have hw : wV D A s.heap ((pW cy aP e_P_judge SP) ++ ((bW cy aB e_B_laws (atd 0) e_B_mentions e_B_claims SB) ++ ((tW cy atd Std) ++ (tW cy ali Sli)))) H locs := by rw [hH, hLc]; exact hw
  have hgo : W p l e (rmN 5) s m args below meth c H locs 0 0 (MQ below (eV D cy A (fun u : Ob × Ob => ((pW cy aP e_P_judge u.1) ++ ((bW cy aB e_B_laws (atd 0) e_B_mentions e_B_claims SB) ++ ((tW cy atd Std) ++ (tW cy ali u.2))))) (fun (u : Ob × Ob) => Q u.1 u.2)) args s (rmN 5).cells (rmN 5).slots A) (F0 m 0 ls []) := ?hgo
  · rw [hH, hLc] at hgo; exact hgo
  refine lv_iload_n hx hb dX3_lineUp_0 rfl (lv_at hl 2 rfl) ?_
  refine lv_istore (lv' := [(4, .int x2), (0, .ref (aP 0)), (1, .ref (aB 0)), (2, .int x2), (3, .ref (ali 0))]) hx hb dX3_lineUp_1 hl (by decide) rfl (fun ls hl => ?_)
  refine lv_aload_n hx hb dX3_lineUp_3 rfl (lv_at hl 2 rfl) ?_
  refine nVN_I (As := []) (rest := []) (wc := ((bW cy aB e_B_laws (atd 0) e_B_mentions e_B_claims SB) ++ (tW cy atd Std))) (wr := ((pW cy aP e_P_judge SP) ++ (tW cy ali Sli))) (isC := [11, 12, 13, 14, 15, 16, 17, 18, 19, 20]) (isR := [0, 1, 2, 3, 4, 5, 6, 7, 8, 9, 10, 21, 22, 23, 24]) hc hw (c_X6_lastYear hm) lk_X3_136 ⟨rfl, rfl, rfl, rfl, by decide⟩ rfl rfl ⟨Nat.le_of_ble_eq_true rfl, Nat.le_of_ble_eq_true rfl⟩ ⟨Nat.le_of_ble_eq_true rfl, Nat.le_of_ble_eq_true rfl⟩ hl.1 rfl (Nat.le_of_ble_eq_true rfl) rfl dX3_lineUp_4 (fun r1 _ H locs hm hw => ?_)
  have hw : wV D A s.heap ((pW cy aP e_P_judge SP) ++ ((bW cy aB e_B_laws (atd 0) e_B_mentions e_B_claims SB) ++ ((tW cy atd Std) ++ (tW cy ali Sli)))) H locs := hw.perm [0, 1, 2, 3, 4, 5, 6, 7, 8, 9, 10, 15, 16, 17, 18, 19, 20, 21, 22, 23, 24, 11, 12, 13, 14] rfl rfl
  refine lv_istore (lv' := [(5, .int r1), (4, .int x2), (0, .ref (aP 0)), (1, .ref (aB 0)), (2, .int x2), (3, .ref (ali 0))]) hx hb dX3_lineUp_7 hl (by decide) rfl (fun ls hl => ?_)
  refine lv_iconst (v := 1) hx hb dX3_lineUp_9 (by decide) ?_
  refine lv_aload_n hx hb dX3_lineUp_10 rfl (lv_at hl 3 rfl) ?_
  refine nVN_I (As := []) (rest := [.int 1]) (wc := ((bW cy aB e_B_laws (atd 0) e_B_mentions e_B_claims SB) ++ (tW cy atd Std))) (wr := ((pW cy aP e_P_judge SP) ++ (tW cy ali Sli))) (isC := [11, 12, 13, 14, 15, 16, 17, 18, 19, 20]) (isR := [0, 1, 2, 3, 4, 5, 6, 7, 8, 9, 10, 21, 22, 23, 24]) hc hw (c_X6_lastTeller hm) lk_X3_139 ⟨rfl, rfl, rfl, rfl, by decide⟩ rfl rfl ⟨Nat.le_of_ble_eq_true rfl, Nat.le_of_ble_eq_true rfl⟩ ⟨Nat.le_of_ble_eq_true rfl, Nat.le_of_ble_eq_true rfl⟩ hl.1 rfl (Nat.le_of_ble_eq_true rfl) rfl dX3_lineUp_11 (fun r3 _ H locs hm hw => ?_)
  have hw : wV D A s.heap ((pW cy aP e_P_judge SP) ++ ((bW cy aB e_B_laws (atd 0) e_B_mentions e_B_claims SB) ++ ((tW cy atd Std) ++ (tW cy ali Sli)))) H locs := hw.perm [0, 1, 2, 3, 4, 5, 6, 7, 8, 9, 10, 15, 16, 17, 18, 19, 20, 21, 22, 23, 24, 11, 12, 13, 14] rfl rfl
  refine lv_ishl hx hb dX3_lineUp_14 ?_
  refine lv_topi (fun v5 e_v5 => ?_)
  have hm := hm v5 e_v5
  refine lv_istore (lv' := [(6, .int v5), (5, .int r1), (4, .int x2), (0, .ref (aP 0)), (1, .ref (aB 0)), (2, .int x2), (3, .ref (ali 0))]) hx hb dX3_lineUp_15 hl (by decide) rfl (fun ls hl => ?_)
  refine lv_aload_n hx hb dX3_lineUp_17 rfl (lv_at hl 6 rfl) ?_
  refine nVN_I (As := []) (rest := []) (wc := (tW cy ali Sli)) (wr := ((pW cy aP e_P_judge SP) ++ ((bW cy aB e_B_laws (atd 0) e_B_mentions e_B_claims SB) ++ (tW cy atd Std)))) (isC := [21, 22, 23, 24]) (isR := [0, 1, 2, 3, 4, 5, 6, 7, 8, 9, 10, 11, 12, 13, 14, 15, 16, 17, 18, 19, 20]) hc hw (c_X7_drop hm) lk_X3_146 ⟨rfl, rfl, rfl, rfl, by decide⟩ rfl rfl ⟨Nat.le_of_ble_eq_true rfl, Nat.le_of_ble_eq_true rfl⟩ ⟨Nat.le_of_ble_eq_true rfl, Nat.le_of_ble_eq_true rfl⟩ hl.1 rfl (Nat.le_of_ble_eq_true rfl) rfl dX3_lineUp_18 (fun r6 S7 H locs hm hw => ?_)
  have hw : wV D A s.heap ((pW cy aP e_P_judge SP) ++ ((bW cy aB e_B_laws (atd 0) e_B_mentions e_B_claims SB) ++ ((tW cy atd Std) ++ (tW cy ali S7)))) H locs := hw.perm [0, 1, 2, 3, 4, 5, 6, 7, 8, 9, 10, 11, 12, 13, 14, 15, 16, 17, 18, 19, 20, 21, 22, 23, 24] rfl rfl
  refine lv_pop hx hb dX3_lineUp_21 rfl ?_
  refine lv_iconst (v := 0) hx hb dX3_lineUp_22 (by decide) ?_
  refine lv_istore (lv' := [(7, .int 0), (6, .int v5), (5, .int r1), (4, .int x2), (0, .ref (aP 0)), (1, .ref (aB 0)), (2, .int x2), (3, .ref (ali 0))]) hx hb dX3_lineUp_23 hl (by decide) rfl (fun ls hl => ?_)
  refine wl5_ind (G := fun (x7_9 : Int32) (x6_10 : Int32) (x5_11 : Int32) (x4_12 : Int32) (S13 : Ob) => ∀ (H : Heap) (locs : List Loc) (ls : Array Slot), wV D A s.heap ((pW cy aP e_P_judge SP) ++ ((bW cy aB e_B_laws (atd 0) e_B_mentions e_B_claims SB) ++ ((tW cy atd Std) ++ (tW cy ali S13)))) H locs → lv_has ls 9 [(7, .int x7_9), (6, .int x6_10), (5, .int x5_11), (4, .int x4_12), (0, .ref (aP 0)), (1, .ref (aB 0)), (3, .ref (ali 0))] → W p l e (rmN 5) s m args below meth c H locs 0 0 (MQ below (eV D cy A (fun u : Ob × Ob => ((pW cy aP e_P_judge u.1) ++ ((bW cy aB e_B_laws (atd 0) e_B_mentions e_B_claims SB) ++ ((tW cy atd Std) ++ (tW cy ali u.2))))) (fun (u : Ob × Ob) => Q u.1 u.2)) args s (rmN 5).cells (rmN 5).slots A) (F0 m 25 ls [])) ?_ _ _ _ _ _ hm H locs ls hw (lv_sub hl [0, 1, 2, 3, 4, 5, 7] rfl)
  intro L14 ih14 x7_9 x6_10 x5_11 x4_12 S13 hm H locs ls hw hl
  refine lv_iload hx hb dX3_lineUp_25 (lv_at hl 0 rfl) ?_
  refine lv_aload_n hx hb dX3_lineUp_27 rfl (lv_at hl 4 rfl) ?_
  refine gF (k := 6) hc hw inX3 rfl 0 rfl (by decide) (gm 334 (by decide +kernel) rfl) rfl dX3_lineUp_28 ?_
  obtain ⟨J16, eJ16, hm⟩ := jn_e hm
  have hJ16 : ∀ (z15 : Unit) (_ : J16 z15) (H : Heap) (locs : List Loc) (ls : Array Slot), wV D A s.heap ((pW cy aP e_P_judge SP) ++ ((bW cy aB e_B_laws (atd 0) e_B_mentions e_B_claims SB) ++ ((tW cy atd Std) ++ (tW cy ali S13)))) H locs → lv_has ls 9 [(0, .ref (aP 0)), (1, .ref (aB 0)), (3, .ref (ali 0))] → W p l e (rmN 5) s m args below meth c H locs 0 0 (MQ below (eV D cy A (fun u : Ob × Ob => ((pW cy aP e_P_judge u.1) ++ ((bW cy aB e_B_laws (atd 0) e_B_mentions e_B_claims SB) ++ ((tW cy atd Std) ++ (tW cy ali u.2))))) (fun (u : Ob × Ob) => Q u.1 u.2)) args s (rmN 5).cells (rmN 5).slots A) (F0 m 104 ls []) := by
    intro z15 hm H locs ls hw hl
    rw [eJ16] at hm
    refine lv_aload_n hx hb dX3_lineUp_104 rfl (lv_at hl 0 rfl) ?_
    refine lv_aload_n hx hb dX3_lineUp_105 rfl (lv_at hl 2 rfl) ?_
    refine lv_aload_n hx hb dX3_lineUp_106 rfl (lv_at hl 1 rfl) ?_
    refine nVN_I (As := []) (rest := [.ref (ali 0), .ref (aP 0)]) (wc := ((bW cy aB e_B_laws (atd 0) e_B_mentions e_B_claims SB) ++ (tW cy atd Std))) (wr := ((pW cy aP e_P_judge SP) ++ (tW cy ali S13))) (isC := [11, 12, 13, 14, 15, 16, 17, 18, 19, 20]) (isR := [0, 1, 2, 3, 4, 5, 6, 7, 8, 9, 10, 21, 22, 23, 24]) hc hw (c_X6_lastTeller hm) lk_X3_139 ⟨rfl, rfl, rfl, rfl, by decide⟩ rfl rfl ⟨Nat.le_of_ble_eq_true rfl, Nat.le_of_ble_eq_true rfl⟩ ⟨Nat.le_of_ble_eq_true rfl, Nat.le_of_ble_eq_true rfl⟩ hl.1 rfl (Nat.le_of_ble_eq_true rfl) rfl dX3_lineUp_107 (fun r17 _ H locs hm hw => ?_)
    have hw : wV D A s.heap ((pW cy aP e_P_judge SP) ++ ((bW cy aB e_B_laws (atd 0) e_B_mentions e_B_claims SB) ++ ((tW cy atd Std) ++ (tW cy ali S13)))) H locs := hw.perm [0, 1, 2, 3, 4, 5, 6, 7, 8, 9, 10, 15, 16, 17, 18, 19, 20, 21, 22, 23, 24, 11, 12, 13, 14] rfl rfl
    refine nV_V (As := [.ref (ali 0), .int r17]) (rest := []) (wc := ((pW cy aP e_P_judge SP) ++ (tW cy ali S13))) (wr := ((bW cy aB e_B_laws (atd 0) e_B_mentions e_B_claims SB) ++ (tW cy atd Std))) (isC := [0, 1, 2, 3, 4, 5, 6, 7, 8, 9, 10, 21, 22, 23, 24]) (isR := [11, 12, 13, 14, 15, 16, 17, 18, 19, 20]) hc hw (c_X3_nameTellers hm) lk_X3_165 ⟨rfl, rfl, rfl, rfl, by decide⟩ rfl rfl ⟨Nat.le_of_ble_eq_true rfl, Nat.le_of_ble_eq_true rfl⟩ ⟨Nat.le_of_ble_eq_true rfl, Nat.le_of_ble_eq_true rfl⟩ hl.1 rfl (Nat.le_of_ble_eq_true rfl) rfl dX3_lineUp_110 (fun u_20 H locs hm hw => ?_)
    obtain ⟨S19, S20⟩ := u_20
    have hw : wV D A s.heap ((pW cy aP e_P_judge S19) ++ ((bW cy aB e_B_laws (atd 0) e_B_mentions e_B_claims SB) ++ ((tW cy atd Std) ++ (tW cy ali S20)))) H locs := hw.perm [10, 11, 12, 13, 14, 15, 16, 17, 18, 19, 20, 0, 1, 2, 3, 4, 5, 6, 7, 8, 9, 21, 22, 23, 24] rfl rfl
    exact retV (u := (S19, S20)) hc hw hm dX3_lineUp_113
  refine lv_icmp_ge (tgt := 104) hx hb dX3_lineUp_31 (by decide) (fun c34 => ?_) (fun c34 => ?_)
  · have hm := hm.1 c34
    exact hJ16 _ hm _ _ _ hw (lv_sub hl [4, 5, 6] rfl)
  · have hm := hm.2 c34
    refine lv_iload hx hb dX3_lineUp_34 (lv_at hl 3 rfl) ?_
    refine lv_if_eq (tgt := 104) hx hb dX3_lineUp_36 (by decide) (fun c33 => ?_) (fun c33 => ?_)
    · have hm := hm.1 c33
      exact hJ16 _ hm _ _ _ hw (lv_sub hl [4, 5, 6] rfl)
    · have hm := hm.2 c33
      refine lv_aload_n hx hb dX3_lineUp_39 rfl (lv_at hl 4 rfl) ?_
      refine lv_iload hx hb dX3_lineUp_40 (lv_at hl 3 rfl) ?_
      refine lv_iload hx hb dX3_lineUp_42 (lv_at hl 2 rfl) ?_
      refine lv_iload hx hb dX3_lineUp_44 (lv_at hl 1 rfl) ?_
      refine nV_I (As := [.int x4_12, .int x5_11, .int x6_10]) (rest := []) (wc := (pW cy aP e_P_judge SP)) (wr := ((bW cy aB e_B_laws (atd 0) e_B_mentions e_B_claims SB) ++ ((tW cy atd Std) ++ (tW cy ali S13)))) (isC := [0, 1, 2, 3, 4, 5, 6, 7, 8, 9, 10]) (isR := [11, 12, 13, 14, 15, 16, 17, 18, 19, 20, 21, 22, 23, 24]) hc hw (c_X3_firstTale hm) lk_X3_151 ⟨rfl, rfl, rfl, rfl, by decide⟩ rfl rfl ⟨Nat.le_of_ble_eq_true rfl, Nat.le_of_ble_eq_true rfl⟩ ⟨Nat.le_of_ble_eq_true rfl, Nat.le_of_ble_eq_true rfl⟩ hl.1 rfl (Nat.le_of_ble_eq_true rfl) rfl dX3_lineUp_46 (fun r22 _ H locs hm hw => ?_)
      have hw : wV D A s.heap ((pW cy aP e_P_judge SP) ++ ((bW cy aB e_B_laws (atd 0) e_B_mentions e_B_claims SB) ++ ((tW cy atd Std) ++ (tW cy ali S13)))) H locs := hw.perm [14, 15, 16, 17, 18, 19, 20, 21, 22, 23, 24, 0, 1, 2, 3, 4, 5, 6, 7, 8, 9, 10, 11, 12, 13] rfl rfl
      refine lv_istore (lv' := [(8, .int r22), (7, .int x7_9), (6, .int x6_10), (5, .int x5_11), (4, .int x4_12), (0, .ref (aP 0)), (1, .ref (aB 0)), (3, .ref (ali 0))]) hx hb dX3_lineUp_49 hl (by decide) rfl (fun ls hl => ?_)
      refine lv_iload hx hb dX3_lineUp_51 (lv_at hl 0 rfl) ?_
      refine lv_iconst (v := (-1)) hx hb dX3_lineUp_53 (by decide) ?_
      refine lv_icmp_ne (tgt := 58) hx hb dX3_lineUp_54 (by decide) (fun c32 => ?_) (fun c32 => ?_)
      · have hm := hm.1 c32
        refine lv_aload_n hx hb dX3_lineUp_58 rfl (lv_at hl 5 rfl) ?_
        refine lv_iload hx hb dX3_lineUp_59 (lv_at hl 0 rfl) ?_
        refine lv_iload hx hb dX3_lineUp_61 (lv_at hl 3 rfl) ?_
        refine nV_I (As := [.int r22, .int x5_11]) (rest := []) (wc := (pW cy aP e_P_judge SP)) (wr := ((bW cy aB e_B_laws (atd 0) e_B_mentions e_B_claims SB) ++ ((tW cy atd Std) ++ (tW cy ali S13)))) (isC := [0, 1, 2, 3, 4, 5, 6, 7, 8, 9, 10]) (isR := [11, 12, 13, 14, 15, 16, 17, 18, 19, 20, 21, 22, 23, 24]) hc hw (c_X3_yearOf hm) lk_X3_155 ⟨rfl, rfl, rfl, rfl, by decide⟩ rfl rfl ⟨Nat.le_of_ble_eq_true rfl, Nat.le_of_ble_eq_true rfl⟩ ⟨Nat.le_of_ble_eq_true rfl, Nat.le_of_ble_eq_true rfl⟩ hl.1 rfl (Nat.le_of_ble_eq_true rfl) rfl dX3_lineUp_63 (fun r24 _ H locs hm hw => ?_)
        have hw : wV D A s.heap ((pW cy aP e_P_judge SP) ++ ((bW cy aB e_B_laws (atd 0) e_B_mentions e_B_claims SB) ++ ((tW cy atd Std) ++ (tW cy ali S13)))) H locs := hw.perm [14, 15, 16, 17, 18, 19, 20, 21, 22, 23, 24, 0, 1, 2, 3, 4, 5, 6, 7, 8, 9, 10, 11, 12, 13] rfl rfl
        refine lv_istore (lv' := [(5, .int r24), (8, .int r22), (7, .int x7_9), (6, .int x6_10), (4, .int x4_12), (0, .ref (aP 0)), (1, .ref (aB 0)), (3, .ref (ali 0))]) hx hb dX3_lineUp_66 hl (by decide) rfl (fun ls hl => ?_)
        refine lv_aload_n hx hb dX3_lineUp_68 rfl (lv_at hl 5 rfl) ?_
        refine lv_iload hx hb dX3_lineUp_69 (lv_at hl 1 rfl) ?_
        refine lv_iload hx hb dX3_lineUp_71 (lv_at hl 3 rfl) ?_
        refine nV_I (As := [.int r22, .int x6_10]) (rest := []) (wc := (pW cy aP e_P_judge SP)) (wr := ((bW cy aB e_B_laws (atd 0) e_B_mentions e_B_claims SB) ++ ((tW cy atd Std) ++ (tW cy ali S13)))) (isC := [0, 1, 2, 3, 4, 5, 6, 7, 8, 9, 10]) (isR := [11, 12, 13, 14, 15, 16, 17, 18, 19, 20, 21, 22, 23, 24]) hc hw (c_X3_followers hm) lk_X3_158 ⟨rfl, rfl, rfl, rfl, by decide⟩ rfl rfl ⟨Nat.le_of_ble_eq_true rfl, Nat.le_of_ble_eq_true rfl⟩ ⟨Nat.le_of_ble_eq_true rfl, Nat.le_of_ble_eq_true rfl⟩ hl.1 rfl (Nat.le_of_ble_eq_true rfl) rfl dX3_lineUp_73 (fun r26 _ H locs hm hw => ?_)
        have hw : wV D A s.heap ((pW cy aP e_P_judge SP) ++ ((bW cy aB e_B_laws (atd 0) e_B_mentions e_B_claims SB) ++ ((tW cy atd Std) ++ (tW cy ali S13)))) H locs := hw.perm [14, 15, 16, 17, 18, 19, 20, 21, 22, 23, 24, 0, 1, 2, 3, 4, 5, 6, 7, 8, 9, 10, 11, 12, 13] rfl rfl
        refine lv_istore (lv' := [(6, .int r26), (5, .int r24), (8, .int r22), (7, .int x7_9), (4, .int x4_12), (0, .ref (aP 0)), (1, .ref (aB 0)), (3, .ref (ali 0))]) hx hb dX3_lineUp_76 hl (by decide) rfl (fun ls hl => ?_)
        refine lv_iload hx hb dX3_lineUp_78 (lv_at hl 4 rfl) ?_
        refine lv_iconst (v := 1) hx hb dX3_lineUp_80 (by decide) ?_
        refine lv_iload hx hb dX3_lineUp_81 (lv_at hl 2 rfl) ?_
        refine lv_ishl hx hb dX3_lineUp_83 ?_
        refine lv_iconst (v := (-1)) hx hb dX3_lineUp_84 (by decide) ?_
        refine lv_ixor hx hb dX3_lineUp_85 ?_
        refine lv_iand hx hb dX3_lineUp_86 ?_
        refine lv_topi (fun v28 e_v28 => ?_)
        have hm := hm v28 e_v28
        refine lv_istore (lv' := [(4, .int v28), (6, .int r26), (5, .int r24), (8, .int r22), (7, .int x7_9), (0, .ref (aP 0)), (1, .ref (aB 0)), (3, .ref (ali 0))]) hx hb dX3_lineUp_87 hl (by decide) rfl (fun ls hl => ?_)
        refine lv_aload_n hx hb dX3_lineUp_89 rfl (lv_at hl 7 rfl) ?_
        refine lv_iload hx hb dX3_lineUp_90 (lv_at hl 3 rfl) ?_
        refine lv_iload hx hb dX3_lineUp_92 (lv_at hl 2 rfl) ?_
        refine lv_iconst (v := (-1)) hx hb dX3_lineUp_94 (by decide) ?_
        refine nVN_V (As := [.int r22, .int r24, .int (-1)]) (rest := []) (wc := (tW cy ali S13)) (wr := ((pW cy aP e_P_judge SP) ++ ((bW cy aB e_B_laws (atd 0) e_B_mentions e_B_claims SB) ++ (tW cy atd Std)))) (isC := [21, 22, 23, 24]) (isR := [0, 1, 2, 3, 4, 5, 6, 7, 8, 9, 10, 11, 12, 13, 14, 15, 16, 17, 18, 19, 20]) hc hw (c_X7_add hm) lk_X3_161 ⟨rfl, rfl, rfl, rfl, by decide⟩ rfl rfl ⟨Nat.le_of_ble_eq_true rfl, Nat.le_of_ble_eq_true rfl⟩ ⟨Nat.le_of_ble_eq_true rfl, Nat.le_of_ble_eq_true rfl⟩ hl.1 rfl (Nat.le_of_ble_eq_true rfl) rfl dX3_lineUp_95 (fun S29 H locs hm hw => ?_)
        have hw : wV D A s.heap ((pW cy aP e_P_judge SP) ++ ((bW cy aB e_B_laws (atd 0) e_B_mentions e_B_claims SB) ++ ((tW cy atd Std) ++ (tW cy ali S29)))) H locs := hw.perm [0, 1, 2, 3, 4, 5, 6, 7, 8, 9, 10, 11, 12, 13, 14, 15, 16, 17, 18, 19, 20, 21, 22, 23, 24] rfl rfl
        obtain ⟨v31, e_v31⟩ : ∃ z : Int32, z = x7_9 + 1 := ⟨_, rfl⟩
        have hm := hm v31 e_v31
        refine lv_iinc (v := v31) (lv' := [(7, .int v31), (4, .int v28), (6, .int r26), (5, .int r24), (8, .int r22), (0, .ref (aP 0)), (1, .ref (aB 0)), (3, .ref (ali 0))]) hx hb dX3_lineUp_98 hl (k := 4) rfl (by rw [e_v31]; rfl) (by decide) rfl (fun ls hl => ?_)
        refine lv_goto (tgt := 25) hx hb dX3_lineUp_101 (by decide) ?_
        exact ih14 _ _ _ _ _ hm _ _ _ hw (lv_sub hl [0, 2, 3, 1, 5, 6, 7] rfl)
      · have hm := hm.2 c32
        exact retV (u := (SP, S13)) hc hw hm dX3_lineUp_57
set_option maxHeartbeats 4000000 in
set_option maxRecDepth 100000 in
theorem c_X3_rows {l : Launch} {D : va_G} {cy : Nat → ClassId} {aP : Nat → Nat} {e_P_judge : Nat} : ∀ (d : Nat) (SP : Ob) (x1 : Int32) (x2 : Int32) (x3 : Int32) (x4 : Int32) (Q : (Int32 → Prop)) (hm : w_X3_rows d SP x1 x2 x3 x4 Q), CtI l yX3_rows cX3_rows 9 (some .int) (rmN (3 + 4 * d)) D cy [.ref (aP 0), .int x1, .int x2, .int x3, .int x4] (pW cy aP e_P_judge SP) (fun _ : Unit => (pW cy aP e_P_judge SP)) (fun (r : Int32) (_ : Unit) => Q r)
  | 0, _, _, _, _, _, _, hm => hm.elim
  | d + 1, SP, x1, x2, x3, x4, Q, hm => by
    unfold w_X3_rows at hm
    refine CtI.ofW (by decide) (Nat.le_of_ble_eq_true rfl) ?_
    intro p e s m args below meth c A ls hc hnm hw hl
    have hx := hc.1.1
    have hb := hc.1.2.1
    have hown := hc.1.2.2.2.1
    have hts := hc.1.2.2.2.2
    have hl : lv_has ls 9 [(0, .ref (aP 0)), (1, .int x1), (2, .int x2), (3, .int x3), (4, .int x4)] := hl
    obtain ⟨H, hH⟩ : ∃ z, z = s.heap := ⟨_, rfl⟩
    obtain ⟨locs, hLc⟩ : ∃ z : List Loc, z = [] := ⟨_, rfl⟩
    have hw : wV D A s.heap (pW cy aP e_P_judge SP) H locs := by rw [hH, hLc]; exact hw
    have hgo : W p l e (rmN (3 + 4 * (d + 1))) s m args below meth c H locs 0 0 (MQ below (eI D cy A (fun _ : Unit => (pW cy aP e_P_judge SP)) (fun (r : Int32) (_ : Unit) => Q r)) args s (rmN (3 + 4 * (d + 1))).cells (rmN (3 + 4 * (d + 1))).slots A) (F0 m 0 ls []) := ?hgo
    · rw [hH, hLc] at hgo; exact hgo
    refine lv_iload_n hx hb dX3_rows_0 rfl (lv_at hl 1 rfl) ?_
    refine lv_if_ne (tgt := 6) hx hb dX3_rows_1 (by decide) (fun c20 => ?_) (fun c20 => ?_)
    · have hm := hm.1 c20
      refine lv_iconst (v := 0) hx hb dX3_rows_6 (by decide) ?_
      refine lv_istore (lv' := [(5, .int 0), (0, .ref (aP 0)), (1, .int x1), (2, .int x2), (3, .int x3), (4, .int x4)]) hx hb dX3_rows_7 hl (by decide) rfl (fun ls hl => ?_)
      refine lv_iconst (v := 0) hx hb dX3_rows_9 (by decide) ?_
      refine lv_istore (lv' := [(6, .int 0), (5, .int 0), (0, .ref (aP 0)), (1, .int x1), (2, .int x2), (3, .int x3), (4, .int x4)]) hx hb dX3_rows_10 hl (by decide) rfl (fun ls hl => ?_)
      refine wl2_ind (G := fun (x6_1 : Int32) (x5_2 : Int32) => ∀ (H : Heap) (locs : List Loc) (ls : Array Slot), wV D A s.heap (pW cy aP e_P_judge SP) H locs → lv_has ls 9 [(6, .int x6_1), (5, .int x5_2), (0, .ref (aP 0)), (1, .int x1), (2, .int x2), (3, .int x3), (4, .int x4)] → W p l e (rmN (3 + 4 * (d + 1))) s m args below meth c H locs 0 0 (MQ below (eI D cy A (fun _ : Unit => (pW cy aP e_P_judge SP)) (fun (r : Int32) (_ : Unit) => Q r)) args s (rmN (3 + 4 * (d + 1))).cells (rmN (3 + 4 * (d + 1))).slots A) (F0 m 12 ls [])) ?_ _ _ hm H locs ls hw (lv_sub hl [0, 1, 2, 3, 4, 5, 6] rfl)
      intro L3 ih3 x6_1 x5_2 hm H locs ls hw hl
      refine lv_iload hx hb dX3_rows_12 (lv_at hl 0 rfl) ?_
      refine lv_aload_n hx hb dX3_rows_14 rfl (lv_at hl 2 rfl) ?_
      refine gF (k := 6) hc hw inX3 rfl 0 rfl (by decide) (gm 334 (by decide +kernel) rfl) rfl dX3_rows_15 ?_
      refine lv_icmp_ge (tgt := 97) hx hb dX3_rows_18 (by decide) (fun c19 => ?_) (fun c19 => ?_)
      · have hm := hm.1 c19
        refine lv_iload hx hb dX3_rows_97 (lv_at hl 1 rfl) ?_
        exact retI (u := ()) hc hw hm dX3_rows_99
      · have hm := hm.2 c19
        refine lv_iload hx hb dX3_rows_21 (lv_at hl 6 rfl) ?_
        refine lv_bipush (v := 7) hx hb dX3_rows_23 (by decide) ?_
        refine lv_icmp_ge (tgt := 97) hx hb dX3_rows_25 (by decide) (fun c18 => ?_) (fun c18 => ?_)
        · have hm := hm.1 c18
          refine lv_iload hx hb dX3_rows_97 (lv_at hl 1 rfl) ?_
          exact retI (u := ()) hc hw hm dX3_rows_99
        · have hm := hm.2 c18
          refine lv_iload_n hx hb dX3_rows_28 rfl (lv_at hl 3 rfl) ?_
          refine lv_iload hx hb dX3_rows_29 (lv_at hl 0 rfl) ?_
          refine lv_ishr hx hb dX3_rows_31 ?_
          refine lv_iconst (v := 1) hx hb dX3_rows_32 (by decide) ?_
          refine lv_iand hx hb dX3_rows_33 ?_
          refine lv_if_eq (tgt := 91) hx hb dX3_rows_34 (by decide) (fun c17 => ?_) (fun c17 => ?_)
          · have hm := hm.1 c17
            obtain ⟨v4, e_v4⟩ : ∃ z : Int32, z = x6_1 + 1 := ⟨_, rfl⟩
            have hm := hm v4 e_v4
            refine lv_iinc (v := v4) (lv' := [(6, .int v4), (5, .int x5_2), (0, .ref (aP 0)), (1, .int x1), (2, .int x2), (3, .int x3), (4, .int x4)]) hx hb dX3_rows_91 hl (k := 0) rfl (by rw [e_v4]; rfl) (by decide) rfl (fun ls hl => ?_)
            refine lv_goto (tgt := 12) hx hb dX3_rows_94 (by decide) ?_
            exact ih3 _ _ hm _ _ _ hw (lv_sub hl [0, 1, 2, 3, 4, 5, 6] rfl)
          · have hm := hm.2 c17
            refine lv_aload_n hx hb dX3_rows_37 rfl (lv_at hl 2 rfl) ?_
            refine lv_iload hx hb dX3_rows_38 (lv_at hl 0 rfl) ?_
            refine lv_iload_n hx hb dX3_rows_40 rfl (lv_at hl 4 rfl) ?_
            refine aV_I (As := [.int x6_1, .int x2]) (rest := []) hc hw (c_X3_yearOf hm) lk_X3_155 rfl rfl (rm_ok (by omega) (by omega)) ⟨Nat.le_of_ble_eq_true rfl, Nat.le_of_ble_eq_true rfl⟩ hl.1 rfl (Nat.le_of_ble_eq_true rfl) rfl dX3_rows_41 (fun r5 _ H locs hm hw => ?_)
            have hw : wV D A s.heap (pW cy aP e_P_judge SP) H locs := hw
            refine lv_istore (lv' := [(7, .int r5), (6, .int x6_1), (5, .int x5_2), (0, .ref (aP 0)), (1, .int x1), (2, .int x2), (3, .int x3), (4, .int x4)]) hx hb dX3_rows_44 hl (by decide) rfl (fun ls hl => ?_)
            refine lv_aload_n hx hb dX3_rows_46 rfl (lv_at hl 3 rfl) ?_
            refine lv_iload hx hb dX3_rows_47 (lv_at hl 1 rfl) ?_
            refine lv_iload_n hx hb dX3_rows_49 rfl (lv_at hl 6 rfl) ?_
            refine aV_I (As := [.int x6_1, .int x3]) (rest := []) hc hw (c_X3_followers hm) lk_X3_158 rfl rfl (rm_ok (by omega) (by omega)) ⟨Nat.le_of_ble_eq_true rfl, Nat.le_of_ble_eq_true rfl⟩ hl.1 rfl (Nat.le_of_ble_eq_true rfl) rfl dX3_rows_50 (fun r7 _ H locs hm hw => ?_)
            have hw : wV D A s.heap (pW cy aP e_P_judge SP) H locs := hw
            refine lv_istore (lv' := [(8, .int r7), (7, .int r5), (6, .int x6_1), (5, .int x5_2), (0, .ref (aP 0)), (1, .int x1), (2, .int x2), (3, .int x3), (4, .int x4)]) hx hb dX3_rows_53 hl (by decide) rfl (fun ls hl => ?_)
            refine lv_iload hx hb dX3_rows_55 (lv_at hl 1 rfl) ?_
            refine lv_iconst (v := (-1)) hx hb dX3_rows_57 (by decide) ?_
            refine lv_icmp_eq (tgt := 91) hx hb dX3_rows_58 (by decide) (fun c16 => ?_) (fun c16 => ?_)
            · have hm := hm.1 c16
              obtain ⟨v9, e_v9⟩ : ∃ z : Int32, z = x6_1 + 1 := ⟨_, rfl⟩
              have hm := hm v9 e_v9
              refine lv_iinc (v := v9) (lv' := [(6, .int v9), (8, .int r7), (7, .int r5), (5, .int x5_2), (0, .ref (aP 0)), (1, .int x1), (2, .int x2), (3, .int x3), (4, .int x4)]) hx hb dX3_rows_91 hl (k := 2) rfl (by rw [e_v9]; rfl) (by decide) rfl (fun ls hl => ?_)
              refine lv_goto (tgt := 12) hx hb dX3_rows_94 (by decide) ?_
              exact ih3 _ _ hm _ _ _ hw (lv_sub hl [0, 3, 4, 5, 6, 7, 8] rfl)
            · have hm := hm.2 c16
              refine lv_iload hx hb dX3_rows_61 (lv_at hl 0 rfl) ?_
              refine lv_if_eq (tgt := 91) hx hb dX3_rows_63 (by decide) (fun c15 => ?_) (fun c15 => ?_)
              · have hm := hm.1 c15
                obtain ⟨v10, e_v10⟩ : ∃ z : Int32, z = x6_1 + 1 := ⟨_, rfl⟩
                have hm := hm v10 e_v10
                refine lv_iinc (v := v10) (lv' := [(6, .int v10), (8, .int r7), (7, .int r5), (5, .int x5_2), (0, .ref (aP 0)), (1, .int x1), (2, .int x2), (3, .int x3), (4, .int x4)]) hx hb dX3_rows_91 hl (k := 2) rfl (by rw [e_v10]; rfl) (by decide) rfl (fun ls hl => ?_)
                refine lv_goto (tgt := 12) hx hb dX3_rows_94 (by decide) ?_
                exact ih3 _ _ hm _ _ _ hw (lv_sub hl [0, 3, 4, 5, 6, 7, 8] rfl)
              · have hm := hm.2 c15
                refine lv_iload hx hb dX3_rows_66 (lv_at hl 3 rfl) ?_
                refine lv_aload_n hx hb dX3_rows_68 rfl (lv_at hl 4 rfl) ?_
                refine lv_iload_n hx hb dX3_rows_69 rfl (lv_at hl 5 rfl) ?_
                refine lv_iconst (v := 1) hx hb dX3_rows_70 (by decide) ?_
                refine lv_iload hx hb dX3_rows_71 (lv_at hl 2 rfl) ?_
                refine lv_ishl hx hb dX3_rows_73 ?_
                refine lv_iconst (v := (-1)) hx hb dX3_rows_74 (by decide) ?_
                refine lv_ixor hx hb dX3_rows_75 ?_
                refine lv_iand hx hb dX3_rows_76 ?_
                refine lv_iload hx hb dX3_rows_77 (lv_at hl 1 rfl) ?_
                refine lv_iload hx hb dX3_rows_79 (lv_at hl 0 rfl) ?_
                refine lv_iload hx hb dX3_rows_81 (lv_at hl 8 rfl) ?_
                refine lv_iconst (v := 1) hx hb dX3_rows_83 (by decide) ?_
                refine lv_iadd hx hb dX3_rows_84 ?_
                refine aV_I (As := [.int (x1 &&& (((1 : Int32) <<< (x6_1 &&& 31)) ^^^ (-1))), .int r5, .int r7, .int (x4 + 1)]) (rest := [.int x5_2]) hc hw (c_X3_rows d _ _ _ _ _ _ hm) lk_X3_188 rfl rfl (rm_ok (by omega) (by omega)) ⟨Nat.le_of_ble_eq_true rfl, Nat.le_of_ble_eq_true rfl⟩ hl.1 rfl (Nat.le_of_ble_eq_true rfl) rfl dX3_rows_85 (fun r11 _ H locs hm hw => ?_)
                have hw : wV D A s.heap (pW cy aP e_P_judge SP) H locs := hw
                refine lv_iadd hx hb dX3_rows_88 ?_
                refine lv_topi (fun v13 e_v13 => ?_)
                have hm := hm v13 e_v13
                refine lv_istore (lv' := [(5, .int v13), (8, .int r7), (7, .int r5), (6, .int x6_1), (0, .ref (aP 0)), (1, .int x1), (2, .int x2), (3, .int x3), (4, .int x4)]) hx hb dX3_rows_89 hl (by decide) rfl (fun ls hl => ?_)
                obtain ⟨v14, e_v14⟩ : ∃ z : Int32, z = x6_1 + 1 := ⟨_, rfl⟩
                have hm := hm v14 e_v14
                refine lv_iinc (v := v14) (lv' := [(6, .int v14), (5, .int v13), (8, .int r7), (7, .int r5), (0, .ref (aP 0)), (1, .int x1), (2, .int x2), (3, .int x3), (4, .int x4)]) hx hb dX3_rows_91 hl (k := 3) rfl (by rw [e_v14]; rfl) (by decide) rfl (fun ls hl => ?_)
                refine lv_goto (tgt := 12) hx hb dX3_rows_94 (by decide) ?_
                exact ih3 _ _ hm _ _ _ hw (lv_sub hl [0, 1, 4, 5, 6, 7, 8] rfl)
    · have hm := hm.2 c20
      refine lv_iconst (v := 1) hx hb dX3_rows_4 (by decide) ?_
      exact retI (u := ()) hc hw hm dX3_rows_5
set_option maxHeartbeats 4000000 in
set_option maxRecDepth 100000 in
theorem c_X3_winningTale {l : Launch} {D : va_G} {cy : Nat → ClassId} {aP : Nat → Nat} {e_P_judge : Nat} : ∀ (d : Nat) (SP : Ob) (x1 : Int32) (x2 : Int32) (x3 : Int32) (x4 : Int32) (Q : (Int32 → Prop)) (hm : w_X3_winningTale d SP x1 x2 x3 x4 Q), CtI l yX3_winningTale cX3_winningTale 7 (some .int) (rmN (3 + 4 * d)) D cy [.ref (aP 0), .int x1, .int x2, .int x3, .int x4] (pW cy aP e_P_judge SP) (fun _ : Unit => (pW cy aP e_P_judge SP)) (fun (r : Int32) (_ : Unit) => Q r)
  | 0, _, _, _, _, _, _, hm => hm.elim
  | d + 1, SP, x1, x2, x3, x4, Q, hm => by
    unfold w_X3_winningTale at hm
    refine CtI.ofW (by decide) (Nat.le_of_ble_eq_true rfl) ?_
    intro p e s m args below meth c A ls hc hnm hw hl
    have hx := hc.1.1
    have hb := hc.1.2.1
    have hown := hc.1.2.2.2.1
    have hts := hc.1.2.2.2.2
    have hl : lv_has ls 7 [(0, .ref (aP 0)), (1, .int x1), (2, .int x2), (3, .int x3), (4, .int x4)] := hl
    obtain ⟨H, hH⟩ : ∃ z, z = s.heap := ⟨_, rfl⟩
    obtain ⟨locs, hLc⟩ : ∃ z : List Loc, z = [] := ⟨_, rfl⟩
    have hw : wV D A s.heap (pW cy aP e_P_judge SP) H locs := by rw [hH, hLc]; exact hw
    have hgo : W p l e (rmN (3 + 4 * (d + 1))) s m args below meth c H locs 0 0 (MQ below (eI D cy A (fun _ : Unit => (pW cy aP e_P_judge SP)) (fun (r : Int32) (_ : Unit) => Q r)) args s (rmN (3 + 4 * (d + 1))).cells (rmN (3 + 4 * (d + 1))).slots A) (F0 m 0 ls []) := ?hgo
    · rw [hH, hLc] at hgo; exact hgo
    refine lv_iconst (v := 0) hx hb dX3_winningTale_0 (by decide) ?_
    refine lv_istore (lv' := [(5, .int 0), (0, .ref (aP 0)), (1, .int x1), (2, .int x2), (3, .int x3), (4, .int x4)]) hx hb dX3_winningTale_1 hl (by decide) rfl (fun ls hl => ?_)
    refine wl1_ind (G := fun (x5_1 : Int32) => ∀ (H : Heap) (locs : List Loc) (ls : Array Slot), wV D A s.heap (pW cy aP e_P_judge SP) H locs → lv_has ls 7 [(5, .int x5_1), (0, .ref (aP 0)), (1, .int x1), (2, .int x2), (3, .int x3), (4, .int x4)] → W p l e (rmN (3 + 4 * (d + 1))) s m args below meth c H locs 0 0 (MQ below (eI D cy A (fun _ : Unit => (pW cy aP e_P_judge SP)) (fun (r : Int32) (_ : Unit) => Q r)) args s (rmN (3 + 4 * (d + 1))).cells (rmN (3 + 4 * (d + 1))).slots A) (F0 m 3 ls [])) ?_ _ hm H locs ls hw (lv_sub hl [0, 1, 2, 3, 4, 5] rfl)
    intro L2 ih2 x5_1 hm H locs ls hw hl
    refine lv_iload hx hb dX3_winningTale_3 (lv_at hl 0 rfl) ?_
    refine lv_aload_n hx hb dX3_winningTale_5 rfl (lv_at hl 1 rfl) ?_
    refine gF (k := 6) hc hw inX3 rfl 0 rfl (by decide) (gm 334 (by decide +kernel) rfl) rfl dX3_winningTale_6 ?_
    refine lv_icmp_ge (tgt := 91) hx hb dX3_winningTale_9 (by decide) (fun c17 => ?_) (fun c17 => ?_)
    · have hm := hm.1 c17
      refine lv_iconst (v := (-1)) hx hb dX3_winningTale_91 (by decide) ?_
      exact retI (u := ()) hc hw hm dX3_winningTale_92
    · have hm := hm.2 c17
      refine lv_iload hx hb dX3_winningTale_12 (lv_at hl 5 rfl) ?_
      refine lv_bipush (v := 7) hx hb dX3_winningTale_14 (by decide) ?_
      refine lv_icmp_ge (tgt := 91) hx hb dX3_winningTale_16 (by decide) (fun c16 => ?_) (fun c16 => ?_)
      · have hm := hm.1 c16
        refine lv_iconst (v := (-1)) hx hb dX3_winningTale_91 (by decide) ?_
        exact retI (u := ()) hc hw hm dX3_winningTale_92
      · have hm := hm.2 c16
        refine lv_iload_n hx hb dX3_winningTale_19 rfl (lv_at hl 2 rfl) ?_
        refine lv_iload hx hb dX3_winningTale_20 (lv_at hl 0 rfl) ?_
        refine lv_ishr hx hb dX3_winningTale_22 ?_
        refine lv_iconst (v := 1) hx hb dX3_winningTale_23 (by decide) ?_
        refine lv_iand hx hb dX3_winningTale_24 ?_
        refine lv_if_eq (tgt := 85) hx hb dX3_winningTale_25 (by decide) (fun c15 => ?_) (fun c15 => ?_)
        · have hm := hm.1 c15
          obtain ⟨v3, e_v3⟩ : ∃ z : Int32, z = x5_1 + 1 := ⟨_, rfl⟩
          have hm := hm v3 e_v3
          refine lv_iinc (v := v3) (lv' := [(5, .int v3), (0, .ref (aP 0)), (1, .int x1), (2, .int x2), (3, .int x3), (4, .int x4)]) hx hb dX3_winningTale_85 hl (k := 0) rfl (by rw [e_v3]; rfl) (by decide) rfl (fun ls hl => ?_)
          refine lv_goto (tgt := 3) hx hb dX3_winningTale_88 (by decide) ?_
          exact ih2 _ hm _ _ _ hw (lv_sub hl [0, 1, 2, 3, 4, 5] rfl)
        · have hm := hm.2 c15
          refine lv_aload_n hx hb dX3_winningTale_28 rfl (lv_at hl 1 rfl) ?_
          refine gF (k := 5) hc hw inX3 rfl 0 rfl (by decide) (gm 332 (by decide +kernel) rfl) rfl dX3_winningTale_29 ?_
          refine lv_iload hx hb dX3_winningTale_32 (lv_at hl 0 rfl) ?_
          obtain ⟨c4, hm⟩ := hm
          refine aI hc hw 5 rfl c4 rfl dX3_winningTale_34 ?_
          refine lv_iload_n hx hb dX3_winningTale_35 rfl (lv_at hl 4 rfl) ?_
          refine lv_ishr hx hb dX3_winningTale_36 ?_
          refine lv_iconst (v := 1) hx hb dX3_winningTale_37 (by decide) ?_
          refine lv_iand hx hb dX3_winningTale_38 ?_
          refine lv_if_eq (tgt := 85) hx hb dX3_winningTale_39 (by decide) (fun c14 => ?_) (fun c14 => ?_)
          · have hm := hm.1 c14
            obtain ⟨v5, e_v5⟩ : ∃ z : Int32, z = x5_1 + 1 := ⟨_, rfl⟩
            have hm := hm v5 e_v5
            refine lv_iinc (v := v5) (lv' := [(5, .int v5), (0, .ref (aP 0)), (1, .int x1), (2, .int x2), (3, .int x3), (4, .int x4)]) hx hb dX3_winningTale_85 hl (k := 0) rfl (by rw [e_v5]; rfl) (by decide) rfl (fun ls hl => ?_)
            refine lv_goto (tgt := 3) hx hb dX3_winningTale_88 (by decide) ?_
            exact ih2 _ hm _ _ _ hw (lv_sub hl [0, 1, 2, 3, 4, 5] rfl)
          · have hm := hm.2 c14
            refine lv_aload_n hx hb dX3_winningTale_42 rfl (lv_at hl 1 rfl) ?_
            refine lv_iload hx hb dX3_winningTale_43 (lv_at hl 0 rfl) ?_
            refine lv_iload_n hx hb dX3_winningTale_45 rfl (lv_at hl 3 rfl) ?_
            refine aV_I (As := [.int x5_1, .int x2]) (rest := []) hc hw (c_X3_yearOf hm) lk_X3_155 rfl rfl (rm_ok (by omega) (by omega)) ⟨Nat.le_of_ble_eq_true rfl, Nat.le_of_ble_eq_true rfl⟩ hl.1 rfl (Nat.le_of_ble_eq_true rfl) rfl dX3_winningTale_46 (fun r6 _ H locs hm hw => ?_)
            have hw : wV D A s.heap (pW cy aP e_P_judge SP) H locs := hw
            refine lv_istore (lv' := [(6, .int r6), (5, .int x5_1), (0, .ref (aP 0)), (1, .int x1), (2, .int x2), (3, .int x3), (4, .int x4)]) hx hb dX3_winningTale_49 hl (by decide) rfl (fun ls hl => ?_)
            refine lv_iload hx hb dX3_winningTale_51 (lv_at hl 0 rfl) ?_
            refine lv_iconst (v := (-1)) hx hb dX3_winningTale_53 (by decide) ?_
            refine lv_icmp_eq (tgt := 85) hx hb dX3_winningTale_54 (by decide) (fun c13 => ?_) (fun c13 => ?_)
            · have hm := hm.1 c13
              obtain ⟨v8, e_v8⟩ : ∃ z : Int32, z = x5_1 + 1 := ⟨_, rfl⟩
              have hm := hm v8 e_v8
              refine lv_iinc (v := v8) (lv' := [(5, .int v8), (6, .int r6), (0, .ref (aP 0)), (1, .int x1), (2, .int x2), (3, .int x3), (4, .int x4)]) hx hb dX3_winningTale_85 hl (k := 1) rfl (by rw [e_v8]; rfl) (by decide) rfl (fun ls hl => ?_)
              refine lv_goto (tgt := 3) hx hb dX3_winningTale_88 (by decide) ?_
              exact ih2 _ hm _ _ _ hw (lv_sub hl [0, 2, 3, 4, 5, 6] rfl)
            · have hm := hm.2 c13
              refine lv_aload_n hx hb dX3_winningTale_57 rfl (lv_at hl 2 rfl) ?_
              refine lv_iload_n hx hb dX3_winningTale_58 rfl (lv_at hl 3 rfl) ?_
              refine lv_iconst (v := 1) hx hb dX3_winningTale_59 (by decide) ?_
              refine lv_iload hx hb dX3_winningTale_60 (lv_at hl 1 rfl) ?_
              refine lv_ishl hx hb dX3_winningTale_62 ?_
              refine lv_iconst (v := (-1)) hx hb dX3_winningTale_63 (by decide) ?_
              refine lv_ixor hx hb dX3_winningTale_64 ?_
              refine lv_iand hx hb dX3_winningTale_65 ?_
              refine lv_iload hx hb dX3_winningTale_66 (lv_at hl 0 rfl) ?_
              refine lv_iconst (v := 1) hx hb dX3_winningTale_68 (by decide) ?_
              refine lv_iload_n hx hb dX3_winningTale_69 rfl (lv_at hl 5 rfl) ?_
              refine lv_isub hx hb dX3_winningTale_70 ?_
              refine lv_iload hx hb dX3_winningTale_71 (lv_at hl 6 rfl) ?_
              refine lv_iconst (v := 1) hx hb dX3_winningTale_73 (by decide) ?_
              refine lv_iadd hx hb dX3_winningTale_74 ?_
              refine aV_I (As := [.int (x1 &&& (((1 : Int32) <<< (x5_1 &&& 31)) ^^^ (-1))), .int r6, .int (1 - x3), .int (x4 + 1)]) (rest := []) hc hw (c_X3_winningTale d _ _ _ _ _ _ hm) lk_X3_192 rfl rfl (rm_ok (by omega) (by omega)) ⟨Nat.le_of_ble_eq_true rfl, Nat.le_of_ble_eq_true rfl⟩ hl.1 rfl (Nat.le_of_ble_eq_true rfl) rfl dX3_winningTale_75 (fun r9 _ H locs hm hw => ?_)
              have hw : wV D A s.heap (pW cy aP e_P_judge SP) H locs := hw
              refine lv_iconst (v := (-1)) hx hb dX3_winningTale_78 (by decide) ?_
              refine lv_icmp_ne (tgt := 85) hx hb dX3_winningTale_79 (by decide) (fun c12 => ?_) (fun c12 => ?_)
              · have hm := hm.1 c12
                obtain ⟨v11, e_v11⟩ : ∃ z : Int32, z = x5_1 + 1 := ⟨_, rfl⟩
                have hm := hm v11 e_v11
                refine lv_iinc (v := v11) (lv' := [(5, .int v11), (6, .int r6), (0, .ref (aP 0)), (1, .int x1), (2, .int x2), (3, .int x3), (4, .int x4)]) hx hb dX3_winningTale_85 hl (k := 1) rfl (by rw [e_v11]; rfl) (by decide) rfl (fun ls hl => ?_)
                refine lv_goto (tgt := 3) hx hb dX3_winningTale_88 (by decide) ?_
                exact ih2 _ hm _ _ _ hw (lv_sub hl [0, 2, 3, 4, 5, 6] rfl)
              · have hm := hm.2 c12
                refine lv_iload hx hb dX3_winningTale_82 (lv_at hl 1 rfl) ?_
                exact retI (u := ()) hc hw hm dX3_winningTale_84
set_option maxHeartbeats 4000000 in
set_option maxRecDepth 100000 in
theorem c_X3_firstWrong {l : Launch} {D : va_G} {cy : Nat → ClassId} {aP : Nat → Nat} {acl : Nat → Nat} {e_P_judge : Nat} {SP : Ob} {Scl : Ob} {x2 : Int32} {Q : Int32 → Prop} (hm : w_X3_firstWrong SP Scl x2 Q) : CtI l yX3_firstWrong cX3_firstWrong 11 (some .int) (rmN 2) D cy [.ref (aP 0), .ref (acl 0), .int x2] ((pW cy aP e_P_judge SP) ++ (tW cy acl Scl)) (fun _ : Unit => ((pW cy aP e_P_judge SP) ++ (tW cy acl Scl))) (fun (r : Int32) (_ : Unit) => Q r) := by
  refine CtI.ofW (by decide) (Nat.le_of_ble_eq_true rfl) ?_
  intro p e s m args below meth c A ls hc hnm hw hl
  have hx := hc.1.1
  have hb := hc.1.2.1
  have hown := hc.1.2.2.2.1
  have hts := hc.1.2.2.2.2
  have hl : lv_has ls 11 [(0, .ref (aP 0)), (1, .ref (acl 0)), (2, .int x2)] := hl
  obtain ⟨H, hH⟩ : ∃ z, z = s.heap := ⟨_, rfl⟩
  obtain ⟨locs, hLc⟩ : ∃ z : List Loc, z = [] := ⟨_, rfl⟩
  have hw : wV D A s.heap ((pW cy aP e_P_judge SP) ++ (tW cy acl Scl)) H locs := by rw [hH, hLc]; exact hw
  have hgo : W p l e (rmN 2) s m args below meth c H locs 0 0 (MQ below (eI D cy A (fun _ : Unit => ((pW cy aP e_P_judge SP) ++ (tW cy acl Scl))) (fun (r : Int32) (_ : Unit) => Q r)) args s (rmN 2).cells (rmN 2).slots A) (F0 m 0 ls []) := ?hgo
  · rw [hH, hLc] at hgo; exact hgo
  refine lv_iconst (v := 0) hx hb dX3_firstWrong_0 (by decide) ?_
  refine lv_istore_n (lv' := [(3, .int 0), (0, .ref (aP 0)), (1, .ref (acl 0)), (2, .int x2)]) hx hb dX3_firstWrong_1 rfl hl (by decide) rfl (fun ls hl => ?_)
  refine lv_sipush (v := 10000) hx hb dX3_firstWrong_2 (by decide) ?_
  refine lv_istore (lv' := [(4, .int 10000), (3, .int 0), (0, .ref (aP 0)), (1, .ref (acl 0)), (2, .int x2)]) hx hb dX3_firstWrong_5 hl (by decide) rfl (fun ls hl => ?_)
  refine lv_iconst (v := 4) hx hb dX3_firstWrong_7 (by decide) ?_
  refine lv_istore (lv' := [(5, .int 4), (4, .int 10000), (3, .int 0), (0, .ref (aP 0)), (1, .ref (acl 0)), (2, .int x2)]) hx hb dX3_firstWrong_8 hl (by decide) rfl (fun ls hl => ?_)
  refine lv_iconst (v := 0) hx hb dX3_firstWrong_10 (by decide) ?_
  refine lv_istore (lv' := [(6, .int 0), (5, .int 4), (4, .int 10000), (3, .int 0), (0, .ref (aP 0)), (1, .ref (acl 0)), (2, .int x2)]) hx hb dX3_firstWrong_11 hl (by decide) rfl (fun ls hl => ?_)
  refine wl4_ind (G := fun (x6_1 : Int32) (x5_2 : Int32) (x4_3 : Int32) (x3_4 : Int32) => ∀ (H : Heap) (locs : List Loc) (ls : Array Slot), wV D A s.heap ((pW cy aP e_P_judge SP) ++ (tW cy acl Scl)) H locs → lv_has ls 11 [(6, .int x6_1), (5, .int x5_2), (4, .int x4_3), (3, .int x3_4), (0, .ref (aP 0)), (1, .ref (acl 0)), (2, .int x2)] → W p l e (rmN 2) s m args below meth c H locs 0 0 (MQ below (eI D cy A (fun _ : Unit => ((pW cy aP e_P_judge SP) ++ (tW cy acl Scl))) (fun (r : Int32) (_ : Unit) => Q r)) args s (rmN 2).cells (rmN 2).slots A) (F0 m 13 ls [])) ?_ _ _ _ _ hm H locs ls hw (lv_sub hl [0, 1, 2, 3, 4, 5, 6] rfl)
  intro L5 ih5 x6_1 x5_2 x4_3 x3_4 hm H locs ls hw hl
  refine lv_iload hx hb dX3_firstWrong_13 (lv_at hl 0 rfl) ?_
  refine lv_aload_n hx hb dX3_firstWrong_15 rfl (lv_at hl 5 rfl) ?_
  refine gN (k := 3) (host := "OlderTale") hc hw inX7 rfl 11 rfl (by decide) (nmm 182 (by decide +kernel)) rfl dX3_firstWrong_16 ?_
  refine lv_icmp_ge (tgt := 173) hx hb dX3_firstWrong_19 (by decide) (fun c35 => ?_) (fun c35 => ?_)
  · have hm := hm.1 c35
    refine lv_iconst (v := (-1)) hx hb dX3_firstWrong_173 (by decide) ?_
    exact retI (u := ()) hc hw hm dX3_firstWrong_174
  · have hm := hm.2 c35
    refine lv_iload hx hb dX3_firstWrong_22 (lv_at hl 0 rfl) ?_
    refine lv_iload_n hx hb dX3_firstWrong_24 rfl (lv_at hl 6 rfl) ?_
    refine lv_icmp_ne (tgt := 31) hx hb dX3_firstWrong_25 (by decide) (fun c34 => ?_) (fun c34 => ?_)
    · have hm := hm.1 c34
      refine lv_aload_n hx hb dX3_firstWrong_31 rfl (lv_at hl 5 rfl) ?_
      refine gN (k := 0) (host := "OlderTale") hc hw inX7 rfl 11 rfl (by decide) (nmm 170 (by decide +kernel)) rfl dX3_firstWrong_32 ?_
      refine lv_iload hx hb dX3_firstWrong_35 (lv_at hl 0 rfl) ?_
      obtain ⟨c6, hm⟩ := hm
      refine aI hc hw 12 rfl c6 rfl dX3_firstWrong_37 ?_
      refine lv_topi (fun v7 e_v7 => ?_)
      have hm := hm v7 e_v7
      refine lv_istore (lv' := [(7, .int v7), (6, .int x6_1), (5, .int x5_2), (4, .int x4_3), (3, .int x3_4), (0, .ref (aP 0)), (1, .ref (acl 0)), (2, .int x2)]) hx hb dX3_firstWrong_38 hl (by decide) rfl (fun ls hl => ?_)
      refine lv_aload_n hx hb dX3_firstWrong_40 rfl (lv_at hl 6 rfl) ?_
      refine gN (k := 1) (host := "OlderTale") hc hw inX7 rfl 11 rfl (by decide) (nmm 174 (by decide +kernel)) rfl dX3_firstWrong_41 ?_
      refine lv_iload hx hb dX3_firstWrong_44 (lv_at hl 1 rfl) ?_
      obtain ⟨c8, hm⟩ := hm
      refine aI hc hw 13 rfl c8 rfl dX3_firstWrong_46 ?_
      refine lv_topi (fun v9 e_v9 => ?_)
      have hm := hm v9 e_v9
      refine lv_istore (lv' := [(8, .int v9), (7, .int v7), (6, .int x6_1), (5, .int x5_2), (4, .int x4_3), (3, .int x3_4), (0, .ref (aP 0)), (1, .ref (acl 0)), (2, .int x2)]) hx hb dX3_firstWrong_47 hl (by decide) rfl (fun ls hl => ?_)
      refine lv_iload hx hb dX3_firstWrong_49 (lv_at hl 0 rfl) ?_
      refine lv_aload_n hx hb dX3_firstWrong_51 rfl (lv_at hl 6 rfl) ?_
      refine gF (k := 1) hc hw inX3 rfl 0 rfl (by decide) (gm 326 (by decide +kernel) rfl) rfl dX3_firstWrong_52 ?_
      refine lv_iload hx hb dX3_firstWrong_55 (lv_at hl 1 rfl) ?_
      obtain ⟨c10, hm⟩ := hm
      refine aI hc hw 1 rfl c10 rfl dX3_firstWrong_57 ?_
      obtain ⟨J12, eJ12, hm⟩ := jn_e hm
      have hJ12 : ∀ (t11 : Int32) (_ : J12 t11) (H : Heap) (locs : List Loc) (ls : Array Slot), wV D A s.heap ((pW cy aP e_P_judge SP) ++ (tW cy acl Scl)) H locs → lv_has ls 11 [(0, .ref (aP 0)), (1, .ref (acl 0)), (2, .int x2), (3, .int x3_4), (5, .int x5_2), (6, .int x6_1), (7, .int v7), (8, .int v9)] → W p l e (rmN 2) s m args below meth c H locs 0 0 (MQ below (eI D cy A (fun _ : Unit => ((pW cy aP e_P_judge SP) ++ (tW cy acl Scl))) (fun (r : Int32) (_ : Unit) => Q r)) args s (rmN 2).cells (rmN 2).slots A) (F0 m 93 ls [.int t11]) := by
        intro t11 hm H locs ls hw hl
        rw [eJ12] at hm
        refine lv_istore (lv' := [(9, .int t11), (0, .ref (aP 0)), (1, .ref (acl 0)), (2, .int x2), (3, .int x3_4), (5, .int x5_2), (6, .int x6_1), (7, .int v7), (8, .int v9)]) hx hb dX3_firstWrong_93 hl (by decide) rfl (fun ls hl => ?_)
        refine lv_aload_n hx hb dX3_firstWrong_95 rfl (lv_at hl 1 rfl) ?_
        refine lv_iload hx hb dX3_firstWrong_96 (lv_at hl 7 rfl) ?_
        refine lv_iconst (v := 1) hx hb dX3_firstWrong_98 (by decide) ?_
        refine lv_iload hx hb dX3_firstWrong_99 (lv_at hl 5 rfl) ?_
        refine lv_ishl hx hb dX3_firstWrong_101 ?_
        refine nV_I (As := [.int v7, .int ((1 : Int32) <<< (x5_2 &&& 31))]) (rest := []) (wc := (pW cy aP e_P_judge SP)) (wr := (tW cy acl Scl)) (isC := [0, 1, 2, 3, 4, 5, 6, 7, 8, 9, 10]) (isR := [11, 12, 13, 14]) hc hw (c_X3_followers hm) lk_X3_158 ⟨rfl, rfl, rfl, rfl, by decide⟩ rfl rfl ⟨Nat.le_of_ble_eq_true rfl, Nat.le_of_ble_eq_true rfl⟩ ⟨Nat.le_of_ble_eq_true rfl, Nat.le_of_ble_eq_true rfl⟩ hl.1 rfl (Nat.le_of_ble_eq_true rfl) rfl dX3_firstWrong_102 (fun r13 _ H locs hm hw => ?_)
        have hw : wV D A s.heap ((pW cy aP e_P_judge SP) ++ (tW cy acl Scl)) H locs := hw.perm [4, 5, 6, 7, 8, 9, 10, 11, 12, 13, 14, 0, 1, 2, 3] rfl rfl
        refine lv_aload_n hx hb dX3_firstWrong_105 rfl (lv_at hl 2 rfl) ?_
        refine gN (k := 2) (host := "OlderTale") hc hw inX7 rfl 11 rfl (by decide) (nmm 178 (by decide +kernel)) rfl dX3_firstWrong_106 ?_
        refine lv_iload hx hb dX3_firstWrong_109 (lv_at hl 6 rfl) ?_
        obtain ⟨c15, hm⟩ := hm
        refine aI hc hw 14 rfl c15 rfl dX3_firstWrong_111 ?_
        refine lv_ishr hx hb dX3_firstWrong_112 ?_
        refine lv_iconst (v := 1) hx hb dX3_firstWrong_113 (by decide) ?_
        refine lv_iand hx hb dX3_firstWrong_114 ?_
        obtain ⟨J17, eJ17, hm⟩ := jn_e hm
        have hJ17 : ∀ (t16 : Int32) (_ : J17 t16) (H : Heap) (locs : List Loc) (ls : Array Slot), wV D A s.heap ((pW cy aP e_P_judge SP) ++ (tW cy acl Scl)) H locs → lv_has ls 11 [(0, .ref (aP 0)), (1, .ref (acl 0)), (2, .int x2), (3, .int x3_4), (6, .int x6_1), (7, .int v7), (8, .int v9), (9, .int t11)] → W p l e (rmN 2) s m args below meth c H locs 0 0 (MQ below (eI D cy A (fun _ : Unit => ((pW cy aP e_P_judge SP) ++ (tW cy acl Scl))) (fun (r : Int32) (_ : Unit) => Q r)) args s (rmN 2).cells (rmN 2).slots A) (F0 m 123 ls [.int t16]) := by
          intro t16 hm H locs ls hw hl
          rw [eJ17] at hm
          refine lv_istore (lv' := [(10, .int t16), (0, .ref (aP 0)), (1, .ref (acl 0)), (2, .int x2), (3, .int x3_4), (6, .int x6_1), (7, .int v7), (8, .int v9), (9, .int t11)]) hx hb dX3_firstWrong_123 hl (by decide) rfl (fun ls hl => ?_)
          refine lv_iload hx hb dX3_firstWrong_125 (lv_at hl 8 rfl) ?_
          refine lv_if_eq (tgt := 144) hx hb dX3_firstWrong_127 (by decide) (fun c24 => ?_) (fun c24 => ?_)
          · have hm := hm.1 c24
            refine lv_iload hx hb dX3_firstWrong_144 (lv_at hl 5 rfl) ?_
            exact retI (u := ()) hc hw hm dX3_firstWrong_146
          · have hm := hm.2 c24
            refine lv_iload hx hb dX3_firstWrong_130 (lv_at hl 0 rfl) ?_
            refine lv_if_eq (tgt := 144) hx hb dX3_firstWrong_132 (by decide) (fun c23 => ?_) (fun c23 => ?_)
            · have hm := hm.1 c23
              refine lv_iload hx hb dX3_firstWrong_144 (lv_at hl 5 rfl) ?_
              exact retI (u := ()) hc hw hm dX3_firstWrong_146
            · have hm := hm.2 c23
              refine lv_iload_n hx hb dX3_firstWrong_135 rfl (lv_at hl 4 rfl) ?_
              refine lv_iload hx hb dX3_firstWrong_136 (lv_at hl 6 rfl) ?_
              refine lv_ishr hx hb dX3_firstWrong_138 ?_
              refine lv_iconst (v := 1) hx hb dX3_firstWrong_139 (by decide) ?_
              refine lv_iand hx hb dX3_firstWrong_140 ?_
              refine lv_if_eq (tgt := 147) hx hb dX3_firstWrong_141 (by decide) (fun c22 => ?_) (fun c22 => ?_)
              · have hm := hm.1 c22
                refine lv_iload_n hx hb dX3_firstWrong_147 rfl (lv_at hl 4 rfl) ?_
                refine lv_iconst (v := 1) hx hb dX3_firstWrong_148 (by decide) ?_
                refine lv_iload hx hb dX3_firstWrong_149 (lv_at hl 6 rfl) ?_
                refine lv_ishl hx hb dX3_firstWrong_151 ?_
                refine lv_ior hx hb dX3_firstWrong_152 ?_
                refine lv_topi (fun v18 e_v18 => ?_)
                have hm := hm v18 e_v18
                refine lv_istore_n (lv' := [(3, .int v18), (10, .int t16), (0, .ref (aP 0)), (1, .ref (acl 0)), (2, .int x2), (6, .int x6_1), (7, .int v7), (8, .int v9), (9, .int t11)]) hx hb dX3_firstWrong_153 rfl hl (by decide) rfl (fun ls hl => ?_)
                refine lv_iload hx hb dX3_firstWrong_154 (lv_at hl 7 rfl) ?_
                refine lv_istore (lv' := [(4, .int v9), (3, .int v18), (10, .int t16), (0, .ref (aP 0)), (1, .ref (acl 0)), (2, .int x2), (6, .int x6_1), (7, .int v7), (8, .int v9), (9, .int t11)]) hx hb dX3_firstWrong_156 hl (by decide) rfl (fun ls hl => ?_)
                refine lv_aload_n hx hb dX3_firstWrong_158 rfl (lv_at hl 4 rfl) ?_
                refine gN (k := 2) (host := "OlderTale") hc hw inX7 rfl 11 rfl (by decide) (nmm 178 (by decide +kernel)) rfl dX3_firstWrong_159 ?_
                refine lv_iload hx hb dX3_firstWrong_162 (lv_at hl 6 rfl) ?_
                obtain ⟨c19, hm⟩ := hm
                refine aI hc hw 14 rfl c19 rfl dX3_firstWrong_164 ?_
                refine lv_topi (fun v20 e_v20 => ?_)
                have hm := hm v20 e_v20
                refine lv_istore (lv' := [(5, .int v20), (4, .int v9), (3, .int v18), (10, .int t16), (0, .ref (aP 0)), (1, .ref (acl 0)), (2, .int x2), (6, .int x6_1), (7, .int v7), (8, .int v9), (9, .int t11)]) hx hb dX3_firstWrong_165 hl (by decide) rfl (fun ls hl => ?_)
                obtain ⟨v21, e_v21⟩ : ∃ z : Int32, z = x6_1 + 1 := ⟨_, rfl⟩
                have hm := hm v21 e_v21
                refine lv_iinc (v := v21) (lv' := [(6, .int v21), (5, .int v20), (4, .int v9), (3, .int v18), (10, .int t16), (0, .ref (aP 0)), (1, .ref (acl 0)), (2, .int x2), (7, .int v7), (8, .int v9), (9, .int t11)]) hx hb dX3_firstWrong_167 hl (k := 7) rfl (by rw [e_v21]; rfl) (by decide) rfl (fun ls hl => ?_)
                refine lv_goto (tgt := 13) hx hb dX3_firstWrong_170 (by decide) ?_
                exact ih5 _ _ _ _ hm _ _ _ hw (lv_sub hl [0, 1, 2, 3, 5, 6, 7] rfl)
              · have hm := hm.2 c22
                refine lv_iload hx hb dX3_firstWrong_144 (lv_at hl 5 rfl) ?_
                exact retI (u := ()) hc hw hm dX3_firstWrong_146
        refine lv_if_eq (tgt := 122) hx hb dX3_firstWrong_115 (by decide) (fun c25 => ?_) (fun c25 => ?_)
        · have hm := hm.1 c25
          refine lv_iconst (v := 0) hx hb dX3_firstWrong_122 (by decide) ?_
          exact hJ17 _ hm _ _ _ hw (lv_sub hl [1, 2, 3, 4, 6, 7, 8, 0] rfl)
        · have hm := hm.2 c25
          refine lv_iconst (v := 1) hx hb dX3_firstWrong_118 (by decide) ?_
          refine lv_goto (tgt := 123) hx hb dX3_firstWrong_119 (by decide) ?_
          exact hJ17 _ hm _ _ _ hw (lv_sub hl [1, 2, 3, 4, 6, 7, 8, 0] rfl)
      obtain ⟨J27, eJ27, hm⟩ := jn_e hm
      have hJ27 : ∀ (z26 : Unit) (_ : J27 z26) (H : Heap) (locs : List Loc) (ls : Array Slot), wV D A s.heap ((pW cy aP e_P_judge SP) ++ (tW cy acl Scl)) H locs → lv_has ls 11 [(0, .ref (aP 0)), (1, .ref (acl 0)), (2, .int x2), (3, .int x3_4), (5, .int x5_2), (6, .int x6_1), (7, .int v7), (8, .int v9)] → W p l e (rmN 2) s m args below meth c H locs 0 0 (MQ below (eI D cy A (fun _ : Unit => ((pW cy aP e_P_judge SP) ++ (tW cy acl Scl))) (fun (r : Int32) (_ : Unit) => Q r)) args s (rmN 2).cells (rmN 2).slots A) (F0 m 92 ls []) := by
        intro z26 hm H locs ls hw hl
        rw [eJ27] at hm
        refine lv_iconst (v := 0) hx hb dX3_firstWrong_92 (by decide) ?_
        exact hJ12 _ hm _ _ _ hw (lv_sub hl [0, 1, 2, 3, 4, 5, 6, 7] rfl)
      refine lv_icmp_lt (tgt := 92) hx hb dX3_firstWrong_58 (by decide) (fun c32 => ?_) (fun c32 => ?_)
      · have hm := hm.1 c32
        exact hJ27 _ hm _ _ _ hw (lv_sub hl [6, 7, 8, 5, 3, 2, 1, 0] rfl)
      · have hm := hm.2 c32
        refine lv_iload hx hb dX3_firstWrong_61 (lv_at hl 0 rfl) ?_
        refine lv_aload_n hx hb dX3_firstWrong_63 rfl (lv_at hl 6 rfl) ?_
        refine gF (k := 2) hc hw inX3 rfl 0 rfl (by decide) (gm 327 (by decide +kernel) rfl) rfl dX3_firstWrong_64 ?_
        refine lv_iload hx hb dX3_firstWrong_67 (lv_at hl 1 rfl) ?_
        obtain ⟨c28, hm⟩ := hm
        refine aI hc hw 2 rfl c28 rfl dX3_firstWrong_69 ?_
        refine lv_icmp_gt (tgt := 92) hx hb dX3_firstWrong_70 (by decide) (fun c31 => ?_) (fun c31 => ?_)
        · have hm := hm.1 c31
          exact hJ27 _ hm _ _ _ hw (lv_sub hl [6, 7, 8, 5, 3, 2, 1, 0] rfl)
        · have hm := hm.2 c31
          refine lv_iload hx hb dX3_firstWrong_73 (lv_at hl 0 rfl) ?_
          refine lv_iload hx hb dX3_firstWrong_75 (lv_at hl 4 rfl) ?_
          refine lv_aload_n hx hb dX3_firstWrong_77 rfl (lv_at hl 6 rfl) ?_
          refine gF (k := 4) hc hw inX3 rfl 0 rfl (by decide) (gm 330 (by decide +kernel) rfl) rfl dX3_firstWrong_78 ?_
          refine lv_iload hx hb dX3_firstWrong_81 (lv_at hl 1 rfl) ?_
          obtain ⟨c29, hm⟩ := hm
          refine aI hc hw 4 rfl c29 rfl dX3_firstWrong_83 ?_
          refine lv_isub hx hb dX3_firstWrong_84 ?_
          refine lv_icmp_gt (tgt := 92) hx hb dX3_firstWrong_85 (by decide) (fun c30 => ?_) (fun c30 => ?_)
          · have hm := hm.1 c30
            exact hJ27 _ hm _ _ _ hw (lv_sub hl [6, 7, 8, 5, 3, 2, 1, 0] rfl)
          · have hm := hm.2 c30
            refine lv_iconst (v := 1) hx hb dX3_firstWrong_88 (by decide) ?_
            refine lv_goto (tgt := 93) hx hb dX3_firstWrong_89 (by decide) ?_
            exact hJ12 _ hm _ _ _ hw (lv_sub hl [6, 7, 8, 5, 3, 2, 1, 0] rfl)
    · have hm := hm.2 c34
      refine lv_goto (tgt := 167) hx hb dX3_firstWrong_28 (by decide) ?_
      obtain ⟨v33, e_v33⟩ : ∃ z : Int32, z = x6_1 + 1 := ⟨_, rfl⟩
      have hm := hm v33 e_v33
      refine lv_iinc (v := v33) (lv' := [(6, .int v33), (5, .int x5_2), (4, .int x4_3), (3, .int x3_4), (0, .ref (aP 0)), (1, .ref (acl 0)), (2, .int x2)]) hx hb dX3_firstWrong_167 hl (k := 0) rfl (by rw [e_v33]; rfl) (by decide) rfl (fun ls hl => ?_)
      refine lv_goto (tgt := 13) hx hb dX3_firstWrong_170 (by decide) ?_
      exact ih5 _ _ _ _ hm _ _ _ hw (lv_sub hl [0, 1, 2, 3, 4, 5, 6] rfl)
set_option maxHeartbeats 4000000 in
set_option maxRecDepth 100000 in
theorem c_X3_listChoices {l : Launch} {D : va_G} {cy : Nat → ClassId} {aP : Nat → Nat} {ach : Nat → Nat} {e_P_judge : Nat} {SP : Ob} {Sch : (Nat → Int32)} {x1 : Int32} {x2 : Int32} {x3 : Int32} {Q : Int32 → (Nat → Int32) → Prop} (hm : w_X3_listChoices SP Sch x1 x2 x3 Q) : CtI l yX3_listChoices cX3_listChoices 9 (some .int) (rmN 3) D cy [.ref (aP 0), .int x1, .int x2, .int x3, .ref (ach 0)] ((pW cy aP e_P_judge SP) ++ (chW cy ach Sch)) (fun u : (Nat → Int32) => ((pW cy aP e_P_judge SP) ++ (chW cy ach u))) Q := by
  refine CtI.ofW (by decide) (Nat.le_of_ble_eq_true rfl) ?_
  intro p e s m args below meth c A ls hc hnm hw hl
  have hx := hc.1.1
  have hb := hc.1.2.1
  have hown := hc.1.2.2.2.1
  have hts := hc.1.2.2.2.2
  have hl : lv_has ls 9 [(0, .ref (aP 0)), (1, .int x1), (2, .int x2), (3, .int x3), (4, .ref (ach 0))] := hl
  obtain ⟨H, hH⟩ : ∃ z, z = s.heap := ⟨_, rfl⟩
  obtain ⟨locs, hLc⟩ : ∃ z : List Loc, z = [] := ⟨_, rfl⟩
  have hw : wV D A s.heap ((pW cy aP e_P_judge SP) ++ (chW cy ach Sch)) H locs := by rw [hH, hLc]; exact hw
  have hgo : W p l e (rmN 3) s m args below meth c H locs 0 0 (MQ below (eI D cy A (fun u : (Nat → Int32) => ((pW cy aP e_P_judge SP) ++ (chW cy ach u))) Q) args s (rmN 3).cells (rmN 3).slots A) (F0 m 0 ls []) := ?hgo
  · rw [hH, hLc] at hgo; exact hgo
  refine lv_iconst (v := 0) hx hb dX3_listChoices_0 (by decide) ?_
  refine lv_istore (lv' := [(5, .int 0), (0, .ref (aP 0)), (1, .int x1), (2, .int x2), (3, .int x3), (4, .ref (ach 0))]) hx hb dX3_listChoices_1 hl (by decide) rfl (fun ls hl => ?_)
  refine lv_iconst (v := 0) hx hb dX3_listChoices_3 (by decide) ?_
  refine lv_istore (lv' := [(6, .int 0), (5, .int 0), (0, .ref (aP 0)), (1, .int x1), (2, .int x2), (3, .int x3), (4, .ref (ach 0))]) hx hb dX3_listChoices_4 hl (by decide) rfl (fun ls hl => ?_)
  refine wl3_ind (G := fun (x6_1 : Int32) (x5_2 : Int32) (S3 : (Nat → Int32)) => ∀ (H : Heap) (locs : List Loc) (ls : Array Slot), wV D A s.heap ((pW cy aP e_P_judge SP) ++ (chW cy ach S3)) H locs → lv_has ls 9 [(6, .int x6_1), (5, .int x5_2), (0, .ref (aP 0)), (1, .int x1), (2, .int x2), (3, .int x3), (4, .ref (ach 0))] → W p l e (rmN 3) s m args below meth c H locs 0 0 (MQ below (eI D cy A (fun u : (Nat → Int32) => ((pW cy aP e_P_judge SP) ++ (chW cy ach u))) Q) args s (rmN 3).cells (rmN 3).slots A) (F0 m 6 ls [])) ?_ _ _ _ hm H locs ls hw (lv_sub hl [0, 1, 2, 3, 4, 5, 6] rfl)
  intro L4 ih4 x6_1 x5_2 S3 hm H locs ls hw hl
  refine lv_iload hx hb dX3_listChoices_6 (lv_at hl 0 rfl) ?_
  refine lv_aload_n hx hb dX3_listChoices_8 rfl (lv_at hl 2 rfl) ?_
  refine gF (k := 6) hc hw inX3 rfl 0 rfl (by decide) (gm 334 (by decide +kernel) rfl) rfl dX3_listChoices_9 ?_
  refine lv_icmp_ge (tgt := 103) hx hb dX3_listChoices_12 (by decide) (fun c27 => ?_) (fun c27 => ?_)
  · have hm := hm.1 c27
    refine lv_iload hx hb dX3_listChoices_103 (lv_at hl 1 rfl) ?_
    exact retI (u := S3) hc hw hm dX3_listChoices_105
  · have hm := hm.2 c27
    refine lv_iload_n hx hb dX3_listChoices_15 rfl (lv_at hl 3 rfl) ?_
    refine lv_iload hx hb dX3_listChoices_16 (lv_at hl 0 rfl) ?_
    refine lv_ishr hx hb dX3_listChoices_18 ?_
    refine lv_iconst (v := 1) hx hb dX3_listChoices_19 (by decide) ?_
    refine lv_iand hx hb dX3_listChoices_20 ?_
    refine lv_if_eq (tgt := 97) hx hb dX3_listChoices_21 (by decide) (fun c26 => ?_) (fun c26 => ?_)
    · have hm := hm.1 c26
      obtain ⟨v5, e_v5⟩ : ∃ z : Int32, z = x6_1 + 1 := ⟨_, rfl⟩
      have hm := hm v5 e_v5
      refine lv_iinc (v := v5) (lv' := [(6, .int v5), (5, .int x5_2), (0, .ref (aP 0)), (1, .int x1), (2, .int x2), (3, .int x3), (4, .ref (ach 0))]) hx hb dX3_listChoices_97 hl (k := 0) rfl (by rw [e_v5]; rfl) (by decide) rfl (fun ls hl => ?_)
      refine lv_goto (tgt := 6) hx hb dX3_listChoices_100 (by decide) ?_
      exact ih4 _ _ _ hm _ _ _ hw (lv_sub hl [0, 1, 2, 3, 4, 5, 6] rfl)
    · have hm := hm.2 c26
      refine lv_aload_n hx hb dX3_listChoices_24 rfl (lv_at hl 2 rfl) ?_
      refine lv_iload hx hb dX3_listChoices_25 (lv_at hl 0 rfl) ?_
      refine lv_iload_n hx hb dX3_listChoices_27 rfl (lv_at hl 4 rfl) ?_
      refine nV_I (As := [.int x6_1, .int x2]) (rest := []) (wc := (pW cy aP e_P_judge SP)) (wr := (chW cy ach S3)) (isC := [0, 1, 2, 3, 4, 5, 6, 7, 8, 9, 10]) (isR := [11]) hc hw (c_X3_yearOf hm) lk_X3_155 ⟨rfl, rfl, rfl, rfl, by decide⟩ rfl rfl ⟨Nat.le_of_ble_eq_true rfl, Nat.le_of_ble_eq_true rfl⟩ ⟨Nat.le_of_ble_eq_true rfl, Nat.le_of_ble_eq_true rfl⟩ hl.1 rfl (Nat.le_of_ble_eq_true rfl) rfl dX3_listChoices_28 (fun r6 _ H locs hm hw => ?_)
      have hw : wV D A s.heap ((pW cy aP e_P_judge SP) ++ (chW cy ach S3)) H locs := hw.perm [1, 2, 3, 4, 5, 6, 7, 8, 9, 10, 11, 0] rfl rfl
      refine lv_iconst (v := (-1)) hx hb dX3_listChoices_31 (by decide) ?_
      refine lv_icmp_ne (tgt := 38) hx hb dX3_listChoices_32 (by decide) (fun c25 => ?_) (fun c25 => ?_)
      · have hm := hm.1 c25
        refine lv_aload_n hx hb dX3_listChoices_38 rfl (lv_at hl 2 rfl) ?_
        refine lv_iload hx hb dX3_listChoices_39 (lv_at hl 0 rfl) ?_
        refine lv_iconst (v := 1) hx hb dX3_listChoices_41 (by decide) ?_
        refine lv_iload_n hx hb dX3_listChoices_42 rfl (lv_at hl 5 rfl) ?_
        refine lv_ishl hx hb dX3_listChoices_43 ?_
        refine nV_I (As := [.int x6_1, .int ((1 : Int32) <<< (x3 &&& 31))]) (rest := []) (wc := (pW cy aP e_P_judge SP)) (wr := (chW cy ach S3)) (isC := [0, 1, 2, 3, 4, 5, 6, 7, 8, 9, 10]) (isR := [11]) hc hw (c_X3_followers hm) lk_X3_158 ⟨rfl, rfl, rfl, rfl, by decide⟩ rfl rfl ⟨Nat.le_of_ble_eq_true rfl, Nat.le_of_ble_eq_true rfl⟩ ⟨Nat.le_of_ble_eq_true rfl, Nat.le_of_ble_eq_true rfl⟩ hl.1 rfl (Nat.le_of_ble_eq_true rfl) rfl dX3_listChoices_44 (fun r8 _ H locs hm hw => ?_)
        have hw : wV D A s.heap ((pW cy aP e_P_judge SP) ++ (chW cy ach S3)) H locs := hw.perm [1, 2, 3, 4, 5, 6, 7, 8, 9, 10, 11, 0] rfl rfl
        refine lv_istore (lv' := [(7, .int r8), (6, .int x6_1), (5, .int x5_2), (0, .ref (aP 0)), (1, .int x1), (2, .int x2), (3, .int x3), (4, .ref (ach 0))]) hx hb dX3_listChoices_47 hl (by decide) rfl (fun ls hl => ?_)
        refine lv_iconst (v := 0) hx hb dX3_listChoices_49 (by decide) ?_
        refine lv_istore (lv' := [(8, .int 0), (7, .int r8), (6, .int x6_1), (5, .int x5_2), (0, .ref (aP 0)), (1, .int x1), (2, .int x2), (3, .int x3), (4, .ref (ach 0))]) hx hb dX3_listChoices_50 hl (by decide) rfl (fun ls hl => ?_)
        refine wl3_ind (G := fun (x8_10 : Int32) (x5_11 : Int32) (S12 : (Nat → Int32)) => ∀ (H : Heap) (locs : List Loc) (ls : Array Slot), wV D A s.heap ((pW cy aP e_P_judge SP) ++ (chW cy ach S12)) H locs → lv_has ls 9 [(8, .int x8_10), (7, .int r8), (6, .int x6_1), (5, .int x5_11), (0, .ref (aP 0)), (1, .int x1), (2, .int x2), (3, .int x3), (4, .ref (ach 0))] → W p l e (rmN 3) s m args below meth c H locs 0 0 (MQ below (eI D cy A (fun u : (Nat → Int32) => ((pW cy aP e_P_judge SP) ++ (chW cy ach u))) Q) args s (rmN 3).cells (rmN 3).slots A) (F0 m 52 ls [])) ?_ _ _ _ hm H locs ls hw (lv_sub hl [0, 1, 2, 3, 4, 5, 6, 7, 8] rfl)
        intro L13 ih13 x8_10 x5_11 S12 hm H locs ls hw hl
        refine lv_iload hx hb dX3_listChoices_52 (lv_at hl 0 rfl) ?_
        refine lv_iconst (v := 4) hx hb dX3_listChoices_54 (by decide) ?_
        refine lv_icmp_ge (tgt := 97) hx hb dX3_listChoices_55 (by decide) (fun c23 => ?_) (fun c23 => ?_)
        · have hm := hm.1 c23
          obtain ⟨v14, e_v14⟩ : ∃ z : Int32, z = x6_1 + 1 := ⟨_, rfl⟩
          have hm := hm v14 e_v14
          refine lv_iinc (v := v14) (lv' := [(6, .int v14), (8, .int x8_10), (7, .int r8), (5, .int x5_11), (0, .ref (aP 0)), (1, .int x1), (2, .int x2), (3, .int x3), (4, .ref (ach 0))]) hx hb dX3_listChoices_97 hl (k := 2) rfl (by rw [e_v14]; rfl) (by decide) rfl (fun ls hl => ?_)
          refine lv_goto (tgt := 6) hx hb dX3_listChoices_100 (by decide) ?_
          exact ih4 _ _ _ hm _ _ _ hw (lv_sub hl [0, 3, 4, 5, 6, 7, 8] rfl)
        · have hm := hm.2 c23
          refine lv_iload hx hb dX3_listChoices_58 (lv_at hl 1 rfl) ?_
          refine lv_iload hx hb dX3_listChoices_60 (lv_at hl 0 rfl) ?_
          refine lv_ishr hx hb dX3_listChoices_62 ?_
          refine lv_iconst (v := 1) hx hb dX3_listChoices_63 (by decide) ?_
          refine lv_iand hx hb dX3_listChoices_64 ?_
          refine lv_if_eq (tgt := 91) hx hb dX3_listChoices_65 (by decide) (fun c22 => ?_) (fun c22 => ?_)
          · have hm := hm.1 c22
            obtain ⟨v15, e_v15⟩ : ∃ z : Int32, z = x8_10 + 1 := ⟨_, rfl⟩
            have hm := hm v15 e_v15
            refine lv_iinc (v := v15) (lv' := [(8, .int v15), (7, .int r8), (6, .int x6_1), (5, .int x5_11), (0, .ref (aP 0)), (1, .int x1), (2, .int x2), (3, .int x3), (4, .ref (ach 0))]) hx hb dX3_listChoices_91 hl (k := 0) rfl (by rw [e_v15]; rfl) (by decide) rfl (fun ls hl => ?_)
            refine lv_goto (tgt := 52) hx hb dX3_listChoices_94 (by decide) ?_
            exact ih13 _ _ _ hm _ _ _ hw (lv_sub hl [0, 1, 2, 3, 4, 5, 6, 7, 8] rfl)
          · have hm := hm.2 c22
            refine lv_iload hx hb dX3_listChoices_68 (lv_at hl 3 rfl) ?_
            refine lv_aload hx hb dX3_listChoices_70 (lv_at hl 8 rfl) ?_
            refine aLen (t0 := 0) (v := 40) hc hw 11 rfl rfl rfl dX3_listChoices_72 ?_
            refine lv_icmp_ge (tgt := 91) hx hb dX3_listChoices_73 (by decide) (fun c21 => ?_) (fun c21 => ?_)
            · have hm := hm.1 c21
              obtain ⟨v16, e_v16⟩ : ∃ z : Int32, z = x8_10 + 1 := ⟨_, rfl⟩
              have hm := hm v16 e_v16
              refine lv_iinc (v := v16) (lv' := [(8, .int v16), (7, .int r8), (6, .int x6_1), (5, .int x5_11), (0, .ref (aP 0)), (1, .int x1), (2, .int x2), (3, .int x3), (4, .ref (ach 0))]) hx hb dX3_listChoices_91 hl (k := 0) rfl (by rw [e_v16]; rfl) (by decide) rfl (fun ls hl => ?_)
              refine lv_goto (tgt := 52) hx hb dX3_listChoices_94 (by decide) ?_
              exact ih13 _ _ _ hm _ _ _ hw (lv_sub hl [0, 1, 2, 3, 4, 5, 6, 7, 8] rfl)
            · have hm := hm.2 c21
              refine lv_aload hx hb dX3_listChoices_76 (lv_at hl 8 rfl) ?_
              refine lv_iload hx hb dX3_listChoices_78 (lv_at hl 3 rfl) ?_
              refine lv_iload hx hb dX3_listChoices_80 (lv_at hl 2 rfl) ?_
              refine lv_iconst (v := 4) hx hb dX3_listChoices_82 (by decide) ?_
              refine lv_imul hx hb dX3_listChoices_83 ?_
              refine lv_iload hx hb dX3_listChoices_84 (lv_at hl 0 rfl) ?_
              refine lv_iadd hx hb dX3_listChoices_86 ?_
              obtain ⟨c17, hm⟩ := hm
              refine sI hc hw 11 rfl c17 rfl dX3_listChoices_87 (fun H locs hw => ?_)
              obtain ⟨S18, e_S18⟩ : ∃ z : (Nat → Int32), z = upd S12 (Int32.toNatClampNeg x5_11) ((x6_1 * 4) + x8_10) := ⟨_, rfl⟩
              have hm := hm S18 e_S18
              have hw : wV D A s.heap ((pW cy aP e_P_judge SP) ++ (chW cy ach S18)) H locs := by rw [e_S18]; exact hw
              obtain ⟨v19, e_v19⟩ : ∃ z : Int32, z = x5_11 + 1 := ⟨_, rfl⟩
              have hm := hm v19 e_v19
              refine lv_iinc (v := v19) (lv' := [(5, .int v19), (8, .int x8_10), (7, .int r8), (6, .int x6_1), (0, .ref (aP 0)), (1, .int x1), (2, .int x2), (3, .int x3), (4, .ref (ach 0))]) hx hb dX3_listChoices_88 hl (k := 3) rfl (by rw [e_v19]; rfl) (by decide) rfl (fun ls hl => ?_)
              obtain ⟨v20, e_v20⟩ : ∃ z : Int32, z = x8_10 + 1 := ⟨_, rfl⟩
              have hm := hm v20 e_v20
              refine lv_iinc (v := v20) (lv' := [(8, .int v20), (5, .int v19), (7, .int r8), (6, .int x6_1), (0, .ref (aP 0)), (1, .int x1), (2, .int x2), (3, .int x3), (4, .ref (ach 0))]) hx hb dX3_listChoices_91 hl (k := 1) rfl (by rw [e_v20]; rfl) (by decide) rfl (fun ls hl => ?_)
              refine lv_goto (tgt := 52) hx hb dX3_listChoices_94 (by decide) ?_
              exact ih13 _ _ _ hm _ _ _ hw (lv_sub hl [0, 2, 3, 1, 4, 5, 6, 7, 8] rfl)
      · have hm := hm.2 c25
        refine lv_goto (tgt := 97) hx hb dX3_listChoices_35 (by decide) ?_
        obtain ⟨v24, e_v24⟩ : ∃ z : Int32, z = x6_1 + 1 := ⟨_, rfl⟩
        have hm := hm v24 e_v24
        refine lv_iinc (v := v24) (lv' := [(6, .int v24), (5, .int x5_2), (0, .ref (aP 0)), (1, .int x1), (2, .int x2), (3, .int x3), (4, .ref (ach 0))]) hx hb dX3_listChoices_97 hl (k := 0) rfl (by rw [e_v24]; rfl) (by decide) rfl (fun ls hl => ?_)
        refine lv_goto (tgt := 6) hx hb dX3_listChoices_100 (by decide) ?_
        exact ih4 _ _ _ hm _ _ _ hw (lv_sub hl [0, 1, 2, 3, 4, 5, 6] rfl)
set_option maxHeartbeats 4000000 in
set_option maxRecDepth 100000 in
theorem c_X0_agree {l : Launch} {D : va_G} {cy : Nat → ClassId} {aDt : Nat → Nat} {aB : Nat → Nat} {ame : Nat → Nat} {e_B_laws : Nat} {e_B_told : Nat} {e_B_claims : Nat} {SDt : Ob} {SB : Ob} {Sme : Ob} {x2 : Int32} {Q : Int32 → Ob → Prop} (hm : w_X0_agree SDt SB Sme x2 Q) : CtI l yX0_agree cX0_agree 9 (some .boolean) (rmN 2) D cy [.ref (aDt 0), .ref (aB 0), .int x2] ((dW cy aDt SDt) ++ ((bW cy aB e_B_laws e_B_told (ame 0) e_B_claims SB) ++ (tW cy ame Sme))) (fun u : Ob => ((dW cy aDt u) ++ ((bW cy aB e_B_laws e_B_told (ame 0) e_B_claims SB) ++ (tW cy ame Sme)))) Q := by
  refine CtI.ofW (by decide) (Nat.le_of_ble_eq_true rfl) ?_
  intro p e s m args below meth c A ls hc hnm hw hl
  have hx := hc.1.1
  have hb := hc.1.2.1
  have hown := hc.1.2.2.2.1
  have hts := hc.1.2.2.2.2
  have hl : lv_has ls 9 [(0, .ref (aDt 0)), (1, .ref (aB 0)), (2, .int x2)] := hl
  obtain ⟨H, hH⟩ : ∃ z, z = s.heap := ⟨_, rfl⟩
  obtain ⟨locs, hLc⟩ : ∃ z : List Loc, z = [] := ⟨_, rfl⟩
  have hw : wV D A s.heap ((dW cy aDt SDt) ++ ((bW cy aB e_B_laws e_B_told (ame 0) e_B_claims SB) ++ (tW cy ame Sme))) H locs := by rw [hH, hLc]; exact hw
  have hgo : W p l e (rmN 2) s m args below meth c H locs 0 0 (MQ below (eI D cy A (fun u : Ob => ((dW cy aDt u) ++ ((bW cy aB e_B_laws e_B_told (ame 0) e_B_claims SB) ++ (tW cy ame Sme)))) Q) args s (rmN 2).cells (rmN 2).slots A) (F0 m 0 ls []) := ?hgo
  · rw [hH, hLc] at hgo; exact hgo
  refine lv_aload_n hx hb dX0_agree_0 rfl (lv_at hl 1 rfl) ?_
  refine gN (k := 10) (host := "OlderTale") hc hw inX6 rfl 3 rfl (by decide) (nmm 228 (by decide +kernel)) rfl dX0_agree_1 ?_
  refine lv_astore_n (lv' := [(3, .ref (ame 0)), (0, .ref (aDt 0)), (1, .ref (aB 0)), (2, .int x2)]) hx hb dX0_agree_4 rfl hl (by decide) rfl (fun ls hl => ?_)
  refine lv_aload_n hx hb dX0_agree_5 rfl (lv_at hl 2 rfl) ?_
  refine gN (k := 0) (host := "OlderTale") hc hw inX6 rfl 3 rfl (by decide) (nmm 195 (by decide +kernel)) rfl dX0_agree_6 ?_
  refine lv_iconst (v := 0) hx hb dX0_agree_9 (by decide) ?_
  refine lv_aload_n hx hb dX0_agree_10 rfl (lv_at hl 1 rfl) ?_
  refine gF (k := 0) hc hw inX0 rfl 0 rfl (by decide) (gm 396 (by decide +kernel) rfl) rfl dX0_agree_11 ?_
  refine lv_iconst (v := 0) hx hb dX0_agree_14 (by decide) ?_
  refine lv_bipush (v := 10) hx hb dX0_agree_15 (by decide) ?_
  refine cpI hc hw (gm 976 (by decide +kernel) rfl) hl.1 4 1 rfl rfl (k := 10) (by decide) (by decide) (by decide) (by decide) (Nat.le_of_ble_eq_true rfl) (Nat.le_of_ble_eq_true rfl) (Nat.le_of_ble_eq_true rfl) (Nat.le_of_ble_eq_true rfl) dX0_agree_17 (fun H locs hw => ?_)
  obtain ⟨S1, e_S1⟩ : ∃ z : Ob, z = uR SDt 0 (va_cpy (SB.2 0) (SDt.2 0) 0 0 10) := ⟨_, rfl⟩
  have hm := hm S1 e_S1
  have hw : wV D A s.heap ((dW cy aDt S1) ++ ((bW cy aB e_B_laws e_B_told (ame 0) e_B_claims SB) ++ (tW cy ame Sme))) H locs := by rw [e_S1]; exact hw
  refine lv_iconst (v := 1) hx hb dX0_agree_20 (by decide) ?_
  refine lv_istore (lv' := [(4, .int 1), (3, .ref (ame 0)), (0, .ref (aDt 0)), (1, .ref (aB 0)), (2, .int x2)]) hx hb dX0_agree_21 hl (by decide) rfl (fun ls hl => ?_)
  refine lv_iconst (v := 0) hx hb dX0_agree_23 (by decide) ?_
  refine lv_istore (lv' := [(5, .int 0), (4, .int 1), (3, .ref (ame 0)), (0, .ref (aDt 0)), (1, .ref (aB 0)), (2, .int x2)]) hx hb dX0_agree_24 hl (by decide) rfl (fun ls hl => ?_)
  refine wl3_ind (G := fun (x5_2 : Int32) (x4_3 : Int32) (S4 : Ob) => ∀ (H : Heap) (locs : List Loc) (ls : Array Slot), wV D A s.heap ((dW cy aDt S4) ++ ((bW cy aB e_B_laws e_B_told (ame 0) e_B_claims SB) ++ (tW cy ame Sme))) H locs → lv_has ls 9 [(5, .int x5_2), (4, .int x4_3), (3, .ref (ame 0)), (0, .ref (aDt 0)), (1, .ref (aB 0)), (2, .int x2)] → W p l e (rmN 2) s m args below meth c H locs 0 0 (MQ below (eI D cy A (fun u : Ob => ((dW cy aDt u) ++ ((bW cy aB e_B_laws e_B_told (ame 0) e_B_claims SB) ++ (tW cy ame Sme)))) Q) args s (rmN 2).cells (rmN 2).slots A) (F0 m 26 ls [])) ?_ _ _ _ hm H locs ls hw (lv_sub hl [0, 1, 2, 3, 4, 5] rfl)
  intro L5 ih5 x5_2 x4_3 S4 hm H locs ls hw hl
  refine lv_iload hx hb dX0_agree_26 (lv_at hl 0 rfl) ?_
  refine lv_aload_n hx hb dX0_agree_28 rfl (lv_at hl 4 rfl) ?_
  refine gN (k := 4) (host := "OlderTale") hc hw inX6 rfl 3 rfl (by decide) (nmm 213 (by decide +kernel)) rfl dX0_agree_29 ?_
  obtain ⟨J7, eJ7, hm⟩ := jn_e hm
  have hJ7 : ∀ (z6 : Unit) (_ : J7 z6) (H : Heap) (locs : List Loc) (ls : Array Slot), wV D A s.heap ((dW cy aDt S4) ++ ((bW cy aB e_B_laws e_B_told (ame 0) e_B_claims SB) ++ (tW cy ame Sme))) H locs → lv_has ls 9 [(4, .int x4_3)] → W p l e (rmN 2) s m args below meth c H locs 0 0 (MQ below (eI D cy A (fun u : Ob => ((dW cy aDt u) ++ ((bW cy aB e_B_laws e_B_told (ame 0) e_B_claims SB) ++ (tW cy ame Sme)))) Q) args s (rmN 2).cells (rmN 2).slots A) (F0 m 145 ls []) := by
    intro z6 hm H locs ls hw hl
    rw [eJ7] at hm
    refine lv_iload hx hb dX0_agree_145 (lv_at hl 0 rfl) ?_
    refine lv_if_ne (tgt := 154) hx hb dX0_agree_147 (by decide) (fun c8 => ?_) (fun c8 => ?_)
    · have hm := hm.1 c8
      refine lv_iconst (v := 0) hx hb dX0_agree_154 (by decide) ?_
      exact retZ (u := S4) hc hw rfl hm dX0_agree_155
    · have hm := hm.2 c8
      refine lv_iconst (v := 1) hx hb dX0_agree_150 (by decide) ?_
      refine lv_goto (tgt := 155) hx hb dX0_agree_151 (by decide) ?_
      exact retZ (u := S4) hc hw rfl hm dX0_agree_155
  refine lv_icmp_gt (tgt := 145) hx hb dX0_agree_32 (by decide) (fun c32 => ?_) (fun c32 => ?_)
  · have hm := hm.1 c32
    exact hJ7 _ hm _ _ _ hw (lv_sub hl [1] rfl)
  · have hm := hm.2 c32
    refine lv_iload hx hb dX0_agree_35 (lv_at hl 1 rfl) ?_
    refine lv_if_eq (tgt := 145) hx hb dX0_agree_37 (by decide) (fun c31 => ?_) (fun c31 => ?_)
    · have hm := hm.1 c31
      exact hJ7 _ hm _ _ _ hw (lv_sub hl [1] rfl)
    · have hm := hm.2 c31
      refine lv_iconst (v := 0) hx hb dX0_agree_40 (by decide) ?_
      refine lv_istore (lv' := [(4, .int 0), (5, .int x5_2), (3, .ref (ame 0)), (0, .ref (aDt 0)), (1, .ref (aB 0)), (2, .int x2)]) hx hb dX0_agree_41 hl (by decide) rfl (fun ls hl => ?_)
      refine lv_iconst (v := 0) hx hb dX0_agree_43 (by decide) ?_
      refine lv_istore (lv' := [(6, .int 0), (4, .int 0), (5, .int x5_2), (3, .ref (ame 0)), (0, .ref (aDt 0)), (1, .ref (aB 0)), (2, .int x2)]) hx hb dX0_agree_44 hl (by decide) rfl (fun ls hl => ?_)
      refine wl3_ind (G := fun (x6_9 : Int32) (x4_10 : Int32) (S11 : Ob) => ∀ (H : Heap) (locs : List Loc) (ls : Array Slot), wV D A s.heap ((dW cy aDt S11) ++ ((bW cy aB e_B_laws e_B_told (ame 0) e_B_claims SB) ++ (tW cy ame Sme))) H locs → lv_has ls 9 [(6, .int x6_9), (4, .int x4_10), (5, .int x5_2), (3, .ref (ame 0)), (0, .ref (aDt 0)), (1, .ref (aB 0)), (2, .int x2)] → W p l e (rmN 2) s m args below meth c H locs 0 0 (MQ below (eI D cy A (fun u : Ob => ((dW cy aDt u) ++ ((bW cy aB e_B_laws e_B_told (ame 0) e_B_claims SB) ++ (tW cy ame Sme)))) Q) args s (rmN 2).cells (rmN 2).slots A) (F0 m 46 ls [])) ?_ _ _ _ hm H locs ls hw (lv_sub hl [0, 1, 2, 3, 4, 5, 6] rfl)
      intro L12 ih12 x6_9 x4_10 S11 hm H locs ls hw hl
      refine lv_iload hx hb dX0_agree_46 (lv_at hl 0 rfl) ?_
      refine lv_aload_n hx hb dX0_agree_48 rfl (lv_at hl 3 rfl) ?_
      refine gN (k := 3) (host := "OlderTale") hc hw inX7 rfl 9 rfl (by decide) (nmm 180 (by decide +kernel)) rfl dX0_agree_49 ?_
      refine lv_icmp_ge (tgt := 139) hx hb dX0_agree_52 (by decide) (fun c30 => ?_) (fun c30 => ?_)
      · have hm := hm.1 c30
        obtain ⟨v13, e_v13⟩ : ∃ z : Int32, z = x5_2 + 1 := ⟨_, rfl⟩
        have hm := hm v13 e_v13
        refine lv_iinc (v := v13) (lv' := [(5, .int v13), (6, .int x6_9), (4, .int x4_10), (3, .ref (ame 0)), (0, .ref (aDt 0)), (1, .ref (aB 0)), (2, .int x2)]) hx hb dX0_agree_139 hl (k := 2) rfl (by rw [e_v13]; rfl) (by decide) rfl (fun ls hl => ?_)
        refine lv_goto (tgt := 26) hx hb dX0_agree_142 (by decide) ?_
        exact ih5 _ _ _ hm _ _ _ hw (lv_sub hl [0, 2, 3, 4, 5, 6] rfl)
      · have hm := hm.2 c30
        refine lv_aload_n hx hb dX0_agree_55 rfl (lv_at hl 3 rfl) ?_
        refine gN (k := 1) (host := "OlderTale") hc hw inX7 rfl 9 rfl (by decide) (nmm 172 (by decide +kernel)) rfl dX0_agree_56 ?_
        refine lv_iload hx hb dX0_agree_59 (lv_at hl 0 rfl) ?_
        obtain ⟨c14, hm⟩ := hm
        refine aI hc hw 11 rfl c14 rfl dX0_agree_61 ?_
        refine lv_topi (fun v15 e_v15 => ?_)
        have hm := hm v15 e_v15
        refine lv_istore (lv' := [(7, .int v15), (6, .int x6_9), (4, .int x4_10), (5, .int x5_2), (3, .ref (ame 0)), (0, .ref (aDt 0)), (1, .ref (aB 0)), (2, .int x2)]) hx hb dX0_agree_62 hl (by decide) rfl (fun ls hl => ?_)
        refine lv_aload_n hx hb dX0_agree_64 rfl (lv_at hl 5 rfl) ?_
        refine gF (k := 0) hc hw inX0 rfl 0 rfl (by decide) (gm 396 (by decide +kernel) rfl) rfl dX0_agree_65 ?_
        refine lv_aload_n hx hb dX0_agree_68 rfl (lv_at hl 4 rfl) ?_
        refine gN (k := 0) (host := "OlderTale") hc hw inX7 rfl 9 rfl (by decide) (nmm 168 (by decide +kernel)) rfl dX0_agree_69 ?_
        refine lv_iload hx hb dX0_agree_72 (lv_at hl 1 rfl) ?_
        obtain ⟨c16, hm⟩ := hm
        refine aI hc hw 10 rfl c16 rfl dX0_agree_74 ?_
        obtain ⟨c17, hm⟩ := hm
        refine aI hc hw 1 rfl c17 rfl dX0_agree_75 ?_
        refine lv_aload_n hx hb dX0_agree_76 rfl (lv_at hl 4 rfl) ?_
        refine gN (k := 2) (host := "OlderTale") hc hw inX7 rfl 9 rfl (by decide) (nmm 176 (by decide +kernel)) rfl dX0_agree_77 ?_
        refine lv_iload hx hb dX0_agree_80 (lv_at hl 1 rfl) ?_
        obtain ⟨c18, hm⟩ := hm
        refine aI hc hw 12 rfl c18 rfl dX0_agree_82 ?_
        refine lv_iadd hx hb dX0_agree_83 ?_
        refine lv_topi (fun v19 e_v19 => ?_)
        have hm := hm v19 e_v19
        refine lv_istore (lv' := [(8, .int v19), (7, .int v15), (6, .int x6_9), (4, .int x4_10), (5, .int x5_2), (3, .ref (ame 0)), (0, .ref (aDt 0)), (1, .ref (aB 0)), (2, .int x2)]) hx hb dX0_agree_84 hl (by decide) rfl (fun ls hl => ?_)
        refine lv_iload_n hx hb dX0_agree_86 rfl (lv_at hl 8 rfl) ?_
        refine lv_iload hx hb dX0_agree_87 (lv_at hl 2 rfl) ?_
        refine lv_ishr hx hb dX0_agree_89 ?_
        refine lv_iconst (v := 1) hx hb dX0_agree_90 (by decide) ?_
        refine lv_iand hx hb dX0_agree_91 ?_
        refine lv_if_eq (tgt := 133) hx hb dX0_agree_92 (by decide) (fun c29 => ?_) (fun c29 => ?_)
        · have hm := hm.1 c29
          obtain ⟨v20, e_v20⟩ : ∃ z : Int32, z = x6_9 + 1 := ⟨_, rfl⟩
          have hm := hm v20 e_v20
          refine lv_iinc (v := v20) (lv' := [(6, .int v20), (8, .int v19), (7, .int v15), (4, .int x4_10), (5, .int x5_2), (3, .ref (ame 0)), (0, .ref (aDt 0)), (1, .ref (aB 0)), (2, .int x2)]) hx hb dX0_agree_133 hl (k := 2) rfl (by rw [e_v20]; rfl) (by decide) rfl (fun ls hl => ?_)
          refine lv_goto (tgt := 46) hx hb dX0_agree_136 (by decide) ?_
          exact ih12 _ _ _ hm _ _ _ hw (lv_sub hl [0, 3, 4, 5, 6, 7, 8] rfl)
        · have hm := hm.2 c29
          refine lv_iload hx hb dX0_agree_95 (lv_at hl 0 rfl) ?_
          refine lv_aload_n hx hb dX0_agree_97 rfl (lv_at hl 6 rfl) ?_
          refine gF (k := 0) hc hw inX0 rfl 0 rfl (by decide) (gm 396 (by decide +kernel) rfl) rfl dX0_agree_98 ?_
          refine lv_iload hx hb dX0_agree_101 (lv_at hl 1 rfl) ?_
          obtain ⟨c21, hm⟩ := hm
          refine aI hc hw 1 rfl c21 rfl dX0_agree_103 ?_
          refine lv_icmp_le (tgt := 133) hx hb dX0_agree_104 (by decide) (fun c28 => ?_) (fun c28 => ?_)
          · have hm := hm.1 c28
            obtain ⟨v22, e_v22⟩ : ∃ z : Int32, z = x6_9 + 1 := ⟨_, rfl⟩
            have hm := hm v22 e_v22
            refine lv_iinc (v := v22) (lv' := [(6, .int v22), (8, .int v19), (7, .int v15), (4, .int x4_10), (5, .int x5_2), (3, .ref (ame 0)), (0, .ref (aDt 0)), (1, .ref (aB 0)), (2, .int x2)]) hx hb dX0_agree_133 hl (k := 2) rfl (by rw [e_v22]; rfl) (by decide) rfl (fun ls hl => ?_)
            refine lv_goto (tgt := 46) hx hb dX0_agree_136 (by decide) ?_
            exact ih12 _ _ _ hm _ _ _ hw (lv_sub hl [0, 3, 4, 5, 6, 7, 8] rfl)
          · have hm := hm.2 c28
            refine lv_iload hx hb dX0_agree_107 (lv_at hl 0 rfl) ?_
            refine lv_aload_n hx hb dX0_agree_109 rfl (lv_at hl 7 rfl) ?_
            refine gN (k := 1) (host := "OlderTale") hc hw inX6 rfl 3 rfl (by decide) (nmm 201 (by decide +kernel)) rfl dX0_agree_110 ?_
            refine lv_iload hx hb dX0_agree_113 (lv_at hl 1 rfl) ?_
            obtain ⟨c23, hm⟩ := hm
            refine aI hc hw 5 rfl c23 rfl dX0_agree_115 ?_
            refine lv_icmp_le (tgt := 121) hx hb dX0_agree_116 (by decide) (fun c27 => ?_) (fun c27 => ?_)
            · have hm := hm.1 c27
              refine lv_aload_n hx hb dX0_agree_121 rfl (lv_at hl 6 rfl) ?_
              refine gF (k := 0) hc hw inX0 rfl 0 rfl (by decide) (gm 396 (by decide +kernel) rfl) rfl dX0_agree_122 ?_
              refine lv_iload hx hb dX0_agree_125 (lv_at hl 1 rfl) ?_
              refine lv_iload hx hb dX0_agree_127 (lv_at hl 0 rfl) ?_
              obtain ⟨c24, hm⟩ := hm
              refine sI hc hw 1 rfl c24 rfl dX0_agree_129 (fun H locs hw => ?_)
              obtain ⟨S25, e_S25⟩ : ∃ z : Ob, z = uA S11 0 (Int32.toNatClampNeg v15) v19 := ⟨_, rfl⟩
              have hm := hm S25 e_S25
              have hw : wV D A s.heap ((dW cy aDt S25) ++ ((bW cy aB e_B_laws e_B_told (ame 0) e_B_claims SB) ++ (tW cy ame Sme))) H locs := by rw [e_S25]; exact hw
              refine lv_iconst (v := 1) hx hb dX0_agree_130 (by decide) ?_
              refine lv_istore (lv' := [(4, .int 1), (8, .int v19), (7, .int v15), (6, .int x6_9), (5, .int x5_2), (3, .ref (ame 0)), (0, .ref (aDt 0)), (1, .ref (aB 0)), (2, .int x2)]) hx hb dX0_agree_131 hl (by decide) rfl (fun ls hl => ?_)
              obtain ⟨v26, e_v26⟩ : ∃ z : Int32, z = x6_9 + 1 := ⟨_, rfl⟩
              have hm := hm v26 e_v26
              refine lv_iinc (v := v26) (lv' := [(6, .int v26), (4, .int 1), (8, .int v19), (7, .int v15), (5, .int x5_2), (3, .ref (ame 0)), (0, .ref (aDt 0)), (1, .ref (aB 0)), (2, .int x2)]) hx hb dX0_agree_133 hl (k := 3) rfl (by rw [e_v26]; rfl) (by decide) rfl (fun ls hl => ?_)
              refine lv_goto (tgt := 46) hx hb dX0_agree_136 (by decide) ?_
              exact ih12 _ _ _ hm _ _ _ hw (lv_sub hl [0, 1, 4, 5, 6, 7, 8] rfl)
            · have hm := hm.2 c27
              refine lv_iconst (v := 0) hx hb dX0_agree_119 (by decide) ?_
              exact retZ (u := S11) hc hw rfl hm dX0_agree_120
set_option maxHeartbeats 4000000 in
set_option maxRecDepth 100000 in
theorem c_X0_reckonLate {l : Launch} {D : va_G} {cy : Nat → ClassId} {aDt : Nat → Nat} {aB : Nat → Nat} {ame : Nat → Nat} {e_B_laws : Nat} {e_B_told : Nat} {e_B_claims : Nat} {SDt : Ob} {SB : Ob} {Sme : Ob} {Q : Ob → Prop} (hm : w_X0_reckonLate SDt SB Sme Q) : CtV l yX0_reckonLate cX0_reckonLate 8 none (rmN 2) D cy [.ref (aDt 0), .ref (aB 0)] ((dW cy aDt SDt) ++ ((bW cy aB e_B_laws e_B_told (ame 0) e_B_claims SB) ++ (tW cy ame Sme))) (fun u : Ob => ((dW cy aDt u) ++ ((bW cy aB e_B_laws e_B_told (ame 0) e_B_claims SB) ++ (tW cy ame Sme)))) Q := by
  refine CtV.ofW (by decide) (Nat.le_of_ble_eq_true rfl) ?_
  intro p e s m args below meth c A ls hc hnm hw hl
  have hx := hc.1.1
  have hb := hc.1.2.1
  have hown := hc.1.2.2.2.1
  have hts := hc.1.2.2.2.2
  have hl : lv_has ls 8 [(0, .ref (aDt 0)), (1, .ref (aB 0))] := hl
  obtain ⟨H, hH⟩ : ∃ z, z = s.heap := ⟨_, rfl⟩
  obtain ⟨locs, hLc⟩ : ∃ z : List Loc, z = [] := ⟨_, rfl⟩
  have hw : wV D A s.heap ((dW cy aDt SDt) ++ ((bW cy aB e_B_laws e_B_told (ame 0) e_B_claims SB) ++ (tW cy ame Sme))) H locs := by rw [hH, hLc]; exact hw
  have hgo : W p l e (rmN 2) s m args below meth c H locs 0 0 (MQ below (eV D cy A (fun u : Ob => ((dW cy aDt u) ++ ((bW cy aB e_B_laws e_B_told (ame 0) e_B_claims SB) ++ (tW cy ame Sme)))) Q) args s (rmN 2).cells (rmN 2).slots A) (F0 m 0 ls []) := ?hgo
  · rw [hH, hLc] at hgo; exact hgo
  refine lv_aload_n hx hb dX0_reckonLate_0 rfl (lv_at hl 1 rfl) ?_
  refine gN (k := 10) (host := "OlderTale") hc hw inX6 rfl 3 rfl (by decide) (nmm 228 (by decide +kernel)) rfl dX0_reckonLate_1 ?_
  refine lv_astore_n (lv' := [(2, .ref (ame 0)), (0, .ref (aDt 0)), (1, .ref (aB 0))]) hx hb dX0_reckonLate_4 rfl hl (by decide) rfl (fun ls hl => ?_)
  refine lv_aload_n hx hb dX0_reckonLate_5 rfl (lv_at hl 2 rfl) ?_
  refine gN (k := 1) (host := "OlderTale") hc hw inX6 rfl 3 rfl (by decide) (nmm 201 (by decide +kernel)) rfl dX0_reckonLate_6 ?_
  refine lv_iconst (v := 0) hx hb dX0_reckonLate_9 (by decide) ?_
  refine lv_aload_n hx hb dX0_reckonLate_10 rfl (lv_at hl 1 rfl) ?_
  refine gF (k := 1) hc hw inX0 rfl 0 rfl (by decide) (gm 398 (by decide +kernel) rfl) rfl dX0_reckonLate_11 ?_
  refine lv_iconst (v := 0) hx hb dX0_reckonLate_14 (by decide) ?_
  refine lv_bipush (v := 10) hx hb dX0_reckonLate_15 (by decide) ?_
  refine cpI hc hw (gm 976 (by decide +kernel) rfl) hl.1 5 2 rfl rfl (k := 10) (by decide) (by decide) (by decide) (by decide) (Nat.le_of_ble_eq_true rfl) (Nat.le_of_ble_eq_true rfl) (Nat.le_of_ble_eq_true rfl) (Nat.le_of_ble_eq_true rfl) dX0_reckonLate_17 (fun H locs hw => ?_)
  obtain ⟨S1, e_S1⟩ : ∃ z : Ob, z = uR SDt 1 (va_cpy (SB.2 1) (SDt.2 1) 0 0 10) := ⟨_, rfl⟩
  have hm := hm S1 e_S1
  have hw : wV D A s.heap ((dW cy aDt S1) ++ ((bW cy aB e_B_laws e_B_told (ame 0) e_B_claims SB) ++ (tW cy ame Sme))) H locs := by rw [e_S1]; exact hw
  refine lv_iconst (v := 1) hx hb dX0_reckonLate_20 (by decide) ?_
  refine lv_istore_n (lv' := [(3, .int 1), (2, .ref (ame 0)), (0, .ref (aDt 0)), (1, .ref (aB 0))]) hx hb dX0_reckonLate_21 rfl hl (by decide) rfl (fun ls hl => ?_)
  refine lv_iconst (v := 0) hx hb dX0_reckonLate_22 (by decide) ?_
  refine lv_istore (lv' := [(4, .int 0), (3, .int 1), (2, .ref (ame 0)), (0, .ref (aDt 0)), (1, .ref (aB 0))]) hx hb dX0_reckonLate_23 hl (by decide) rfl (fun ls hl => ?_)
  refine wl3_ind (G := fun (x4_2 : Int32) (x3_3 : Int32) (S4 : Ob) => ∀ (H : Heap) (locs : List Loc) (ls : Array Slot), wV D A s.heap ((dW cy aDt S4) ++ ((bW cy aB e_B_laws e_B_told (ame 0) e_B_claims SB) ++ (tW cy ame Sme))) H locs → lv_has ls 8 [(4, .int x4_2), (3, .int x3_3), (2, .ref (ame 0)), (0, .ref (aDt 0)), (1, .ref (aB 0))] → W p l e (rmN 2) s m args below meth c H locs 0 0 (MQ below (eV D cy A (fun u : Ob => ((dW cy aDt u) ++ ((bW cy aB e_B_laws e_B_told (ame 0) e_B_claims SB) ++ (tW cy ame Sme)))) Q) args s (rmN 2).cells (rmN 2).slots A) (F0 m 25 ls [])) ?_ _ _ _ hm H locs ls hw (lv_sub hl [0, 1, 2, 3, 4] rfl)
  intro L5 ih5 x4_2 x3_3 S4 hm H locs ls hw hl
  refine lv_iload hx hb dX0_reckonLate_25 (lv_at hl 0 rfl) ?_
  refine lv_aload_n hx hb dX0_reckonLate_27 rfl (lv_at hl 4 rfl) ?_
  refine gN (k := 4) (host := "OlderTale") hc hw inX6 rfl 3 rfl (by decide) (nmm 213 (by decide +kernel)) rfl dX0_reckonLate_28 ?_
  refine lv_icmp_gt (tgt := 118) hx hb dX0_reckonLate_31 (by decide) (fun c25 => ?_) (fun c25 => ?_)
  · have hm := hm.1 c25
    exact retV (u := S4) hc hw hm dX0_reckonLate_118
  · have hm := hm.2 c25
    refine lv_iload_n hx hb dX0_reckonLate_34 rfl (lv_at hl 1 rfl) ?_
    refine lv_if_eq (tgt := 118) hx hb dX0_reckonLate_35 (by decide) (fun c24 => ?_) (fun c24 => ?_)
    · have hm := hm.1 c24
      exact retV (u := S4) hc hw hm dX0_reckonLate_118
    · have hm := hm.2 c24
      refine lv_iconst (v := 0) hx hb dX0_reckonLate_38 (by decide) ?_
      refine lv_istore_n (lv' := [(3, .int 0), (4, .int x4_2), (2, .ref (ame 0)), (0, .ref (aDt 0)), (1, .ref (aB 0))]) hx hb dX0_reckonLate_39 rfl hl (by decide) rfl (fun ls hl => ?_)
      refine lv_iconst (v := 0) hx hb dX0_reckonLate_40 (by decide) ?_
      refine lv_istore (lv' := [(5, .int 0), (3, .int 0), (4, .int x4_2), (2, .ref (ame 0)), (0, .ref (aDt 0)), (1, .ref (aB 0))]) hx hb dX0_reckonLate_41 hl (by decide) rfl (fun ls hl => ?_)
      refine wl3_ind (G := fun (x5_6 : Int32) (x3_7 : Int32) (S8 : Ob) => ∀ (H : Heap) (locs : List Loc) (ls : Array Slot), wV D A s.heap ((dW cy aDt S8) ++ ((bW cy aB e_B_laws e_B_told (ame 0) e_B_claims SB) ++ (tW cy ame Sme))) H locs → lv_has ls 8 [(5, .int x5_6), (3, .int x3_7), (4, .int x4_2), (2, .ref (ame 0)), (0, .ref (aDt 0)), (1, .ref (aB 0))] → W p l e (rmN 2) s m args below meth c H locs 0 0 (MQ below (eV D cy A (fun u : Ob => ((dW cy aDt u) ++ ((bW cy aB e_B_laws e_B_told (ame 0) e_B_claims SB) ++ (tW cy ame Sme)))) Q) args s (rmN 2).cells (rmN 2).slots A) (F0 m 43 ls [])) ?_ _ _ _ hm H locs ls hw (lv_sub hl [0, 1, 2, 3, 4, 5] rfl)
      intro L9 ih9 x5_6 x3_7 S8 hm H locs ls hw hl
      refine lv_iload hx hb dX0_reckonLate_43 (lv_at hl 0 rfl) ?_
      refine lv_aload_n hx hb dX0_reckonLate_45 rfl (lv_at hl 3 rfl) ?_
      refine gN (k := 3) (host := "OlderTale") hc hw inX7 rfl 9 rfl (by decide) (nmm 180 (by decide +kernel)) rfl dX0_reckonLate_46 ?_
      refine lv_icmp_ge (tgt := 112) hx hb dX0_reckonLate_49 (by decide) (fun c23 => ?_) (fun c23 => ?_)
      · have hm := hm.1 c23
        obtain ⟨v10, e_v10⟩ : ∃ z : Int32, z = x4_2 + 1 := ⟨_, rfl⟩
        have hm := hm v10 e_v10
        refine lv_iinc (v := v10) (lv' := [(4, .int v10), (5, .int x5_6), (3, .int x3_7), (2, .ref (ame 0)), (0, .ref (aDt 0)), (1, .ref (aB 0))]) hx hb dX0_reckonLate_112 hl (k := 2) rfl (by rw [e_v10]; rfl) (by decide) rfl (fun ls hl => ?_)
        refine lv_goto (tgt := 25) hx hb dX0_reckonLate_115 (by decide) ?_
        exact ih5 _ _ _ hm _ _ _ hw (lv_sub hl [0, 2, 3, 4, 5] rfl)
      · have hm := hm.2 c23
        refine lv_aload_n hx hb dX0_reckonLate_52 rfl (lv_at hl 3 rfl) ?_
        refine gN (k := 0) (host := "OlderTale") hc hw inX7 rfl 9 rfl (by decide) (nmm 168 (by decide +kernel)) rfl dX0_reckonLate_53 ?_
        refine lv_iload hx hb dX0_reckonLate_56 (lv_at hl 0 rfl) ?_
        obtain ⟨c11, hm⟩ := hm
        refine aI hc hw 10 rfl c11 rfl dX0_reckonLate_58 ?_
        refine lv_topi (fun v12 e_v12 => ?_)
        have hm := hm v12 e_v12
        refine lv_istore (lv' := [(6, .int v12), (5, .int x5_6), (3, .int x3_7), (4, .int x4_2), (2, .ref (ame 0)), (0, .ref (aDt 0)), (1, .ref (aB 0))]) hx hb dX0_reckonLate_59 hl (by decide) rfl (fun ls hl => ?_)
        refine lv_aload_n hx hb dX0_reckonLate_61 rfl (lv_at hl 5 rfl) ?_
        refine gF (k := 1) hc hw inX0 rfl 0 rfl (by decide) (gm 398 (by decide +kernel) rfl) rfl dX0_reckonLate_62 ?_
        refine lv_aload_n hx hb dX0_reckonLate_65 rfl (lv_at hl 4 rfl) ?_
        refine gN (k := 1) (host := "OlderTale") hc hw inX7 rfl 9 rfl (by decide) (nmm 172 (by decide +kernel)) rfl dX0_reckonLate_66 ?_
        refine lv_iload hx hb dX0_reckonLate_69 (lv_at hl 1 rfl) ?_
        obtain ⟨c13, hm⟩ := hm
        refine aI hc hw 11 rfl c13 rfl dX0_reckonLate_71 ?_
        obtain ⟨c14, hm⟩ := hm
        refine aI hc hw 2 rfl c14 rfl dX0_reckonLate_72 ?_
        refine lv_aload_n hx hb dX0_reckonLate_73 rfl (lv_at hl 4 rfl) ?_
        refine gN (k := 2) (host := "OlderTale") hc hw inX7 rfl 9 rfl (by decide) (nmm 176 (by decide +kernel)) rfl dX0_reckonLate_74 ?_
        refine lv_iload hx hb dX0_reckonLate_77 (lv_at hl 1 rfl) ?_
        obtain ⟨c15, hm⟩ := hm
        refine aI hc hw 12 rfl c15 rfl dX0_reckonLate_79 ?_
        refine lv_isub hx hb dX0_reckonLate_80 ?_
        refine lv_topi (fun v16 e_v16 => ?_)
        have hm := hm v16 e_v16
        refine lv_istore (lv' := [(7, .int v16), (6, .int v12), (5, .int x5_6), (3, .int x3_7), (4, .int x4_2), (2, .ref (ame 0)), (0, .ref (aDt 0)), (1, .ref (aB 0))]) hx hb dX0_reckonLate_81 hl (by decide) rfl (fun ls hl => ?_)
        refine lv_iload hx hb dX0_reckonLate_83 (lv_at hl 0 rfl) ?_
        refine lv_aload_n hx hb dX0_reckonLate_85 rfl (lv_at hl 6 rfl) ?_
        refine gF (k := 1) hc hw inX0 rfl 0 rfl (by decide) (gm 398 (by decide +kernel) rfl) rfl dX0_reckonLate_86 ?_
        refine lv_iload hx hb dX0_reckonLate_89 (lv_at hl 1 rfl) ?_
        obtain ⟨c17, hm⟩ := hm
        refine aI hc hw 2 rfl c17 rfl dX0_reckonLate_91 ?_
        refine lv_icmp_ge (tgt := 106) hx hb dX0_reckonLate_92 (by decide) (fun c22 => ?_) (fun c22 => ?_)
        · have hm := hm.1 c22
          obtain ⟨v18, e_v18⟩ : ∃ z : Int32, z = x5_6 + 1 := ⟨_, rfl⟩
          have hm := hm v18 e_v18
          refine lv_iinc (v := v18) (lv' := [(5, .int v18), (7, .int v16), (6, .int v12), (3, .int x3_7), (4, .int x4_2), (2, .ref (ame 0)), (0, .ref (aDt 0)), (1, .ref (aB 0))]) hx hb dX0_reckonLate_106 hl (k := 2) rfl (by rw [e_v18]; rfl) (by decide) rfl (fun ls hl => ?_)
          refine lv_goto (tgt := 43) hx hb dX0_reckonLate_109 (by decide) ?_
          exact ih9 _ _ _ hm _ _ _ hw (lv_sub hl [0, 3, 4, 5, 6, 7] rfl)
        · have hm := hm.2 c22
          refine lv_aload_n hx hb dX0_reckonLate_95 rfl (lv_at hl 6 rfl) ?_
          refine gF (k := 1) hc hw inX0 rfl 0 rfl (by decide) (gm 398 (by decide +kernel) rfl) rfl dX0_reckonLate_96 ?_
          refine lv_iload hx hb dX0_reckonLate_99 (lv_at hl 1 rfl) ?_
          refine lv_iload hx hb dX0_reckonLate_101 (lv_at hl 0 rfl) ?_
          obtain ⟨c19, hm⟩ := hm
          refine sI hc hw 2 rfl c19 rfl dX0_reckonLate_103 (fun H locs hw => ?_)
          obtain ⟨S20, e_S20⟩ : ∃ z : Ob, z = uA S8 1 (Int32.toNatClampNeg v12) v16 := ⟨_, rfl⟩
          have hm := hm S20 e_S20
          have hw : wV D A s.heap ((dW cy aDt S20) ++ ((bW cy aB e_B_laws e_B_told (ame 0) e_B_claims SB) ++ (tW cy ame Sme))) H locs := by rw [e_S20]; exact hw
          refine lv_iconst (v := 1) hx hb dX0_reckonLate_104 (by decide) ?_
          refine lv_istore_n (lv' := [(3, .int 1), (7, .int v16), (6, .int v12), (5, .int x5_6), (4, .int x4_2), (2, .ref (ame 0)), (0, .ref (aDt 0)), (1, .ref (aB 0))]) hx hb dX0_reckonLate_105 rfl hl (by decide) rfl (fun ls hl => ?_)
          obtain ⟨v21, e_v21⟩ : ∃ z : Int32, z = x5_6 + 1 := ⟨_, rfl⟩
          have hm := hm v21 e_v21
          refine lv_iinc (v := v21) (lv' := [(5, .int v21), (3, .int 1), (7, .int v16), (6, .int v12), (4, .int x4_2), (2, .ref (ame 0)), (0, .ref (aDt 0)), (1, .ref (aB 0))]) hx hb dX0_reckonLate_106 hl (k := 3) rfl (by rw [e_v21]; rfl) (by decide) rfl (fun ls hl => ?_)
          refine lv_goto (tgt := 43) hx hb dX0_reckonLate_109 (by decide) ?_
          exact ih9 _ _ _ hm _ _ _ hw (lv_sub hl [0, 1, 4, 5, 6, 7] rfl)
set_option maxHeartbeats 4000000 in
set_option maxRecDepth 100000 in
theorem c_X0_leaveOut {l : Launch} {D : va_G} {cy : Nat → ClassId} {aDt : Nat → Nat} {aB : Nat → Nat} {ame : Nat → Nat} {e_B_laws : Nat} {e_B_told : Nat} {e_B_claims : Nat} {SDt : Ob} {SB : Ob} {Sme : Ob} {Q : Ob → Prop} (hm : w_X0_leaveOut SDt SB Sme Q) : CtV l yX0_leaveOut cX0_leaveOut 6 none (rmN 3) D cy [.ref (aDt 0), .ref (aB 0)] ((dW cy aDt SDt) ++ ((bW cy aB e_B_laws e_B_told (ame 0) e_B_claims SB) ++ (tW cy ame Sme))) (fun u : Ob => ((dW cy aDt u) ++ ((bW cy aB e_B_laws e_B_told (ame 0) e_B_claims SB) ++ (tW cy ame Sme)))) Q := by
  refine CtV.ofW (by decide) (Nat.le_of_ble_eq_true rfl) ?_
  intro p e s m args below meth c A ls hc hnm hw hl
  have hx := hc.1.1
  have hb := hc.1.2.1
  have hown := hc.1.2.2.2.1
  have hts := hc.1.2.2.2.2
  have hl : lv_has ls 6 [(0, .ref (aDt 0)), (1, .ref (aB 0))] := hl
  obtain ⟨H, hH⟩ : ∃ z, z = s.heap := ⟨_, rfl⟩
  obtain ⟨locs, hLc⟩ : ∃ z : List Loc, z = [] := ⟨_, rfl⟩
  have hw : wV D A s.heap ((dW cy aDt SDt) ++ ((bW cy aB e_B_laws e_B_told (ame 0) e_B_claims SB) ++ (tW cy ame Sme))) H locs := by rw [hH, hLc]; exact hw
  have hgo : W p l e (rmN 3) s m args below meth c H locs 0 0 (MQ below (eV D cy A (fun u : Ob => ((dW cy aDt u) ++ ((bW cy aB e_B_laws e_B_told (ame 0) e_B_claims SB) ++ (tW cy ame Sme)))) Q) args s (rmN 3).cells (rmN 3).slots A) (F0 m 0 ls []) := ?hgo
  · rw [hH, hLc] at hgo; exact hgo
  refine lv_iconst (v := 1) hx hb dX0_leaveOut_0 (by decide) ?_
  refine lv_aload_n hx hb dX0_leaveOut_1 rfl (lv_at hl 1 rfl) ?_
  refine gN (k := 10) (host := "OlderTale") hc hw inX6 rfl 3 rfl (by decide) (nmm 228 (by decide +kernel)) rfl dX0_leaveOut_2 ?_
  refine gN (k := 3) (host := "OlderTale") hc hw inX7 rfl 9 rfl (by decide) (nmm 180 (by decide +kernel)) rfl dX0_leaveOut_5 ?_
  refine lv_ishl hx hb dX0_leaveOut_8 ?_
  refine lv_iconst (v := 1) hx hb dX0_leaveOut_9 (by decide) ?_
  refine lv_isub hx hb dX0_leaveOut_10 ?_
  refine lv_topi (fun v1 e_v1 => ?_)
  have hm := hm v1 e_v1
  refine lv_istore_n (lv' := [(2, .int v1), (0, .ref (aDt 0)), (1, .ref (aB 0))]) hx hb dX0_leaveOut_11 rfl hl (by decide) rfl (fun ls hl => ?_)
  refine lv_bipush (v := 11) hx hb dX0_leaveOut_12 (by decide) ?_
  refine lv_istore_n (lv' := [(3, .int 11), (2, .int v1), (0, .ref (aDt 0)), (1, .ref (aB 0))]) hx hb dX0_leaveOut_14 rfl hl (by decide) rfl (fun ls hl => ?_)
  refine lv_iconst (v := 0) hx hb dX0_leaveOut_15 (by decide) ?_
  refine lv_istore (lv' := [(4, .int 0), (3, .int 11), (2, .int v1), (0, .ref (aDt 0)), (1, .ref (aB 0))]) hx hb dX0_leaveOut_16 hl (by decide) rfl (fun ls hl => ?_)
  refine wl3_ind (G := fun (x4_2 : Int32) (x3_3 : Int32) (S4 : Ob) => ∀ (H : Heap) (locs : List Loc) (ls : Array Slot), wV D A s.heap ((dW cy aDt S4) ++ ((bW cy aB e_B_laws e_B_told (ame 0) e_B_claims SB) ++ (tW cy ame Sme))) H locs → lv_has ls 6 [(4, .int x4_2), (3, .int x3_3), (2, .int v1), (0, .ref (aDt 0)), (1, .ref (aB 0))] → W p l e (rmN 3) s m args below meth c H locs 0 0 (MQ below (eV D cy A (fun u : Ob => ((dW cy aDt u) ++ ((bW cy aB e_B_laws e_B_told (ame 0) e_B_claims SB) ++ (tW cy ame Sme)))) Q) args s (rmN 3).cells (rmN 3).slots A) (F0 m 18 ls [])) ?_ _ _ _ hm H locs ls hw (lv_sub hl [0, 1, 2, 3, 4] rfl)
  intro L5 ih5 x4_2 x3_3 S4 hm H locs ls hw hl
  refine lv_iload hx hb dX0_leaveOut_18 (lv_at hl 0 rfl) ?_
  refine lv_iload_n hx hb dX0_leaveOut_20 rfl (lv_at hl 2 rfl) ?_
  refine lv_icmp_gt (tgt := 93) hx hb dX0_leaveOut_21 (by decide) (fun c21 => ?_) (fun c21 => ?_)
  · have hm := hm.1 c21
    exact retV (u := S4) hc hw hm dX0_leaveOut_93
  · have hm := hm.2 c21
    refine lv_iload hx hb dX0_leaveOut_24 (lv_at hl 0 rfl) ?_
    refine zS_I (As := [.int x4_2]) (rest := []) hc hw (c_J6_bitCount_0f7a4 hm) lk_X0_60 ⟨Nat.le_of_ble_eq_true rfl, Nat.le_of_ble_eq_true rfl⟩ ⟨Nat.le_of_ble_eq_true rfl, Nat.le_of_ble_eq_true rfl⟩ hl.1 rfl (Nat.le_of_ble_eq_true rfl) rfl dX0_leaveOut_26 (fun r6 H locs hm hw => ?_)
    refine lv_istore (lv' := [(5, .int r6), (4, .int x4_2), (3, .int x3_3), (2, .int v1), (0, .ref (aDt 0)), (1, .ref (aB 0))]) hx hb dX0_leaveOut_29 hl (by decide) rfl (fun ls hl => ?_)
    refine lv_iload hx hb dX0_leaveOut_31 (lv_at hl 0 rfl) ?_
    refine lv_iload_n hx hb dX0_leaveOut_33 rfl (lv_at hl 2 rfl) ?_
    refine lv_icmp_gt (tgt := 87) hx hb dX0_leaveOut_34 (by decide) (fun c20 => ?_) (fun c20 => ?_)
    · have hm := hm.1 c20
      obtain ⟨v8, e_v8⟩ : ∃ z : Int32, z = x4_2 + 1 := ⟨_, rfl⟩
      have hm := hm v8 e_v8
      refine lv_iinc (v := v8) (lv' := [(4, .int v8), (5, .int r6), (3, .int x3_3), (2, .int v1), (0, .ref (aDt 0)), (1, .ref (aB 0))]) hx hb dX0_leaveOut_87 hl (k := 1) rfl (by rw [e_v8]; rfl) (by decide) rfl (fun ls hl => ?_)
      refine lv_goto (tgt := 18) hx hb dX0_leaveOut_90 (by decide) ?_
      exact ih5 _ _ _ hm _ _ _ hw (lv_sub hl [0, 2, 3, 4, 5] rfl)
    · have hm := hm.2 c20
      refine lv_aload_n hx hb dX0_leaveOut_37 rfl (lv_at hl 4 rfl) ?_
      refine lv_aload_n hx hb dX0_leaveOut_38 rfl (lv_at hl 5 rfl) ?_
      refine lv_iload_n hx hb dX0_leaveOut_39 rfl (lv_at hl 3 rfl) ?_
      refine lv_iload hx hb dX0_leaveOut_40 (lv_at hl 1 rfl) ?_
      refine lv_iconst (v := (-1)) hx hb dX0_leaveOut_42 (by decide) ?_
      refine lv_ixor hx hb dX0_leaveOut_43 ?_
      refine lv_iand hx hb dX0_leaveOut_44 ?_
      refine aV_I (As := [.ref (aB 0), .int (v1 &&& (x4_2 ^^^ (-1)))]) (rest := []) hc hw (c_X0_agree hm) lk_X0_66 rfl rfl ⟨Nat.le_of_ble_eq_true rfl, Nat.le_of_ble_eq_true rfl⟩ ⟨Nat.le_of_ble_eq_true rfl, Nat.le_of_ble_eq_true rfl⟩ hl.1 rfl (Nat.le_of_ble_eq_true rfl) rfl dX0_leaveOut_45 (fun r9 S10 H locs hm hw => ?_)
      have hw : wV D A s.heap ((dW cy aDt S10) ++ ((bW cy aB e_B_laws e_B_told (ame 0) e_B_claims SB) ++ (tW cy ame Sme))) H locs := hw
      refine lv_if_ne (tgt := 54) hx hb dX0_leaveOut_48 (by decide) (fun c19 => ?_) (fun c19 => ?_)
      · have hm := hm.1 c19
        refine lv_iload hx hb dX0_leaveOut_54 (lv_at hl 0 rfl) ?_
        refine lv_iload_n hx hb dX0_leaveOut_56 rfl (lv_at hl 2 rfl) ?_
        refine lv_icmp_ge (tgt := 77) hx hb dX0_leaveOut_57 (by decide) (fun c17 => ?_) (fun c17 => ?_)
        · have hm := hm.1 c17
          refine lv_aload_n hx hb dX0_leaveOut_77 rfl (lv_at hl 4 rfl) ?_
          refine lv_dup hx hb dX0_leaveOut_78 rfl ?_
          refine gF (k := 3) hc hw inX0 rfl 0 rfl (by decide) (gm 402 (by decide +kernel) rfl) rfl dX0_leaveOut_79 ?_
          refine lv_iconst (v := 1) hx hb dX0_leaveOut_82 (by decide) ?_
          refine lv_iadd hx hb dX0_leaveOut_83 ?_
          refine pF (k := 3) (ty := .int) hc hw inX0 tyX0_ok nmX0 rfl 0 rfl (by decide) (gm 402 (by decide +kernel) rfl) rfl (by decide +kernel) rfl rfl (Nat.le_of_ble_eq_true rfl) dX0_leaveOut_84 (fun H locs hw => ?_)
          obtain ⟨S12, e_S12⟩ : ∃ z : Ob, z = uS S10 3 ((S10.1 3) + 1) := ⟨_, rfl⟩
          have hm := hm S12 e_S12
          have hw : wV D A s.heap ((dW cy aDt S12) ++ ((bW cy aB e_B_laws e_B_told (ame 0) e_B_claims SB) ++ (tW cy ame Sme))) H locs := by rw [e_S12]; exact hw
          obtain ⟨v13, e_v13⟩ : ∃ z : Int32, z = x4_2 + 1 := ⟨_, rfl⟩
          have hm := hm v13 e_v13
          refine lv_iinc (v := v13) (lv' := [(4, .int v13), (5, .int r6), (3, .int x3_3), (2, .int v1), (0, .ref (aDt 0)), (1, .ref (aB 0))]) hx hb dX0_leaveOut_87 hl (k := 1) rfl (by rw [e_v13]; rfl) (by decide) rfl (fun ls hl => ?_)
          refine lv_goto (tgt := 18) hx hb dX0_leaveOut_90 (by decide) ?_
          exact ih5 _ _ _ hm _ _ _ hw (lv_sub hl [0, 2, 3, 4, 5] rfl)
        · have hm := hm.2 c17
          refine lv_iload hx hb dX0_leaveOut_60 (lv_at hl 0 rfl) ?_
          refine lv_istore_n (lv' := [(3, .int r6), (5, .int r6), (4, .int x4_2), (2, .int v1), (0, .ref (aDt 0)), (1, .ref (aB 0))]) hx hb dX0_leaveOut_62 rfl hl (by decide) rfl (fun ls hl => ?_)
          refine lv_aload_n hx hb dX0_leaveOut_63 rfl (lv_at hl 4 rfl) ?_
          refine lv_iload hx hb dX0_leaveOut_64 (lv_at hl 2 rfl) ?_
          refine pF (k := 2) (ty := .int) hc hw inX0 tyX0_ok nmX0 rfl 0 rfl (by decide) (gm 400 (by decide +kernel) rfl) rfl (by decide +kernel) rfl rfl (Nat.le_of_ble_eq_true rfl) dX0_leaveOut_66 (fun H locs hw => ?_)
          obtain ⟨S14, e_S14⟩ : ∃ z : Ob, z = uS S10 2 x4_2 := ⟨_, rfl⟩
          have hm := hm S14 e_S14
          have hw : wV D A s.heap ((dW cy aDt S14) ++ ((bW cy aB e_B_laws e_B_told (ame 0) e_B_claims SB) ++ (tW cy ame Sme))) H locs := by rw [e_S14]; exact hw
          refine lv_aload_n hx hb dX0_leaveOut_69 rfl (lv_at hl 4 rfl) ?_
          refine lv_iconst (v := 1) hx hb dX0_leaveOut_70 (by decide) ?_
          refine pF (k := 3) (ty := .int) hc hw inX0 tyX0_ok nmX0 rfl 0 rfl (by decide) (gm 402 (by decide +kernel) rfl) rfl (by decide +kernel) rfl rfl (Nat.le_of_ble_eq_true rfl) dX0_leaveOut_71 (fun H locs hw => ?_)
          obtain ⟨S15, e_S15⟩ : ∃ z : Ob, z = uS S14 3 1 := ⟨_, rfl⟩
          have hm := hm S15 e_S15
          have hw : wV D A s.heap ((dW cy aDt S15) ++ ((bW cy aB e_B_laws e_B_told (ame 0) e_B_claims SB) ++ (tW cy ame Sme))) H locs := by rw [e_S15]; exact hw
          refine lv_goto (tgt := 87) hx hb dX0_leaveOut_74 (by decide) ?_
          obtain ⟨v16, e_v16⟩ : ∃ z : Int32, z = x4_2 + 1 := ⟨_, rfl⟩
          have hm := hm v16 e_v16
          refine lv_iinc (v := v16) (lv' := [(4, .int v16), (3, .int r6), (5, .int r6), (2, .int v1), (0, .ref (aDt 0)), (1, .ref (aB 0))]) hx hb dX0_leaveOut_87 hl (k := 2) rfl (by rw [e_v16]; rfl) (by decide) rfl (fun ls hl => ?_)
          refine lv_goto (tgt := 18) hx hb dX0_leaveOut_90 (by decide) ?_
          exact ih5 _ _ _ hm _ _ _ hw (lv_sub hl [0, 1, 3, 4, 5] rfl)
      · have hm := hm.2 c19
        refine lv_goto (tgt := 87) hx hb dX0_leaveOut_51 (by decide) ?_
        obtain ⟨v18, e_v18⟩ : ∃ z : Int32, z = x4_2 + 1 := ⟨_, rfl⟩
        have hm := hm v18 e_v18
        refine lv_iinc (v := v18) (lv' := [(4, .int v18), (5, .int r6), (3, .int x3_3), (2, .int v1), (0, .ref (aDt 0)), (1, .ref (aB 0))]) hx hb dX0_leaveOut_87 hl (k := 1) rfl (by rw [e_v18]; rfl) (by decide) rfl (fun ls hl => ?_)
        refine lv_goto (tgt := 18) hx hb dX0_leaveOut_90 (by decide) ?_
        exact ih5 _ _ _ hm _ _ _ hw (lv_sub hl [0, 2, 3, 4, 5] rfl)
