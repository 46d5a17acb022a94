set_option maxHeartbeats 4000000 in
set_option maxRecDepth 100000 in
theorem c_X1_lastOf {l : Launch} {D : va_G} {cy : Nat → ClassId} {aJ : Nat → Nat} {aLw : Nat → Nat} {SJ : Ob} {SLw : Lw} {x2 : Int32} {x3 : Int32} {x4 : Int32} {Q : Int32 → Ob → Prop} (hm : w_X1_lastOf SJ SLw x2 x3 x4 Q) : CtI l yX1_lastOf cX1_lastOf 7 (some .int) (rmN 3) D cy [.ref (aJ 0), .ref (aLw 0), .int x2, .int x3, .int x4] ((jW cy aJ SJ) ++ (lwW cy aLw SLw)) (fun u : Ob => ((jW cy aJ u) ++ (lwW cy aLw SLw))) Q := by
  refine CtI.ofW (by decide) (Nat.le_of_ble_eq_true rfl) ?_
  intro p e s m args below meth c A ls hc hnm hw hl
  have hx := hc.1.1
  have hb := hc.1.2.1
  have hown := hc.1.2.2.2.1
  have hts := hc.1.2.2.2.2
  have hl : lv_has ls 7 [(0, .ref (aJ 0)), (1, .ref (aLw 0)), (2, .int x2), (3, .int x3), (4, .int x4)] := hl
  obtain ⟨H, hH⟩ : ∃ z, z = s.heap := ⟨_, rfl⟩
  obtain ⟨locs, hLc⟩ : ∃ z : List Loc, z = [] := ⟨_, rfl⟩
  have hw : wV D A s.heap ((jW cy aJ SJ) ++ (lwW cy aLw SLw)) H locs := by rw [hH, hLc]; exact hw
  have hgo : W p l e (rmN 3) s m args below meth c H locs 0 0 (MQ below (eI D cy A (fun u : Ob => ((jW cy aJ u) ++ (lwW cy aLw SLw))) Q) args s (rmN 3).cells (rmN 3).slots A) (F0 m 0 ls []) := ?hgo
  · rw [hH, hLc] at hgo; exact hgo
  refine lv_iload hx hb dX1_lastOf_0 (lv_at hl 4 rfl) ?_
  refine lv_istore (lv' := [(5, .int x4), (0, .ref (aJ 0)), (1, .ref (aLw 0)), (2, .int x2), (3, .int x3), (4, .int x4)]) hx hb dX1_lastOf_2 hl (by decide) rfl (fun ls hl => ?_)
  refine lv_aload_n hx hb dX1_lastOf_4 rfl (lv_at hl 2 rfl) ?_
  refine lv_ifnonnull (tgt := 11) hx hb dX1_lastOf_5 (by decide) ?_
  refine lv_iconst (v := 0) hx hb dX1_lastOf_11 (by decide) ?_
  refine lv_istore (lv' := [(6, .int 0), (5, .int x4), (0, .ref (aJ 0)), (1, .ref (aLw 0)), (2, .int x2), (3, .int x3), (4, .int x4)]) hx hb dX1_lastOf_12 hl (by decide) rfl (fun ls hl => ?_)
  refine wl3_ind (G := fun (x6_1 : Int32) (x5_2 : Int32) (S3 : Ob) => ∀ (H : Heap) (locs : List Loc) (ls : Array Slot), wV D A s.heap ((jW cy aJ S3) ++ (lwW cy aLw SLw)) H locs → lv_has ls 7 [(6, .int x6_1), (5, .int x5_2), (0, .ref (aJ 0)), (1, .ref (aLw 0)), (2, .int x2), (3, .int x3)] → W p l e (rmN 3) s m args below meth c H locs 0 0 (MQ below (eI D cy A (fun u : Ob => ((jW cy aJ u) ++ (lwW cy aLw SLw))) Q) args s (rmN 3).cells (rmN 3).slots A) (F0 m 14 ls [])) ?_ _ _ _ hm H locs ls hw (lv_sub hl [0, 1, 2, 3, 4, 5] rfl)
  intro L4 ih4 x6_1 x5_2 S3 hm H locs ls hw hl
  refine lv_iload hx hb dX1_lastOf_14 (lv_at hl 0 rfl) ?_
  refine lv_aload_n hx hb dX1_lastOf_16 rfl (lv_at hl 3 rfl) ?_
  refine gN (k := 0) (host := "OlderTale") hc hw inX2 rfl 3 rfl (by decide) (nmm 744 (by decide +kernel)) rfl dX1_lastOf_17 ?_
  refine aLen (t0 := 0) (v := (Int32.ofNat (SLw.1 0))) hc hw 4 rfl rfl rfl dX1_lastOf_20 ?_
  refine lv_icmp_ge (tgt := 68) hx hb dX1_lastOf_21 (by decide) (fun c16 => ?_) (fun c16 => ?_)
  · have hm := hm.1 c16
    refine lv_iload hx hb dX1_lastOf_68 (lv_at hl 1 rfl) ?_
    exact retI (u := S3) hc hw hm dX1_lastOf_70
  · have hm := hm.2 c16
    refine lv_aload_n hx hb dX1_lastOf_24 rfl (lv_at hl 3 rfl) ?_
    refine lv_iload hx hb dX1_lastOf_25 (lv_at hl 0 rfl) ?_
    refine lv_iload_n hx hb dX1_lastOf_27 rfl (lv_at hl 4 rfl) ?_
    refine nVN_I (As := [.int x6_1, .int x2]) (rest := []) (wc := (lwW cy aLw SLw)) (wr := (jW cy aJ S3)) (isC := [3, 4, 5, 6, 7]) (isR := [0, 1, 2]) hc hw (c_X2_isOf hm) lk_X1_50 ⟨rfl, rfl, rfl, rfl, by decide⟩ rfl rfl ⟨Nat.le_of_ble_eq_true rfl, Nat.le_of_ble_eq_true rfl⟩ ⟨Nat.le_of_ble_eq_true rfl, Nat.le_of_ble_eq_true rfl⟩ hl.1 rfl (Nat.le_of_ble_eq_true rfl) rfl dX1_lastOf_28 (fun r5 _ H locs hm hw => ?_)
    have hw : wV D A s.heap ((jW cy aJ S3) ++ (lwW cy aLw SLw)) H locs := hw.perm [0, 1, 2, 3, 4, 5, 6, 7] rfl rfl
    refine lv_if_eq (tgt := 62) hx hb dX1_lastOf_31 (by decide) (fun c15 => ?_) (fun c15 => ?_)
    · have hm := hm.1 c15
      obtain ⟨v7, e_v7⟩ : ∃ z : Int32, z = x6_1 + 1 := ⟨_, rfl⟩
      have hm := hm v7 e_v7
      refine lv_iinc (v := v7) (lv' := [(6, .int v7), (5, .int x5_2), (0, .ref (aJ 0)), (1, .ref (aLw 0)), (2, .int x2), (3, .int x3)]) hx hb dX1_lastOf_62 hl (k := 0) rfl (by rw [e_v7]; rfl) (by decide) rfl (fun ls hl => ?_)
      refine lv_goto (tgt := 14) hx hb dX1_lastOf_65 (by decide) ?_
      exact ih4 _ _ _ hm _ _ _ hw (lv_sub hl [0, 1, 2, 3, 4, 5] rfl)
    · have hm := hm.2 c15
      refine lv_aload_n hx hb dX1_lastOf_34 rfl (lv_at hl 2 rfl) ?_
      refine lv_aload_n hx hb dX1_lastOf_35 rfl (lv_at hl 3 rfl) ?_
      refine lv_iload hx hb dX1_lastOf_36 (lv_at hl 0 rfl) ?_
      refine aV_I (As := [.ref (aLw 0), .int x6_1]) (rest := []) hc hw (c_X1_holds hm) lk_X1_54 rfl rfl ⟨Nat.le_of_ble_eq_true rfl, Nat.le_of_ble_eq_true rfl⟩ ⟨Nat.le_of_ble_eq_true rfl, Nat.le_of_ble_eq_true rfl⟩ hl.1 rfl (Nat.le_of_ble_eq_true rfl) rfl dX1_lastOf_38 (fun r8 S9 H locs hm hw => ?_)
      have hw : wV D A s.heap ((jW cy aJ S9) ++ (lwW cy aLw SLw)) H locs := hw
      refine lv_if_eq (tgt := 62) hx hb dX1_lastOf_41 (by decide) (fun c14 => ?_) (fun c14 => ?_)
      · have hm := hm.1 c14
        obtain ⟨v11, e_v11⟩ : ∃ z : Int32, z = x6_1 + 1 := ⟨_, rfl⟩
        have hm := hm v11 e_v11
        refine lv_iinc (v := v11) (lv' := [(6, .int v11), (5, .int x5_2), (0, .ref (aJ 0)), (1, .ref (aLw 0)), (2, .int x2), (3, .int x3)]) hx hb dX1_lastOf_62 hl (k := 0) rfl (by rw [e_v11]; rfl) (by decide) rfl (fun ls hl => ?_)
        refine lv_goto (tgt := 14) hx hb dX1_lastOf_65 (by decide) ?_
        exact ih4 _ _ _ hm _ _ _ hw (lv_sub hl [0, 1, 2, 3, 4, 5] rfl)
      · have hm := hm.2 c14
        refine lv_iload_n hx hb dX1_lastOf_44 rfl (lv_at hl 5 rfl) ?_
        refine lv_aload_n hx hb dX1_lastOf_45 rfl (lv_at hl 2 rfl) ?_
        refine gF (k := 1) hc hw inX1 rfl 0 rfl (by decide) (gm 316 (by decide +kernel) rfl) rfl dX1_lastOf_46 ?_
        refine lv_iconst (v := 0) hx hb dX1_lastOf_49 (by decide) ?_
        refine aI hc hw 2 rfl (vin (by decide)) (j := 0) (by decide) dX1_lastOf_50 ?_
        refine lv_sipush (v := 999) hx hb dX1_lastOf_51 (by decide) ?_
        refine m_min (rest := [.int x3]) hc hl.1 (gm 541 (by decide +kernel) rfl) (Nat.le_of_ble_eq_true rfl) (Nat.le_of_ble_eq_true rfl) (Nat.le_of_ble_eq_true rfl) (Nat.le_of_ble_eq_true rfl) dX1_lastOf_54 ?_
        refine m_max (rest := []) hc hl.1 (gm 552 (by decide +kernel) rfl) (Nat.le_of_ble_eq_true rfl) (Nat.le_of_ble_eq_true rfl) (Nat.le_of_ble_eq_true rfl) (Nat.le_of_ble_eq_true rfl) dX1_lastOf_57 ?_
        refine lv_topi (fun v12 e_v12 => ?_)
        have hm := hm v12 e_v12
        refine lv_istore (lv' := [(5, .int v12), (6, .int x6_1), (0, .ref (aJ 0)), (1, .ref (aLw 0)), (2, .int x2), (3, .int x3)]) hx hb dX1_lastOf_60 hl (by decide) rfl (fun ls hl => ?_)
        obtain ⟨v13, e_v13⟩ : ∃ z : Int32, z = x6_1 + 1 := ⟨_, rfl⟩
        have hm := hm v13 e_v13
        refine lv_iinc (v := v13) (lv' := [(6, .int v13), (5, .int v12), (0, .ref (aJ 0)), (1, .ref (aLw 0)), (2, .int x2), (3, .int x3)]) hx hb dX1_lastOf_62 hl (k := 1) rfl (by rw [e_v13]; rfl) (by decide) rfl (fun ls hl => ?_)
        refine lv_goto (tgt := 14) hx hb dX1_lastOf_65 (by decide) ?_
        exact ih4 _ _ _ hm _ _ _ hw (lv_sub hl [0, 1, 2, 3, 4, 5] rfl)
set_option maxHeartbeats 4000000 in
set_option maxRecDepth 100000 in
theorem c_X1_lastOfN {l : Launch} {D : va_G} {cy : Nat → ClassId} {aJ : Nat → Nat} {SJ : Ob} {x2 : Int32} {x3 : Int32} {x4 : Int32} {Q : Int32 → Prop} (hm : w_X1_lastOfN SJ x2 x3 x4 Q) : CtI l yX1_lastOf cX1_lastOf 7 (some .int) (rmN 3) D cy [.ref (aJ 0), .null, .int x2, .int x3, .int x4] (jW cy aJ SJ) (fun _ : Unit => (jW cy aJ SJ)) (fun (r : Int32) (_ : Unit) => Q r) := by
  refine CtI.ofW (by decide) (Nat.le_of_ble_eq_true rfl) ?_
  intro p e s m args below meth c A ls hc hnm hw hl
  have hx := hc.1.1
  have hb := hc.1.2.1
  have hown := hc.1.2.2.2.1
  have hts := hc.1.2.2.2.2
  have hl : lv_has ls 7 [(0, .ref (aJ 0)), (1, .null), (2, .int x2), (3, .int x3), (4, .int x4)] := hl
  obtain ⟨H, hH⟩ : ∃ z, z = s.heap := ⟨_, rfl⟩
  obtain ⟨locs, hLc⟩ : ∃ z : List Loc, z = [] := ⟨_, rfl⟩
  have hw : wV D A s.heap (jW cy aJ SJ) H locs := by rw [hH, hLc]; exact hw
  have hgo : W p l e (rmN 3) s m args below meth c H locs 0 0 (MQ below (eI D cy A (fun _ : Unit => (jW cy aJ SJ)) (fun (r : Int32) (_ : Unit) => Q r)) args s (rmN 3).cells (rmN 3).slots A) (F0 m 0 ls []) := ?hgo
  · rw [hH, hLc] at hgo; exact hgo
  refine lv_iload hx hb dX1_lastOf_0 (lv_at hl 4 rfl) ?_
  refine lv_istore (lv' := [(5, .int x4), (0, .ref (aJ 0)), (1, .null), (2, .int x2), (3, .int x3), (4, .int x4)]) hx hb dX1_lastOf_2 hl (by decide) rfl (fun ls hl => ?_)
  refine lv_aload_nN hx hb dX1_lastOf_4 rfl (lv_at hl 2 rfl) ?_
  refine lv_ifnonnullN hx hb dX1_lastOf_5 ?_
  refine lv_iload hx hb dX1_lastOf_8 (lv_at hl 0 rfl) ?_
  exact retI (u := ()) hc hw hm dX1_lastOf_10
set_option maxHeartbeats 4000000 in
set_option maxRecDepth 100000 in
theorem c_X1_isBarred {l : Launch} {D : va_G} {cy : Nat → ClassId} {aJ : Nat → Nat} {aLw : Nat → Nat} {SJ : Ob} {SLw : Lw} {x2 : Int32} {Q : Int32 → Ob → Prop} (hm : w_X1_isBarred SJ SLw x2 Q) : CtI l yX1_isBarred cX1_isBarred 4 (some .boolean) (rmN 3) D cy [.ref (aJ 0), .ref (aLw 0), .int x2] ((jW cy aJ SJ) ++ (lwW cy aLw SLw)) (fun u : Ob => ((jW cy aJ u) ++ (lwW cy aLw SLw))) Q := by
  refine CtI.ofW (by decide) (Nat.le_of_ble_eq_true rfl) ?_
  intro p e s m args below meth c A ls hc hnm hw hl
  have hx := hc.1.1
  have hb := hc.1.2.1
  have hown := hc.1.2.2.2.1
  have hts := hc.1.2.2.2.2
  have hl : lv_has ls 4 [(0, .ref (aJ 0)), (1, .ref (aLw 0)), (2, .int x2)] := hl
  obtain ⟨H, hH⟩ : ∃ z, z = s.heap := ⟨_, rfl⟩
  obtain ⟨locs, hLc⟩ : ∃ z : List Loc, z = [] := ⟨_, rfl⟩
  have hw : wV D A s.heap ((jW cy aJ SJ) ++ (lwW cy aLw SLw)) H locs := by rw [hH, hLc]; exact hw
  have hgo : W p l e (rmN 3) s m args below meth c H locs 0 0 (MQ below (eI D cy A (fun u : Ob => ((jW cy aJ u) ++ (lwW cy aLw SLw))) Q) args s (rmN 3).cells (rmN 3).slots A) (F0 m 0 ls []) := ?hgo
  · rw [hH, hLc] at hgo; exact hgo
  refine lv_aload_n hx hb dX1_isBarred_0 rfl (lv_at hl 1 rfl) ?_
  refine lv_ifnonnull (tgt := 6) hx hb dX1_isBarred_1 (by decide) ?_
  refine lv_aload_n hx hb dX1_isBarred_6 rfl (lv_at hl 0 rfl) ?_
  refine gF (k := 0) hc hw inX1 rfl 0 rfl (by decide) (gm 315 (by decide +kernel) rfl) rfl dX1_isBarred_7 ?_
  refine lv_bipush (v := 7) hx hb dX1_isBarred_10 (by decide) ?_
  refine lv_iload_n hx hb dX1_isBarred_12 rfl (lv_at hl 2 rfl) ?_
  refine sI hc hw 1 rfl (vin (by decide)) (j := 7) (by decide) dX1_isBarred_13 (fun H locs hw => ?_)
  obtain ⟨S1, e_S1⟩ : ∃ z : Ob, z = uA SJ 0 7 x2 := ⟨_, rfl⟩
  have hm := hm S1 e_S1
  have hw : wV D A s.heap ((jW cy aJ S1) ++ (lwW cy aLw SLw)) H locs := by rw [e_S1]; exact hw
  refine lv_iconst (v := 0) hx hb dX1_isBarred_14 (by decide) ?_
  refine lv_istore_n (lv' := [(3, .int 0), (0, .ref (aJ 0)), (1, .ref (aLw 0)), (2, .int x2)]) hx hb dX1_isBarred_15 rfl hl (by decide) rfl (fun ls hl => ?_)
  refine wl2_ind (G := fun (x3_2 : Int32) (S3 : Ob) => ∀ (H : Heap) (locs : List Loc) (ls : Array Slot), wV D A s.heap ((jW cy aJ S3) ++ (lwW cy aLw SLw)) H locs → lv_has ls 4 [(3, .int x3_2), (0, .ref (aJ 0)), (1, .ref (aLw 0))] → W p l e (rmN 3) s m args below meth c H locs 0 0 (MQ below (eI D cy A (fun u : Ob => ((jW cy aJ u) ++ (lwW cy aLw SLw))) Q) args s (rmN 3).cells (rmN 3).slots A) (F0 m 16 ls [])) ?_ _ _ hm H locs ls hw (lv_sub hl [0, 1, 2] rfl)
  intro L4 ih4 x3_2 S3 hm H locs ls hw hl
  refine lv_iload_n hx hb dX1_isBarred_16 rfl (lv_at hl 0 rfl) ?_
  refine lv_aload_n hx hb dX1_isBarred_17 rfl (lv_at hl 2 rfl) ?_
  refine gN (k := 0) (host := "OlderTale") hc hw inX2 rfl 3 rfl (by decide) (nmm 744 (by decide +kernel)) rfl dX1_isBarred_18 ?_
  refine aLen (t0 := 0) (v := (Int32.ofNat (SLw.1 0))) hc hw 4 rfl rfl rfl dX1_isBarred_21 ?_
  refine lv_icmp_ge (tgt := 53) hx hb dX1_isBarred_22 (by decide) (fun c14 => ?_) (fun c14 => ?_)
  · have hm := hm.1 c14
    refine lv_iconst (v := 0) hx hb dX1_isBarred_53 (by decide) ?_
    exact retZ (u := S3) hc hw rfl hm dX1_isBarred_54
  · have hm := hm.2 c14
    refine lv_aload_n hx hb dX1_isBarred_25 rfl (lv_at hl 2 rfl) ?_
    refine lv_iload_n hx hb dX1_isBarred_26 rfl (lv_at hl 0 rfl) ?_
    refine lv_sipush (v := 258) hx hb dX1_isBarred_27 (by decide) ?_
    refine nVN_I (As := [.int x3_2, .int 258]) (rest := []) (wc := (lwW cy aLw SLw)) (wr := (jW cy aJ S3)) (isC := [3, 4, 5, 6, 7]) (isR := [0, 1, 2]) hc hw (c_X2_isOf hm) lk_X1_50 ⟨rfl, rfl, rfl, rfl, by decide⟩ rfl rfl ⟨Nat.le_of_ble_eq_true rfl, Nat.le_of_ble_eq_true rfl⟩ ⟨Nat.le_of_ble_eq_true rfl, Nat.le_of_ble_eq_true rfl⟩ hl.1 rfl (Nat.le_of_ble_eq_true rfl) rfl dX1_isBarred_30 (fun r5 _ H locs hm hw => ?_)
    have hw : wV D A s.heap ((jW cy aJ S3) ++ (lwW cy aLw SLw)) H locs := hw.perm [0, 1, 2, 3, 4, 5, 6, 7] rfl rfl
    refine lv_if_eq (tgt := 47) hx hb dX1_isBarred_33 (by decide) (fun c13 => ?_) (fun c13 => ?_)
    · have hm := hm.1 c13
      obtain ⟨v7, e_v7⟩ : ∃ z : Int32, z = x3_2 + 1 := ⟨_, rfl⟩
      have hm := hm v7 e_v7
      refine lv_iinc (v := v7) (lv' := [(3, .int v7), (0, .ref (aJ 0)), (1, .ref (aLw 0))]) hx hb dX1_isBarred_47 hl (k := 0) rfl (by rw [e_v7]; rfl) (by decide) rfl (fun ls hl => ?_)
      refine lv_goto (tgt := 16) hx hb dX1_isBarred_50 (by decide) ?_
      exact ih4 _ _ hm _ _ _ hw (lv_sub hl [0, 1, 2] rfl)
    · have hm := hm.2 c13
      refine lv_aload_n hx hb dX1_isBarred_36 rfl (lv_at hl 1 rfl) ?_
      refine lv_aload_n hx hb dX1_isBarred_37 rfl (lv_at hl 2 rfl) ?_
      refine lv_iload_n hx hb dX1_isBarred_38 rfl (lv_at hl 0 rfl) ?_
      refine aV_I (As := [.ref (aLw 0), .int x3_2]) (rest := []) hc hw (c_X1_holds hm) lk_X1_54 rfl rfl ⟨Nat.le_of_ble_eq_true rfl, Nat.le_of_ble_eq_true rfl⟩ ⟨Nat.le_of_ble_eq_true rfl, Nat.le_of_ble_eq_true rfl⟩ hl.1 rfl (Nat.le_of_ble_eq_true rfl) rfl dX1_isBarred_39 (fun r8 S9 H locs hm hw => ?_)
      have hw : wV D A s.heap ((jW cy aJ S9) ++ (lwW cy aLw SLw)) H locs := hw
      refine lv_if_eq (tgt := 47) hx hb dX1_isBarred_42 (by decide) (fun c12 => ?_) (fun c12 => ?_)
      · have hm := hm.1 c12
        obtain ⟨v11, e_v11⟩ : ∃ z : Int32, z = x3_2 + 1 := ⟨_, rfl⟩
        have hm := hm v11 e_v11
        refine lv_iinc (v := v11) (lv' := [(3, .int v11), (0, .ref (aJ 0)), (1, .ref (aLw 0))]) hx hb dX1_isBarred_47 hl (k := 0) rfl (by rw [e_v11]; rfl) (by decide) rfl (fun ls hl => ?_)
        refine lv_goto (tgt := 16) hx hb dX1_isBarred_50 (by decide) ?_
        exact ih4 _ _ hm _ _ _ hw (lv_sub hl [0, 1, 2] rfl)
      · have hm := hm.2 c12
        refine lv_iconst (v := 1) hx hb dX1_isBarred_45 (by decide) ?_
        exact retZ (u := S9) hc hw rfl hm dX1_isBarred_46
set_option maxHeartbeats 4000000 in
set_option maxRecDepth 100000 in
theorem c_X1_isBarredN {l : Launch} {D : va_G} {cy : Nat → ClassId} {aJ : Nat → Nat} {SJ : Ob} {x2 : Int32} {Q : Int32 → Prop} (hm : w_X1_isBarredN SJ x2 Q) : CtI l yX1_isBarred cX1_isBarred 4 (some .boolean) (rmN 3) D cy [.ref (aJ 0), .null, .int x2] (jW cy aJ SJ) (fun _ : Unit => (jW cy aJ SJ)) (fun (r : Int32) (_ : Unit) => Q r) := by
  refine CtI.ofW (by decide) (Nat.le_of_ble_eq_true rfl) ?_
  intro p e s m args below meth c A ls hc hnm hw hl
  have hx := hc.1.1
  have hb := hc.1.2.1
  have hown := hc.1.2.2.2.1
  have hts := hc.1.2.2.2.2
  have hl : lv_has ls 4 [(0, .ref (aJ 0)), (1, .null), (2, .int x2)] := hl
  obtain ⟨H, hH⟩ : ∃ z, z = s.heap := ⟨_, rfl⟩
  obtain ⟨locs, hLc⟩ : ∃ z : List Loc, z = [] := ⟨_, rfl⟩
  have hw : wV D A s.heap (jW cy aJ SJ) H locs := by rw [hH, hLc]; exact hw
  have hgo : W p l e (rmN 3) s m args below meth c H locs 0 0 (MQ below (eI D cy A (fun _ : Unit => (jW cy aJ SJ)) (fun (r : Int32) (_ : Unit) => Q r)) args s (rmN 3).cells (rmN 3).slots A) (F0 m 0 ls []) := ?hgo
  · rw [hH, hLc] at hgo; exact hgo
  refine lv_aload_nN hx hb dX1_isBarred_0 rfl (lv_at hl 1 rfl) ?_
  refine lv_ifnonnullN hx hb dX1_isBarred_1 ?_
  refine lv_iconst (v := 0) hx hb dX1_isBarred_4 (by decide) ?_
  exact retZ (u := ()) hc hw rfl hm dX1_isBarred_5
set_option maxHeartbeats 4000000 in
set_option maxRecDepth 100000 in
theorem c_X3_spoil {l : Launch} {D : va_G} {cy : Nat → ClassId} {aP : Nat → Nat} {e_P_judge : Nat} {SP : Ob} {Q : Ob → Prop} (hm : w_X3_spoil SP Q) : CtV l yX3_spoil cX3_spoil 1 none (rmN 0) D cy [.ref (aP 0)] (pW cy aP e_P_judge SP) (fun u : Ob => (pW cy aP e_P_judge u)) Q := by
  refine CtV.ofW (by decide) (Nat.le_of_ble_eq_true rfl) ?_
  intro p e s m args below meth c A ls hc hnm hw hl
  have hx := hc.1.1
  have hb := hc.1.2.1
  have hown := hc.1.2.2.2.1
  have hts := hc.1.2.2.2.2
  have hl : lv_has ls 1 [(0, .ref (aP 0))] := hl
  obtain ⟨H, hH⟩ : ∃ z, z = s.heap := ⟨_, rfl⟩
  obtain ⟨locs, hLc⟩ : ∃ z : List Loc, z = [] := ⟨_, rfl⟩
  have hw : wV D A s.heap (pW cy aP e_P_judge SP) H locs := by rw [hH, hLc]; exact hw
  have hgo : W p l e (rmN 0) s m args below meth c H locs 0 0 (MQ below (eV D cy A (fun u : Ob => (pW cy aP e_P_judge u)) Q) args s (rmN 0).cells (rmN 0).slots A) (F0 m 0 ls []) := ?hgo
  · rw [hH, hLc] at hgo; exact hgo
  refine lv_aload_n hx hb dX3_spoil_0 rfl (lv_at hl 0 rfl) ?_
  refine lv_iconst (v := 0) hx hb dX3_spoil_1 (by decide) ?_
  refine pF (k := 8) (ty := .boolean) hc hw inX3 tyX3_ok nmX3 rfl 0 rfl (by decide) (gm 337 (by decide +kernel) rfl) rfl (by decide +kernel) rfl rfl (Nat.le_of_ble_eq_true rfl) dX3_spoil_2 (fun H locs hw => ?_)
  obtain ⟨S1, e_S1⟩ : ∃ z : Ob, z = uS SP 8 0 := ⟨_, rfl⟩
  have hm := hm S1 e_S1
  have hw : wV D A s.heap (pW cy aP e_P_judge S1) H locs := by rw [e_S1]; exact hw
  refine lv_aload_n hx hb dX3_spoil_5 rfl (lv_at hl 0 rfl) ?_
  refine lv_iconst (v := 0) hx hb dX3_spoil_6 (by decide) ?_
  refine pF (k := 9) (ty := .boolean) hc hw inX3 tyX3_ok nmX3 rfl 0 rfl (by decide) (gm 338 (by decide +kernel) rfl) rfl (by decide +kernel) rfl rfl (Nat.le_of_ble_eq_true rfl) dX3_spoil_7 (fun H locs hw => ?_)
  obtain ⟨S2, e_S2⟩ : ∃ z : Ob, z = uS S1 9 0 := ⟨_, rfl⟩
  have hm := hm S2 e_S2
  have hw : wV D A s.heap (pW cy aP e_P_judge S2) H locs := by rw [e_S2]; exact hw
  refine lv_aload_n hx hb dX3_spoil_10 rfl (lv_at hl 0 rfl) ?_
  refine lv_iconst (v := 0) hx hb dX3_spoil_11 (by decide) ?_
  refine pF (k := 17) (ty := .int) hc hw inX3 tyX3_ok nmX3 rfl 0 rfl (by decide) (gm 351 (by decide +kernel) rfl) rfl (by decide +kernel) rfl rfl (Nat.le_of_ble_eq_true rfl) dX3_spoil_12 (fun H locs hw => ?_)
  obtain ⟨S3, e_S3⟩ : ∃ z : Ob, z = uS S2 17 0 := ⟨_, rfl⟩
  have hm := hm S3 e_S3
  have hw : wV D A s.heap (pW cy aP e_P_judge S3) H locs := by rw [e_S3]; exact hw
  exact retV (u := S3) hc hw hm dX3_spoil_15
set_option maxHeartbeats 4000000 in
set_option maxRecDepth 100000 in
theorem c_X3_yearNeeded {l : Launch} {D : va_G} {cy : Nat → ClassId} {aP : Nat → Nat} {e_P_judge : Nat} {SP : Ob} {x1 : Int32} {x2 : Int32} {Q : Int32 → Prop} (hm : w_X3_yearNeeded SP x1 x2 Q) : CtI l yX3_yearNeeded cX3_yearNeeded 3 (some .int) (rmN 0) D cy [.ref (aP 0), .int x1, .int x2] (pW cy aP e_P_judge SP) (fun _ : Unit => (pW cy aP e_P_judge SP)) (fun (r : Int32) (_ : Unit) => Q r) := by
  refine CtI.ofW (by decide) (Nat.le_of_ble_eq_true rfl) ?_
  intro p e s m args below meth c A ls hc hnm hw hl
  have hx := hc.1.1
  have hb := hc.1.2.1
  have hown := hc.1.2.2.2.1
  have hts := hc.1.2.2.2.2
  have hl : lv_has ls 3 [(0, .ref (aP 0)), (1, .int x1), (2, .int x2)] := hl
  obtain ⟨H, hH⟩ : ∃ z, z = s.heap := ⟨_, rfl⟩
  obtain ⟨locs, hLc⟩ : ∃ z : List Loc, z = [] := ⟨_, rfl⟩
  have hw : wV D A s.heap (pW cy aP e_P_judge SP) H locs := by rw [hH, hLc]; exact hw
  have hgo : W p l e (rmN 0) s m args below meth c H locs 0 0 (MQ below (eI D cy A (fun _ : Unit => (pW cy aP e_P_judge SP)) (fun (r : Int32) (_ : Unit) => Q r)) args s (rmN 0).cells (rmN 0).slots A) (F0 m 0 ls []) := ?hgo
  · rw [hH, hLc] at hgo; exact hgo
  refine lv_aload_n hx hb dX3_yearNeeded_0 rfl (lv_at hl 0 rfl) ?_
  refine gF (k := 12) hc hw inX3 rfl 0 rfl (by decide) (gm 344 (by decide +kernel) rfl) rfl dX3_yearNeeded_1 ?_
  refine lv_iload_n hx hb dX3_yearNeeded_4 rfl (lv_at hl 1 rfl) ?_
  obtain ⟨c1, hm⟩ := hm
  refine aI hc hw 8 rfl c1 rfl dX3_yearNeeded_5 ?_
  refine lv_iload_n hx hb dX3_yearNeeded_6 rfl (lv_at hl 2 rfl) ?_
  refine lv_icmp_ne (tgt := 19) hx hb dX3_yearNeeded_7 (by decide) (fun c4 => ?_) (fun c4 => ?_)
  · have hm := hm.1 c4
    refine lv_aload_n hx hb dX3_yearNeeded_19 rfl (lv_at hl 0 rfl) ?_
    refine gF (k := 11) hc hw inX3 rfl 0 rfl (by decide) (gm 342 (by decide +kernel) rfl) rfl dX3_yearNeeded_20 ?_
    refine lv_iload_n hx hb dX3_yearNeeded_23 rfl (lv_at hl 1 rfl) ?_
    obtain ⟨c2, hm⟩ := hm
    refine aI hc hw 7 rfl c2 rfl dX3_yearNeeded_24 ?_
    exact retI (u := ()) hc hw hm dX3_yearNeeded_25
  · have hm := hm.2 c4
    refine lv_aload_n hx hb dX3_yearNeeded_10 rfl (lv_at hl 0 rfl) ?_
    refine gF (k := 13) hc hw inX3 rfl 0 rfl (by decide) (gm 345 (by decide +kernel) rfl) rfl dX3_yearNeeded_11 ?_
    refine lv_iload_n hx hb dX3_yearNeeded_14 rfl (lv_at hl 1 rfl) ?_
    obtain ⟨c3, hm⟩ := hm
    refine aI hc hw 9 rfl c3 rfl dX3_yearNeeded_15 ?_
    refine lv_goto (tgt := 25) hx hb dX3_yearNeeded_16 (by decide) ?_
    exact retI (u := ()) hc hw hm dX3_yearNeeded_25
set_option maxHeartbeats 4000000 in
set_option maxRecDepth 100000 in
theorem c_X3_yearAhead {l : Launch} {D : va_G} {cy : Nat → ClassId} {aP : Nat → Nat} {e_P_judge : Nat} {SP : Ob} {x1 : Int32} {x2 : Int32} {Q : Int32 → Prop} (hm : w_X3_yearAhead SP x1 x2 Q) : CtI l yX3_yearAhead cX3_yearAhead 4 (some .int) (rmN 2) D cy [.ref (aP 0), .int x1, .int x2] (pW cy aP e_P_judge SP) (fun _ : Unit => (pW cy aP e_P_judge SP)) (fun (r : Int32) (_ : Unit) => Q r) := by
  refine CtI.ofW (by decide) (Nat.le_of_ble_eq_true rfl) ?_
  intro p e s m args below meth c A ls hc hnm hw hl
  have hx := hc.1.1
  have hb := hc.1.2.1
  have hown := hc.1.2.2.2.1
  have hts := hc.1.2.2.2.2
  have hl : lv_has ls 4 [(0, .ref (aP 0)), (1, .int x1), (2, .int x2)] := hl
  obtain ⟨H, hH⟩ : ∃ z, z = s.heap := ⟨_, rfl⟩
  obtain ⟨locs, hLc⟩ : ∃ z : List Loc, z = [] := ⟨_, rfl⟩
  have hw : wV D A s.heap (pW cy aP e_P_judge SP) H locs := by rw [hH, hLc]; exact hw
  have hgo : W p l e (rmN 2) s m args below meth c H locs 0 0 (MQ below (eI D cy A (fun _ : Unit => (pW cy aP e_P_judge SP)) (fun (r : Int32) (_ : Unit) => Q r)) args s (rmN 2).cells (rmN 2).slots A) (F0 m 0 ls []) := ?hgo
  · rw [hH, hLc] at hgo; exact hgo
  refine lv_aload_n hx hb dX3_yearAhead_0 rfl (lv_at hl 0 rfl) ?_
  refine gF (k := 1) hc hw inX3 rfl 0 rfl (by decide) (gm 326 (by decide +kernel) rfl) rfl dX3_yearAhead_1 ?_
  refine lv_iload_n hx hb dX3_yearAhead_4 rfl (lv_at hl 1 rfl) ?_
  obtain ⟨c1, hm⟩ := hm
  refine aI hc hw 1 rfl c1 rfl dX3_yearAhead_5 ?_
  refine lv_iload_n hx hb dX3_yearAhead_6 rfl (lv_at hl 2 rfl) ?_
  refine m_max (rest := []) hc hl.1 (gm 850 (by decide +kernel) rfl) (Nat.le_of_ble_eq_true rfl) (Nat.le_of_ble_eq_true rfl) (Nat.le_of_ble_eq_true rfl) (Nat.le_of_ble_eq_true rfl) dX3_yearAhead_7 ?_
  refine lv_topi (fun v2 e_v2 => ?_)
  have hm := hm v2 e_v2
  refine lv_istore_n (lv' := [(3, .int v2), (0, .ref (aP 0)), (1, .int x1), (2, .int x2)]) hx hb dX3_yearAhead_10 rfl hl (by decide) rfl (fun ls hl => ?_)
  refine lv_iload_n hx hb dX3_yearAhead_11 rfl (lv_at hl 0 rfl) ?_
  refine lv_aload_n hx hb dX3_yearAhead_12 rfl (lv_at hl 1 rfl) ?_
  refine gF (k := 2) hc hw inX3 rfl 0 rfl (by decide) (gm 327 (by decide +kernel) rfl) rfl dX3_yearAhead_13 ?_
  refine lv_iload_n hx hb dX3_yearAhead_16 rfl (lv_at hl 2 rfl) ?_
  obtain ⟨c3, hm⟩ := hm
  refine aI hc hw 2 rfl c3 rfl dX3_yearAhead_17 ?_
  refine lv_icmp_le (tgt := 26) hx hb dX3_yearAhead_18 (by decide) (fun c5 => ?_) (fun c5 => ?_)
  · have hm := hm.1 c5
    refine lv_iload_n hx hb dX3_yearAhead_26 rfl (lv_at hl 0 rfl) ?_
    refine lv_aload_n hx hb dX3_yearAhead_27 rfl (lv_at hl 1 rfl) ?_
    refine gF (k := 4) hc hw inX3 rfl 0 rfl (by decide) (gm 330 (by decide +kernel) rfl) rfl dX3_yearAhead_28 ?_
    refine lv_iload_n hx hb dX3_yearAhead_31 rfl (lv_at hl 2 rfl) ?_
    obtain ⟨c4, hm⟩ := hm
    refine aI hc hw 4 rfl c4 rfl dX3_yearAhead_32 ?_
    refine lv_iadd hx hb dX3_yearAhead_33 ?_
    exact retI (u := ()) hc hw hm dX3_yearAhead_34
  · have hm := hm.2 c5
    refine lv_ldc (v := 100000) hx hb hown (hts _ (gm 841 (by decide +kernel) rfl)) dX3_yearAhead_21 ?_
    refine lv_goto (tgt := 34) hx hb dX3_yearAhead_23 (by decide) ?_
    exact retI (u := ()) hc hw hm dX3_yearAhead_34
set_option maxHeartbeats 4000000 in
set_option maxRecDepth 100000 in
theorem c_X3_fits {l : Launch} {D : va_G} {cy : Nat → ClassId} {aP : Nat → Nat} {e_P_judge : Nat} {SP : Ob} {x1 : Int32} {x2 : Int32} {x3 : Int32} {Q : Int32 → Prop} (hm : w_X3_fits SP x1 x2 x3 Q) : CtI l yX3_fits cX3_fits 4 (some .boolean) (rmN 1) D cy [.ref (aP 0), .int x1, .int x2, .int x3] (pW cy aP e_P_judge SP) (fun _ : Unit => (pW cy aP e_P_judge SP)) (fun (r : Int32) (_ : Unit) => Q r) := by
  refine CtI.ofW (by decide) (Nat.le_of_ble_eq_true rfl) ?_
  intro p e s m args below meth c A ls hc hnm hw hl
  have hx := hc.1.1
  have hb := hc.1.2.1
  have hown := hc.1.2.2.2.1
  have hts := hc.1.2.2.2.2
  have hl : lv_has ls 4 [(0, .ref (aP 0)), (1, .int x1), (2, .int x2), (3, .int x3)] := hl
  obtain ⟨H, hH⟩ : ∃ z, z = s.heap := ⟨_, rfl⟩
  obtain ⟨locs, hLc⟩ : ∃ z : List Loc, z = [] := ⟨_, rfl⟩
  have hw : wV D A s.heap (pW cy aP e_P_judge SP) H locs := by rw [hH, hLc]; exact hw
  have hgo : W p l e (rmN 1) s m args below meth c H locs 0 0 (MQ below (eI D cy A (fun _ : Unit => (pW cy aP e_P_judge SP)) (fun (r : Int32) (_ : Unit) => Q r)) args s (rmN 1).cells (rmN 1).slots A) (F0 m 0 ls []) := ?hgo
  · rw [hH, hLc] at hgo; exact hgo
  refine lv_iload_n hx hb dX3_fits_0 rfl (lv_at hl 1 rfl) ?_
  refine lv_if_lt (tgt := 28) hx hb dX3_fits_1 (by decide) (fun c5 => ?_) (fun c5 => ?_)
  · have hm := hm.1 c5
    refine lv_iconst (v := 0) hx hb dX3_fits_28 (by decide) ?_
    exact retZ (u := ()) hc hw rfl hm dX3_fits_29
  · have hm := hm.2 c5
    refine lv_iload_n hx hb dX3_fits_4 rfl (lv_at hl 1 rfl) ?_
    refine lv_iconst (v := 1) hx hb dX3_fits_5 (by decide) ?_
    refine lv_aload_n hx hb dX3_fits_6 rfl (lv_at hl 0 rfl) ?_
    refine gF (k := 6) hc hw inX3 rfl 0 rfl (by decide) (gm 334 (by decide +kernel) rfl) rfl dX3_fits_7 ?_
    refine lv_ishl hx hb dX3_fits_10 ?_
    refine lv_icmp_ge (tgt := 28) hx hb dX3_fits_11 (by decide) (fun c4 => ?_) (fun c4 => ?_)
    · have hm := hm.1 c4
      refine lv_iconst (v := 0) hx hb dX3_fits_28 (by decide) ?_
      exact retZ (u := ()) hc hw rfl hm dX3_fits_29
    · have hm := hm.2 c4
      refine lv_aload_n hx hb dX3_fits_14 rfl (lv_at hl 0 rfl) ?_
      refine lv_iload_n hx hb dX3_fits_15 rfl (lv_at hl 1 rfl) ?_
      refine lv_iload_n hx hb dX3_fits_16 rfl (lv_at hl 3 rfl) ?_
      refine aV_I (As := [.int x1, .int x3]) (rest := []) hc hw (c_X3_yearNeeded hm) lk_X3_111 rfl rfl ⟨Nat.le_of_ble_eq_true rfl, Nat.le_of_ble_eq_true rfl⟩ ⟨Nat.le_of_ble_eq_true rfl, Nat.le_of_ble_eq_true rfl⟩ hl.1 rfl (Nat.le_of_ble_eq_true rfl) rfl dX3_fits_17 (fun r1 _ H locs hm hw => ?_)
      have hw : wV D A s.heap (pW cy aP e_P_judge SP) H locs := hw
      refine lv_iload_n hx hb dX3_fits_20 rfl (lv_at hl 2 rfl) ?_
      refine lv_icmp_gt (tgt := 28) hx hb dX3_fits_21 (by decide) (fun c3 => ?_) (fun c3 => ?_)
      · have hm := hm.1 c3
        refine lv_iconst (v := 0) hx hb dX3_fits_28 (by decide) ?_
        exact retZ (u := ()) hc hw rfl hm dX3_fits_29
      · have hm := hm.2 c3
        refine lv_iconst (v := 1) hx hb dX3_fits_24 (by decide) ?_
        refine lv_goto (tgt := 29) hx hb dX3_fits_25 (by decide) ?_
        exact retZ (u := ()) hc hw rfl hm dX3_fits_29
set_option maxHeartbeats 4000000 in
set_option maxRecDepth 100000 in
theorem c_X3_yearOf {l : Launch} {D : va_G} {cy : Nat → ClassId} {aP : Nat → Nat} {e_P_judge : Nat} {SP : Ob} {x1 : Int32} {x2 : Int32} {Q : Int32 → Prop} (hm : w_X3_yearOf SP x1 x2 Q) : CtI l yX3_yearOf cX3_yearOf 4 (some .int) (rmN 2) D cy [.ref (aP 0), .int x1, .int x2] (pW cy aP e_P_judge SP) (fun _ : Unit => (pW cy aP e_P_judge SP)) (fun (r : Int32) (_ : Unit) => Q r) := by
  refine CtI.ofW (by decide) (Nat.le_of_ble_eq_true rfl) ?_
  intro p e s m args below meth c A ls hc hnm hw hl
  have hx := hc.1.1
  have hb := hc.1.2.1
  have hown := hc.1.2.2.2.1
  have hts := hc.1.2.2.2.2
  have hl : lv_has ls 4 [(0, .ref (aP 0)), (1, .int x1), (2, .int x2)] := hl
  obtain ⟨H, hH⟩ : ∃ z, z = s.heap := ⟨_, rfl⟩
  obtain ⟨locs, hLc⟩ : ∃ z : List Loc, z = [] := ⟨_, rfl⟩
  have hw : wV D A s.heap (pW cy aP e_P_judge SP) H locs := by rw [hH, hLc]; exact hw
  have hgo : W p l e (rmN 2) s m args below meth c H locs 0 0 (MQ below (eI D cy A (fun _ : Unit => (pW cy aP e_P_judge SP)) (fun (r : Int32) (_ : Unit) => Q r)) args s (rmN 2).cells (rmN 2).slots A) (F0 m 0 ls []) := ?hgo
  · rw [hH, hLc] at hgo; exact hgo
  refine lv_aload_n hx hb dX3_yearOf_0 rfl (lv_at hl 0 rfl) ?_
  refine gF (k := 2) hc hw inX3 rfl 0 rfl (by decide) (gm 327 (by decide +kernel) rfl) rfl dX3_yearOf_1 ?_
  refine lv_iload_n hx hb dX3_yearOf_4 rfl (lv_at hl 1 rfl) ?_
  obtain ⟨c1, hm⟩ := hm
  refine aI hc hw 2 rfl c1 rfl dX3_yearOf_5 ?_
  refine lv_iload_n hx hb dX3_yearOf_6 rfl (lv_at hl 2 rfl) ?_
  refine lv_aload_n hx hb dX3_yearOf_7 rfl (lv_at hl 0 rfl) ?_
  refine gF (k := 4) hc hw inX3 rfl 0 rfl (by decide) (gm 330 (by decide +kernel) rfl) rfl dX3_yearOf_8 ?_
  refine lv_iload_n hx hb dX3_yearOf_11 rfl (lv_at hl 1 rfl) ?_
  obtain ⟨c2, hm⟩ := hm
  refine aI hc hw 4 rfl c2 rfl dX3_yearOf_12 ?_
  refine lv_isub hx hb dX3_yearOf_13 ?_
  refine m_min (rest := []) hc hl.1 (gm 781 (by decide +kernel) rfl) (Nat.le_of_ble_eq_true rfl) (Nat.le_of_ble_eq_true rfl) (Nat.le_of_ble_eq_true rfl) (Nat.le_of_ble_eq_true rfl) dX3_yearOf_14 ?_
  refine lv_topi (fun v3 e_v3 => ?_)
  have hm := hm v3 e_v3
  refine lv_istore_n (lv' := [(3, .int v3), (0, .ref (aP 0)), (1, .int x1), (2, .int x2)]) hx hb dX3_yearOf_17 rfl hl (by decide) rfl (fun ls hl => ?_)
  refine lv_iload_n hx hb dX3_yearOf_18 rfl (lv_at hl 0 rfl) ?_
  refine lv_aload_n hx hb dX3_yearOf_19 rfl (lv_at hl 1 rfl) ?_
  refine gF (k := 1) hc hw inX3 rfl 0 rfl (by decide) (gm 326 (by decide +kernel) rfl) rfl dX3_yearOf_20 ?_
  refine lv_iload_n hx hb dX3_yearOf_23 rfl (lv_at hl 2 rfl) ?_
  obtain ⟨c4, hm⟩ := hm
  refine aI hc hw 1 rfl c4 rfl dX3_yearOf_24 ?_
  refine lv_icmp_ge (tgt := 32) hx hb dX3_yearOf_25 (by decide) (fun c5 => ?_) (fun c5 => ?_)
  · have hm := hm.1 c5
    refine lv_iload_n hx hb dX3_yearOf_32 rfl (lv_at hl 0 rfl) ?_
    exact retI (u := ()) hc hw hm dX3_yearOf_33
  · have hm := hm.2 c5
    refine lv_iconst (v := (-1)) hx hb dX3_yearOf_28 (by decide) ?_
    refine lv_goto (tgt := 33) hx hb dX3_yearOf_29 (by decide) ?_
    exact retI (u := ()) hc hw hm dX3_yearOf_33
set_option maxHeartbeats 4000000 in
set_option maxRecDepth 100000 in
theorem c_X3_followers {l : Launch} {D : va_G} {cy : Nat → ClassId} {aP : Nat → Nat} {e_P_judge : Nat} {SP : Ob} {x1 : Int32} {x2 : Int32} {Q : Int32 → Prop} (hm : w_X3_followers SP x1 x2 Q) : CtI l yX3_followers cX3_followers 3 (some .int) (rmN 1) D cy [.ref (aP 0), .int x1, .int x2] (pW cy aP e_P_judge SP) (fun _ : Unit => (pW cy aP e_P_judge SP)) (fun (r : Int32) (_ : Unit) => Q r) := by
  refine CtI.ofW (by decide) (Nat.le_of_ble_eq_true rfl) ?_
  intro p e s m args below meth c A ls hc hnm hw hl
  have hx := hc.1.1
  have hb := hc.1.2.1
  have hown := hc.1.2.2.2.1
  have hts := hc.1.2.2.2.2
  have hl : lv_has ls 3 [(0, .ref (aP 0)), (1, .int x1), (2, .int x2)] := hl
  obtain ⟨H, hH⟩ : ∃ z, z = s.heap := ⟨_, rfl⟩
  obtain ⟨locs, hLc⟩ : ∃ z : List Loc, z = [] := ⟨_, rfl⟩
  have hw : wV D A s.heap (pW cy aP e_P_judge SP) H locs := by rw [hH, hLc]; exact hw
  have hgo : W p l e (rmN 1) s m args below meth c H locs 0 0 (MQ below (eI D cy A (fun _ : Unit => (pW cy aP e_P_judge SP)) (fun (r : Int32) (_ : Unit) => Q r)) args s (rmN 1).cells (rmN 1).slots A) (F0 m 0 ls []) := ?hgo
  · rw [hH, hLc] at hgo; exact hgo
  refine lv_aload_n hx hb dX3_followers_0 rfl (lv_at hl 0 rfl) ?_
  refine gF (k := 7) hc hw inX3 rfl 0 rfl (by decide) (gm 336 (by decide +kernel) rfl) rfl dX3_followers_1 ?_
  refine lv_if_ne (tgt := 15) hx hb dX3_followers_4 (by decide) (fun c7 => ?_) (fun c7 => ?_)
  · have hm := hm.1 c7
    refine lv_aload_n hx hb dX3_followers_15 rfl (lv_at hl 0 rfl) ?_
    refine gF (k := 5) hc hw inX3 rfl 0 rfl (by decide) (gm 332 (by decide +kernel) rfl) rfl dX3_followers_16 ?_
    refine lv_iload_n hx hb dX3_followers_19 rfl (lv_at hl 1 rfl) ?_
    obtain ⟨c1, hm⟩ := hm
    refine aI hc hw 5 rfl c1 rfl dX3_followers_20 ?_
    exact retI (u := ()) hc hw hm dX3_followers_21
  · have hm := hm.2 c7
    refine lv_iload_n hx hb dX3_followers_7 rfl (lv_at hl 2 rfl) ?_
    refine zS_I (As := [.int x2]) (rest := []) hc hw (c_J6_bitCount_0f7a4 hm) lk_X3_126 ⟨Nat.le_of_ble_eq_true rfl, Nat.le_of_ble_eq_true rfl⟩ ⟨Nat.le_of_ble_eq_true rfl, Nat.le_of_ble_eq_true rfl⟩ hl.1 rfl (Nat.le_of_ble_eq_true rfl) rfl dX3_followers_8 (fun r2 H locs hm hw => ?_)
    refine lv_iconst (v := 1) hx hb dX3_followers_11 (by decide) ?_
    refine lv_icmp_le (tgt := 22) hx hb dX3_followers_12 (by decide) (fun c6 => ?_) (fun c6 => ?_)
    · have hm := hm.1 c6
      refine lv_aload_n hx hb dX3_followers_22 rfl (lv_at hl 0 rfl) ?_
      refine gF (k := 5) hc hw inX3 rfl 0 rfl (by decide) (gm 332 (by decide +kernel) rfl) rfl dX3_followers_23 ?_
      refine lv_iload_n hx hb dX3_followers_26 rfl (lv_at hl 1 rfl) ?_
      obtain ⟨c4, hm⟩ := hm
      refine aI hc hw 5 rfl c4 rfl dX3_followers_27 ?_
      refine lv_iload_n hx hb dX3_followers_28 rfl (lv_at hl 2 rfl) ?_
      refine lv_iconst (v := (-1)) hx hb dX3_followers_29 (by decide) ?_
      refine lv_ixor hx hb dX3_followers_30 ?_
      refine lv_iand hx hb dX3_followers_31 ?_
      exact retI (u := ()) hc hw hm dX3_followers_32
    · have hm := hm.2 c6
      refine lv_aload_n hx hb dX3_followers_15 rfl (lv_at hl 0 rfl) ?_
      refine gF (k := 5) hc hw inX3 rfl 0 rfl (by decide) (gm 332 (by decide +kernel) rfl) rfl dX3_followers_16 ?_
      refine lv_iload_n hx hb dX3_followers_19 rfl (lv_at hl 1 rfl) ?_
      obtain ⟨c5, hm⟩ := hm
      refine aI hc hw 5 rfl c5 rfl dX3_followers_20 ?_
      exact retI (u := ()) hc hw hm dX3_followers_21
set_option maxHeartbeats 4000000 in
set_option maxRecDepth 100000 in
theorem c_X3_leaders {l : Launch} {D : va_G} {cy : Nat → ClassId} {aP : Nat → Nat} {e_P_judge : Nat} {SP : Ob} {x1 : Int32} {x2 : Int32} {Q : Int32 → Prop} (hm : w_X3_leaders SP x1 x2 Q) : CtI l yX3_leaders cX3_leaders 3 (some .int) (rmN 1) D cy [.ref (aP 0), .int x1, .int x2] (pW cy aP e_P_judge SP) (fun _ : Unit => (pW cy aP e_P_judge SP)) (fun (r : Int32) (_ : Unit) => Q r) := by
  refine CtI.ofW (by decide) (Nat.le_of_ble_eq_true rfl) ?_
  intro p e s m args below meth c A ls hc hnm hw hl
  have hx := hc.1.1
  have hb := hc.1.2.1
  have hown := hc.1.2.2.2.1
  have hts := hc.1.2.2.2.2
  have hl : lv_has ls 3 [(0, .ref (aP 0)), (1, .int x1), (2, .int x2)] := hl
  obtain ⟨H, hH⟩ : ∃ z, z = s.heap := ⟨_, rfl⟩
  obtain ⟨locs, hLc⟩ : ∃ z : List Loc, z = [] := ⟨_, rfl⟩
  have hw : wV D A s.heap (pW cy aP e_P_judge SP) H locs := by rw [hH, hLc]; exact hw
  have hgo : W p l e (rmN 1) s m args below meth c H locs 0 0 (MQ below (eI D cy A (fun _ : Unit => (pW cy aP e_P_judge SP)) (fun (r : Int32) (_ : Unit) => Q r)) args s (rmN 1).cells (rmN 1).slots A) (F0 m 0 ls []) := ?hgo
  · rw [hH, hLc] at hgo; exact hgo
  refine lv_aload_n hx hb dX3_leaders_0 rfl (lv_at hl 0 rfl) ?_
  refine gF (k := 7) hc hw inX3 rfl 0 rfl (by decide) (gm 336 (by decide +kernel) rfl) rfl dX3_leaders_1 ?_
  refine lv_if_ne (tgt := 15) hx hb dX3_leaders_4 (by decide) (fun c7 => ?_) (fun c7 => ?_)
  · have hm := hm.1 c7
    refine lv_aload_n hx hb dX3_leaders_15 rfl (lv_at hl 0 rfl) ?_
    refine gF (k := 5) hc hw inX3 rfl 0 rfl (by decide) (gm 332 (by decide +kernel) rfl) rfl dX3_leaders_16 ?_
    refine lv_iload_n hx hb dX3_leaders_19 rfl (lv_at hl 1 rfl) ?_
    obtain ⟨c1, hm⟩ := hm
    refine aI hc hw 5 rfl c1 rfl dX3_leaders_20 ?_
    exact retI (u := ()) hc hw hm dX3_leaders_21
  · have hm := hm.2 c7
    refine lv_iload_n hx hb dX3_leaders_7 rfl (lv_at hl 2 rfl) ?_
    refine zS_I (As := [.int x2]) (rest := []) hc hw (c_J6_bitCount_0f7a4 hm) lk_X3_126 ⟨Nat.le_of_ble_eq_true rfl, Nat.le_of_ble_eq_true rfl⟩ ⟨Nat.le_of_ble_eq_true rfl, Nat.le_of_ble_eq_true rfl⟩ hl.1 rfl (Nat.le_of_ble_eq_true rfl) rfl dX3_leaders_8 (fun r2 H locs hm hw => ?_)
    refine lv_iconst (v := 1) hx hb dX3_leaders_11 (by decide) ?_
    refine lv_icmp_le (tgt := 22) hx hb dX3_leaders_12 (by decide) (fun c6 => ?_) (fun c6 => ?_)
    · have hm := hm.1 c6
      refine lv_aload_n hx hb dX3_leaders_22 rfl (lv_at hl 0 rfl) ?_
      refine gF (k := 5) hc hw inX3 rfl 0 rfl (by decide) (gm 332 (by decide +kernel) rfl) rfl dX3_leaders_23 ?_
      refine lv_iload_n hx hb dX3_leaders_26 rfl (lv_at hl 1 rfl) ?_
      obtain ⟨c4, hm⟩ := hm
      refine aI hc hw 5 rfl c4 rfl dX3_leaders_27 ?_
      refine lv_iload_n hx hb dX3_leaders_28 rfl (lv_at hl 2 rfl) ?_
      refine lv_iconst (v := (-1)) hx hb dX3_leaders_29 (by decide) ?_
      refine lv_ixor hx hb dX3_leaders_30 ?_
      refine lv_iand hx hb dX3_leaders_31 ?_
      exact retI (u := ()) hc hw hm dX3_leaders_32
    · have hm := hm.2 c6
      refine lv_aload_n hx hb dX3_leaders_15 rfl (lv_at hl 0 rfl) ?_
      refine gF (k := 5) hc hw inX3 rfl 0 rfl (by decide) (gm 332 (by decide +kernel) rfl) rfl dX3_leaders_16 ?_
      refine lv_iload_n hx hb dX3_leaders_19 rfl (lv_at hl 1 rfl) ?_
      obtain ⟨c5, hm⟩ := hm
      refine aI hc hw 5 rfl c5 rfl dX3_leaders_20 ?_
      exact retI (u := ()) hc hw hm dX3_leaders_21
set_option maxHeartbeats 4000000 in
set_option maxRecDepth 100000 in
theorem c_X3_lowestBit {l : Launch} {D : va_G} {cy : Nat → ClassId} {x0 : Int32} {Q : Int32 → Prop} (hm : w_X3_lowestBit x0 Q) : CtI l yX3_lowestBit cX3_lowestBit 2 (some .int) (rmN 0) D cy [.int x0] ([] : va_W) (fun _ : Unit => ([] : va_W)) (fun (r : Int32) (_ : Unit) => Q r) := by
  refine CtI.ofW (by decide) (Nat.le_of_ble_eq_true rfl) ?_
  intro p e s m args below meth c A ls hc hnm hw hl
  have hx := hc.1.1
  have hb := hc.1.2.1
  have hown := hc.1.2.2.2.1
  have hts := hc.1.2.2.2.2
  have hl : lv_has ls 2 [(0, .int x0)] := hl
  obtain ⟨H, hH⟩ : ∃ z, z = s.heap := ⟨_, rfl⟩
  obtain ⟨locs, hLc⟩ : ∃ z : List Loc, z = [] := ⟨_, rfl⟩
  have hw : wV D A s.heap ([] : va_W) H locs := by rw [hH, hLc]; exact hw
  have hgo : W p l e (rmN 0) s m args below meth c H locs 0 0 (MQ below (eI D cy A (fun _ : Unit => ([] : va_W)) (fun (r : Int32) (_ : Unit) => Q r)) args s (rmN 0).cells (rmN 0).slots A) (F0 m 0 ls []) := ?hgo
  · rw [hH, hLc] at hgo; exact hgo
  refine lv_iconst (v := 0) hx hb dX3_lowestBit_0 (by decide) ?_
  refine lv_istore_n (lv' := [(1, .int 0), (0, .int x0)]) hx hb dX3_lowestBit_1 rfl hl (by decide) rfl (fun ls hl => ?_)
  refine wl1_ind (G := fun (x1_1 : Int32) => ∀ (H : Heap) (locs : List Loc) (ls : Array Slot), wV D A s.heap ([] : va_W) H locs → lv_has ls 2 [(1, .int x1_1), (0, .int x0)] → W p l e (rmN 0) s m args below meth c H locs 0 0 (MQ below (eI D cy A (fun _ : Unit => ([] : va_W)) (fun (r : Int32) (_ : Unit) => Q r)) args s (rmN 0).cells (rmN 0).slots A) (F0 m 2 ls [])) ?_ _ hm H locs ls hw (lv_sub hl [0, 1] rfl)
  intro L2 ih2 x1_1 hm H locs ls hw hl
  refine lv_iload_n hx hb dX3_lowestBit_2 rfl (lv_at hl 0 rfl) ?_
  refine lv_iconst (v := 4) hx hb dX3_lowestBit_3 (by decide) ?_
  refine lv_icmp_ge (tgt := 23) hx hb dX3_lowestBit_4 (by decide) (fun c5 => ?_) (fun c5 => ?_)
  · have hm := hm.1 c5
    refine lv_iconst (v := 4) hx hb dX3_lowestBit_23 (by decide) ?_
    exact retI (u := ()) hc hw hm dX3_lowestBit_24
  · have hm := hm.2 c5
    refine lv_iload_n hx hb dX3_lowestBit_7 rfl (lv_at hl 1 rfl) ?_
    refine lv_iload_n hx hb dX3_lowestBit_8 rfl (lv_at hl 0 rfl) ?_
    refine lv_ishr hx hb dX3_lowestBit_9 ?_
    refine lv_iconst (v := 1) hx hb dX3_lowestBit_10 (by decide) ?_
    refine lv_iand hx hb dX3_lowestBit_11 ?_
    refine lv_if_eq (tgt := 17) hx hb dX3_lowestBit_12 (by decide) (fun c4 => ?_) (fun c4 => ?_)
    · have hm := hm.1 c4
      obtain ⟨v3, e_v3⟩ : ∃ z : Int32, z = x1_1 + 1 := ⟨_, rfl⟩
      have hm := hm v3 e_v3
      refine lv_iinc (v := v3) (lv' := [(1, .int v3), (0, .int x0)]) hx hb dX3_lowestBit_17 hl (k := 0) rfl (by rw [e_v3]; rfl) (by decide) rfl (fun ls hl => ?_)
      refine lv_goto (tgt := 2) hx hb dX3_lowestBit_20 (by decide) ?_
      exact ih2 _ hm _ _ _ hw (lv_sub hl [0, 1] rfl)
    · have hm := hm.2 c4
      refine lv_iload_n hx hb dX3_lowestBit_15 rfl (lv_at hl 0 rfl) ?_
      exact retI (u := ()) hc hw hm dX3_lowestBit_16
set_option maxHeartbeats 4000000 in
set_option maxRecDepth 100000 in
theorem c_X3_weigh {l : Launch} {D : va_G} {cy : Nat → ClassId} {aP : Nat → Nat} {aJ : Nat → Nat} {aB : Nat → Nat} {als : Nat → Nat} {aLw : Nat → Nat} {e_B_told : Nat} {e_B_mentions : Nat} {e_B_claims : Nat} {SP : Ob} {SJ : Ob} {SB : Ob} {Sls : (Nat → Option Nat)} {SLw : Lw} {Q : Ob → Ob → Prop} (hm : w_X3_weigh aLw SP SJ SB Sls SLw Q) : CtV l yX3_weigh cX3_weigh 5 none (rmN 4) D cy [.ref (aP 0), .ref (aB 0)] ((pW cy aP (aJ 0) SP) ++ ((jW cy aJ SJ) ++ ((bW cy aB (als 0) e_B_told e_B_mentions e_B_claims SB) ++ ((lsW cy als Sls) ++ (lwW cy aLw SLw))))) (fun u : Ob × Ob => ((pW cy aP (aJ 0) u.1) ++ ((jW cy aJ u.2) ++ ((bW cy aB (als 0) e_B_told e_B_mentions e_B_claims SB) ++ ((lsW cy als Sls) ++ (lwW cy aLw SLw)))))) (fun (u : Ob × Ob) => Q u.1 u.2) := by
  refine CtV.ofW (by decide) (Nat.le_of_ble_eq_true rfl) ?_
  intro p e s m args below meth c A ls hc hnm hw hl
  have hx := hc.1.1
  have hb := hc.1.2.1
  have hown := hc.1.2.2.2.1
  have hts := hc.1.2.2.2.2
  have hl : lv_has ls 5 [(0, .ref (aP 0)), (1, .ref (aB 0))] := hl
  obtain ⟨H, hH⟩ : ∃ z, z = s.heap := ⟨_, rfl⟩
  obtain ⟨locs, hLc⟩ : ∃ z : List Loc, z = [] := ⟨_, rfl⟩
  have hw : wV D A s.heap ((pW cy aP (aJ 0) SP) ++ ((jW cy aJ SJ) ++ ((bW cy aB (als 0) e_B_told e_B_mentions e_B_claims SB) ++ ((lsW cy als Sls) ++ (lwW cy aLw SLw))))) H locs := by rw [hH, hLc]; exact hw
  have hgo : W p l e (rmN 4) s m args below meth c H locs 0 0 (MQ below (eV D cy A (fun u : Ob × Ob => ((pW cy aP (aJ 0) u.1) ++ ((jW cy aJ u.2) ++ ((bW cy aB (als 0) e_B_told e_B_mentions e_B_claims SB) ++ ((lsW cy als Sls) ++ (lwW cy aLw SLw)))))) (fun (u : Ob × Ob) => Q u.1 u.2)) args s (rmN 4).cells (rmN 4).slots A) (F0 m 0 ls []) := ?hgo
  · rw [hH, hLc] at hgo; exact hgo
  refine lv_aload_n hx hb dX3_weigh_0 rfl (lv_at hl 0 rfl) ?_
  refine gF (k := 8) hc hw inX3 rfl 0 rfl (by decide) (gm 337 (by decide +kernel) rfl) rfl dX3_weigh_1 ?_
  refine lv_if_eq (tgt := 8) hx hb dX3_weigh_4 (by decide) (fun c56 => ?_) (fun c56 => ?_)
  · have hm := hm.1 c56
    refine lv_aload_n hx hb dX3_weigh_8 rfl (lv_at hl 0 rfl) ?_
    refine lv_iconst (v := 1) hx hb dX3_weigh_9 (by decide) ?_
    refine pF (k := 8) (ty := .boolean) hc hw inX3 tyX3_ok nmX3 rfl 0 rfl (by decide) (gm 337 (by decide +kernel) rfl) rfl (by decide +kernel) rfl rfl (Nat.le_of_ble_eq_true rfl) dX3_weigh_10 (fun H locs hw => ?_)
    obtain ⟨S1, e_S1⟩ : ∃ z : Ob, z = uS SP 8 1 := ⟨_, rfl⟩
    have hm := hm S1 e_S1
    have hw : wV D A s.heap ((pW cy aP (aJ 0) S1) ++ ((jW cy aJ SJ) ++ ((bW cy aB (als 0) e_B_told e_B_mentions e_B_claims SB) ++ ((lsW cy als Sls) ++ (lwW cy aLw SLw))))) H locs := by rw [e_S1]; exact hw
    refine lv_aload_n hx hb dX3_weigh_13 rfl (lv_at hl 0 rfl) ?_
    refine lv_aload_n hx hb dX3_weigh_14 rfl (lv_at hl 1 rfl) ?_
    refine gN (k := 4) (host := "OlderTale") hc hw inX6 rfl 14 rfl (by decide) (nmm 214 (by decide +kernel)) rfl dX3_weigh_15 ?_
    refine pF (k := 6) (ty := .int) hc hw inX3 tyX3_ok nmX3 rfl 0 rfl (by decide) (gm 334 (by decide +kernel) rfl) rfl (by decide +kernel) rfl rfl (Nat.le_of_ble_eq_true rfl) dX3_weigh_18 (fun H locs hw => ?_)
    obtain ⟨S2, e_S2⟩ : ∃ z : Ob, z = uS S1 6 (SB.1 4) := ⟨_, rfl⟩
    have hm := hm S2 e_S2
    have hw : wV D A s.heap ((pW cy aP (aJ 0) S2) ++ ((jW cy aJ SJ) ++ ((bW cy aB (als 0) e_B_told e_B_mentions e_B_claims SB) ++ ((lsW cy als Sls) ++ (lwW cy aLw SLw))))) H locs := by rw [e_S2]; exact hw
    refine lv_aload_n hx hb dX3_weigh_21 rfl (lv_at hl 0 rfl) ?_
    refine lv_aload_n hx hb dX3_weigh_22 rfl (lv_at hl 1 rfl) ?_
    refine gN (k := 5) (host := "OlderTale") hc hw inX6 rfl 14 rfl (by decide) (nmm 217 (by decide +kernel)) rfl dX3_weigh_23 ?_
    refine lv_iconst (v := 1) hx hb dX3_weigh_26 (by decide) ?_
    refine aI hc hw 19 rfl (vin (by decide)) (j := 1) (by decide) dX3_weigh_27 ?_
    refine lv_iconst (v := 1) hx hb dX3_weigh_28 (by decide) ?_
    obtain ⟨J4, eJ4, hm⟩ := jn_e hm
    have hJ4 : ∀ (t3 : Int32) (_ : J4 t3) (H : Heap) (locs : List Loc) (ls : Array Slot), wV D A s.heap ((pW cy aP (aJ 0) S2) ++ ((jW cy aJ SJ) ++ ((bW cy aB (als 0) e_B_told e_B_mentions e_B_claims SB) ++ ((lsW cy als Sls) ++ (lwW cy aLw SLw))))) H locs → lv_has ls 5 [(0, .ref (aP 0)), (1, .ref (aB 0))] → W p l e (rmN 4) s m args below meth c H locs 0 0 (MQ below (eV D cy A (fun u : Ob × Ob => ((pW cy aP (aJ 0) u.1) ++ ((jW cy aJ u.2) ++ ((bW cy aB (als 0) e_B_told e_B_mentions e_B_claims SB) ++ ((lsW cy als Sls) ++ (lwW cy aLw SLw)))))) (fun (u : Ob × Ob) => Q u.1 u.2)) args s (rmN 4).cells (rmN 4).slots A) (F0 m 37 ls [.int t3, .ref (aP 0)]) := by
      intro t3 hm H locs ls hw hl
      rw [eJ4] at hm
      obtain ⟨c5, c6, hm⟩ := hm
      refine pF (k := 7) (ty := .boolean) hc hw inX3 tyX3_ok nmX3 rfl 0 rfl (by decide) (gm 336 (by decide +kernel) rfl) rfl (by decide +kernel) c5 c6 (Nat.le_of_ble_eq_true rfl) dX3_weigh_37 (fun H locs hw => ?_)
      obtain ⟨S7, e_S7⟩ : ∃ z : Ob, z = uS S2 7 t3 := ⟨_, rfl⟩
      have hm := hm S7 e_S7
      have hw : wV D A s.heap ((pW cy aP (aJ 0) S7) ++ ((jW cy aJ SJ) ++ ((bW cy aB (als 0) e_B_told e_B_mentions e_B_claims SB) ++ ((lsW cy als Sls) ++ (lwW cy aLw SLw))))) H locs := by rw [e_S7]; exact hw
      refine lv_aload_n hx hb dX3_weigh_40 rfl (lv_at hl 1 rfl) ?_
      refine nVN_Q (As := []) (rest := []) (wc := ((bW cy aB (als 0) e_B_told e_B_mentions e_B_claims SB) ++ (lsW cy als Sls))) (wr := ((pW cy aP (aJ 0) S7) ++ ((jW cy aJ SJ) ++ (lwW cy aLw SLw)))) (isC := [14, 15, 16, 17, 18, 19, 20]) (isR := [0, 1, 2, 3, 4, 5, 6, 7, 8, 9, 10, 11, 12, 13, 21, 22, 23, 24, 25]) hc hw (c_X6_lawInForce hm) lk_X3_78 ⟨rfl, rfl, rfl, rfl, by decide⟩ rfl rfl ⟨Nat.le_of_ble_eq_true rfl, Nat.le_of_ble_eq_true rfl⟩ ⟨Nat.le_of_ble_eq_true rfl, Nat.le_of_ble_eq_true rfl⟩ hl.1 rfl (Nat.le_of_ble_eq_true rfl) rfl dX3_weigh_41 (fun r8 _ H locs hm hw => ?_)
      have hw : wV D A s.heap ((pW cy aP (aJ 0) S7) ++ ((jW cy aJ SJ) ++ ((bW cy aB (als 0) e_B_told e_B_mentions e_B_claims SB) ++ ((lsW cy als Sls) ++ (lwW cy aLw SLw))))) H locs := hw.perm [0, 1, 2, 3, 4, 5, 6, 7, 8, 9, 10, 11, 12, 13, 19, 20, 21, 22, 23, 24, 25, 14, 15, 16, 17, 18] rfl rfl
      obtain ⟨c10, hm⟩ := hm
      rw [c10]
      refine W.eq (g2 := F0 _ _ _ (.ref (aLw 0) :: _)) rfl ?_
      refine lv_astore_n (lv' := [(2, .ref (aLw 0)), (0, .ref (aP 0)), (1, .ref (aB 0))]) hx hb dX3_weigh_44 rfl hl (by decide) rfl (fun ls hl => ?_)
      refine lv_iconst (v := 0) hx hb dX3_weigh_45 (by decide) ?_
      refine lv_istore_n (lv' := [(3, .int 0), (2, .ref (aLw 0)), (0, .ref (aP 0)), (1, .ref (aB 0))]) hx hb dX3_weigh_46 rfl hl (by decide) rfl (fun ls hl => ?_)
      refine wl3_ind (G := fun (x3_11 : Int32) (S12 : Ob) (S13 : Ob) => ∀ (H : Heap) (locs : List Loc) (ls : Array Slot), wV D A s.heap ((pW cy aP (aJ 0) S12) ++ ((jW cy aJ S13) ++ ((bW cy aB (als 0) e_B_told e_B_mentions e_B_claims SB) ++ ((lsW cy als Sls) ++ (lwW cy aLw SLw))))) H locs → lv_has ls 5 [(3, .int x3_11), (2, .ref (aLw 0)), (0, .ref (aP 0)), (1, .ref (aB 0))] → W p l e (rmN 4) s m args below meth c H locs 0 0 (MQ below (eV D cy A (fun u : Ob × Ob => ((pW cy aP (aJ 0) u.1) ++ ((jW cy aJ u.2) ++ ((bW cy aB (als 0) e_B_told e_B_mentions e_B_claims SB) ++ ((lsW cy als Sls) ++ (lwW cy aLw SLw)))))) (fun (u : Ob × Ob) => Q u.1 u.2)) args s (rmN 4).cells (rmN 4).slots A) (F0 m 47 ls [])) ?_ _ _ _ hm H locs ls hw (lv_sub hl [0, 1, 2, 3] rfl)
      intro L14 ih14 x3_11 S12 S13 hm H locs ls hw hl
      refine lv_iload_n hx hb dX3_weigh_47 rfl (lv_at hl 0 rfl) ?_
      refine lv_aload_n hx hb dX3_weigh_48 rfl (lv_at hl 2 rfl) ?_
      refine gF (k := 6) hc hw inX3 rfl 0 rfl (by decide) (gm 334 (by decide +kernel) rfl) rfl dX3_weigh_49 ?_
      refine lv_icmp_ge (tgt := 204) hx hb dX3_weigh_52 (by decide) (fun c54 => ?_) (fun c54 => ?_)
      · have hm := hm.1 c54
        exact retV (u := (S12, S13)) hc hw hm dX3_weigh_204
      · have hm := hm.2 c54
        refine lv_aload_n hx hb dX3_weigh_55 rfl (lv_at hl 2 rfl) ?_
        refine gF (k := 1) hc hw inX3 rfl 0 rfl (by decide) (gm 326 (by decide +kernel) rfl) rfl dX3_weigh_56 ?_
        refine lv_iload_n hx hb dX3_weigh_59 rfl (lv_at hl 0 rfl) ?_
        refine lv_aload_n hx hb dX3_weigh_60 rfl (lv_at hl 3 rfl) ?_
        refine gN (k := 0) (host := "OlderTale") hc hw inX6 rfl 14 rfl (by decide) (nmm 198 (by decide +kernel)) rfl dX3_weigh_61 ?_
        refine lv_iload_n hx hb dX3_weigh_64 rfl (lv_at hl 0 rfl) ?_
        obtain ⟨c15, hm⟩ := hm
        refine aI hc hw 15 rfl c15 rfl dX3_weigh_65 ?_
        obtain ⟨c16, hm⟩ := hm
        refine sI hc hw 1 rfl c16 rfl dX3_weigh_66 (fun H locs hw => ?_)
        obtain ⟨S17, e_S17⟩ : ∃ z : Ob, z = uA S12 1 (Int32.toNatClampNeg x3_11) (SB.2 0 (Int32.toNatClampNeg x3_11)) := ⟨_, rfl⟩
        have hm := hm S17 e_S17
        have hw : wV D A s.heap ((pW cy aP (aJ 0) S17) ++ ((jW cy aJ S13) ++ ((bW cy aB (als 0) e_B_told e_B_mentions e_B_claims SB) ++ ((lsW cy als Sls) ++ (lwW cy aLw SLw))))) H locs := by rw [e_S17]; exact hw
        refine lv_aload_n hx hb dX3_weigh_67 rfl (lv_at hl 2 rfl) ?_
        refine gF (k := 2) hc hw inX3 rfl 0 rfl (by decide) (gm 327 (by decide +kernel) rfl) rfl dX3_weigh_68 ?_
        refine lv_iload_n hx hb dX3_weigh_71 rfl (lv_at hl 0 rfl) ?_
        refine lv_aload_n hx hb dX3_weigh_72 rfl (lv_at hl 3 rfl) ?_
        refine gN (k := 1) (host := "OlderTale") hc hw inX6 rfl 14 rfl (by decide) (nmm 203 (by decide +kernel)) rfl dX3_weigh_73 ?_
        refine lv_iload_n hx hb dX3_weigh_76 rfl (lv_at hl 0 rfl) ?_
        obtain ⟨c18, hm⟩ := hm
        refine aI hc hw 16 rfl c18 rfl dX3_weigh_77 ?_
        obtain ⟨c19, hm⟩ := hm
        refine sI hc hw 2 rfl c19 rfl dX3_weigh_78 (fun H locs hw => ?_)
        obtain ⟨S20, e_S20⟩ : ∃ z : Ob, z = uA S17 2 (Int32.toNatClampNeg x3_11) (SB.2 1 (Int32.toNatClampNeg x3_11)) := ⟨_, rfl⟩
        have hm := hm S20 e_S20
        have hw : wV D A s.heap ((pW cy aP (aJ 0) S20) ++ ((jW cy aJ S13) ++ ((bW cy aB (als 0) e_B_told e_B_mentions e_B_claims SB) ++ ((lsW cy als Sls) ++ (lwW cy aLw SLw))))) H locs := by rw [e_S20]; exact hw
        refine lv_aload_n hx hb dX3_weigh_79 rfl (lv_at hl 2 rfl) ?_
        refine gF (k := 0) hc hw inX3 rfl 0 rfl (by decide) (gm 325 (by decide +kernel) rfl) rfl dX3_weigh_80 ?_
        refine lv_aload_n hx hb dX3_weigh_83 rfl (lv_at hl 3 rfl) ?_
        refine lv_iload_n hx hb dX3_weigh_84 rfl (lv_at hl 0 rfl) ?_
        refine nVN_V (As := [.ref (aB 0), .int x3_11]) (rest := []) (wc := ((jW cy aJ S13) ++ (bW cy aB (als 0) e_B_told e_B_mentions e_B_claims SB))) (wr := ((pW cy aP (aJ 0) S20) ++ ((lsW cy als Sls) ++ (lwW cy aLw SLw)))) (isC := [11, 12, 13, 14, 15, 16, 17, 18, 19]) (isR := [0, 1, 2, 3, 4, 5, 6, 7, 8, 9, 10, 20, 21, 22, 23, 24, 25]) hc hw (c_X1_look hm) lk_X3_84 ⟨rfl, rfl, rfl, rfl, by decide⟩ rfl rfl ⟨Nat.le_of_ble_eq_true rfl, Nat.le_of_ble_eq_true rfl⟩ ⟨Nat.le_of_ble_eq_true rfl, Nat.le_of_ble_eq_true rfl⟩ hl.1 rfl (Nat.le_of_ble_eq_true rfl) rfl dX3_weigh_85 (fun S21 H locs hm hw => ?_)
        have hw : wV D A s.heap ((pW cy aP (aJ 0) S20) ++ ((jW cy aJ S21) ++ ((bW cy aB (als 0) e_B_told e_B_mentions e_B_claims SB) ++ ((lsW cy als Sls) ++ (lwW cy aLw SLw))))) H locs := hw.perm [0, 1, 2, 3, 4, 5, 6, 7, 8, 9, 10, 17, 18, 19, 20, 21, 22, 23, 24, 25, 11, 12, 13, 14, 15, 16] rfl rfl
        refine lv_aload_n hx hb dX3_weigh_88 rfl (lv_at hl 2 rfl) ?_
        refine gF (k := 3) hc hw inX3 rfl 0 rfl (by decide) (gm 328 (by decide +kernel) rfl) rfl dX3_weigh_89 ?_
        refine lv_iload_n hx hb dX3_weigh_92 rfl (lv_at hl 0 rfl) ?_
        refine lv_aload_n hx hb dX3_weigh_93 rfl (lv_at hl 2 rfl) ?_
        refine gF (k := 0) hc hw inX3 rfl 0 rfl (by decide) (gm 325 (by decide +kernel) rfl) rfl dX3_weigh_94 ?_
        refine lv_aload_n hx hb dX3_weigh_97 rfl (lv_at hl 1 rfl) ?_
        refine lv_sipush (v := 256) hx hb dX3_weigh_98 (by decide) ?_
        refine lv_iconst (v := 0) hx hb dX3_weigh_101 (by decide) ?_
        refine lv_aload_n hx hb dX3_weigh_102 rfl (lv_at hl 3 rfl) ?_
        refine gN (k := 2) (host := "OlderTale") hc hw inX6 rfl 14 rfl (by decide) (nmm 206 (by decide +kernel)) rfl dX3_weigh_103 ?_
        refine lv_iload_n hx hb dX3_weigh_106 rfl (lv_at hl 0 rfl) ?_
        obtain ⟨c23, hm⟩ := hm
        refine aI hc hw 17 rfl c23 rfl dX3_weigh_107 ?_
        refine nVN_I (As := [.ref (aLw 0), .int 256, .int 0, .int (SB.2 2 (Int32.toNatClampNeg x3_11))]) (rest := [.int x3_11, .ref (aP 3)]) (wc := ((jW cy aJ S21) ++ (lwW cy aLw SLw))) (wr := ((pW cy aP (aJ 0) S20) ++ ((bW cy aB (als 0) e_B_told e_B_mentions e_B_claims SB) ++ (lsW cy als Sls)))) (isC := [11, 12, 13, 21, 22, 23, 24, 25]) (isR := [0, 1, 2, 3, 4, 5, 6, 7, 8, 9, 10, 14, 15, 16, 17, 18, 19, 20]) hc hw (c_X1_lastOf hm) lk_X3_91 ⟨rfl, rfl, rfl, rfl, by decide⟩ rfl rfl ⟨Nat.le_of_ble_eq_true rfl, Nat.le_of_ble_eq_true rfl⟩ ⟨Nat.le_of_ble_eq_true rfl, Nat.le_of_ble_eq_true rfl⟩ hl.1 rfl (Nat.le_of_ble_eq_true rfl) rfl dX3_weigh_108 (fun r24 S25 H locs hm hw => ?_)
        have hw : wV D A s.heap ((pW cy aP (aJ 0) S20) ++ ((jW cy aJ S25) ++ ((bW cy aB (als 0) e_B_told e_B_mentions e_B_claims SB) ++ ((lsW cy als Sls) ++ (lwW cy aLw SLw))))) H locs := hw.perm [0, 1, 2, 3, 4, 5, 6, 7, 8, 9, 10, 18, 19, 20, 11, 12, 13, 14, 15, 16, 17, 21, 22, 23, 24, 25] rfl rfl
        obtain ⟨c27, hm⟩ := hm
        refine sI hc hw 3 rfl c27 rfl dX3_weigh_111 (fun H locs hw => ?_)
        obtain ⟨S28, e_S28⟩ : ∃ z : Ob, z = uA S20 3 (Int32.toNatClampNeg x3_11) r24 := ⟨_, rfl⟩
        have hm := hm S28 e_S28
        have hw : wV D A s.heap ((pW cy aP (aJ 0) S28) ++ ((jW cy aJ S25) ++ ((bW cy aB (als 0) e_B_told e_B_mentions e_B_claims SB) ++ ((lsW cy als Sls) ++ (lwW cy aLw SLw))))) H locs := by rw [e_S28]; exact hw
        refine lv_aload_n hx hb dX3_weigh_112 rfl (lv_at hl 2 rfl) ?_
        refine gF (k := 4) hc hw inX3 rfl 0 rfl (by decide) (gm 330 (by decide +kernel) rfl) rfl dX3_weigh_113 ?_
        refine lv_iload_n hx hb dX3_weigh_116 rfl (lv_at hl 0 rfl) ?_
        refine lv_aload_n hx hb dX3_weigh_117 rfl (lv_at hl 2 rfl) ?_
        refine gF (k := 0) hc hw inX3 rfl 0 rfl (by decide) (gm 325 (by decide +kernel) rfl) rfl dX3_weigh_118 ?_
        refine lv_aload_n hx hb dX3_weigh_121 rfl (lv_at hl 1 rfl) ?_
        refine lv_sipush (v := 257) hx hb dX3_weigh_122 (by decide) ?_
        refine lv_iconst (v := 1) hx hb dX3_weigh_125 (by decide) ?_
        refine lv_iconst (v := 1) hx hb dX3_weigh_126 (by decide) ?_
        refine nVN_I (As := [.ref (aLw 0), .int 257, .int 1, .int 1]) (rest := [.int x3_11, .ref (aP 4)]) (wc := ((jW cy aJ S25) ++ (lwW cy aLw SLw))) (wr := ((pW cy aP (aJ 0) S28) ++ ((bW cy aB (als 0) e_B_told e_B_mentions e_B_claims SB) ++ (lsW cy als Sls)))) (isC := [11, 12, 13, 21, 22, 23, 24, 25]) (isR := [0, 1, 2, 3, 4, 5, 6, 7, 8, 9, 10, 14, 15, 16, 17, 18, 19, 20]) hc hw (c_X1_lastOf hm) lk_X3_91 ⟨rfl, rfl, rfl, rfl, by decide⟩ rfl rfl ⟨Nat.le_of_ble_eq_true rfl, Nat.le_of_ble_eq_true rfl⟩ ⟨Nat.le_of_ble_eq_true rfl, Nat.le_of_ble_eq_true rfl⟩ hl.1 rfl (Nat.le_of_ble_eq_true rfl) rfl dX3_weigh_127 (fun r29 S30 H locs hm hw => ?_)
        have hw : wV D A s.heap ((pW cy aP (aJ 0) S28) ++ ((jW cy aJ S30) ++ ((bW cy aB (als 0) e_B_told e_B_mentions e_B_claims SB) ++ ((lsW cy als Sls) ++ (lwW cy aLw SLw))))) H locs := hw.perm [0, 1, 2, 3, 4, 5, 6, 7, 8, 9, 10, 18, 19, 20, 11, 12, 13, 14, 15, 16, 17, 21, 22, 23, 24, 25] rfl rfl
        obtain ⟨c32, hm⟩ := hm
        refine sI hc hw 4 rfl c32 rfl dX3_weigh_130 (fun H locs hw => ?_)
        obtain ⟨S33, e_S33⟩ : ∃ z : Ob, z = uA S28 4 (Int32.toNatClampNeg x3_11) r29 := ⟨_, rfl⟩
        have hm := hm S33 e_S33
        have hw : wV D A s.heap ((pW cy aP (aJ 0) S33) ++ ((jW cy aJ S30) ++ ((bW cy aB (als 0) e_B_told e_B_mentions e_B_claims SB) ++ ((lsW cy als Sls) ++ (lwW cy aLw SLw))))) H locs := by rw [e_S33]; exact hw
        refine lv_aload_n hx hb dX3_weigh_131 rfl (lv_at hl 2 rfl) ?_
        refine gF (k := 5) hc hw inX3 rfl 0 rfl (by decide) (gm 332 (by decide +kernel) rfl) rfl dX3_weigh_132 ?_
        refine lv_iload_n hx hb dX3_weigh_135 rfl (lv_at hl 0 rfl) ?_
        refine lv_iconst (v := 0) hx hb dX3_weigh_136 (by decide) ?_
        obtain ⟨c34, hm⟩ := hm
        refine sI hc hw 5 rfl c34 rfl dX3_weigh_137 (fun H locs hw => ?_)
        obtain ⟨S35, e_S35⟩ : ∃ z : Ob, z = uA S33 5 (Int32.toNatClampNeg x3_11) 0 := ⟨_, rfl⟩
        have hm := hm S35 e_S35
        have hw : wV D A s.heap ((pW cy aP (aJ 0) S35) ++ ((jW cy aJ S30) ++ ((bW cy aB (als 0) e_B_told e_B_mentions e_B_claims SB) ++ ((lsW cy als Sls) ++ (lwW cy aLw SLw))))) H locs := by rw [e_S35]; exact hw
        refine lv_iconst (v := 0) hx hb dX3_weigh_138 (by decide) ?_
        refine lv_istore (lv' := [(4, .int 0), (3, .int x3_11), (2, .ref (aLw 0)), (0, .ref (aP 0)), (1, .ref (aB 0))]) hx hb dX3_weigh_139 hl (by decide) rfl (fun ls hl => ?_)
        refine wl3_ind (G := fun (x4_36 : Int32) (S37 : Ob) (S38 : Ob) => ∀ (H : Heap) (locs : List Loc) (ls : Array Slot), wV D A s.heap ((pW cy aP (aJ 0) S37) ++ ((jW cy aJ S38) ++ ((bW cy aB (als 0) e_B_told e_B_mentions e_B_claims SB) ++ ((lsW cy als Sls) ++ (lwW cy aLw SLw))))) H locs → lv_has ls 5 [(4, .int x4_36), (3, .int x3_11), (2, .ref (aLw 0)), (0, .ref (aP 0)), (1, .ref (aB 0))] → W p l e (rmN 4) s m args below meth c H locs 0 0 (MQ below (eV D cy A (fun u : Ob × Ob => ((pW cy aP (aJ 0) u.1) ++ ((jW cy aJ u.2) ++ ((bW cy aB (als 0) e_B_told e_B_mentions e_B_claims SB) ++ ((lsW cy als Sls) ++ (lwW cy aLw SLw)))))) (fun (u : Ob × Ob) => Q u.1 u.2)) args s (rmN 4).cells (rmN 4).slots A) (F0 m 141 ls [])) ?_ _ _ _ hm H locs ls hw (lv_sub hl [0, 1, 2, 3, 4] rfl)
        intro L39 ih39 x4_36 S37 S38 hm H locs ls hw hl
        refine lv_iload hx hb dX3_weigh_141 (lv_at hl 0 rfl) ?_
        refine lv_aload_n hx hb dX3_weigh_143 rfl (lv_at hl 4 rfl) ?_
        refine gN (k := 5) (host := "OlderTale") hc hw inX6 rfl 14 rfl (by decide) (nmm 217 (by decide +kernel)) rfl dX3_weigh_144 ?_
        refine lv_iconst (v := 0) hx hb dX3_weigh_147 (by decide) ?_
        refine aI hc hw 19 rfl (vin (by decide)) (j := 0) (by decide) dX3_weigh_148 ?_
        refine lv_icmp_ge (tgt := 198) hx hb dX3_weigh_149 (by decide) (fun c53 => ?_) (fun c53 => ?_)
        · have hm := hm.1 c53
          obtain ⟨v40, e_v40⟩ : ∃ z : Int32, z = x3_11 + 1 := ⟨_, rfl⟩
          have hm := hm v40 e_v40
          refine lv_iinc (v := v40) (lv' := [(3, .int v40), (4, .int x4_36), (2, .ref (aLw 0)), (0, .ref (aP 0)), (1, .ref (aB 0))]) hx hb dX3_weigh_198 hl (k := 1) rfl (by rw [e_v40]; rfl) (by decide) rfl (fun ls hl => ?_)
          refine lv_goto (tgt := 47) hx hb dX3_weigh_201 (by decide) ?_
          exact ih14 _ _ _ hm _ _ _ hw (lv_sub hl [0, 2, 3, 4] rfl)
        · have hm := hm.2 c53
          refine lv_aload_n hx hb dX3_weigh_152 rfl (lv_at hl 4 rfl) ?_
          refine gN (k := 3) (host := "OlderTale") hc hw inX6 rfl 14 rfl (by decide) (nmm 209 (by decide +kernel)) rfl dX3_weigh_153 ?_
          refine lv_iload_n hx hb dX3_weigh_156 rfl (lv_at hl 1 rfl) ?_
          obtain ⟨c41, hm⟩ := hm
          refine aI hc hw 18 rfl c41 rfl dX3_weigh_157 ?_
          refine lv_iload hx hb dX3_weigh_158 (lv_at hl 0 rfl) ?_
          refine lv_ishr hx hb dX3_weigh_160 ?_
          refine lv_iconst (v := 1) hx hb dX3_weigh_161 (by decide) ?_
          refine lv_iand hx hb dX3_weigh_162 ?_
          refine lv_if_eq (tgt := 192) hx hb dX3_weigh_163 (by decide) (fun c52 => ?_) (fun c52 => ?_)
          · have hm := hm.1 c52
            obtain ⟨v42, e_v42⟩ : ∃ z : Int32, z = x4_36 + 1 := ⟨_, rfl⟩
            have hm := hm v42 e_v42
            refine lv_iinc (v := v42) (lv' := [(4, .int v42), (3, .int x3_11), (2, .ref (aLw 0)), (0, .ref (aP 0)), (1, .ref (aB 0))]) hx hb dX3_weigh_192 hl (k := 0) rfl (by rw [e_v42]; rfl) (by decide) rfl (fun ls hl => ?_)
            refine lv_goto (tgt := 141) hx hb dX3_weigh_195 (by decide) ?_
            exact ih39 _ _ _ hm _ _ _ hw (lv_sub hl [0, 1, 2, 3, 4] rfl)
          · have hm := hm.2 c52
            refine lv_aload_n hx hb dX3_weigh_166 rfl (lv_at hl 3 rfl) ?_
            refine gF (k := 0) hc hw inX3 rfl 0 rfl (by decide) (gm 325 (by decide +kernel) rfl) rfl dX3_weigh_167 ?_
            refine lv_aload_n hx hb dX3_weigh_170 rfl (lv_at hl 2 rfl) ?_
            refine lv_iload hx hb dX3_weigh_171 (lv_at hl 0 rfl) ?_
            refine nVN_I (As := [.ref (aLw 0), .int x4_36]) (rest := []) (wc := ((jW cy aJ S38) ++ (lwW cy aLw SLw))) (wr := ((pW cy aP (aJ 0) S37) ++ ((bW cy aB (als 0) e_B_told e_B_mentions e_B_claims SB) ++ (lsW cy als Sls)))) (isC := [11, 12, 13, 21, 22, 23, 24, 25]) (isR := [0, 1, 2, 3, 4, 5, 6, 7, 8, 9, 10, 14, 15, 16, 17, 18, 19, 20]) hc hw (c_X1_isBarred hm) lk_X3_98 ⟨rfl, rfl, rfl, rfl, by decide⟩ rfl rfl ⟨Nat.le_of_ble_eq_true rfl, Nat.le_of_ble_eq_true rfl⟩ ⟨Nat.le_of_ble_eq_true rfl, Nat.le_of_ble_eq_true rfl⟩ hl.1 rfl (Nat.le_of_ble_eq_true rfl) rfl dX3_weigh_173 (fun r43 S44 H locs hm hw => ?_)
            have hw : wV D A s.heap ((pW cy aP (aJ 0) S37) ++ ((jW cy aJ S44) ++ ((bW cy aB (als 0) e_B_told e_B_mentions e_B_claims SB) ++ ((lsW cy als Sls) ++ (lwW cy aLw SLw))))) H locs := hw.perm [0, 1, 2, 3, 4, 5, 6, 7, 8, 9, 10, 18, 19, 20, 11, 12, 13, 14, 15, 16, 17, 21, 22, 23, 24, 25] rfl rfl
            refine lv_if_ne (tgt := 192) hx hb dX3_weigh_176 (by decide) (fun c51 => ?_) (fun c51 => ?_)
            · have hm := hm.1 c51
              obtain ⟨v46, e_v46⟩ : ∃ z : Int32, z = x4_36 + 1 := ⟨_, rfl⟩
              have hm := hm v46 e_v46
              refine lv_iinc (v := v46) (lv' := [(4, .int v46), (3, .int x3_11), (2, .ref (aLw 0)), (0, .ref (aP 0)), (1, .ref (aB 0))]) hx hb dX3_weigh_192 hl (k := 0) rfl (by rw [e_v46]; rfl) (by decide) rfl (fun ls hl => ?_)
              refine lv_goto (tgt := 141) hx hb dX3_weigh_195 (by decide) ?_
              exact ih39 _ _ _ hm _ _ _ hw (lv_sub hl [0, 1, 2, 3, 4] rfl)
            · have hm := hm.2 c51
              refine lv_aload_n hx hb dX3_weigh_179 rfl (lv_at hl 3 rfl) ?_
              refine gF (k := 5) hc hw inX3 rfl 0 rfl (by decide) (gm 332 (by decide +kernel) rfl) rfl dX3_weigh_180 ?_
              refine lv_iload_n hx hb dX3_weigh_183 rfl (lv_at hl 1 rfl) ?_
              refine lv_dup2_11 hx hb dX3_weigh_184 rfl rfl ?_
              obtain ⟨c47, hm⟩ := hm
              refine aI hc hw 5 rfl c47 rfl dX3_weigh_185 ?_
              refine lv_iconst (v := 1) hx hb dX3_weigh_186 (by decide) ?_
              refine lv_iload hx hb dX3_weigh_187 (lv_at hl 0 rfl) ?_
              refine lv_ishl hx hb dX3_weigh_189 ?_
              refine lv_ior hx hb dX3_weigh_190 ?_
              obtain ⟨c48, hm⟩ := hm
              refine sI hc hw 5 rfl c48 rfl dX3_weigh_191 (fun H locs hw => ?_)
              obtain ⟨S49, e_S49⟩ : ∃ z : Ob, z = uA S37 5 (Int32.toNatClampNeg x3_11) ((S37.2 5 (Int32.toNatClampNeg x3_11)) ||| ((1 : Int32) <<< (x4_36 &&& 31))) := ⟨_, rfl⟩
              have hm := hm S49 e_S49
              have hw : wV D A s.heap ((pW cy aP (aJ 0) S49) ++ ((jW cy aJ S44) ++ ((bW cy aB (als 0) e_B_told e_B_mentions e_B_claims SB) ++ ((lsW cy als Sls) ++ (lwW cy aLw SLw))))) H locs := by rw [e_S49]; exact hw
              obtain ⟨v50, e_v50⟩ : ∃ z : Int32, z = x4_36 + 1 := ⟨_, rfl⟩
              have hm := hm v50 e_v50
              refine lv_iinc (v := v50) (lv' := [(4, .int v50), (3, .int x3_11), (2, .ref (aLw 0)), (0, .ref (aP 0)), (1, .ref (aB 0))]) hx hb dX3_weigh_192 hl (k := 0) rfl (by rw [e_v50]; rfl) (by decide) rfl (fun ls hl => ?_)
              refine lv_goto (tgt := 141) hx hb dX3_weigh_195 (by decide) ?_
              exact ih39 _ _ _ hm _ _ _ hw (lv_sub hl [0, 1, 2, 3, 4] rfl)
    refine lv_icmp_ne (tgt := 36) hx hb dX3_weigh_29 (by decide) (fun c55 => ?_) (fun c55 => ?_)
    · have hm := hm.1 c55
      refine lv_iconst (v := 0) hx hb dX3_weigh_36 (by decide) ?_
      exact hJ4 _ hm _ _ _ hw (lv_sub hl [0, 1] rfl)
    · have hm := hm.2 c55
      refine lv_iconst (v := 1) hx hb dX3_weigh_32 (by decide) ?_
      refine lv_goto (tgt := 37) hx hb dX3_weigh_33 (by decide) ?_
      exact hJ4 _ hm _ _ _ hw (lv_sub hl [0, 1] rfl)
  · have hm := hm.2 c56
    exact retV (u := (SP, SJ)) hc hw hm dX3_weigh_7
set_option maxHeartbeats 4000000 in
set_option maxRecDepth 100000 in
theorem c_X3_weighN {l : Launch} {D : va_G} {cy : Nat → ClassId} {aP : Nat → Nat} {aJ : Nat → Nat} {aB : Nat → Nat} {als : Nat → Nat} {e_B_told : Nat} {e_B_mentions : Nat} {e_B_claims : Nat} {SP : Ob} {SJ : Ob} {SB : Ob} {Sls : (Nat → Option Nat)} {Q : Ob → Ob → Prop} (hm : w_X3_weighN SP SJ SB Sls Q) : CtV l yX3_weigh cX3_weigh 5 none (rmN 4) D cy [.ref (aP 0), .ref (aB 0)] ((pW cy aP (aJ 0) SP) ++ ((jW cy aJ SJ) ++ ((bW cy aB (als 0) e_B_told e_B_mentions e_B_claims SB) ++ (lsW cy als Sls)))) (fun u : Ob × Ob => ((pW cy aP (aJ 0) u.1) ++ ((jW cy aJ u.2) ++ ((bW cy aB (als 0) e_B_told e_B_mentions e_B_claims SB) ++ (lsW cy als Sls))))) (fun (u : Ob × Ob) => Q u.1 u.2) := by
  refine CtV.ofW (by decide) (Nat.le_of_ble_eq_true rfl) ?_
  intro p e s m args below meth c A ls hc hnm hw hl
  have hx := hc.1.1
  have hb := hc.1.2.1
  have hown := hc.1.2.2.2.1
  have hts := hc.1.2.2.2.2
  have hl : lv_has ls 5 [(0, .ref (aP 0)), (1, .ref (aB 0))] := hl
  obtain ⟨H, hH⟩ : ∃ z, z = s.heap := ⟨_, rfl⟩
  obtain ⟨locs, hLc⟩ : ∃ z : List Loc, z = [] := ⟨_, rfl⟩
  have hw : wV D A s.heap ((pW cy aP (aJ 0) SP) ++ ((jW cy aJ SJ) ++ ((bW cy aB (als 0) e_B_told e_B_mentions e_B_claims SB) ++ (lsW cy als Sls)))) H locs := by rw [hH, hLc]; exact hw
  have hgo : W p l e (rmN 4) s m args below meth c H locs 0 0 (MQ below (eV D cy A (fun u : Ob × Ob => ((pW cy aP (aJ 0) u.1) ++ ((jW cy aJ u.2) ++ ((bW cy aB (als 0) e_B_told e_B_mentions e_B_claims SB) ++ (lsW cy als Sls))))) (fun (u : Ob × Ob) => Q u.1 u.2)) args s (rmN 4).cells (rmN 4).slots A) (F0 m 0 ls []) := ?hgo
  · rw [hH, hLc] at hgo; exact hgo
  refine lv_aload_n hx hb dX3_weigh_0 rfl (lv_at hl 0 rfl) ?_
  refine gF (k := 8) hc hw inX3 rfl 0 rfl (by decide) (gm 337 (by decide +kernel) rfl) rfl dX3_weigh_1 ?_
  refine lv_if_eq (tgt := 8) hx hb dX3_weigh_4 (by decide) (fun c52 => ?_) (fun c52 => ?_)
  · have hm := hm.1 c52
    refine lv_aload_n hx hb dX3_weigh_8 rfl (lv_at hl 0 rfl) ?_
    refine lv_iconst (v := 1) hx hb dX3_weigh_9 (by decide) ?_
    refine pF (k := 8) (ty := .boolean) hc hw inX3 tyX3_ok nmX3 rfl 0 rfl (by decide) (gm 337 (by decide +kernel) rfl) rfl (by decide +kernel) rfl rfl (Nat.le_of_ble_eq_true rfl) dX3_weigh_10 (fun H locs hw => ?_)
    obtain ⟨S1, e_S1⟩ : ∃ z : Ob, z = uS SP 8 1 := ⟨_, rfl⟩
    have hm := hm S1 e_S1
    have hw : wV D A s.heap ((pW cy aP (aJ 0) S1) ++ ((jW cy aJ SJ) ++ ((bW cy aB (als 0) e_B_told e_B_mentions e_B_claims SB) ++ (lsW cy als Sls)))) H locs := by rw [e_S1]; exact hw
    refine lv_aload_n hx hb dX3_weigh_13 rfl (lv_at hl 0 rfl) ?_
    refine lv_aload_n hx hb dX3_weigh_14 rfl (lv_at hl 1 rfl) ?_
    refine gN (k := 4) (host := "OlderTale") hc hw inX6 rfl 14 rfl (by decide) (nmm 214 (by decide +kernel)) rfl dX3_weigh_15 ?_
    refine pF (k := 6) (ty := .int) hc hw inX3 tyX3_ok nmX3 rfl 0 rfl (by decide) (gm 334 (by decide +kernel) rfl) rfl (by decide +kernel) rfl rfl (Nat.le_of_ble_eq_true rfl) dX3_weigh_18 (fun H locs hw => ?_)
    obtain ⟨S2, e_S2⟩ : ∃ z : Ob, z = uS S1 6 (SB.1 4) := ⟨_, rfl⟩
    have hm := hm S2 e_S2
    have hw : wV D A s.heap ((pW cy aP (aJ 0) S2) ++ ((jW cy aJ SJ) ++ ((bW cy aB (als 0) e_B_told e_B_mentions e_B_claims SB) ++ (lsW cy als Sls)))) H locs := by rw [e_S2]; exact hw
    refine lv_aload_n hx hb dX3_weigh_21 rfl (lv_at hl 0 rfl) ?_
    refine lv_aload_n hx hb dX3_weigh_22 rfl (lv_at hl 1 rfl) ?_
    refine gN (k := 5) (host := "OlderTale") hc hw inX6 rfl 14 rfl (by decide) (nmm 217 (by decide +kernel)) rfl dX3_weigh_23 ?_
    refine lv_iconst (v := 1) hx hb dX3_weigh_26 (by decide) ?_
    refine aI hc hw 19 rfl (vin (by decide)) (j := 1) (by decide) dX3_weigh_27 ?_
    refine lv_iconst (v := 1) hx hb dX3_weigh_28 (by decide) ?_
    obtain ⟨J4, eJ4, hm⟩ := jn_e hm
    have hJ4 : ∀ (t3 : Int32) (_ : J4 t3) (H : Heap) (locs : List Loc) (ls : Array Slot), wV D A s.heap ((pW cy aP (aJ 0) S2) ++ ((jW cy aJ SJ) ++ ((bW cy aB (als 0) e_B_told e_B_mentions e_B_claims SB) ++ (lsW cy als Sls)))) H locs → lv_has ls 5 [(0, .ref (aP 0)), (1, .ref (aB 0))] → W p l e (rmN 4) s m args below meth c H locs 0 0 (MQ below (eV D cy A (fun u : Ob × Ob => ((pW cy aP (aJ 0) u.1) ++ ((jW cy aJ u.2) ++ ((bW cy aB (als 0) e_B_told e_B_mentions e_B_claims SB) ++ (lsW cy als Sls))))) (fun (u : Ob × Ob) => Q u.1 u.2)) args s (rmN 4).cells (rmN 4).slots A) (F0 m 37 ls [.int t3, .ref (aP 0)]) := by
      intro t3 hm H locs ls hw hl
      rw [eJ4] at hm
      obtain ⟨c5, c6, hm⟩ := hm
      refine pF (k := 7) (ty := .boolean) hc hw inX3 tyX3_ok nmX3 rfl 0 rfl (by decide) (gm 336 (by decide +kernel) rfl) rfl (by decide +kernel) c5 c6 (Nat.le_of_ble_eq_true rfl) dX3_weigh_37 (fun H locs hw => ?_)
      obtain ⟨S7, e_S7⟩ : ∃ z : Ob, z = uS S2 7 t3 := ⟨_, rfl⟩
      have hm := hm S7 e_S7
      have hw : wV D A s.heap ((pW cy aP (aJ 0) S7) ++ ((jW cy aJ SJ) ++ ((bW cy aB (als 0) e_B_told e_B_mentions e_B_claims SB) ++ (lsW cy als Sls)))) H locs := by rw [e_S7]; exact hw
      refine lv_aload_n hx hb dX3_weigh_40 rfl (lv_at hl 1 rfl) ?_
      refine nVN_Q (As := []) (rest := []) (wc := ((bW cy aB (als 0) e_B_told e_B_mentions e_B_claims SB) ++ (lsW cy als Sls))) (wr := ((pW cy aP (aJ 0) S7) ++ (jW cy aJ SJ))) (isC := [14, 15, 16, 17, 18, 19, 20]) (isR := [0, 1, 2, 3, 4, 5, 6, 7, 8, 9, 10, 11, 12, 13]) hc hw (c_X6_lawInForce hm) lk_X3_78 ⟨rfl, rfl, rfl, rfl, by decide⟩ rfl rfl ⟨Nat.le_of_ble_eq_true rfl, Nat.le_of_ble_eq_true rfl⟩ ⟨Nat.le_of_ble_eq_true rfl, Nat.le_of_ble_eq_true rfl⟩ hl.1 rfl (Nat.le_of_ble_eq_true rfl) rfl dX3_weigh_41 (fun r8 _ H locs hm hw => ?_)
      have hw : wV D A s.heap ((pW cy aP (aJ 0) S7) ++ ((jW cy aJ SJ) ++ ((bW cy aB (als 0) e_B_told e_B_mentions e_B_claims SB) ++ (lsW cy als Sls)))) H locs := hw.perm [0, 1, 2, 3, 4, 5, 6, 7, 8, 9, 10, 11, 12, 13, 14, 15, 16, 17, 18, 19, 20] rfl rfl
      obtain ⟨c10, hm⟩ := hm
      rw [c10]
      refine W.eq (g2 := F0 _ _ _ (.null :: _)) rfl ?_
      refine lv_astore_nN (lv' := [(2, .null), (0, .ref (aP 0)), (1, .ref (aB 0))]) hx hb dX3_weigh_44 rfl hl (by decide) rfl (fun ls hl => ?_)
      refine lv_iconst (v := 0) hx hb dX3_weigh_45 (by decide) ?_
      refine lv_istore_n (lv' := [(3, .int 0), (2, .null), (0, .ref (aP 0)), (1, .ref (aB 0))]) hx hb dX3_weigh_46 rfl hl (by decide) rfl (fun ls hl => ?_)
      refine wl3_ind (G := fun (x3_11 : Int32) (S12 : Ob) (S13 : Ob) => ∀ (H : Heap) (locs : List Loc) (ls : Array Slot), wV D A s.heap ((pW cy aP (aJ 0) S12) ++ ((jW cy aJ S13) ++ ((bW cy aB (als 0) e_B_told e_B_mentions e_B_claims SB) ++ (lsW cy als Sls)))) H locs → lv_has ls 5 [(3, .int x3_11), (2, .null), (0, .ref (aP 0)), (1, .ref (aB 0))] → W p l e (rmN 4) s m args below meth c H locs 0 0 (MQ below (eV D cy A (fun u : Ob × Ob => ((pW cy aP (aJ 0) u.1) ++ ((jW cy aJ u.2) ++ ((bW cy aB (als 0) e_B_told e_B_mentions e_B_claims SB) ++ (lsW cy als Sls))))) (fun (u : Ob × Ob) => Q u.1 u.2)) args s (rmN 4).cells (rmN 4).slots A) (F0 m 47 ls [])) ?_ _ _ _ hm H locs ls hw (lv_sub hl [0, 1, 2, 3] rfl)
      intro L14 ih14 x3_11 S12 S13 hm H locs ls hw hl
      refine lv_iload_n hx hb dX3_weigh_47 rfl (lv_at hl 0 rfl) ?_
      refine lv_aload_n hx hb dX3_weigh_48 rfl (lv_at hl 2 rfl) ?_
      refine gF (k := 6) hc hw inX3 rfl 0 rfl (by decide) (gm 334 (by decide +kernel) rfl) rfl dX3_weigh_49 ?_
      refine lv_icmp_ge (tgt := 204) hx hb dX3_weigh_52 (by decide) (fun c50 => ?_) (fun c50 => ?_)
      · have hm := hm.1 c50
        exact retV (u := (S12, S13)) hc hw hm dX3_weigh_204
      · have hm := hm.2 c50
        refine lv_aload_n hx hb dX3_weigh_55 rfl (lv_at hl 2 rfl) ?_
        refine gF (k := 1) hc hw inX3 rfl 0 rfl (by decide) (gm 326 (by decide +kernel) rfl) rfl dX3_weigh_56 ?_
        refine lv_iload_n hx hb dX3_weigh_59 rfl (lv_at hl 0 rfl) ?_
        refine lv_aload_n hx hb dX3_weigh_60 rfl (lv_at hl 3 rfl) ?_
        refine gN (k := 0) (host := "OlderTale") hc hw inX6 rfl 14 rfl (by decide) (nmm 198 (by decide +kernel)) rfl dX3_weigh_61 ?_
        refine lv_iload_n hx hb dX3_weigh_64 rfl (lv_at hl 0 rfl) ?_
        obtain ⟨c15, hm⟩ := hm
        refine aI hc hw 15 rfl c15 rfl dX3_weigh_65 ?_
        obtain ⟨c16, hm⟩ := hm
        refine sI hc hw 1 rfl c16 rfl dX3_weigh_66 (fun H locs hw => ?_)
        obtain ⟨S17, e_S17⟩ : ∃ z : Ob, z = uA S12 1 (Int32.toNatClampNeg x3_11) (SB.2 0 (Int32.toNatClampNeg x3_11)) := ⟨_, rfl⟩
        have hm := hm S17 e_S17
        have hw : wV D A s.heap ((pW cy aP (aJ 0) S17) ++ ((jW cy aJ S13) ++ ((bW cy aB (als 0) e_B_told e_B_mentions e_B_claims SB) ++ (lsW cy als Sls)))) H locs := by rw [e_S17]; exact hw
        refine lv_aload_n hx hb dX3_weigh_67 rfl (lv_at hl 2 rfl) ?_
        refine gF (k := 2) hc hw inX3 rfl 0 rfl (by decide) (gm 327 (by decide +kernel) rfl) rfl dX3_weigh_68 ?_
        refine lv_iload_n hx hb dX3_weigh_71 rfl (lv_at hl 0 rfl) ?_
        refine lv_aload_n hx hb dX3_weigh_72 rfl (lv_at hl 3 rfl) ?_
        refine gN (k := 1) (host := "OlderTale") hc hw inX6 rfl 14 rfl (by decide) (nmm 203 (by decide +kernel)) rfl dX3_weigh_73 ?_
        refine lv_iload_n hx hb dX3_weigh_76 rfl (lv_at hl 0 rfl) ?_
        obtain ⟨c18, hm⟩ := hm
        refine aI hc hw 16 rfl c18 rfl dX3_weigh_77 ?_
        obtain ⟨c19, hm⟩ := hm
        refine sI hc hw 2 rfl c19 rfl dX3_weigh_78 (fun H locs hw => ?_)
        obtain ⟨S20, e_S20⟩ : ∃ z : Ob, z = uA S17 2 (Int32.toNatClampNeg x3_11) (SB.2 1 (Int32.toNatClampNeg x3_11)) := ⟨_, rfl⟩
        have hm := hm S20 e_S20
        have hw : wV D A s.heap ((pW cy aP (aJ 0) S20) ++ ((jW cy aJ S13) ++ ((bW cy aB (als 0) e_B_told e_B_mentions e_B_claims SB) ++ (lsW cy als Sls)))) H locs := by rw [e_S20]; exact hw
        refine lv_aload_n hx hb dX3_weigh_79 rfl (lv_at hl 2 rfl) ?_
        refine gF (k := 0) hc hw inX3 rfl 0 rfl (by decide) (gm 325 (by decide +kernel) rfl) rfl dX3_weigh_80 ?_
        refine lv_aload_n hx hb dX3_weigh_83 rfl (lv_at hl 3 rfl) ?_
        refine lv_iload_n hx hb dX3_weigh_84 rfl (lv_at hl 0 rfl) ?_
        refine nVN_V (As := [.ref (aB 0), .int x3_11]) (rest := []) (wc := ((jW cy aJ S13) ++ (bW cy aB (als 0) e_B_told e_B_mentions e_B_claims SB))) (wr := ((pW cy aP (aJ 0) S20) ++ (lsW cy als Sls))) (isC := [11, 12, 13, 14, 15, 16, 17, 18, 19]) (isR := [0, 1, 2, 3, 4, 5, 6, 7, 8, 9, 10, 20]) hc hw (c_X1_look hm) lk_X3_84 ⟨rfl, rfl, rfl, rfl, by decide⟩ rfl rfl ⟨Nat.le_of_ble_eq_true rfl, Nat.le_of_ble_eq_true rfl⟩ ⟨Nat.le_of_ble_eq_true rfl, Nat.le_of_ble_eq_true rfl⟩ hl.1 rfl (Nat.le_of_ble_eq_true rfl) rfl dX3_weigh_85 (fun S21 H locs hm hw => ?_)
        have hw : wV D A s.heap ((pW cy aP (aJ 0) S20) ++ ((jW cy aJ S21) ++ ((bW cy aB (als 0) e_B_told e_B_mentions e_B_claims SB) ++ (lsW cy als Sls)))) H locs := hw.perm [0, 1, 2, 3, 4, 5, 6, 7, 8, 9, 10, 12, 13, 14, 15, 16, 17, 18, 19, 20, 11] rfl rfl
        refine lv_aload_n hx hb dX3_weigh_88 rfl (lv_at hl 2 rfl) ?_
        refine gF (k := 3) hc hw inX3 rfl 0 rfl (by decide) (gm 328 (by decide +kernel) rfl) rfl dX3_weigh_89 ?_
        refine lv_iload_n hx hb dX3_weigh_92 rfl (lv_at hl 0 rfl) ?_
        refine lv_aload_n hx hb dX3_weigh_93 rfl (lv_at hl 2 rfl) ?_
        refine gF (k := 0) hc hw inX3 rfl 0 rfl (by decide) (gm 325 (by decide +kernel) rfl) rfl dX3_weigh_94 ?_
        refine lv_aload_nN hx hb dX3_weigh_97 rfl (lv_at hl 1 rfl) ?_
        refine lv_sipush (v := 256) hx hb dX3_weigh_98 (by decide) ?_
        refine lv_iconst (v := 0) hx hb dX3_weigh_101 (by decide) ?_
        refine lv_aload_n hx hb dX3_weigh_102 rfl (lv_at hl 3 rfl) ?_
        refine gN (k := 2) (host := "OlderTale") hc hw inX6 rfl 14 rfl (by decide) (nmm 206 (by decide +kernel)) rfl dX3_weigh_103 ?_
        refine lv_iload_n hx hb dX3_weigh_106 rfl (lv_at hl 0 rfl) ?_
        obtain ⟨c23, hm⟩ := hm
        refine aI hc hw 17 rfl c23 rfl dX3_weigh_107 ?_
        refine nVN_I (As := [.null, .int 256, .int 0, .int (SB.2 2 (Int32.toNatClampNeg x3_11))]) (rest := [.int x3_11, .ref (aP 3)]) (wc := (jW cy aJ S21)) (wr := ((pW cy aP (aJ 0) S20) ++ ((bW cy aB (als 0) e_B_told e_B_mentions e_B_claims SB) ++ (lsW cy als Sls)))) (isC := [11, 12, 13]) (isR := [0, 1, 2, 3, 4, 5, 6, 7, 8, 9, 10, 14, 15, 16, 17, 18, 19, 20]) hc hw (c_X1_lastOfN hm) lk_X3_91 ⟨rfl, rfl, rfl, rfl, by decide⟩ rfl rfl ⟨Nat.le_of_ble_eq_true rfl, Nat.le_of_ble_eq_true rfl⟩ ⟨Nat.le_of_ble_eq_true rfl, Nat.le_of_ble_eq_true rfl⟩ hl.1 rfl (Nat.le_of_ble_eq_true rfl) rfl dX3_weigh_108 (fun r24 _ H locs hm hw => ?_)
        have hw : wV D A s.heap ((pW cy aP (aJ 0) S20) ++ ((jW cy aJ S21) ++ ((bW cy aB (als 0) e_B_told e_B_mentions e_B_claims SB) ++ (lsW cy als Sls)))) H locs := hw.perm [0, 1, 2, 3, 4, 5, 6, 7, 8, 9, 10, 18, 19, 20, 11, 12, 13, 14, 15, 16, 17] rfl rfl
        obtain ⟨c26, hm⟩ := hm
        refine sI hc hw 3 rfl c26 rfl dX3_weigh_111 (fun H locs hw => ?_)
        obtain ⟨S27, e_S27⟩ : ∃ z : Ob, z = uA S20 3 (Int32.toNatClampNeg x3_11) r24 := ⟨_, rfl⟩
        have hm := hm S27 e_S27
        have hw : wV D A s.heap ((pW cy aP (aJ 0) S27) ++ ((jW cy aJ S21) ++ ((bW cy aB (als 0) e_B_told e_B_mentions e_B_claims SB) ++ (lsW cy als Sls)))) H locs := by rw [e_S27]; exact hw
        refine lv_aload_n hx hb dX3_weigh_112 rfl (lv_at hl 2 rfl) ?_
        refine gF (k := 4) hc hw inX3 rfl 0 rfl (by decide) (gm 330 (by decide +kernel) rfl) rfl dX3_weigh_113 ?_
        refine lv_iload_n hx hb dX3_weigh_116 rfl (lv_at hl 0 rfl) ?_
        refine lv_aload_n hx hb dX3_weigh_117 rfl (lv_at hl 2 rfl) ?_
        refine gF (k := 0) hc hw inX3 rfl 0 rfl (by decide) (gm 325 (by decide +kernel) rfl) rfl dX3_weigh_118 ?_
        refine lv_aload_nN hx hb dX3_weigh_121 rfl (lv_at hl 1 rfl) ?_
        refine lv_sipush (v := 257) hx hb dX3_weigh_122 (by decide) ?_
        refine lv_iconst (v := 1) hx hb dX3_weigh_125 (by decide) ?_
        refine lv_iconst (v := 1) hx hb dX3_weigh_126 (by decide) ?_
        refine nVN_I (As := [.null, .int 257, .int 1, .int 1]) (rest := [.int x3_11, .ref (aP 4)]) (wc := (jW cy aJ S21)) (wr := ((pW cy aP (aJ 0) S27) ++ ((bW cy aB (als 0) e_B_told e_B_mentions e_B_claims SB) ++ (lsW cy als Sls)))) (isC := [11, 12, 13]) (isR := [0, 1, 2, 3, 4, 5, 6, 7, 8, 9, 10, 14, 15, 16, 17, 18, 19, 20]) hc hw (c_X1_lastOfN hm) lk_X3_91 ⟨rfl, rfl, rfl, rfl, by decide⟩ rfl rfl ⟨Nat.le_of_ble_eq_true rfl, Nat.le_of_ble_eq_true rfl⟩ ⟨Nat.le_of_ble_eq_true rfl, Nat.le_of_ble_eq_true rfl⟩ hl.1 rfl (Nat.le_of_ble_eq_true rfl) rfl dX3_weigh_127 (fun r28 _ H locs hm hw => ?_)
        have hw : wV D A s.heap ((pW cy aP (aJ 0) S27) ++ ((jW cy aJ S21) ++ ((bW cy aB (als 0) e_B_told e_B_mentions e_B_claims SB) ++ (lsW cy als Sls)))) H locs := hw.perm [0, 1, 2, 3, 4, 5, 6, 7, 8, 9, 10, 18, 19, 20, 11, 12, 13, 14, 15, 16, 17] rfl rfl
        obtain ⟨c30, hm⟩ := hm
        refine sI hc hw 4 rfl c30 rfl dX3_weigh_130 (fun H locs hw => ?_)
        obtain ⟨S31, e_S31⟩ : ∃ z : Ob, z = uA S27 4 (Int32.toNatClampNeg x3_11) r28 := ⟨_, rfl⟩
        have hm := hm S31 e_S31
        have hw : wV D A s.heap ((pW cy aP (aJ 0) S31) ++ ((jW cy aJ S21) ++ ((bW cy aB (als 0) e_B_told e_B_mentions e_B_claims SB) ++ (lsW cy als Sls)))) H locs := by rw [e_S31]; exact hw
        refine lv_aload_n hx hb dX3_weigh_131 rfl (lv_at hl 2 rfl) ?_
        refine gF (k := 5) hc hw inX3 rfl 0 rfl (by decide) (gm 332 (by decide +kernel) rfl) rfl dX3_weigh_132 ?_
        refine lv_iload_n hx hb dX3_weigh_135 rfl (lv_at hl 0 rfl) ?_
        refine lv_iconst (v := 0) hx hb dX3_weigh_136 (by decide) ?_
        obtain ⟨c32, hm⟩ := hm
        refine sI hc hw 5 rfl c32 rfl dX3_weigh_137 (fun H locs hw => ?_)
        obtain ⟨S33, e_S33⟩ : ∃ z : Ob, z = uA S31 5 (Int32.toNatClampNeg x3_11) 0 := ⟨_, rfl⟩
        have hm := hm S33 e_S33
        have hw : wV D A s.heap ((pW cy aP (aJ 0) S33) ++ ((jW cy aJ S21) ++ ((bW cy aB (als 0) e_B_told e_B_mentions e_B_claims SB) ++ (lsW cy als Sls)))) H locs := by rw [e_S33]; exact hw
        refine lv_iconst (v := 0) hx hb dX3_weigh_138 (by decide) ?_
        refine lv_istore (lv' := [(4, .int 0), (3, .int x3_11), (2, .null), (0, .ref (aP 0)), (1, .ref (aB 0))]) hx hb dX3_weigh_139 hl (by decide) rfl (fun ls hl => ?_)
        refine wl2_ind (G := fun (x4_34 : Int32) (S35 : Ob) => ∀ (H : Heap) (locs : List Loc) (ls : Array Slot), wV D A s.heap ((pW cy aP (aJ 0) S35) ++ ((jW cy aJ S21) ++ ((bW cy aB (als 0) e_B_told e_B_mentions e_B_claims SB) ++ (lsW cy als Sls)))) H locs → lv_has ls 5 [(4, .int x4_34), (3, .int x3_11), (2, .null), (0, .ref (aP 0)), (1, .ref (aB 0))] → W p l e (rmN 4) s m args below meth c H locs 0 0 (MQ below (eV D cy A (fun u : Ob × Ob => ((pW cy aP (aJ 0) u.1) ++ ((jW cy aJ u.2) ++ ((bW cy aB (als 0) e_B_told e_B_mentions e_B_claims SB) ++ (lsW cy als Sls))))) (fun (u : Ob × Ob) => Q u.1 u.2)) args s (rmN 4).cells (rmN 4).slots A) (F0 m 141 ls [])) ?_ _ _ hm H locs ls hw (lv_sub hl [0, 1, 2, 3, 4] rfl)
        intro L36 ih36 x4_34 S35 hm H locs ls hw hl
        refine lv_iload hx hb dX3_weigh_141 (lv_at hl 0 rfl) ?_
        refine lv_aload_n hx hb dX3_weigh_143 rfl (lv_at hl 4 rfl) ?_
        refine gN (k := 5) (host := "OlderTale") hc hw inX6 rfl 14 rfl (by decide) (nmm 217 (by decide +kernel)) rfl dX3_weigh_144 ?_
        refine lv_iconst (v := 0) hx hb dX3_weigh_147 (by decide) ?_
        refine aI hc hw 19 rfl (vin (by decide)) (j := 0) (by decide) dX3_weigh_148 ?_
        refine lv_icmp_ge (tgt := 198) hx hb dX3_weigh_149 (by decide) (fun c49 => ?_) (fun c49 => ?_)
        · have hm := hm.1 c49
          obtain ⟨v37, e_v37⟩ : ∃ z : Int32, z = x3_11 + 1 := ⟨_, rfl⟩
          have hm := hm v37 e_v37
          refine lv_iinc (v := v37) (lv' := [(3, .int v37), (4, .int x4_34), (2, .null), (0, .ref (aP 0)), (1, .ref (aB 0))]) hx hb dX3_weigh_198 hl (k := 1) rfl (by rw [e_v37]; rfl) (by decide) rfl (fun ls hl => ?_)
          refine lv_goto (tgt := 47) hx hb dX3_weigh_201 (by decide) ?_
          exact ih14 _ _ _ hm _ _ _ hw (lv_sub hl [0, 2, 3, 4] rfl)
        · have hm := hm.2 c49
          refine lv_aload_n hx hb dX3_weigh_152 rfl (lv_at hl 4 rfl) ?_
          refine gN (k := 3) (host := "OlderTale") hc hw inX6 rfl 14 rfl (by decide) (nmm 209 (by decide +kernel)) rfl dX3_weigh_153 ?_
          refine lv_iload_n hx hb dX3_weigh_156 rfl (lv_at hl 1 rfl) ?_
          obtain ⟨c38, hm⟩ := hm
          refine aI hc hw 18 rfl c38 rfl dX3_weigh_157 ?_
          refine lv_iload hx hb dX3_weigh_158 (lv_at hl 0 rfl) ?_
          refine lv_ishr hx hb dX3_weigh_160 ?_
          refine lv_iconst (v := 1) hx hb dX3_weigh_161 (by decide) ?_
          refine lv_iand hx hb dX3_weigh_162 ?_
          refine lv_if_eq (tgt := 192) hx hb dX3_weigh_163 (by decide) (fun c48 => ?_) (fun c48 => ?_)
          · have hm := hm.1 c48
            obtain ⟨v39, e_v39⟩ : ∃ z : Int32, z = x4_34 + 1 := ⟨_, rfl⟩
            have hm := hm v39 e_v39
            refine lv_iinc (v := v39) (lv' := [(4, .int v39), (3, .int x3_11), (2, .null), (0, .ref (aP 0)), (1, .ref (aB 0))]) hx hb dX3_weigh_192 hl (k := 0) rfl (by rw [e_v39]; rfl) (by decide) rfl (fun ls hl => ?_)
            refine lv_goto (tgt := 141) hx hb dX3_weigh_195 (by decide) ?_
            exact ih36 _ _ hm _ _ _ hw (lv_sub hl [0, 1, 2, 3, 4] rfl)
          · have hm := hm.2 c48
            refine lv_aload_n hx hb dX3_weigh_166 rfl (lv_at hl 3 rfl) ?_
            refine gF (k := 0) hc hw inX3 rfl 0 rfl (by decide) (gm 325 (by decide +kernel) rfl) rfl dX3_weigh_167 ?_
            refine lv_aload_nN hx hb dX3_weigh_170 rfl (lv_at hl 2 rfl) ?_
            refine lv_iload hx hb dX3_weigh_171 (lv_at hl 0 rfl) ?_
            refine nVN_I (As := [.null, .int x4_34]) (rest := []) (wc := (jW cy aJ S21)) (wr := ((pW cy aP (aJ 0) S35) ++ ((bW cy aB (als 0) e_B_told e_B_mentions e_B_claims SB) ++ (lsW cy als Sls)))) (isC := [11, 12, 13]) (isR := [0, 1, 2, 3, 4, 5, 6, 7, 8, 9, 10, 14, 15, 16, 17, 18, 19, 20]) hc hw (c_X1_isBarredN hm) lk_X3_98 ⟨rfl, rfl, rfl, rfl, by decide⟩ rfl rfl ⟨Nat.le_of_ble_eq_true rfl, Nat.le_of_ble_eq_true rfl⟩ ⟨Nat.le_of_ble_eq_true rfl, Nat.le_of_ble_eq_true rfl⟩ hl.1 rfl (Nat.le_of_ble_eq_true rfl) rfl dX3_weigh_173 (fun r40 _ H locs hm hw => ?_)
            have hw : wV D A s.heap ((pW cy aP (aJ 0) S35) ++ ((jW cy aJ S21) ++ ((bW cy aB (als 0) e_B_told e_B_mentions e_B_claims SB) ++ (lsW cy als Sls)))) H locs := hw.perm [0, 1, 2, 3, 4, 5, 6, 7, 8, 9, 10, 18, 19, 20, 11, 12, 13, 14, 15, 16, 17] rfl rfl
            refine lv_if_ne (tgt := 192) hx hb dX3_weigh_176 (by decide) (fun c47 => ?_) (fun c47 => ?_)
            · have hm := hm.1 c47
              obtain ⟨v42, e_v42⟩ : ∃ z : Int32, z = x4_34 + 1 := ⟨_, rfl⟩
              have hm := hm v42 e_v42
              refine lv_iinc (v := v42) (lv' := [(4, .int v42), (3, .int x3_11), (2, .null), (0, .ref (aP 0)), (1, .ref (aB 0))]) hx hb dX3_weigh_192 hl (k := 0) rfl (by rw [e_v42]; rfl) (by decide) rfl (fun ls hl => ?_)
              refine lv_goto (tgt := 141) hx hb dX3_weigh_195 (by decide) ?_
              exact ih36 _ _ hm _ _ _ hw (lv_sub hl [0, 1, 2, 3, 4] rfl)
            · have hm := hm.2 c47
              refine lv_aload_n hx hb dX3_weigh_179 rfl (lv_at hl 3 rfl) ?_
              refine gF (k := 5) hc hw inX3 rfl 0 rfl (by decide) (gm 332 (by decide +kernel) rfl) rfl dX3_weigh_180 ?_
              refine lv_iload_n hx hb dX3_weigh_183 rfl (lv_at hl 1 rfl) ?_
              refine lv_dup2_11 hx hb dX3_weigh_184 rfl rfl ?_
              obtain ⟨c43, hm⟩ := hm
              refine aI hc hw 5 rfl c43 rfl dX3_weigh_185 ?_
              refine lv_iconst (v := 1) hx hb dX3_weigh_186 (by decide) ?_
              refine lv_iload hx hb dX3_weigh_187 (lv_at hl 0 rfl) ?_
              refine lv_ishl hx hb dX3_weigh_189 ?_
              refine lv_ior hx hb dX3_weigh_190 ?_
              obtain ⟨c44, hm⟩ := hm
              refine sI hc hw 5 rfl c44 rfl dX3_weigh_191 (fun H locs hw => ?_)
              obtain ⟨S45, e_S45⟩ : ∃ z : Ob, z = uA S35 5 (Int32.toNatClampNeg x3_11) ((S35.2 5 (Int32.toNatClampNeg x3_11)) ||| ((1 : Int32) <<< (x4_34 &&& 31))) := ⟨_, rfl⟩
              have hm := hm S45 e_S45
              have hw : wV D A s.heap ((pW cy aP (aJ 0) S45) ++ ((jW cy aJ S21) ++ ((bW cy aB (als 0) e_B_told e_B_mentions e_B_claims SB) ++ (lsW cy als Sls)))) H locs := by rw [e_S45]; exact hw
              obtain ⟨v46, e_v46⟩ : ∃ z : Int32, z = x4_34 + 1 := ⟨_, rfl⟩
              have hm := hm v46 e_v46
              refine lv_iinc (v := v46) (lv' := [(4, .int v46), (3, .int x3_11), (2, .null), (0, .ref (aP 0)), (1, .ref (aB 0))]) hx hb dX3_weigh_192 hl (k := 0) rfl (by rw [e_v46]; rfl) (by decide) rfl (fun ls hl => ?_)
              refine lv_goto (tgt := 141) hx hb dX3_weigh_195 (by decide) ?_
              exact ih36 _ _ hm _ _ _ hw (lv_sub hl [0, 1, 2, 3, 4] rfl)
    refine lv_icmp_ne (tgt := 36) hx hb dX3_weigh_29 (by decide) (fun c51 => ?_) (fun c51 => ?_)
    · have hm := hm.1 c51
      refine lv_iconst (v := 0) hx hb dX3_weigh_36 (by decide) ?_
      exact hJ4 _ hm _ _ _ hw (lv_sub hl [0, 1] rfl)
    · have hm := hm.2 c51
      refine lv_iconst (v := 1) hx hb dX3_weigh_32 (by decide) ?_
      refine lv_goto (tgt := 37) hx hb dX3_weigh_33 (by decide) ?_
      exact hJ4 _ hm _ _ _ hw (lv_sub hl [0, 1] rfl)
  · have hm := hm.2 c52
    exact retV (u := (SP, SJ)) hc hw hm dX3_weigh_7
set_option maxHeartbeats 4000000 in
set_option maxRecDepth 100000 in
theorem c_X3_reckonSet {l : Launch} {D : va_G} {cy : Nat → ClassId} {aP : Nat → Nat} {e_P_judge : Nat} {SP : Ob} {x1 : Int32} {Q : Ob → Prop} (hm : w_X3_reckonSet SP x1 Q) : CtV l yX3_reckonSet cX3_reckonSet 11 none (rmN 3) D cy [.ref (aP 0), .int x1] (pW cy aP e_P_judge SP) (fun u : Ob => (pW cy aP e_P_judge u)) Q := by
  refine CtV.ofW (by decide) (Nat.le_of_ble_eq_true rfl) ?_
  intro p e s m args below meth c A ls hc hnm hw hl
  have hx := hc.1.1
  have hb := hc.1.2.1
  have hown := hc.1.2.2.2.1
  have hts := hc.1.2.2.2.2
  have hl : lv_has ls 11 [(0, .ref (aP 0)), (1, .int x1)] := hl
  obtain ⟨H, hH⟩ : ∃ z, z = s.heap := ⟨_, rfl⟩
  obtain ⟨locs, hLc⟩ : ∃ z : List Loc, z = [] := ⟨_, rfl⟩
  have hw : wV D A s.heap (pW cy aP e_P_judge SP) H locs := by rw [hH, hLc]; exact hw
  have hgo : W p l e (rmN 3) s m args below meth c H locs 0 0 (MQ below (eV D cy A (fun u : Ob => (pW cy aP e_P_judge u)) Q) args s (rmN 3).cells (rmN 3).slots A) (F0 m 0 ls []) := ?hgo
  · rw [hH, hLc] at hgo; exact hgo
  refine lv_ldc (v := 100000) hx hb hown (hts _ (gm 841 (by decide +kernel) rfl)) dX3_reckonSet_0 ?_
  refine lv_istore_n (lv' := [(2, .int 100000), (0, .ref (aP 0)), (1, .int x1)]) hx hb dX3_reckonSet_2 rfl hl (by decide) rfl (fun ls hl => ?_)
  refine lv_iconst (v := (-1)) hx hb dX3_reckonSet_3 (by decide) ?_
  refine lv_istore_n (lv' := [(3, .int (-1)), (2, .int 100000), (0, .ref (aP 0)), (1, .int x1)]) hx hb dX3_reckonSet_4 rfl hl (by decide) rfl (fun ls hl => ?_)
  refine lv_ldc (v := 100000) hx hb hown (hts _ (gm 841 (by decide +kernel) rfl)) dX3_reckonSet_5 ?_
  refine lv_istore (lv' := [(4, .int 100000), (3, .int (-1)), (2, .int 100000), (0, .ref (aP 0)), (1, .int x1)]) hx hb dX3_reckonSet_7 hl (by decide) rfl (fun ls hl => ?_)
  refine lv_iconst (v := 0) hx hb dX3_reckonSet_9 (by decide) ?_
  refine lv_istore (lv' := [(5, .int 0), (4, .int 100000), (3, .int (-1)), (2, .int 100000), (0, .ref (aP 0)), (1, .int x1)]) hx hb dX3_reckonSet_10 hl (by decide) rfl (fun ls hl => ?_)
  refine lv_iconst (v := 0) hx hb dX3_reckonSet_12 (by decide) ?_
  refine lv_istore (lv' := [(6, .int 0), (5, .int 0), (4, .int 100000), (3, .int (-1)), (2, .int 100000), (0, .ref (aP 0)), (1, .int x1)]) hx hb dX3_reckonSet_13 hl (by decide) rfl (fun ls hl => ?_)
  refine wl5_ind (G := fun (x6_1 : Int32) (x5_2 : Int32) (x4_3 : Int32) (x3_4 : Int32) (x2_5 : Int32) => ∀ (H : Heap) (locs : List Loc) (ls : Array Slot), wV D A s.heap (pW cy aP e_P_judge SP) H locs → lv_has ls 11 [(6, .int x6_1), (5, .int x5_2), (4, .int x4_3), (3, .int x3_4), (2, .int x2_5), (0, .ref (aP 0)), (1, .int x1)] → W p l e (rmN 3) s m args below meth c H locs 0 0 (MQ below (eV D cy A (fun u : Ob => (pW cy aP e_P_judge u)) Q) args s (rmN 3).cells (rmN 3).slots A) (F0 m 15 ls [])) ?_ _ _ _ _ _ hm H locs ls hw (lv_sub hl [0, 1, 2, 3, 4, 5, 6] rfl)
  intro L6 ih6 x6_1 x5_2 x4_3 x3_4 x2_5 hm H locs ls hw hl
  refine lv_iload hx hb dX3_reckonSet_15 (lv_at hl 0 rfl) ?_
  refine lv_aload_n hx hb dX3_reckonSet_17 rfl (lv_at hl 5 rfl) ?_
  refine gF (k := 6) hc hw inX3 rfl 0 rfl (by decide) (gm 334 (by decide +kernel) rfl) rfl dX3_reckonSet_18 ?_
  refine lv_icmp_ge (tgt := 196) hx hb dX3_reckonSet_21 (by decide) (fun c75 => ?_) (fun c75 => ?_)
  · have hm := hm.1 c75
    refine lv_aload_n hx hb dX3_reckonSet_196 rfl (lv_at hl 5 rfl) ?_
    refine gF (k := 10) hc hw inX3 rfl 0 rfl (by decide) (gm 339 (by decide +kernel) rfl) rfl dX3_reckonSet_197 ?_
    refine lv_iload_n hx hb dX3_reckonSet_200 rfl (lv_at hl 6 rfl) ?_
    refine lv_iload hx hb dX3_reckonSet_201 (lv_at hl 1 rfl) ?_
    obtain ⟨c7, hm⟩ := hm
    refine sI hc hw 6 rfl c7 rfl dX3_reckonSet_203 (fun H locs hw => ?_)
    obtain ⟨S8, e_S8⟩ : ∃ z : Ob, z = uA SP 10 (Int32.toNatClampNeg x1) x5_2 := ⟨_, rfl⟩
    have hm := hm S8 e_S8
    have hw : wV D A s.heap (pW cy aP e_P_judge S8) H locs := by rw [e_S8]; exact hw
    refine lv_aload_n hx hb dX3_reckonSet_204 rfl (lv_at hl 5 rfl) ?_
    refine gF (k := 11) hc hw inX3 rfl 0 rfl (by decide) (gm 342 (by decide +kernel) rfl) rfl dX3_reckonSet_205 ?_
    refine lv_iload_n hx hb dX3_reckonSet_208 rfl (lv_at hl 6 rfl) ?_
    refine lv_iload_n hx hb dX3_reckonSet_209 rfl (lv_at hl 4 rfl) ?_
    obtain ⟨c9, hm⟩ := hm
    refine sI hc hw 7 rfl c9 rfl dX3_reckonSet_210 (fun H locs hw => ?_)
    obtain ⟨S10, e_S10⟩ : ∃ z : Ob, z = uA S8 11 (Int32.toNatClampNeg x1) x2_5 := ⟨_, rfl⟩
    have hm := hm S10 e_S10
    have hw : wV D A s.heap (pW cy aP e_P_judge S10) H locs := by rw [e_S10]; exact hw
    refine lv_aload_n hx hb dX3_reckonSet_211 rfl (lv_at hl 5 rfl) ?_
    refine gF (k := 12) hc hw inX3 rfl 0 rfl (by decide) (gm 344 (by decide +kernel) rfl) rfl dX3_reckonSet_212 ?_
    refine lv_iload_n hx hb dX3_reckonSet_215 rfl (lv_at hl 6 rfl) ?_
    refine lv_iload_n hx hb dX3_reckonSet_216 rfl (lv_at hl 3 rfl) ?_
    obtain ⟨c11, hm⟩ := hm
    refine sI hc hw 8 rfl c11 rfl dX3_reckonSet_217 (fun H locs hw => ?_)
    obtain ⟨S12, e_S12⟩ : ∃ z : Ob, z = uA S10 12 (Int32.toNatClampNeg x1) x3_4 := ⟨_, rfl⟩
    have hm := hm S12 e_S12
    have hw : wV D A s.heap (pW cy aP e_P_judge S12) H locs := by rw [e_S12]; exact hw
    refine lv_aload_n hx hb dX3_reckonSet_218 rfl (lv_at hl 5 rfl) ?_
    refine gF (k := 13) hc hw inX3 rfl 0 rfl (by decide) (gm 345 (by decide +kernel) rfl) rfl dX3_reckonSet_219 ?_
    refine lv_iload_n hx hb dX3_reckonSet_222 rfl (lv_at hl 6 rfl) ?_
    refine lv_aload_n hx hb dX3_reckonSet_223 rfl (lv_at hl 5 rfl) ?_
    refine gF (k := 7) hc hw inX3 rfl 0 rfl (by decide) (gm 336 (by decide +kernel) rfl) rfl dX3_reckonSet_224 ?_
    obtain ⟨J14, eJ14, hm⟩ := jn_e hm
    have hJ14 : ∀ (t13 : Int32) (_ : J14 t13) (H : Heap) (locs : List Loc) (ls : Array Slot), wV D A s.heap (pW cy aP e_P_judge S12) H locs → lv_has ls 11 [] → W p l e (rmN 3) s m args below meth c H locs 0 0 (MQ below (eV D cy A (fun u : Ob => (pW cy aP e_P_judge u)) Q) args s (rmN 3).cells (rmN 3).slots A) (F0 m 236 ls [.int t13, .int x1, .ref (aP 9)]) := by
      intro t13 hm H locs ls hw hl
      rw [eJ14] at hm
      obtain ⟨c15, hm⟩ := hm
      refine sI hc hw 9 rfl c15 rfl dX3_reckonSet_236 (fun H locs hw => ?_)
      obtain ⟨S16, e_S16⟩ : ∃ z : Ob, z = uA S12 13 (Int32.toNatClampNeg x1) t13 := ⟨_, rfl⟩
      have hm := hm S16 e_S16
      have hw : wV D A s.heap (pW cy aP e_P_judge S16) H locs := by rw [e_S16]; exact hw
      exact retV (u := S16) hc hw hm dX3_reckonSet_237
    refine lv_if_eq (tgt := 234) hx hb dX3_reckonSet_227 (by decide) (fun c17 => ?_) (fun c17 => ?_)
    · have hm := hm.1 c17
      refine lv_iload hx hb dX3_reckonSet_234 (lv_at hl 2 rfl) ?_
      exact hJ14 _ hm _ _ _ hw (lv_sub hl [] rfl)
    · have hm := hm.2 c17
      refine lv_iload_n hx hb dX3_reckonSet_230 rfl (lv_at hl 4 rfl) ?_
      refine lv_goto (tgt := 236) hx hb dX3_reckonSet_231 (by decide) ?_
      exact hJ14 _ hm _ _ _ hw (lv_sub hl [] rfl)
  · have hm := hm.2 c75
    refine lv_iload_n hx hb dX3_reckonSet_24 rfl (lv_at hl 6 rfl) ?_
    refine lv_iload hx hb dX3_reckonSet_25 (lv_at hl 0 rfl) ?_
    refine lv_ishr hx hb dX3_reckonSet_27 ?_
    refine lv_iconst (v := 1) hx hb dX3_reckonSet_28 (by decide) ?_
    refine lv_iand hx hb dX3_reckonSet_29 ?_
    refine lv_if_ne (tgt := 36) hx hb dX3_reckonSet_30 (by decide) (fun c74 => ?_) (fun c74 => ?_)
    · have hm := hm.1 c74
      refine lv_iload hx hb dX3_reckonSet_36 (lv_at hl 1 rfl) ?_
      refine lv_aload_n hx hb dX3_reckonSet_38 rfl (lv_at hl 5 rfl) ?_
      refine gF (k := 3) hc hw inX3 rfl 0 rfl (by decide) (gm 328 (by decide +kernel) rfl) rfl dX3_reckonSet_39 ?_
      refine lv_iload hx hb dX3_reckonSet_42 (lv_at hl 0 rfl) ?_
      obtain ⟨c18, hm⟩ := hm
      refine aI hc hw 3 rfl c18 rfl dX3_reckonSet_44 ?_
      refine lv_iadd hx hb dX3_reckonSet_45 ?_
      refine lv_topi (fun v19 e_v19 => ?_)
      have hm := hm v19 e_v19
      refine lv_istore (lv' := [(5, .int v19), (6, .int x6_1), (4, .int x4_3), (3, .int x3_4), (2, .int x2_5), (0, .ref (aP 0)), (1, .int x1)]) hx hb dX3_reckonSet_46 hl (by decide) rfl (fun ls hl => ?_)
      refine lv_iload_n hx hb dX3_reckonSet_48 rfl (lv_at hl 6 rfl) ?_
      refine lv_iconst (v := 1) hx hb dX3_reckonSet_49 (by decide) ?_
      refine lv_iload hx hb dX3_reckonSet_50 (lv_at hl 1 rfl) ?_
      refine lv_ishl hx hb dX3_reckonSet_52 ?_
      refine lv_iconst (v := (-1)) hx hb dX3_reckonSet_53 (by decide) ?_
      refine lv_ixor hx hb dX3_reckonSet_54 ?_
      refine lv_iand hx hb dX3_reckonSet_55 ?_
      refine lv_topi (fun v20 e_v20 => ?_)
      have hm := hm v20 e_v20
      refine lv_istore (lv' := [(7, .int v20), (5, .int v19), (6, .int x6_1), (4, .int x4_3), (3, .int x3_4), (2, .int x2_5), (0, .ref (aP 0)), (1, .int x1)]) hx hb dX3_reckonSet_56 hl (by decide) rfl (fun ls hl => ?_)
      refine lv_aload_n hx hb dX3_reckonSet_58 rfl (lv_at hl 6 rfl) ?_
      refine gF (k := 7) hc hw inX3 rfl 0 rfl (by decide) (gm 336 (by decide +kernel) rfl) rfl dX3_reckonSet_59 ?_
      refine lv_if_eq (tgt := 84) hx hb dX3_reckonSet_62 (by decide) (fun c72 => ?_) (fun c72 => ?_)
      · have hm := hm.1 c72
        refine lv_aload_n hx hb dX3_reckonSet_84 rfl (lv_at hl 6 rfl) ?_
        refine gF (k := 5) hc hw inX3 rfl 0 rfl (by decide) (gm 332 (by decide +kernel) rfl) rfl dX3_reckonSet_85 ?_
        refine lv_iload hx hb dX3_reckonSet_88 (lv_at hl 2 rfl) ?_
        obtain ⟨c21, hm⟩ := hm
        refine aI hc hw 5 rfl c21 rfl dX3_reckonSet_90 ?_
        refine lv_topi (fun v22 e_v22 => ?_)
        have hm := hm v22 e_v22
        refine lv_istore (lv' := [(8, .int v22), (7, .int v20), (5, .int v19), (6, .int x6_1), (4, .int x4_3), (3, .int x3_4), (2, .int x2_5), (0, .ref (aP 0)), (1, .int x1)]) hx hb dX3_reckonSet_91 hl (by decide) rfl (fun ls hl => ?_)
        refine lv_iconst (v := 0) hx hb dX3_reckonSet_93 (by decide) ?_
        refine lv_istore (lv' := [(9, .int 0), (8, .int v22), (7, .int v20), (5, .int v19), (6, .int x6_1), (4, .int x4_3), (3, .int x3_4), (2, .int x2_5), (0, .ref (aP 0)), (1, .int x1)]) hx hb dX3_reckonSet_94 hl (by decide) rfl (fun ls hl => ?_)
        refine wl4_ind (G := fun (x9_23 : Int32) (x4_24 : Int32) (x3_25 : Int32) (x2_26 : Int32) => ∀ (H : Heap) (locs : List Loc) (ls : Array Slot), wV D A s.heap (pW cy aP e_P_judge SP) H locs → lv_has ls 11 [(9, .int x9_23), (8, .int v22), (7, .int v20), (5, .int v19), (6, .int x6_1), (4, .int x4_24), (3, .int x3_25), (2, .int x2_26), (0, .ref (aP 0)), (1, .int x1)] → W p l e (rmN 3) s m args below meth c H locs 0 0 (MQ below (eV D cy A (fun u : Ob => (pW cy aP e_P_judge u)) Q) args s (rmN 3).cells (rmN 3).slots A) (F0 m 96 ls [])) ?_ _ _ _ _ hm H locs ls hw (lv_sub hl [0, 1, 2, 3, 4, 5, 6, 7, 8, 9] rfl)
        intro L27 ih27 x9_23 x4_24 x3_25 x2_26 hm H locs ls hw hl
        refine lv_iload hx hb dX3_reckonSet_96 (lv_at hl 0 rfl) ?_
        refine lv_iconst (v := 4) hx hb dX3_reckonSet_98 (by decide) ?_
        refine lv_icmp_ge (tgt := 190) hx hb dX3_reckonSet_99 (by decide) (fun c45 => ?_) (fun c45 => ?_)
        · have hm := hm.1 c45
          obtain ⟨v28, e_v28⟩ : ∃ z : Int32, z = x6_1 + 1 := ⟨_, rfl⟩
          have hm := hm v28 e_v28
          refine lv_iinc (v := v28) (lv' := [(6, .int v28), (9, .int x9_23), (8, .int v22), (7, .int v20), (5, .int v19), (4, .int x4_24), (3, .int x3_25), (2, .int x2_26), (0, .ref (aP 0)), (1, .int x1)]) hx hb dX3_reckonSet_190 hl (k := 4) rfl (by rw [e_v28]; rfl) (by decide) rfl (fun ls hl => ?_)
          refine lv_goto (tgt := 15) hx hb dX3_reckonSet_193 (by decide) ?_
          exact ih6 _ _ _ _ _ hm _ _ _ hw (lv_sub hl [0, 4, 5, 6, 7, 8, 9] rfl)
        · have hm := hm.2 c45
          refine lv_iload hx hb dX3_reckonSet_102 (lv_at hl 1 rfl) ?_
          refine lv_iload hx hb dX3_reckonSet_104 (lv_at hl 0 rfl) ?_
          refine lv_ishr hx hb dX3_reckonSet_106 ?_
          refine lv_if_eq (tgt := 190) hx hb dX3_reckonSet_107 (by decide) (fun c44 => ?_) (fun c44 => ?_)
          · have hm := hm.1 c44
            obtain ⟨v29, e_v29⟩ : ∃ z : Int32, z = x6_1 + 1 := ⟨_, rfl⟩
            have hm := hm v29 e_v29
            refine lv_iinc (v := v29) (lv' := [(6, .int v29), (9, .int x9_23), (8, .int v22), (7, .int v20), (5, .int v19), (4, .int x4_24), (3, .int x3_25), (2, .int x2_26), (0, .ref (aP 0)), (1, .int x1)]) hx hb dX3_reckonSet_190 hl (k := 4) rfl (by rw [e_v29]; rfl) (by decide) rfl (fun ls hl => ?_)
            refine lv_goto (tgt := 15) hx hb dX3_reckonSet_193 (by decide) ?_
            exact ih6 _ _ _ _ _ hm _ _ _ hw (lv_sub hl [0, 4, 5, 6, 7, 8, 9] rfl)
          · have hm := hm.2 c44
            refine lv_iload hx hb dX3_reckonSet_110 (lv_at hl 1 rfl) ?_
            refine lv_iload hx hb dX3_reckonSet_112 (lv_at hl 0 rfl) ?_
            refine lv_ishr hx hb dX3_reckonSet_114 ?_
            refine lv_iconst (v := 1) hx hb dX3_reckonSet_115 (by decide) ?_
            refine lv_iand hx hb dX3_reckonSet_116 ?_
            refine lv_if_ne (tgt := 123) hx hb dX3_reckonSet_117 (by decide) (fun c43 => ?_) (fun c43 => ?_)
            · have hm := hm.1 c43
              refine lv_aload_n hx hb dX3_reckonSet_123 rfl (lv_at hl 8 rfl) ?_
              refine lv_iload hx hb dX3_reckonSet_124 (lv_at hl 4 rfl) ?_
              refine lv_aload_n hx hb dX3_reckonSet_126 rfl (lv_at hl 8 rfl) ?_
              refine lv_iload hx hb dX3_reckonSet_127 (lv_at hl 2 rfl) ?_
              refine lv_iload hx hb dX3_reckonSet_129 (lv_at hl 0 rfl) ?_
              refine aV_I (As := [.int v20, .int x9_23]) (rest := [.int x6_1, .ref (aP 0)]) hc hw (c_X3_yearNeeded hm) lk_X3_111 rfl rfl ⟨Nat.le_of_ble_eq_true rfl, Nat.le_of_ble_eq_true rfl⟩ ⟨Nat.le_of_ble_eq_true rfl, Nat.le_of_ble_eq_true rfl⟩ hl.1 rfl (Nat.le_of_ble_eq_true rfl) rfl dX3_reckonSet_131 (fun r30 _ H locs hm hw => ?_)
              have hw : wV D A s.heap (pW cy aP e_P_judge SP) H locs := hw
              refine aV_I (As := [.int x6_1, .int r30]) (rest := []) hc hw (c_X3_yearAhead hm) lk_X3_115 rfl rfl ⟨Nat.le_of_ble_eq_true rfl, Nat.le_of_ble_eq_true rfl⟩ ⟨Nat.le_of_ble_eq_true rfl, Nat.le_of_ble_eq_true rfl⟩ hl.1 rfl (Nat.le_of_ble_eq_true rfl) rfl dX3_reckonSet_134 (fun r32 _ H locs hm hw => ?_)
              have hw : wV D A s.heap (pW cy aP e_P_judge SP) H locs := hw
              refine lv_istore (lv' := [(10, .int r32), (9, .int x9_23), (8, .int v22), (7, .int v20), (5, .int v19), (6, .int x6_1), (4, .int x4_24), (3, .int x3_25), (2, .int x2_26), (0, .ref (aP 0)), (1, .int x1)]) hx hb dX3_reckonSet_137 hl (by decide) rfl (fun ls hl => ?_)
              refine lv_iload hx hb dX3_reckonSet_139 (lv_at hl 1 rfl) ?_
              refine lv_iload_n hx hb dX3_reckonSet_141 rfl (lv_at hl 7 rfl) ?_
              refine lv_icmp_ne (tgt := 155) hx hb dX3_reckonSet_142 (by decide) (fun c41 => ?_) (fun c41 => ?_)
              · have hm := hm.1 c41
                refine lv_iload hx hb dX3_reckonSet_155 (lv_at hl 0 rfl) ?_
                refine lv_iload_n hx hb dX3_reckonSet_157 rfl (lv_at hl 8 rfl) ?_
                refine lv_icmp_ge (tgt := 173) hx hb dX3_reckonSet_158 (by decide) (fun c38 => ?_) (fun c38 => ?_)
                · have hm := hm.1 c38
                  refine lv_iload hx hb dX3_reckonSet_173 (lv_at hl 0 rfl) ?_
                  refine lv_iload hx hb dX3_reckonSet_175 (lv_at hl 6 rfl) ?_
                  refine lv_icmp_ge (tgt := 184) hx hb dX3_reckonSet_177 (by decide) (fun c36 => ?_) (fun c36 => ?_)
                  · have hm := hm.1 c36
                    obtain ⟨v34, e_v34⟩ : ∃ z : Int32, z = x9_23 + 1 := ⟨_, rfl⟩
                    have hm := hm v34 e_v34
                    refine lv_iinc (v := v34) (lv' := [(9, .int v34), (10, .int r32), (8, .int v22), (7, .int v20), (5, .int v19), (6, .int x6_1), (4, .int x4_24), (3, .int x3_25), (2, .int x2_26), (0, .ref (aP 0)), (1, .int x1)]) hx hb dX3_reckonSet_184 hl (k := 1) rfl (by rw [e_v34]; rfl) (by decide) rfl (fun ls hl => ?_)
                    refine lv_goto (tgt := 96) hx hb dX3_reckonSet_187 (by decide) ?_
                    exact ih27 _ _ _ _ hm _ _ _ hw (lv_sub hl [0, 2, 3, 4, 5, 6, 7, 8, 9, 10] rfl)
                  · have hm := hm.2 c36
                    refine lv_iload hx hb dX3_reckonSet_180 (lv_at hl 0 rfl) ?_
                    refine lv_istore (lv' := [(4, .int r32), (10, .int r32), (9, .int x9_23), (8, .int v22), (7, .int v20), (5, .int v19), (6, .int x6_1), (3, .int x3_25), (2, .int x2_26), (0, .ref (aP 0)), (1, .int x1)]) hx hb dX3_reckonSet_182 hl (by decide) rfl (fun ls hl => ?_)
                    obtain ⟨v35, e_v35⟩ : ∃ z : Int32, z = x9_23 + 1 := ⟨_, rfl⟩
                    have hm := hm v35 e_v35
                    refine lv_iinc (v := v35) (lv' := [(9, .int v35), (4, .int r32), (10, .int r32), (8, .int v22), (7, .int v20), (5, .int v19), (6, .int x6_1), (3, .int x3_25), (2, .int x2_26), (0, .ref (aP 0)), (1, .int x1)]) hx hb dX3_reckonSet_184 hl (k := 2) rfl (by rw [e_v35]; rfl) (by decide) rfl (fun ls hl => ?_)
                    refine lv_goto (tgt := 96) hx hb dX3_reckonSet_187 (by decide) ?_
                    exact ih27 _ _ _ _ hm _ _ _ hw (lv_sub hl [0, 3, 4, 5, 6, 1, 7, 8, 9, 10] rfl)
                · have hm := hm.2 c38
                  refine lv_iload_n hx hb dX3_reckonSet_161 rfl (lv_at hl 8 rfl) ?_
                  refine lv_istore (lv' := [(4, .int x2_26), (10, .int r32), (9, .int x9_23), (8, .int v22), (7, .int v20), (5, .int v19), (6, .int x6_1), (3, .int x3_25), (2, .int x2_26), (0, .ref (aP 0)), (1, .int x1)]) hx hb dX3_reckonSet_162 hl (by decide) rfl (fun ls hl => ?_)
                  refine lv_iload hx hb dX3_reckonSet_164 (lv_at hl 1 rfl) ?_
                  refine lv_istore_n (lv' := [(2, .int r32), (4, .int x2_26), (10, .int r32), (9, .int x9_23), (8, .int v22), (7, .int v20), (5, .int v19), (6, .int x6_1), (3, .int x3_25), (0, .ref (aP 0)), (1, .int x1)]) hx hb dX3_reckonSet_166 rfl hl (by decide) rfl (fun ls hl => ?_)
                  refine lv_iload hx hb dX3_reckonSet_167 (lv_at hl 3 rfl) ?_
                  refine lv_istore_n (lv' := [(3, .int x9_23), (2, .int r32), (4, .int x2_26), (10, .int r32), (9, .int x9_23), (8, .int v22), (7, .int v20), (5, .int v19), (6, .int x6_1), (0, .ref (aP 0)), (1, .int x1)]) hx hb dX3_reckonSet_169 rfl hl (by decide) rfl (fun ls hl => ?_)
                  refine lv_goto (tgt := 184) hx hb dX3_reckonSet_170 (by decide) ?_
                  obtain ⟨v37, e_v37⟩ : ∃ z : Int32, z = x9_23 + 1 := ⟨_, rfl⟩
                  have hm := hm v37 e_v37
                  refine lv_iinc (v := v37) (lv' := [(9, .int v37), (3, .int x9_23), (2, .int r32), (4, .int x2_26), (10, .int r32), (8, .int v22), (7, .int v20), (5, .int v19), (6, .int x6_1), (0, .ref (aP 0)), (1, .int x1)]) hx hb dX3_reckonSet_184 hl (k := 4) rfl (by rw [e_v37]; rfl) (by decide) rfl (fun ls hl => ?_)
                  refine lv_goto (tgt := 96) hx hb dX3_reckonSet_187 (by decide) ?_
                  exact ih27 _ _ _ _ hm _ _ _ hw (lv_sub hl [0, 5, 6, 7, 8, 3, 1, 2, 9, 10] rfl)
              · have hm := hm.2 c41
                refine lv_iload_n hx hb dX3_reckonSet_145 rfl (lv_at hl 8 rfl) ?_
                refine lv_iload hx hb dX3_reckonSet_146 (lv_at hl 0 rfl) ?_
                refine m_min (rest := []) hc hl.1 (gm 781 (by decide +kernel) rfl) (Nat.le_of_ble_eq_true rfl) (Nat.le_of_ble_eq_true rfl) (Nat.le_of_ble_eq_true rfl) (Nat.le_of_ble_eq_true rfl) dX3_reckonSet_148 ?_
                refine lv_topi (fun v39 e_v39 => ?_)
                have hm := hm v39 e_v39
                refine lv_istore_n (lv' := [(2, .int v39), (10, .int r32), (9, .int x9_23), (8, .int v22), (7, .int v20), (5, .int v19), (6, .int x6_1), (4, .int x4_24), (3, .int x3_25), (0, .ref (aP 0)), (1, .int x1)]) hx hb dX3_reckonSet_151 rfl hl (by decide) rfl (fun ls hl => ?_)
                refine lv_goto (tgt := 184) hx hb dX3_reckonSet_152 (by decide) ?_
                obtain ⟨v40, e_v40⟩ : ∃ z : Int32, z = x9_23 + 1 := ⟨_, rfl⟩
                have hm := hm v40 e_v40
                refine lv_iinc (v := v40) (lv' := [(9, .int v40), (2, .int v39), (10, .int r32), (8, .int v22), (7, .int v20), (5, .int v19), (6, .int x6_1), (4, .int x4_24), (3, .int x3_25), (0, .ref (aP 0)), (1, .int x1)]) hx hb dX3_reckonSet_184 hl (k := 2) rfl (by rw [e_v40]; rfl) (by decide) rfl (fun ls hl => ?_)
                refine lv_goto (tgt := 96) hx hb dX3_reckonSet_187 (by decide) ?_
                exact ih27 _ _ _ _ hm _ _ _ hw (lv_sub hl [0, 3, 4, 5, 6, 7, 8, 1, 9, 10] rfl)
            · have hm := hm.2 c43
              refine lv_goto (tgt := 184) hx hb dX3_reckonSet_120 (by decide) ?_
              obtain ⟨v42, e_v42⟩ : ∃ z : Int32, z = x9_23 + 1 := ⟨_, rfl⟩
              have hm := hm v42 e_v42
              refine lv_iinc (v := v42) (lv' := [(9, .int v42), (8, .int v22), (7, .int v20), (5, .int v19), (6, .int x6_1), (4, .int x4_24), (3, .int x3_25), (2, .int x2_26), (0, .ref (aP 0)), (1, .int x1)]) hx hb dX3_reckonSet_184 hl (k := 0) rfl (by rw [e_v42]; rfl) (by decide) rfl (fun ls hl => ?_)
              refine lv_goto (tgt := 96) hx hb dX3_reckonSet_187 (by decide) ?_
              exact ih27 _ _ _ _ hm _ _ _ hw (lv_sub hl [0, 1, 2, 3, 4, 5, 6, 7, 8, 9] rfl)
      · have hm := hm.2 c72
        refine lv_aload_n hx hb dX3_reckonSet_65 rfl (lv_at hl 6 rfl) ?_
        refine gF (k := 5) hc hw inX3 rfl 0 rfl (by decide) (gm 332 (by decide +kernel) rfl) rfl dX3_reckonSet_66 ?_
        refine lv_iload hx hb dX3_reckonSet_69 (lv_at hl 2 rfl) ?_
        obtain ⟨c46, hm⟩ := hm
        refine aI hc hw 5 rfl c46 rfl dX3_reckonSet_71 ?_
        refine lv_aload_n hx hb dX3_reckonSet_72 rfl (lv_at hl 6 rfl) ?_
        refine gF (k := 5) hc hw inX3 rfl 0 rfl (by decide) (gm 332 (by decide +kernel) rfl) rfl dX3_reckonSet_73 ?_
        refine lv_iload hx hb dX3_reckonSet_76 (lv_at hl 2 rfl) ?_
        obtain ⟨c47, hm⟩ := hm
        refine aI hc hw 5 rfl c47 rfl dX3_reckonSet_78 ?_
        refine lv_ineg hx hb dX3_reckonSet_79 ?_
        refine lv_iand hx hb dX3_reckonSet_80 ?_
        refine lv_goto (tgt := 91) hx hb dX3_reckonSet_81 (by decide) ?_
        refine lv_topi (fun v48 e_v48 => ?_)
        have hm := hm v48 e_v48
        refine lv_istore (lv' := [(8, .int v48), (7, .int v20), (5, .int v19), (6, .int x6_1), (4, .int x4_3), (3, .int x3_4), (2, .int x2_5), (0, .ref (aP 0)), (1, .int x1)]) hx hb dX3_reckonSet_91 hl (by decide) rfl (fun ls hl => ?_)
        refine lv_iconst (v := 0) hx hb dX3_reckonSet_93 (by decide) ?_
        refine lv_istore (lv' := [(9, .int 0), (8, .int v48), (7, .int v20), (5, .int v19), (6, .int x6_1), (4, .int x4_3), (3, .int x3_4), (2, .int x2_5), (0, .ref (aP 0)), (1, .int x1)]) hx hb dX3_reckonSet_94 hl (by decide) rfl (fun ls hl => ?_)
        refine wl4_ind (G := fun (x9_49 : Int32) (x4_50 : Int32) (x3_51 : Int32) (x2_52 : Int32) => ∀ (H : Heap) (locs : List Loc) (ls : Array Slot), wV D A s.heap (pW cy aP e_P_judge SP) H locs → lv_has ls 11 [(9, .int x9_49), (8, .int v48), (7, .int v20), (5, .int v19), (6, .int x6_1), (4, .int x4_50), (3, .int x3_51), (2, .int x2_52), (0, .ref (aP 0)), (1, .int x1)] → W p l e (rmN 3) s m args below meth c H locs 0 0 (MQ below (eV D cy A (fun u : Ob => (pW cy aP e_P_judge u)) Q) args s (rmN 3).cells (rmN 3).slots A) (F0 m 96 ls [])) ?_ _ _ _ _ hm H locs ls hw (lv_sub hl [0, 1, 2, 3, 4, 5, 6, 7, 8, 9] rfl)
        intro L53 ih53 x9_49 x4_50 x3_51 x2_52 hm H locs ls hw hl
        refine lv_iload hx hb dX3_reckonSet_96 (lv_at hl 0 rfl) ?_
        refine lv_iconst (v := 4) hx hb dX3_reckonSet_98 (by decide) ?_
        refine lv_icmp_ge (tgt := 190) hx hb dX3_reckonSet_99 (by decide) (fun c71 => ?_) (fun c71 => ?_)
        · have hm := hm.1 c71
          obtain ⟨v54, e_v54⟩ : ∃ z : Int32, z = x6_1 + 1 := ⟨_, rfl⟩
          have hm := hm v54 e_v54
          refine lv_iinc (v := v54) (lv' := [(6, .int v54), (9, .int x9_49), (8, .int v48), (7, .int v20), (5, .int v19), (4, .int x4_50), (3, .int x3_51), (2, .int x2_52), (0, .ref (aP 0)), (1, .int x1)]) hx hb dX3_reckonSet_190 hl (k := 4) rfl (by rw [e_v54]; rfl) (by decide) rfl (fun ls hl => ?_)
          refine lv_goto (tgt := 15) hx hb dX3_reckonSet_193 (by decide) ?_
          exact ih6 _ _ _ _ _ hm _ _ _ hw (lv_sub hl [0, 4, 5, 6, 7, 8, 9] rfl)
        · have hm := hm.2 c71
          refine lv_iload hx hb dX3_reckonSet_102 (lv_at hl 1 rfl) ?_
          refine lv_iload hx hb dX3_reckonSet_104 (lv_at hl 0 rfl) ?_
          refine lv_ishr hx hb dX3_reckonSet_106 ?_
          refine lv_if_eq (tgt := 190) hx hb dX3_reckonSet_107 (by decide) (fun c70 => ?_) (fun c70 => ?_)
          · have hm := hm.1 c70
            obtain ⟨v55, e_v55⟩ : ∃ z : Int32, z = x6_1 + 1 := ⟨_, rfl⟩
            have hm := hm v55 e_v55
            refine lv_iinc (v := v55) (lv' := [(6, .int v55), (9, .int x9_49), (8, .int v48), (7, .int v20), (5, .int v19), (4, .int x4_50), (3, .int x3_51), (2, .int x2_52), (0, .ref (aP 0)), (1, .int x1)]) hx hb dX3_reckonSet_190 hl (k := 4) rfl (by rw [e_v55]; rfl) (by decide) rfl (fun ls hl => ?_)
            refine lv_goto (tgt := 15) hx hb dX3_reckonSet_193 (by decide) ?_
            exact ih6 _ _ _ _ _ hm _ _ _ hw (lv_sub hl [0, 4, 5, 6, 7, 8, 9] rfl)
          · have hm := hm.2 c70
            refine lv_iload hx hb dX3_reckonSet_110 (lv_at hl 1 rfl) ?_
            refine lv_iload hx hb dX3_reckonSet_112 (lv_at hl 0 rfl) ?_
            refine lv_ishr hx hb dX3_reckonSet_114 ?_
            refine lv_iconst (v := 1) hx hb dX3_reckonSet_115 (by decide) ?_
            refine lv_iand hx hb dX3_reckonSet_116 ?_
            refine lv_if_ne (tgt := 123) hx hb dX3_reckonSet_117 (by decide) (fun c69 => ?_) (fun c69 => ?_)
            · have hm := hm.1 c69
              refine lv_aload_n hx hb dX3_reckonSet_123 rfl (lv_at hl 8 rfl) ?_
              refine lv_iload hx hb dX3_reckonSet_124 (lv_at hl 4 rfl) ?_
              refine lv_aload_n hx hb dX3_reckonSet_126 rfl (lv_at hl 8 rfl) ?_
              refine lv_iload hx hb dX3_reckonSet_127 (lv_at hl 2 rfl) ?_
              refine lv_iload hx hb dX3_reckonSet_129 (lv_at hl 0 rfl) ?_
              refine aV_I (As := [.int v20, .int x9_49]) (rest := [.int x6_1, .ref (aP 0)]) hc hw (c_X3_yearNeeded hm) lk_X3_111 rfl rfl ⟨Nat.le_of_ble_eq_true rfl, Nat.le_of_ble_eq_true rfl⟩ ⟨Nat.le_of_ble_eq_true rfl, Nat.le_of_ble_eq_true rfl⟩ hl.1 rfl (Nat.le_of_ble_eq_true rfl) rfl dX3_reckonSet_131 (fun r56 _ H locs hm hw => ?_)
              have hw : wV D A s.heap (pW cy aP e_P_judge SP) H locs := hw
              refine aV_I (As := [.int x6_1, .int r56]) (rest := []) hc hw (c_X3_yearAhead hm) lk_X3_115 rfl rfl ⟨Nat.le_of_ble_eq_true rfl, Nat.le_of_ble_eq_true rfl⟩ ⟨Nat.le_of_ble_eq_true rfl, Nat.le_of_ble_eq_true rfl⟩ hl.1 rfl (Nat.le_of_ble_eq_true rfl) rfl dX3_reckonSet_134 (fun r58 _ H locs hm hw => ?_)
              have hw : wV D A s.heap (pW cy aP e_P_judge SP) H locs := hw
              refine lv_istore (lv' := [(10, .int r58), (9, .int x9_49), (8, .int v48), (7, .int v20), (5, .int v19), (6, .int x6_1), (4, .int x4_50), (3, .int x3_51), (2, .int x2_52), (0, .ref (aP 0)), (1, .int x1)]) hx hb dX3_reckonSet_137 hl (by decide) rfl (fun ls hl => ?_)
              refine lv_iload hx hb dX3_reckonSet_139 (lv_at hl 1 rfl) ?_
              refine lv_iload_n hx hb dX3_reckonSet_141 rfl (lv_at hl 7 rfl) ?_
              refine lv_icmp_ne (tgt := 155) hx hb dX3_reckonSet_142 (by decide) (fun c67 => ?_) (fun c67 => ?_)
              · have hm := hm.1 c67
                refine lv_iload hx hb dX3_reckonSet_155 (lv_at hl 0 rfl) ?_
                refine lv_iload_n hx hb dX3_reckonSet_157 rfl (lv_at hl 8 rfl) ?_
                refine lv_icmp_ge (tgt := 173) hx hb dX3_reckonSet_158 (by decide) (fun c64 => ?_) (fun c64 => ?_)
                · have hm := hm.1 c64
                  refine lv_iload hx hb dX3_reckonSet_173 (lv_at hl 0 rfl) ?_
                  refine lv_iload hx hb dX3_reckonSet_175 (lv_at hl 6 rfl) ?_
                  refine lv_icmp_ge (tgt := 184) hx hb dX3_reckonSet_177 (by decide) (fun c62 => ?_) (fun c62 => ?_)
                  · have hm := hm.1 c62
                    obtain ⟨v60, e_v60⟩ : ∃ z : Int32, z = x9_49 + 1 := ⟨_, rfl⟩
                    have hm := hm v60 e_v60
                    refine lv_iinc (v := v60) (lv' := [(9, .int v60), (10, .int r58), (8, .int v48), (7, .int v20), (5, .int v19), (6, .int x6_1), (4, .int x4_50), (3, .int x3_51), (2, .int x2_52), (0, .ref (aP 0)), (1, .int x1)]) hx hb dX3_reckonSet_184 hl (k := 1) rfl (by rw [e_v60]; rfl) (by decide) rfl (fun ls hl => ?_)
                    refine lv_goto (tgt := 96) hx hb dX3_reckonSet_187 (by decide) ?_
                    exact ih53 _ _ _ _ hm _ _ _ hw (lv_sub hl [0, 2, 3, 4, 5, 6, 7, 8, 9, 10] rfl)
                  · have hm := hm.2 c62
                    refine lv_iload hx hb dX3_reckonSet_180 (lv_at hl 0 rfl) ?_
                    refine lv_istore (lv' := [(4, .int r58), (10, .int r58), (9, .int x9_49), (8, .int v48), (7, .int v20), (5, .int v19), (6, .int x6_1), (3, .int x3_51), (2, .int x2_52), (0, .ref (aP 0)), (1, .int x1)]) hx hb dX3_reckonSet_182 hl (by decide) rfl (fun ls hl => ?_)
                    obtain ⟨v61, e_v61⟩ : ∃ z : Int32, z = x9_49 + 1 := ⟨_, rfl⟩
                    have hm := hm v61 e_v61
                    refine lv_iinc (v := v61) (lv' := [(9, .int v61), (4, .int r58), (10, .int r58), (8, .int v48), (7, .int v20), (5, .int v19), (6, .int x6_1), (3, .int x3_51), (2, .int x2_52), (0, .ref (aP 0)), (1, .int x1)]) hx hb dX3_reckonSet_184 hl (k := 2) rfl (by rw [e_v61]; rfl) (by decide) rfl (fun ls hl => ?_)
                    refine lv_goto (tgt := 96) hx hb dX3_reckonSet_187 (by decide) ?_
                    exact ih53 _ _ _ _ hm _ _ _ hw (lv_sub hl [0, 3, 4, 5, 6, 1, 7, 8, 9, 10] rfl)
                · have hm := hm.2 c64
                  refine lv_iload_n hx hb dX3_reckonSet_161 rfl (lv_at hl 8 rfl) ?_
                  refine lv_istore (lv' := [(4, .int x2_52), (10, .int r58), (9, .int x9_49), (8, .int v48), (7, .int v20), (5, .int v19), (6, .int x6_1), (3, .int x3_51), (2, .int x2_52), (0, .ref (aP 0)), (1, .int x1)]) hx hb dX3_reckonSet_162 hl (by decide) rfl (fun ls hl => ?_)
                  refine lv_iload hx hb dX3_reckonSet_164 (lv_at hl 1 rfl) ?_
                  refine lv_istore_n (lv' := [(2, .int r58), (4, .int x2_52), (10, .int r58), (9, .int x9_49), (8, .int v48), (7, .int v20), (5, .int v19), (6, .int x6_1), (3, .int x3_51), (0, .ref (aP 0)), (1, .int x1)]) hx hb dX3_reckonSet_166 rfl hl (by decide) rfl (fun ls hl => ?_)
                  refine lv_iload hx hb dX3_reckonSet_167 (lv_at hl 3 rfl) ?_
                  refine lv_istore_n (lv' := [(3, .int x9_49), (2, .int r58), (4, .int x2_52), (10, .int r58), (9, .int x9_49), (8, .int v48), (7, .int v20), (5, .int v19), (6, .int x6_1), (0, .ref (aP 0)), (1, .int x1)]) hx hb dX3_reckonSet_169 rfl hl (by decide) rfl (fun ls hl => ?_)
                  refine lv_goto (tgt := 184) hx hb dX3_reckonSet_170 (by decide) ?_
                  obtain ⟨v63, e_v63⟩ : ∃ z : Int32, z = x9_49 + 1 := ⟨_, rfl⟩
                  have hm := hm v63 e_v63
                  refine lv_iinc (v := v63) (lv' := [(9, .int v63), (3, .int x9_49), (2, .int r58), (4, .int x2_52), (10, .int r58), (8, .int v48), (7, .int v20), (5, .int v19), (6, .int x6_1), (0, .ref (aP 0)), (1, .int x1)]) hx hb dX3_reckonSet_184 hl (k := 4) rfl (by rw [e_v63]; rfl) (by decide) rfl (fun ls hl => ?_)
                  refine lv_goto (tgt := 96) hx hb dX3_reckonSet_187 (by decide) ?_
                  exact ih53 _ _ _ _ hm _ _ _ hw (lv_sub hl [0, 5, 6, 7, 8, 3, 1, 2, 9, 10] rfl)
              · have hm := hm.2 c67
                refine lv_iload_n hx hb dX3_reckonSet_145 rfl (lv_at hl 8 rfl) ?_
                refine lv_iload hx hb dX3_reckonSet_146 (lv_at hl 0 rfl) ?_
                refine m_min (rest := []) hc hl.1 (gm 781 (by decide +kernel) rfl) (Nat.le_of_ble_eq_true rfl) (Nat.le_of_ble_eq_true rfl) (Nat.le_of_ble_eq_true rfl) (Nat.le_of_ble_eq_true rfl) dX3_reckonSet_148 ?_
                refine lv_topi (fun v65 e_v65 => ?_)
                have hm := hm v65 e_v65
                refine lv_istore_n (lv' := [(2, .int v65), (10, .int r58), (9, .int x9_49), (8, .int v48), (7, .int v20), (5, .int v19), (6, .int x6_1), (4, .int x4_50), (3, .int x3_51), (0, .ref (aP 0)), (1, .int x1)]) hx hb dX3_reckonSet_151 rfl hl (by decide) rfl (fun ls hl => ?_)
                refine lv_goto (tgt := 184) hx hb dX3_reckonSet_152 (by decide) ?_
                obtain ⟨v66, e_v66⟩ : ∃ z : Int32, z = x9_49 + 1 := ⟨_, rfl⟩
                have hm := hm v66 e_v66
                refine lv_iinc (v := v66) (lv' := [(9, .int v66), (2, .int v65), (10, .int r58), (8, .int v48), (7, .int v20), (5, .int v19), (6, .int x6_1), (4, .int x4_50), (3, .int x3_51), (0, .ref (aP 0)), (1, .int x1)]) hx hb dX3_reckonSet_184 hl (k := 2) rfl (by rw [e_v66]; rfl) (by decide) rfl (fun ls hl => ?_)
                refine lv_goto (tgt := 96) hx hb dX3_reckonSet_187 (by decide) ?_
                exact ih53 _ _ _ _ hm _ _ _ hw (lv_sub hl [0, 3, 4, 5, 6, 7, 8, 1, 9, 10] rfl)
            · have hm := hm.2 c69
              refine lv_goto (tgt := 184) hx hb dX3_reckonSet_120 (by decide) ?_
              obtain ⟨v68, e_v68⟩ : ∃ z : Int32, z = x9_49 + 1 := ⟨_, rfl⟩
              have hm := hm v68 e_v68
              refine lv_iinc (v := v68) (lv' := [(9, .int v68), (8, .int v48), (7, .int v20), (5, .int v19), (6, .int x6_1), (4, .int x4_50), (3, .int x3_51), (2, .int x2_52), (0, .ref (aP 0)), (1, .int x1)]) hx hb dX3_reckonSet_184 hl (k := 0) rfl (by rw [e_v68]; rfl) (by decide) rfl (fun ls hl => ?_)
              refine lv_goto (tgt := 96) hx hb dX3_reckonSet_187 (by decide) ?_
              exact ih53 _ _ _ _ hm _ _ _ hw (lv_sub hl [0, 1, 2, 3, 4, 5, 6, 7, 8, 9] rfl)
    · have hm := hm.2 c74
      refine lv_goto (tgt := 190) hx hb dX3_reckonSet_33 (by decide) ?_
      obtain ⟨v73, e_v73⟩ : ∃ z : Int32, z = x6_1 + 1 := ⟨_, rfl⟩
      have hm := hm v73 e_v73
      refine lv_iinc (v := v73) (lv' := [(6, .int v73), (5, .int x5_2), (4, .int x4_3), (3, .int x3_4), (2, .int x2_5), (0, .ref (aP 0)), (1, .int x1)]) hx hb dX3_reckonSet_190 hl (k := 0) rfl (by rw [e_v73]; rfl) (by decide) rfl (fun ls hl => ?_)
      refine lv_goto (tgt := 15) hx hb dX3_reckonSet_193 (by decide) ?_
      exact ih6 _ _ _ _ _ hm _ _ _ hw (lv_sub hl [0, 1, 2, 3, 4, 5, 6] rfl)
set_option maxHeartbeats 4000000 in
set_option maxRecDepth 100000 in
theorem c_X3_reckon {l : Launch} {D : va_G} {cy : Nat → ClassId} {aP : Nat → Nat} {aJ : Nat → Nat} {aB : Nat → Nat} {als : Nat → Nat} {aLw : Nat → Nat} {e_B_told : Nat} {e_B_mentions : Nat} {e_B_claims : Nat} {SP : Ob} {SJ : Ob} {SB : Ob} {Sls : (Nat → Option Nat)} {SLw : Lw} {Q : Ob → Ob → Prop} (hm : w_X3_reckon aLw SP SJ SB Sls SLw Q) : CtV l yX3_reckon cX3_reckon 3 none (rmN 5) D cy [.ref (aP 0), .ref (aB 0)] ((pW cy aP (aJ 0) SP) ++ ((jW cy aJ SJ) ++ ((bW cy aB (als 0) e_B_told e_B_mentions e_B_claims SB) ++ ((lsW cy als Sls) ++ (lwW cy aLw SLw))))) (fun u : Ob × Ob => ((pW cy aP (aJ 0) u.1) ++ ((jW cy aJ u.2) ++ ((bW cy aB (als 0) e_B_told e_B_mentions e_B_claims SB) ++ ((lsW cy als Sls) ++ (lwW cy aLw SLw)))))) (fun (u : Ob × Ob) => Q u.1 u.2) := by
  refine CtV.ofW (by decide) (Nat.le_of_ble_eq_true rfl) ?_
  intro p e s m args below meth c A ls hc hnm hw hl
  have hx := hc.1.1
  have hb := hc.1.2.1
  have hown := hc.1.2.2.2.1
  have hts := hc.1.2.2.2.2
  have hl : lv_has ls 3 [(0, .ref (aP 0)), (1, .ref (aB 0))] := hl
  obtain ⟨H, hH⟩ : ∃ z, z = s.heap := ⟨_, rfl⟩
  obtain ⟨locs, hLc⟩ : ∃ z : List Loc, z = [] := ⟨_, rfl⟩
  have hw : wV D A s.heap ((pW cy aP (aJ 0) SP) ++ ((jW cy aJ SJ) ++ ((bW cy aB (als 0) e_B_told e_B_mentions e_B_claims SB) ++ ((lsW cy als Sls) ++ (lwW cy aLw SLw))))) H locs := by rw [hH, hLc]; exact hw
  have hgo : W p l e (rmN 5) s m args below meth c H locs 0 0 (MQ below (eV D cy A (fun u : Ob × Ob => ((pW cy aP (aJ 0) u.1) ++ ((jW cy aJ u.2) ++ ((bW cy aB (als 0) e_B_told e_B_mentions e_B_claims SB) ++ ((lsW cy als Sls) ++ (lwW cy aLw SLw)))))) (fun (u : Ob × Ob) => Q u.1 u.2)) args s (rmN 5).cells (rmN 5).slots A) (F0 m 0 ls []) := ?hgo
  · rw [hH, hLc] at hgo; exact hgo
  refine lv_aload_n hx hb dX3_reckon_0 rfl (lv_at hl 0 rfl) ?_
  refine gF (k := 9) hc hw inX3 rfl 0 rfl (by decide) (gm 338 (by decide +kernel) rfl) rfl dX3_reckon_1 ?_
  refine lv_if_eq (tgt := 8) hx hb dX3_reckon_4 (by decide) (fun c16 => ?_) (fun c16 => ?_)
  · have hm := hm.1 c16
    refine lv_aload_n hx hb dX3_reckon_8 rfl (lv_at hl 0 rfl) ?_
    refine lv_aload_n hx hb dX3_reckon_9 rfl (lv_at hl 1 rfl) ?_
    refine aV_V (As := [.ref (aB 0)]) (rest := []) hc hw (c_X3_weigh hm) lk_X3_102 rfl rfl ⟨Nat.le_of_ble_eq_true rfl, Nat.le_of_ble_eq_true rfl⟩ ⟨Nat.le_of_ble_eq_true rfl, Nat.le_of_ble_eq_true rfl⟩ hl.1 rfl (Nat.le_of_ble_eq_true rfl) rfl dX3_reckon_10 (fun u_2 H locs hm hw => ?_)
    obtain ⟨S1, S2⟩ := u_2
    have hw : wV D A s.heap ((pW cy aP (aJ 0) S1) ++ ((jW cy aJ S2) ++ ((bW cy aB (als 0) e_B_told e_B_mentions e_B_claims SB) ++ ((lsW cy als Sls) ++ (lwW cy aLw SLw))))) H locs := hw
    refine lv_aload_n hx hb dX3_reckon_13 rfl (lv_at hl 0 rfl) ?_
    refine lv_iconst (v := 1) hx hb dX3_reckon_14 (by decide) ?_
    refine pF (k := 9) (ty := .boolean) hc hw inX3 tyX3_ok nmX3 rfl 0 rfl (by decide) (gm 338 (by decide +kernel) rfl) rfl (by decide +kernel) rfl rfl (Nat.le_of_ble_eq_true rfl) dX3_reckon_15 (fun H locs hw => ?_)
    obtain ⟨S4, e_S4⟩ : ∃ z : Ob, z = uS S1 9 1 := ⟨_, rfl⟩
    have hm := hm S4 e_S4
    have hw : wV D A s.heap ((pW cy aP (aJ 0) S4) ++ ((jW cy aJ S2) ++ ((bW cy aB (als 0) e_B_told e_B_mentions e_B_claims SB) ++ ((lsW cy als Sls) ++ (lwW cy aLw SLw))))) H locs := by rw [e_S4]; exact hw
    refine lv_aload_n hx hb dX3_reckon_18 rfl (lv_at hl 0 rfl) ?_
    refine gF (k := 10) hc hw inX3 rfl 0 rfl (by decide) (gm 339 (by decide +kernel) rfl) rfl dX3_reckon_19 ?_
    refine lv_iconst (v := 0) hx hb dX3_reckon_22 (by decide) ?_
    refine lv_iconst (v := 0) hx hb dX3_reckon_23 (by decide) ?_
    refine sI hc hw 6 rfl (vin (by decide)) (j := 0) (by decide) dX3_reckon_24 (fun H locs hw => ?_)
    obtain ⟨S5, e_S5⟩ : ∃ z : Ob, z = uA S4 10 0 0 := ⟨_, rfl⟩
    have hm := hm S5 e_S5
    have hw : wV D A s.heap ((pW cy aP (aJ 0) S5) ++ ((jW cy aJ S2) ++ ((bW cy aB (als 0) e_B_told e_B_mentions e_B_claims SB) ++ ((lsW cy als Sls) ++ (lwW cy aLw SLw))))) H locs := by rw [e_S5]; exact hw
    refine lv_aload_n hx hb dX3_reckon_25 rfl (lv_at hl 0 rfl) ?_
    refine gF (k := 11) hc hw inX3 rfl 0 rfl (by decide) (gm 342 (by decide +kernel) rfl) rfl dX3_reckon_26 ?_
    refine lv_iconst (v := 0) hx hb dX3_reckon_29 (by decide) ?_
    refine lv_iconst (v := 0) hx hb dX3_reckon_30 (by decide) ?_
    refine sI hc hw 7 rfl (vin (by decide)) (j := 0) (by decide) dX3_reckon_31 (fun H locs hw => ?_)
    obtain ⟨S6, e_S6⟩ : ∃ z : Ob, z = uA S5 11 0 0 := ⟨_, rfl⟩
    have hm := hm S6 e_S6
    have hw : wV D A s.heap ((pW cy aP (aJ 0) S6) ++ ((jW cy aJ S2) ++ ((bW cy aB (als 0) e_B_told e_B_mentions e_B_claims SB) ++ ((lsW cy als Sls) ++ (lwW cy aLw SLw))))) H locs := by rw [e_S6]; exact hw
    refine lv_aload_n hx hb dX3_reckon_32 rfl (lv_at hl 0 rfl) ?_
    refine gF (k := 12) hc hw inX3 rfl 0 rfl (by decide) (gm 344 (by decide +kernel) rfl) rfl dX3_reckon_33 ?_
    refine lv_iconst (v := 0) hx hb dX3_reckon_36 (by decide) ?_
    refine lv_iconst (v := (-1)) hx hb dX3_reckon_37 (by decide) ?_
    refine sI hc hw 8 rfl (vin (by decide)) (j := 0) (by decide) dX3_reckon_38 (fun H locs hw => ?_)
    obtain ⟨S7, e_S7⟩ : ∃ z : Ob, z = uA S6 12 0 (-1) := ⟨_, rfl⟩
    have hm := hm S7 e_S7
    have hw : wV D A s.heap ((pW cy aP (aJ 0) S7) ++ ((jW cy aJ S2) ++ ((bW cy aB (als 0) e_B_told e_B_mentions e_B_claims SB) ++ ((lsW cy als Sls) ++ (lwW cy aLw SLw))))) H locs := by rw [e_S7]; exact hw
    refine lv_aload_n hx hb dX3_reckon_39 rfl (lv_at hl 0 rfl) ?_
    refine gF (k := 13) hc hw inX3 rfl 0 rfl (by decide) (gm 345 (by decide +kernel) rfl) rfl dX3_reckon_40 ?_
    refine lv_iconst (v := 0) hx hb dX3_reckon_43 (by decide) ?_
    refine lv_iconst (v := 0) hx hb dX3_reckon_44 (by decide) ?_
    refine sI hc hw 9 rfl (vin (by decide)) (j := 0) (by decide) dX3_reckon_45 (fun H locs hw => ?_)
    obtain ⟨S8, e_S8⟩ : ∃ z : Ob, z = uA S7 13 0 0 := ⟨_, rfl⟩
    have hm := hm S8 e_S8
    have hw : wV D A s.heap ((pW cy aP (aJ 0) S8) ++ ((jW cy aJ S2) ++ ((bW cy aB (als 0) e_B_told e_B_mentions e_B_claims SB) ++ ((lsW cy als Sls) ++ (lwW cy aLw SLw))))) H locs := by rw [e_S8]; exact hw
    refine lv_iconst (v := 1) hx hb dX3_reckon_46 (by decide) ?_
    refine lv_istore_n (lv' := [(2, .int 1), (0, .ref (aP 0)), (1, .ref (aB 0))]) hx hb dX3_reckon_47 rfl hl (by decide) rfl (fun ls hl => ?_)
    refine wl2_ind (G := fun (x2_9 : Int32) (S10 : Ob) => ∀ (H : Heap) (locs : List Loc) (ls : Array Slot), wV D A s.heap ((pW cy aP (aJ 0) S10) ++ ((jW cy aJ S2) ++ ((bW cy aB (als 0) e_B_told e_B_mentions e_B_claims SB) ++ ((lsW cy als Sls) ++ (lwW cy aLw SLw))))) H locs → lv_has ls 3 [(2, .int x2_9), (0, .ref (aP 0))] → W p l e (rmN 5) s m args below meth c H locs 0 0 (MQ below (eV D cy A (fun u : Ob × Ob => ((pW cy aP (aJ 0) u.1) ++ ((jW cy aJ u.2) ++ ((bW cy aB (als 0) e_B_told e_B_mentions e_B_claims SB) ++ ((lsW cy als Sls) ++ (lwW cy aLw SLw)))))) (fun (u : Ob × Ob) => Q u.1 u.2)) args s (rmN 5).cells (rmN 5).slots A) (F0 m 48 ls [])) ?_ _ _ hm H locs ls hw (lv_sub hl [0, 1] rfl)
    intro L11 ih11 x2_9 S10 hm H locs ls hw hl
    refine lv_iload_n hx hb dX3_reckon_48 rfl (lv_at hl 0 rfl) ?_
    refine lv_iconst (v := 1) hx hb dX3_reckon_49 (by decide) ?_
    refine lv_aload_n hx hb dX3_reckon_50 rfl (lv_at hl 1 rfl) ?_
    refine gF (k := 6) hc hw inX3 rfl 0 rfl (by decide) (gm 334 (by decide +kernel) rfl) rfl dX3_reckon_51 ?_
    refine lv_ishl hx hb dX3_reckon_54 ?_
    refine lv_icmp_ge (tgt := 69) hx hb dX3_reckon_55 (by decide) (fun c15 => ?_) (fun c15 => ?_)
    · have hm := hm.1 c15
      exact retV (u := (S10, S2)) hc hw hm dX3_reckon_69
    · have hm := hm.2 c15
      refine lv_aload_n hx hb dX3_reckon_58 rfl (lv_at hl 1 rfl) ?_
      refine lv_iload_n hx hb dX3_reckon_59 rfl (lv_at hl 0 rfl) ?_
      refine nV_V (As := [.int x2_9]) (rest := []) (wc := (pW cy aP (aJ 0) S10)) (wr := ((jW cy aJ S2) ++ ((bW cy aB (als 0) e_B_told e_B_mentions e_B_claims SB) ++ ((lsW cy als Sls) ++ (lwW cy aLw SLw))))) (isC := [0, 1, 2, 3, 4, 5, 6, 7, 8, 9, 10]) (isR := [11, 12, 13, 14, 15, 16, 17, 18, 19, 20, 21, 22, 23, 24, 25]) hc hw (c_X3_reckonSet hm) lk_X3_106 ⟨rfl, rfl, rfl, rfl, by decide⟩ rfl rfl ⟨Nat.le_of_ble_eq_true rfl, Nat.le_of_ble_eq_true rfl⟩ ⟨Nat.le_of_ble_eq_true rfl, Nat.le_of_ble_eq_true rfl⟩ hl.1 rfl (Nat.le_of_ble_eq_true rfl) rfl dX3_reckon_60 (fun S12 H locs hm hw => ?_)
      have hw : wV D A s.heap ((pW cy aP (aJ 0) S12) ++ ((jW cy aJ S2) ++ ((bW cy aB (als 0) e_B_told e_B_mentions e_B_claims SB) ++ ((lsW cy als Sls) ++ (lwW cy aLw SLw))))) H locs := hw.perm [15, 16, 17, 18, 19, 20, 21, 22, 23, 24, 25, 0, 1, 2, 3, 4, 5, 6, 7, 8, 9, 10, 11, 12, 13, 14] rfl rfl
      obtain ⟨v14, e_v14⟩ : ∃ z : Int32, z = x2_9 + 1 := ⟨_, rfl⟩
      have hm := hm v14 e_v14
      refine lv_iinc (v := v14) (lv' := [(2, .int v14), (0, .ref (aP 0))]) hx hb dX3_reckon_63 hl (k := 0) rfl (by rw [e_v14]; rfl) (by decide) rfl (fun ls hl => ?_)
      refine lv_goto (tgt := 48) hx hb dX3_reckon_66 (by decide) ?_
      exact ih11 _ _ hm _ _ _ hw (lv_sub hl [0, 1] rfl)
  · have hm := hm.2 c16
    exact retV (u := (SP, SJ)) hc hw hm dX3_reckon_7
set_option maxHeartbeats 4000000 in
set_option maxRecDepth 100000 in
theorem c_X3_reckonN {l : Launch} {D : va_G} {cy : Nat → ClassId} {aP : Nat → Nat} {aJ : Nat → Nat} {aB : Nat → Nat} {als : Nat → Nat} {e_B_told : Nat} {e_B_mentions : Nat} {e_B_claims : Nat} {SP : Ob} {SJ : Ob} {SB : Ob} {Sls : (Nat → Option Nat)} {Q : Ob → Ob → Prop} (hm : w_X3_reckonN SP SJ SB Sls Q) : CtV l yX3_reckon cX3_reckon 3 none (rmN 5) D cy [.ref (aP 0), .ref (aB 0)] ((pW cy aP (aJ 0) SP) ++ ((jW cy aJ SJ) ++ ((bW cy aB (als 0) e_B_told e_B_mentions e_B_claims SB) ++ (lsW cy als Sls)))) (fun u : Ob × Ob => ((pW cy aP (aJ 0) u.1) ++ ((jW cy aJ u.2) ++ ((bW cy aB (als 0) e_B_told e_B_mentions e_B_claims SB) ++ (lsW cy als Sls))))) (fun (u : Ob × Ob) => Q u.1 u.2) := by
  refine CtV.ofW (by decide) (Nat.le_of_ble_eq_true rfl) ?_
  intro p e s m args below meth c A ls hc hnm hw hl
  have hx := hc.1.1
  have hb := hc.1.2.1
  have hown := hc.1.2.2.2.1
  have hts := hc.1.2.2.2.2
  have hl : lv_has ls 3 [(0, .ref (aP 0)), (1, .ref (aB 0))] := hl
  obtain ⟨H, hH⟩ : ∃ z, z = s.heap := ⟨_, rfl⟩
  obtain ⟨locs, hLc⟩ : ∃ z : List Loc, z = [] := ⟨_, rfl⟩
  have hw : wV D A s.heap ((pW cy aP (aJ 0) SP) ++ ((jW cy aJ SJ) ++ ((bW cy aB (als 0) e_B_told e_B_mentions e_B_claims SB) ++ (lsW cy als Sls)))) H locs := by rw [hH, hLc]; exact hw
  have hgo : W p l e (rmN 5) s m args below meth c H locs 0 0 (MQ below (eV D cy A (fun u : Ob × Ob => ((pW cy aP (aJ 0) u.1) ++ ((jW cy aJ u.2) ++ ((bW cy aB (als 0) e_B_told e_B_mentions e_B_claims SB) ++ (lsW cy als Sls))))) (fun (u : Ob × Ob) => Q u.1 u.2)) args s (rmN 5).cells (rmN 5).slots A) (F0 m 0 ls []) := ?hgo
  · rw [hH, hLc] at hgo; exact hgo
  refine lv_aload_n hx hb dX3_reckon_0 rfl (lv_at hl 0 rfl) ?_
  refine gF (k := 9) hc hw inX3 rfl 0 rfl (by decide) (gm 338 (by decide +kernel) rfl) rfl dX3_reckon_1 ?_
  refine lv_if_eq (tgt := 8) hx hb dX3_reckon_4 (by decide) (fun c16 => ?_) (fun c16 => ?_)
  · have hm := hm.1 c16
    refine lv_aload_n hx hb dX3_reckon_8 rfl (lv_at hl 0 rfl) ?_
    refine lv_aload_n hx hb dX3_reckon_9 rfl (lv_at hl 1 rfl) ?_
    refine aV_V (As := [.ref (aB 0)]) (rest := []) hc hw (c_X3_weighN hm) lk_X3_102 rfl rfl ⟨Nat.le_of_ble_eq_true rfl, Nat.le_of_ble_eq_true rfl⟩ ⟨Nat.le_of_ble_eq_true rfl, Nat.le_of_ble_eq_true rfl⟩ hl.1 rfl (Nat.le_of_ble_eq_true rfl) rfl dX3_reckon_10 (fun u_2 H locs hm hw => ?_)
    obtain ⟨S1, S2⟩ := u_2
    have hw : wV D A s.heap ((pW cy aP (aJ 0) S1) ++ ((jW cy aJ S2) ++ ((bW cy aB (als 0) e_B_told e_B_mentions e_B_claims SB) ++ (lsW cy als Sls)))) H locs := hw
    refine lv_aload_n hx hb dX3_reckon_13 rfl (lv_at hl 0 rfl) ?_
    refine lv_iconst (v := 1) hx hb dX3_reckon_14 (by decide) ?_
    refine pF (k := 9) (ty := .boolean) hc hw inX3 tyX3_ok nmX3 rfl 0 rfl (by decide) (gm 338 (by decide +kernel) rfl) rfl (by decide +kernel) rfl rfl (Nat.le_of_ble_eq_true rfl) dX3_reckon_15 (fun H locs hw => ?_)
    obtain ⟨S4, e_S4⟩ : ∃ z : Ob, z = uS S1 9 1 := ⟨_, rfl⟩
    have hm := hm S4 e_S4
    have hw : wV D A s.heap ((pW cy aP (aJ 0) S4) ++ ((jW cy aJ S2) ++ ((bW cy aB (als 0) e_B_told e_B_mentions e_B_claims SB) ++ (lsW cy als Sls)))) H locs := by rw [e_S4]; exact hw
    refine lv_aload_n hx hb dX3_reckon_18 rfl (lv_at hl 0 rfl) ?_
    refine gF (k := 10) hc hw inX3 rfl 0 rfl (by decide) (gm 339 (by decide +kernel) rfl) rfl dX3_reckon_19 ?_
    refine lv_iconst (v := 0) hx hb dX3_reckon_22 (by decide) ?_
    refine lv_iconst (v := 0) hx hb dX3_reckon_23 (by decide) ?_
    refine sI hc hw 6 rfl (vin (by decide)) (j := 0) (by decide) dX3_reckon_24 (fun H locs hw => ?_)
    obtain ⟨S5, e_S5⟩ : ∃ z : Ob, z = uA S4 10 0 0 := ⟨_, rfl⟩
    have hm := hm S5 e_S5
    have hw : wV D A s.heap ((pW cy aP (aJ 0) S5) ++ ((jW cy aJ S2) ++ ((bW cy aB (als 0) e_B_told e_B_mentions e_B_claims SB) ++ (lsW cy als Sls)))) H locs := by rw [e_S5]; exact hw
    refine lv_aload_n hx hb dX3_reckon_25 rfl (lv_at hl 0 rfl) ?_
    refine gF (k := 11) hc hw inX3 rfl 0 rfl (by decide) (gm 342 (by decide +kernel) rfl) rfl dX3_reckon_26 ?_
    refine lv_iconst (v := 0) hx hb dX3_reckon_29 (by decide) ?_
    refine lv_iconst (v := 0) hx hb dX3_reckon_30 (by decide) ?_
    refine sI hc hw 7 rfl (vin (by decide)) (j := 0) (by decide) dX3_reckon_31 (fun H locs hw => ?_)
    obtain ⟨S6, e_S6⟩ : ∃ z : Ob, z = uA S5 11 0 0 := ⟨_, rfl⟩
    have hm := hm S6 e_S6
    have hw : wV D A s.heap ((pW cy aP (aJ 0) S6) ++ ((jW cy aJ S2) ++ ((bW cy aB (als 0) e_B_told e_B_mentions e_B_claims SB) ++ (lsW cy als Sls)))) H locs := by rw [e_S6]; exact hw
    refine lv_aload_n hx hb dX3_reckon_32 rfl (lv_at hl 0 rfl) ?_
    refine gF (k := 12) hc hw inX3 rfl 0 rfl (by decide) (gm 344 (by decide +kernel) rfl) rfl dX3_reckon_33 ?_
    refine lv_iconst (v := 0) hx hb dX3_reckon_36 (by decide) ?_
    refine lv_iconst (v := (-1)) hx hb dX3_reckon_37 (by decide) ?_
    refine sI hc hw 8 rfl (vin (by decide)) (j := 0) (by decide) dX3_reckon_38 (fun H locs hw => ?_)
    obtain ⟨S7, e_S7⟩ : ∃ z : Ob, z = uA S6 12 0 (-1) := ⟨_, rfl⟩
    have hm := hm S7 e_S7
    have hw : wV D A s.heap ((pW cy aP (aJ 0) S7) ++ ((jW cy aJ S2) ++ ((bW cy aB (als 0) e_B_told e_B_mentions e_B_claims SB) ++ (lsW cy als Sls)))) H locs := by rw [e_S7]; exact hw
    refine lv_aload_n hx hb dX3_reckon_39 rfl (lv_at hl 0 rfl) ?_
    refine gF (k := 13) hc hw inX3 rfl 0 rfl (by decide) (gm 345 (by decide +kernel) rfl) rfl dX3_reckon_40 ?_
    refine lv_iconst (v := 0) hx hb dX3_reckon_43 (by decide) ?_
    refine lv_iconst (v := 0) hx hb dX3_reckon_44 (by decide) ?_
    refine sI hc hw 9 rfl (vin (by decide)) (j := 0) (by decide) dX3_reckon_45 (fun H locs hw => ?_)
    obtain ⟨S8, e_S8⟩ : ∃ z : Ob, z = uA S7 13 0 0 := ⟨_, rfl⟩
    have hm := hm S8 e_S8
    have hw : wV D A s.heap ((pW cy aP (aJ 0) S8) ++ ((jW cy aJ S2) ++ ((bW cy aB (als 0) e_B_told e_B_mentions e_B_claims SB) ++ (lsW cy als Sls)))) H locs := by rw [e_S8]; exact hw
    refine lv_iconst (v := 1) hx hb dX3_reckon_46 (by decide) ?_
    refine lv_istore_n (lv' := [(2, .int 1), (0, .ref (aP 0)), (1, .ref (aB 0))]) hx hb dX3_reckon_47 rfl hl (by decide) rfl (fun ls hl => ?_)
    refine wl2_ind (G := fun (x2_9 : Int32) (S10 : Ob) => ∀ (H : Heap) (locs : List Loc) (ls : Array Slot), wV D A s.heap ((pW cy aP (aJ 0) S10) ++ ((jW cy aJ S2) ++ ((bW cy aB (als 0) e_B_told e_B_mentions e_B_claims SB) ++ (lsW cy als Sls)))) H locs → lv_has ls 3 [(2, .int x2_9), (0, .ref (aP 0))] → W p l e (rmN 5) s m args below meth c H locs 0 0 (MQ below (eV D cy A (fun u : Ob × Ob => ((pW cy aP (aJ 0) u.1) ++ ((jW cy aJ u.2) ++ ((bW cy aB (als 0) e_B_told e_B_mentions e_B_claims SB) ++ (lsW cy als Sls))))) (fun (u : Ob × Ob) => Q u.1 u.2)) args s (rmN 5).cells (rmN 5).slots A) (F0 m 48 ls [])) ?_ _ _ hm H locs ls hw (lv_sub hl [0, 1] rfl)
    intro L11 ih11 x2_9 S10 hm H locs ls hw hl
    refine lv_iload_n hx hb dX3_reckon_48 rfl (lv_at hl 0 rfl) ?_
    refine lv_iconst (v := 1) hx hb dX3_reckon_49 (by decide) ?_
    refine lv_aload_n hx hb dX3_reckon_50 rfl (lv_at hl 1 rfl) ?_
    refine gF (k := 6) hc hw inX3 rfl 0 rfl (by decide) (gm 334 (by decide +kernel) rfl) rfl dX3_reckon_51 ?_
    refine lv_ishl hx hb dX3_reckon_54 ?_
    refine lv_icmp_ge (tgt := 69) hx hb dX3_reckon_55 (by decide) (fun c15 => ?_) (fun c15 => ?_)
    · have hm := hm.1 c15
      exact retV (u := (S10, S2)) hc hw hm dX3_reckon_69
    · have hm := hm.2 c15
      refine lv_aload_n hx hb dX3_reckon_58 rfl (lv_at hl 1 rfl) ?_
      refine lv_iload_n hx hb dX3_reckon_59 rfl (lv_at hl 0 rfl) ?_
      refine nV_V (As := [.int x2_9]) (rest := []) (wc := (pW cy aP (aJ 0) S10)) (wr := ((jW cy aJ S2) ++ ((bW cy aB (als 0) e_B_told e_B_mentions e_B_claims SB) ++ (lsW cy als Sls)))) (isC := [0, 1, 2, 3, 4, 5, 6, 7, 8, 9, 10]) (isR := [11, 12, 13, 14, 15, 16, 17, 18, 19, 20]) hc hw (c_X3_reckonSet hm) lk_X3_106 ⟨rfl, rfl, rfl, rfl, by decide⟩ rfl rfl ⟨Nat.le_of_ble_eq_true rfl, Nat.le_of_ble_eq_true rfl⟩ ⟨Nat.le_of_ble_eq_true rfl, Nat.le_of_ble_eq_true rfl⟩ hl.1 rfl (Nat.le_of_ble_eq_true rfl) rfl dX3_reckon_60 (fun S12 H locs hm hw => ?_)
      have hw : wV D A s.heap ((pW cy aP (aJ 0) S12) ++ ((jW cy aJ S2) ++ ((bW cy aB (als 0) e_B_told e_B_mentions e_B_claims SB) ++ (lsW cy als Sls)))) H locs := hw.perm [10, 11, 12, 13, 14, 15, 16, 17, 18, 19, 20, 0, 1, 2, 3, 4, 5, 6, 7, 8, 9] rfl rfl
      obtain ⟨v14, e_v14⟩ : ∃ z : Int32, z = x2_9 + 1 := ⟨_, rfl⟩
      have hm := hm v14 e_v14
      refine lv_iinc (v := v14) (lv' := [(2, .int v14), (0, .ref (aP 0))]) hx hb dX3_reckon_63 hl (k := 0) rfl (by rw [e_v14]; rfl) (by decide) rfl (fun ls hl => ?_)
      refine lv_goto (tgt := 48) hx hb dX3_reckon_66 (by decide) ?_
      exact ih11 _ _ hm _ _ _ hw (lv_sub hl [0, 1] rfl)
  · have hm := hm.2 c16
    exact retV (u := (SP, SJ)) hc hw hm dX3_reckon_7
