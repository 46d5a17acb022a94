set_option maxHeartbeats 4000000 in
set_option maxRecDepth 100000 in
theorem c_X1_joins {l : Launch} {D : va_G} {cy : Nat → ClassId} {aJ : Nat → Nat} {SJ : Ob} {x1 : Int32} {Q : Int32 → Ob → Prop} (hm : w_X1_joins SJ x1 Q) : CtI l yX1_joins cX1_joins 8 (some .boolean) (rmN 1) D cy [.ref (aJ 0), .int x1] (jW cy aJ SJ) (fun u : Ob => (jW cy aJ u)) Q := by
  refine CtI.ofW (by decide) (Nat.le_of_ble_eq_true rfl) ?_
  intro p e s m args below meth c A ls hc hnm hw hl
  have hx := hc.1.1
  have hb := hc.1.2.1
  have hown := hc.1.2.2.2.1
  have hts := hc.1.2.2.2.2
  have hl : lv_has ls 8 [(0, .ref (aJ 0)), (1, .int x1)] := hl
  obtain ⟨H, hH⟩ : ∃ z, z = s.heap := ⟨_, rfl⟩
  obtain ⟨locs, hLc⟩ : ∃ z : List Loc, z = [] := ⟨_, rfl⟩
  have hw : wV D A s.heap (jW cy aJ SJ) H locs := by rw [hH, hLc]; exact hw
  have hgo : W p l e (rmN 1) s m args below meth c H locs 0 0 (MQ below (eI D cy A (fun u : Ob => (jW cy aJ u)) Q) args s (rmN 1).cells (rmN 1).slots A) (F0 m 0 ls []) := ?hgo
  · rw [hH, hLc] at hgo; exact hgo
  refine lv_aload_n hx hb dX1_joins_0 rfl (lv_at hl 0 rfl) ?_
  refine gF (k := 2) hc hw inX1 rfl 0 rfl (by decide) (gm 317 (by decide +kernel) rfl) rfl dX1_joins_1 ?_
  refine lv_iconst (v := 2) hx hb dX1_joins_4 (by decide) ?_
  refine lv_icmp_lt (tgt := 17) hx hb dX1_joins_5 (by decide) (fun c17 => ?_) (fun c17 => ?_)
  · have hm := hm.1 c17
    refine lv_iconst (v := 0) hx hb dX1_joins_17 (by decide) ?_
    exact retZ (u := SJ) hc hw rfl hm dX1_joins_18
  · have hm := hm.2 c17
    refine lv_aload_n hx hb dX1_joins_8 rfl (lv_at hl 0 rfl) ?_
    refine gF (k := 2) hc hw inX1 rfl 0 rfl (by decide) (gm 317 (by decide +kernel) rfl) rfl dX1_joins_9 ?_
    refine lv_bipush (v := 54) hx hb dX1_joins_12 (by decide) ?_
    refine lv_icmp_le (tgt := 19) hx hb dX1_joins_14 (by decide) (fun c16 => ?_) (fun c16 => ?_)
    · have hm := hm.1 c16
      refine lv_aload_n hx hb dX1_joins_19 rfl (lv_at hl 0 rfl) ?_
      refine gF (k := 1) hc hw inX1 rfl 0 rfl (by decide) (gm 316 (by decide +kernel) rfl) rfl dX1_joins_20 ?_
      refine lv_aload_n hx hb dX1_joins_23 rfl (lv_at hl 0 rfl) ?_
      refine gF (k := 2) hc hw inX1 rfl 0 rfl (by decide) (gm 317 (by decide +kernel) rfl) rfl dX1_joins_24 ?_
      refine lv_iconst (v := 2) hx hb dX1_joins_27 (by decide) ?_
      refine lv_isub hx hb dX1_joins_28 ?_
      obtain ⟨c1, hm⟩ := hm
      refine aI hc hw 2 rfl c1 rfl dX1_joins_29 ?_
      refine lv_i2l hx hb dX1_joins_30 rfl ?_
      refine lv_topl (fun v2 e_v2 => ?_)
      have hm := hm v2 e_v2
      refine lv_lstore_n (lv' := [(2, .long v2), (0, .ref (aJ 0)), (1, .int x1)]) hx hb dX1_joins_31 rfl hl (by decide) rfl (fun ls hl => ?_)
      refine lv_aload_n hx hb dX1_joins_32 rfl (lv_at hl 1 rfl) ?_
      refine gF (k := 1) hc hw inX1 rfl 0 rfl (by decide) (gm 316 (by decide +kernel) rfl) rfl dX1_joins_33 ?_
      refine lv_aload_n hx hb dX1_joins_36 rfl (lv_at hl 1 rfl) ?_
      refine gF (k := 2) hc hw inX1 rfl 0 rfl (by decide) (gm 317 (by decide +kernel) rfl) rfl dX1_joins_37 ?_
      refine lv_iconst (v := 1) hx hb dX1_joins_40 (by decide) ?_
      refine lv_isub hx hb dX1_joins_41 ?_
      obtain ⟨c3, hm⟩ := hm
      refine aI hc hw 2 rfl c3 rfl dX1_joins_42 ?_
      refine lv_i2l hx hb dX1_joins_43 rfl ?_
      refine lv_topl (fun v4 e_v4 => ?_)
      have hm := hm v4 e_v4
      refine lv_lstore (lv' := [(4, .long v4), (2, .long v2), (0, .ref (aJ 0)), (1, .int x1)]) hx hb dX1_joins_44 hl (by decide) rfl (fun ls hl => ?_)
      refine lv_iload_n hx hb dX1_joins_46 rfl (lv_at hl 3 rfl) ?_
      refine lv_bipush (v := 47) hx hb dX1_joins_47 (by decide) ?_
      obtain ⟨J6, eJ6, hm⟩ := jn_e hm
      have hJ6 : ∀ (z5 : Unit) (_ : J6 z5) (H : Heap) (locs : List Loc) (ls : Array Slot), wV D A s.heap (jW cy aJ SJ) H locs → lv_has ls 8 [(0, .ref (aJ 0)), (1, .int x1), (2, .long v2), (4, .long v4)] → W p l e (rmN 1) s m args below meth c H locs 0 0 (MQ below (eI D cy A (fun u : Ob => (jW cy aJ u)) Q) args s (rmN 1).cells (rmN 1).slots A) (F0 m 61 ls []) := by
        intro z5 hm H locs ls hw hl
        rw [eJ6] at hm
        refine lv_iload_n hx hb dX1_joins_61 rfl (lv_at hl 1 rfl) ?_
        refine lv_lload_n hx hb dX1_joins_62 rfl (lv_at hl 2 rfl) ?_
        refine lv_lload hx hb dX1_joins_63 (lv_at hl 3 rfl) ?_
        refine zS_L (As := [.int x1, .long v2, .long v4]) (rest := []) hc hw (c_X1_joined hm) lk_X1_88 ⟨Nat.le_of_ble_eq_true rfl, Nat.le_of_ble_eq_true rfl⟩ ⟨Nat.le_of_ble_eq_true rfl, Nat.le_of_ble_eq_true rfl⟩ hl.1 rfl (Nat.le_of_ble_eq_true rfl) rfl dX1_joins_65 (fun r7 H locs hm hw => ?_)
        refine lv_lstore (lv' := [(6, .long r7), (0, .ref (aJ 0)), (1, .int x1), (2, .long v2), (4, .long v4)]) hx hb dX1_joins_68 hl (by decide) rfl (fun ls hl => ?_)
        refine lv_lload hx hb dX1_joins_70 (lv_at hl 0 rfl) ?_
        refine lv_ldc2 (v := 1000000000) hx hb hown (hts _ (gm 562 (by decide +kernel) rfl)) dX1_joins_72 ?_
        refine W.lcmp hx hb dX1_joins_75 ?_
        refine lv_if_gt (tgt := 88) hx hb dX1_joins_76 (by decide) (fun c13 => ?_) (fun c13 => ?_)
        · have hm := hm.1 c13
          refine lv_iconst (v := 0) hx hb dX1_joins_88 (by decide) ?_
          exact retZ (u := SJ) hc hw rfl hm dX1_joins_89
        · have hm := hm.2 c13
          refine lv_lload hx hb dX1_joins_79 (lv_at hl 0 rfl) ?_
          refine lv_ldc2 (v := (-1000000000)) hx hb hown (hts _ (gm 563 (by decide +kernel) rfl)) dX1_joins_81 ?_
          refine W.lcmp hx hb dX1_joins_84 ?_
          refine lv_if_ge (tgt := 90) hx hb dX1_joins_85 (by decide) (fun c12 => ?_) (fun c12 => ?_)
          · have hm := hm.1 c12
            refine lv_aload_n hx hb dX1_joins_90 rfl (lv_at hl 1 rfl) ?_
            refine lv_dup hx hb dX1_joins_91 rfl ?_
            refine gF (k := 2) hc hw inX1 rfl 0 rfl (by decide) (gm 317 (by decide +kernel) rfl) rfl dX1_joins_92 ?_
            refine lv_iconst (v := 2) hx hb dX1_joins_95 (by decide) ?_
            refine lv_isub hx hb dX1_joins_96 ?_
            refine pF (k := 2) (ty := .int) hc hw inX1 tyX1_ok nmX1 rfl 0 rfl (by decide) (gm 317 (by decide +kernel) rfl) rfl (by decide +kernel) rfl rfl (Nat.le_of_ble_eq_true rfl) dX1_joins_97 (fun H locs hw => ?_)
            obtain ⟨S9, e_S9⟩ : ∃ z : Ob, z = uS SJ 2 ((SJ.1 2) - 2) := ⟨_, rfl⟩
            have hm := hm S9 e_S9
            have hw : wV D A s.heap (jW cy aJ S9) H locs := by rw [e_S9]; exact hw
            refine lv_aload_n hx hb dX1_joins_100 rfl (lv_at hl 1 rfl) ?_
            refine lv_lload hx hb dX1_joins_101 (lv_at hl 0 rfl) ?_
            refine lv_l2i hx hb dX1_joins_103 rfl ?_
            refine aV_V (As := [.int (Int64.toInt32 r7)]) (rest := []) hc hw (c_X1_push hm) lk_X1_76 rfl rfl ⟨Nat.le_of_ble_eq_true rfl, Nat.le_of_ble_eq_true rfl⟩ ⟨Nat.le_of_ble_eq_true rfl, Nat.le_of_ble_eq_true rfl⟩ hl.1 rfl (Nat.le_of_ble_eq_true rfl) rfl dX1_joins_104 (fun S10 H locs hm hw => ?_)
            have hw : wV D A s.heap (jW cy aJ S10) H locs := hw
            refine lv_iconst (v := 1) hx hb dX1_joins_107 (by decide) ?_
            exact retZ (u := S10) hc hw rfl hm dX1_joins_108
          · have hm := hm.2 c12
            refine lv_iconst (v := 0) hx hb dX1_joins_88 (by decide) ?_
            exact retZ (u := SJ) hc hw rfl hm dX1_joins_89
      refine lv_icmp_ne (tgt := 61) hx hb dX1_joins_49 (by decide) (fun c15 => ?_) (fun c15 => ?_)
      · have hm := hm.1 c15
        exact hJ6 _ hm _ _ _ hw (lv_sub hl [2, 3, 1, 0] rfl)
      · have hm := hm.2 c15
        refine lv_lload hx hb dX1_joins_52 (lv_at hl 0 rfl) ?_
        refine lv_lconst (v := 0) hx hb dX1_joins_54 (by decide) ?_
        refine W.lcmp hx hb dX1_joins_55 ?_
        refine lv_if_ne (tgt := 61) hx hb dX1_joins_56 (by decide) (fun c14 => ?_) (fun c14 => ?_)
        · have hm := hm.1 c14
          exact hJ6 _ hm _ _ _ hw (lv_sub hl [2, 3, 1, 0] rfl)
        · have hm := hm.2 c14
          refine lv_iconst (v := 0) hx hb dX1_joins_59 (by decide) ?_
          exact retZ (u := SJ) hc hw rfl hm dX1_joins_60
    · have hm := hm.2 c16
      refine lv_iconst (v := 0) hx hb dX1_joins_17 (by decide) ?_
      exact retZ (u := SJ) hc hw rfl hm dX1_joins_18
set_option maxHeartbeats 4000000 in
set_option maxRecDepth 100000 in
theorem c_X1_holds {l : Launch} {D : va_G} {cy : Nat → ClassId} {aJ : Nat → Nat} {aLw : Nat → Nat} {SJ : Ob} {SLw : Lw} {x2 : Int32} {Q : Int32 → Ob → Prop} (hm : w_X1_holds SJ SLw x2 Q) : CtI l yX1_holds cX1_holds 9 (some .boolean) (rmN 2) D cy [.ref (aJ 0), .ref (aLw 0), .int x2] ((jW cy aJ SJ) ++ (lwW cy aLw SLw)) (fun u : Ob => ((jW cy aJ u) ++ (lwW cy aLw SLw))) Q := by
  refine CtI.ofW (by decide) (Nat.le_of_ble_eq_true rfl) ?_
  intro p e s m args below meth c A ls hc hnm hw hl
  have hx := hc.1.1
  have hb := hc.1.2.1
  have hown := hc.1.2.2.2.1
  have hts := hc.1.2.2.2.2
  have hl : lv_has ls 9 [(0, .ref (aJ 0)), (1, .ref (aLw 0)), (2, .int x2)] := hl
  obtain ⟨H, hH⟩ : ∃ z, z = s.heap := ⟨_, rfl⟩
  obtain ⟨locs, hLc⟩ : ∃ z : List Loc, z = [] := ⟨_, rfl⟩
  have hw : wV D A s.heap ((jW cy aJ SJ) ++ (lwW cy aLw SLw)) H locs := by rw [hH, hLc]; exact hw
  have hgo : W p l e (rmN 2) s m args below meth c H locs 0 0 (MQ below (eI D cy A (fun u : Ob => ((jW cy aJ u) ++ (lwW cy aLw SLw))) Q) args s (rmN 2).cells (rmN 2).slots A) (F0 m 0 ls []) := ?hgo
  · rw [hH, hLc] at hgo; exact hgo
  refine lv_iload_n hx hb dX1_holds_0 rfl (lv_at hl 2 rfl) ?_
  obtain ⟨J2, eJ2, hm⟩ := jn_e hm
  have hJ2 : ∀ (t1 : Int32) (_ : J2 t1) (H : Heap) (locs : List Loc) (ls : Array Slot), wV D A s.heap ((jW cy aJ SJ) ++ (lwW cy aLw SLw)) H locs → lv_has ls 9 [(0, .ref (aJ 0)), (1, .ref (aLw 0)), (2, .int x2)] → W p l e (rmN 2) s m args below meth c H locs 0 0 (MQ below (eI D cy A (fun u : Ob => ((jW cy aJ u) ++ (lwW cy aLw SLw))) Q) args s (rmN 2).cells (rmN 2).slots A) (F0 m 16 ls [.int t1]) := by
    intro t1 hm H locs ls hw hl
    rw [eJ2] at hm
    refine lv_istore_n (lv' := [(3, .int t1), (0, .ref (aJ 0)), (1, .ref (aLw 0)), (2, .int x2)]) hx hb dX1_holds_16 rfl hl (by decide) rfl (fun ls hl => ?_)
    refine lv_aload_n hx hb dX1_holds_17 rfl (lv_at hl 2 rfl) ?_
    refine gN (k := 1) (host := "OlderTale") hc hw inX2 rfl 3 rfl (by decide) (nmm 746 (by decide +kernel)) rfl dX1_holds_18 ?_
    refine lv_iload_n hx hb dX1_holds_21 rfl (lv_at hl 3 rfl) ?_
    obtain ⟨c3, hm⟩ := hm
    refine aI hc hw 5 rfl c3 rfl dX1_holds_22 ?_
    refine lv_aload_n hx hb dX1_holds_23 rfl (lv_at hl 2 rfl) ?_
    refine gN (k := 2) (host := "OlderTale") hc hw inX2 rfl 3 rfl (by decide) (nmm 748 (by decide +kernel)) rfl dX1_holds_24 ?_
    refine aLen (t0 := 0) (v := (Int32.ofNat (SLw.1 2))) hc hw 6 rfl rfl rfl dX1_holds_27 ?_
    refine m_min (rest := []) hc hl.1 (gm 541 (by decide +kernel) rfl) (Nat.le_of_ble_eq_true rfl) (Nat.le_of_ble_eq_true rfl) (Nat.le_of_ble_eq_true rfl) (Nat.le_of_ble_eq_true rfl) dX1_holds_28 ?_
    refine lv_topi (fun v4 e_v4 => ?_)
    have hm := hm v4 e_v4
    refine lv_istore (lv' := [(4, .int v4), (3, .int t1), (0, .ref (aJ 0)), (1, .ref (aLw 0)), (2, .int x2)]) hx hb dX1_holds_31 hl (by decide) rfl (fun ls hl => ?_)
    refine lv_aload_n hx hb dX1_holds_33 rfl (lv_at hl 2 rfl) ?_
    refine lv_iconst (v := 0) hx hb dX1_holds_34 (by decide) ?_
    refine pF (k := 2) (ty := .int) hc hw inX1 tyX1_ok nmX1 rfl 0 rfl (by decide) (gm 317 (by decide +kernel) rfl) rfl (by decide +kernel) rfl rfl (Nat.le_of_ble_eq_true rfl) dX1_holds_35 (fun H locs hw => ?_)
    obtain ⟨S5, e_S5⟩ : ∃ z : Ob, z = uS SJ 2 0 := ⟨_, rfl⟩
    have hm := hm S5 e_S5
    have hw : wV D A s.heap ((jW cy aJ S5) ++ (lwW cy aLw SLw)) H locs := by rw [e_S5]; exact hw
    refine lv_iconst (v := 0) hx hb dX1_holds_38 (by decide) ?_
    refine lv_istore (lv' := [(5, .int 0), (4, .int v4), (3, .int t1), (0, .ref (aJ 0)), (1, .ref (aLw 0)), (2, .int x2)]) hx hb dX1_holds_39 hl (by decide) rfl (fun ls hl => ?_)
    refine wl3_ind (G := fun (x5_6 : Int32) (x3_7 : Int32) (S8 : Ob) => ∀ (H : Heap) (locs : List Loc) (ls : Array Slot), wV D A s.heap ((jW cy aJ S8) ++ (lwW cy aLw SLw)) H locs → lv_has ls 9 [(5, .int x5_6), (4, .int v4), (3, .int x3_7), (0, .ref (aJ 0)), (1, .ref (aLw 0))] → W p l e (rmN 2) s m args below meth c H locs 0 0 (MQ below (eI D cy A (fun u : Ob => ((jW cy aJ u) ++ (lwW cy aLw SLw))) Q) args s (rmN 2).cells (rmN 2).slots A) (F0 m 41 ls [])) ?_ _ _ _ hm H locs ls hw (lv_sub hl [0, 1, 2, 3, 4] rfl)
    intro L9 ih9 x5_6 x3_7 S8 hm H locs ls hw hl
    refine lv_iload hx hb dX1_holds_41 (lv_at hl 0 rfl) ?_
    refine lv_sipush (v := 424) hx hb dX1_holds_43 (by decide) ?_
    obtain ⟨J11, eJ11, hm⟩ := jn_e hm
    have hJ11 : ∀ (z10 : Unit) (_ : J11 z10) (H : Heap) (locs : List Loc) (ls : Array Slot), wV D A s.heap ((jW cy aJ S8) ++ (lwW cy aLw SLw)) H locs → lv_has ls 9 [(0, .ref (aJ 0))] → W p l e (rmN 2) s m args below meth c H locs 0 0 (MQ below (eI D cy A (fun u : Ob => ((jW cy aJ u) ++ (lwW cy aLw SLw))) Q) args s (rmN 2).cells (rmN 2).slots A) (F0 m 260 ls []) := by
      intro z10 hm H locs ls hw hl
      rw [eJ11] at hm
      refine lv_aload_n hx hb dX1_holds_260 rfl (lv_at hl 0 rfl) ?_
      refine gF (k := 2) hc hw inX1 rfl 0 rfl (by decide) (gm 317 (by decide +kernel) rfl) rfl dX1_holds_261 ?_
      refine lv_iconst (v := 2) hx hb dX1_holds_264 (by decide) ?_
      refine lv_icmp_ne (tgt := 281) hx hb dX1_holds_265 (by decide) (fun c13 => ?_) (fun c13 => ?_)
      · have hm := hm.1 c13
        refine lv_iconst (v := 0) hx hb dX1_holds_281 (by decide) ?_
        exact retZ (u := S8) hc hw rfl hm dX1_holds_282
      · have hm := hm.2 c13
        refine lv_aload_n hx hb dX1_holds_268 rfl (lv_at hl 0 rfl) ?_
        refine gF (k := 1) hc hw inX1 rfl 0 rfl (by decide) (gm 316 (by decide +kernel) rfl) rfl dX1_holds_269 ?_
        refine lv_iconst (v := 1) hx hb dX1_holds_272 (by decide) ?_
        refine aI hc hw 2 rfl (vin (by decide)) (j := 1) (by decide) dX1_holds_273 ?_
        refine lv_if_eq (tgt := 281) hx hb dX1_holds_274 (by decide) (fun c12 => ?_) (fun c12 => ?_)
        · have hm := hm.1 c12
          refine lv_iconst (v := 0) hx hb dX1_holds_281 (by decide) ?_
          exact retZ (u := S8) hc hw rfl hm dX1_holds_282
        · have hm := hm.2 c12
          refine lv_iconst (v := 1) hx hb dX1_holds_277 (by decide) ?_
          refine lv_goto (tgt := 282) hx hb dX1_holds_278 (by decide) ?_
          exact retZ (u := S8) hc hw rfl hm dX1_holds_282
    refine lv_icmp_ge (tgt := 260) hx hb dX1_holds_46 (by decide) (fun c67 => ?_) (fun c67 => ?_)
    · have hm := hm.1 c67
      exact hJ11 _ hm _ _ _ hw (lv_sub hl [3] rfl)
    · have hm := hm.2 c67
      refine lv_iload_n hx hb dX1_holds_49 rfl (lv_at hl 2 rfl) ?_
      refine lv_iload hx hb dX1_holds_50 (lv_at hl 1 rfl) ?_
      refine lv_icmp_ge (tgt := 260) hx hb dX1_holds_52 (by decide) (fun c66 => ?_) (fun c66 => ?_)
      · have hm := hm.1 c66
        exact hJ11 _ hm _ _ _ hw (lv_sub hl [3] rfl)
      · have hm := hm.2 c66
        refine lv_aload_n hx hb dX1_holds_55 rfl (lv_at hl 4 rfl) ?_
        refine gN (k := 2) (host := "OlderTale") hc hw inX2 rfl 3 rfl (by decide) (nmm 748 (by decide +kernel)) rfl dX1_holds_56 ?_
        refine lv_iload_n hx hb dX1_holds_59 rfl (lv_at hl 2 rfl) ?_
        obtain ⟨c14, hm⟩ := hm
        refine aI hc hw 6 rfl c14 rfl dX1_holds_60 ?_
        refine lv_topi (fun v15 e_v15 => ?_)
        have hm := hm v15 e_v15
        refine lv_istore (lv' := [(6, .int v15), (5, .int x5_6), (4, .int v4), (3, .int x3_7), (0, .ref (aJ 0)), (1, .ref (aLw 0))]) hx hb dX1_holds_61 hl (by decide) rfl (fun ls hl => ?_)
        refine lv_aload_n hx hb dX1_holds_63 rfl (lv_at hl 5 rfl) ?_
        refine gN (k := 3) (host := "OlderTale") hc hw inX2 rfl 3 rfl (by decide) (nmm 750 (by decide +kernel)) rfl dX1_holds_64 ?_
        refine lv_iload_n hx hb dX1_holds_67 rfl (lv_at hl 3 rfl) ?_
        obtain ⟨c16, hm⟩ := hm
        refine aI hc hw 7 rfl c16 rfl dX1_holds_68 ?_
        refine lv_topi (fun v17 e_v17 => ?_)
        have hm := hm v17 e_v17
        refine lv_istore (lv' := [(7, .int v17), (6, .int v15), (5, .int x5_6), (4, .int v4), (3, .int x3_7), (0, .ref (aJ 0)), (1, .ref (aLw 0))]) hx hb dX1_holds_69 hl (by decide) rfl (fun ls hl => ?_)
        obtain ⟨v18, e_v18⟩ : ∃ z : Int32, z = x3_7 + 1 := ⟨_, rfl⟩
        have hm := hm v18 e_v18
        refine lv_iinc (v := v18) (lv' := [(3, .int v18), (7, .int v17), (6, .int v15), (5, .int x5_6), (4, .int v4), (0, .ref (aJ 0)), (1, .ref (aLw 0))]) hx hb dX1_holds_71 hl (k := 4) rfl (by rw [e_v18]; rfl) (by decide) rfl (fun ls hl => ?_)
        refine lv_iload hx hb dX1_holds_74 (lv_at hl 2 rfl) ?_
        refine lv_sipush (v := 281) hx hb dX1_holds_76 (by decide) ?_
        refine lv_icmp_ne (tgt := 91) hx hb dX1_holds_79 (by decide) (fun c65 => ?_) (fun c65 => ?_)
        · have hm := hm.1 c65
          refine lv_iload hx hb dX1_holds_91 (lv_at hl 2 rfl) ?_
          refine lv_sipush (v := 282) hx hb dX1_holds_93 (by decide) ?_
          refine lv_icmp_ne (tgt := 129) hx hb dX1_holds_96 (by decide) (fun c61 => ?_) (fun c61 => ?_)
          · have hm := hm.1 c61
            refine lv_iload hx hb dX1_holds_129 (lv_at hl 2 rfl) ?_
            refine lv_sipush (v := 261) hx hb dX1_holds_131 (by decide) ?_
            obtain ⟨J20, eJ20, hm⟩ := jn_e hm
            have hJ20 : ∀ (z19 : Unit) (_ : J20 z19) (H : Heap) (locs : List Loc) (ls : Array Slot), wV D A s.heap ((jW cy aJ S8) ++ (lwW cy aLw SLw)) H locs → lv_has ls 9 [(0, .ref (aJ 0)), (1, .ref (aLw 0)), (3, .int v18), (4, .int v4), (5, .int x5_6), (6, .int v15), (7, .int v17)] → W p l e (rmN 2) s m args below meth c H locs 0 0 (MQ below (eI D cy A (fun u : Ob => ((jW cy aJ u) ++ (lwW cy aLw SLw))) Q) args s (rmN 2).cells (rmN 2).slots A) (F0 m 145 ls []) := by
              intro z19 hm H locs ls hw hl
              rw [eJ20] at hm
              refine lv_aload_n hx hb dX1_holds_145 rfl (lv_at hl 0 rfl) ?_
              refine nV_I (As := []) (rest := []) (wc := (jW cy aJ S8)) (wr := (lwW cy aLw SLw)) (isC := [0, 1, 2]) (isR := [3, 4, 5, 6, 7]) hc hw (c_X1_top hm) lk_X1_80 ⟨rfl, rfl, rfl, rfl, by decide⟩ rfl rfl ⟨Nat.le_of_ble_eq_true rfl, Nat.le_of_ble_eq_true rfl⟩ ⟨Nat.le_of_ble_eq_true rfl, Nat.le_of_ble_eq_true rfl⟩ hl.1 rfl (Nat.le_of_ble_eq_true rfl) rfl dX1_holds_146 (fun r21 _ H locs hm hw => ?_)
              have hw : wV D A s.heap ((jW cy aJ S8) ++ (lwW cy aLw SLw)) H locs := hw.perm [5, 6, 7, 0, 1, 2, 3, 4] rfl rfl
              obtain ⟨J24, eJ24, hm⟩ := jn_e hm
              have hJ24 : ∀ (t23 : Int32) (_ : J24 t23) (H : Heap) (locs : List Loc) (ls : Array Slot), wV D A s.heap ((jW cy aJ S8) ++ (lwW cy aLw SLw)) H locs → lv_has ls 9 [(0, .ref (aJ 0)), (1, .ref (aLw 0)), (3, .int v18), (4, .int v4), (5, .int x5_6), (6, .int v15), (7, .int v17)] → W p l e (rmN 2) s m args below meth c H locs 0 0 (MQ below (eI D cy A (fun u : Ob => ((jW cy aJ u) ++ (lwW cy aLw SLw))) Q) args s (rmN 2).cells (rmN 2).slots A) (F0 m 157 ls [.int t23]) := by
                intro t23 hm H locs ls hw hl
                rw [eJ24] at hm
                refine lv_iload hx hb dX1_holds_157 (lv_at hl 5 rfl) ?_
                refine lv_sipush (v := 260) hx hb dX1_holds_159 (by decide) ?_
                obtain ⟨J26, eJ26, hm⟩ := jn_e hm
                have hJ26 : ∀ (t25 : Int32) (_ : J26 t25) (H : Heap) (locs : List Loc) (ls : Array Slot), wV D A s.heap ((jW cy aJ S8) ++ (lwW cy aLw SLw)) H locs → lv_has ls 9 [(0, .ref (aJ 0)), (1, .ref (aLw 0)), (3, .int v18), (4, .int v4), (5, .int x5_6), (7, .int v17)] → W p l e (rmN 2) s m args below meth c H locs 0 0 (MQ below (eI D cy A (fun u : Ob => ((jW cy aJ u) ++ (lwW cy aLw SLw))) Q) args s (rmN 2).cells (rmN 2).slots A) (F0 m 170 ls [.int t25, .int t23]) := by
                  intro t25 hm H locs ls hw hl
                  rw [eJ26] at hm
                  obtain ⟨J28, eJ28, hm⟩ := jn_e hm
                  have hJ28 : ∀ (t27 : Int32) (_ : J28 t27) (H : Heap) (locs : List Loc) (ls : Array Slot), wV D A s.heap ((jW cy aJ S8) ++ (lwW cy aLw SLw)) H locs → lv_has ls 9 [(0, .ref (aJ 0)), (1, .ref (aLw 0)), (3, .int v18), (4, .int v4), (5, .int x5_6), (7, .int v17)] → W p l e (rmN 2) s m args below meth c H locs 0 0 (MQ below (eI D cy A (fun u : Ob => ((jW cy aJ u) ++ (lwW cy aLw SLw))) Q) args s (rmN 2).cells (rmN 2).slots A) (F0 m 178 ls [.int t27]) := by
                    intro t27 hm H locs ls hw hl
                    rw [eJ28] at hm
                    refine lv_istore (lv' := [(8, .int t27), (0, .ref (aJ 0)), (1, .ref (aLw 0)), (3, .int v18), (4, .int v4), (5, .int x5_6), (7, .int v17)]) hx hb dX1_holds_178 hl (by decide) rfl (fun ls hl => ?_)
                    refine lv_iload hx hb dX1_holds_180 (lv_at hl 0 rfl) ?_
                    refine lv_if_eq (tgt := 195) hx hb dX1_holds_182 (by decide) (fun c33 => ?_) (fun c33 => ?_)
                    · have hm := hm.1 c33
                      refine lv_aload_n hx hb dX1_holds_195 rfl (lv_at hl 1 rfl) ?_
                      refine lv_dup hx hb dX1_holds_196 rfl ?_
                      refine gF (k := 2) hc hw inX1 rfl 0 rfl (by decide) (gm 317 (by decide +kernel) rfl) rfl dX1_holds_197 ?_
                      refine lv_iconst (v := 1) hx hb dX1_holds_200 (by decide) ?_
                      refine lv_isub hx hb dX1_holds_201 ?_
                      refine pF (k := 2) (ty := .int) hc hw inX1 tyX1_ok nmX1 rfl 0 rfl (by decide) (gm 317 (by decide +kernel) rfl) rfl (by decide +kernel) rfl rfl (Nat.le_of_ble_eq_true rfl) dX1_holds_202 (fun H locs hw => ?_)
                      obtain ⟨S29, e_S29⟩ : ∃ z : Ob, z = uS S8 2 ((S8.1 2) - 1) := ⟨_, rfl⟩
                      have hm := hm S29 e_S29
                      have hw : wV D A s.heap ((jW cy aJ S29) ++ (lwW cy aLw SLw)) H locs := by rw [e_S29]; exact hw
                      refine lv_goto (tgt := 254) hx hb dX1_holds_205 (by decide) ?_
                      obtain ⟨v30, e_v30⟩ : ∃ z : Int32, z = x5_6 + 1 := ⟨_, rfl⟩
                      have hm := hm v30 e_v30
                      refine lv_iinc (v := v30) (lv' := [(5, .int v30), (8, .int t27), (0, .ref (aJ 0)), (1, .ref (aLw 0)), (3, .int v18), (4, .int v4), (7, .int v17)]) hx hb dX1_holds_254 hl (k := 5) rfl (by rw [e_v30]; rfl) (by decide) rfl (fun ls hl => ?_)
                      refine lv_goto (tgt := 41) hx hb dX1_holds_257 (by decide) ?_
                      exact ih9 _ _ _ hm _ _ _ hw (lv_sub hl [0, 5, 4, 2, 3] rfl)
                    · have hm := hm.2 c33
                      refine lv_iload_n hx hb dX1_holds_185 rfl (lv_at hl 3 rfl) ?_
                      refine lv_iload hx hb dX1_holds_186 (lv_at hl 6 rfl) ?_
                      refine m_max (rest := []) hc hl.1 (gm 552 (by decide +kernel) rfl) (Nat.le_of_ble_eq_true rfl) (Nat.le_of_ble_eq_true rfl) (Nat.le_of_ble_eq_true rfl) (Nat.le_of_ble_eq_true rfl) dX1_holds_188 ?_
                      refine lv_topi (fun v31 e_v31 => ?_)
                      have hm := hm v31 e_v31
                      refine lv_istore_n (lv' := [(3, .int v31), (8, .int t27), (0, .ref (aJ 0)), (1, .ref (aLw 0)), (4, .int v4), (5, .int x5_6), (7, .int v17)]) hx hb dX1_holds_191 rfl hl (by decide) rfl (fun ls hl => ?_)
                      refine lv_goto (tgt := 205) hx hb dX1_holds_192 (by decide) ?_
                      refine lv_goto (tgt := 254) hx hb dX1_holds_205 (by decide) ?_
                      obtain ⟨v32, e_v32⟩ : ∃ z : Int32, z = x5_6 + 1 := ⟨_, rfl⟩
                      have hm := hm v32 e_v32
                      refine lv_iinc (v := v32) (lv' := [(5, .int v32), (3, .int v31), (8, .int t27), (0, .ref (aJ 0)), (1, .ref (aLw 0)), (4, .int v4), (7, .int v17)]) hx hb dX1_holds_254 hl (k := 5) rfl (by rw [e_v32]; rfl) (by decide) rfl (fun ls hl => ?_)
                      refine lv_goto (tgt := 41) hx hb dX1_holds_257 (by decide) ?_
                      exact ih9 _ _ _ hm _ _ _ hw (lv_sub hl [0, 5, 1, 3, 4] rfl)
                  refine lv_icmp_ne (tgt := 177) hx hb dX1_holds_170 (by decide) (fun c34 => ?_) (fun c34 => ?_)
                  · have hm := hm.1 c34
                    refine lv_iconst (v := 0) hx hb dX1_holds_177 (by decide) ?_
                    exact hJ28 _ hm _ _ _ hw (lv_sub hl [0, 1, 2, 3, 4, 5] rfl)
                  · have hm := hm.2 c34
                    refine lv_iconst (v := 1) hx hb dX1_holds_173 (by decide) ?_
                    refine lv_goto (tgt := 178) hx hb dX1_holds_174 (by decide) ?_
                    exact hJ28 _ hm _ _ _ hw (lv_sub hl [0, 1, 2, 3, 4, 5] rfl)
                refine lv_icmp_ne (tgt := 169) hx hb dX1_holds_162 (by decide) (fun c35 => ?_) (fun c35 => ?_)
                · have hm := hm.1 c35
                  refine lv_iconst (v := 0) hx hb dX1_holds_169 (by decide) ?_
                  exact hJ26 _ hm _ _ _ hw (lv_sub hl [0, 1, 2, 3, 4, 6] rfl)
                · have hm := hm.2 c35
                  refine lv_iconst (v := 1) hx hb dX1_holds_165 (by decide) ?_
                  refine lv_goto (tgt := 170) hx hb dX1_holds_166 (by decide) ?_
                  exact hJ26 _ hm _ _ _ hw (lv_sub hl [0, 1, 2, 3, 4, 6] rfl)
              refine lv_if_eq (tgt := 156) hx hb dX1_holds_149 (by decide) (fun c36 => ?_) (fun c36 => ?_)
              · have hm := hm.1 c36
                refine lv_iconst (v := 0) hx hb dX1_holds_156 (by decide) ?_
                exact hJ24 _ hm _ _ _ hw (lv_sub hl [0, 1, 2, 3, 4, 5, 6] rfl)
              · have hm := hm.2 c36
                refine lv_iconst (v := 1) hx hb dX1_holds_152 (by decide) ?_
                refine lv_goto (tgt := 157) hx hb dX1_holds_153 (by decide) ?_
                exact hJ24 _ hm _ _ _ hw (lv_sub hl [0, 1, 2, 3, 4, 5, 6] rfl)
            refine lv_icmp_eq (tgt := 145) hx hb dX1_holds_134 (by decide) (fun c50 => ?_) (fun c50 => ?_)
            · have hm := hm.1 c50
              exact hJ20 _ hm _ _ _ hw (lv_sub hl [5, 6, 0, 4, 3, 2, 1] rfl)
            · have hm := hm.2 c50
              refine lv_iload hx hb dX1_holds_137 (lv_at hl 2 rfl) ?_
              refine lv_sipush (v := 260) hx hb dX1_holds_139 (by decide) ?_
              refine lv_icmp_ne (tgt := 208) hx hb dX1_holds_142 (by decide) (fun c49 => ?_) (fun c49 => ?_)
              · have hm := hm.1 c49
                refine lv_iload hx hb dX1_holds_208 (lv_at hl 2 rfl) ?_
                refine lv_sipush (v := 262) hx hb dX1_holds_210 (by decide) ?_
                refine lv_icmp_ne (tgt := 243) hx hb dX1_holds_213 (by decide) (fun c48 => ?_) (fun c48 => ?_)
                · have hm := hm.1 c48
                  refine lv_aload_n hx hb dX1_holds_243 rfl (lv_at hl 5 rfl) ?_
                  refine lv_iload hx hb dX1_holds_244 (lv_at hl 2 rfl) ?_
                  refine nV_I (As := [.int v15]) (rest := []) (wc := (jW cy aJ S8)) (wr := (lwW cy aLw SLw)) (isC := [0, 1, 2]) (isR := [3, 4, 5, 6, 7]) hc hw (c_X1_joins hm) lk_X1_84 ⟨rfl, rfl, rfl, rfl, by decide⟩ rfl rfl ⟨Nat.le_of_ble_eq_true rfl, Nat.le_of_ble_eq_true rfl⟩ ⟨Nat.le_of_ble_eq_true rfl, Nat.le_of_ble_eq_true rfl⟩ hl.1 rfl (Nat.le_of_ble_eq_true rfl) rfl dX1_holds_246 (fun r37 S38 H locs hm hw => ?_)
                  have hw : wV D A s.heap ((jW cy aJ S38) ++ (lwW cy aLw SLw)) H locs := hw.perm [5, 6, 7, 0, 1, 2, 3, 4] rfl rfl
                  refine lv_if_ne (tgt := 254) hx hb dX1_holds_249 (by decide) (fun c41 => ?_) (fun c41 => ?_)
                  · have hm := hm.1 c41
                    obtain ⟨v40, e_v40⟩ : ∃ z : Int32, z = x5_6 + 1 := ⟨_, rfl⟩
                    have hm := hm v40 e_v40
                    refine lv_iinc (v := v40) (lv' := [(5, .int v40), (3, .int v18), (7, .int v17), (6, .int v15), (4, .int v4), (0, .ref (aJ 0)), (1, .ref (aLw 0))]) hx hb dX1_holds_254 hl (k := 3) rfl (by rw [e_v40]; rfl) (by decide) rfl (fun ls hl => ?_)
                    refine lv_goto (tgt := 41) hx hb dX1_holds_257 (by decide) ?_
                    exact ih9 _ _ _ hm _ _ _ hw (lv_sub hl [0, 4, 1, 5, 6] rfl)
                  · have hm := hm.2 c41
                    refine lv_iconst (v := 0) hx hb dX1_holds_252 (by decide) ?_
                    exact retZ (u := S38) hc hw rfl hm dX1_holds_253
                · have hm := hm.2 c48
                  refine lv_aload_n hx hb dX1_holds_216 rfl (lv_at hl 5 rfl) ?_
                  refine nV_I (As := []) (rest := []) (wc := (jW cy aJ S8)) (wr := (lwW cy aLw SLw)) (isC := [0, 1, 2]) (isR := [3, 4, 5, 6, 7]) hc hw (c_X1_top hm) lk_X1_80 ⟨rfl, rfl, rfl, rfl, by decide⟩ rfl rfl ⟨Nat.le_of_ble_eq_true rfl, Nat.le_of_ble_eq_true rfl⟩ ⟨Nat.le_of_ble_eq_true rfl, Nat.le_of_ble_eq_true rfl⟩ hl.1 rfl (Nat.le_of_ble_eq_true rfl) rfl dX1_holds_217 (fun r42 _ H locs hm hw => ?_)
                  have hw : wV D A s.heap ((jW cy aJ S8) ++ (lwW cy aLw SLw)) H locs := hw.perm [5, 6, 7, 0, 1, 2, 3, 4] rfl rfl
                  refine lv_istore (lv' := [(8, .int r42), (3, .int v18), (7, .int v17), (6, .int v15), (5, .int x5_6), (4, .int v4), (0, .ref (aJ 0)), (1, .ref (aLw 0))]) hx hb dX1_holds_220 hl (by decide) rfl (fun ls hl => ?_)
                  refine lv_aload_n hx hb dX1_holds_222 rfl (lv_at hl 6 rfl) ?_
                  refine lv_dup hx hb dX1_holds_223 rfl ?_
                  refine gF (k := 2) hc hw inX1 rfl 0 rfl (by decide) (gm 317 (by decide +kernel) rfl) rfl dX1_holds_224 ?_
                  refine lv_iconst (v := 1) hx hb dX1_holds_227 (by decide) ?_
                  refine lv_isub hx hb dX1_holds_228 ?_
                  refine pF (k := 2) (ty := .int) hc hw inX1 tyX1_ok nmX1 rfl 0 rfl (by decide) (gm 317 (by decide +kernel) rfl) rfl (by decide +kernel) rfl rfl (Nat.le_of_ble_eq_true rfl) dX1_holds_229 (fun H locs hw => ?_)
                  obtain ⟨S44, e_S44⟩ : ∃ z : Ob, z = uS S8 2 ((S8.1 2) - 1) := ⟨_, rfl⟩
                  have hm := hm S44 e_S44
                  have hw : wV D A s.heap ((jW cy aJ S44) ++ (lwW cy aLw SLw)) H locs := by rw [e_S44]; exact hw
                  refine lv_aload_n hx hb dX1_holds_232 rfl (lv_at hl 6 rfl) ?_
                  refine lv_iconst (v := 1) hx hb dX1_holds_233 (by decide) ?_
                  refine lv_iload hx hb dX1_holds_234 (lv_at hl 0 rfl) ?_
                  refine lv_isub hx hb dX1_holds_236 ?_
                  refine nV_V (As := [.int (1 - r42)]) (rest := []) (wc := (jW cy aJ S44)) (wr := (lwW cy aLw SLw)) (isC := [0, 1, 2]) (isR := [3, 4, 5, 6, 7]) hc hw (c_X1_push hm) lk_X1_76 ⟨rfl, rfl, rfl, rfl, by decide⟩ rfl rfl ⟨Nat.le_of_ble_eq_true rfl, Nat.le_of_ble_eq_true rfl⟩ ⟨Nat.le_of_ble_eq_true rfl, Nat.le_of_ble_eq_true rfl⟩ hl.1 rfl (Nat.le_of_ble_eq_true rfl) rfl dX1_holds_237 (fun S45 H locs hm hw => ?_)
                  have hw : wV D A s.heap ((jW cy aJ S45) ++ (lwW cy aLw SLw)) H locs := hw.perm [5, 6, 7, 0, 1, 2, 3, 4] rfl rfl
                  refine lv_goto (tgt := 254) hx hb dX1_holds_240 (by decide) ?_
                  obtain ⟨v47, e_v47⟩ : ∃ z : Int32, z = x5_6 + 1 := ⟨_, rfl⟩
                  have hm := hm v47 e_v47
                  refine lv_iinc (v := v47) (lv' := [(5, .int v47), (8, .int r42), (3, .int v18), (7, .int v17), (6, .int v15), (4, .int v4), (0, .ref (aJ 0)), (1, .ref (aLw 0))]) hx hb dX1_holds_254 hl (k := 4) rfl (by rw [e_v47]; rfl) (by decide) rfl (fun ls hl => ?_)
                  refine lv_goto (tgt := 41) hx hb dX1_holds_257 (by decide) ?_
                  exact ih9 _ _ _ hm _ _ _ hw (lv_sub hl [0, 5, 2, 6, 7] rfl)
              · have hm := hm.2 c49
                exact hJ20 _ hm _ _ _ hw (lv_sub hl [5, 6, 0, 4, 3, 2, 1] rfl)
          · have hm := hm.2 c61
            refine lv_aload_n hx hb dX1_holds_99 rfl (lv_at hl 5 rfl) ?_
            refine lv_iload hx hb dX1_holds_100 (lv_at hl 1 rfl) ?_
            obtain ⟨J52, eJ52, hm⟩ := jn_e hm
            have hJ52 : ∀ (t51 : Int32) (_ : J52 t51) (H : Heap) (locs : List Loc) (ls : Array Slot), wV D A s.heap ((jW cy aJ S8) ++ (lwW cy aLw SLw)) H locs → lv_has ls 9 [(0, .ref (aJ 0)), (1, .ref (aLw 0)), (3, .int v18), (4, .int v4), (5, .int x5_6)] → W p l e (rmN 2) s m args below meth c H locs 0 0 (MQ below (eI D cy A (fun u : Ob => ((jW cy aJ u) ++ (lwW cy aLw SLw))) Q) args s (rmN 2).cells (rmN 2).slots A) (F0 m 123 ls [.int t51, .ref (aJ 0)]) := by
              intro t51 hm H locs ls hw hl
              rw [eJ52] at hm
              refine nV_V (As := [.int t51]) (rest := []) (wc := (jW cy aJ S8)) (wr := (lwW cy aLw SLw)) (isC := [0, 1, 2]) (isR := [3, 4, 5, 6, 7]) hc hw (c_X1_push hm) lk_X1_76 ⟨rfl, rfl, rfl, rfl, by decide⟩ rfl rfl ⟨Nat.le_of_ble_eq_true rfl, Nat.le_of_ble_eq_true rfl⟩ ⟨Nat.le_of_ble_eq_true rfl, Nat.le_of_ble_eq_true rfl⟩ hl.1 rfl (Nat.le_of_ble_eq_true rfl) rfl dX1_holds_123 (fun S53 H locs hm hw => ?_)
              have hw : wV D A s.heap ((jW cy aJ S53) ++ (lwW cy aLw SLw)) H locs := hw.perm [5, 6, 7, 0, 1, 2, 3, 4] rfl rfl
              refine lv_goto (tgt := 254) hx hb dX1_holds_126 (by decide) ?_
              obtain ⟨v55, e_v55⟩ : ∃ z : Int32, z = x5_6 + 1 := ⟨_, rfl⟩
              have hm := hm v55 e_v55
              refine lv_iinc (v := v55) (lv' := [(5, .int v55), (0, .ref (aJ 0)), (1, .ref (aLw 0)), (3, .int v18), (4, .int v4)]) hx hb dX1_holds_254 hl (k := 4) rfl (by rw [e_v55]; rfl) (by decide) rfl (fun ls hl => ?_)
              refine lv_goto (tgt := 41) hx hb dX1_holds_257 (by decide) ?_
              exact ih9 _ _ _ hm _ _ _ hw (lv_sub hl [0, 4, 3, 1, 2] rfl)
            obtain ⟨J57, eJ57, hm⟩ := jn_e hm
            have hJ57 : ∀ (z56 : Unit) (_ : J57 z56) (H : Heap) (locs : List Loc) (ls : Array Slot), wV D A s.heap ((jW cy aJ S8) ++ (lwW cy aLw SLw)) H locs → lv_has ls 9 [(0, .ref (aJ 0)), (1, .ref (aLw 0)), (3, .int v18), (4, .int v4), (5, .int x5_6)] → W p l e (rmN 2) s m args below meth c H locs 0 0 (MQ below (eI D cy A (fun u : Ob => ((jW cy aJ u) ++ (lwW cy aLw SLw))) Q) args s (rmN 2).cells (rmN 2).slots A) (F0 m 122 ls [.ref (aJ 0)]) := by
              intro z56 hm H locs ls hw hl
              rw [eJ57] at hm
              refine lv_iconst (v := 0) hx hb dX1_holds_122 (by decide) ?_
              exact hJ52 _ hm _ _ _ hw (lv_sub hl [0, 1, 2, 3, 4] rfl)
            refine lv_if_lt (tgt := 122) hx hb dX1_holds_102 (by decide) (fun c60 => ?_) (fun c60 => ?_)
            · have hm := hm.1 c60
              exact hJ57 _ hm _ _ _ hw (lv_sub hl [5, 6, 0, 4, 3] rfl)
            · have hm := hm.2 c60
              refine lv_iload hx hb dX1_holds_105 (lv_at hl 1 rfl) ?_
              refine lv_bipush (v := 8) hx hb dX1_holds_107 (by decide) ?_
              refine lv_icmp_ge (tgt := 122) hx hb dX1_holds_109 (by decide) (fun c59 => ?_) (fun c59 => ?_)
              · have hm := hm.1 c59
                exact hJ57 _ hm _ _ _ hw (lv_sub hl [5, 6, 0, 4, 3] rfl)
              · have hm := hm.2 c59
                refine lv_aload_n hx hb dX1_holds_112 rfl (lv_at hl 5 rfl) ?_
                refine gF (k := 0) hc hw inX1 rfl 0 rfl (by decide) (gm 315 (by decide +kernel) rfl) rfl dX1_holds_113 ?_
                refine lv_iload hx hb dX1_holds_116 (lv_at hl 1 rfl) ?_
                obtain ⟨c58, hm⟩ := hm
                refine aI hc hw 1 rfl c58 rfl dX1_holds_118 ?_
                refine lv_goto (tgt := 123) hx hb dX1_holds_119 (by decide) ?_
                exact hJ52 _ hm _ _ _ hw (lv_sub hl [5, 6, 0, 4, 3] rfl)
        · have hm := hm.2 c65
          refine lv_aload_n hx hb dX1_holds_82 rfl (lv_at hl 5 rfl) ?_
          refine lv_iload hx hb dX1_holds_83 (lv_at hl 1 rfl) ?_
          refine nV_V (As := [.int v17]) (rest := []) (wc := (jW cy aJ S8)) (wr := (lwW cy aLw SLw)) (isC := [0, 1, 2]) (isR := [3, 4, 5, 6, 7]) hc hw (c_X1_push hm) lk_X1_76 ⟨rfl, rfl, rfl, rfl, by decide⟩ rfl rfl ⟨Nat.le_of_ble_eq_true rfl, Nat.le_of_ble_eq_true rfl⟩ ⟨Nat.le_of_ble_eq_true rfl, Nat.le_of_ble_eq_true rfl⟩ hl.1 rfl (Nat.le_of_ble_eq_true rfl) rfl dX1_holds_85 (fun S62 H locs hm hw => ?_)
          have hw : wV D A s.heap ((jW cy aJ S62) ++ (lwW cy aLw SLw)) H locs := hw.perm [5, 6, 7, 0, 1, 2, 3, 4] rfl rfl
          refine lv_goto (tgt := 254) hx hb dX1_holds_88 (by decide) ?_
          obtain ⟨v64, e_v64⟩ : ∃ z : Int32, z = x5_6 + 1 := ⟨_, rfl⟩
          have hm := hm v64 e_v64
          refine lv_iinc (v := v64) (lv' := [(5, .int v64), (3, .int v18), (7, .int v17), (6, .int v15), (4, .int v4), (0, .ref (aJ 0)), (1, .ref (aLw 0))]) hx hb dX1_holds_254 hl (k := 3) rfl (by rw [e_v64]; rfl) (by decide) rfl (fun ls hl => ?_)
          refine lv_goto (tgt := 41) hx hb dX1_holds_257 (by decide) ?_
          exact ih9 _ _ _ hm _ _ _ hw (lv_sub hl [0, 4, 1, 5, 6] rfl)
  refine lv_if_le (tgt := 15) hx hb dX1_holds_1 (by decide) (fun c69 => ?_) (fun c69 => ?_)
  · have hm := hm.1 c69
    refine lv_iconst (v := 0) hx hb dX1_holds_15 (by decide) ?_
    exact hJ2 _ hm _ _ _ hw (lv_sub hl [0, 1, 2] rfl)
  · have hm := hm.2 c69
    refine lv_aload_n hx hb dX1_holds_4 rfl (lv_at hl 1 rfl) ?_
    refine gN (k := 1) (host := "OlderTale") hc hw inX2 rfl 3 rfl (by decide) (nmm 746 (by decide +kernel)) rfl dX1_holds_5 ?_
    refine lv_iload_n hx hb dX1_holds_8 rfl (lv_at hl 2 rfl) ?_
    refine lv_iconst (v := 1) hx hb dX1_holds_9 (by decide) ?_
    refine lv_isub hx hb dX1_holds_10 ?_
    obtain ⟨c68, hm⟩ := hm
    refine aI hc hw 5 rfl c68 rfl dX1_holds_11 ?_
    refine lv_goto (tgt := 16) hx hb dX1_holds_12 (by decide) ?_
    exact hJ2 _ hm _ _ _ hw (lv_sub hl [0, 1, 2] rfl)
set_option maxHeartbeats 4000000 in
set_option maxRecDepth 100000 in
theorem c_X1_lastOf {l : Launch} {D : va_G} {cy : Nat → ClassId} {aJ : Nat → Nat} {aLw : Nat → Nat} {SJ : Ob} {SLw : Lw} {x2 : Int32} {x3 : Int32} {x4 : Int32} {Q : Int32 → Ob → Prop} (hm : w_X1_lastOf SJ SLw x2 x3 x4 Q) : CtI l yX1_lastOf cX1_lastOf 7 (some .int) (rmN 3) D cy [.ref (aJ 0), .ref (aLw 0), .int x2, .int x3, .int x4] ((jW cy aJ SJ) ++ (lwW cy aLw SLw)) (fun u : Ob => ((jW cy aJ u) ++ (lwW cy aLw SLw))) Q := by
  refine CtI.ofW (by decide) (Nat.le_of_ble_eq_true rfl) ?_
  intro p e s m args below meth c A ls hc hnm hw hl
  have hx := hc.1.1
  have hb := hc.1.2.1
  have hown := hc.1.2.2.2.1
  have hts := hc.1.2.2.2.2
  have hl : lv_has ls 7 [(0, .ref (aJ 0)), (1, .ref (aLw 0)), (2, .int x2), (3, .int x3), (4, .int x4)] := hl
  obtain ⟨H, hH⟩ : ∃ z, z = s.heap := ⟨_, rfl⟩
  obtain ⟨locs, hLc⟩ : ∃ z : List Loc, z = [] := ⟨_, rfl⟩
  have hw : wV D A s.heap ((jW cy aJ SJ) ++ (lwW cy aLw SLw)) H locs := by rw [hH, hLc]; exact hw
  have hgo : W p l e (rmN 3) s m args below meth c H locs 0 0 (MQ below (eI D cy A (fun u : Ob => ((jW cy aJ u) ++ (lwW cy aLw SLw))) Q) args s (rmN 3).cells (rmN 3).slots A) (F0 m 0 ls []) := ?hgo
  · rw [hH, hLc] at hgo; exact hgo
  refine lv_iload hx hb dX1_lastOf_0 (lv_at hl 4 rfl) ?_
  refine lv_istore (lv' := [(5, .int x4), (0, .ref (aJ 0)), (1, .ref (aLw 0)), (2, .int x2), (3, .int x3), (4, .int x4)]) hx hb dX1_lastOf_2 hl (by decide) rfl (fun ls hl => ?_)
  refine lv_aload_n hx hb dX1_lastOf_4 rfl (lv_at hl 2 rfl) ?_
  refine lv_ifnonnull (tgt := 11) hx hb dX1_lastOf_5 (by decide) ?_
  refine lv_iconst (v := 0) hx hb dX1_lastOf_11 (by decide) ?_
  refine lv_istore (lv' := [(6, .int 0), (5, .int x4), (0, .ref (aJ 0)), (1, .ref (aLw 0)), (2, .int x2), (3, .int x3), (4, .int x4)]) hx hb dX1_lastOf_12 hl (by decide) rfl (fun ls hl => ?_)
  refine wl3_ind (G := fun (x6_1 : Int32) (x5_2 : Int32) (S3 : Ob) => ∀ (H : Heap) (locs : List Loc) (ls : Array Slot), wV D A s.heap ((jW cy aJ S3) ++ (lwW cy aLw SLw)) H locs → lv_has ls 7 [(6, .int x6_1), (5, .int x5_2), (0, .ref (aJ 0)), (1, .ref (aLw 0)), (2, .int x2), (3, .int x3)] → W p l e (rmN 3) s m args below meth c H locs 0 0 (MQ below (eI D cy A (fun u : Ob => ((jW cy aJ u) ++ (lwW cy aLw SLw))) Q) args s (rmN 3).cells (rmN 3).slots A) (F0 m 14 ls [])) ?_ _ _ _ hm H locs ls hw (lv_sub hl [0, 1, 2, 3, 4, 5] rfl)
  intro L4 ih4 x6_1 x5_2 S3 hm H locs ls hw hl
  refine lv_iload hx hb dX1_lastOf_14 (lv_at hl 0 rfl) ?_
  refine lv_aload_n hx hb dX1_lastOf_16 rfl (lv_at hl 3 rfl) ?_
  refine gN (k := 0) (host := "OlderTale") hc hw inX2 rfl 3 rfl (by decide) (nmm 744 (by decide +kernel)) rfl dX1_lastOf_17 ?_
  refine aLen (t0 := 0) (v := (Int32.ofNat (SLw.1 0))) hc hw 4 rfl rfl rfl dX1_lastOf_20 ?_
  refine lv_icmp_ge (tgt := 68) hx hb dX1_lastOf_21 (by decide) (fun c16 => ?_) (fun c16 => ?_)
  · have hm := hm.1 c16
    refine lv_iload hx hb dX1_lastOf_68 (lv_at hl 1 rfl) ?_
    exact retI (u := S3) hc hw hm dX1_lastOf_70
  · have hm := hm.2 c16
    refine lv_aload_n hx hb dX1_lastOf_24 rfl (lv_at hl 3 rfl) ?_
    refine lv_iload hx hb dX1_lastOf_25 (lv_at hl 0 rfl) ?_
    refine lv_iload_n hx hb dX1_lastOf_27 rfl (lv_at hl 4 rfl) ?_
    refine nVN_I (As := [.int x6_1, .int x2]) (rest := []) (wc := (lwW cy aLw SLw)) (wr := (jW cy aJ S3)) (isC := [3, 4, 5, 6, 7]) (isR := [0, 1, 2]) hc hw (c_X2_isOf hm) lk_X1_50 ⟨rfl, rfl, rfl, rfl, by decide⟩ rfl rfl ⟨Nat.le_of_ble_eq_true rfl, Nat.le_of_ble_eq_true rfl⟩ ⟨Nat.le_of_ble_eq_true rfl, Nat.le_of_ble_eq_true rfl⟩ hl.1 rfl (Nat.le_of_ble_eq_true rfl) rfl dX1_lastOf_28 (fun r5 _ H locs hm hw => ?_)
    have hw : wV D A s.heap ((jW cy aJ S3) ++ (lwW cy aLw SLw)) H locs := hw.perm [0, 1, 2, 3, 4, 5, 6, 7] rfl rfl
    refine lv_if_eq (tgt := 62) hx hb dX1_lastOf_31 (by decide) (fun c15 => ?_) (fun c15 => ?_)
    · have hm := hm.1 c15
      obtain ⟨v7, e_v7⟩ : ∃ z : Int32, z = x6_1 + 1 := ⟨_, rfl⟩
      have hm := hm v7 e_v7
      refine lv_iinc (v := v7) (lv' := [(6, .int v7), (5, .int x5_2), (0, .ref (aJ 0)), (1, .ref (aLw 0)), (2, .int x2), (3, .int x3)]) hx hb dX1_lastOf_62 hl (k := 0) rfl (by rw [e_v7]; rfl) (by decide) rfl (fun ls hl => ?_)
      refine lv_goto (tgt := 14) hx hb dX1_lastOf_65 (by decide) ?_
      exact ih4 _ _ _ hm _ _ _ hw (lv_sub hl [0, 1, 2, 3, 4, 5] rfl)
    · have hm := hm.2 c15
      refine lv_aload_n hx hb dX1_lastOf_34 rfl (lv_at hl 2 rfl) ?_
      refine lv_aload_n hx hb dX1_lastOf_35 rfl (lv_at hl 3 rfl) ?_
      refine lv_iload hx hb dX1_lastOf_36 (lv_at hl 0 rfl) ?_
      refine aV_I (As := [.ref (aLw 0), .int x6_1]) (rest := []) hc hw (c_X1_holds hm) lk_X1_54 rfl rfl ⟨Nat.le_of_ble_eq_true rfl, Nat.le_of_ble_eq_true rfl⟩ ⟨Nat.le_of_ble_eq_true rfl, Nat.le_of_ble_eq_true rfl⟩ hl.1 rfl (Nat.le_of_ble_eq_true rfl) rfl dX1_lastOf_38 (fun r8 S9 H locs hm hw => ?_)
      have hw : wV D A s.heap ((jW cy aJ S9) ++ (lwW cy aLw SLw)) H locs := hw
      refine lv_if_eq (tgt := 62) hx hb dX1_lastOf_41 (by decide) (fun c14 => ?_) (fun c14 => ?_)
      · have hm := hm.1 c14
        obtain ⟨v11, e_v11⟩ : ∃ z : Int32, z = x6_1 + 1 := ⟨_, rfl⟩
        have hm := hm v11 e_v11
        refine lv_iinc (v := v11) (lv' := [(6, .int v11), (5, .int x5_2), (0, .ref (aJ 0)), (1, .ref (aLw 0)), (2, .int x2), (3, .int x3)]) hx hb dX1_lastOf_62 hl (k := 0) rfl (by rw [e_v11]; rfl) (by decide) rfl (fun ls hl => ?_)
        refine lv_goto (tgt := 14) hx hb dX1_lastOf_65 (by decide) ?_
        exact ih4 _ _ _ hm _ _ _ hw (lv_sub hl [0, 1, 2, 3, 4, 5] rfl)
      · have hm := hm.2 c14
        refine lv_iload_n hx hb dX1_lastOf_44 rfl (lv_at hl 5 rfl) ?_
        refine lv_aload_n hx hb dX1_lastOf_45 rfl (lv_at hl 2 rfl) ?_
        refine gF (k := 1) hc hw inX1 rfl 0 rfl (by decide) (gm 316 (by decide +kernel) rfl) rfl dX1_lastOf_46 ?_
        refine lv_iconst (v := 0) hx hb dX1_lastOf_49 (by decide) ?_
        refine aI hc hw 2 rfl (vin (by decide)) (j := 0) (by decide) dX1_lastOf_50 ?_
        refine lv_sipush (v := 999) hx hb dX1_lastOf_51 (by decide) ?_
        refine m_min (rest := [.int x3]) hc hl.1 (gm 541 (by decide +kernel) rfl) (Nat.le_of_ble_eq_true rfl) (Nat.le_of_ble_eq_true rfl) (Nat.le_of_ble_eq_true rfl) (Nat.le_of_ble_eq_true rfl) dX1_lastOf_54 ?_
        refine m_max (rest := []) hc hl.1 (gm 552 (by decide +kernel) rfl) (Nat.le_of_ble_eq_true rfl) (Nat.le_of_ble_eq_true rfl) (Nat.le_of_ble_eq_true rfl) (Nat.le_of_ble_eq_true rfl) dX1_lastOf_57 ?_
        refine lv_topi (fun v12 e_v12 => ?_)
        have hm := hm v12 e_v12
        refine lv_istore (lv' := [(5, .int v12), (6, .int x6_1), (0, .ref (aJ 0)), (1, .ref (aLw 0)), (2, .int x2), (3, .int x3)]) hx hb dX1_lastOf_60 hl (by decide) rfl (fun ls hl => ?_)
        obtain ⟨v13, e_v13⟩ : ∃ z : Int32, z = x6_1 + 1 := ⟨_, rfl⟩
        have hm := hm v13 e_v13
        refine lv_iinc (v := v13) (lv' := [(6, .int v13), (5, .int v12), (0, .ref (aJ 0)), (1, .ref (aLw 0)), (2, .int x2), (3, .int x3)]) hx hb dX1_lastOf_62 hl (k := 1) rfl (by rw [e_v13]; rfl) (by decide) rfl (fun ls hl => ?_)
        refine lv_goto (tgt := 14) hx hb dX1_lastOf_65 (by decide) ?_
        exact ih4 _ _ _ hm _ _ _ hw (lv_sub hl [0, 1, 2, 3, 4, 5] rfl)
set_option maxHeartbeats 4000000 in
set_option maxRecDepth 100000 in
theorem c_X1_lastOfN {l : Launch} {D : va_G} {cy : Nat → ClassId} {aJ : Nat → Nat} {SJ : Ob} {x2 : Int32} {x3 : Int32} {x4 : Int32} {Q : Int32 → Prop} (hm : w_X1_lastOfN SJ x2 x3 x4 Q) : CtI l yX1_lastOf cX1_lastOf 7 (some .int) (rmN 3) D cy [.ref (aJ 0), .null, .int x2, .int x3, .int x4] (jW cy aJ SJ) (fun _ : Unit => (jW cy aJ SJ)) (fun (r : Int32) (_ : Unit) => Q r) := by
  refine CtI.ofW (by decide) (Nat.le_of_ble_eq_true rfl) ?_
  intro p e s m args below meth c A ls hc hnm hw hl
  have hx := hc.1.1
  have hb := hc.1.2.1
  have hown := hc.1.2.2.2.1
  have hts := hc.1.2.2.2.2
  have hl : lv_has ls 7 [(0, .ref (aJ 0)), (1, .null), (2, .int x2), (3, .int x3), (4, .int x4)] := hl
  obtain ⟨H, hH⟩ : ∃ z, z = s.heap := ⟨_, rfl⟩
  obtain ⟨locs, hLc⟩ : ∃ z : List Loc, z = [] := ⟨_, rfl⟩
  have hw : wV D A s.heap (jW cy aJ SJ) H locs := by rw [hH, hLc]; exact hw
  have hgo : W p l e (rmN 3) s m args below meth c H locs 0 0 (MQ below (eI D cy A (fun _ : Unit => (jW cy aJ SJ)) (fun (r : Int32) (_ : Unit) => Q r)) args s (rmN 3).cells (rmN 3).slots A) (F0 m 0 ls []) := ?hgo
  · rw [hH, hLc] at hgo; exact hgo
  refine lv_iload hx hb dX1_lastOf_0 (lv_at hl 4 rfl) ?_
  refine lv_istore (lv' := [(5, .int x4), (0, .ref (aJ 0)), (1, .null), (2, .int x2), (3, .int x3), (4, .int x4)]) hx hb dX1_lastOf_2 hl (by decide) rfl (fun ls hl => ?_)
  refine lv_aload_nN hx hb dX1_lastOf_4 rfl (lv_at hl 2 rfl) ?_
  refine lv_ifnonnullN hx hb dX1_lastOf_5 ?_
  refine lv_iload hx hb dX1_lastOf_8 (lv_at hl 0 rfl) ?_
  exact retI (u := ()) hc hw hm dX1_lastOf_10
set_option maxHeartbeats 4000000 in
set_option maxRecDepth 100000 in
theorem c_X1_isBarred {l : Launch} {D : va_G} {cy : Nat → ClassId} {aJ : Nat → Nat} {aLw : Nat → Nat} {SJ : Ob} {SLw : Lw} {x2 : Int32} {Q : Int32 → Ob → Prop} (hm : w_X1_isBarred SJ SLw x2 Q) : CtI l yX1_isBarred cX1_isBarred 4 (some .boolean) (rmN 3) D cy [.ref (aJ 0), .ref (aLw 0), .int x2] ((jW cy aJ SJ) ++ (lwW cy aLw SLw)) (fun u : Ob => ((jW cy aJ u) ++ (lwW cy aLw SLw))) Q := by
  refine CtI.ofW (by decide) (Nat.le_of_ble_eq_true rfl) ?_
  intro p e s m args below meth c A ls hc hnm hw hl
  have hx := hc.1.1
  have hb := hc.1.2.1
  have hown := hc.1.2.2.2.1
  have hts := hc.1.2.2.2.2
  have hl : lv_has ls 4 [(0, .ref (aJ 0)), (1, .ref (aLw 0)), (2, .int x2)] := hl
  obtain ⟨H, hH⟩ : ∃ z, z = s.heap := ⟨_, rfl⟩
  obtain ⟨locs, hLc⟩ : ∃ z : List Loc, z = [] := ⟨_, rfl⟩
  have hw : wV D A s.heap ((jW cy aJ SJ) ++ (lwW cy aLw SLw)) H locs := by rw [hH, hLc]; exact hw
  have hgo : W p l e (rmN 3) s m args below meth c H locs 0 0 (MQ below (eI D cy A (fun u : Ob => ((jW cy aJ u) ++ (lwW cy aLw SLw))) Q) args s (rmN 3).cells (rmN 3).slots A) (F0 m 0 ls []) := ?hgo
  · rw [hH, hLc] at hgo; exact hgo
  refine lv_aload_n hx hb dX1_isBarred_0 rfl (lv_at hl 1 rfl) ?_
  refine lv_ifnonnull (tgt := 6) hx hb dX1_isBarred_1 (by decide) ?_
  refine lv_aload_n hx hb dX1_isBarred_6 rfl (lv_at hl 0 rfl) ?_
  refine gF (k := 0) hc hw inX1 rfl 0 rfl (by decide) (gm 315 (by decide +kernel) rfl) rfl dX1_isBarred_7 ?_
  refine lv_bipush (v := 7) hx hb dX1_isBarred_10 (by decide) ?_
  refine lv_iload_n hx hb dX1_isBarred_12 rfl (lv_at hl 2 rfl) ?_
  refine sI hc hw 1 rfl (vin (by decide)) (j := 7) (by decide) dX1_isBarred_13 (fun H locs hw => ?_)
  obtain ⟨S1, e_S1⟩ : ∃ z : Ob, z = uA SJ 0 7 x2 := ⟨_, rfl⟩
  have hm := hm S1 e_S1
  have hw : wV D A s.heap ((jW cy aJ S1) ++ (lwW cy aLw SLw)) H locs := by rw [e_S1]; exact hw
  refine lv_iconst (v := 0) hx hb dX1_isBarred_14 (by decide) ?_
  refine lv_istore_n (lv' := [(3, .int 0), (0, .ref (aJ 0)), (1, .ref (aLw 0)), (2, .int x2)]) hx hb dX1_isBarred_15 rfl hl (by decide) rfl (fun ls hl => ?_)
  refine wl2_ind (G := fun (x3_2 : Int32) (S3 : Ob) => ∀ (H : Heap) (locs : List Loc) (ls : Array Slot), wV D A s.heap ((jW cy aJ S3) ++ (lwW cy aLw SLw)) H locs → lv_has ls 4 [(3, .int x3_2), (0, .ref (aJ 0)), (1, .ref (aLw 0))] → W p l e (rmN 3) s m args below meth c H locs 0 0 (MQ below (eI D cy A (fun u : Ob => ((jW cy aJ u) ++ (lwW cy aLw SLw))) Q) args s (rmN 3).cells (rmN 3).slots A) (F0 m 16 ls [])) ?_ _ _ hm H locs ls hw (lv_sub hl [0, 1, 2] rfl)
  intro L4 ih4 x3_2 S3 hm H locs ls hw hl
  refine lv_iload_n hx hb dX1_isBarred_16 rfl (lv_at hl 0 rfl) ?_
  refine lv_aload_n hx hb dX1_isBarred_17 rfl (lv_at hl 2 rfl) ?_
  refine gN (k := 0) (host := "OlderTale") hc hw inX2 rfl 3 rfl (by decide) (nmm 744 (by decide +kernel)) rfl dX1_isBarred_18 ?_
  refine aLen (t0 := 0) (v := (Int32.ofNat (SLw.1 0))) hc hw 4 rfl rfl rfl dX1_isBarred_21 ?_
  refine lv_icmp_ge (tgt := 53) hx hb dX1_isBarred_22 (by decide) (fun c14 => ?_) (fun c14 => ?_)
  · have hm := hm.1 c14
    refine lv_iconst (v := 0) hx hb dX1_isBarred_53 (by decide) ?_
    exact retZ (u := S3) hc hw rfl hm dX1_isBarred_54
  · have hm := hm.2 c14
    refine lv_aload_n hx hb dX1_isBarred_25 rfl (lv_at hl 2 rfl) ?_
    refine lv_iload_n hx hb dX1_isBarred_26 rfl (lv_at hl 0 rfl) ?_
    refine lv_sipush (v := 258) hx hb dX1_isBarred_27 (by decide) ?_
    refine nVN_I (As := [.int x3_2, .int 258]) (rest := []) (wc := (lwW cy aLw SLw)) (wr := (jW cy aJ S3)) (isC := [3, 4, 5, 6, 7]) (isR := [0, 1, 2]) hc hw (c_X2_isOf hm) lk_X1_50 ⟨rfl, rfl, rfl, rfl, by decide⟩ rfl rfl ⟨Nat.le_of_ble_eq_true rfl, Nat.le_of_ble_eq_true rfl⟩ ⟨Nat.le_of_ble_eq_true rfl, Nat.le_of_ble_eq_true rfl⟩ hl.1 rfl (Nat.le_of_ble_eq_true rfl) rfl dX1_isBarred_30 (fun r5 _ H locs hm hw => ?_)
    have hw : wV D A s.heap ((jW cy aJ S3) ++ (lwW cy aLw SLw)) H locs := hw.perm [0, 1, 2, 3, 4, 5, 6, 7] rfl rfl
    refine lv_if_eq (tgt := 47) hx hb dX1_isBarred_33 (by decide) (fun c13 => ?_) (fun c13 => ?_)
    · have hm := hm.1 c13
      obtain ⟨v7, e_v7⟩ : ∃ z : Int32, z = x3_2 + 1 := ⟨_, rfl⟩
      have hm := hm v7 e_v7
      refine lv_iinc (v := v7) (lv' := [(3, .int v7), (0, .ref (aJ 0)), (1, .ref (aLw 0))]) hx hb dX1_isBarred_47 hl (k := 0) rfl (by rw [e_v7]; rfl) (by decide) rfl (fun ls hl => ?_)
      refine lv_goto (tgt := 16) hx hb dX1_isBarred_50 (by decide) ?_
      exact ih4 _ _ hm _ _ _ hw (lv_sub hl [0, 1, 2] rfl)
    · have hm := hm.2 c13
      refine lv_aload_n hx hb dX1_isBarred_36 rfl (lv_at hl 1 rfl) ?_
      refine lv_aload_n hx hb dX1_isBarred_37 rfl (lv_at hl 2 rfl) ?_
      refine lv_iload_n hx hb dX1_isBarred_38 rfl (lv_at hl 0 rfl) ?_
      refine aV_I (As := [.ref (aLw 0), .int x3_2]) (rest := []) hc hw (c_X1_holds hm) lk_X1_54 rfl rfl ⟨Nat.le_of_ble_eq_true rfl, Nat.le_of_ble_eq_true rfl⟩ ⟨Nat.le_of_ble_eq_true rfl, Nat.le_of_ble_eq_true rfl⟩ hl.1 rfl (Nat.le_of_ble_eq_true rfl) rfl dX1_isBarred_39 (fun r8 S9 H locs hm hw => ?_)
      have hw : wV D A s.heap ((jW cy aJ S9) ++ (lwW cy aLw SLw)) H locs := hw
      refine lv_if_eq (tgt := 47) hx hb dX1_isBarred_42 (by decide) (fun c12 => ?_) (fun c12 => ?_)
      · have hm := hm.1 c12
        obtain ⟨v11, e_v11⟩ : ∃ z : Int32, z = x3_2 + 1 := ⟨_, rfl⟩
        have hm := hm v11 e_v11
        refine lv_iinc (v := v11) (lv' := [(3, .int v11), (0, .ref (aJ 0)), (1, .ref (aLw 0))]) hx hb dX1_isBarred_47 hl (k := 0) rfl (by rw [e_v11]; rfl) (by decide) rfl (fun ls hl => ?_)
        refine lv_goto (tgt := 16) hx hb dX1_isBarred_50 (by decide) ?_
        exact ih4 _ _ hm _ _ _ hw (lv_sub hl [0, 1, 2] rfl)
      · have hm := hm.2 c12
        refine lv_iconst (v := 1) hx hb dX1_isBarred_45 (by decide) ?_
        exact retZ (u := S9) hc hw rfl hm dX1_isBarred_46
set_option maxHeartbeats 4000000 in
set_option maxRecDepth 100000 in
theorem c_X1_isBarredN {l : Launch} {D : va_G} {cy : Nat → ClassId} {aJ : Nat → Nat} {SJ : Ob} {x2 : Int32} {Q : Int32 → Prop} (hm : w_X1_isBarredN SJ x2 Q) : CtI l yX1_isBarred cX1_isBarred 4 (some .boolean) (rmN 3) D cy [.ref (aJ 0), .null, .int x2] (jW cy aJ SJ) (fun _ : Unit => (jW cy aJ SJ)) (fun (r : Int32) (_ : Unit) => Q r) := by
  refine CtI.ofW (by decide) (Nat.le_of_ble_eq_true rfl) ?_
  intro p e s m args below meth c A ls hc hnm hw hl
  have hx := hc.1.1
  have hb := hc.1.2.1
  have hown := hc.1.2.2.2.1
  have hts := hc.1.2.2.2.2
  have hl : lv_has ls 4 [(0, .ref (aJ 0)), (1, .null), (2, .int x2)] := hl
  obtain ⟨H, hH⟩ : ∃ z, z = s.heap := ⟨_, rfl⟩
  obtain ⟨locs, hLc⟩ : ∃ z : List Loc, z = [] := ⟨_, rfl⟩
  have hw : wV D A s.heap (jW cy aJ SJ) H locs := by rw [hH, hLc]; exact hw
  have hgo : W p l e (rmN 3) s m args below meth c H locs 0 0 (MQ below (eI D cy A (fun _ : Unit => (jW cy aJ SJ)) (fun (r : Int32) (_ : Unit) => Q r)) args s (rmN 3).cells (rmN 3).slots A) (F0 m 0 ls []) := ?hgo
  · rw [hH, hLc] at hgo; exact hgo
  refine lv_aload_nN hx hb dX1_isBarred_0 rfl (lv_at hl 1 rfl) ?_
  refine lv_ifnonnullN hx hb dX1_isBarred_1 ?_
  refine lv_iconst (v := 0) hx hb dX1_isBarred_4 (by decide) ?_
  exact retZ (u := ()) hc hw rfl hm dX1_isBarred_5
set_option maxHeartbeats 4000000 in
set_option maxRecDepth 100000 in
theorem c_X3_spoil {l : Launch} {D : va_G} {cy : Nat → ClassId} {aP : Nat → Nat} {e_P_judge : Nat} {SP : Ob} {Q : Ob → Prop} (hm : w_X3_spoil SP Q) : CtV l yX3_spoil cX3_spoil 1 none (rmN 0) D cy [.ref (aP 0)] (pW cy aP e_P_judge SP) (fun u : Ob => (pW cy aP e_P_judge u)) Q := by
  refine CtV.ofW (by decide) (Nat.le_of_ble_eq_true rfl) ?_
  intro p e s m args below meth c A ls hc hnm hw hl
  have hx := hc.1.1
  have hb := hc.1.2.1
  have hown := hc.1.2.2.2.1
  have hts := hc.1.2.2.2.2
  have hl : lv_has ls 1 [(0, .ref (aP 0))] := hl
  obtain ⟨H, hH⟩ : ∃ z, z = s.heap := ⟨_, rfl⟩
  obtain ⟨locs, hLc⟩ : ∃ z : List Loc, z = [] := ⟨_, rfl⟩
  have hw : wV D A s.heap (pW cy aP e_P_judge SP) H locs := by rw [hH, hLc]; exact hw
  have hgo : W p l e (rmN 0) s m args below meth c H locs 0 0 (MQ below (eV D cy A (fun u : Ob => (pW cy aP e_P_judge u)) Q) args s (rmN 0).cells (rmN 0).slots A) (F0 m 0 ls []) := ?hgo
  · rw [hH, hLc] at hgo; exact hgo
  refine lv_aload_n hx hb dX3_spoil_0 rfl (lv_at hl 0 rfl) ?_
  refine lv_iconst (v := 0) hx hb dX3_spoil_1 (by decide) ?_
  refine pF (k := 8) (ty := .boolean) hc hw inX3 tyX3_ok nmX3 rfl 0 rfl (by decide) (gm 337 (by decide +kernel) rfl) rfl (by decide +kernel) rfl rfl (Nat.le_of_ble_eq_true rfl) dX3_spoil_2 (fun H locs hw => ?_)
  obtain ⟨S1, e_S1⟩ : ∃ z : Ob, z = uS SP 8 0 := ⟨_, rfl⟩
  have hm := hm S1 e_S1
  have hw : wV D A s.heap (pW cy aP e_P_judge S1) H locs := by rw [e_S1]; exact hw
  refine lv_aload_n hx hb dX3_spoil_5 rfl (lv_at hl 0 rfl) ?_
  refine lv_iconst (v := 0) hx hb dX3_spoil_6 (by decide) ?_
  refine pF (k := 9) (ty := .boolean) hc hw inX3 tyX3_ok nmX3 rfl 0 rfl (by decide) (gm 338 (by decide +kernel) rfl) rfl (by decide +kernel) rfl rfl (Nat.le_of_ble_eq_true rfl) dX3_spoil_7 (fun H locs hw => ?_)
  obtain ⟨S2, e_S2⟩ : ∃ z : Ob, z = uS S1 9 0 := ⟨_, rfl⟩
  have hm := hm S2 e_S2
  have hw : wV D A s.heap (pW cy aP e_P_judge S2) H locs := by rw [e_S2]; exact hw
  refine lv_aload_n hx hb dX3_spoil_10 rfl (lv_at hl 0 rfl) ?_
  refine lv_iconst (v := 0) hx hb dX3_spoil_11 (by decide) ?_
  refine pF (k := 17) (ty := .int) hc hw inX3 tyX3_ok nmX3 rfl 0 rfl (by decide) (gm 351 (by decide +kernel) rfl) rfl (by decide +kernel) rfl rfl (Nat.le_of_ble_eq_true rfl) dX3_spoil_12 (fun H locs hw => ?_)
  obtain ⟨S3, e_S3⟩ : ∃ z : Ob, z = uS S2 17 0 := ⟨_, rfl⟩
  have hm := hm S3 e_S3
  have hw : wV D A s.heap (pW cy aP e_P_judge S3) H locs := by rw [e_S3]; exact hw
  exact retV (u := S3) hc hw hm dX3_spoil_15
set_option maxHeartbeats 4000000 in
set_option maxRecDepth 100000 in
theorem c_X3_yearNeeded {l : Launch} {D : va_G} {cy : Nat → ClassId} {aP : Nat → Nat} {e_P_judge : Nat} {SP : Ob} {x1 : Int32} {x2 : Int32} {Q : Int32 → Prop} (hm : w_X3_yearNeeded SP x1 x2 Q) : CtI l yX3_yearNeeded cX3_yearNeeded 3 (some .int) (rmN 0) D cy [.ref (aP 0), .int x1, .int x2] (pW cy aP e_P_judge SP) (fun _ : Unit => (pW cy aP e_P_judge SP)) (fun (r : Int32) (_ : Unit) => Q r) := by
  refine CtI.ofW (by decide) (Nat.le_of_ble_eq_true rfl) ?_
  intro p e s m args below meth c A ls hc hnm hw hl
  have hx := hc.1.1
  have hb := hc.1.2.1
  have hown := hc.1.2.2.2.1
  have hts := hc.1.2.2.2.2
  have hl : lv_has ls 3 [(0, .ref (aP 0)), (1, .int x1), (2, .int x2)] := hl
  obtain ⟨H, hH⟩ : ∃ z, z = s.heap := ⟨_, rfl⟩
  obtain ⟨locs, hLc⟩ : ∃ z : List Loc, z = [] := ⟨_, rfl⟩
  have hw : wV D A s.heap (pW cy aP e_P_judge SP) H locs := by rw [hH, hLc]; exact hw
  have hgo : W p l e (rmN 0) s m args below meth c H locs 0 0 (MQ below (eI D cy A (fun _ : Unit => (pW cy aP e_P_judge SP)) (fun (r : Int32) (_ : Unit) => Q r)) args s (rmN 0).cells (rmN 0).slots A) (F0 m 0 ls []) := ?hgo
  · rw [hH, hLc] at hgo; exact hgo
  refine lv_aload_n hx hb dX3_yearNeeded_0 rfl (lv_at hl 0 rfl) ?_
  refine gF (k := 12) hc hw inX3 rfl 0 rfl (by decide) (gm 344 (by decide +kernel) rfl) rfl dX3_yearNeeded_1 ?_
  refine lv_iload_n hx hb dX3_yearNeeded_4 rfl (lv_at hl 1 rfl) ?_
  obtain ⟨c1, hm⟩ := hm
  refine aI hc hw 8 rfl c1 rfl dX3_yearNeeded_5 ?_
  refine lv_iload_n hx hb dX3_yearNeeded_6 rfl (lv_at hl 2 rfl) ?_
  refine lv_icmp_ne (tgt := 19) hx hb dX3_yearNeeded_7 (by decide) (fun c4 => ?_) (fun c4 => ?_)
  · have hm := hm.1 c4
    refine lv_aload_n hx hb dX3_yearNeeded_19 rfl (lv_at hl 0 rfl) ?_
    refine gF (k := 11) hc hw inX3 rfl 0 rfl (by decide) (gm 342 (by decide +kernel) rfl) rfl dX3_yearNeeded_20 ?_
    refine lv_iload_n hx hb dX3_yearNeeded_23 rfl (lv_at hl 1 rfl) ?_
    obtain ⟨c2, hm⟩ := hm
    refine aI hc hw 7 rfl c2 rfl dX3_yearNeeded_24 ?_
    exact retI (u := ()) hc hw hm dX3_yearNeeded_25
  · have hm := hm.2 c4
    refine lv_aload_n hx hb dX3_yearNeeded_10 rfl (lv_at hl 0 rfl) ?_
    refine gF (k := 13) hc hw inX3 rfl 0 rfl (by decide) (gm 345 (by decide +kernel) rfl) rfl dX3_yearNeeded_11 ?_
    refine lv_iload_n hx hb dX3_yearNeeded_14 rfl (lv_at hl 1 rfl) ?_
    obtain ⟨c3, hm⟩ := hm
    refine aI hc hw 9 rfl c3 rfl dX3_yearNeeded_15 ?_
    refine lv_goto (tgt := 25) hx hb dX3_yearNeeded_16 (by decide) ?_
    exact retI (u := ()) hc hw hm dX3_yearNeeded_25
set_option maxHeartbeats 4000000 in
set_option maxRecDepth 100000 in
theorem c_X3_yearAhead {l : Launch} {D : va_G} {cy : Nat → ClassId} {aP : Nat → Nat} {e_P_judge : Nat} {SP : Ob} {x1 : Int32} {x2 : Int32} {Q : Int32 → Prop} (hm : w_X3_yearAhead SP x1 x2 Q) : CtI l yX3_yearAhead cX3_yearAhead 4 (some .int) (rmN 2) D cy [.ref (aP 0), .int x1, .int x2] (pW cy aP e_P_judge SP) (fun _ : Unit => (pW cy aP e_P_judge SP)) (fun (r : Int32) (_ : Unit) => Q r) := by
  refine CtI.ofW (by decide) (Nat.le_of_ble_eq_true rfl) ?_
  intro p e s m args below meth c A ls hc hnm hw hl
  have hx := hc.1.1
  have hb := hc.1.2.1
  have hown := hc.1.2.2.2.1
  have hts := hc.1.2.2.2.2
  have hl : lv_has ls 4 [(0, .ref (aP 0)), (1, .int x1), (2, .int x2)] := hl
  obtain ⟨H, hH⟩ : ∃ z, z = s.heap := ⟨_, rfl⟩
  obtain ⟨locs, hLc⟩ : ∃ z : List Loc, z = [] := ⟨_, rfl⟩
  have hw : wV D A s.heap (pW cy aP e_P_judge SP) H locs := by rw [hH, hLc]; exact hw
  have hgo : W p l e (rmN 2) s m args below meth c H locs 0 0 (MQ below (eI D cy A (fun _ : Unit => (pW cy aP e_P_judge SP)) (fun (r : Int32) (_ : Unit) => Q r)) args s (rmN 2).cells (rmN 2).slots A) (F0 m 0 ls []) := ?hgo
  · rw [hH, hLc] at hgo; exact hgo
  refine lv_aload_n hx hb dX3_yearAhead_0 rfl (lv_at hl 0 rfl) ?_
  refine gF (k := 1) hc hw inX3 rfl 0 rfl (by decide) (gm 326 (by decide +kernel) rfl) rfl dX3_yearAhead_1 ?_
  refine lv_iload_n hx hb dX3_yearAhead_4 rfl (lv_at hl 1 rfl) ?_
  obtain ⟨c1, hm⟩ := hm
  refine aI hc hw 1 rfl c1 rfl dX3_yearAhead_5 ?_
  refine lv_iload_n hx hb dX3_yearAhead_6 rfl (lv_at hl 2 rfl) ?_
  refine m_max (rest := []) hc hl.1 (gm 850 (by decide +kernel) rfl) (Nat.le_of_ble_eq_true rfl) (Nat.le_of_ble_eq_true rfl) (Nat.le_of_ble_eq_true rfl) (Nat.le_of_ble_eq_true rfl) dX3_yearAhead_7 ?_
  refine lv_topi (fun v2 e_v2 => ?_)
  have hm := hm v2 e_v2
  refine lv_istore_n (lv' := [(3, .int v2), (0, .ref (aP 0)), (1, .int x1), (2, .int x2)]) hx hb dX3_yearAhead_10 rfl hl (by decide) rfl (fun ls hl => ?_)
  refine lv_iload_n hx hb dX3_yearAhead_11 rfl (lv_at hl 0 rfl) ?_
  refine lv_aload_n hx hb dX3_yearAhead_12 rfl (lv_at hl 1 rfl) ?_
  refine gF (k := 2) hc hw inX3 rfl 0 rfl (by decide) (gm 327 (by decide +kernel) rfl) rfl dX3_yearAhead_13 ?_
  refine lv_iload_n hx hb dX3_yearAhead_16 rfl (lv_at hl 2 rfl) ?_
  obtain ⟨c3, hm⟩ := hm
  refine aI hc hw 2 rfl c3 rfl dX3_yearAhead_17 ?_
  refine lv_icmp_le (tgt := 26) hx hb dX3_yearAhead_18 (by decide) (fun c5 => ?_) (fun c5 => ?_)
  · have hm := hm.1 c5
    refine lv_iload_n hx hb dX3_yearAhead_26 rfl (lv_at hl 0 rfl) ?_
    refine lv_aload_n hx hb dX3_yearAhead_27 rfl (lv_at hl 1 rfl) ?_
    refine gF (k := 4) hc hw inX3 rfl 0 rfl (by decide) (gm 330 (by decide +kernel) rfl) rfl dX3_yearAhead_28 ?_
    refine lv_iload_n hx hb dX3_yearAhead_31 rfl (lv_at hl 2 rfl) ?_
    obtain ⟨c4, hm⟩ := hm
    refine aI hc hw 4 rfl c4 rfl dX3_yearAhead_32 ?_
    refine lv_iadd hx hb dX3_yearAhead_33 ?_
    exact retI (u := ()) hc hw hm dX3_yearAhead_34
  · have hm := hm.2 c5
    refine lv_ldc (v := 100000) hx hb hown (hts _ (gm 841 (by decide +kernel) rfl)) dX3_yearAhead_21 ?_
    refine lv_goto (tgt := 34) hx hb dX3_yearAhead_23 (by decide) ?_
    exact retI (u := ()) hc hw hm dX3_yearAhead_34
set_option maxHeartbeats 4000000 in
set_option maxRecDepth 100000 in
theorem c_X3_fits {l : Launch} {D : va_G} {cy : Nat → ClassId} {aP : Nat → Nat} {e_P_judge : Nat} {SP : Ob} {x1 : Int32} {x2 : Int32} {x3 : Int32} {Q : Int32 → Prop} (hm : w_X3_fits SP x1 x2 x3 Q) : CtI l yX3_fits cX3_fits 4 (some .boolean) (rmN 1) D cy [.ref (aP 0), .int x1, .int x2, .int x3] (pW cy aP e_P_judge SP) (fun _ : Unit => (pW cy aP e_P_judge SP)) (fun (r : Int32) (_ : Unit) => Q r) := by
  refine CtI.ofW (by decide) (Nat.le_of_ble_eq_true rfl) ?_
  intro p e s m args below meth c A ls hc hnm hw hl
  have hx := hc.1.1
  have hb := hc.1.2.1
  have hown := hc.1.2.2.2.1
  have hts := hc.1.2.2.2.2
  have hl : lv_has ls 4 [(0, .ref (aP 0)), (1, .int x1), (2, .int x2), (3, .int x3)] := hl
  obtain ⟨H, hH⟩ : ∃ z, z = s.heap := ⟨_, rfl⟩
  obtain ⟨locs, hLc⟩ : ∃ z : List Loc, z = [] := ⟨_, rfl⟩
  have hw : wV D A s.heap (pW cy aP e_P_judge SP) H locs := by rw [hH, hLc]; exact hw
  have hgo : W p l e (rmN 1) s m args below meth c H locs 0 0 (MQ below (eI D cy A (fun _ : Unit => (pW cy aP e_P_judge SP)) (fun (r : Int32) (_ : Unit) => Q r)) args s (rmN 1).cells (rmN 1).slots A) (F0 m 0 ls []) := ?hgo
  · rw [hH, hLc] at hgo; exact hgo
  refine lv_iload_n hx hb dX3_fits_0 rfl (lv_at hl 1 rfl) ?_
  refine lv_if_lt (tgt := 28) hx hb dX3_fits_1 (by decide) (fun c5 => ?_) (fun c5 => ?_)
  · have hm := hm.1 c5
    refine lv_iconst (v := 0) hx hb dX3_fits_28 (by decide) ?_
    exact retZ (u := ()) hc hw rfl hm dX3_fits_29
  · have hm := hm.2 c5
    refine lv_iload_n hx hb dX3_fits_4 rfl (lv_at hl 1 rfl) ?_
    refine lv_iconst (v := 1) hx hb dX3_fits_5 (by decide) ?_
    refine lv_aload_n hx hb dX3_fits_6 rfl (lv_at hl 0 rfl) ?_
    refine gF (k := 6) hc hw inX3 rfl 0 rfl (by decide) (gm 334 (by decide +kernel) rfl) rfl dX3_fits_7 ?_
    refine lv_ishl hx hb dX3_fits_10 ?_
    refine lv_icmp_ge (tgt := 28) hx hb dX3_fits_11 (by decide) (fun c4 => ?_) (fun c4 => ?_)
    · have hm := hm.1 c4
      refine lv_iconst (v := 0) hx hb dX3_fits_28 (by decide) ?_
      exact retZ (u := ()) hc hw rfl hm dX3_fits_29
    · have hm := hm.2 c4
      refine lv_aload_n hx hb dX3_fits_14 rfl (lv_at hl 0 rfl) ?_
      refine lv_iload_n hx hb dX3_fits_15 rfl (lv_at hl 1 rfl) ?_
      refine lv_iload_n hx hb dX3_fits_16 rfl (lv_at hl 3 rfl) ?_
      refine aV_I (As := [.int x1, .int x3]) (rest := []) hc hw (c_X3_yearNeeded hm) lk_X3_111 rfl rfl ⟨Nat.le_of_ble_eq_true rfl, Nat.le_of_ble_eq_true rfl⟩ ⟨Nat.le_of_ble_eq_true rfl, Nat.le_of_ble_eq_true rfl⟩ hl.1 rfl (Nat.le_of_ble_eq_true rfl) rfl dX3_fits_17 (fun r1 _ H locs hm hw => ?_)
      have hw : wV D A s.heap (pW cy aP e_P_judge SP) H locs := hw
      refine lv_iload_n hx hb dX3_fits_20 rfl (lv_at hl 2 rfl) ?_
      refine lv_icmp_gt (tgt := 28) hx hb dX3_fits_21 (by decide) (fun c3 => ?_) (fun c3 => ?_)
      · have hm := hm.1 c3
        refine lv_iconst (v := 0) hx hb dX3_fits_28 (by decide) ?_
        exact retZ (u := ()) hc hw rfl hm dX3_fits_29
      · have hm := hm.2 c3
        refine lv_iconst (v := 1) hx hb dX3_fits_24 (by decide) ?_
        refine lv_goto (tgt := 29) hx hb dX3_fits_25 (by decide) ?_
        exact retZ (u := ()) hc hw rfl hm dX3_fits_29
set_option maxHeartbeats 4000000 in
set_option maxRecDepth 100000 in
theorem c_X3_yearOf {l : Launch} {D : va_G} {cy : Nat → ClassId} {aP : Nat → Nat} {e_P_judge : Nat} {SP : Ob} {x1 : Int32} {x2 : Int32} {Q : Int32 → Prop} (hm : w_X3_yearOf SP x1 x2 Q) : CtI l yX3_yearOf cX3_yearOf 4 (some .int) (rmN 2) D cy [.ref (aP 0), .int x1, .int x2] (pW cy aP e_P_judge SP) (fun _ : Unit => (pW cy aP e_P_judge SP)) (fun (r : Int32) (_ : Unit) => Q r) := by
  refine CtI.ofW (by decide) (Nat.le_of_ble_eq_true rfl) ?_
  intro p e s m args below meth c A ls hc hnm hw hl
  have hx := hc.1.1
  have hb := hc.1.2.1
  have hown := hc.1.2.2.2.1
  have hts := hc.1.2.2.2.2
  have hl : lv_has ls 4 [(0, .ref (aP 0)), (1, .int x1), (2, .int x2)] := hl
  obtain ⟨H, hH⟩ : ∃ z, z = s.heap := ⟨_, rfl⟩
  obtain ⟨locs, hLc⟩ : ∃ z : List Loc, z = [] := ⟨_, rfl⟩
  have hw : wV D A s.heap (pW cy aP e_P_judge SP) H locs := by rw [hH, hLc]; exact hw
  have hgo : W p l e (rmN 2) s m args below meth c H locs 0 0 (MQ below (eI D cy A (fun _ : Unit => (pW cy aP e_P_judge SP)) (fun (r : Int32) (_ : Unit) => Q r)) args s (rmN 2).cells (rmN 2).slots A) (F0 m 0 ls []) := ?hgo
  · rw [hH, hLc] at hgo; exact hgo
  refine lv_aload_n hx hb dX3_yearOf_0 rfl (lv_at hl 0 rfl) ?_
  refine gF (k := 2) hc hw inX3 rfl 0 rfl (by decide) (gm 327 (by decide +kernel) rfl) rfl dX3_yearOf_1 ?_
  refine lv_iload_n hx hb dX3_yearOf_4 rfl (lv_at hl 1 rfl) ?_
  obtain ⟨c1, hm⟩ := hm
  refine aI hc hw 2 rfl c1 rfl dX3_yearOf_5 ?_
  refine lv_iload_n hx hb dX3_yearOf_6 rfl (lv_at hl 2 rfl) ?_
  refine lv_aload_n hx hb dX3_yearOf_7 rfl (lv_at hl 0 rfl) ?_
  refine gF (k := 4) hc hw inX3 rfl 0 rfl (by decide) (gm 330 (by decide +kernel) rfl) rfl dX3_yearOf_8 ?_
  refine lv_iload_n hx hb dX3_yearOf_11 rfl (lv_at hl 1 rfl) ?_
  obtain ⟨c2, hm⟩ := hm
  refine aI hc hw 4 rfl c2 rfl dX3_yearOf_12 ?_
  refine lv_isub hx hb dX3_yearOf_13 ?_
  refine m_min (rest := []) hc hl.1 (gm 781 (by decide +kernel) rfl) (Nat.le_of_ble_eq_true rfl) (Nat.le_of_ble_eq_true rfl) (Nat.le_of_ble_eq_true rfl) (Nat.le_of_ble_eq_true rfl) dX3_yearOf_14 ?_
  refine lv_topi (fun v3 e_v3 => ?_)
  have hm := hm v3 e_v3
  refine lv_istore_n (lv' := [(3, .int v3), (0, .ref (aP 0)), (1, .int x1), (2, .int x2)]) hx hb dX3_yearOf_17 rfl hl (by decide) rfl (fun ls hl => ?_)
  refine lv_iload_n hx hb dX3_yearOf_18 rfl (lv_at hl 0 rfl) ?_
  refine lv_aload_n hx hb dX3_yearOf_19 rfl (lv_at hl 1 rfl) ?_
  refine gF (k := 1) hc hw inX3 rfl 0 rfl (by decide) (gm 326 (by decide +kernel) rfl) rfl dX3_yearOf_20 ?_
  refine lv_iload_n hx hb dX3_yearOf_23 rfl (lv_at hl 2 rfl) ?_
  obtain ⟨c4, hm⟩ := hm
  refine aI hc hw 1 rfl c4 rfl dX3_yearOf_24 ?_
  refine lv_icmp_ge (tgt := 32) hx hb dX3_yearOf_25 (by decide) (fun c5 => ?_) (fun c5 => ?_)
  · have hm := hm.1 c5
    refine lv_iload_n hx hb dX3_yearOf_32 rfl (lv_at hl 0 rfl) ?_
    exact retI (u := ()) hc hw hm dX3_yearOf_33
  · have hm := hm.2 c5
    refine lv_iconst (v := (-1)) hx hb dX3_yearOf_28 (by decide) ?_
    refine lv_goto (tgt := 33) hx hb dX3_yearOf_29 (by decide) ?_
    exact retI (u := ()) hc hw hm dX3_yearOf_33
set_option maxHeartbeats 4000000 in
set_option maxRecDepth 100000 in
theorem c_X3_followers {l : Launch} {D : va_G} {cy : Nat → ClassId} {aP : Nat → Nat} {e_P_judge : Nat} {SP : Ob} {x1 : Int32} {x2 : Int32} {Q : Int32 → Prop} (hm : w_X3_followers SP x1 x2 Q) : CtI l yX3_followers cX3_followers 3 (some .int) (rmN 1) D cy [.ref (aP 0), .int x1, .int x2] (pW cy aP e_P_judge SP) (fun _ : Unit => (pW cy aP e_P_judge SP)) (fun (r : Int32) (_ : Unit) => Q r) := by
  refine CtI.ofW (by decide) (Nat.le_of_ble_eq_true rfl) ?_
  intro p e s m args below meth c A ls hc hnm hw hl
  have hx := hc.1.1
  have hb := hc.1.2.1
  have hown := hc.1.2.2.2.1
  have hts := hc.1.2.2.2.2
  have hl : lv_has ls 3 [(0, .ref (aP 0)), (1, .int x1), (2, .int x2)] := hl
  obtain ⟨H, hH⟩ : ∃ z, z = s.heap := ⟨_, rfl⟩
  obtain ⟨locs, hLc⟩ : ∃ z : List Loc, z = [] := ⟨_, rfl⟩
  have hw : wV D A s.heap (pW cy aP e_P_judge SP) H locs := by rw [hH, hLc]; exact hw
  have hgo : W p l e (rmN 1) s m args below meth c H locs 0 0 (MQ below (eI D cy A (fun _ : Unit => (pW cy aP e_P_judge SP)) (fun (r : Int32) (_ : Unit) => Q r)) args s (rmN 1).cells (rmN 1).slots A) (F0 m 0 ls []) := ?hgo
  · rw [hH, hLc] at hgo; exact hgo
  refine lv_aload_n hx hb dX3_followers_0 rfl (lv_at hl 0 rfl) ?_
  refine gF (k := 7) hc hw inX3 rfl 0 rfl (by decide) (gm 336 (by decide +kernel) rfl) rfl dX3_followers_1 ?_
  refine lv_if_ne (tgt := 15) hx hb dX3_followers_4 (by decide) (fun c7 => ?_) (fun c7 => ?_)
  · have hm := hm.1 c7
    refine lv_aload_n hx hb dX3_followers_15 rfl (lv_at hl 0 rfl) ?_
    refine gF (k := 5) hc hw inX3 rfl 0 rfl (by decide) (gm 332 (by decide +kernel) rfl) rfl dX3_followers_16 ?_
    refine lv_iload_n hx hb dX3_followers_19 rfl (lv_at hl 1 rfl) ?_
    obtain ⟨c1, hm⟩ := hm
    refine aI hc hw 5 rfl c1 rfl dX3_followers_20 ?_
    exact retI (u := ()) hc hw hm dX3_followers_21
  · have hm := hm.2 c7
    refine lv_iload_n hx hb dX3_followers_7 rfl (lv_at hl 2 rfl) ?_
    refine zS_I (As := [.int x2]) (rest := []) hc hw (c_J6_bitCount_0f7a4 hm) lk_X3_126 ⟨Nat.le_of_ble_eq_true rfl, Nat.le_of_ble_eq_true rfl⟩ ⟨Nat.le_of_ble_eq_true rfl, Nat.le_of_ble_eq_true rfl⟩ hl.1 rfl (Nat.le_of_ble_eq_true rfl) rfl dX3_followers_8 (fun r2 H locs hm hw => ?_)
    refine lv_iconst (v := 1) hx hb dX3_followers_11 (by decide) ?_
    refine lv_icmp_le (tgt := 22) hx hb dX3_followers_12 (by decide) (fun c6 => ?_) (fun c6 => ?_)
    · have hm := hm.1 c6
      refine lv_aload_n hx hb dX3_followers_22 rfl (lv_at hl 0 rfl) ?_
      refine gF (k := 5) hc hw inX3 rfl 0 rfl (by decide) (gm 332 (by decide +kernel) rfl) rfl dX3_followers_23 ?_
      refine lv_iload_n hx hb dX3_followers_26 rfl (lv_at hl 1 rfl) ?_
      obtain ⟨c4, hm⟩ := hm
      refine aI hc hw 5 rfl c4 rfl dX3_followers_27 ?_
      refine lv_iload_n hx hb dX3_followers_28 rfl (lv_at hl 2 rfl) ?_
      refine lv_iconst (v := (-1)) hx hb dX3_followers_29 (by decide) ?_
      refine lv_ixor hx hb dX3_followers_30 ?_
      refine lv_iand hx hb dX3_followers_31 ?_
      exact retI (u := ()) hc hw hm dX3_followers_32
    · have hm := hm.2 c6
      refine lv_aload_n hx hb dX3_followers_15 rfl (lv_at hl 0 rfl) ?_
      refine gF (k := 5) hc hw inX3 rfl 0 rfl (by decide) (gm 332 (by decide +kernel) rfl) rfl dX3_followers_16 ?_
      refine lv_iload_n hx hb dX3_followers_19 rfl (lv_at hl 1 rfl) ?_
      obtain ⟨c5, hm⟩ := hm
      refine aI hc hw 5 rfl c5 rfl dX3_followers_20 ?_
      exact retI (u := ()) hc hw hm dX3_followers_21
set_option maxHeartbeats 4000000 in
set_option maxRecDepth 100000 in
theorem c_X3_leaders {l : Launch} {D : va_G} {cy : Nat → ClassId} {aP : Nat → Nat} {e_P_judge : Nat} {SP : Ob} {x1 : Int32} {x2 : Int32} {Q : Int32 → Prop} (hm : w_X3_leaders SP x1 x2 Q) : CtI l yX3_leaders cX3_leaders 3 (some .int) (rmN 1) D cy [.ref (aP 0), .int x1, .int x2] (pW cy aP e_P_judge SP) (fun _ : Unit => (pW cy aP e_P_judge SP)) (fun (r : Int32) (_ : Unit) => Q r) := by
  refine CtI.ofW (by decide) (Nat.le_of_ble_eq_true rfl) ?_
  intro p e s m args below meth c A ls hc hnm hw hl
  have hx := hc.1.1
  have hb := hc.1.2.1
  have hown := hc.1.2.2.2.1
  have hts := hc.1.2.2.2.2
  have hl : lv_has ls 3 [(0, .ref (aP 0)), (1, .int x1), (2, .int x2)] := hl
  obtain ⟨H, hH⟩ : ∃ z, z = s.heap := ⟨_, rfl⟩
  obtain ⟨locs, hLc⟩ : ∃ z : List Loc, z = [] := ⟨_, rfl⟩
  have hw : wV D A s.heap (pW cy aP e_P_judge SP) H locs := by rw [hH, hLc]; exact hw
  have hgo : W p l e (rmN 1) s m args below meth c H locs 0 0 (MQ below (eI D cy A (fun _ : Unit => (pW cy aP e_P_judge SP)) (fun (r : Int32) (_ : Unit) => Q r)) args s (rmN 1).cells (rmN 1).slots A) (F0 m 0 ls []) := ?hgo
  · rw [hH, hLc] at hgo; exact hgo
  refine lv_aload_n hx hb dX3_leaders_0 rfl (lv_at hl 0 rfl) ?_
  refine gF (k := 7) hc hw inX3 rfl 0 rfl (by decide) (gm 336 (by decide +kernel) rfl) rfl dX3_leaders_1 ?_
  refine lv_if_ne (tgt := 15) hx hb dX3_leaders_4 (by decide) (fun c7 => ?_) (fun c7 => ?_)
  · have hm := hm.1 c7
    refine lv_aload_n hx hb dX3_leaders_15 rfl (lv_at hl 0 rfl) ?_
    refine gF (k := 5) hc hw inX3 rfl 0 rfl (by decide) (gm 332 (by decide +kernel) rfl) rfl dX3_leaders_16 ?_
    refine lv_iload_n hx hb dX3_leaders_19 rfl (lv_at hl 1 rfl) ?_
    obtain ⟨c1, hm⟩ := hm
    refine aI hc hw 5 rfl c1 rfl dX3_leaders_20 ?_
    exact retI (u := ()) hc hw hm dX3_leaders_21
  · have hm := hm.2 c7
    refine lv_iload_n hx hb dX3_leaders_7 rfl (lv_at hl 2 rfl) ?_
    refine zS_I (As := [.int x2]) (rest := []) hc hw (c_J6_bitCount_0f7a4 hm) lk_X3_126 ⟨Nat.le_of_ble_eq_true rfl, Nat.le_of_ble_eq_true rfl⟩ ⟨Nat.le_of_ble_eq_true rfl, Nat.le_of_ble_eq_true rfl⟩ hl.1 rfl (Nat.le_of_ble_eq_true rfl) rfl dX3_leaders_8 (fun r2 H locs hm hw => ?_)
    refine lv_iconst (v := 1) hx hb dX3_leaders_11 (by decide) ?_
    refine lv_icmp_le (tgt := 22) hx hb dX3_leaders_12 (by decide) (fun c6 => ?_) (fun c6 => ?_)
    · have hm := hm.1 c6
      refine lv_aload_n hx hb dX3_leaders_22 rfl (lv_at hl 0 rfl) ?_
      refine gF (k := 5) hc hw inX3 rfl 0 rfl (by decide) (gm 332 (by decide +kernel) rfl) rfl dX3_leaders_23 ?_
      refine lv_iload_n hx hb dX3_leaders_26 rfl (lv_at hl 1 rfl) ?_
      obtain ⟨c4, hm⟩ := hm
      refine aI hc hw 5 rfl c4 rfl dX3_leaders_27 ?_
      refine lv_iload_n hx hb dX3_leaders_28 rfl (lv_at hl 2 rfl) ?_
      refine lv_iconst (v := (-1)) hx hb dX3_leaders_29 (by decide) ?_
      refine lv_ixor hx hb dX3_leaders_30 ?_
      refine lv_iand hx hb dX3_leaders_31 ?_
      exact retI (u := ()) hc hw hm dX3_leaders_32
    · have hm := hm.2 c6
      refine lv_aload_n hx hb dX3_leaders_15 rfl (lv_at hl 0 rfl) ?_
      refine gF (k := 5) hc hw inX3 rfl 0 rfl (by decide) (gm 332 (by decide +kernel) rfl) rfl dX3_leaders_16 ?_
      refine lv_iload_n hx hb dX3_leaders_19 rfl (lv_at hl 1 rfl) ?_
      obtain ⟨c5, hm⟩ := hm
      refine aI hc hw 5 rfl c5 rfl dX3_leaders_20 ?_
      exact retI (u := ()) hc hw hm dX3_leaders_21
set_option maxHeartbeats 4000000 in
set_option maxRecDepth 100000 in
theorem c_X3_lowestBit {l : Launch} {D : va_G} {cy : Nat → ClassId} {x0 : Int32} {Q : Int32 → Prop} (hm : w_X3_lowestBit x0 Q) : CtI l yX3_lowestBit cX3_lowestBit 2 (some .int) (rmN 0) D cy [.int x0] ([] : va_W) (fun _ : Unit => ([] : va_W)) (fun (r : Int32) (_ : Unit) => Q r) := by
  refine CtI.ofW (by decide) (Nat.le_of_ble_eq_true rfl) ?_
  intro p e s m args below meth c A ls hc hnm hw hl
  have hx := hc.1.1
  have hb := hc.1.2.1
  have hown := hc.1.2.2.2.1
  have hts := hc.1.2.2.2.2
  have hl : lv_has ls 2 [(0, .int x0)] := hl
  obtain ⟨H, hH⟩ : ∃ z, z = s.heap := ⟨_, rfl⟩
  obtain ⟨locs, hLc⟩ : ∃ z : List Loc, z = [] := ⟨_, rfl⟩
  have hw : wV D A s.heap ([] : va_W) H locs := by rw [hH, hLc]; exact hw
  have hgo : W p l e (rmN 0) s m args below meth c H locs 0 0 (MQ below (eI D cy A (fun _ : Unit => ([] : va_W)) (fun (r : Int32) (_ : Unit) => Q r)) args s (rmN 0).cells (rmN 0).slots A) (F0 m 0 ls []) := ?hgo
  · rw [hH, hLc] at hgo; exact hgo
  refine lv_iconst (v := 0) hx hb dX3_lowestBit_0 (by decide) ?_
  refine lv_istore_n (lv' := [(1, .int 0), (0, .int x0)]) hx hb dX3_lowestBit_1 rfl hl (by decide) rfl (fun ls hl => ?_)
  refine wl1_ind (G := fun (x1_1 : Int32) => ∀ (H : Heap) (locs : List Loc) (ls : Array Slot), wV D A s.heap ([] : va_W) H locs → lv_has ls 2 [(1, .int x1_1), (0, .int x0)] → W p l e (rmN 0) s m args below meth c H locs 0 0 (MQ below (eI D cy A (fun _ : Unit => ([] : va_W)) (fun (r : Int32) (_ : Unit) => Q r)) args s (rmN 0).cells (rmN 0).slots A) (F0 m 2 ls [])) ?_ _ hm H locs ls hw (lv_sub hl [0, 1] rfl)
  intro L2 ih2 x1_1 hm H locs ls hw hl
  refine lv_iload_n hx hb dX3_lowestBit_2 rfl (lv_at hl 0 rfl) ?_
  refine lv_iconst (v := 4) hx hb dX3_lowestBit_3 (by decide) ?_
  refine lv_icmp_ge (tgt := 23) hx hb dX3_lowestBit_4 (by decide) (fun c5 => ?_) (fun c5 => ?_)
  · have hm := hm.1 c5
    refine lv_iconst (v := 4) hx hb dX3_lowestBit_23 (by decide) ?_
    exact retI (u := ()) hc hw hm dX3_lowestBit_24
  · have hm := hm.2 c5
    refine lv_iload_n hx hb dX3_lowestBit_7 rfl (lv_at hl 1 rfl) ?_
    refine lv_iload_n hx hb dX3_lowestBit_8 rfl (lv_at hl 0 rfl) ?_
    refine lv_ishr hx hb dX3_lowestBit_9 ?_
    refine lv_iconst (v := 1) hx hb dX3_lowestBit_10 (by decide) ?_
    refine lv_iand hx hb dX3_lowestBit_11 ?_
    refine lv_if_eq (tgt := 17) hx hb dX3_lowestBit_12 (by decide) (fun c4 => ?_) (fun c4 => ?_)
    · have hm := hm.1 c4
      obtain ⟨v3, e_v3⟩ : ∃ z : Int32, z = x1_1 + 1 := ⟨_, rfl⟩
      have hm := hm v3 e_v3
      refine lv_iinc (v := v3) (lv' := [(1, .int v3), (0, .int x0)]) hx hb dX3_lowestBit_17 hl (k := 0) rfl (by rw [e_v3]; rfl) (by decide) rfl (fun ls hl => ?_)
      refine lv_goto (tgt := 2) hx hb dX3_lowestBit_20 (by decide) ?_
      exact ih2 _ hm _ _ _ hw (lv_sub hl [0, 1] rfl)
    · have hm := hm.2 c4
      refine lv_iload_n hx hb dX3_lowestBit_15 rfl (lv_at hl 0 rfl) ?_
      exact retI (u := ()) hc hw hm dX3_lowestBit_16
set_option maxHeartbeats 4000000 in
set_option maxRecDepth 100000 in
theorem c_X3_weigh {l : Launch} {D : va_G} {cy : Nat → ClassId} {aP : Nat → Nat} {aJ : Nat → Nat} {aB : Nat → Nat} {als : Nat → Nat} {aLw : Nat → Nat} {e_B_told : Nat} {e_B_mentions : Nat} {e_B_claims : Nat} {SP : Ob} {SJ : Ob} {SB : Ob} {Sls : (Nat → Option Nat)} {SLw : Lw} {Q : Ob → Ob → Prop} (hm : w_X3_weigh aLw SP SJ SB Sls SLw Q) : CtV l yX3_weigh cX3_weigh 5 none (rmN 4) D cy [.ref (aP 0), .ref (aB 0)] ((pW cy aP (aJ 0) SP) ++ ((jW cy aJ SJ) ++ ((bW cy aB (als 0) e_B_told e_B_mentions e_B_claims SB) ++ ((lsW cy als Sls) ++ (lwW cy aLw SLw))))) (fun u : Ob × Ob => ((pW cy aP (aJ 0) u.1) ++ ((jW cy aJ u.2) ++ ((bW cy aB (als 0) e_B_told e_B_mentions e_B_claims SB) ++ ((lsW cy als Sls) ++ (lwW cy aLw SLw)))))) (fun (u : Ob × Ob) => Q u.1 u.2) := by
  refine CtV.ofW (by decide) (Nat.le_of_ble_eq_true rfl) ?_
  intro p e s m args below meth c A ls hc hnm hw hl
  have hx := hc.1.1
  have hb := hc.1.2.1
  have hown := hc.1.2.2.2.1
  have hts := hc.1.2.2.2.2
  have hl : lv_has ls 5 [(0, .ref (aP 0)), (1, .ref (aB 0))] := hl
  obtain ⟨H, hH⟩ : ∃ z, z = s.heap := ⟨_, rfl⟩
  obtain ⟨locs, hLc⟩ : ∃ z : List Loc, z = [] := ⟨_, rfl⟩
  have hw : wV D A s.heap ((pW cy aP (aJ 0) SP) ++ ((jW cy aJ SJ) ++ ((bW cy aB (als 0) e_B_told e_B_mentions e_B_claims SB) ++ ((lsW cy als Sls) ++ (lwW cy aLw SLw))))) H locs := by rw [hH, hLc]; exact hw
  have hgo : W p l e (rmN 4) s m args below meth c H locs 0 0 (MQ below (eV D cy A (fun u : Ob × Ob => ((pW cy aP (aJ 0) u.1) ++ ((jW cy aJ u.2) ++ ((bW cy aB (als 0) e_B_told e_B_mentions e_B_claims SB) ++ ((lsW cy als Sls) ++ (lwW cy aLw SLw)))))) (fun (u : Ob × Ob) => Q u.1 u.2)) args s (rmN 4).cells (rmN 4).slots A) (F0 m 0 ls []) := ?hgo
  · rw [hH, hLc] at hgo; exact hgo
  refine lv_aload_n hx hb dX3_weigh_0 rfl (lv_at hl 0 rfl) ?_
  refine gF (k := 8) hc hw inX3 rfl 0 rfl (by decide) (gm 337 (by decide +kernel) rfl) rfl dX3_weigh_1 ?_
  refine lv_if_eq (tgt := 8) hx hb dX3_weigh_4 (by decide) (fun c56 => ?_) (fun c56 => ?_)
  · have hm := hm.1 c56
    refine lv_aload_n hx hb dX3_weigh_8 rfl (lv_at hl 0 rfl) ?_
    refine lv_iconst (v := 1) hx hb dX3_weigh_9 (by decide) ?_
    refine pF (k := 8) (ty := .boolean) hc hw inX3 tyX3_ok nmX3 rfl 0 rfl (by decide) (gm 337 (by decide +kernel) rfl) rfl (by decide +kernel) rfl rfl (Nat.le_of_ble_eq_true rfl) dX3_weigh_10 (fun H locs hw => ?_)
    obtain ⟨S1, e_S1⟩ : ∃ z : Ob, z = uS SP 8 1 := ⟨_, rfl⟩
    have hm := hm S1 e_S1
    have hw : wV D A s.heap ((pW cy aP (aJ 0) S1) ++ ((jW cy aJ SJ) ++ ((bW cy aB (als 0) e_B_told e_B_mentions e_B_claims SB) ++ ((lsW cy als Sls) ++ (lwW cy aLw SLw))))) H locs := by rw [e_S1]; exact hw
    refine lv_aload_n hx hb dX3_weigh_13 rfl (lv_at hl 0 rfl) ?_
    refine lv_aload_n hx hb dX3_weigh_14 rfl (lv_at hl 1 rfl) ?_
    refine gN (k := 4) (host := "OlderTale") hc hw inX6 rfl 14 rfl (by decide) (nmm 214 (by decide +kernel)) rfl dX3_weigh_15 ?_
    refine pF (k := 6) (ty := .int) hc hw inX3 tyX3_ok nmX3 rfl 0 rfl (by decide) (gm 334 (by decide +kernel) rfl) rfl (by decide +kernel) rfl rfl (Nat.le_of_ble_eq_true rfl) dX3_weigh_18 (fun H locs hw => ?_)
    obtain ⟨S2, e_S2⟩ : ∃ z : Ob, z = uS S1 6 (SB.1 4) := ⟨_, rfl⟩
    have hm := hm S2 e_S2
    have hw : wV D A s.heap ((pW cy aP (aJ 0) S2) ++ ((jW cy aJ SJ) ++ ((bW cy aB (als 0) e_B_told e_B_mentions e_B_claims SB) ++ ((lsW cy als Sls) ++ (lwW cy aLw SLw))))) H locs := by rw [e_S2]; exact hw
    refine lv_aload_n hx hb dX3_weigh_21 rfl (lv_at hl 0 rfl) ?_
    refine lv_aload_n hx hb dX3_weigh_22 rfl (lv_at hl 1 rfl) ?_
    refine gN (k := 5) (host := "OlderTale") hc hw inX6 rfl 14 rfl (by decide) (nmm 217 (by decide +kernel)) rfl dX3_weigh_23 ?_
    refine lv_iconst (v := 1) hx hb dX3_weigh_26 (by decide) ?_
    refine aI hc hw 19 rfl (vin (by decide)) (j := 1) (by decide) dX3_weigh_27 ?_
    refine lv_iconst (v := 1) hx hb dX3_weigh_28 (by decide) ?_
    obtain ⟨J4, eJ4, hm⟩ := jn_e hm
    have hJ4 : ∀ (t3 : Int32) (_ : J4 t3) (H : Heap) (locs : List Loc) (ls : Array Slot), wV D A s.heap ((pW cy aP (aJ 0) S2) ++ ((jW cy aJ SJ) ++ ((bW cy aB (als 0) e_B_told e_B_mentions e_B_claims SB) ++ ((lsW cy als Sls) ++ (lwW cy aLw SLw))))) H locs → lv_has ls 5 [(0, .ref (aP 0)), (1, .ref (aB 0))] → W p l e (rmN 4) s m args below meth c H locs 0 0 (MQ below (eV D cy A (fun u : Ob × Ob => ((pW cy aP (aJ 0) u.1) ++ ((jW cy aJ u.2) ++ ((bW cy aB (als 0) e_B_told e_B_mentions e_B_claims SB) ++ ((lsW cy als Sls) ++ (lwW cy aLw SLw)))))) (fun (u : Ob × Ob) => Q u.1 u.2)) args s (rmN 4).cells (rmN 4).slots A) (F0 m 37 ls [.int t3, .ref (aP 0)]) := by
      intro t3 hm H locs ls hw hl
      rw [eJ4] at hm
      obtain ⟨c5, c6, hm⟩ := hm
      refine pF (k := 7) (ty := .boolean) hc hw inX3 tyX3_ok nmX3 rfl 0 rfl (by decide) (gm 336 (by decide +kernel) rfl) rfl (by decide +kernel) c5 c6 (Nat.le_of_ble_eq_true rfl) dX3_weigh_37 (fun H locs hw => ?_)
      obtain ⟨S7, e_S7⟩ : ∃ z : Ob, z = uS S2 7 t3 := ⟨_, rfl⟩
      have hm := hm S7 e_S7
      have hw : wV D A s.heap ((pW cy aP (aJ 0) S7) ++ ((jW cy aJ SJ) ++ ((bW cy aB (als 0) e_B_told e_B_mentions e_B_claims SB) ++ ((lsW cy als Sls) ++ (lwW cy aLw SLw))))) H locs := by rw [e_S7]; exact hw
      refine lv_aload_n hx hb dX3_weigh_40 rfl (lv_at hl 1 rfl) ?_
      refine nVN_Q (As := []) (rest := []) (wc := ((bW cy aB (als 0) e_B_told e_B_mentions e_B_claims SB) ++ (lsW cy als Sls))) (wr := ((pW cy aP (aJ 0) S7) ++ ((jW cy aJ SJ) ++ (lwW cy aLw SLw)))) (isC := [14, 15, 16, 17, 18, 19, 20]) (isR := [0, 1, 2, 3, 4, 5, 6, 7, 8, 9, 10, 11, 12, 13, 21, 22, 23, 24, 25]) hc hw (c_X6_lawInForce hm) lk_X3_78 ⟨rfl, rfl, rfl, rfl, by decide⟩ rfl rfl ⟨Nat.le_of_ble_eq_true rfl, Nat.le_of_ble_eq_true rfl⟩ ⟨Nat.le_of_ble_eq_true rfl, Nat.le_of_ble_eq_true rfl⟩ hl.1 rfl (Nat.le_of_ble_eq_true rfl) rfl dX3_weigh_41 (fun r8 _ H locs hm hw => ?_)
      have hw : wV D A s.heap ((pW cy aP (aJ 0) S7) ++ ((jW cy aJ SJ) ++ ((bW cy aB (als 0) e_B_told e_B_mentions e_B_claims SB) ++ ((lsW cy als Sls) ++ (lwW cy aLw SLw))))) H locs := hw.perm [0, 1, 2, 3, 4, 5, 6, 7, 8, 9, 10, 11, 12, 13, 19, 20, 21, 22, 23, 24, 25, 14, 15, 16, 17, 18] rfl rfl
      obtain ⟨c10, hm⟩ := hm
      rw [c10]
      refine W.eq (g2 := F0 _ _ _ (.ref (aLw 0) :: _)) rfl ?_
      refine lv_astore_n (lv' := [(2, .ref (aLw 0)), (0, .ref (aP 0)), (1, .ref (aB 0))]) hx hb dX3_weigh_44 rfl hl (by decide) rfl (fun ls hl => ?_)
      refine lv_iconst (v := 0) hx hb dX3_weigh_45 (by decide) ?_
      refine lv_istore_n (lv' := [(3, .int 0), (2, .ref (aLw 0)), (0, .ref (aP 0)), (1, .ref (aB 0))]) hx hb dX3_weigh_46 rfl hl (by decide) rfl (fun ls hl => ?_)
      refine wl3_ind (G := fun (x3_11 : Int32) (S12 : Ob) (S13 : Ob) => ∀ (H : Heap) (locs : List Loc) (ls : Array Slot), wV D A s.heap ((pW cy aP (aJ 0) S12) ++ ((jW cy aJ S13) ++ ((bW cy aB (als 0) e_B_told e_B_mentions e_B_claims SB) ++ ((lsW cy als Sls) ++ (lwW cy aLw SLw))))) H locs → lv_has ls 5 [(3, .int x3_11), (2, .ref (aLw 0)), (0, .ref (aP 0)), (1, .ref (aB 0))] → W p l e (rmN 4) s m args below meth c H locs 0 0 (MQ below (eV D cy A (fun u : Ob × Ob => ((pW cy aP (aJ 0) u.1) ++ ((jW cy aJ u.2) ++ ((bW cy aB (als 0) e_B_told e_B_mentions e_B_claims SB) ++ ((lsW cy als Sls) ++ (lwW cy aLw SLw)))))) (fun (u : Ob × Ob) => Q u.1 u.2)) args s (rmN 4).cells (rmN 4).slots A) (F0 m 47 ls [])) ?_ _ _ _ hm H locs ls hw (lv_sub hl [0, 1, 2, 3] rfl)
      intro L14 ih14 x3_11 S12 S13 hm H locs ls hw hl
      refine lv_iload_n hx hb dX3_weigh_47 rfl (lv_at hl 0 rfl) ?_
      refine lv_aload_n hx hb dX3_weigh_48 rfl (lv_at hl 2 rfl) ?_
      refine gF (k := 6) hc hw inX3 rfl 0 rfl (by decide) (gm 334 (by decide +kernel) rfl) rfl dX3_weigh_49 ?_
      refine lv_icmp_ge (tgt := 204) hx hb dX3_weigh_52 (by decide) (fun c54 => ?_) (fun c54 => ?_)
      · have hm := hm.1 c54
        exact retV (u := (S12, S13)) hc hw hm dX3_weigh_204
      · have hm := hm.2 c54
        refine lv_aload_n hx hb dX3_weigh_55 rfl (lv_at hl 2 rfl) ?_
        refine gF (k := 1) hc hw inX3 rfl 0 rfl (by decide) (gm 326 (by decide +kernel) rfl) rfl dX3_weigh_56 ?_
        refine lv_iload_n hx hb dX3_weigh_59 rfl (lv_at hl 0 rfl) ?_
        refine lv_aload_n hx hb dX3_weigh_60 rfl (lv_at hl 3 rfl) ?_
        refine gN (k := 0) (host := "OlderTale") hc hw inX6 rfl 14 rfl (by decide) (nmm 198 (by decide +kernel)) rfl dX3_weigh_61 ?_
        refine lv_iload_n hx hb dX3_weigh_64 rfl (lv_at hl 0 rfl) ?_
        obtain ⟨c15, hm⟩ := hm
        refine aI hc hw 15 rfl c15 rfl dX3_weigh_65 ?_
        obtain ⟨c16, hm⟩ := hm
        refine sI hc hw 1 rfl c16 rfl dX3_weigh_66 (fun H locs hw => ?_)
        obtain ⟨S17, e_S17⟩ : ∃ z : Ob, z = uA S12 1 (Int32.toNatClampNeg x3_11) (SB.2 0 (Int32.toNatClampNeg x3_11)) := ⟨_, rfl⟩
        have hm := hm S17 e_S17
        have hw : wV D A s.heap ((pW cy aP (aJ 0) S17) ++ ((jW cy aJ S13) ++ ((bW cy aB (als 0) e_B_told e_B_mentions e_B_claims SB) ++ ((lsW cy als Sls) ++ (lwW cy aLw SLw))))) H locs := by rw [e_S17]; exact hw
        refine lv_aload_n hx hb dX3_weigh_67 rfl (lv_at hl 2 rfl) ?_
        refine gF (k := 2) hc hw inX3 rfl 0 rfl (by decide) (gm 327 (by decide +kernel) rfl) rfl dX3_weigh_68 ?_
        refine lv_iload_n hx hb dX3_weigh_71 rfl (lv_at hl 0 rfl) ?_
        refine lv_aload_n hx hb dX3_weigh_72 rfl (lv_at hl 3 rfl) ?_
        refine gN (k := 1) (host := "OlderTale") hc hw inX6 rfl 14 rfl (by decide) (nmm 203 (by decide +kernel)) rfl dX3_weigh_73 ?_
        refine lv_iload_n hx hb dX3_weigh_76 rfl (lv_at hl 0 rfl) ?_
        obtain ⟨c18, hm⟩ := hm
        refine aI hc hw 16 rfl c18 rfl dX3_weigh_77 ?_
        obtain ⟨c19, hm⟩ := hm
        refine sI hc hw 2 rfl c19 rfl dX3_weigh_78 (fun H locs hw => ?_)
        obtain ⟨S20, e_S20⟩ : ∃ z : Ob, z = uA S17 2 (Int32.toNatClampNeg x3_11) (SB.2 1 (Int32.toNatClampNeg x3_11)) := ⟨_, rfl⟩
        have hm := hm S20 e_S20
        have hw : wV D A s.heap ((pW cy aP (aJ 0) S20) ++ ((jW cy aJ S13) ++ ((bW cy aB (als 0) e_B_told e_B_mentions e_B_claims SB) ++ ((lsW cy als Sls) ++ (lwW cy aLw SLw))))) H locs := by rw [e_S20]; exact hw
        refine lv_aload_n hx hb dX3_weigh_79 rfl (lv_at hl 2 rfl) ?_
        refine gF (k := 0) hc hw inX3 rfl 0 rfl (by decide) (gm 325 (by decide +kernel) rfl) rfl dX3_weigh_80 ?_
        refine lv_aload_n hx hb dX3_weigh_83 rfl (lv_at hl 3 rfl) ?_
        refine lv_iload_n hx hb dX3_weigh_84 rfl (lv_at hl 0 rfl) ?_
        refine nVN_V (As := [.ref (aB 0), .int x3_11]) (rest := []) (wc := ((jW cy aJ S13) ++ (bW cy aB (als 0) e_B_told e_B_mentions e_B_claims SB))) (wr := ((pW cy aP (aJ 0) S20) ++ ((lsW cy als Sls) ++ (lwW cy aLw SLw)))) (isC := [11, 12, 13, 14, 15, 16, 17, 18, 19]) (isR := [0, 1, 2, 3, 4, 5, 6, 7, 8, 9, 10, 20, 21, 22, 23, 24, 25]) hc hw (c_X1_look hm) lk_X3_84 ⟨rfl, rfl, rfl, rfl, by decide⟩ rfl rfl ⟨Nat.le_of_ble_eq_true rfl, Nat.le_of_ble_eq_true rfl⟩ ⟨Nat.le_of_ble_eq_true rfl, Nat.le_of_ble_eq_true rfl⟩ hl.1 rfl (Nat.le_of_ble_eq_true rfl) rfl dX3_weigh_85 (fun S21 H locs hm hw => ?_)
        have hw : wV D A s.heap ((pW cy aP (aJ 0) S20) ++ ((jW cy aJ S21) ++ ((bW cy aB (als 0) e_B_told e_B_mentions e_B_claims SB) ++ ((lsW cy als Sls) ++ (lwW cy aLw SLw))))) H locs := hw.perm [0, 1, 2, 3, 4, 5, 6, 7, 8, 9, 10, 17, 18, 19, 20, 21, 22, 23, 24, 25, 11, 12, 13, 14, 15, 16] rfl rfl
        refine lv_aload_n hx hb dX3_weigh_88 rfl (lv_at hl 2 rfl) ?_
        refine gF (k := 3) hc hw inX3 rfl 0 rfl (by decide) (gm 328 (by decide +kernel) rfl) rfl dX3_weigh_89 ?_
        refine lv_iload_n hx hb dX3_weigh_92 rfl (lv_at hl 0 rfl) ?_
        refine lv_aload_n hx hb dX3_weigh_93 rfl (lv_at hl 2 rfl) ?_
        refine gF (k := 0) hc hw inX3 rfl 0 rfl (by decide) (gm 325 (by decide +kernel) rfl) rfl dX3_weigh_94 ?_
        refine lv_aload_n hx hb dX3_weigh_97 rfl (lv_at hl 1 rfl) ?_
        refine lv_sipush (v := 256) hx hb dX3_weigh_98 (by decide) ?_
        refine lv_iconst (v := 0) hx hb dX3_weigh_101 (by decide) ?_
        refine lv_aload_n hx hb dX3_weigh_102 rfl (lv_at hl 3 rfl) ?_
        refine gN (k := 2) (host := "OlderTale") hc hw inX6 rfl 14 rfl (by decide) (nmm 206 (by decide +kernel)) rfl dX3_weigh_103 ?_
        refine lv_iload_n hx hb dX3_weigh_106 rfl (lv_at hl 0 rfl) ?_
        obtain ⟨c23, hm⟩ := hm
        refine aI hc hw 17 rfl c23 rfl dX3_weigh_107 ?_
        refine nVN_I (As := [.ref (aLw 0), .int 256, .int 0, .int (SB.2 2 (Int32.toNatClampNeg x3_11))]) (rest := [.int x3_11, .ref (aP 3)]) (wc := ((jW cy aJ S21) ++ (lwW cy aLw SLw))) (wr := ((pW cy aP (aJ 0) S20) ++ ((bW cy aB (als 0) e_B_told e_B_mentions e_B_claims SB) ++ (lsW cy als Sls)))) (isC := [11, 12, 13, 21, 22, 23, 24, 25]) (isR := [0, 1, 2, 3, 4, 5, 6, 7, 8, 9, 10, 14, 15, 16, 17, 18, 19, 20]) hc hw (c_X1_lastOf hm) lk_X3_91 ⟨rfl, rfl, rfl, rfl, by decide⟩ rfl rfl ⟨Nat.le_of_ble_eq_true rfl, Nat.le_of_ble_eq_true rfl⟩ ⟨Nat.le_of_ble_eq_true rfl, Nat.le_of_ble_eq_true rfl⟩ hl.1 rfl (Nat.le_of_ble_eq_true rfl) rfl dX3_weigh_108 (fun r24 S25 H locs hm hw => ?_)
        have hw : wV D A s.heap ((pW cy aP (aJ 0) S20) ++ ((jW cy aJ S25) ++ ((bW cy aB (als 0) e_B_told e_B_mentions e_B_claims SB) ++ ((lsW cy als Sls) ++ (lwW cy aLw SLw))))) H locs := hw.perm [0, 1, 2, 3, 4, 5, 6, 7, 8, 9, 10, 18, 19, 20, 11, 12, 13, 14, 15, 16, 17, 21, 22, 23, 24, 25] rfl rfl
        obtain ⟨c27, hm⟩ := hm
        refine sI hc hw 3 rfl c27 rfl dX3_weigh_111 (fun H locs hw => ?_)
        obtain ⟨S28, e_S28⟩ : ∃ z : Ob, z = uA S20 3 (Int32.toNatClampNeg x3_11) r24 := ⟨_, rfl⟩
        have hm := hm S28 e_S28
        have hw : wV D A s.heap ((pW cy aP (aJ 0) S28) ++ ((jW cy aJ S25) ++ ((bW cy aB (als 0) e_B_told e_B_mentions e_B_claims SB) ++ ((lsW cy als Sls) ++ (lwW cy aLw SLw))))) H locs := by rw [e_S28]; exact hw
        refine lv_aload_n hx hb dX3_weigh_112 rfl (lv_at hl 2 rfl) ?_
        refine gF (k := 4) hc hw inX3 rfl 0 rfl (by decide) (gm 330 (by decide +kernel) rfl) rfl dX3_weigh_113 ?_
        refine lv_iload_n hx hb dX3_weigh_116 rfl (lv_at hl 0 rfl) ?_
        refine lv_aload_n hx hb dX3_weigh_117 rfl (lv_at hl 2 rfl) ?_
        refine gF (k := 0) hc hw inX3 rfl 0 rfl (by decide) (gm 325 (by decide +kernel) rfl) rfl dX3_weigh_118 ?_
        refine lv_aload_n hx hb dX3_weigh_121 rfl (lv_at hl 1 rfl) ?_
        refine lv_sipush (v := 257) hx hb dX3_weigh_122 (by decide) ?_
        refine lv_iconst (v := 1) hx hb dX3_weigh_125 (by decide) ?_
        refine lv_iconst (v := 1) hx hb dX3_weigh_126 (by decide) ?_
        refine nVN_I (As := [.ref (aLw 0), .int 257, .int 1, .int 1]) (rest := [.int x3_11, .ref (aP 4)]) (wc := ((jW cy aJ S25) ++ (lwW cy aLw SLw))) (wr := ((pW cy aP (aJ 0) S28) ++ ((bW cy aB (als 0) e_B_told e_B_mentions e_B_claims SB) ++ (lsW cy als Sls)))) (isC := [11, 12, 13, 21, 22, 23, 24, 25]) (isR := [0, 1, 2, 3, 4, 5, 6, 7, 8, 9, 10, 14, 15, 16, 17, 18, 19, 20]) hc hw (c_X1_lastOf hm) lk_X3_91 ⟨rfl, rfl, rfl, rfl, by decide⟩ rfl rfl ⟨Nat.le_of_ble_eq_true rfl, Nat.le_of_ble_eq_true rfl⟩ ⟨Nat.le_of_ble_eq_true rfl, Nat.le_of_ble_eq_true rfl⟩ hl.1 rfl (Nat.le_of_ble_eq_true rfl) rfl dX3_weigh_127 (fun r29 S30 H locs hm hw => ?_)
        have hw : wV D A s.heap ((pW cy aP (aJ 0) S28) ++ ((jW cy aJ S30) ++ ((bW cy aB (als 0) e_B_told e_B_mentions e_B_claims SB) ++ ((lsW cy als Sls) ++ (lwW cy aLw SLw))))) H locs := hw.perm [0, 1, 2, 3, 4, 5, 6, 7, 8, 9, 10, 18, 19, 20, 11, 12, 13, 14, 15, 16, 17, 21, 22, 23, 24, 25] rfl rfl
        obtain ⟨c32, hm⟩ := hm
        refine sI hc hw 4 rfl c32 rfl dX3_weigh_130 (fun H locs hw => ?_)
        obtain ⟨S33, e_S33⟩ : ∃ z : Ob, z = uA S28 4 (Int32.toNatClampNeg x3_11) r29 := ⟨_, rfl⟩
        have hm := hm S33 e_S33
        have hw : wV D A s.heap ((pW cy aP (aJ 0) S33) ++ ((jW cy aJ S30) ++ ((bW cy aB (als 0) e_B_told e_B_mentions e_B_claims SB) ++ ((lsW cy als Sls) ++ (lwW cy aLw SLw))))) H locs := by rw [e_S33]; exact hw
        refine lv_aload_n hx hb dX3_weigh_131 rfl (lv_at hl 2 rfl) ?_
        refine gF (k := 5) hc hw inX3 rfl 0 rfl (by decide) (gm 332 (by decide +kernel) rfl) rfl dX3_weigh_132 ?_
        refine lv_iload_n hx hb dX3_weigh_135 rfl (lv_at hl 0 rfl) ?_
        refine lv_iconst (v := 0) hx hb dX3_weigh_136 (by decide) ?_
        obtain ⟨c34, hm⟩ := hm
        refine sI hc hw 5 rfl c34 rfl dX3_weigh_137 (fun H locs hw => ?_)
        obtain ⟨S35, e_S35⟩ : ∃ z : Ob, z = uA S33 5 (Int32.toNatClampNeg x3_11) 0 := ⟨_, rfl⟩
        have hm := hm S35 e_S35
        have hw : wV D A s.heap ((pW cy aP (aJ 0) S35) ++ ((jW cy aJ S30) ++ ((bW cy aB (als 0) e_B_told e_B_mentions e_B_claims SB) ++ ((lsW cy als Sls) ++ (lwW cy aLw SLw))))) H locs := by rw [e_S35]; exact hw
        refine lv_iconst (v := 0) hx hb dX3_weigh_138 (by decide) ?_
        refine lv_istore (lv' := [(4, .int 0), (3, .int x3_11), (2, .ref (aLw 0)), (0, .ref (aP 0)), (1, .ref (aB 0))]) hx hb dX3_weigh_139 hl (by decide) rfl (fun ls hl => ?_)
        refine wl3_ind (G := fun (x4_36 : Int32) (S37 : Ob) (S38 : Ob) => ∀ (H : Heap) (locs : List Loc) (ls : Array Slot), wV D A s.heap ((pW cy aP (aJ 0) S37) ++ ((jW cy aJ S38) ++ ((bW cy aB (als 0) e_B_told e_B_mentions e_B_claims SB) ++ ((lsW cy als Sls) ++ (lwW cy aLw SLw))))) H locs → lv_has ls 5 [(4, .int x4_36), (3, .int x3_11), (2, .ref (aLw 0)), (0, .ref (aP 0)), (1, .ref (aB 0))] → W p l e (rmN 4) s m args below meth c H locs 0 0 (MQ below (eV D cy A (fun u : Ob × Ob => ((pW cy aP (aJ 0) u.1) ++ ((jW cy aJ u.2) ++ ((bW cy aB (als 0) e_B_told e_B_mentions e_B_claims SB) ++ ((lsW cy als Sls) ++ (lwW cy aLw SLw)))))) (fun (u : Ob × Ob) => Q u.1 u.2)) args s (rmN 4).cells (rmN 4).slots A) (F0 m 141 ls [])) ?_ _ _ _ hm H locs ls hw (lv_sub hl [0, 1, 2, 3, 4] rfl)
        intro L39 ih39 x4_36 S37 S38 hm H locs ls hw hl
        refine lv_iload hx hb dX3_weigh_141 (lv_at hl 0 rfl) ?_
        refine lv_aload_n hx hb dX3_weigh_143 rfl (lv_at hl 4 rfl) ?_
        refine gN (k := 5) (host := "OlderTale") hc hw inX6 rfl 14 rfl (by decide) (nmm 217 (by decide +kernel)) rfl dX3_weigh_144 ?_
        refine lv_iconst (v := 0) hx hb dX3_weigh_147 (by decide) ?_
        refine aI hc hw 19 rfl (vin (by decide)) (j := 0) (by decide) dX3_weigh_148 ?_
        refine lv_icmp_ge (tgt := 198) hx hb dX3_weigh_149 (by decide) (fun c53 => ?_) (fun c53 => ?_)
        · have hm := hm.1 c53
          obtain ⟨v40, e_v40⟩ : ∃ z : Int32, z = x3_11 + 1 := ⟨_, rfl⟩
          have hm := hm v40 e_v40
          refine lv_iinc (v := v40) (lv' := [(3, .int v40), (4, .int x4_36), (2, .ref (aLw 0)), (0, .ref (aP 0)), (1, .ref (aB 0))]) hx hb dX3_weigh_198 hl (k := 1) rfl (by rw [e_v40]; rfl) (by decide) rfl (fun ls hl => ?_)
          refine lv_goto (tgt := 47) hx hb dX3_weigh_201 (by decide) ?_
          exact ih14 _ _ _ hm _ _ _ hw (lv_sub hl [0, 2, 3, 4] rfl)
        · have hm := hm.2 c53
          refine lv_aload_n hx hb dX3_weigh_152 rfl (lv_at hl 4 rfl) ?_
          refine gN (k := 3) (host := "OlderTale") hc hw inX6 rfl 14 rfl (by decide) (nmm 209 (by decide +kernel)) rfl dX3_weigh_153 ?_
          refine lv_iload_n hx hb dX3_weigh_156 rfl (lv_at hl 1 rfl) ?_
          obtain ⟨c41, hm⟩ := hm
          refine aI hc hw 18 rfl c41 rfl dX3_weigh_157 ?_
          refine lv_iload hx hb dX3_weigh_158 (lv_at hl 0 rfl) ?_
          refine lv_ishr hx hb dX3_weigh_160 ?_
          refine lv_iconst (v := 1) hx hb dX3_weigh_161 (by decide) ?_
          refine lv_iand hx hb dX3_weigh_162 ?_
          refine lv_if_eq (tgt := 192) hx hb dX3_weigh_163 (by decide) (fun c52 => ?_) (fun c52 => ?_)
          · have hm := hm.1 c52
            obtain ⟨v42, e_v42⟩ : ∃ z : Int32, z = x4_36 + 1 := ⟨_, rfl⟩
            have hm := hm v42 e_v42
            refine lv_iinc (v := v42) (lv' := [(4, .int v42), (3, .int x3_11), (2, .ref (aLw 0)), (0, .ref (aP 0)), (1, .ref (aB 0))]) hx hb dX3_weigh_192 hl (k := 0) rfl (by rw [e_v42]; rfl) (by decide) rfl (fun ls hl => ?_)
            refine lv_goto (tgt := 141) hx hb dX3_weigh_195 (by decide) ?_
            exact ih39 _ _ _ hm _ _ _ hw (lv_sub hl [0, 1, 2, 3, 4] rfl)
          · have hm := hm.2 c52
            refine lv_aload_n hx hb dX3_weigh_166 rfl (lv_at hl 3 rfl) ?_
            refine gF (k := 0) hc hw inX3 rfl 0 rfl (by decide) (gm 325 (by decide +kernel) rfl) rfl dX3_weigh_167 ?_
            refine lv_aload_n hx hb dX3_weigh_170 rfl (lv_at hl 2 rfl) ?_
            refine lv_iload hx hb dX3_weigh_171 (lv_at hl 0 rfl) ?_
            refine nVN_I (As := [.ref (aLw 0), .int x4_36]) (rest := []) (wc := ((jW cy aJ S38) ++ (lwW cy aLw SLw))) (wr := ((pW cy aP (aJ 0) S37) ++ ((bW cy aB (als 0) e_B_told e_B_mentions e_B_claims SB) ++ (lsW cy als Sls)))) (isC := [11, 12, 13, 21, 22, 23, 24, 25]) (isR := [0, 1, 2, 3, 4, 5, 6, 7, 8, 9, 10, 14, 15, 16, 17, 18, 19, 20]) hc hw (c_X1_isBarred hm) lk_X3_98 ⟨rfl, rfl, rfl, rfl, by decide⟩ rfl rfl ⟨Nat.le_of_ble_eq_true rfl, Nat.le_of_ble_eq_true rfl⟩ ⟨Nat.le_of_ble_eq_true rfl, Nat.le_of_ble_eq_true rfl⟩ hl.1 rfl (Nat.le_of_ble_eq_true rfl) rfl dX3_weigh_173 (fun r43 S44 H locs hm hw => ?_)
            have hw : wV D A s.heap ((pW cy aP (aJ 0) S37) ++ ((jW cy aJ S44) ++ ((bW cy aB (als 0) e_B_told e_B_mentions e_B_claims SB) ++ ((lsW cy als Sls) ++ (lwW cy aLw SLw))))) H locs := hw.perm [0, 1, 2, 3, 4, 5, 6, 7, 8, 9, 10, 18, 19, 20, 11, 12, 13, 14, 15, 16, 17, 21, 22, 23, 24, 25] rfl rfl
            refine lv_if_ne (tgt := 192) hx hb dX3_weigh_176 (by decide) (fun c51 => ?_) (fun c51 => ?_)
            · have hm := hm.1 c51
              obtain ⟨v46, e_v46⟩ : ∃ z : Int32, z = x4_36 + 1 := ⟨_, rfl⟩
              have hm := hm v46 e_v46
              refine lv_iinc (v := v46) (lv' := [(4, .int v46), (3, .int x3_11), (2, .ref (aLw 0)), (0, .ref (aP 0)), (1, .ref (aB 0))]) hx hb dX3_weigh_192 hl (k := 0) rfl (by rw [e_v46]; rfl) (by decide) rfl (fun ls hl => ?_)
              refine lv_goto (tgt := 141) hx hb dX3_weigh_195 (by decide) ?_
              exact ih39 _ _ _ hm _ _ _ hw (lv_sub hl [0, 1, 2, 3, 4] rfl)
            · have hm := hm.2 c51
              refine lv_aload_n hx hb dX3_weigh_179 rfl (lv_at hl 3 rfl) ?_
              refine gF (k := 5) hc hw inX3 rfl 0 rfl (by decide) (gm 332 (by decide +kernel) rfl) rfl dX3_weigh_180 ?_
              refine lv_iload_n hx hb dX3_weigh_183 rfl (lv_at hl 1 rfl) ?_
              refine lv_dup2_11 hx hb dX3_weigh_184 rfl rfl ?_
              obtain ⟨c47, hm⟩ := hm
              refine aI hc hw 5 rfl c47 rfl dX3_weigh_185 ?_
              refine lv_iconst (v := 1) hx hb dX3_weigh_186 (by decide) ?_
              refine lv_iload hx hb dX3_weigh_187 (lv_at hl 0 rfl) ?_
              refine lv_ishl hx hb dX3_weigh_189 ?_
              refine lv_ior hx hb dX3_weigh_190 ?_
              obtain ⟨c48, hm⟩ := hm
              refine sI hc hw 5 rfl c48 rfl dX3_weigh_191 (fun H locs hw => ?_)
              obtain ⟨S49, e_S49⟩ : ∃ z : Ob, z = uA S37 5 (Int32.toNatClampNeg x3_11) ((S37.2 5 (Int32.toNatClampNeg x3_11)) ||| ((1 : Int32) <<< (x4_36 &&& 31))) := ⟨_, rfl⟩
              have hm := hm S49 e_S49
              have hw : wV D A s.heap ((pW cy aP (aJ 0) S49) ++ ((jW cy aJ S44) ++ ((bW cy aB (als 0) e_B_told e_B_mentions e_B_claims SB) ++ ((lsW cy als Sls) ++ (lwW cy aLw SLw))))) H locs := by rw [e_S49]; exact hw
              obtain ⟨v50, e_v50⟩ : ∃ z : Int32, z = x4_36 + 1 := ⟨_, rfl⟩
              have hm := hm v50 e_v50
              refine lv_iinc (v := v50) (lv' := [(4, .int v50), (3, .int x3_11), (2, .ref (aLw 0)), (0, .ref (aP 0)), (1, .ref (aB 0))]) hx hb dX3_weigh_192 hl (k := 0) rfl (by rw [e_v50]; rfl) (by decide) rfl (fun ls hl => ?_)
              refine lv_goto (tgt := 141) hx hb dX3_weigh_195 (by decide) ?_
              exact ih39 _ _ _ hm _ _ _ hw (lv_sub hl [0, 1, 2, 3, 4] rfl)
    refine lv_icmp_ne (tgt := 36) hx hb dX3_weigh_29 (by decide) (fun c55 => ?_) (fun c55 => ?_)
    · have hm := hm.1 c55
      refine lv_iconst (v := 0) hx hb dX3_weigh_36 (by decide) ?_
      exact hJ4 _ hm _ _ _ hw (lv_sub hl [0, 1] rfl)
    · have hm := hm.2 c55
      refine lv_iconst (v := 1) hx hb dX3_weigh_32 (by decide) ?_
      refine lv_goto (tgt := 37) hx hb dX3_weigh_33 (by decide) ?_
      exact hJ4 _ hm _ _ _ hw (lv_sub hl [0, 1] rfl)
  · have hm := hm.2 c56
    exact retV (u := (SP, SJ)) hc hw hm dX3_weigh_7
