set_option maxHeartbeats 4000000 in
set_option maxRecDepth 100000 in
theorem c_M_isEvening {l : Launch} {D : va_G} {cy : Nat → ClassId} {a : Nat → Nat} {S : Ob} {x1 : Int32} {Q : Int32 → Prop} (hm : wM_isEvening S x1 Q) : CtI l yX9_isEvening cX9_isEvening 2 (some .boolean) (rmN 0) D cy [.ref (a 0), .int x1] (mW cy a S) (fun _ : Unit => mW cy a S) (fun (r : Int32) (_ : Unit) => Q r) := by
  refine CtI.ofW (by decide) (Nat.le_of_ble_eq_true rfl) ?_
  intro p e s m args below meth c A ls hc hnm hw hl
  have hx := hc.1.1
  have hb := hc.1.2.1
  have hown := hc.1.2.2.2.1
  have hts := hc.1.2.2.2.2
  have hl : lv_has ls 2 [(0, .ref (a 0)), (1, .int x1)] := hl
  obtain ⟨H, hH⟩ : ∃ z, z = s.heap := ⟨_, rfl⟩
  obtain ⟨locs, hLc⟩ : ∃ z : List Loc, z = [] := ⟨_, rfl⟩
  have hw : wV D A s.heap (mW cy a S) H locs := by rw [hH, hLc]; exact hw
  have hgo : W p l e (rmN 0) s m args below meth c H locs 0 0 (MQ below (eI D cy A (fun _ : Unit => mW cy a S) (fun (r : Int32) (_ : Unit) => Q r)) args s (rmN 0).cells (rmN 0).slots A) (F0 m 0 ls []) := ?hgo
  · rw [hH, hLc] at hgo; exact hgo
  refine lv_aload_n hx hb dX9_isEvening_0 rfl (lv_at hl 0 rfl) ?_
  refine gF (k := 30) hc hw inX9 rfl 0 rfl (by decide) (gm 1089 (by decide +kernel) rfl) rfl dX9_isEvening_1 ?_
  refine lv_iconst (v := 5) hx hb dX9_isEvening_4 (by decide) ?_
  refine lv_iload_n hx hb dX9_isEvening_5 rfl (lv_at hl 1 rfl) ?_
  refine lv_imul hx hb dX9_isEvening_6 ?_
  refine lv_iconst (v := 4) hx hb dX9_isEvening_7 (by decide) ?_
  refine lv_iadd hx hb dX9_isEvening_8 ?_
  obtain ⟨c1, hm⟩ := hm
  refine aI hc hw 15 rfl c1 rfl dX9_isEvening_9 ?_
  refine lv_ldc (v := 1000000) hx hb hown (hts _ (gm 1281 (by decide +kernel) rfl)) dX9_isEvening_10 ?_
  refine lv_icmp_ge (tgt := 19) hx hb dX9_isEvening_12 (by decide) (fun c2 => ?_) (fun c2 => ?_)
  · have hm := hm.1 c2
    refine lv_iconst (v := 0) hx hb dX9_isEvening_19 (by decide) ?_
    exact retZ (u := ()) hc hw rfl hm dX9_isEvening_20
  · have hm := hm.2 c2
    refine lv_iconst (v := 1) hx hb dX9_isEvening_15 (by decide) ?_
    refine lv_goto (tgt := 20) hx hb dX9_isEvening_16 (by decide) ?_
    exact retZ (u := ()) hc hw rfl hm dX9_isEvening_20
set_option maxHeartbeats 4000000 in
set_option maxRecDepth 100000 in
theorem c_M_winters {l : Launch} {D : va_G} {cy : Nat → ClassId} {a : Nat → Nat} {S : Ob} {x1 : Int32} {Q : Ob → Prop} (hm : wM_winters S x1 Q) : CtV l yX9_winters cX9_winters 7 none (rmN 2) D cy [.ref (a 0), .int x1] (mW cy a S) (mW cy a) Q := by
  refine CtV.ofW (by decide) (Nat.le_of_ble_eq_true rfl) ?_
  intro p e s m args below meth c A ls hc hnm hw hl
  have hx := hc.1.1
  have hb := hc.1.2.1
  have hown := hc.1.2.2.2.1
  have hts := hc.1.2.2.2.2
  have hl : lv_has ls 7 [(0, .ref (a 0)), (1, .int x1)] := hl
  obtain ⟨H, hH⟩ : ∃ z, z = s.heap := ⟨_, rfl⟩
  obtain ⟨locs, hLc⟩ : ∃ z : List Loc, z = [] := ⟨_, rfl⟩
  have hw : wV D A s.heap (mW cy a S) H locs := by rw [hH, hLc]; exact hw
  have hgo : W p l e (rmN 2) s m args below meth c H locs 0 0 (MQ below (eV D cy A (mW cy a) Q) args s (rmN 2).cells (rmN 2).slots A) (F0 m 0 ls []) := ?hgo
  · rw [hH, hLc] at hgo; exact hgo
  refine lv_iconst (v := 1) hx hb dX9_winters_0 (by decide) ?_
  refine lv_aload_n hx hb dX9_winters_1 rfl (lv_at hl 0 rfl) ?_
  refine aV_I (As := []) (rest := [.int 1]) hc hw (c_M_tales hm) lk_X9_105 rfl rfl ⟨Nat.le_of_ble_eq_true rfl, Nat.le_of_ble_eq_true rfl⟩ ⟨Nat.le_of_ble_eq_true rfl, Nat.le_of_ble_eq_true rfl⟩ hl.1 rfl (Nat.le_of_ble_eq_true rfl) rfl dX9_winters_2 (fun r1 _ H locs hm hw => ?_)
  have hw : wV D A s.heap (mW cy a S) H locs := hw
  refine lv_ishl hx hb dX9_winters_5 ?_
  refine lv_topi (fun v3 e_v3 => ?_)
  have hm := hm v3 e_v3
  refine lv_istore_n (lv' := [(2, .int v3), (0, .ref (a 0)), (1, .int x1)]) hx hb dX9_winters_6 rfl hl (by decide) rfl (fun ls hl => ?_)
  refine lv_iconst (v := 0) hx hb dX9_winters_7 (by decide) ?_
  refine lv_istore_n (lv' := [(3, .int 0), (2, .int v3), (0, .ref (a 0)), (1, .int x1)]) hx hb dX9_winters_8 rfl hl (by decide) rfl (fun ls hl => ?_)
  refine wl2_ind (G := fun (x3_4 : Int32) (S5 : Ob) => ∀ (H : Heap) (locs : List Loc) (ls : Array Slot), wV D A s.heap (mW cy a S5) H locs → lv_has ls 7 [(3, .int x3_4), (2, .int v3), (0, .ref (a 0)), (1, .int x1)] → W p l e (rmN 2) s m args below meth c H locs 0 0 (MQ below (eV D cy A (mW cy a) Q) args s (rmN 2).cells (rmN 2).slots A) (F0 m 9 ls [])) ?_ _ _ hm H locs ls hw (lv_sub hl [0, 1, 2, 3] rfl)
  intro L6 ih6 x3_4 S5 hm H locs ls hw hl
  refine lv_iload_n hx hb dX9_winters_9 rfl (lv_at hl 0 rfl) ?_
  refine lv_iload_n hx hb dX9_winters_10 rfl (lv_at hl 1 rfl) ?_
  refine lv_icmp_ge (tgt := 27) hx hb dX9_winters_11 (by decide) (fun c38 => ?_) (fun c38 => ?_)
  · have hm := hm.1 c38
    refine lv_iconst (v := 1) hx hb dX9_winters_27 (by decide) ?_
    refine lv_istore_n (lv' := [(3, .int 1), (2, .int v3), (0, .ref (a 0)), (1, .int x1)]) hx hb dX9_winters_28 rfl hl (by decide) rfl (fun ls hl => ?_)
    refine wl2_ind (G := fun (x3_7 : Int32) (S8 : Ob) => ∀ (H : Heap) (locs : List Loc) (ls : Array Slot), wV D A s.heap (mW cy a S8) H locs → lv_has ls 7 [(3, .int x3_7), (2, .int v3), (0, .ref (a 0)), (1, .int x1)] → W p l e (rmN 2) s m args below meth c H locs 0 0 (MQ below (eV D cy A (mW cy a) Q) args s (rmN 2).cells (rmN 2).slots A) (F0 m 29 ls [])) ?_ _ _ hm H locs ls hw (lv_sub hl [0, 1, 2, 3] rfl)
    intro L9 ih9 x3_7 S8 hm H locs ls hw hl
    refine lv_iload_n hx hb dX9_winters_29 rfl (lv_at hl 0 rfl) ?_
    refine lv_iload_n hx hb dX9_winters_30 rfl (lv_at hl 3 rfl) ?_
    refine lv_icmp_gt (tgt := 142) hx hb dX9_winters_31 (by decide) (fun c34 => ?_) (fun c34 => ?_)
    · have hm := hm.1 c34
      exact retV (u := S8) hc hw hm dX9_winters_142
    · have hm := hm.2 c34
      refine lv_iconst (v := 0) hx hb dX9_winters_34 (by decide) ?_
      refine lv_istore (lv' := [(4, .int 0), (3, .int x3_7), (2, .int v3), (0, .ref (a 0)), (1, .int x1)]) hx hb dX9_winters_35 hl (by decide) rfl (fun ls hl => ?_)
      refine wl2_ind (G := fun (x4_10 : Int32) (S11 : Ob) => ∀ (H : Heap) (locs : List Loc) (ls : Array Slot), wV D A s.heap (mW cy a S11) H locs → lv_has ls 7 [(4, .int x4_10), (3, .int x3_7), (2, .int v3), (0, .ref (a 0)), (1, .int x1)] → W p l e (rmN 2) s m args below meth c H locs 0 0 (MQ below (eV D cy A (mW cy a) Q) args s (rmN 2).cells (rmN 2).slots A) (F0 m 37 ls [])) ?_ _ _ hm H locs ls hw (lv_sub hl [0, 1, 2, 3, 4] rfl)
      intro L12 ih12 x4_10 S11 hm H locs ls hw hl
      refine lv_iload hx hb dX9_winters_37 (lv_at hl 0 rfl) ?_
      refine lv_iload_n hx hb dX9_winters_39 rfl (lv_at hl 2 rfl) ?_
      refine lv_icmp_ge (tgt := 136) hx hb dX9_winters_40 (by decide) (fun c33 => ?_) (fun c33 => ?_)
      · have hm := hm.1 c33
        obtain ⟨v13, e_v13⟩ : ∃ z : Int32, z = x3_7 + 1 := ⟨_, rfl⟩
        have hm := hm v13 e_v13
        refine lv_iinc (v := v13) (lv' := [(3, .int v13), (4, .int x4_10), (2, .int v3), (0, .ref (a 0)), (1, .int x1)]) hx hb dX9_winters_136 hl (k := 1) rfl (by rw [e_v13]; rfl) (by decide) rfl (fun ls hl => ?_)
        refine lv_goto (tgt := 29) hx hb dX9_winters_139 (by decide) ?_
        exact ih9 _ _ hm _ _ _ hw (lv_sub hl [0, 2, 3, 4] rfl)
      · have hm := hm.2 c33
        refine lv_iconst (v := 0) hx hb dX9_winters_43 (by decide) ?_
        refine lv_istore (lv' := [(5, .int 0), (4, .int x4_10), (3, .int x3_7), (2, .int v3), (0, .ref (a 0)), (1, .int x1)]) hx hb dX9_winters_44 hl (by decide) rfl (fun ls hl => ?_)
        refine lv_iconst (v := 0) hx hb dX9_winters_46 (by decide) ?_
        refine lv_istore (lv' := [(6, .int 0), (5, .int 0), (4, .int x4_10), (3, .int x3_7), (2, .int v3), (0, .ref (a 0)), (1, .int x1)]) hx hb dX9_winters_47 hl (by decide) rfl (fun ls hl => ?_)
        refine wl2_ind (G := fun (x6_14 : Int32) (x5_15 : Int32) => ∀ (H : Heap) (locs : List Loc) (ls : Array Slot), wV D A s.heap (mW cy a S11) H locs → lv_has ls 7 [(6, .int x6_14), (5, .int x5_15), (4, .int x4_10), (3, .int x3_7), (2, .int v3), (0, .ref (a 0)), (1, .int x1)] → W p l e (rmN 2) s m args below meth c H locs 0 0 (MQ below (eV D cy A (mW cy a) Q) args s (rmN 2).cells (rmN 2).slots A) (F0 m 49 ls [])) ?_ _ _ hm H locs ls hw (lv_sub hl [0, 1, 2, 3, 4, 5, 6] rfl)
        intro L16 ih16 x6_14 x5_15 hm H locs ls hw hl
        refine lv_iload hx hb dX9_winters_49 (lv_at hl 0 rfl) ?_
        refine lv_iload hx hb dX9_winters_51 (lv_at hl 2 rfl) ?_
        refine lv_icmp_gt (tgt := 115) hx hb dX9_winters_53 (by decide) (fun c32 => ?_) (fun c32 => ?_)
        · have hm := hm.1 c32
          refine lv_aload_n hx hb dX9_winters_115 rfl (lv_at hl 5 rfl) ?_
          refine gF (k := 37) hc hw inX9 rfl 0 rfl (by decide) (gm 1096 (by decide +kernel) rfl) rfl dX9_winters_116 ?_
          refine lv_sipush (v := 1024) hx hb dX9_winters_119 (by decide) ?_
          refine lv_iload_n hx hb dX9_winters_122 rfl (lv_at hl 3 rfl) ?_
          refine lv_imul hx hb dX9_winters_123 ?_
          refine lv_iload hx hb dX9_winters_124 (lv_at hl 2 rfl) ?_
          refine lv_iadd hx hb dX9_winters_126 ?_
          refine lv_iload hx hb dX9_winters_127 (lv_at hl 1 rfl) ?_
          obtain ⟨c17, hm⟩ := hm
          refine sI hc hw 20 rfl c17 rfl dX9_winters_129 (fun H locs hw => ?_)
          obtain ⟨S18, e_S18⟩ : ∃ z : Ob, z = uA S11 37 (Int32.toNatClampNeg ((1024 * x3_7) + x4_10)) x5_15 := ⟨_, rfl⟩
          have hm := hm S18 e_S18
          have hw : wV D A s.heap (mW cy a S18) H locs := by rw [e_S18]; exact hw
          obtain ⟨v19, e_v19⟩ : ∃ z : Int32, z = x4_10 + 1 := ⟨_, rfl⟩
          have hm := hm v19 e_v19
          refine lv_iinc (v := v19) (lv' := [(4, .int v19), (6, .int x6_14), (5, .int x5_15), (3, .int x3_7), (2, .int v3), (0, .ref (a 0)), (1, .int x1)]) hx hb dX9_winters_130 hl (k := 2) rfl (by rw [e_v19]; rfl) (by decide) rfl (fun ls hl => ?_)
          refine lv_goto (tgt := 37) hx hb dX9_winters_133 (by decide) ?_
          exact ih12 _ _ hm _ _ _ hw (lv_sub hl [0, 3, 4, 5, 6] rfl)
        · have hm := hm.2 c32
          refine lv_iload hx hb dX9_winters_56 (lv_at hl 0 rfl) ?_
          refine lv_iload hx hb dX9_winters_58 (lv_at hl 2 rfl) ?_
          refine lv_iconst (v := (-1)) hx hb dX9_winters_60 (by decide) ?_
          refine lv_ixor hx hb dX9_winters_61 ?_
          refine lv_iand hx hb dX9_winters_62 ?_
          refine lv_if_ne (tgt := 109) hx hb dX9_winters_63 (by decide) (fun c31 => ?_) (fun c31 => ?_)
          · have hm := hm.1 c31
            obtain ⟨v20, e_v20⟩ : ∃ z : Int32, z = x6_14 + 1 := ⟨_, rfl⟩
            have hm := hm v20 e_v20
            refine lv_iinc (v := v20) (lv' := [(6, .int v20), (5, .int x5_15), (4, .int x4_10), (3, .int x3_7), (2, .int v3), (0, .ref (a 0)), (1, .int x1)]) hx hb dX9_winters_109 hl (k := 0) rfl (by rw [e_v20]; rfl) (by decide) rfl (fun ls hl => ?_)
            refine lv_goto (tgt := 49) hx hb dX9_winters_112 (by decide) ?_
            exact ih16 _ _ hm _ _ _ hw (lv_sub hl [0, 1, 2, 3, 4, 5, 6] rfl)
          · have hm := hm.2 c31
            refine lv_aload_n hx hb dX9_winters_66 rfl (lv_at hl 5 rfl) ?_
            refine lv_iload hx hb dX9_winters_67 (lv_at hl 0 rfl) ?_
            refine aV_I (As := [.int x6_14]) (rest := []) hc hw (c_M_isEvening hm) lk_X9_354 rfl rfl ⟨Nat.le_of_ble_eq_true rfl, Nat.le_of_ble_eq_true rfl⟩ ⟨Nat.le_of_ble_eq_true rfl, Nat.le_of_ble_eq_true rfl⟩ hl.1 rfl (Nat.le_of_ble_eq_true rfl) rfl dX9_winters_69 (fun r21 _ H locs hm hw => ?_)
            have hw : wV D A s.heap (mW cy a S11) H locs := hw
            refine lv_if_eq (tgt := 109) hx hb dX9_winters_72 (by decide) (fun c30 => ?_) (fun c30 => ?_)
            · have hm := hm.1 c30
              obtain ⟨v23, e_v23⟩ : ∃ z : Int32, z = x6_14 + 1 := ⟨_, rfl⟩
              have hm := hm v23 e_v23
              refine lv_iinc (v := v23) (lv' := [(6, .int v23), (5, .int x5_15), (4, .int x4_10), (3, .int x3_7), (2, .int v3), (0, .ref (a 0)), (1, .int x1)]) hx hb dX9_winters_109 hl (k := 0) rfl (by rw [e_v23]; rfl) (by decide) rfl (fun ls hl => ?_)
              refine lv_goto (tgt := 49) hx hb dX9_winters_112 (by decide) ?_
              exact ih16 _ _ hm _ _ _ hw (lv_sub hl [0, 1, 2, 3, 4, 5, 6] rfl)
            · have hm := hm.2 c30
              refine lv_iload hx hb dX9_winters_75 (lv_at hl 1 rfl) ?_
              refine lv_aload_n hx hb dX9_winters_77 rfl (lv_at hl 5 rfl) ?_
              refine lv_iload hx hb dX9_winters_78 (lv_at hl 0 rfl) ?_
              refine aV_I (As := [.int x6_14]) (rest := [.int x5_15]) hc hw (c_M_worthOf hm) lk_X9_322 rfl rfl ⟨Nat.le_of_ble_eq_true rfl, Nat.le_of_ble_eq_true rfl⟩ ⟨Nat.le_of_ble_eq_true rfl, Nat.le_of_ble_eq_true rfl⟩ hl.1 rfl (Nat.le_of_ble_eq_true rfl) rfl dX9_winters_80 (fun r24 _ H locs hm hw => ?_)
              have hw : wV D A s.heap (mW cy a S11) H locs := hw
              refine lv_aload_n hx hb dX9_winters_83 rfl (lv_at hl 5 rfl) ?_
              refine gF (k := 37) hc hw inX9 rfl 0 rfl (by decide) (gm 1096 (by decide +kernel) rfl) rfl dX9_winters_84 ?_
              refine lv_sipush (v := 1024) hx hb dX9_winters_87 (by decide) ?_
              refine lv_iload_n hx hb dX9_winters_90 rfl (lv_at hl 3 rfl) ?_
              refine lv_iconst (v := 1) hx hb dX9_winters_91 (by decide) ?_
              refine lv_isub hx hb dX9_winters_92 ?_
              refine lv_imul hx hb dX9_winters_93 ?_
              refine lv_iload hx hb dX9_winters_94 (lv_at hl 2 rfl) ?_
              refine lv_iload hx hb dX9_winters_96 (lv_at hl 0 rfl) ?_
              refine lv_iconst (v := (-1)) hx hb dX9_winters_98 (by decide) ?_
              refine lv_ixor hx hb dX9_winters_99 ?_
              refine lv_iand hx hb dX9_winters_100 ?_
              refine lv_iadd hx hb dX9_winters_101 ?_
              obtain ⟨c26, hm⟩ := hm
              refine aI hc hw 20 rfl c26 rfl dX9_winters_102 ?_
              refine lv_iadd hx hb dX9_winters_103 ?_
              refine zS_I (As := [.int x5_15, .int (r24 + (S11.2 37 (Int32.toNatClampNeg ((1024 * (x3_7 - 1)) + (x4_10 &&& (x6_14 ^^^ (-1)))))))]) (rest := []) hc hw (c_M_greater hm) lk_X9_291 ⟨Nat.le_of_ble_eq_true rfl, Nat.le_of_ble_eq_true rfl⟩ ⟨Nat.le_of_ble_eq_true rfl, Nat.le_of_ble_eq_true rfl⟩ hl.1 rfl (Nat.le_of_ble_eq_true rfl) rfl dX9_winters_104 (fun r27 H locs hm hw => ?_)
              refine lv_istore (lv' := [(5, .int r27), (6, .int x6_14), (4, .int x4_10), (3, .int x3_7), (2, .int v3), (0, .ref (a 0)), (1, .int x1)]) hx hb dX9_winters_107 hl (by decide) rfl (fun ls hl => ?_)
              obtain ⟨v29, e_v29⟩ : ∃ z : Int32, z = x6_14 + 1 := ⟨_, rfl⟩
              have hm := hm v29 e_v29
              refine lv_iinc (v := v29) (lv' := [(6, .int v29), (5, .int r27), (4, .int x4_10), (3, .int x3_7), (2, .int v3), (0, .ref (a 0)), (1, .int x1)]) hx hb dX9_winters_109 hl (k := 1) rfl (by rw [e_v29]; rfl) (by decide) rfl (fun ls hl => ?_)
              refine lv_goto (tgt := 49) hx hb dX9_winters_112 (by decide) ?_
              exact ih16 _ _ hm _ _ _ hw (lv_sub hl [0, 1, 2, 3, 4, 5, 6] rfl)
  · have hm := hm.2 c38
    refine lv_aload_n hx hb dX9_winters_14 rfl (lv_at hl 2 rfl) ?_
    refine gF (k := 37) hc hw inX9 rfl 0 rfl (by decide) (gm 1096 (by decide +kernel) rfl) rfl dX9_winters_15 ?_
    refine lv_iload_n hx hb dX9_winters_18 rfl (lv_at hl 0 rfl) ?_
    refine lv_iconst (v := 0) hx hb dX9_winters_19 (by decide) ?_
    obtain ⟨c35, hm⟩ := hm
    refine sI hc hw 20 rfl c35 rfl dX9_winters_20 (fun H locs hw => ?_)
    obtain ⟨S36, e_S36⟩ : ∃ z : Ob, z = uA S5 37 (Int32.toNatClampNeg x3_4) 0 := ⟨_, rfl⟩
    have hm := hm S36 e_S36
    have hw : wV D A s.heap (mW cy a S36) H locs := by rw [e_S36]; exact hw
    obtain ⟨v37, e_v37⟩ : ∃ z : Int32, z = x3_4 + 1 := ⟨_, rfl⟩
    have hm := hm v37 e_v37
    refine lv_iinc (v := v37) (lv' := [(3, .int v37), (2, .int v3), (0, .ref (a 0)), (1, .int x1)]) hx hb dX9_winters_21 hl (k := 0) rfl (by rw [e_v37]; rfl) (by decide) rfl (fun ls hl => ?_)
    refine lv_goto (tgt := 9) hx hb dX9_winters_24 (by decide) ?_
    exact ih6 _ _ hm _ _ _ hw (lv_sub hl [0, 1, 2, 3] rfl)
set_option maxHeartbeats 4000000 in
set_option maxRecDepth 100000 in
theorem c_M_winter {l : Launch} {D : va_G} {cy : Nat → ClassId} {a : Nat → Nat} {S : Ob} {x1 : Int32} {x2 : Int32} {Q : Int32 → Ob → Prop} (hm : wM_winter S x1 x2 Q) : CtI l yX9_winter cX9_winter 7 (some .int) (rmN 103) D cy [.ref (a 0), .int x1, .int x2] (mW cy a S) (mW cy a) Q := by
  refine CtI.ofW (by decide) (Nat.le_of_ble_eq_true rfl) ?_
  intro p e s m args below meth c A ls hc hnm hw hl
  have hx := hc.1.1
  have hb := hc.1.2.1
  have hown := hc.1.2.2.2.1
  have hts := hc.1.2.2.2.2
  have hl : lv_has ls 7 [(0, .ref (a 0)), (1, .int x1), (2, .int x2)] := hl
  obtain ⟨H, hH⟩ : ∃ z, z = s.heap := ⟨_, rfl⟩
  obtain ⟨locs, hLc⟩ : ∃ z : List Loc, z = [] := ⟨_, rfl⟩
  have hw : wV D A s.heap (mW cy a S) H locs := by rw [hH, hLc]; exact hw
  have hgo : W p l e (rmN 103) s m args below meth c H locs 0 0 (MQ below (eI D cy A (mW cy a) Q) args s (rmN 103).cells (rmN 103).slots A) (F0 m 0 ls []) := ?hgo
  · rw [hH, hLc] at hgo; exact hgo
  refine lv_iload_n hx hb dX9_winter_0 rfl (lv_at hl 1 rfl) ?_
  refine lv_iconst (v := 1) hx hb dX9_winter_1 (by decide) ?_
  refine lv_iconst (v := 4) hx hb dX9_winter_2 (by decide) ?_
  refine zS_I (As := [.int x1, .int 1, .int 4]) (rest := []) hc hw (c_M_lies hm) lk_X9_94 ⟨Nat.le_of_ble_eq_true rfl, Nat.le_of_ble_eq_true rfl⟩ ⟨Nat.le_of_ble_eq_true rfl, Nat.le_of_ble_eq_true rfl⟩ hl.1 rfl (Nat.le_of_ble_eq_true rfl) rfl dX9_winter_3 (fun r1 H locs hm hw => ?_)
  refine lv_if_eq (tgt := 25) hx hb dX9_winter_6 (by decide) (fun c40 => ?_) (fun c40 => ?_)
  · have hm := hm.1 c40
    refine lv_iconst (v := (-1)) hx hb dX9_winter_25 (by decide) ?_
    exact retI (u := S) hc hw hm dX9_winter_26
  · have hm := hm.2 c40
    refine lv_iload_n hx hb dX9_winter_9 rfl (lv_at hl 2 rfl) ?_
    refine lv_iconst (v := (-1)) hx hb dX9_winter_10 (by decide) ?_
    obtain ⟨J4, eJ4, hm⟩ := jn_e hm
    have hJ4 : ∀ (z3 : Unit) (_ : J4 z3) (H : Heap) (locs : List Loc) (ls : Array Slot), wV D A s.heap (mW cy a S) H locs → lv_has ls 7 [(0, .ref (a 0)), (1, .int x1), (2, .int x2)] → W p l e (rmN 103) s m args below meth c H locs 0 0 (MQ below (eI D cy A (mW cy a) Q) args s (rmN 103).cells (rmN 103).slots A) (F0 m 27 ls []) := by
      intro z3 hm H locs ls hw hl
      rw [eJ4] at hm
      refine lv_aload_n hx hb dX9_winter_27 rfl (lv_at hl 0 rfl) ?_
      refine aV_V (As := []) (rest := []) hc hw (c_M_looks hm) lk_X9_279 rfl rfl ⟨Nat.le_of_ble_eq_true rfl, Nat.le_of_ble_eq_true rfl⟩ ⟨Nat.le_of_ble_eq_true rfl, Nat.le_of_ble_eq_true rfl⟩ hl.1 rfl (Nat.le_of_ble_eq_true rfl) rfl dX9_winter_28 (fun S5 H locs hm hw => ?_)
      have hw : wV D A s.heap (mW cy a S5) H locs := hw
      refine lv_aload_n hx hb dX9_winter_31 rfl (lv_at hl 0 rfl) ?_
      refine lv_iload_n hx hb dX9_winter_32 rfl (lv_at hl 1 rfl) ?_
      refine aV_V (As := [.int x1]) (rest := []) hc hw (c_M_winters hm) lk_X9_357 rfl rfl ⟨Nat.le_of_ble_eq_true rfl, Nat.le_of_ble_eq_true rfl⟩ ⟨Nat.le_of_ble_eq_true rfl, Nat.le_of_ble_eq_true rfl⟩ hl.1 rfl (Nat.le_of_ble_eq_true rfl) rfl dX9_winter_33 (fun S7 H locs hm hw => ?_)
      have hw : wV D A s.heap (mW cy a S7) H locs := hw
      refine lv_iconst (v := 1) hx hb dX9_winter_36 (by decide) ?_
      refine lv_aload_n hx hb dX9_winter_37 rfl (lv_at hl 0 rfl) ?_
      refine aV_I (As := []) (rest := [.int 1]) hc hw (c_M_tales hm) lk_X9_105 rfl rfl ⟨Nat.le_of_ble_eq_true rfl, Nat.le_of_ble_eq_true rfl⟩ ⟨Nat.le_of_ble_eq_true rfl, Nat.le_of_ble_eq_true rfl⟩ hl.1 rfl (Nat.le_of_ble_eq_true rfl) rfl dX9_winter_38 (fun r9 _ H locs hm hw => ?_)
      have hw : wV D A s.heap (mW cy a S7) H locs := hw
      refine lv_ishl hx hb dX9_winter_41 ?_
      refine lv_iconst (v := 1) hx hb dX9_winter_42 (by decide) ?_
      refine lv_isub hx hb dX9_winter_43 ?_
      refine lv_topi (fun v11 e_v11 => ?_)
      have hm := hm v11 e_v11
      refine lv_istore_n (lv' := [(3, .int v11), (0, .ref (a 0)), (1, .int x1), (2, .int x2)]) hx hb dX9_winter_44 rfl hl (by decide) rfl (fun ls hl => ?_)
      refine lv_iload_n hx hb dX9_winter_45 rfl (lv_at hl 3 rfl) ?_
      refine lv_iconst (v := (-1)) hx hb dX9_winter_46 (by decide) ?_
      refine lv_icmp_ne (tgt := 63) hx hb dX9_winter_47 (by decide) (fun c35 => ?_) (fun c35 => ?_)
      · have hm := hm.1 c35
        refine lv_iconst (v := 0) hx hb dX9_winter_63 (by decide) ?_
        refine lv_istore (lv' := [(4, .int 0), (3, .int v11), (0, .ref (a 0)), (1, .int x1), (2, .int x2)]) hx hb dX9_winter_64 hl (by decide) rfl (fun ls hl => ?_)
        refine lv_iconst (v := 0) hx hb dX9_winter_66 (by decide) ?_
        refine lv_istore (lv' := [(5, .int 0), (4, .int 0), (3, .int v11), (0, .ref (a 0)), (1, .int x1), (2, .int x2)]) hx hb dX9_winter_67 hl (by decide) rfl (fun ls hl => ?_)
        refine wl3_ind (G := fun (x5_12 : Int32) (x4_13 : Int32) (x3_14 : Int32) => ∀ (H : Heap) (locs : List Loc) (ls : Array Slot), wV D A s.heap (mW cy a S7) H locs → lv_has ls 7 [(5, .int x5_12), (4, .int x4_13), (3, .int x3_14), (0, .ref (a 0)), (1, .int x1), (2, .int x2)] → W p l e (rmN 103) s m args below meth c H locs 0 0 (MQ below (eI D cy A (mW cy a) Q) args s (rmN 103).cells (rmN 103).slots A) (F0 m 69 ls [])) ?_ _ _ _ hm H locs ls hw (lv_sub hl [0, 1, 2, 3, 4, 5] rfl)
        intro L15 ih15 x5_12 x4_13 x3_14 hm H locs ls hw hl
        refine lv_iload hx hb dX9_winter_69 (lv_at hl 0 rfl) ?_
        refine lv_iload_n hx hb dX9_winter_71 rfl (lv_at hl 5 rfl) ?_
        refine lv_icmp_gt (tgt := 164) hx hb dX9_winter_72 (by decide) (fun c33 => ?_) (fun c33 => ?_)
        · have hm := hm.1 c33
          refine lv_iload hx hb dX9_winter_164 (lv_at hl 1 rfl) ?_
          exact retI (u := S7) hc hw hm dX9_winter_166
        · have hm := hm.2 c33
          refine lv_iload_n hx hb dX9_winter_75 rfl (lv_at hl 2 rfl) ?_
          refine lv_iload hx hb dX9_winter_76 (lv_at hl 1 rfl) ?_
          refine lv_iconst (v := (-1)) hx hb dX9_winter_78 (by decide) ?_
          refine lv_ixor hx hb dX9_winter_79 ?_
          refine lv_iand hx hb dX9_winter_80 ?_
          refine lv_topi (fun v16 e_v16 => ?_)
          have hm := hm v16 e_v16
          refine lv_istore_n (lv' := [(3, .int v16), (5, .int x5_12), (4, .int x4_13), (0, .ref (a 0)), (1, .int x1), (2, .int x2)]) hx hb dX9_winter_81 rfl hl (by decide) rfl (fun ls hl => ?_)
          refine lv_iload_n hx hb dX9_winter_82 rfl (lv_at hl 4 rfl) ?_
          refine lv_iload hx hb dX9_winter_83 (lv_at hl 1 rfl) ?_
          refine lv_isub hx hb dX9_winter_85 ?_
          refine lv_topi (fun v17 e_v17 => ?_)
          have hm := hm v17 e_v17
          refine lv_istore (lv' := [(6, .int v17), (3, .int v16), (5, .int x5_12), (4, .int x4_13), (0, .ref (a 0)), (1, .int x1), (2, .int x2)]) hx hb dX9_winter_86 hl (by decide) rfl (fun ls hl => ?_)
          refine lv_iconst (v := 0) hx hb dX9_winter_88 (by decide) ?_
          refine lv_istore (lv' := [(4, .int 0), (6, .int v17), (3, .int v16), (5, .int x5_12), (0, .ref (a 0)), (1, .int x1), (2, .int x2)]) hx hb dX9_winter_89 hl (by decide) rfl (fun ls hl => ?_)
          refine wl1_ind (G := fun (x4_18 : Int32) => ∀ (H : Heap) (locs : List Loc) (ls : Array Slot), wV D A s.heap (mW cy a S7) H locs → lv_has ls 7 [(4, .int x4_18), (6, .int v17), (3, .int v16), (5, .int x5_12), (0, .ref (a 0)), (1, .int x1), (2, .int x2)] → W p l e (rmN 103) s m args below meth c H locs 0 0 (MQ below (eI D cy A (mW cy a) Q) args s (rmN 103).cells (rmN 103).slots A) (F0 m 91 ls [])) ?_ _ hm H locs ls hw (lv_sub hl [0, 1, 2, 3, 4, 5, 6] rfl)
          intro L19 ih19 x4_18 hm H locs ls hw hl
          refine lv_iload hx hb dX9_winter_91 (lv_at hl 0 rfl) ?_
          refine lv_iload_n hx hb dX9_winter_93 rfl (lv_at hl 2 rfl) ?_
          refine lv_iconst (v := (-1)) hx hb dX9_winter_94 (by decide) ?_
          refine lv_ixor hx hb dX9_winter_95 ?_
          refine lv_iand hx hb dX9_winter_96 ?_
          refine lv_if_ne (tgt := 152) hx hb dX9_winter_97 (by decide) (fun c32 => ?_) (fun c32 => ?_)
          · have hm := hm.1 c32
            obtain ⟨v20, e_v20⟩ : ∃ z : Int32, z = x4_18 + 1 := ⟨_, rfl⟩
            have hm := hm v20 e_v20
            refine lv_iinc (v := v20) (lv' := [(4, .int v20), (6, .int v17), (3, .int v16), (5, .int x5_12), (0, .ref (a 0)), (1, .int x1), (2, .int x2)]) hx hb dX9_winter_152 hl (k := 0) rfl (by rw [e_v20]; rfl) (by decide) rfl (fun ls hl => ?_)
            refine lv_goto (tgt := 91) hx hb dX9_winter_155 (by decide) ?_
            exact ih19 _ hm _ _ _ hw (lv_sub hl [0, 1, 2, 3, 4, 5, 6] rfl)
          · have hm := hm.2 c32
            refine lv_aload_n hx hb dX9_winter_100 rfl (lv_at hl 4 rfl) ?_
            refine lv_iload hx hb dX9_winter_101 (lv_at hl 0 rfl) ?_
            refine aV_I (As := [.int x4_18]) (rest := []) hc hw (c_M_isEvening hm) lk_X9_354 rfl rfl ⟨Nat.le_of_ble_eq_true rfl, Nat.le_of_ble_eq_true rfl⟩ ⟨Nat.le_of_ble_eq_true rfl, Nat.le_of_ble_eq_true rfl⟩ hl.1 rfl (Nat.le_of_ble_eq_true rfl) rfl dX9_winter_103 (fun r21 _ H locs hm hw => ?_)
            have hw : wV D A s.heap (mW cy a S7) H locs := hw
            refine lv_if_eq (tgt := 152) hx hb dX9_winter_106 (by decide) (fun c31 => ?_) (fun c31 => ?_)
            · have hm := hm.1 c31
              obtain ⟨v23, e_v23⟩ : ∃ z : Int32, z = x4_18 + 1 := ⟨_, rfl⟩
              have hm := hm v23 e_v23
              refine lv_iinc (v := v23) (lv' := [(4, .int v23), (6, .int v17), (3, .int v16), (5, .int x5_12), (0, .ref (a 0)), (1, .int x1), (2, .int x2)]) hx hb dX9_winter_152 hl (k := 0) rfl (by rw [e_v23]; rfl) (by decide) rfl (fun ls hl => ?_)
              refine lv_goto (tgt := 91) hx hb dX9_winter_155 (by decide) ?_
              exact ih19 _ hm _ _ _ hw (lv_sub hl [0, 1, 2, 3, 4, 5, 6] rfl)
            · have hm := hm.2 c31
              refine lv_aload_n hx hb dX9_winter_109 rfl (lv_at hl 4 rfl) ?_
              refine lv_iload hx hb dX9_winter_110 (lv_at hl 0 rfl) ?_
              refine aV_I (As := [.int x4_18]) (rest := []) hc hw (c_M_worthOf hm) lk_X9_322 rfl rfl ⟨Nat.le_of_ble_eq_true rfl, Nat.le_of_ble_eq_true rfl⟩ ⟨Nat.le_of_ble_eq_true rfl, Nat.le_of_ble_eq_true rfl⟩ hl.1 rfl (Nat.le_of_ble_eq_true rfl) rfl dX9_winter_112 (fun r24 _ H locs hm hw => ?_)
              have hw : wV D A s.heap (mW cy a S7) H locs := hw
              refine lv_aload_n hx hb dX9_winter_115 rfl (lv_at hl 4 rfl) ?_
              refine gF (k := 37) hc hw inX9 rfl 0 rfl (by decide) (gm 1096 (by decide +kernel) rfl) rfl dX9_winter_116 ?_
              refine lv_sipush (v := 1024) hx hb dX9_winter_119 (by decide) ?_
              refine lv_iload hx hb dX9_winter_122 (lv_at hl 1 rfl) ?_
              refine lv_iconst (v := 1) hx hb dX9_winter_124 (by decide) ?_
              refine lv_isub hx hb dX9_winter_125 ?_
              refine lv_imul hx hb dX9_winter_126 ?_
              refine lv_iload_n hx hb dX9_winter_127 rfl (lv_at hl 2 rfl) ?_
              refine lv_iload hx hb dX9_winter_128 (lv_at hl 0 rfl) ?_
              refine lv_iconst (v := (-1)) hx hb dX9_winter_130 (by decide) ?_
              refine lv_ixor hx hb dX9_winter_131 ?_
              refine lv_iand hx hb dX9_winter_132 ?_
              refine lv_iadd hx hb dX9_winter_133 ?_
              obtain ⟨c26, hm⟩ := hm
              refine aI hc hw 20 rfl c26 rfl dX9_winter_134 ?_
              refine lv_iadd hx hb dX9_winter_135 ?_
              refine lv_aload_n hx hb dX9_winter_136 rfl (lv_at hl 4 rfl) ?_
              refine gF (k := 37) hc hw inX9 rfl 0 rfl (by decide) (gm 1096 (by decide +kernel) rfl) rfl dX9_winter_137 ?_
              refine lv_sipush (v := 1024) hx hb dX9_winter_140 (by decide) ?_
              refine lv_iload hx hb dX9_winter_143 (lv_at hl 1 rfl) ?_
              refine lv_imul hx hb dX9_winter_145 ?_
              refine lv_iload_n hx hb dX9_winter_146 rfl (lv_at hl 2 rfl) ?_
              refine lv_iadd hx hb dX9_winter_147 ?_
              obtain ⟨c27, hm⟩ := hm
              refine aI hc hw 20 rfl c27 rfl dX9_winter_148 ?_
              refine lv_icmp_eq (tgt := 158) hx hb dX9_winter_149 (by decide) (fun c30 => ?_) (fun c30 => ?_)
              · have hm := hm.1 c30
                obtain ⟨v28, e_v28⟩ : ∃ z : Int32, z = x5_12 + 1 := ⟨_, rfl⟩
                have hm := hm v28 e_v28
                refine lv_iinc (v := v28) (lv' := [(5, .int v28), (4, .int x4_18), (6, .int v17), (3, .int v16), (0, .ref (a 0)), (1, .int x1), (2, .int x2)]) hx hb dX9_winter_158 hl (k := 3) rfl (by rw [e_v28]; rfl) (by decide) rfl (fun ls hl => ?_)
                refine lv_goto (tgt := 69) hx hb dX9_winter_161 (by decide) ?_
                exact ih15 _ _ _ hm _ _ _ hw (lv_sub hl [0, 1, 3, 4, 5, 6] rfl)
              · have hm := hm.2 c30
                obtain ⟨v29, e_v29⟩ : ∃ z : Int32, z = x4_18 + 1 := ⟨_, rfl⟩
                have hm := hm v29 e_v29
                refine lv_iinc (v := v29) (lv' := [(4, .int v29), (6, .int v17), (3, .int v16), (5, .int x5_12), (0, .ref (a 0)), (1, .int x1), (2, .int x2)]) hx hb dX9_winter_152 hl (k := 0) rfl (by rw [e_v29]; rfl) (by decide) rfl (fun ls hl => ?_)
                refine lv_goto (tgt := 91) hx hb dX9_winter_155 (by decide) ?_
                exact ih19 _ hm _ _ _ hw (lv_sub hl [0, 1, 2, 3, 4, 5, 6] rfl)
      · have hm := hm.2 c35
        refine lv_aload_n hx hb dX9_winter_50 rfl (lv_at hl 1 rfl) ?_
        refine gF (k := 37) hc hw inX9 rfl 0 rfl (by decide) (gm 1096 (by decide +kernel) rfl) rfl dX9_winter_51 ?_
        refine lv_sipush (v := 1024) hx hb dX9_winter_54 (by decide) ?_
        refine lv_iload_n hx hb dX9_winter_57 rfl (lv_at hl 2 rfl) ?_
        refine lv_imul hx hb dX9_winter_58 ?_
        refine lv_iload_n hx hb dX9_winter_59 rfl (lv_at hl 0 rfl) ?_
        refine lv_iadd hx hb dX9_winter_60 ?_
        obtain ⟨c34, hm⟩ := hm
        refine aI hc hw 20 rfl c34 rfl dX9_winter_61 ?_
        exact retI (u := S7) hc hw hm dX9_winter_62
    refine lv_icmp_eq (tgt := 27) hx hb dX9_winter_11 (by decide) (fun c39 => ?_) (fun c39 => ?_)
    · have hm := hm.1 c39
      exact hJ4 _ hm _ _ _ hw (lv_sub hl [0, 1, 2] rfl)
    · have hm := hm.2 c39
      refine lv_iload_n hx hb dX9_winter_14 rfl (lv_at hl 2 rfl) ?_
      refine lv_iconst (v := 0) hx hb dX9_winter_15 (by decide) ?_
      refine lv_iload_n hx hb dX9_winter_16 rfl (lv_at hl 1 rfl) ?_
      refine lv_iconst (v := 1) hx hb dX9_winter_17 (by decide) ?_
      refine lv_isub hx hb dX9_winter_18 ?_
      refine zS_I (As := [.int x2, .int 0, .int (x1 - 1)]) (rest := []) hc hw (c_M_lies hm) lk_X9_94 ⟨Nat.le_of_ble_eq_true rfl, Nat.le_of_ble_eq_true rfl⟩ ⟨Nat.le_of_ble_eq_true rfl, Nat.le_of_ble_eq_true rfl⟩ hl.1 rfl (Nat.le_of_ble_eq_true rfl) rfl dX9_winter_19 (fun r36 H locs hm hw => ?_)
      refine lv_if_ne (tgt := 27) hx hb dX9_winter_22 (by decide) (fun c38 => ?_) (fun c38 => ?_)
      · have hm := hm.1 c38
        exact hJ4 _ hm _ _ _ hw (lv_sub hl [0, 1, 2] rfl)
      · have hm := hm.2 c38
        refine lv_iconst (v := (-1)) hx hb dX9_winter_25 (by decide) ?_
        exact retI (u := S) hc hw hm dX9_winter_26
set_option maxHeartbeats 4000000 in
set_option maxRecDepth 100000 in
theorem c_M_learn {l : Launch} {D : va_G} {cy : Nat → ClassId} {a : Nat → Nat} {S : Ob} {x1 : Int32} {x2 : Int32} {Q : Int32 → Ob → Prop} (hm : wM_learn S x1 x2 Q) : CtI l yX9_learn cX9_learn 7 (some .int) (rmN 102) D cy [.ref (a 0), .int x1, .int x2] (mW cy a S) (mW cy a) Q := by
  refine CtI.ofW (by decide) (Nat.le_of_ble_eq_true rfl) ?_
  intro p e s m args below meth c A ls hc hnm hw hl
  have hx := hc.1.1
  have hb := hc.1.2.1
  have hown := hc.1.2.2.2.1
  have hts := hc.1.2.2.2.2
  have hl : lv_has ls 7 [(0, .ref (a 0)), (1, .int x1), (2, .int x2)] := hl
  obtain ⟨H, hH⟩ : ∃ z, z = s.heap := ⟨_, rfl⟩
  obtain ⟨locs, hLc⟩ : ∃ z : List Loc, z = [] := ⟨_, rfl⟩
  have hw : wV D A s.heap (mW cy a S) H locs := by rw [hH, hLc]; exact hw
  have hgo : W p l e (rmN 102) s m args below meth c H locs 0 0 (MQ below (eI D cy A (mW cy a) Q) args s (rmN 102).cells (rmN 102).slots A) (F0 m 0 ls []) := ?hgo
  · rw [hH, hLc] at hgo; exact hgo
  refine lv_aload_n hx hb dX9_learn_0 rfl (lv_at hl 0 rfl) ?_
  refine lv_iload_n hx hb dX9_learn_1 rfl (lv_at hl 1 rfl) ?_
  refine aV_I (As := [.int x1]) (rest := []) hc hw (c_M_isTeller hm) lk_X9_282 rfl rfl ⟨Nat.le_of_ble_eq_true rfl, Nat.le_of_ble_eq_true rfl⟩ ⟨Nat.le_of_ble_eq_true rfl, Nat.le_of_ble_eq_true rfl⟩ hl.1 rfl (Nat.le_of_ble_eq_true rfl) rfl dX9_learn_2 (fun r1 _ H locs hm hw => ?_)
  have hw : wV D A s.heap (mW cy a S) H locs := hw
  refine lv_if_eq (tgt := 17) hx hb dX9_learn_5 (by decide) (fun c41 => ?_) (fun c41 => ?_)
  · have hm := hm.1 c41
    refine lv_iconst (v := (-1)) hx hb dX9_learn_17 (by decide) ?_
    exact retI (u := S) hc hw hm dX9_learn_18
  · have hm := hm.2 c41
    refine lv_iload_n hx hb dX9_learn_8 rfl (lv_at hl 2 rfl) ?_
    refine lv_iconst (v := 0) hx hb dX9_learn_9 (by decide) ?_
    refine lv_iconst (v := 1) hx hb dX9_learn_10 (by decide) ?_
    refine zS_I (As := [.int x2, .int 0, .int 1]) (rest := []) hc hw (c_M_lies hm) lk_X9_94 ⟨Nat.le_of_ble_eq_true rfl, Nat.le_of_ble_eq_true rfl⟩ ⟨Nat.le_of_ble_eq_true rfl, Nat.le_of_ble_eq_true rfl⟩ hl.1 rfl (Nat.le_of_ble_eq_true rfl) rfl dX9_learn_11 (fun r3 H locs hm hw => ?_)
    refine lv_if_ne (tgt := 19) hx hb dX9_learn_14 (by decide) (fun c40 => ?_) (fun c40 => ?_)
    · have hm := hm.1 c40
      refine lv_iconst (v := (-1)) hx hb dX9_learn_19 (by decide) ?_
      refine lv_istore_n (lv' := [(3, .int (-1)), (0, .ref (a 0)), (1, .int x1), (2, .int x2)]) hx hb dX9_learn_20 rfl hl (by decide) rfl (fun ls hl => ?_)
      refine lv_iconst (v := (-1)) hx hb dX9_learn_21 (by decide) ?_
      refine lv_istore (lv' := [(4, .int (-1)), (3, .int (-1)), (0, .ref (a 0)), (1, .int x1), (2, .int x2)]) hx hb dX9_learn_22 hl (by decide) rfl (fun ls hl => ?_)
      refine lv_iconst (v := 0) hx hb dX9_learn_24 (by decide) ?_
      refine lv_istore (lv' := [(5, .int 0), (4, .int (-1)), (3, .int (-1)), (0, .ref (a 0)), (1, .int x1), (2, .int x2)]) hx hb dX9_learn_25 hl (by decide) rfl (fun ls hl => ?_)
      refine wl4_ind (G := fun (x5_5 : Int32) (x4_6 : Int32) (x3_7 : Int32) (S8 : Ob) => ∀ (H : Heap) (locs : List Loc) (ls : Array Slot), wV D A s.heap (mW cy a S8) H locs → lv_has ls 7 [(5, .int x5_5), (4, .int x4_6), (3, .int x3_7), (0, .ref (a 0)), (1, .int x1), (2, .int x2)] → W p l e (rmN 102) s m args below meth c H locs 0 0 (MQ below (eI D cy A (mW cy a) Q) args s (rmN 102).cells (rmN 102).slots A) (F0 m 27 ls [])) ?_ _ _ _ _ hm H locs ls hw (lv_sub hl [0, 1, 2, 3, 4, 5] rfl)
      intro L9 ih9 x5_5 x4_6 x3_7 S8 hm H locs ls hw hl
      refine lv_iload hx hb dX9_learn_27 (lv_at hl 0 rfl) ?_
      refine lv_aload_n hx hb dX9_learn_29 rfl (lv_at hl 3 rfl) ?_
      refine aV_I (As := []) (rest := [.int x5_5]) hc hw (c_M_tales hm) lk_X9_105 rfl rfl ⟨Nat.le_of_ble_eq_true rfl, Nat.le_of_ble_eq_true rfl⟩ ⟨Nat.le_of_ble_eq_true rfl, Nat.le_of_ble_eq_true rfl⟩ hl.1 rfl (Nat.le_of_ble_eq_true rfl) rfl dX9_learn_30 (fun r10 _ H locs hm hw => ?_)
      have hw : wV D A s.heap (mW cy a S8) H locs := hw
      refine lv_icmp_ge (tgt := 131) hx hb dX9_learn_33 (by decide) (fun c39 => ?_) (fun c39 => ?_)
      · have hm := hm.1 c39
        refine lv_aload_n hx hb dX9_learn_131 rfl (lv_at hl 3 rfl) ?_
        refine lv_iconst (v := (-1)) hx hb dX9_learn_132 (by decide) ?_
        refine pF (k := 29) (ty := .int) hc hw inX9 tyX9_ok nmX9 rfl 0 rfl (by decide) (gm 1088 (by decide +kernel) rfl) rfl (by decide +kernel) rfl rfl (Nat.le_of_ble_eq_true rfl) dX9_learn_133 (fun H locs hw => ?_)
        obtain ⟨S12, e_S12⟩ : ∃ z : Ob, z = uS S8 29 (-1) := ⟨_, rfl⟩
        have hm := hm S12 e_S12
        have hw : wV D A s.heap (mW cy a S12) H locs := by rw [e_S12]; exact hw
        refine lv_iload_n hx hb dX9_learn_136 rfl (lv_at hl 2 rfl) ?_
        refine lv_iconst (v := (-1)) hx hb dX9_learn_137 (by decide) ?_
        refine lv_icmp_eq (tgt := 145) hx hb dX9_learn_138 (by decide) (fun c14 => ?_) (fun c14 => ?_)
        · have hm := hm.1 c14
          refine lv_iload_n hx hb dX9_learn_145 rfl (lv_at hl 2 rfl) ?_
          refine lv_goto (tgt := 151) hx hb dX9_learn_146 (by decide) ?_
          exact retI (u := S12) hc hw hm dX9_learn_151
        · have hm := hm.2 c14
          refine lv_iload_n hx hb dX9_learn_141 rfl (lv_at hl 5 rfl) ?_
          refine lv_if_ne (tgt := 149) hx hb dX9_learn_142 (by decide) (fun c13 => ?_) (fun c13 => ?_)
          · have hm := hm.1 c13
            refine lv_iload hx hb dX9_learn_149 (lv_at hl 1 rfl) ?_
            exact retI (u := S12) hc hw hm dX9_learn_151
          · have hm := hm.2 c13
            refine lv_iload_n hx hb dX9_learn_145 rfl (lv_at hl 2 rfl) ?_
            refine lv_goto (tgt := 151) hx hb dX9_learn_146 (by decide) ?_
            exact retI (u := S12) hc hw hm dX9_learn_151
      · have hm := hm.2 c39
        refine lv_aload_n hx hb dX9_learn_36 rfl (lv_at hl 3 rfl) ?_
        refine lv_iload hx hb dX9_learn_37 (lv_at hl 0 rfl) ?_
        refine lv_iconst (v := 3) hx hb dX9_learn_39 (by decide) ?_
        refine aV_I (As := [.int x5_5, .int 3]) (rest := []) hc hw (c_M_factOf hm) lk_X9_121 rfl rfl ⟨Nat.le_of_ble_eq_true rfl, Nat.le_of_ble_eq_true rfl⟩ ⟨Nat.le_of_ble_eq_true rfl, Nat.le_of_ble_eq_true rfl⟩ hl.1 rfl (Nat.le_of_ble_eq_true rfl) rfl dX9_learn_40 (fun r15 _ H locs hm hw => ?_)
        have hw : wV D A s.heap (mW cy a S8) H locs := hw
        refine lv_iload_n hx hb dX9_learn_43 rfl (lv_at hl 4 rfl) ?_
        refine zS_I (As := [.int r15, .int x1]) (rest := []) hc hw (c_M_isIn hm) lk_X9_269 ⟨Nat.le_of_ble_eq_true rfl, Nat.le_of_ble_eq_true rfl⟩ ⟨Nat.le_of_ble_eq_true rfl, Nat.le_of_ble_eq_true rfl⟩ hl.1 rfl (Nat.le_of_ble_eq_true rfl) rfl dX9_learn_44 (fun r17 H locs hm hw => ?_)
        refine lv_if_eq (tgt := 53) hx hb dX9_learn_47 (by decide) (fun c38 => ?_) (fun c38 => ?_)
        · have hm := hm.1 c38
          refine lv_aload_n hx hb dX9_learn_53 rfl (lv_at hl 3 rfl) ?_
          refine gF (k := 3) hc hw inX9 rfl 0 rfl (by decide) (gm 1062 (by decide +kernel) rfl) rfl dX9_learn_54 ?_
          refine lv_iconst (v := 4) hx hb dX9_learn_57 (by decide) ?_
          refine lv_iload hx hb dX9_learn_58 (lv_at hl 0 rfl) ?_
          refine lv_imul hx hb dX9_learn_60 ?_
          refine lv_iconst (v := 3) hx hb dX9_learn_61 (by decide) ?_
          refine lv_iadd hx hb dX9_learn_62 ?_
          refine lv_dup2_11 hx hb dX9_learn_63 rfl rfl ?_
          obtain ⟨c19, hm⟩ := hm
          refine aI hc hw 2 rfl c19 rfl dX9_learn_64 ?_
          refine lv_iconst (v := 1) hx hb dX9_learn_65 (by decide) ?_
          refine lv_iload_n hx hb dX9_learn_66 rfl (lv_at hl 4 rfl) ?_
          refine lv_ishl hx hb dX9_learn_67 ?_
          refine lv_ior hx hb dX9_learn_68 ?_
          obtain ⟨c20, hm⟩ := hm
          refine sI hc hw 2 rfl c20 rfl dX9_learn_69 (fun H locs hw => ?_)
          obtain ⟨S21, e_S21⟩ : ∃ z : Ob, z = uA S8 3 (Int32.toNatClampNeg ((4 * x5_5) + 3)) ((S8.2 3 (Int32.toNatClampNeg ((4 * x5_5) + 3))) ||| ((1 : Int32) <<< (x1 &&& 31))) := ⟨_, rfl⟩
          have hm := hm S21 e_S21
          have hw : wV D A s.heap (mW cy a S21) H locs := by rw [e_S21]; exact hw
          refine lv_aload_n hx hb dX9_learn_70 rfl (lv_at hl 3 rfl) ?_
          refine aV_V (As := []) (rest := []) hc hw (c_M_lays hm) lk_X9_273 rfl rfl ⟨Nat.le_of_ble_eq_true rfl, Nat.le_of_ble_eq_true rfl⟩ ⟨Nat.le_of_ble_eq_true rfl, Nat.le_of_ble_eq_true rfl⟩ hl.1 rfl (Nat.le_of_ble_eq_true rfl) rfl dX9_learn_71 (fun S22 H locs hm hw => ?_)
          have hw : wV D A s.heap (mW cy a S22) H locs := hw
          refine lv_aload_n hx hb dX9_learn_74 rfl (lv_at hl 3 rfl) ?_
          refine aV_V (As := []) (rest := []) hc hw (c_M_needs hm) lk_X9_276 rfl rfl ⟨Nat.le_of_ble_eq_true rfl, Nat.le_of_ble_eq_true rfl⟩ ⟨Nat.le_of_ble_eq_true rfl, Nat.le_of_ble_eq_true rfl⟩ hl.1 rfl (Nat.le_of_ble_eq_true rfl) rfl dX9_learn_75 (fun S24 H locs hm hw => ?_)
          have hw : wV D A s.heap (mW cy a S24) H locs := hw
          refine lv_aload_n hx hb dX9_learn_78 rfl (lv_at hl 3 rfl) ?_
          refine lv_aload_n hx hb dX9_learn_79 rfl (lv_at hl 3 rfl) ?_
          refine lv_iconst (v := 0) hx hb dX9_learn_80 (by decide) ?_
          refine aV_I (As := [.int 0]) (rest := [.ref (a 0)]) hc hw (c_M_bestSet hm) lk_X9_328 rfl rfl ⟨Nat.le_of_ble_eq_true rfl, Nat.le_of_ble_eq_true rfl⟩ ⟨Nat.le_of_ble_eq_true rfl, Nat.le_of_ble_eq_true rfl⟩ hl.1 rfl (Nat.le_of_ble_eq_true rfl) rfl dX9_learn_81 (fun r26 S27 H locs hm hw => ?_)
          have hw : wV D A s.heap (mW cy a S27) H locs := hw
          refine aV_I (As := [.int r26]) (rest := []) hc hw (c_M_worthOf hm) lk_X9_322 rfl rfl ⟨Nat.le_of_ble_eq_true rfl, Nat.le_of_ble_eq_true rfl⟩ ⟨Nat.le_of_ble_eq_true rfl, Nat.le_of_ble_eq_true rfl⟩ hl.1 rfl (Nat.le_of_ble_eq_true rfl) rfl dX9_learn_84 (fun r29 _ H locs hm hw => ?_)
          have hw : wV D A s.heap (mW cy a S27) H locs := hw
          refine lv_istore (lv' := [(6, .int r29), (5, .int x5_5), (4, .int x4_6), (3, .int x3_7), (0, .ref (a 0)), (1, .int x1), (2, .int x2)]) hx hb dX9_learn_87 hl (by decide) rfl (fun ls hl => ?_)
          refine lv_aload_n hx hb dX9_learn_89 rfl (lv_at hl 4 rfl) ?_
          refine gF (k := 3) hc hw inX9 rfl 0 rfl (by decide) (gm 1062 (by decide +kernel) rfl) rfl dX9_learn_90 ?_
          refine lv_iconst (v := 4) hx hb dX9_learn_93 (by decide) ?_
          refine lv_iload hx hb dX9_learn_94 (lv_at hl 1 rfl) ?_
          refine lv_imul hx hb dX9_learn_96 ?_
          refine lv_iconst (v := 3) hx hb dX9_learn_97 (by decide) ?_
          refine lv_iadd hx hb dX9_learn_98 ?_
          refine lv_dup2_11 hx hb dX9_learn_99 rfl rfl ?_
          obtain ⟨c31, hm⟩ := hm
          refine aI hc hw 2 rfl c31 rfl dX9_learn_100 ?_
          refine lv_iconst (v := 1) hx hb dX9_learn_101 (by decide) ?_
          refine lv_iload_n hx hb dX9_learn_102 rfl (lv_at hl 5 rfl) ?_
          refine lv_ishl hx hb dX9_learn_103 ?_
          refine lv_iconst (v := (-1)) hx hb dX9_learn_104 (by decide) ?_
          refine lv_ixor hx hb dX9_learn_105 ?_
          refine lv_iand hx hb dX9_learn_106 ?_
          obtain ⟨c32, hm⟩ := hm
          refine sI hc hw 2 rfl c32 rfl dX9_learn_107 (fun H locs hw => ?_)
          obtain ⟨S33, e_S33⟩ : ∃ z : Ob, z = uA S27 3 (Int32.toNatClampNeg ((4 * x5_5) + 3)) ((S27.2 3 (Int32.toNatClampNeg ((4 * x5_5) + 3))) &&& (((1 : Int32) <<< (x1 &&& 31)) ^^^ (-1))) := ⟨_, rfl⟩
          have hm := hm S33 e_S33
          have hw : wV D A s.heap (mW cy a S33) H locs := by rw [e_S33]; exact hw
          refine lv_iload hx hb dX9_learn_108 (lv_at hl 0 rfl) ?_
          refine lv_iload hx hb dX9_learn_110 (lv_at hl 2 rfl) ?_
          refine lv_icmp_gt (tgt := 118) hx hb dX9_learn_112 (by decide) (fun c36 => ?_) (fun c36 => ?_)
          · have hm := hm.1 c36
            refine lv_iload hx hb dX9_learn_118 (lv_at hl 0 rfl) ?_
            refine lv_istore (lv' := [(4, .int r29), (6, .int r29), (5, .int x5_5), (3, .int x3_7), (0, .ref (a 0)), (1, .int x1), (2, .int x2)]) hx hb dX9_learn_120 hl (by decide) rfl (fun ls hl => ?_)
            refine lv_iload hx hb dX9_learn_122 (lv_at hl 2 rfl) ?_
            refine lv_istore_n (lv' := [(3, .int x5_5), (4, .int r29), (6, .int r29), (5, .int x5_5), (0, .ref (a 0)), (1, .int x1), (2, .int x2)]) hx hb dX9_learn_124 rfl hl (by decide) rfl (fun ls hl => ?_)
            obtain ⟨v34, e_v34⟩ : ∃ z : Int32, z = x5_5 + 1 := ⟨_, rfl⟩
            have hm := hm v34 e_v34
            refine lv_iinc (v := v34) (lv' := [(5, .int v34), (3, .int x5_5), (4, .int r29), (6, .int r29), (0, .ref (a 0)), (1, .int x1), (2, .int x2)]) hx hb dX9_learn_125 hl (k := 3) rfl (by rw [e_v34]; rfl) (by decide) rfl (fun ls hl => ?_)
            refine lv_goto (tgt := 27) hx hb dX9_learn_128 (by decide) ?_
            exact ih9 _ _ _ _ hm _ _ _ hw (lv_sub hl [0, 2, 1, 4, 5, 6] rfl)
          · have hm := hm.2 c36
            refine lv_goto (tgt := 125) hx hb dX9_learn_115 (by decide) ?_
            obtain ⟨v35, e_v35⟩ : ∃ z : Int32, z = x5_5 + 1 := ⟨_, rfl⟩
            have hm := hm v35 e_v35
            refine lv_iinc (v := v35) (lv' := [(5, .int v35), (6, .int r29), (4, .int x4_6), (3, .int x3_7), (0, .ref (a 0)), (1, .int x1), (2, .int x2)]) hx hb dX9_learn_125 hl (k := 1) rfl (by rw [e_v35]; rfl) (by decide) rfl (fun ls hl => ?_)
            refine lv_goto (tgt := 27) hx hb dX9_learn_128 (by decide) ?_
            exact ih9 _ _ _ _ hm _ _ _ hw (lv_sub hl [0, 2, 3, 4, 5, 6] rfl)
        · have hm := hm.2 c38
          refine lv_goto (tgt := 125) hx hb dX9_learn_50 (by decide) ?_
          obtain ⟨v37, e_v37⟩ : ∃ z : Int32, z = x5_5 + 1 := ⟨_, rfl⟩
          have hm := hm v37 e_v37
          refine lv_iinc (v := v37) (lv' := [(5, .int v37), (4, .int x4_6), (3, .int x3_7), (0, .ref (a 0)), (1, .int x1), (2, .int x2)]) hx hb dX9_learn_125 hl (k := 0) rfl (by rw [e_v37]; rfl) (by decide) rfl (fun ls hl => ?_)
          refine lv_goto (tgt := 27) hx hb dX9_learn_128 (by decide) ?_
          exact ih9 _ _ _ _ hm _ _ _ hw (lv_sub hl [0, 1, 2, 3, 4, 5] rfl)
    · have hm := hm.2 c40
      refine lv_iconst (v := (-1)) hx hb dX9_learn_17 (by decide) ?_
      exact retI (u := S) hc hw hm dX9_learn_18
set_option maxHeartbeats 4000000 in
set_option maxRecDepth 100000 in
theorem c_M_mention {l : Launch} {D : va_G} {cy : Nat → ClassId} {a : Nat → Nat} {S : Ob} {x1 : Int32} {x2 : Int32} {x3 : Int32} {Q : Int32 → Ob → Prop} (hm : wM_mention S x1 x2 x3 Q) : CtI l yX9_mention cX9_mention 5 (some .int) (rmN 2) D cy [.ref (a 0), .int x1, .int x2, .int x3] (mW cy a S) (mW cy a) Q := by
  refine CtI.ofW (by decide) (Nat.le_of_ble_eq_true rfl) ?_
  intro p e s m args below meth c A ls hc hnm hw hl
  have hx := hc.1.1
  have hb := hc.1.2.1
  have hown := hc.1.2.2.2.1
  have hts := hc.1.2.2.2.2
  have hl : lv_has ls 5 [(0, .ref (a 0)), (1, .int x1), (2, .int x2), (3, .int x3)] := hl
  obtain ⟨H, hH⟩ : ∃ z, z = s.heap := ⟨_, rfl⟩
  obtain ⟨locs, hLc⟩ : ∃ z : List Loc, z = [] := ⟨_, rfl⟩
  have hw : wV D A s.heap (mW cy a S) H locs := by rw [hH, hLc]; exact hw
  have hgo : W p l e (rmN 2) s m args below meth c H locs 0 0 (MQ below (eI D cy A (mW cy a) Q) args s (rmN 2).cells (rmN 2).slots A) (F0 m 0 ls []) := ?hgo
  · rw [hH, hLc] at hgo; exact hgo
  refine lv_iload_n hx hb dX9_mention_0 rfl (lv_at hl 3 rfl) ?_
  refine lv_iconst (v := 0) hx hb dX9_mention_1 (by decide) ?_
  refine lv_sipush (v := 500) hx hb dX9_mention_2 (by decide) ?_
  refine zS_I (As := [.int x3, .int 0, .int 500]) (rest := []) hc hw (c_M_lies hm) lk_X9_94 ⟨Nat.le_of_ble_eq_true rfl, Nat.le_of_ble_eq_true rfl⟩ ⟨Nat.le_of_ble_eq_true rfl, Nat.le_of_ble_eq_true rfl⟩ hl.1 rfl (Nat.le_of_ble_eq_true rfl) rfl dX9_mention_5 (fun r1 H locs hm hw => ?_)
  refine lv_if_ne (tgt := 17) hx hb dX9_mention_8 (by decide) (fun c36 => ?_) (fun c36 => ?_)
  · have hm := hm.1 c36
    refine lv_aload_n hx hb dX9_mention_17 rfl (lv_at hl 0 rfl) ?_
    refine lv_iload_n hx hb dX9_mention_18 rfl (lv_at hl 1 rfl) ?_
    refine aV_I (As := [.int x1]) (rest := []) hc hw (c_M_isTale hm) lk_X9_117 rfl rfl ⟨Nat.le_of_ble_eq_true rfl, Nat.le_of_ble_eq_true rfl⟩ ⟨Nat.le_of_ble_eq_true rfl, Nat.le_of_ble_eq_true rfl⟩ hl.1 rfl (Nat.le_of_ble_eq_true rfl) rfl dX9_mention_19 (fun r3 _ H locs hm hw => ?_)
    have hw : wV D A s.heap (mW cy a S) H locs := hw
    obtain ⟨J6, eJ6, hm⟩ := jn_e hm
    have hJ6 : ∀ (z5 : Unit) (_ : J6 z5) (H : Heap) (locs : List Loc) (ls : Array Slot), wV D A s.heap (mW cy a S) H locs → lv_has ls 5 [(0, .ref (a 0))] → W p l e (rmN 2) s m args below meth c H locs 0 0 (MQ below (eI D cy A (mW cy a) Q) args s (rmN 2).cells (rmN 2).slots A) (F0 m 33 ls []) := by
      intro z5 hm H locs ls hw hl
      rw [eJ6] at hm
      refine lv_aload_n hx hb dX9_mention_33 rfl (lv_at hl 0 rfl) ?_
      refine lv_bipush (v := (-2)) hx hb dX9_mention_34 (by decide) ?_
      refine aV_I (As := [.int (-2)]) (rest := []) hc hw (c_M_refuses hm) lk_X9_98 rfl rfl ⟨Nat.le_of_ble_eq_true rfl, Nat.le_of_ble_eq_true rfl⟩ ⟨Nat.le_of_ble_eq_true rfl, Nat.le_of_ble_eq_true rfl⟩ hl.1 rfl (Nat.le_of_ble_eq_true rfl) rfl dX9_mention_36 (fun r7 S8 H locs hm hw => ?_)
      have hw : wV D A s.heap (mW cy a S8) H locs := hw
      exact retI (u := S8) hc hw hm dX9_mention_39
    refine lv_if_eq (tgt := 33) hx hb dX9_mention_22 (by decide) (fun c32 => ?_) (fun c32 => ?_)
    · have hm := hm.1 c32
      exact hJ6 _ hm _ _ _ hw (lv_sub hl [0] rfl)
    · have hm := hm.2 c32
      refine lv_aload_n hx hb dX9_mention_25 rfl (lv_at hl 0 rfl) ?_
      refine lv_iload_n hx hb dX9_mention_26 rfl (lv_at hl 2 rfl) ?_
      refine aV_I (As := [.int x2]) (rest := []) hc hw (c_M_isTale hm) lk_X9_117 rfl rfl ⟨Nat.le_of_ble_eq_true rfl, Nat.le_of_ble_eq_true rfl⟩ ⟨Nat.le_of_ble_eq_true rfl, Nat.le_of_ble_eq_true rfl⟩ hl.1 rfl (Nat.le_of_ble_eq_true rfl) rfl dX9_mention_27 (fun r10 _ H locs hm hw => ?_)
      have hw : wV D A s.heap (mW cy a S) H locs := hw
      refine lv_if_ne (tgt := 40) hx hb dX9_mention_30 (by decide) (fun c31 => ?_) (fun c31 => ?_)
      · have hm := hm.1 c31
        refine lv_iload_n hx hb dX9_mention_40 rfl (lv_at hl 1 rfl) ?_
        refine lv_iload_n hx hb dX9_mention_41 rfl (lv_at hl 2 rfl) ?_
        refine lv_icmp_ne (tgt := 52) hx hb dX9_mention_42 (by decide) (fun c30 => ?_) (fun c30 => ?_)
        · have hm := hm.1 c30
          refine lv_aload_n hx hb dX9_mention_52 rfl (lv_at hl 0 rfl) ?_
          refine gF (k := 3) hc hw inX9 rfl 0 rfl (by decide) (gm 1062 (by decide +kernel) rfl) rfl dX9_mention_53 ?_
          refine lv_sipush (v := 135) hx hb dX9_mention_56 (by decide) ?_
          refine aI hc hw 2 rfl (vin (by decide)) (j := 135) (by decide) dX9_mention_59 ?_
          refine lv_topi (fun v12 e_v12 => ?_)
          have hm := hm v12 e_v12
          refine lv_istore (lv' := [(4, .int v12), (0, .ref (a 0)), (1, .int x1), (2, .int x2), (3, .int x3)]) hx hb dX9_mention_60 hl (by decide) rfl (fun ls hl => ?_)
          refine lv_iload hx hb dX9_mention_62 (lv_at hl 0 rfl) ?_
          refine lv_bipush (v := 10) hx hb dX9_mention_64 (by decide) ?_
          refine lv_icmp_ne (tgt := 76) hx hb dX9_mention_66 (by decide) (fun c26 => ?_) (fun c26 => ?_)
          · have hm := hm.1 c26
            refine lv_aload_n hx hb dX9_mention_76 rfl (lv_at hl 1 rfl) ?_
            refine gF (k := 3) hc hw inX9 rfl 0 rfl (by decide) (gm 1062 (by decide +kernel) rfl) rfl dX9_mention_77 ?_
            refine lv_bipush (v := 73) hx hb dX9_mention_80 (by decide) ?_
            refine lv_iconst (v := 3) hx hb dX9_mention_82 (by decide) ?_
            refine lv_iload hx hb dX9_mention_83 (lv_at hl 0 rfl) ?_
            refine lv_imul hx hb dX9_mention_85 ?_
            refine lv_iadd hx hb dX9_mention_86 ?_
            refine lv_iload_n hx hb dX9_mention_87 rfl (lv_at hl 2 rfl) ?_
            obtain ⟨c13, hm⟩ := hm
            refine sI hc hw 2 rfl c13 rfl dX9_mention_88 (fun H locs hw => ?_)
            obtain ⟨S14, e_S14⟩ : ∃ z : Ob, z = uA S 3 (Int32.toNatClampNeg (73 + (3 * v12))) x1 := ⟨_, rfl⟩
            have hm := hm S14 e_S14
            have hw : wV D A s.heap (mW cy a S14) H locs := by rw [e_S14]; exact hw
            refine lv_aload_n hx hb dX9_mention_89 rfl (lv_at hl 1 rfl) ?_
            refine gF (k := 3) hc hw inX9 rfl 0 rfl (by decide) (gm 1062 (by decide +kernel) rfl) rfl dX9_mention_90 ?_
            refine lv_bipush (v := 73) hx hb dX9_mention_93 (by decide) ?_
            refine lv_iconst (v := 3) hx hb dX9_mention_95 (by decide) ?_
            refine lv_iload hx hb dX9_mention_96 (lv_at hl 0 rfl) ?_
            refine lv_imul hx hb dX9_mention_98 ?_
            refine lv_iadd hx hb dX9_mention_99 ?_
            refine lv_iconst (v := 1) hx hb dX9_mention_100 (by decide) ?_
            refine lv_iadd hx hb dX9_mention_101 ?_
            refine lv_iload_n hx hb dX9_mention_102 rfl (lv_at hl 3 rfl) ?_
            obtain ⟨c15, hm⟩ := hm
            refine sI hc hw 2 rfl c15 rfl dX9_mention_103 (fun H locs hw => ?_)
            obtain ⟨S16, e_S16⟩ : ∃ z : Ob, z = uA S14 3 (Int32.toNatClampNeg ((73 + (3 * v12)) + 1)) x2 := ⟨_, rfl⟩
            have hm := hm S16 e_S16
            have hw : wV D A s.heap (mW cy a S16) H locs := by rw [e_S16]; exact hw
            refine lv_aload_n hx hb dX9_mention_104 rfl (lv_at hl 1 rfl) ?_
            refine gF (k := 3) hc hw inX9 rfl 0 rfl (by decide) (gm 1062 (by decide +kernel) rfl) rfl dX9_mention_105 ?_
            refine lv_bipush (v := 73) hx hb dX9_mention_108 (by decide) ?_
            refine lv_iconst (v := 3) hx hb dX9_mention_110 (by decide) ?_
            refine lv_iload hx hb dX9_mention_111 (lv_at hl 0 rfl) ?_
            refine lv_imul hx hb dX9_mention_113 ?_
            refine lv_iadd hx hb dX9_mention_114 ?_
            refine lv_iconst (v := 2) hx hb dX9_mention_115 (by decide) ?_
            refine lv_iadd hx hb dX9_mention_116 ?_
            refine lv_iload_n hx hb dX9_mention_117 rfl (lv_at hl 4 rfl) ?_
            obtain ⟨c17, hm⟩ := hm
            refine sI hc hw 2 rfl c17 rfl dX9_mention_118 (fun H locs hw => ?_)
            obtain ⟨S18, e_S18⟩ : ∃ z : Ob, z = uA S16 3 (Int32.toNatClampNeg ((73 + (3 * v12)) + 2)) x3 := ⟨_, rfl⟩
            have hm := hm S18 e_S18
            have hw : wV D A s.heap (mW cy a S18) H locs := by rw [e_S18]; exact hw
            refine lv_aload_n hx hb dX9_mention_119 rfl (lv_at hl 1 rfl) ?_
            refine gF (k := 3) hc hw inX9 rfl 0 rfl (by decide) (gm 1062 (by decide +kernel) rfl) rfl dX9_mention_120 ?_
            refine lv_sipush (v := 135) hx hb dX9_mention_123 (by decide) ?_
            refine lv_dup2_11 hx hb dX9_mention_126 rfl rfl ?_
            refine aI hc hw 2 rfl (vin (by decide)) (j := 135) (by decide) dX9_mention_127 ?_
            refine lv_iconst (v := 1) hx hb dX9_mention_128 (by decide) ?_
            refine lv_iadd hx hb dX9_mention_129 ?_
            refine sI hc hw 2 rfl (vin (by decide)) (j := 135) (by decide) dX9_mention_130 (fun H locs hw => ?_)
            obtain ⟨S19, e_S19⟩ : ∃ z : Ob, z = uA S18 3 135 ((S18.2 3 135) + 1) := ⟨_, rfl⟩
            have hm := hm S19 e_S19
            have hw : wV D A s.heap (mW cy a S19) H locs := by rw [e_S19]; exact hw
            refine lv_aload_n hx hb dX9_mention_131 rfl (lv_at hl 1 rfl) ?_
            refine lv_iload hx hb dX9_mention_132 (lv_at hl 0 rfl) ?_
            refine lv_iconst (v := 1) hx hb dX9_mention_134 (by decide) ?_
            refine lv_iadd hx hb dX9_mention_135 ?_
            refine aV_I (As := [.int (v12 + 1)]) (rest := []) hc hw (c_M_good hm) lk_X9_102 rfl rfl ⟨Nat.le_of_ble_eq_true rfl, Nat.le_of_ble_eq_true rfl⟩ ⟨Nat.le_of_ble_eq_true rfl, Nat.le_of_ble_eq_true rfl⟩ hl.1 rfl (Nat.le_of_ble_eq_true rfl) rfl dX9_mention_136 (fun r20 S21 H locs hm hw => ?_)
            have hw : wV D A s.heap (mW cy a S21) H locs := hw
            exact retI (u := S21) hc hw hm dX9_mention_139
          · have hm := hm.2 c26
            refine lv_aload_n hx hb dX9_mention_69 rfl (lv_at hl 1 rfl) ?_
            refine lv_bipush (v := (-5)) hx hb dX9_mention_70 (by decide) ?_
            refine aV_I (As := [.int (-5)]) (rest := []) hc hw (c_M_refuses hm) lk_X9_98 rfl rfl ⟨Nat.le_of_ble_eq_true rfl, Nat.le_of_ble_eq_true rfl⟩ ⟨Nat.le_of_ble_eq_true rfl, Nat.le_of_ble_eq_true rfl⟩ hl.1 rfl (Nat.le_of_ble_eq_true rfl) rfl dX9_mention_72 (fun r23 S24 H locs hm hw => ?_)
            have hw : wV D A s.heap (mW cy a S24) H locs := hw
            exact retI (u := S24) hc hw hm dX9_mention_75
        · have hm := hm.2 c30
          refine lv_aload_n hx hb dX9_mention_45 rfl (lv_at hl 0 rfl) ?_
          refine lv_bipush (v := (-3)) hx hb dX9_mention_46 (by decide) ?_
          refine aV_I (As := [.int (-3)]) (rest := []) hc hw (c_M_refuses hm) lk_X9_98 rfl rfl ⟨Nat.le_of_ble_eq_true rfl, Nat.le_of_ble_eq_true rfl⟩ ⟨Nat.le_of_ble_eq_true rfl, Nat.le_of_ble_eq_true rfl⟩ hl.1 rfl (Nat.le_of_ble_eq_true rfl) rfl dX9_mention_48 (fun r27 S28 H locs hm hw => ?_)
          have hw : wV D A s.heap (mW cy a S28) H locs := hw
          exact retI (u := S28) hc hw hm dX9_mention_51
      · have hm := hm.2 c31
        exact hJ6 _ hm _ _ _ hw (lv_sub hl [0] rfl)
  · have hm := hm.2 c36
    refine lv_aload_n hx hb dX9_mention_11 rfl (lv_at hl 0 rfl) ?_
    refine lv_iconst (v := (-1)) hx hb dX9_mention_12 (by decide) ?_
    refine aV_I (As := [.int (-1)]) (rest := []) hc hw (c_M_refuses hm) lk_X9_98 rfl rfl ⟨Nat.le_of_ble_eq_true rfl, Nat.le_of_ble_eq_true rfl⟩ ⟨Nat.le_of_ble_eq_true rfl, Nat.le_of_ble_eq_true rfl⟩ hl.1 rfl (Nat.le_of_ble_eq_true rfl) rfl dX9_mention_13 (fun r33 S34 H locs hm hw => ?_)
    have hw : wV D A s.heap (mW cy a S34) H locs := hw
    exact retI (u := S34) hc hw hm dX9_mention_16
set_option maxHeartbeats 4000000 in
set_option maxRecDepth 100000 in
theorem c_M_forget {l : Launch} {D : va_G} {cy : Nat → ClassId} {a : Nat → Nat} {S : Ob} {Q : Int32 → Ob → Prop} (hm : wM_forget S Q) : CtI l yX9_forget cX9_forget 2 (some .int) (rmN 0) D cy [.ref (a 0)] (mW cy a S) (mW cy a) Q := by
  refine CtI.ofW (by decide) (Nat.le_of_ble_eq_true rfl) ?_
  intro p e s m args below meth c A ls hc hnm hw hl
  have hx := hc.1.1
  have hb := hc.1.2.1
  have hown := hc.1.2.2.2.1
  have hts := hc.1.2.2.2.2
  have hl : lv_has ls 2 [(0, .ref (a 0))] := hl
  obtain ⟨H, hH⟩ : ∃ z, z = s.heap := ⟨_, rfl⟩
  obtain ⟨locs, hLc⟩ : ∃ z : List Loc, z = [] := ⟨_, rfl⟩
  have hw : wV D A s.heap (mW cy a S) H locs := by rw [hH, hLc]; exact hw
  have hgo : W p l e (rmN 0) s m args below meth c H locs 0 0 (MQ below (eI D cy A (mW cy a) Q) args s (rmN 0).cells (rmN 0).slots A) (F0 m 0 ls []) := ?hgo
  · rw [hH, hLc] at hgo; exact hgo
  refine lv_aload_n hx hb dX9_forget_0 rfl (lv_at hl 0 rfl) ?_
  refine gF (k := 3) hc hw inX9 rfl 0 rfl (by decide) (gm 1062 (by decide +kernel) rfl) rfl dX9_forget_1 ?_
  refine lv_sipush (v := 135) hx hb dX9_forget_4 (by decide) ?_
  refine aI hc hw 2 rfl (vin (by decide)) (j := 135) (by decide) dX9_forget_7 ?_
  refine lv_topi (fun v1 e_v1 => ?_)
  have hm := hm v1 e_v1
  refine lv_istore_n (lv' := [(1, .int v1), (0, .ref (a 0))]) hx hb dX9_forget_8 rfl hl (by decide) rfl (fun ls hl => ?_)
  refine lv_aload_n hx hb dX9_forget_9 rfl (lv_at hl 1 rfl) ?_
  refine gF (k := 3) hc hw inX9 rfl 0 rfl (by decide) (gm 1062 (by decide +kernel) rfl) rfl dX9_forget_10 ?_
  refine lv_sipush (v := 135) hx hb dX9_forget_13 (by decide) ?_
  refine lv_iconst (v := 0) hx hb dX9_forget_16 (by decide) ?_
  refine sI hc hw 2 rfl (vin (by decide)) (j := 135) (by decide) dX9_forget_17 (fun H locs hw => ?_)
  obtain ⟨S2, e_S2⟩ : ∃ z : Ob, z = uA S 3 135 0 := ⟨_, rfl⟩
  have hm := hm S2 e_S2
  have hw : wV D A s.heap (mW cy a S2) H locs := by rw [e_S2]; exact hw
  refine lv_aload_n hx hb dX9_forget_18 rfl (lv_at hl 1 rfl) ?_
  refine lv_dup hx hb dX9_forget_19 rfl ?_
  refine gF (k := 1) hc hw inX9 rfl 0 rfl (by decide) (gm 1060 (by decide +kernel) rfl) rfl dX9_forget_20 ?_
  refine lv_iconst (v := 1) hx hb dX9_forget_23 (by decide) ?_
  refine lv_iadd hx hb dX9_forget_24 ?_
  refine pF (k := 1) (ty := .int) hc hw inX9 tyX9_ok nmX9 rfl 0 rfl (by decide) (gm 1060 (by decide +kernel) rfl) rfl (by decide +kernel) rfl rfl (Nat.le_of_ble_eq_true rfl) dX9_forget_25 (fun H locs hw => ?_)
  obtain ⟨S3, e_S3⟩ : ∃ z : Ob, z = uS S2 1 ((S2.1 1) + 1) := ⟨_, rfl⟩
  have hm := hm S3 e_S3
  have hw : wV D A s.heap (mW cy a S3) H locs := by rw [e_S3]; exact hw
  refine lv_iload_n hx hb dX9_forget_28 rfl (lv_at hl 0 rfl) ?_
  exact retI (u := S3) hc hw hm dX9_forget_29
set_option maxHeartbeats 4000000 in
set_option maxRecDepth 100000 in
theorem c_M_agree {l : Launch} {D : va_G} {cy : Nat → ClassId} {a : Nat → Nat} {S : Ob} {x1 : Int32} {Q : Int32 → Ob → Prop} (hm : wM_agree S x1 Q) : CtI l yX9_agree cX9_agree 7 (some .boolean) (rmN 1) D cy [.ref (a 0), .int x1] (mW cy a S) (mW cy a) Q := by
  refine CtI.ofW (by decide) (Nat.le_of_ble_eq_true rfl) ?_
  intro p e s m args below meth c A ls hc hnm hw hl
  have hx := hc.1.1
  have hb := hc.1.2.1
  have hown := hc.1.2.2.2.1
  have hts := hc.1.2.2.2.2
  have hl : lv_has ls 7 [(0, .ref (a 0)), (1, .int x1)] := hl
  obtain ⟨H, hH⟩ : ∃ z, z = s.heap := ⟨_, rfl⟩
  obtain ⟨locs, hLc⟩ : ∃ z : List Loc, z = [] := ⟨_, rfl⟩
  have hw : wV D A s.heap (mW cy a S) H locs := by rw [hH, hLc]; exact hw
  have hgo : W p l e (rmN 1) s m args below meth c H locs 0 0 (MQ below (eI D cy A (mW cy a) Q) args s (rmN 1).cells (rmN 1).slots A) (F0 m 0 ls []) := ?hgo
  · rw [hH, hLc] at hgo; exact hgo
  refine lv_iconst (v := 0) hx hb dX9_agree_0 (by decide) ?_
  refine lv_istore_n (lv' := [(2, .int 0), (0, .ref (a 0)), (1, .int x1)]) hx hb dX9_agree_1 rfl hl (by decide) rfl (fun ls hl => ?_)
  refine wl2_ind (G := fun (x2_1 : Int32) (S2 : Ob) => ∀ (H : Heap) (locs : List Loc) (ls : Array Slot), wV D A s.heap (mW cy a S2) H locs → lv_has ls 7 [(2, .int x2_1), (0, .ref (a 0)), (1, .int x1)] → W p l e (rmN 1) s m args below meth c H locs 0 0 (MQ below (eI D cy A (mW cy a) Q) args s (rmN 1).cells (rmN 1).slots A) (F0 m 2 ls [])) ?_ _ _ hm H locs ls hw (lv_sub hl [0, 1, 2] rfl)
  intro L3 ih3 x2_1 S2 hm H locs ls hw hl
  refine lv_iload_n hx hb dX9_agree_2 rfl (lv_at hl 0 rfl) ?_
  refine lv_aload_n hx hb dX9_agree_3 rfl (lv_at hl 1 rfl) ?_
  refine aV_I (As := []) (rest := [.int x2_1]) hc hw (c_M_tales hm) lk_X9_105 rfl rfl ⟨Nat.le_of_ble_eq_true rfl, Nat.le_of_ble_eq_true rfl⟩ ⟨Nat.le_of_ble_eq_true rfl, Nat.le_of_ble_eq_true rfl⟩ hl.1 rfl (Nat.le_of_ble_eq_true rfl) rfl dX9_agree_4 (fun r4 _ H locs hm hw => ?_)
  have hw : wV D A s.heap (mW cy a S2) H locs := hw
  refine lv_icmp_ge (tgt := 40) hx hb dX9_agree_7 (by decide) (fun c59 => ?_) (fun c59 => ?_)
  · have hm := hm.1 c59
    refine lv_iconst (v := 1) hx hb dX9_agree_40 (by decide) ?_
    refine lv_istore_n (lv' := [(2, .int 1), (0, .ref (a 0)), (1, .int x1)]) hx hb dX9_agree_41 rfl hl (by decide) rfl (fun ls hl => ?_)
    refine wl2_ind (G := fun (x2_6 : Int32) (S7 : Ob) => ∀ (H : Heap) (locs : List Loc) (ls : Array Slot), wV D A s.heap (mW cy a S7) H locs → lv_has ls 7 [(2, .int x2_6), (0, .ref (a 0)), (1, .int x1)] → W p l e (rmN 1) s m args below meth c H locs 0 0 (MQ below (eI D cy A (mW cy a) Q) args s (rmN 1).cells (rmN 1).slots A) (F0 m 42 ls [])) ?_ _ _ hm H locs ls hw (lv_sub hl [0, 1, 2] rfl)
    intro L8 ih8 x2_6 S7 hm H locs ls hw hl
    refine lv_iload_n hx hb dX9_agree_42 rfl (lv_at hl 0 rfl) ?_
    refine lv_if_eq (tgt := 239) hx hb dX9_agree_43 (by decide) (fun c49 => ?_) (fun c49 => ?_)
    · have hm := hm.1 c49
      refine lv_iconst (v := 1) hx hb dX9_agree_239 (by decide) ?_
      exact retZ (u := S7) hc hw rfl hm dX9_agree_240
    · have hm := hm.2 c49
      refine lv_iconst (v := 0) hx hb dX9_agree_46 (by decide) ?_
      refine lv_istore_n (lv' := [(2, .int 0), (0, .ref (a 0)), (1, .int x1)]) hx hb dX9_agree_47 rfl hl (by decide) rfl (fun ls hl => ?_)
      refine lv_iconst (v := 0) hx hb dX9_agree_48 (by decide) ?_
      refine lv_istore_n (lv' := [(3, .int 0), (2, .int 0), (0, .ref (a 0)), (1, .int x1)]) hx hb dX9_agree_49 rfl hl (by decide) rfl (fun ls hl => ?_)
      refine wl3_ind (G := fun (x3_9 : Int32) (x2_10 : Int32) (S11 : Ob) => ∀ (H : Heap) (locs : List Loc) (ls : Array Slot), wV D A s.heap (mW cy a S11) H locs → lv_has ls 7 [(3, .int x3_9), (2, .int x2_10), (0, .ref (a 0)), (1, .int x1)] → W p l e (rmN 1) s m args below meth c H locs 0 0 (MQ below (eI D cy A (mW cy a) Q) args s (rmN 1).cells (rmN 1).slots A) (F0 m 50 ls [])) ?_ _ _ _ hm H locs ls hw (lv_sub hl [0, 1, 2, 3] rfl)
      intro L12 ih12 x3_9 x2_10 S11 hm H locs ls hw hl
      refine lv_iload_n hx hb dX9_agree_50 rfl (lv_at hl 0 rfl) ?_
      refine lv_aload_n hx hb dX9_agree_51 rfl (lv_at hl 2 rfl) ?_
      refine gF (k := 3) hc hw inX9 rfl 0 rfl (by decide) (gm 1062 (by decide +kernel) rfl) rfl dX9_agree_52 ?_
      refine lv_sipush (v := 135) hx hb dX9_agree_55 (by decide) ?_
      refine aI hc hw 2 rfl (vin (by decide)) (j := 135) (by decide) dX9_agree_58 ?_
      refine lv_icmp_ge (tgt := 236) hx hb dX9_agree_59 (by decide) (fun c48 => ?_) (fun c48 => ?_)
      · have hm := hm.1 c48
        refine lv_goto (tgt := 42) hx hb dX9_agree_236 (by decide) ?_
        exact ih8 _ _ hm _ _ _ hw (lv_sub hl [1, 2, 3] rfl)
      · have hm := hm.2 c48
        refine lv_iload_n hx hb dX9_agree_62 rfl (lv_at hl 3 rfl) ?_
        refine lv_iload_n hx hb dX9_agree_63 rfl (lv_at hl 0 rfl) ?_
        refine zS_I (As := [.int x1, .int x3_9]) (rest := []) hc hw (c_M_isIn hm) lk_X9_269 ⟨Nat.le_of_ble_eq_true rfl, Nat.le_of_ble_eq_true rfl⟩ ⟨Nat.le_of_ble_eq_true rfl, Nat.le_of_ble_eq_true rfl⟩ hl.1 rfl (Nat.le_of_ble_eq_true rfl) rfl dX9_agree_64 (fun r13 H locs hm hw => ?_)
        refine lv_if_eq (tgt := 73) hx hb dX9_agree_67 (by decide) (fun c47 => ?_) (fun c47 => ?_)
        · have hm := hm.1 c47
          refine lv_aload_n hx hb dX9_agree_73 rfl (lv_at hl 2 rfl) ?_
          refine gF (k := 3) hc hw inX9 rfl 0 rfl (by decide) (gm 1062 (by decide +kernel) rfl) rfl dX9_agree_74 ?_
          refine lv_bipush (v := 73) hx hb dX9_agree_77 (by decide) ?_
          refine lv_iconst (v := 3) hx hb dX9_agree_79 (by decide) ?_
          refine lv_iload_n hx hb dX9_agree_80 rfl (lv_at hl 0 rfl) ?_
          refine lv_imul hx hb dX9_agree_81 ?_
          refine lv_iadd hx hb dX9_agree_82 ?_
          obtain ⟨c15, hm⟩ := hm
          refine aI hc hw 2 rfl c15 rfl dX9_agree_83 ?_
          refine lv_topi (fun v16 e_v16 => ?_)
          have hm := hm v16 e_v16
          refine lv_istore (lv' := [(4, .int v16), (3, .int x3_9), (2, .int x2_10), (0, .ref (a 0)), (1, .int x1)]) hx hb dX9_agree_84 hl (by decide) rfl (fun ls hl => ?_)
          refine lv_aload_n hx hb dX9_agree_86 rfl (lv_at hl 3 rfl) ?_
          refine gF (k := 3) hc hw inX9 rfl 0 rfl (by decide) (gm 1062 (by decide +kernel) rfl) rfl dX9_agree_87 ?_
          refine lv_bipush (v := 73) hx hb dX9_agree_90 (by decide) ?_
          refine lv_iconst (v := 3) hx hb dX9_agree_92 (by decide) ?_
          refine lv_iload_n hx hb dX9_agree_93 rfl (lv_at hl 1 rfl) ?_
          refine lv_imul hx hb dX9_agree_94 ?_
          refine lv_iadd hx hb dX9_agree_95 ?_
          refine lv_iconst (v := 1) hx hb dX9_agree_96 (by decide) ?_
          refine lv_iadd hx hb dX9_agree_97 ?_
          obtain ⟨c17, hm⟩ := hm
          refine aI hc hw 2 rfl c17 rfl dX9_agree_98 ?_
          refine lv_topi (fun v18 e_v18 => ?_)
          have hm := hm v18 e_v18
          refine lv_istore (lv' := [(5, .int v18), (4, .int v16), (3, .int x3_9), (2, .int x2_10), (0, .ref (a 0)), (1, .int x1)]) hx hb dX9_agree_99 hl (by decide) rfl (fun ls hl => ?_)
          refine lv_aload_n hx hb dX9_agree_101 rfl (lv_at hl 4 rfl) ?_
          refine gF (k := 3) hc hw inX9 rfl 0 rfl (by decide) (gm 1062 (by decide +kernel) rfl) rfl dX9_agree_102 ?_
          refine lv_bipush (v := 73) hx hb dX9_agree_105 (by decide) ?_
          refine lv_iconst (v := 3) hx hb dX9_agree_107 (by decide) ?_
          refine lv_iload_n hx hb dX9_agree_108 rfl (lv_at hl 2 rfl) ?_
          refine lv_imul hx hb dX9_agree_109 ?_
          refine lv_iadd hx hb dX9_agree_110 ?_
          refine lv_iconst (v := 2) hx hb dX9_agree_111 (by decide) ?_
          refine lv_iadd hx hb dX9_agree_112 ?_
          obtain ⟨c19, hm⟩ := hm
          refine aI hc hw 2 rfl c19 rfl dX9_agree_113 ?_
          refine lv_topi (fun v20 e_v20 => ?_)
          have hm := hm v20 e_v20
          refine lv_istore (lv' := [(6, .int v20), (5, .int v18), (4, .int v16), (3, .int x3_9), (2, .int x2_10), (0, .ref (a 0)), (1, .int x1)]) hx hb dX9_agree_114 hl (by decide) rfl (fun ls hl => ?_)
          refine lv_aload_n hx hb dX9_agree_116 rfl (lv_at hl 5 rfl) ?_
          refine gF (k := 38) hc hw inX9 rfl 0 rfl (by decide) (gm 1097 (by decide +kernel) rfl) rfl dX9_agree_117 ?_
          refine lv_iload hx hb dX9_agree_120 (lv_at hl 2 rfl) ?_
          obtain ⟨c21, hm⟩ := hm
          refine aI hc hw 21 rfl c21 rfl dX9_agree_122 ?_
          refine lv_iload hx hb dX9_agree_123 (lv_at hl 0 rfl) ?_
          refine lv_iadd hx hb dX9_agree_125 ?_
          refine lv_aload_n hx hb dX9_agree_126 rfl (lv_at hl 5 rfl) ?_
          refine gF (k := 38) hc hw inX9 rfl 0 rfl (by decide) (gm 1097 (by decide +kernel) rfl) rfl dX9_agree_127 ?_
          refine lv_iload hx hb dX9_agree_130 (lv_at hl 1 rfl) ?_
          obtain ⟨c22, hm⟩ := hm
          refine aI hc hw 21 rfl c22 rfl dX9_agree_132 ?_
          obtain ⟨J25, eJ25, hm⟩ := jn_e hm
          have hJ25 : ∀ (x2_23 : Int32) (S24 : Ob) (_ : J25 x2_23 S24) (H : Heap) (locs : List Loc) (ls : Array Slot), wV D A s.heap (mW cy a S24) H locs → lv_has ls 7 [(0, .ref (a 0)), (1, .int x1), (2, .int x2_23), (3, .int x3_9), (4, .int v16), (5, .int v18), (6, .int v20)] → W p l e (rmN 1) s m args below meth c H locs 0 0 (MQ below (eI D cy A (mW cy a) Q) args s (rmN 1).cells (rmN 1).slots A) (F0 m 155 ls []) := by
            intro x2_23 S24 hm H locs ls hw hl
            rw [eJ25] at hm
            refine lv_aload_n hx hb dX9_agree_155 rfl (lv_at hl 0 rfl) ?_
            refine gF (k := 39) hc hw inX9 rfl 0 rfl (by decide) (gm 1098 (by decide +kernel) rfl) rfl dX9_agree_156 ?_
            refine lv_iload hx hb dX9_agree_159 (lv_at hl 5 rfl) ?_
            obtain ⟨c26, hm⟩ := hm
            refine aI hc hw 22 rfl c26 rfl dX9_agree_161 ?_
            refine lv_iload hx hb dX9_agree_162 (lv_at hl 6 rfl) ?_
            refine lv_isub hx hb dX9_agree_164 ?_
            refine lv_aload_n hx hb dX9_agree_165 rfl (lv_at hl 0 rfl) ?_
            refine gF (k := 39) hc hw inX9 rfl 0 rfl (by decide) (gm 1098 (by decide +kernel) rfl) rfl dX9_agree_166 ?_
            refine lv_iload hx hb dX9_agree_169 (lv_at hl 4 rfl) ?_
            obtain ⟨c27, hm⟩ := hm
            refine aI hc hw 22 rfl c27 rfl dX9_agree_171 ?_
            obtain ⟨J30, eJ30, hm⟩ := jn_e hm
            have hJ30 : ∀ (x2_28 : Int32) (S29 : Ob) (_ : J30 x2_28 S29) (H : Heap) (locs : List Loc) (ls : Array Slot), wV D A s.heap (mW cy a S29) H locs → lv_has ls 7 [(0, .ref (a 0)), (1, .int x1), (2, .int x2_28), (3, .int x3_9), (4, .int v16), (5, .int v18)] → W p l e (rmN 1) s m args below meth c H locs 0 0 (MQ below (eI D cy A (mW cy a) Q) args s (rmN 1).cells (rmN 1).slots A) (F0 m 194 ls []) := by
              intro x2_28 S29 hm H locs ls hw hl
              rw [eJ30] at hm
              refine lv_aload_n hx hb dX9_agree_194 rfl (lv_at hl 0 rfl) ?_
              refine gF (k := 38) hc hw inX9 rfl 0 rfl (by decide) (gm 1097 (by decide +kernel) rfl) rfl dX9_agree_195 ?_
              refine lv_iload hx hb dX9_agree_198 (lv_at hl 5 rfl) ?_
              obtain ⟨c31, hm⟩ := hm
              refine aI hc hw 21 rfl c31 rfl dX9_agree_200 ?_
              refine lv_aload_n hx hb dX9_agree_201 rfl (lv_at hl 0 rfl) ?_
              refine gF (k := 39) hc hw inX9 rfl 0 rfl (by decide) (gm 1098 (by decide +kernel) rfl) rfl dX9_agree_202 ?_
              refine lv_iload hx hb dX9_agree_205 (lv_at hl 5 rfl) ?_
              obtain ⟨c32, hm⟩ := hm
              refine aI hc hw 22 rfl c32 rfl dX9_agree_207 ?_
              refine lv_icmp_gt (tgt := 228) hx hb dX9_agree_208 (by decide) (fun c37 => ?_) (fun c37 => ?_)
              · have hm := hm.1 c37
                refine lv_iconst (v := 0) hx hb dX9_agree_228 (by decide) ?_
                exact retZ (u := S29) hc hw rfl hm dX9_agree_229
              · have hm := hm.2 c37
                refine lv_aload_n hx hb dX9_agree_211 rfl (lv_at hl 0 rfl) ?_
                refine gF (k := 38) hc hw inX9 rfl 0 rfl (by decide) (gm 1097 (by decide +kernel) rfl) rfl dX9_agree_212 ?_
                refine lv_iload hx hb dX9_agree_215 (lv_at hl 4 rfl) ?_
                obtain ⟨c33, hm⟩ := hm
                refine aI hc hw 21 rfl c33 rfl dX9_agree_217 ?_
                refine lv_aload_n hx hb dX9_agree_218 rfl (lv_at hl 0 rfl) ?_
                refine gF (k := 39) hc hw inX9 rfl 0 rfl (by decide) (gm 1098 (by decide +kernel) rfl) rfl dX9_agree_219 ?_
                refine lv_iload hx hb dX9_agree_222 (lv_at hl 4 rfl) ?_
                obtain ⟨c34, hm⟩ := hm
                refine aI hc hw 22 rfl c34 rfl dX9_agree_224 ?_
                refine lv_icmp_le (tgt := 230) hx hb dX9_agree_225 (by decide) (fun c36 => ?_) (fun c36 => ?_)
                · have hm := hm.1 c36
                  obtain ⟨v35, e_v35⟩ : ∃ z : Int32, z = x3_9 + 1 := ⟨_, rfl⟩
                  have hm := hm v35 e_v35
                  refine lv_iinc (v := v35) (lv' := [(3, .int v35), (0, .ref (a 0)), (1, .int x1), (2, .int x2_28), (4, .int v16), (5, .int v18)]) hx hb dX9_agree_230 hl (k := 3) rfl (by rw [e_v35]; rfl) (by decide) rfl (fun ls hl => ?_)
                  refine lv_goto (tgt := 50) hx hb dX9_agree_233 (by decide) ?_
                  exact ih12 _ _ _ hm _ _ _ hw (lv_sub hl [0, 3, 1, 2] rfl)
                · have hm := hm.2 c36
                  refine lv_iconst (v := 0) hx hb dX9_agree_228 (by decide) ?_
                  exact retZ (u := S29) hc hw rfl hm dX9_agree_229
            refine lv_icmp_ge (tgt := 194) hx hb dX9_agree_172 (by decide) (fun c41 => ?_) (fun c41 => ?_)
            · have hm := hm.1 c41
              exact hJ30 _ _ hm _ _ _ hw (lv_sub hl [0, 1, 2, 3, 4, 5] rfl)
            · have hm := hm.2 c41
              refine lv_aload_n hx hb dX9_agree_175 rfl (lv_at hl 0 rfl) ?_
              refine gF (k := 39) hc hw inX9 rfl 0 rfl (by decide) (gm 1098 (by decide +kernel) rfl) rfl dX9_agree_176 ?_
              refine lv_iload hx hb dX9_agree_179 (lv_at hl 4 rfl) ?_
              refine lv_aload_n hx hb dX9_agree_181 rfl (lv_at hl 0 rfl) ?_
              refine gF (k := 39) hc hw inX9 rfl 0 rfl (by decide) (gm 1098 (by decide +kernel) rfl) rfl dX9_agree_182 ?_
              refine lv_iload hx hb dX9_agree_185 (lv_at hl 5 rfl) ?_
              obtain ⟨c38, hm⟩ := hm
              refine aI hc hw 22 rfl c38 rfl dX9_agree_187 ?_
              refine lv_iload hx hb dX9_agree_188 (lv_at hl 6 rfl) ?_
              refine lv_isub hx hb dX9_agree_190 ?_
              obtain ⟨c39, hm⟩ := hm
              refine sI hc hw 22 rfl c39 rfl dX9_agree_191 (fun H locs hw => ?_)
              obtain ⟨S40, e_S40⟩ : ∃ z : Ob, z = uA S24 39 (Int32.toNatClampNeg v16) ((S24.2 39 (Int32.toNatClampNeg v18)) - v20) := ⟨_, rfl⟩
              have hm := hm S40 e_S40
              have hw : wV D A s.heap (mW cy a S40) H locs := by rw [e_S40]; exact hw
              refine lv_iconst (v := 1) hx hb dX9_agree_192 (by decide) ?_
              refine lv_istore_n (lv' := [(2, .int 1), (0, .ref (a 0)), (1, .int x1), (3, .int x3_9), (4, .int v16), (5, .int v18), (6, .int v20)]) hx hb dX9_agree_193 rfl hl (by decide) rfl (fun ls hl => ?_)
              exact hJ30 _ _ hm _ _ _ hw (lv_sub hl [1, 2, 0, 3, 4, 5] rfl)
          refine lv_icmp_le (tgt := 155) hx hb dX9_agree_133 (by decide) (fun c45 => ?_) (fun c45 => ?_)
          · have hm := hm.1 c45
            exact hJ25 _ _ hm _ _ _ hw (lv_sub hl [5, 6, 4, 3, 2, 1, 0] rfl)
          · have hm := hm.2 c45
            refine lv_aload_n hx hb dX9_agree_136 rfl (lv_at hl 5 rfl) ?_
            refine gF (k := 38) hc hw inX9 rfl 0 rfl (by decide) (gm 1097 (by decide +kernel) rfl) rfl dX9_agree_137 ?_
            refine lv_iload hx hb dX9_agree_140 (lv_at hl 1 rfl) ?_
            refine lv_aload_n hx hb dX9_agree_142 rfl (lv_at hl 5 rfl) ?_
            refine gF (k := 38) hc hw inX9 rfl 0 rfl (by decide) (gm 1097 (by decide +kernel) rfl) rfl dX9_agree_143 ?_
            refine lv_iload hx hb dX9_agree_146 (lv_at hl 2 rfl) ?_
            obtain ⟨c42, hm⟩ := hm
            refine aI hc hw 21 rfl c42 rfl dX9_agree_148 ?_
            refine lv_iload hx hb dX9_agree_149 (lv_at hl 0 rfl) ?_
            refine lv_iadd hx hb dX9_agree_151 ?_
            obtain ⟨c43, hm⟩ := hm
            refine sI hc hw 21 rfl c43 rfl dX9_agree_152 (fun H locs hw => ?_)
            obtain ⟨S44, e_S44⟩ : ∃ z : Ob, z = uA S11 38 (Int32.toNatClampNeg v18) ((S11.2 38 (Int32.toNatClampNeg v16)) + v20) := ⟨_, rfl⟩
            have hm := hm S44 e_S44
            have hw : wV D A s.heap (mW cy a S44) H locs := by rw [e_S44]; exact hw
            refine lv_iconst (v := 1) hx hb dX9_agree_153 (by decide) ?_
            refine lv_istore_n (lv' := [(2, .int 1), (6, .int v20), (5, .int v18), (4, .int v16), (3, .int x3_9), (0, .ref (a 0)), (1, .int x1)]) hx hb dX9_agree_154 rfl hl (by decide) rfl (fun ls hl => ?_)
            exact hJ25 _ _ hm _ _ _ hw (lv_sub hl [5, 6, 0, 4, 3, 2, 1] rfl)
        · have hm := hm.2 c47
          refine lv_goto (tgt := 230) hx hb dX9_agree_70 (by decide) ?_
          obtain ⟨v46, e_v46⟩ : ∃ z : Int32, z = x3_9 + 1 := ⟨_, rfl⟩
          have hm := hm v46 e_v46
          refine lv_iinc (v := v46) (lv' := [(3, .int v46), (2, .int x2_10), (0, .ref (a 0)), (1, .int x1)]) hx hb dX9_agree_230 hl (k := 0) rfl (by rw [e_v46]; rfl) (by decide) rfl (fun ls hl => ?_)
          refine lv_goto (tgt := 50) hx hb dX9_agree_233 (by decide) ?_
          exact ih12 _ _ _ hm _ _ _ hw (lv_sub hl [0, 1, 2, 3] rfl)
  · have hm := hm.2 c59
    refine lv_aload_n hx hb dX9_agree_10 rfl (lv_at hl 1 rfl) ?_
    refine gF (k := 38) hc hw inX9 rfl 0 rfl (by decide) (gm 1097 (by decide +kernel) rfl) rfl dX9_agree_11 ?_
    refine lv_iload_n hx hb dX9_agree_14 rfl (lv_at hl 0 rfl) ?_
    refine lv_aload_n hx hb dX9_agree_15 rfl (lv_at hl 1 rfl) ?_
    refine lv_iload_n hx hb dX9_agree_16 rfl (lv_at hl 0 rfl) ?_
    refine lv_iconst (v := 0) hx hb dX9_agree_17 (by decide) ?_
    refine aV_I (As := [.int x2_1, .int 0]) (rest := [.int x2_1, .ref (a 21)]) hc hw (c_M_factOf hm) lk_X9_121 rfl rfl ⟨Nat.le_of_ble_eq_true rfl, Nat.le_of_ble_eq_true rfl⟩ ⟨Nat.le_of_ble_eq_true rfl, Nat.le_of_ble_eq_true rfl⟩ hl.1 rfl (Nat.le_of_ble_eq_true rfl) rfl dX9_agree_18 (fun r50 _ H locs hm hw => ?_)
    have hw : wV D A s.heap (mW cy a S2) H locs := hw
    obtain ⟨c52, hm⟩ := hm
    refine sI hc hw 21 rfl c52 rfl dX9_agree_21 (fun H locs hw => ?_)
    obtain ⟨S53, e_S53⟩ : ∃ z : Ob, z = uA S2 38 (Int32.toNatClampNeg x2_1) r50 := ⟨_, rfl⟩
    have hm := hm S53 e_S53
    have hw : wV D A s.heap (mW cy a S53) H locs := by rw [e_S53]; exact hw
    refine lv_aload_n hx hb dX9_agree_22 rfl (lv_at hl 1 rfl) ?_
    refine gF (k := 39) hc hw inX9 rfl 0 rfl (by decide) (gm 1098 (by decide +kernel) rfl) rfl dX9_agree_23 ?_
    refine lv_iload_n hx hb dX9_agree_26 rfl (lv_at hl 0 rfl) ?_
    refine lv_aload_n hx hb dX9_agree_27 rfl (lv_at hl 1 rfl) ?_
    refine lv_iload_n hx hb dX9_agree_28 rfl (lv_at hl 0 rfl) ?_
    refine lv_iconst (v := 1) hx hb dX9_agree_29 (by decide) ?_
    refine aV_I (As := [.int x2_1, .int 1]) (rest := [.int x2_1, .ref (a 22)]) hc hw (c_M_factOf hm) lk_X9_121 rfl rfl ⟨Nat.le_of_ble_eq_true rfl, Nat.le_of_ble_eq_true rfl⟩ ⟨Nat.le_of_ble_eq_true rfl, Nat.le_of_ble_eq_true rfl⟩ hl.1 rfl (Nat.le_of_ble_eq_true rfl) rfl dX9_agree_30 (fun r54 _ H locs hm hw => ?_)
    have hw : wV D A s.heap (mW cy a S53) H locs := hw
    obtain ⟨c56, hm⟩ := hm
    refine sI hc hw 22 rfl c56 rfl dX9_agree_33 (fun H locs hw => ?_)
    obtain ⟨S57, e_S57⟩ : ∃ z : Ob, z = uA S53 39 (Int32.toNatClampNeg x2_1) r54 := ⟨_, rfl⟩
    have hm := hm S57 e_S57
    have hw : wV D A s.heap (mW cy a S57) H locs := by rw [e_S57]; exact hw
    obtain ⟨v58, e_v58⟩ : ∃ z : Int32, z = x2_1 + 1 := ⟨_, rfl⟩
    have hm := hm v58 e_v58
    refine lv_iinc (v := v58) (lv' := [(2, .int v58), (0, .ref (a 0)), (1, .int x1)]) hx hb dX9_agree_34 hl (k := 0) rfl (by rw [e_v58]; rfl) (by decide) rfl (fun ls hl => ?_)
    refine lv_goto (tgt := 2) hx hb dX9_agree_37 (by decide) ?_
    exact ih3 _ _ hm _ _ _ hw (lv_sub hl [0, 1, 2] rfl)
set_option maxHeartbeats 4000000 in
set_option maxRecDepth 100000 in
theorem c_M_dated {l : Launch} {D : va_G} {cy : Nat → ClassId} {a : Nat → Nat} {S : Ob} {x1 : Int32} {x2 : Int32} {Q : Int32 → Ob → Prop} (hm : wM_dated S x1 x2 Q) : CtI l yX9_dated cX9_dated 3 (some .int) (rmN 2) D cy [.ref (a 0), .int x1, .int x2] (mW cy a S) (mW cy a) Q := by
  refine CtI.ofW (by decide) (Nat.le_of_ble_eq_true rfl) ?_
  intro p e s m args below meth c A ls hc hnm hw hl
  have hx := hc.1.1
  have hb := hc.1.2.1
  have hown := hc.1.2.2.2.1
  have hts := hc.1.2.2.2.2
  have hl : lv_has ls 3 [(0, .ref (a 0)), (1, .int x1), (2, .int x2)] := hl
  obtain ⟨H, hH⟩ : ∃ z, z = s.heap := ⟨_, rfl⟩
  obtain ⟨locs, hLc⟩ : ∃ z : List Loc, z = [] := ⟨_, rfl⟩
  have hw : wV D A s.heap (mW cy a S) H locs := by rw [hH, hLc]; exact hw
  have hgo : W p l e (rmN 2) s m args below meth c H locs 0 0 (MQ below (eI D cy A (mW cy a) Q) args s (rmN 2).cells (rmN 2).slots A) (F0 m 0 ls []) := ?hgo
  · rw [hH, hLc] at hgo; exact hgo
  refine lv_aload_n hx hb dX9_dated_0 rfl (lv_at hl 0 rfl) ?_
  refine lv_iload_n hx hb dX9_dated_1 rfl (lv_at hl 1 rfl) ?_
  refine aV_I (As := [.int x1]) (rest := []) hc hw (c_M_isTale hm) lk_X9_117 rfl rfl ⟨Nat.le_of_ble_eq_true rfl, Nat.le_of_ble_eq_true rfl⟩ ⟨Nat.le_of_ble_eq_true rfl, Nat.le_of_ble_eq_true rfl⟩ hl.1 rfl (Nat.le_of_ble_eq_true rfl) rfl dX9_dated_2 (fun r1 _ H locs hm hw => ?_)
  have hw : wV D A s.heap (mW cy a S) H locs := hw
  refine lv_if_eq (tgt := 47) hx hb dX9_dated_5 (by decide) (fun c13 => ?_) (fun c13 => ?_)
  · have hm := hm.1 c13
    refine lv_iconst (v := (-1)) hx hb dX9_dated_47 (by decide) ?_
    exact retI (u := S) hc hw hm dX9_dated_48
  · have hm := hm.2 c13
    refine lv_iload_n hx hb dX9_dated_8 rfl (lv_at hl 2 rfl) ?_
    refine lv_iconst (v := 0) hx hb dX9_dated_9 (by decide) ?_
    refine lv_iconst (v := 1) hx hb dX9_dated_10 (by decide) ?_
    refine zS_I (As := [.int x2, .int 0, .int 1]) (rest := []) hc hw (c_M_lies hm) lk_X9_94 ⟨Nat.le_of_ble_eq_true rfl, Nat.le_of_ble_eq_true rfl⟩ ⟨Nat.le_of_ble_eq_true rfl, Nat.le_of_ble_eq_true rfl⟩ hl.1 rfl (Nat.le_of_ble_eq_true rfl) rfl dX9_dated_11 (fun r3 H locs hm hw => ?_)
    refine lv_if_eq (tgt := 47) hx hb dX9_dated_14 (by decide) (fun c12 => ?_) (fun c12 => ?_)
    · have hm := hm.1 c12
      refine lv_iconst (v := (-1)) hx hb dX9_dated_47 (by decide) ?_
      exact retI (u := S) hc hw hm dX9_dated_48
    · have hm := hm.2 c12
      refine lv_aload_n hx hb dX9_dated_17 rfl (lv_at hl 0 rfl) ?_
      refine lv_iconst (v := 0) hx hb dX9_dated_18 (by decide) ?_
      refine aV_I (As := [.int 0]) (rest := []) hc hw (c_M_agree hm) lk_X9_360 rfl rfl ⟨Nat.le_of_ble_eq_true rfl, Nat.le_of_ble_eq_true rfl⟩ ⟨Nat.le_of_ble_eq_true rfl, Nat.le_of_ble_eq_true rfl⟩ hl.1 rfl (Nat.le_of_ble_eq_true rfl) rfl dX9_dated_19 (fun r5 S6 H locs hm hw => ?_)
      have hw : wV D A s.heap (mW cy a S6) H locs := hw
      refine lv_if_eq (tgt := 47) hx hb dX9_dated_22 (by decide) (fun c11 => ?_) (fun c11 => ?_)
      · have hm := hm.1 c11
        refine lv_iconst (v := (-1)) hx hb dX9_dated_47 (by decide) ?_
        exact retI (u := S6) hc hw hm dX9_dated_48
      · have hm := hm.2 c11
        refine lv_iload_n hx hb dX9_dated_25 rfl (lv_at hl 2 rfl) ?_
        refine lv_if_ne (tgt := 38) hx hb dX9_dated_26 (by decide) (fun c10 => ?_) (fun c10 => ?_)
        · have hm := hm.1 c10
          refine lv_aload_n hx hb dX9_dated_38 rfl (lv_at hl 0 rfl) ?_
          refine gF (k := 39) hc hw inX9 rfl 0 rfl (by decide) (gm 1098 (by decide +kernel) rfl) rfl dX9_dated_39 ?_
          refine lv_iload_n hx hb dX9_dated_42 rfl (lv_at hl 1 rfl) ?_
          obtain ⟨c8, hm⟩ := hm
          refine aI hc hw 22 rfl c8 rfl dX9_dated_43 ?_
          refine lv_goto (tgt := 48) hx hb dX9_dated_44 (by decide) ?_
          exact retI (u := S6) hc hw hm dX9_dated_48
        · have hm := hm.2 c10
          refine lv_aload_n hx hb dX9_dated_29 rfl (lv_at hl 0 rfl) ?_
          refine gF (k := 38) hc hw inX9 rfl 0 rfl (by decide) (gm 1097 (by decide +kernel) rfl) rfl dX9_dated_30 ?_
          refine lv_iload_n hx hb dX9_dated_33 rfl (lv_at hl 1 rfl) ?_
          obtain ⟨c9, hm⟩ := hm
          refine aI hc hw 21 rfl c9 rfl dX9_dated_34 ?_
          refine lv_goto (tgt := 48) hx hb dX9_dated_35 (by decide) ?_
          exact retI (u := S6) hc hw hm dX9_dated_48
set_option maxHeartbeats 4000000 in
set_option maxRecDepth 100000 in
theorem c_M_doubt {l : Launch} {D : va_G} {cy : Nat → ClassId} {a : Nat → Nat} {S : Ob} {x1 : Int32} {Q : Int32 → Ob → Prop} (hm : wM_doubt S x1 Q) : CtI l yX9_doubt cX9_doubt 5 (some .int) (rmN 2) D cy [.ref (a 0), .int x1] (mW cy a S) (mW cy a) Q := by
  refine CtI.ofW (by decide) (Nat.le_of_ble_eq_true rfl) ?_
  intro p e s m args below meth c A ls hc hnm hw hl
  have hx := hc.1.1
  have hb := hc.1.2.1
  have hown := hc.1.2.2.2.1
  have hts := hc.1.2.2.2.2
  have hl : lv_has ls 5 [(0, .ref (a 0)), (1, .int x1)] := hl
  obtain ⟨H, hH⟩ : ∃ z, z = s.heap := ⟨_, rfl⟩
  obtain ⟨locs, hLc⟩ : ∃ z : List Loc, z = [] := ⟨_, rfl⟩
  have hw : wV D A s.heap (mW cy a S) H locs := by rw [hH, hLc]; exact hw
  have hgo : W p l e (rmN 2) s m args below meth c H locs 0 0 (MQ below (eI D cy A (mW cy a) Q) args s (rmN 2).cells (rmN 2).slots A) (F0 m 0 ls []) := ?hgo
  · rw [hH, hLc] at hgo; exact hgo
  refine lv_iload_n hx hb dX9_doubt_0 rfl (lv_at hl 1 rfl) ?_
  refine lv_iconst (v := 0) hx hb dX9_doubt_1 (by decide) ?_
  refine lv_iconst (v := 2) hx hb dX9_doubt_2 (by decide) ?_
  refine zS_I (As := [.int x1, .int 0, .int 2]) (rest := []) hc hw (c_M_lies hm) lk_X9_94 ⟨Nat.le_of_ble_eq_true rfl, Nat.le_of_ble_eq_true rfl⟩ ⟨Nat.le_of_ble_eq_true rfl, Nat.le_of_ble_eq_true rfl⟩ hl.1 rfl (Nat.le_of_ble_eq_true rfl) rfl dX9_doubt_3 (fun r1 H locs hm hw => ?_)
  refine lv_if_ne (tgt := 11) hx hb dX9_doubt_6 (by decide) (fun c39 => ?_) (fun c39 => ?_)
  · have hm := hm.1 c39
    refine lv_iconst (v := (-1)) hx hb dX9_doubt_11 (by decide) ?_
    refine lv_istore_n (lv' := [(2, .int (-1)), (0, .ref (a 0)), (1, .int x1)]) hx hb dX9_doubt_12 rfl hl (by decide) rfl (fun ls hl => ?_)
    refine lv_iconst (v := 0) hx hb dX9_doubt_13 (by decide) ?_
    refine lv_istore_n (lv' := [(3, .int 0), (2, .int (-1)), (0, .ref (a 0)), (1, .int x1)]) hx hb dX9_doubt_14 rfl hl (by decide) rfl (fun ls hl => ?_)
    refine lv_iconst (v := 0) hx hb dX9_doubt_15 (by decide) ?_
    refine lv_istore (lv' := [(4, .int 0), (3, .int 0), (2, .int (-1)), (0, .ref (a 0)), (1, .int x1)]) hx hb dX9_doubt_16 hl (by decide) rfl (fun ls hl => ?_)
    refine wl4_ind (G := fun (x4_3 : Int32) (x3_4 : Int32) (x2_5 : Int32) (S6 : Ob) => ∀ (H : Heap) (locs : List Loc) (ls : Array Slot), wV D A s.heap (mW cy a S6) H locs → lv_has ls 5 [(4, .int x4_3), (3, .int x3_4), (2, .int x2_5), (0, .ref (a 0)), (1, .int x1)] → W p l e (rmN 2) s m args below meth c H locs 0 0 (MQ below (eI D cy A (mW cy a) Q) args s (rmN 2).cells (rmN 2).slots A) (F0 m 18 ls [])) ?_ _ _ _ _ hm H locs ls hw (lv_sub hl [0, 1, 2, 3, 4] rfl)
    intro L7 ih7 x4_3 x3_4 x2_5 S6 hm H locs ls hw hl
    refine lv_iload hx hb dX9_doubt_18 (lv_at hl 0 rfl) ?_
    refine lv_iconst (v := 1) hx hb dX9_doubt_20 (by decide) ?_
    refine lv_aload_n hx hb dX9_doubt_21 rfl (lv_at hl 3 rfl) ?_
    refine gF (k := 3) hc hw inX9 rfl 0 rfl (by decide) (gm 1062 (by decide +kernel) rfl) rfl dX9_doubt_22 ?_
    refine lv_sipush (v := 135) hx hb dX9_doubt_25 (by decide) ?_
    refine aI hc hw 2 rfl (vin (by decide)) (j := 135) (by decide) dX9_doubt_28 ?_
    refine lv_ishl hx hb dX9_doubt_29 ?_
    refine lv_icmp_ge (tgt := 93) hx hb dX9_doubt_30 (by decide) (fun c38 => ?_) (fun c38 => ?_)
    · have hm := hm.1 c38
      refine lv_iload_n hx hb dX9_doubt_93 rfl (lv_at hl 4 rfl) ?_
      refine lv_if_ne (tgt := 104) hx hb dX9_doubt_94 (by decide) (fun c11 => ?_) (fun c11 => ?_)
      · have hm := hm.1 c11
        refine lv_iload_n hx hb dX9_doubt_104 rfl (lv_at hl 4 rfl) ?_
        refine lv_iconst (v := 1) hx hb dX9_doubt_105 (by decide) ?_
        refine lv_icmp_ne (tgt := 113) hx hb dX9_doubt_106 (by decide) (fun c8 => ?_) (fun c8 => ?_)
        · have hm := hm.1 c8
          refine lv_iload_n hx hb dX9_doubt_113 rfl (lv_at hl 1 rfl) ?_
          exact retI (u := S6) hc hw hm dX9_doubt_114
        · have hm := hm.2 c8
          refine lv_iload_n hx hb dX9_doubt_109 rfl (lv_at hl 2 rfl) ?_
          refine lv_goto (tgt := 114) hx hb dX9_doubt_110 (by decide) ?_
          exact retI (u := S6) hc hw hm dX9_doubt_114
      · have hm := hm.2 c11
        refine lv_iload_n hx hb dX9_doubt_97 rfl (lv_at hl 2 rfl) ?_
        refine zS_I (As := [.int x2_5]) (rest := []) hc hw (c_M_ones hm) lk_X9_260 ⟨Nat.le_of_ble_eq_true rfl, Nat.le_of_ble_eq_true rfl⟩ ⟨Nat.le_of_ble_eq_true rfl, Nat.le_of_ble_eq_true rfl⟩ hl.1 rfl (Nat.le_of_ble_eq_true rfl) rfl dX9_doubt_98 (fun r9 H locs hm hw => ?_)
        refine lv_goto (tgt := 114) hx hb dX9_doubt_101 (by decide) ?_
        exact retI (u := S6) hc hw hm dX9_doubt_114
    · have hm := hm.2 c38
      refine lv_iload_n hx hb dX9_doubt_33 rfl (lv_at hl 2 rfl) ?_
      refine lv_iconst (v := (-1)) hx hb dX9_doubt_34 (by decide) ?_
      obtain ⟨J13, eJ13, hm⟩ := jn_e hm
      have hJ13 : ∀ (z12 : Unit) (_ : J13 z12) (H : Heap) (locs : List Loc) (ls : Array Slot), wV D A s.heap (mW cy a S6) H locs → lv_has ls 5 [(0, .ref (a 0)), (1, .int x1), (2, .int x2_5), (3, .int x3_4), (4, .int x4_3)] → W p l e (rmN 2) s m args below meth c H locs 0 0 (MQ below (eI D cy A (mW cy a) Q) args s (rmN 2).cells (rmN 2).slots A) (F0 m 50 ls []) := by
        intro z12 hm H locs ls hw hl
        rw [eJ13] at hm
        refine lv_aload_n hx hb dX9_doubt_50 rfl (lv_at hl 0 rfl) ?_
        refine lv_iload hx hb dX9_doubt_51 (lv_at hl 4 rfl) ?_
        refine aV_I (As := [.int x4_3]) (rest := []) hc hw (c_M_agree hm) lk_X9_360 rfl rfl ⟨Nat.le_of_ble_eq_true rfl, Nat.le_of_ble_eq_true rfl⟩ ⟨Nat.le_of_ble_eq_true rfl, Nat.le_of_ble_eq_true rfl⟩ hl.1 rfl (Nat.le_of_ble_eq_true rfl) rfl dX9_doubt_53 (fun r14 S15 H locs hm hw => ?_)
        have hw : wV D A s.heap (mW cy a S15) H locs := hw
        refine lv_if_ne (tgt := 62) hx hb dX9_doubt_56 (by decide) (fun c30 => ?_) (fun c30 => ?_)
        · have hm := hm.1 c30
          refine lv_iload_n hx hb dX9_doubt_62 rfl (lv_at hl 2 rfl) ?_
          refine lv_iconst (v := (-1)) hx hb dX9_doubt_63 (by decide) ?_
          obtain ⟨J18, eJ18, hm⟩ := jn_e hm
          have hJ18 : ∀ (z17 : Unit) (_ : J18 z17) (H : Heap) (locs : List Loc) (ls : Array Slot), wV D A s.heap (mW cy a S15) H locs → lv_has ls 5 [(0, .ref (a 0)), (1, .int x1), (4, .int x4_3)] → W p l e (rmN 2) s m args below meth c H locs 0 0 (MQ below (eI D cy A (mW cy a) Q) args s (rmN 2).cells (rmN 2).slots A) (F0 m 79 ls []) := by
            intro z17 hm H locs ls hw hl
            rw [eJ18] at hm
            refine lv_iload hx hb dX9_doubt_79 (lv_at hl 2 rfl) ?_
            refine lv_istore_n (lv' := [(2, .int x4_3), (0, .ref (a 0)), (1, .int x1), (4, .int x4_3)]) hx hb dX9_doubt_81 rfl hl (by decide) rfl (fun ls hl => ?_)
            refine lv_iconst (v := 0) hx hb dX9_doubt_82 (by decide) ?_
            refine lv_istore_n (lv' := [(3, .int 0), (2, .int x4_3), (0, .ref (a 0)), (1, .int x1), (4, .int x4_3)]) hx hb dX9_doubt_83 rfl hl (by decide) rfl (fun ls hl => ?_)
            obtain ⟨v19, e_v19⟩ : ∃ z : Int32, z = 0 + 1 := ⟨_, rfl⟩
            have hm := hm v19 e_v19
            refine lv_iinc (v := v19) (lv' := [(3, .int v19), (2, .int x4_3), (0, .ref (a 0)), (1, .int x1), (4, .int x4_3)]) hx hb dX9_doubt_84 hl (k := 0) rfl (by rw [e_v19]; rfl) (by decide) rfl (fun ls hl => ?_)
            obtain ⟨v20, e_v20⟩ : ∃ z : Int32, z = x4_3 + 1 := ⟨_, rfl⟩
            have hm := hm v20 e_v20
            refine lv_iinc (v := v20) (lv' := [(4, .int v20), (3, .int v19), (2, .int x4_3), (0, .ref (a 0)), (1, .int x1)]) hx hb dX9_doubt_87 hl (k := 4) rfl (by rw [e_v20]; rfl) (by decide) rfl (fun ls hl => ?_)
            refine lv_goto (tgt := 18) hx hb dX9_doubt_90 (by decide) ?_
            exact ih7 _ _ _ _ hm _ _ _ hw (lv_sub hl [0, 1, 2, 3, 4] rfl)
          refine lv_icmp_eq (tgt := 79) hx hb dX9_doubt_64 (by decide) (fun c28 => ?_) (fun c28 => ?_)
          · have hm := hm.1 c28
            exact hJ18 _ hm _ _ _ hw (lv_sub hl [0, 1, 4] rfl)
          · have hm := hm.2 c28
            refine lv_iload hx hb dX9_doubt_67 (lv_at hl 4 rfl) ?_
            refine zS_I (As := [.int x4_3]) (rest := []) hc hw (c_M_ones hm) lk_X9_260 ⟨Nat.le_of_ble_eq_true rfl, Nat.le_of_ble_eq_true rfl⟩ ⟨Nat.le_of_ble_eq_true rfl, Nat.le_of_ble_eq_true rfl⟩ hl.1 rfl (Nat.le_of_ble_eq_true rfl) rfl dX9_doubt_69 (fun r21 H locs hm hw => ?_)
            refine lv_iload_n hx hb dX9_doubt_72 rfl (lv_at hl 2 rfl) ?_
            refine zS_I (As := [.int x2_5]) (rest := [.int r21]) hc hw (c_M_ones hm) lk_X9_260 ⟨Nat.le_of_ble_eq_true rfl, Nat.le_of_ble_eq_true rfl⟩ ⟨Nat.le_of_ble_eq_true rfl, Nat.le_of_ble_eq_true rfl⟩ hl.1 rfl (Nat.le_of_ble_eq_true rfl) rfl dX9_doubt_73 (fun r23 H locs hm hw => ?_)
            refine lv_icmp_ge (tgt := 84) hx hb dX9_doubt_76 (by decide) (fun c27 => ?_) (fun c27 => ?_)
            · have hm := hm.1 c27
              obtain ⟨v25, e_v25⟩ : ∃ z : Int32, z = x3_4 + 1 := ⟨_, rfl⟩
              have hm := hm v25 e_v25
              refine lv_iinc (v := v25) (lv' := [(3, .int v25), (0, .ref (a 0)), (1, .int x1), (2, .int x2_5), (4, .int x4_3)]) hx hb dX9_doubt_84 hl (k := 3) rfl (by rw [e_v25]; rfl) (by decide) rfl (fun ls hl => ?_)
              obtain ⟨v26, e_v26⟩ : ∃ z : Int32, z = x4_3 + 1 := ⟨_, rfl⟩
              have hm := hm v26 e_v26
              refine lv_iinc (v := v26) (lv' := [(4, .int v26), (3, .int v25), (0, .ref (a 0)), (1, .int x1), (2, .int x2_5)]) hx hb dX9_doubt_87 hl (k := 4) rfl (by rw [e_v26]; rfl) (by decide) rfl (fun ls hl => ?_)
              refine lv_goto (tgt := 18) hx hb dX9_doubt_90 (by decide) ?_
              exact ih7 _ _ _ _ hm _ _ _ hw (lv_sub hl [0, 1, 4, 2, 3] rfl)
            · have hm := hm.2 c27
              exact hJ18 _ hm _ _ _ hw (lv_sub hl [0, 1, 4] rfl)
        · have hm := hm.2 c30
          refine lv_goto (tgt := 87) hx hb dX9_doubt_59 (by decide) ?_
          obtain ⟨v29, e_v29⟩ : ∃ z : Int32, z = x4_3 + 1 := ⟨_, rfl⟩
          have hm := hm v29 e_v29
          refine lv_iinc (v := v29) (lv' := [(4, .int v29), (0, .ref (a 0)), (1, .int x1), (2, .int x2_5), (3, .int x3_4)]) hx hb dX9_doubt_87 hl (k := 4) rfl (by rw [e_v29]; rfl) (by decide) rfl (fun ls hl => ?_)
          refine lv_goto (tgt := 18) hx hb dX9_doubt_90 (by decide) ?_
          exact ih7 _ _ _ _ hm _ _ _ hw (lv_sub hl [0, 4, 3, 1, 2] rfl)
      refine lv_icmp_eq (tgt := 50) hx hb dX9_doubt_35 (by decide) (fun c37 => ?_) (fun c37 => ?_)
      · have hm := hm.1 c37
        exact hJ13 _ hm _ _ _ hw (lv_sub hl [3, 4, 2, 1, 0] rfl)
      · have hm := hm.2 c37
        refine lv_iload hx hb dX9_doubt_38 (lv_at hl 0 rfl) ?_
        refine zS_I (As := [.int x4_3]) (rest := []) hc hw (c_M_ones hm) lk_X9_260 ⟨Nat.le_of_ble_eq_true rfl, Nat.le_of_ble_eq_true rfl⟩ ⟨Nat.le_of_ble_eq_true rfl, Nat.le_of_ble_eq_true rfl⟩ hl.1 rfl (Nat.le_of_ble_eq_true rfl) rfl dX9_doubt_40 (fun r31 H locs hm hw => ?_)
        refine lv_iload_n hx hb dX9_doubt_43 rfl (lv_at hl 2 rfl) ?_
        refine zS_I (As := [.int x2_5]) (rest := [.int r31]) hc hw (c_M_ones hm) lk_X9_260 ⟨Nat.le_of_ble_eq_true rfl, Nat.le_of_ble_eq_true rfl⟩ ⟨Nat.le_of_ble_eq_true rfl, Nat.le_of_ble_eq_true rfl⟩ hl.1 rfl (Nat.le_of_ble_eq_true rfl) rfl dX9_doubt_44 (fun r33 H locs hm hw => ?_)
        refine lv_icmp_gt (tgt := 87) hx hb dX9_doubt_47 (by decide) (fun c36 => ?_) (fun c36 => ?_)
        · have hm := hm.1 c36
          obtain ⟨v35, e_v35⟩ : ∃ z : Int32, z = x4_3 + 1 := ⟨_, rfl⟩
          have hm := hm v35 e_v35
          refine lv_iinc (v := v35) (lv' := [(4, .int v35), (3, .int x3_4), (2, .int x2_5), (0, .ref (a 0)), (1, .int x1)]) hx hb dX9_doubt_87 hl (k := 0) rfl (by rw [e_v35]; rfl) (by decide) rfl (fun ls hl => ?_)
          refine lv_goto (tgt := 18) hx hb dX9_doubt_90 (by decide) ?_
          exact ih7 _ _ _ _ hm _ _ _ hw (lv_sub hl [0, 1, 2, 3, 4] rfl)
        · have hm := hm.2 c36
          exact hJ13 _ hm _ _ _ hw (lv_sub hl [3, 4, 2, 1, 0] rfl)
  · have hm := hm.2 c39
    refine lv_iconst (v := (-1)) hx hb dX9_doubt_9 (by decide) ?_
    exact retI (u := S) hc hw hm dX9_doubt_10
