set_option maxHeartbeats 4000000 in
set_option maxRecDepth 100000 in
theorem c_M_bestSet {l : Launch} {D : va_G} {cy : Nat → ClassId} {a : Nat → Nat} {S : Ob} {x1 : Int32} {Q : Int32 → Ob → Prop} (hm : wM_bestSet S x1 Q) : CtI l yX9_bestSet cX9_bestSet 5 (some .int) (rmN 2) D cy [.ref (a 0), .int x1] (mW cy a S) (mW cy a) Q := by
  refine CtI.ofW (by decide) (Nat.le_of_ble_eq_true rfl) ?_
  intro p e s m args below meth c A ls hc hnm hw hl
  have hx := hc.1.1
  have hb := hc.1.2.1
  have hown := hc.1.2.2.2.1
  have hts := hc.1.2.2.2.2
  have hl : lv_has ls 5 [(0, .ref (a 0)), (1, .int x1)] := hl
  obtain ⟨H, hH⟩ : ∃ z, z = s.heap := ⟨_, rfl⟩
  obtain ⟨locs, hLc⟩ : ∃ z : List Loc, z = [] := ⟨_, rfl⟩
  have hw : wV D A s.heap (mW cy a S) H locs := by rw [hH, hLc]; exact hw
  have hgo : W p l e (rmN 2) s m args below meth c H locs 0 0 (MQ below (eI D cy A (mW cy a) Q) args s (rmN 2).cells (rmN 2).slots A) (F0 m 0 ls []) := ?hgo
  · rw [hH, hLc] at hgo; exact hgo
  refine lv_iconst (v := (-1)) hx hb dX9_bestSet_0 (by decide) ?_
  refine lv_istore_n (lv' := [(2, .int (-1)), (0, .ref (a 0)), (1, .int x1)]) hx hb dX9_bestSet_1 rfl hl (by decide) rfl (fun ls hl => ?_)
  refine lv_iconst (v := 0) hx hb dX9_bestSet_2 (by decide) ?_
  refine lv_istore_n (lv' := [(3, .int 0), (2, .int (-1)), (0, .ref (a 0)), (1, .int x1)]) hx hb dX9_bestSet_3 rfl hl (by decide) rfl (fun ls hl => ?_)
  refine wl3_ind (G := fun (x3_1 : Int32) (x2_2 : Int32) (S3 : Ob) => ∀ (H : Heap) (locs : List Loc) (ls : Array Slot), wV D A s.heap (mW cy a S3) H locs → lv_has ls 5 [(3, .int x3_1), (2, .int x2_2), (0, .ref (a 0)), (1, .int x1)] → W p l e (rmN 2) s m args below meth c H locs 0 0 (MQ below (eI D cy A (mW cy a) Q) args s (rmN 2).cells (rmN 2).slots A) (F0 m 4 ls [])) ?_ _ _ _ hm H locs ls hw (lv_sub hl [0, 1, 2, 3] rfl)
  intro L4 ih4 x3_1 x2_2 S3 hm H locs ls hw hl
  refine lv_iload_n hx hb dX9_bestSet_4 rfl (lv_at hl 0 rfl) ?_
  refine lv_iconst (v := 1) hx hb dX9_bestSet_5 (by decide) ?_
  refine lv_aload_n hx hb dX9_bestSet_6 rfl (lv_at hl 2 rfl) ?_
  refine aV_I (As := []) (rest := [.int 1, .int x3_1]) hc hw (c_M_tales hm) lk_X9_105 rfl rfl ⟨Nat.le_of_ble_eq_true rfl, Nat.le_of_ble_eq_true rfl⟩ ⟨Nat.le_of_ble_eq_true rfl, Nat.le_of_ble_eq_true rfl⟩ hl.1 rfl (Nat.le_of_ble_eq_true rfl) rfl dX9_bestSet_7 (fun r5 _ H locs hm hw => ?_)
  have hw : wV D A s.heap (mW cy a S3) H locs := hw
  refine lv_ishl hx hb dX9_bestSet_10 ?_
  refine lv_icmp_ge (tgt := 120) hx hb dX9_bestSet_11 (by decide) (fun c44 => ?_) (fun c44 => ?_)
  · have hm := hm.1 c44
    refine lv_iload_n hx hb dX9_bestSet_120 rfl (lv_at hl 1 rfl) ?_
    exact retI (u := S3) hc hw hm dX9_bestSet_121
  · have hm := hm.2 c44
    refine lv_aload_n hx hb dX9_bestSet_14 rfl (lv_at hl 2 rfl) ?_
    refine lv_iload_n hx hb dX9_bestSet_15 rfl (lv_at hl 0 rfl) ?_
    refine aV_I (As := [.int x3_1]) (rest := []) hc hw (c_M_isSet hm) lk_X9_316 rfl rfl ⟨Nat.le_of_ble_eq_true rfl, Nat.le_of_ble_eq_true rfl⟩ ⟨Nat.le_of_ble_eq_true rfl, Nat.le_of_ble_eq_true rfl⟩ hl.1 rfl (Nat.le_of_ble_eq_true rfl) rfl dX9_bestSet_16 (fun r7 _ H locs hm hw => ?_)
    have hw : wV D A s.heap (mW cy a S3) H locs := hw
    refine lv_if_eq (tgt := 114) hx hb dX9_bestSet_19 (by decide) (fun c43 => ?_) (fun c43 => ?_)
    · have hm := hm.1 c43
      obtain ⟨v9, e_v9⟩ : ∃ z : Int32, z = x3_1 + 1 := ⟨_, rfl⟩
      have hm := hm v9 e_v9
      refine lv_iinc (v := v9) (lv' := [(3, .int v9), (2, .int x2_2), (0, .ref (a 0)), (1, .int x1)]) hx hb dX9_bestSet_114 hl (k := 0) rfl (by rw [e_v9]; rfl) (by decide) rfl (fun ls hl => ?_)
      refine lv_goto (tgt := 4) hx hb dX9_bestSet_117 (by decide) ?_
      exact ih4 _ _ _ hm _ _ _ hw (lv_sub hl [0, 1, 2, 3] rfl)
    · have hm := hm.2 c43
      refine lv_aload_n hx hb dX9_bestSet_22 rfl (lv_at hl 2 rfl) ?_
      refine lv_iload_n hx hb dX9_bestSet_23 rfl (lv_at hl 0 rfl) ?_
      refine aV_I (As := [.int x3_1]) (rest := []) hc hw (c_M_goesOn hm) lk_X9_319 rfl rfl ⟨Nat.le_of_ble_eq_true rfl, Nat.le_of_ble_eq_true rfl⟩ ⟨Nat.le_of_ble_eq_true rfl, Nat.le_of_ble_eq_true rfl⟩ hl.1 rfl (Nat.le_of_ble_eq_true rfl) rfl dX9_bestSet_24 (fun r10 _ H locs hm hw => ?_)
      have hw : wV D A s.heap (mW cy a S3) H locs := hw
      refine lv_if_ne (tgt := 33) hx hb dX9_bestSet_27 (by decide) (fun c42 => ?_) (fun c42 => ?_)
      · have hm := hm.1 c42
        refine lv_iload_n hx hb dX9_bestSet_33 rfl (lv_at hl 1 rfl) ?_
        refine lv_iconst (v := (-1)) hx hb dX9_bestSet_34 (by decide) ?_
        obtain ⟨J13, eJ13, hm⟩ := jn_e hm
        have hJ13 : ∀ (t12 : Int32) (_ : J13 t12) (H : Heap) (locs : List Loc) (ls : Array Slot), wV D A s.heap (mW cy a S3) H locs → lv_has ls 5 [(0, .ref (a 0)), (1, .int x1), (2, .int x2_2), (3, .int x3_1)] → W p l e (rmN 2) s m args below meth c H locs 0 0 (MQ below (eI D cy A (mW cy a) Q) args s (rmN 2).cells (rmN 2).slots A) (F0 m 81 ls [.int t12]) := by
          intro t12 hm H locs ls hw hl
          rw [eJ13] at hm
          refine lv_istore (lv' := [(4, .int t12), (0, .ref (a 0)), (1, .int x1), (2, .int x2_2), (3, .int x3_1)]) hx hb dX9_bestSet_81 hl (by decide) rfl (fun ls hl => ?_)
          refine lv_iload hx hb dX9_bestSet_83 (lv_at hl 0 rfl) ?_
          obtain ⟨J16, eJ16, hm⟩ := jn_e hm
          have hJ16 : ∀ (x2_14 : Int32) (S15 : Ob) (_ : J16 x2_14 S15) (H : Heap) (locs : List Loc) (ls : Array Slot), wV D A s.heap (mW cy a S15) H locs → lv_has ls 5 [(0, .ref (a 0)), (1, .int x1), (2, .int x2_14), (3, .int x3_1), (4, .int t12)] → W p l e (rmN 2) s m args below meth c H locs 0 0 (MQ below (eI D cy A (mW cy a) Q) args s (rmN 2).cells (rmN 2).slots A) (F0 m 95 ls []) := by
            intro x2_14 S15 hm H locs ls hw hl
            rw [eJ16] at hm
            refine lv_aload_n hx hb dX9_bestSet_95 rfl (lv_at hl 0 rfl) ?_
            refine lv_dup hx hb dX9_bestSet_96 rfl ?_
            refine gF (k := 31) hc hw inX9 rfl 0 rfl (by decide) (gm 1090 (by decide +kernel) rfl) rfl dX9_bestSet_97 ?_
            refine lv_iload hx hb dX9_bestSet_100 (lv_at hl 4 rfl) ?_
            obtain ⟨J18, eJ18, hm⟩ := jn_e hm
            have hJ18 : ∀ (t17 : Int32) (_ : J18 t17) (H : Heap) (locs : List Loc) (ls : Array Slot), wV D A s.heap (mW cy a S15) H locs → lv_has ls 5 [(0, .ref (a 0)), (1, .int x1), (2, .int x2_14), (3, .int x3_1)] → W p l e (rmN 2) s m args below meth c H locs 0 0 (MQ below (eI D cy A (mW cy a) Q) args s (rmN 2).cells (rmN 2).slots A) (F0 m 110 ls [.int t17, .int (S15.1 31), .ref (a 0)]) := by
              intro t17 hm H locs ls hw hl
              rw [eJ18] at hm
              refine lv_iadd hx hb dX9_bestSet_110 ?_
              refine pF (k := 31) (ty := .int) hc hw inX9 tyX9_ok nmX9 rfl 0 rfl (by decide) (gm 1090 (by decide +kernel) rfl) rfl (by decide +kernel) rfl rfl (Nat.le_of_ble_eq_true rfl) dX9_bestSet_111 (fun H locs hw => ?_)
              obtain ⟨S19, e_S19⟩ : ∃ z : Ob, z = uS S15 31 ((S15.1 31) + t17) := ⟨_, rfl⟩
              have hm := hm S19 e_S19
              have hw : wV D A s.heap (mW cy a S19) H locs := by rw [e_S19]; exact hw
              obtain ⟨v20, e_v20⟩ : ∃ z : Int32, z = x3_1 + 1 := ⟨_, rfl⟩
              have hm := hm v20 e_v20
              refine lv_iinc (v := v20) (lv' := [(3, .int v20), (0, .ref (a 0)), (1, .int x1), (2, .int x2_14)]) hx hb dX9_bestSet_114 hl (k := 3) rfl (by rw [e_v20]; rfl) (by decide) rfl (fun ls hl => ?_)
              refine lv_goto (tgt := 4) hx hb dX9_bestSet_117 (by decide) ?_
              exact ih4 _ _ _ hm _ _ _ hw (lv_sub hl [0, 3, 1, 2] rfl)
            refine lv_if_ge (tgt := 109) hx hb dX9_bestSet_102 (by decide) (fun c21 => ?_) (fun c21 => ?_)
            · have hm := hm.1 c21
              refine lv_iconst (v := 1) hx hb dX9_bestSet_109 (by decide) ?_
              exact hJ18 _ hm _ _ _ hw (lv_sub hl [0, 1, 2, 3] rfl)
            · have hm := hm.2 c21
              refine lv_iconst (v := 0) hx hb dX9_bestSet_105 (by decide) ?_
              refine lv_goto (tgt := 110) hx hb dX9_bestSet_106 (by decide) ?_
              exact hJ18 _ hm _ _ _ hw (lv_sub hl [0, 1, 2, 3] rfl)
          refine lv_if_le (tgt := 95) hx hb dX9_bestSet_85 (by decide) (fun c23 => ?_) (fun c23 => ?_)
          · have hm := hm.1 c23
            exact hJ16 _ _ hm _ _ _ hw (lv_sub hl [1, 2, 3, 4, 0] rfl)
          · have hm := hm.2 c23
            refine lv_iload_n hx hb dX9_bestSet_88 rfl (lv_at hl 4 rfl) ?_
            refine lv_istore_n (lv' := [(2, .int x3_1), (4, .int t12), (0, .ref (a 0)), (1, .int x1), (3, .int x3_1)]) hx hb dX9_bestSet_89 rfl hl (by decide) rfl (fun ls hl => ?_)
            refine lv_aload_n hx hb dX9_bestSet_90 rfl (lv_at hl 2 rfl) ?_
            refine lv_iconst (v := 0) hx hb dX9_bestSet_91 (by decide) ?_
            refine pF (k := 31) (ty := .int) hc hw inX9 tyX9_ok nmX9 rfl 0 rfl (by decide) (gm 1090 (by decide +kernel) rfl) rfl (by decide +kernel) rfl rfl (Nat.le_of_ble_eq_true rfl) dX9_bestSet_92 (fun H locs hw => ?_)
            obtain ⟨S22, e_S22⟩ : ∃ z : Ob, z = uS S3 31 0 := ⟨_, rfl⟩
            have hm := hm S22 e_S22
            have hw : wV D A s.heap (mW cy a S22) H locs := by rw [e_S22]; exact hw
            exact hJ16 _ _ hm _ _ _ hw (lv_sub hl [2, 3, 0, 4, 1] rfl)
        refine lv_icmp_ne (tgt := 42) hx hb dX9_bestSet_35 (by decide) (fun c40 => ?_) (fun c40 => ?_)
        · have hm := hm.1 c40
          refine lv_iload_n hx hb dX9_bestSet_42 rfl (lv_at hl 3 rfl) ?_
          refine lv_iconst (v := 1) hx hb dX9_bestSet_43 (by decide) ?_
          obtain ⟨J25, eJ25, hm⟩ := jn_e hm
          have hJ25 : ∀ (z24 : Unit) (_ : J25 z24) (H : Heap) (locs : List Loc) (ls : Array Slot), wV D A s.heap (mW cy a S3) H locs → lv_has ls 5 [(0, .ref (a 0)), (1, .int x1), (2, .int x2_2), (3, .int x3_1)] → W p l e (rmN 2) s m args below meth c H locs 0 0 (MQ below (eI D cy A (mW cy a) Q) args s (rmN 2).cells (rmN 2).slots A) (F0 m 70 ls []) := by
            intro z24 hm H locs ls hw hl
            rw [eJ25] at hm
            refine lv_aload_n hx hb dX9_bestSet_70 rfl (lv_at hl 0 rfl) ?_
            refine lv_iload_n hx hb dX9_bestSet_71 rfl (lv_at hl 3 rfl) ?_
            refine aV_I (As := [.int x3_1]) (rest := []) hc hw (c_M_worthOf hm) lk_X9_322 rfl rfl ⟨Nat.le_of_ble_eq_true rfl, Nat.le_of_ble_eq_true rfl⟩ ⟨Nat.le_of_ble_eq_true rfl, Nat.le_of_ble_eq_true rfl⟩ hl.1 rfl (Nat.le_of_ble_eq_true rfl) rfl dX9_bestSet_72 (fun r26 _ H locs hm hw => ?_)
            have hw : wV D A s.heap (mW cy a S3) H locs := hw
            refine lv_aload_n hx hb dX9_bestSet_75 rfl (lv_at hl 0 rfl) ?_
            refine lv_iload_n hx hb dX9_bestSet_76 rfl (lv_at hl 2 rfl) ?_
            refine aV_I (As := [.int x2_2]) (rest := [.int r26]) hc hw (c_M_worthOf hm) lk_X9_322 rfl rfl ⟨Nat.le_of_ble_eq_true rfl, Nat.le_of_ble_eq_true rfl⟩ ⟨Nat.le_of_ble_eq_true rfl, Nat.le_of_ble_eq_true rfl⟩ hl.1 rfl (Nat.le_of_ble_eq_true rfl) rfl dX9_bestSet_77 (fun r28 _ H locs hm hw => ?_)
            have hw : wV D A s.heap (mW cy a S3) H locs := hw
            refine lv_isub hx hb dX9_bestSet_80 ?_
            exact hJ13 _ hm _ _ _ hw (lv_sub hl [0, 1, 2, 3] rfl)
          refine lv_icmp_ne (tgt := 70) hx hb dX9_bestSet_44 (by decide) (fun c39 => ?_) (fun c39 => ?_)
          · have hm := hm.1 c39
            exact hJ25 _ hm _ _ _ hw (lv_sub hl [2, 3, 1, 0] rfl)
          · have hm := hm.2 c39
            refine lv_iload_n hx hb dX9_bestSet_47 rfl (lv_at hl 0 rfl) ?_
            refine zS_I (As := [.int x3_1]) (rest := []) hc hw (c_M_ones hm) lk_X9_260 ⟨Nat.le_of_ble_eq_true rfl, Nat.le_of_ble_eq_true rfl⟩ ⟨Nat.le_of_ble_eq_true rfl, Nat.le_of_ble_eq_true rfl⟩ hl.1 rfl (Nat.le_of_ble_eq_true rfl) rfl dX9_bestSet_48 (fun r30 H locs hm hw => ?_)
            refine lv_iload_n hx hb dX9_bestSet_51 rfl (lv_at hl 1 rfl) ?_
            refine zS_I (As := [.int x2_2]) (rest := [.int r30]) hc hw (c_M_ones hm) lk_X9_260 ⟨Nat.le_of_ble_eq_true rfl, Nat.le_of_ble_eq_true rfl⟩ ⟨Nat.le_of_ble_eq_true rfl, Nat.le_of_ble_eq_true rfl⟩ hl.1 rfl (Nat.le_of_ble_eq_true rfl) rfl dX9_bestSet_52 (fun r32 H locs hm hw => ?_)
            refine lv_icmp_eq (tgt := 70) hx hb dX9_bestSet_55 (by decide) (fun c38 => ?_) (fun c38 => ?_)
            · have hm := hm.1 c38
              exact hJ25 _ hm _ _ _ hw (lv_sub hl [2, 3, 1, 0] rfl)
            · have hm := hm.2 c38
              refine lv_iload_n hx hb dX9_bestSet_58 rfl (lv_at hl 0 rfl) ?_
              refine zS_I (As := [.int x3_1]) (rest := []) hc hw (c_M_ones hm) lk_X9_260 ⟨Nat.le_of_ble_eq_true rfl, Nat.le_of_ble_eq_true rfl⟩ ⟨Nat.le_of_ble_eq_true rfl, Nat.le_of_ble_eq_true rfl⟩ hl.1 rfl (Nat.le_of_ble_eq_true rfl) rfl dX9_bestSet_59 (fun r34 H locs hm hw => ?_)
              refine lv_iload_n hx hb dX9_bestSet_62 rfl (lv_at hl 1 rfl) ?_
              refine zS_I (As := [.int x2_2]) (rest := [.int r34]) hc hw (c_M_ones hm) lk_X9_260 ⟨Nat.le_of_ble_eq_true rfl, Nat.le_of_ble_eq_true rfl⟩ ⟨Nat.le_of_ble_eq_true rfl, Nat.le_of_ble_eq_true rfl⟩ hl.1 rfl (Nat.le_of_ble_eq_true rfl) rfl dX9_bestSet_63 (fun r36 H locs hm hw => ?_)
              refine lv_isub hx hb dX9_bestSet_66 ?_
              refine lv_goto (tgt := 81) hx hb dX9_bestSet_67 (by decide) ?_
              exact hJ13 _ hm _ _ _ hw (lv_sub hl [2, 3, 1, 0] rfl)
        · have hm := hm.2 c40
          refine lv_iconst (v := 1) hx hb dX9_bestSet_38 (by decide) ?_
          refine lv_goto (tgt := 81) hx hb dX9_bestSet_39 (by decide) ?_
          exact hJ13 _ hm _ _ _ hw (lv_sub hl [2, 3, 1, 0] rfl)
      · have hm := hm.2 c42
        refine lv_goto (tgt := 114) hx hb dX9_bestSet_30 (by decide) ?_
        obtain ⟨v41, e_v41⟩ : ∃ z : Int32, z = x3_1 + 1 := ⟨_, rfl⟩
        have hm := hm v41 e_v41
        refine lv_iinc (v := v41) (lv' := [(3, .int v41), (2, .int x2_2), (0, .ref (a 0)), (1, .int x1)]) hx hb dX9_bestSet_114 hl (k := 0) rfl (by rw [e_v41]; rfl) (by decide) rfl (fun ls hl => ?_)
        refine lv_goto (tgt := 4) hx hb dX9_bestSet_117 (by decide) ?_
        exact ih4 _ _ _ hm _ _ _ hw (lv_sub hl [0, 1, 2, 3] rfl)
set_option maxHeartbeats 4000000 in
set_option maxRecDepth 100000 in
theorem c_M_best {l : Launch} {D : va_G} {cy : Nat → ClassId} {a : Nat → Nat} {S : Ob} {x1 : Int32} {x2 : Int32} {Q : Int32 → Ob → Prop} (hm : wM_best S x1 x2 Q) : CtI l yX9_best cX9_best 4 (some .int) (rmN 103) D cy [.ref (a 0), .int x1, .int x2] (mW cy a S) (mW cy a) Q := by
  refine CtI.ofW (by decide) (Nat.le_of_ble_eq_true rfl) ?_
  intro p e s m args below meth c A ls hc hnm hw hl
  have hx := hc.1.1
  have hb := hc.1.2.1
  have hown := hc.1.2.2.2.1
  have hts := hc.1.2.2.2.2
  have hl : lv_has ls 4 [(0, .ref (a 0)), (1, .int x1), (2, .int x2)] := hl
  obtain ⟨H, hH⟩ : ∃ z, z = s.heap := ⟨_, rfl⟩
  obtain ⟨locs, hLc⟩ : ∃ z : List Loc, z = [] := ⟨_, rfl⟩
  have hw : wV D A s.heap (mW cy a S) H locs := by rw [hH, hLc]; exact hw
  have hgo : W p l e (rmN 103) s m args below meth c H locs 0 0 (MQ below (eI D cy A (mW cy a) Q) args s (rmN 103).cells (rmN 103).slots A) (F0 m 0 ls []) := ?hgo
  · rw [hH, hLc] at hgo; exact hgo
  refine lv_iload_n hx hb dX9_best_0 rfl (lv_at hl 1 rfl) ?_
  refine lv_iconst (v := 0) hx hb dX9_best_1 (by decide) ?_
  refine lv_iconst (v := 1) hx hb dX9_best_2 (by decide) ?_
  refine zS_I (As := [.int x1, .int 0, .int 1]) (rest := []) hc hw (c_M_lies hm) lk_X9_94 ⟨Nat.le_of_ble_eq_true rfl, Nat.le_of_ble_eq_true rfl⟩ ⟨Nat.le_of_ble_eq_true rfl, Nat.le_of_ble_eq_true rfl⟩ hl.1 rfl (Nat.le_of_ble_eq_true rfl) rfl dX9_best_3 (fun r1 H locs hm hw => ?_)
  refine lv_if_eq (tgt := 18) hx hb dX9_best_6 (by decide) (fun c18 => ?_) (fun c18 => ?_)
  · have hm := hm.1 c18
    refine lv_iconst (v := (-1)) hx hb dX9_best_18 (by decide) ?_
    exact retI (u := S) hc hw hm dX9_best_19
  · have hm := hm.2 c18
    refine lv_iload_n hx hb dX9_best_9 rfl (lv_at hl 2 rfl) ?_
    refine lv_iconst (v := 0) hx hb dX9_best_10 (by decide) ?_
    refine lv_iconst (v := 3) hx hb dX9_best_11 (by decide) ?_
    refine zS_I (As := [.int x2, .int 0, .int 3]) (rest := []) hc hw (c_M_lies hm) lk_X9_94 ⟨Nat.le_of_ble_eq_true rfl, Nat.le_of_ble_eq_true rfl⟩ ⟨Nat.le_of_ble_eq_true rfl, Nat.le_of_ble_eq_true rfl⟩ hl.1 rfl (Nat.le_of_ble_eq_true rfl) rfl dX9_best_12 (fun r3 H locs hm hw => ?_)
    refine lv_if_ne (tgt := 20) hx hb dX9_best_15 (by decide) (fun c17 => ?_) (fun c17 => ?_)
    · have hm := hm.1 c17
      refine lv_aload_n hx hb dX9_best_20 rfl (lv_at hl 0 rfl) ?_
      refine aV_V (As := []) (rest := []) hc hw (c_M_looks hm) lk_X9_279 rfl rfl ⟨Nat.le_of_ble_eq_true rfl, Nat.le_of_ble_eq_true rfl⟩ ⟨Nat.le_of_ble_eq_true rfl, Nat.le_of_ble_eq_true rfl⟩ hl.1 rfl (Nat.le_of_ble_eq_true rfl) rfl dX9_best_21 (fun S5 H locs hm hw => ?_)
      have hw : wV D A s.heap (mW cy a S5) H locs := hw
      refine lv_aload_n hx hb dX9_best_24 rfl (lv_at hl 0 rfl) ?_
      refine lv_iload_n hx hb dX9_best_25 rfl (lv_at hl 1 rfl) ?_
      refine aV_I (As := [.int x1]) (rest := []) hc hw (c_M_bestSet hm) lk_X9_328 rfl rfl ⟨Nat.le_of_ble_eq_true rfl, Nat.le_of_ble_eq_true rfl⟩ ⟨Nat.le_of_ble_eq_true rfl, Nat.le_of_ble_eq_true rfl⟩ hl.1 rfl (Nat.le_of_ble_eq_true rfl) rfl dX9_best_26 (fun r7 S8 H locs hm hw => ?_)
      have hw : wV D A s.heap (mW cy a S8) H locs := hw
      refine lv_istore_n (lv' := [(3, .int r7), (0, .ref (a 0)), (1, .int x1), (2, .int x2)]) hx hb dX9_best_29 rfl hl (by decide) rfl (fun ls hl => ?_)
      refine lv_iload_n hx hb dX9_best_30 rfl (lv_at hl 3 rfl) ?_
      refine lv_if_ne (tgt := 42) hx hb dX9_best_31 (by decide) (fun c16 => ?_) (fun c16 => ?_)
      · have hm := hm.1 c16
        refine lv_iload_n hx hb dX9_best_42 rfl (lv_at hl 3 rfl) ?_
        refine lv_iconst (v := 1) hx hb dX9_best_43 (by decide) ?_
        refine lv_icmp_ne (tgt := 54) hx hb dX9_best_44 (by decide) (fun c13 => ?_) (fun c13 => ?_)
        · have hm := hm.1 c13
          refine lv_iload_n hx hb dX9_best_54 rfl (lv_at hl 3 rfl) ?_
          refine lv_iconst (v := 2) hx hb dX9_best_55 (by decide) ?_
          refine lv_icmp_ne (tgt := 63) hx hb dX9_best_56 (by decide) (fun c10 => ?_) (fun c10 => ?_)
          · have hm := hm.1 c10
            refine lv_aload_n hx hb dX9_best_63 rfl (lv_at hl 1 rfl) ?_
            refine gF (k := 31) hc hw inX9 rfl 0 rfl (by decide) (gm 1090 (by decide +kernel) rfl) rfl dX9_best_64 ?_
            exact retI (u := S8) hc hw hm dX9_best_67
          · have hm := hm.2 c10
            refine lv_iload_n hx hb dX9_best_59 rfl (lv_at hl 0 rfl) ?_
            refine lv_goto (tgt := 67) hx hb dX9_best_60 (by decide) ?_
            exact retI (u := S8) hc hw hm dX9_best_67
        · have hm := hm.2 c13
          refine lv_iload_n hx hb dX9_best_47 rfl (lv_at hl 0 rfl) ?_
          refine zS_I (As := [.int r7]) (rest := []) hc hw (c_M_ones hm) lk_X9_260 ⟨Nat.le_of_ble_eq_true rfl, Nat.le_of_ble_eq_true rfl⟩ ⟨Nat.le_of_ble_eq_true rfl, Nat.le_of_ble_eq_true rfl⟩ hl.1 rfl (Nat.le_of_ble_eq_true rfl) rfl dX9_best_48 (fun r11 H locs hm hw => ?_)
          refine lv_goto (tgt := 67) hx hb dX9_best_51 (by decide) ?_
          exact retI (u := S8) hc hw hm dX9_best_67
      · have hm := hm.2 c16
        refine lv_aload_n hx hb dX9_best_34 rfl (lv_at hl 1 rfl) ?_
        refine lv_iload_n hx hb dX9_best_35 rfl (lv_at hl 0 rfl) ?_
        refine aV_I (As := [.int r7]) (rest := []) hc hw (c_M_worthOf hm) lk_X9_322 rfl rfl ⟨Nat.le_of_ble_eq_true rfl, Nat.le_of_ble_eq_true rfl⟩ ⟨Nat.le_of_ble_eq_true rfl, Nat.le_of_ble_eq_true rfl⟩ hl.1 rfl (Nat.le_of_ble_eq_true rfl) rfl dX9_best_36 (fun r14 _ H locs hm hw => ?_)
        have hw : wV D A s.heap (mW cy a S8) H locs := hw
        refine lv_goto (tgt := 67) hx hb dX9_best_39 (by decide) ?_
        exact retI (u := S8) hc hw hm dX9_best_67
    · have hm := hm.2 c17
      refine lv_iconst (v := (-1)) hx hb dX9_best_18 (by decide) ?_
      exact retI (u := S) hc hw hm dX9_best_19
set_option maxHeartbeats 4000000 in
set_option maxRecDepth 100000 in
theorem c_M_nexts {l : Launch} {D : va_G} {cy : Nat → ClassId} {a : Nat → Nat} {S : Ob} {x1 : Int32} {x2 : Int32} {Q : Int32 → Prop} (hm : wM_nexts S x1 x2 Q) : CtI l yX9_nexts cX9_nexts 6 (some .int) (rmN 1) D cy [.ref (a 0), .int x1, .int x2] (mW cy a S) (fun _ : Unit => mW cy a S) (fun (r : Int32) (_ : Unit) => Q r) := by
  refine CtI.ofW (by decide) (Nat.le_of_ble_eq_true rfl) ?_
  intro p e s m args below meth c A ls hc hnm hw hl
  have hx := hc.1.1
  have hb := hc.1.2.1
  have hown := hc.1.2.2.2.1
  have hts := hc.1.2.2.2.2
  have hl : lv_has ls 6 [(0, .ref (a 0)), (1, .int x1), (2, .int x2)] := hl
  obtain ⟨H, hH⟩ : ∃ z, z = s.heap := ⟨_, rfl⟩
  obtain ⟨locs, hLc⟩ : ∃ z : List Loc, z = [] := ⟨_, rfl⟩
  have hw : wV D A s.heap (mW cy a S) H locs := by rw [hH, hLc]; exact hw
  have hgo : W p l e (rmN 1) s m args below meth c H locs 0 0 (MQ below (eI D cy A (fun _ : Unit => mW cy a S) (fun (r : Int32) (_ : Unit) => Q r)) args s (rmN 1).cells (rmN 1).slots A) (F0 m 0 ls []) := ?hgo
  · rw [hH, hLc] at hgo; exact hgo
  refine lv_iconst (v := 0) hx hb dX9_nexts_0 (by decide) ?_
  refine lv_istore_n (lv' := [(3, .int 0), (0, .ref (a 0)), (1, .int x1), (2, .int x2)]) hx hb dX9_nexts_1 rfl hl (by decide) rfl (fun ls hl => ?_)
  refine lv_iconst (v := 0) hx hb dX9_nexts_2 (by decide) ?_
  refine lv_istore (lv' := [(4, .int 0), (3, .int 0), (0, .ref (a 0)), (1, .int x1), (2, .int x2)]) hx hb dX9_nexts_3 hl (by decide) rfl (fun ls hl => ?_)
  refine wl2_ind (G := fun (x4_1 : Int32) (x3_2 : Int32) => ∀ (H : Heap) (locs : List Loc) (ls : Array Slot), wV D A s.heap (mW cy a S) H locs → lv_has ls 6 [(4, .int x4_1), (3, .int x3_2), (0, .ref (a 0)), (1, .int x1), (2, .int x2)] → W p l e (rmN 1) s m args below meth c H locs 0 0 (MQ below (eI D cy A (fun _ : Unit => mW cy a S) (fun (r : Int32) (_ : Unit) => Q r)) args s (rmN 1).cells (rmN 1).slots A) (F0 m 5 ls [])) ?_ _ _ hm H locs ls hw (lv_sub hl [0, 1, 2, 3, 4] rfl)
  intro L3 ih3 x4_1 x3_2 hm H locs ls hw hl
  refine lv_iload hx hb dX9_nexts_5 (lv_at hl 0 rfl) ?_
  refine lv_iconst (v := 4) hx hb dX9_nexts_7 (by decide) ?_
  refine lv_icmp_gt (tgt := 73) hx hb dX9_nexts_8 (by decide) (fun c24 => ?_) (fun c24 => ?_)
  · have hm := hm.1 c24
    refine lv_iload_n hx hb dX9_nexts_73 rfl (lv_at hl 1 rfl) ?_
    exact retI (u := ()) hc hw hm dX9_nexts_74
  · have hm := hm.2 c24
    refine lv_iconst (v := 0) hx hb dX9_nexts_11 (by decide) ?_
    refine lv_istore (lv' := [(5, .int 0), (4, .int x4_1), (3, .int x3_2), (0, .ref (a 0)), (1, .int x1), (2, .int x2)]) hx hb dX9_nexts_12 hl (by decide) rfl (fun ls hl => ?_)
    refine wl2_ind (G := fun (x5_4 : Int32) (x3_5 : Int32) => ∀ (H : Heap) (locs : List Loc) (ls : Array Slot), wV D A s.heap (mW cy a S) H locs → lv_has ls 6 [(5, .int x5_4), (4, .int x4_1), (3, .int x3_5), (0, .ref (a 0)), (1, .int x1), (2, .int x2)] → W p l e (rmN 1) s m args below meth c H locs 0 0 (MQ below (eI D cy A (fun _ : Unit => mW cy a S) (fun (r : Int32) (_ : Unit) => Q r)) args s (rmN 1).cells (rmN 1).slots A) (F0 m 14 ls [])) ?_ _ _ hm H locs ls hw (lv_sub hl [0, 1, 2, 3, 4, 5] rfl)
    intro L6 ih6 x5_4 x3_5 hm H locs ls hw hl
    refine lv_iload hx hb dX9_nexts_14 (lv_at hl 0 rfl) ?_
    refine lv_iconst (v := 4) hx hb dX9_nexts_16 (by decide) ?_
    refine lv_icmp_ge (tgt := 67) hx hb dX9_nexts_17 (by decide) (fun c23 => ?_) (fun c23 => ?_)
    · have hm := hm.1 c23
      obtain ⟨v7, e_v7⟩ : ∃ z : Int32, z = x4_1 + 1 := ⟨_, rfl⟩
      have hm := hm v7 e_v7
      refine lv_iinc (v := v7) (lv' := [(4, .int v7), (5, .int x5_4), (3, .int x3_5), (0, .ref (a 0)), (1, .int x1), (2, .int x2)]) hx hb dX9_nexts_67 hl (k := 1) rfl (by rw [e_v7]; rfl) (by decide) rfl (fun ls hl => ?_)
      refine lv_goto (tgt := 5) hx hb dX9_nexts_70 (by decide) ?_
      exact ih3 _ _ hm _ _ _ hw (lv_sub hl [0, 2, 3, 4, 5] rfl)
    · have hm := hm.2 c23
      refine lv_iload_n hx hb dX9_nexts_20 rfl (lv_at hl 5 rfl) ?_
      refine lv_iload hx hb dX9_nexts_21 (lv_at hl 1 rfl) ?_
      refine zS_I (As := [.int x2, .int x4_1]) (rest := []) hc hw (c_M_isIn hm) lk_X9_269 ⟨Nat.le_of_ble_eq_true rfl, Nat.le_of_ble_eq_true rfl⟩ ⟨Nat.le_of_ble_eq_true rfl, Nat.le_of_ble_eq_true rfl⟩ hl.1 rfl (Nat.le_of_ble_eq_true rfl) rfl dX9_nexts_23 (fun r8 H locs hm hw => ?_)
      refine lv_if_eq (tgt := 61) hx hb dX9_nexts_26 (by decide) (fun c22 => ?_) (fun c22 => ?_)
      · have hm := hm.1 c22
        obtain ⟨v10, e_v10⟩ : ∃ z : Int32, z = x5_4 + 1 := ⟨_, rfl⟩
        have hm := hm v10 e_v10
        refine lv_iinc (v := v10) (lv' := [(5, .int v10), (4, .int x4_1), (3, .int x3_5), (0, .ref (a 0)), (1, .int x1), (2, .int x2)]) hx hb dX9_nexts_61 hl (k := 0) rfl (by rw [e_v10]; rfl) (by decide) rfl (fun ls hl => ?_)
        refine lv_goto (tgt := 14) hx hb dX9_nexts_64 (by decide) ?_
        exact ih6 _ _ hm _ _ _ hw (lv_sub hl [0, 1, 2, 3, 4, 5] rfl)
      · have hm := hm.2 c22
        refine lv_aload_n hx hb dX9_nexts_29 rfl (lv_at hl 3 rfl) ?_
        refine gF (k := 28) hc hw inX9 rfl 0 rfl (by decide) (gm 1087 (by decide +kernel) rfl) rfl dX9_nexts_30 ?_
        refine lv_iload_n hx hb dX9_nexts_33 rfl (lv_at hl 4 rfl) ?_
        obtain ⟨c11, hm⟩ := hm
        refine aI hc hw 14 rfl c11 rfl dX9_nexts_34 ?_
        refine lv_iload hx hb dX9_nexts_35 (lv_at hl 0 rfl) ?_
        refine zS_I (As := [.int (S.2 28 (Int32.toNatClampNeg x1)), .int x5_4]) (rest := []) hc hw (c_M_isIn hm) lk_X9_269 ⟨Nat.le_of_ble_eq_true rfl, Nat.le_of_ble_eq_true rfl⟩ ⟨Nat.le_of_ble_eq_true rfl, Nat.le_of_ble_eq_true rfl⟩ hl.1 rfl (Nat.le_of_ble_eq_true rfl) rfl dX9_nexts_37 (fun r12 H locs hm hw => ?_)
        refine lv_if_eq (tgt := 61) hx hb dX9_nexts_40 (by decide) (fun c21 => ?_) (fun c21 => ?_)
        · have hm := hm.1 c21
          obtain ⟨v14, e_v14⟩ : ∃ z : Int32, z = x5_4 + 1 := ⟨_, rfl⟩
          have hm := hm v14 e_v14
          refine lv_iinc (v := v14) (lv' := [(5, .int v14), (4, .int x4_1), (3, .int x3_5), (0, .ref (a 0)), (1, .int x1), (2, .int x2)]) hx hb dX9_nexts_61 hl (k := 0) rfl (by rw [e_v14]; rfl) (by decide) rfl (fun ls hl => ?_)
          refine lv_goto (tgt := 14) hx hb dX9_nexts_64 (by decide) ?_
          exact ih6 _ _ hm _ _ _ hw (lv_sub hl [0, 1, 2, 3, 4, 5] rfl)
        · have hm := hm.2 c21
          refine lv_aload_n hx hb dX9_nexts_43 rfl (lv_at hl 3 rfl) ?_
          refine lv_iload hx hb dX9_nexts_44 (lv_at hl 1 rfl) ?_
          refine lv_iload hx hb dX9_nexts_46 (lv_at hl 0 rfl) ?_
          refine aV_I (As := [.int x4_1, .int x5_4]) (rest := []) hc hw (c_M_mayNext hm) lk_X9_288 rfl rfl ⟨Nat.le_of_ble_eq_true rfl, Nat.le_of_ble_eq_true rfl⟩ ⟨Nat.le_of_ble_eq_true rfl, Nat.le_of_ble_eq_true rfl⟩ hl.1 rfl (Nat.le_of_ble_eq_true rfl) rfl dX9_nexts_48 (fun r15 _ H locs hm hw => ?_)
          have hw : wV D A s.heap (mW cy a S) H locs := hw
          refine lv_if_eq (tgt := 61) hx hb dX9_nexts_51 (by decide) (fun c20 => ?_) (fun c20 => ?_)
          · have hm := hm.1 c20
            obtain ⟨v17, e_v17⟩ : ∃ z : Int32, z = x5_4 + 1 := ⟨_, rfl⟩
            have hm := hm v17 e_v17
            refine lv_iinc (v := v17) (lv' := [(5, .int v17), (4, .int x4_1), (3, .int x3_5), (0, .ref (a 0)), (1, .int x1), (2, .int x2)]) hx hb dX9_nexts_61 hl (k := 0) rfl (by rw [e_v17]; rfl) (by decide) rfl (fun ls hl => ?_)
            refine lv_goto (tgt := 14) hx hb dX9_nexts_64 (by decide) ?_
            exact ih6 _ _ hm _ _ _ hw (lv_sub hl [0, 1, 2, 3, 4, 5] rfl)
          · have hm := hm.2 c20
            refine lv_iload_n hx hb dX9_nexts_54 rfl (lv_at hl 2 rfl) ?_
            refine lv_iconst (v := 1) hx hb dX9_nexts_55 (by decide) ?_
            refine lv_iload hx hb dX9_nexts_56 (lv_at hl 0 rfl) ?_
            refine lv_ishl hx hb dX9_nexts_58 ?_
            refine lv_ior hx hb dX9_nexts_59 ?_
            refine lv_topi (fun v18 e_v18 => ?_)
            have hm := hm v18 e_v18
            refine lv_istore_n (lv' := [(3, .int v18), (5, .int x5_4), (4, .int x4_1), (0, .ref (a 0)), (1, .int x1), (2, .int x2)]) hx hb dX9_nexts_60 rfl hl (by decide) rfl (fun ls hl => ?_)
            obtain ⟨v19, e_v19⟩ : ∃ z : Int32, z = x5_4 + 1 := ⟨_, rfl⟩
            have hm := hm v19 e_v19
            refine lv_iinc (v := v19) (lv' := [(5, .int v19), (3, .int v18), (4, .int x4_1), (0, .ref (a 0)), (1, .int x1), (2, .int x2)]) hx hb dX9_nexts_61 hl (k := 1) rfl (by rw [e_v19]; rfl) (by decide) rfl (fun ls hl => ?_)
            refine lv_goto (tgt := 14) hx hb dX9_nexts_64 (by decide) ?_
            exact ih6 _ _ hm _ _ _ hw (lv_sub hl [0, 2, 1, 3, 4, 5] rfl)
set_option maxHeartbeats 4000000 in
set_option maxRecDepth 100000 in
theorem c_M_goOnBy {l : Launch} {D : va_G} {cy : Nat → ClassId} {a : Nat → Nat} {S : Ob} {x1 : Int32} {x2 : Int32} {x3 : Int32} {Q : Int32 → Prop} (hm : wM_goOnBy S x1 x2 x3 Q) : CtI l yX9_goOnBy cX9_goOnBy 6 (some .int) (rmN 1) D cy [.ref (a 0), .int x1, .int x2, .int x3] (mW cy a S) (fun _ : Unit => mW cy a S) (fun (r : Int32) (_ : Unit) => Q r) := by
  refine CtI.ofW (by decide) (Nat.le_of_ble_eq_true rfl) ?_
  intro p e s m args below meth c A ls hc hnm hw hl
  have hx := hc.1.1
  have hb := hc.1.2.1
  have hown := hc.1.2.2.2.1
  have hts := hc.1.2.2.2.2
  have hl : lv_has ls 6 [(0, .ref (a 0)), (1, .int x1), (2, .int x2), (3, .int x3)] := hl
  obtain ⟨H, hH⟩ : ∃ z, z = s.heap := ⟨_, rfl⟩
  obtain ⟨locs, hLc⟩ : ∃ z : List Loc, z = [] := ⟨_, rfl⟩
  have hw : wV D A s.heap (mW cy a S) H locs := by rw [hH, hLc]; exact hw
  have hgo : W p l e (rmN 1) s m args below meth c H locs 0 0 (MQ below (eI D cy A (fun _ : Unit => mW cy a S) (fun (r : Int32) (_ : Unit) => Q r)) args s (rmN 1).cells (rmN 1).slots A) (F0 m 0 ls []) := ?hgo
  · rw [hH, hLc] at hgo; exact hgo
  refine lv_iconst (v := 0) hx hb dX9_goOnBy_0 (by decide) ?_
  refine lv_istore (lv' := [(4, .int 0), (0, .ref (a 0)), (1, .int x1), (2, .int x2), (3, .int x3)]) hx hb dX9_goOnBy_1 hl (by decide) rfl (fun ls hl => ?_)
  refine lv_iconst (v := 0) hx hb dX9_goOnBy_3 (by decide) ?_
  refine lv_istore (lv' := [(5, .int 0), (4, .int 0), (0, .ref (a 0)), (1, .int x1), (2, .int x2), (3, .int x3)]) hx hb dX9_goOnBy_4 hl (by decide) rfl (fun ls hl => ?_)
  refine wl2_ind (G := fun (x5_1 : Int32) (x4_2 : Int32) => ∀ (H : Heap) (locs : List Loc) (ls : Array Slot), wV D A s.heap (mW cy a S) H locs → lv_has ls 6 [(5, .int x5_1), (4, .int x4_2), (0, .ref (a 0)), (1, .int x1), (2, .int x2), (3, .int x3)] → W p l e (rmN 1) s m args below meth c H locs 0 0 (MQ below (eI D cy A (fun _ : Unit => mW cy a S) (fun (r : Int32) (_ : Unit) => Q r)) args s (rmN 1).cells (rmN 1).slots A) (F0 m 6 ls [])) ?_ _ _ hm H locs ls hw (lv_sub hl [0, 1, 2, 3, 4, 5] rfl)
  intro L3 ih3 x5_1 x4_2 hm H locs ls hw hl
  refine lv_iload hx hb dX9_goOnBy_6 (lv_at hl 0 rfl) ?_
  refine lv_iconst (v := 4) hx hb dX9_goOnBy_8 (by decide) ?_
  refine lv_icmp_ge (tgt := 51) hx hb dX9_goOnBy_9 (by decide) (fun c13 => ?_) (fun c13 => ?_)
  · have hm := hm.1 c13
    refine lv_iload hx hb dX9_goOnBy_51 (lv_at hl 1 rfl) ?_
    exact retI (u := ()) hc hw hm dX9_goOnBy_53
  · have hm := hm.2 c13
    refine lv_iload_n hx hb dX9_goOnBy_12 rfl (lv_at hl 3 rfl) ?_
    refine lv_iload hx hb dX9_goOnBy_13 (lv_at hl 0 rfl) ?_
    refine zS_I (As := [.int x1, .int x5_1]) (rest := []) hc hw (c_M_isIn hm) lk_X9_269 ⟨Nat.le_of_ble_eq_true rfl, Nat.le_of_ble_eq_true rfl⟩ ⟨Nat.le_of_ble_eq_true rfl, Nat.le_of_ble_eq_true rfl⟩ hl.1 rfl (Nat.le_of_ble_eq_true rfl) rfl dX9_goOnBy_15 (fun r4 H locs hm hw => ?_)
    refine lv_if_eq (tgt := 45) hx hb dX9_goOnBy_18 (by decide) (fun c12 => ?_) (fun c12 => ?_)
    · have hm := hm.1 c12
      obtain ⟨v6, e_v6⟩ : ∃ z : Int32, z = x5_1 + 1 := ⟨_, rfl⟩
      have hm := hm v6 e_v6
      refine lv_iinc (v := v6) (lv' := [(5, .int v6), (4, .int x4_2), (0, .ref (a 0)), (1, .int x1), (2, .int x2), (3, .int x3)]) hx hb dX9_goOnBy_45 hl (k := 0) rfl (by rw [e_v6]; rfl) (by decide) rfl (fun ls hl => ?_)
      refine lv_goto (tgt := 6) hx hb dX9_goOnBy_48 (by decide) ?_
      exact ih3 _ _ hm _ _ _ hw (lv_sub hl [0, 1, 2, 3, 4, 5] rfl)
    · have hm := hm.2 c12
      refine lv_aload_n hx hb dX9_goOnBy_21 rfl (lv_at hl 2 rfl) ?_
      refine gF (k := 30) hc hw inX9 rfl 0 rfl (by decide) (gm 1089 (by decide +kernel) rfl) rfl dX9_goOnBy_22 ?_
      refine lv_iconst (v := 5) hx hb dX9_goOnBy_25 (by decide) ?_
      refine lv_iload_n hx hb dX9_goOnBy_26 rfl (lv_at hl 4 rfl) ?_
      refine lv_imul hx hb dX9_goOnBy_27 ?_
      refine lv_iload hx hb dX9_goOnBy_28 (lv_at hl 0 rfl) ?_
      refine lv_iadd hx hb dX9_goOnBy_30 ?_
      obtain ⟨c7, hm⟩ := hm
      refine aI hc hw 15 rfl c7 rfl dX9_goOnBy_31 ?_
      refine lv_iload_n hx hb dX9_goOnBy_32 rfl (lv_at hl 5 rfl) ?_
      refine lv_icmp_gt (tgt := 45) hx hb dX9_goOnBy_33 (by decide) (fun c11 => ?_) (fun c11 => ?_)
      · have hm := hm.1 c11
        obtain ⟨v8, e_v8⟩ : ∃ z : Int32, z = x5_1 + 1 := ⟨_, rfl⟩
        have hm := hm v8 e_v8
        refine lv_iinc (v := v8) (lv' := [(5, .int v8), (4, .int x4_2), (0, .ref (a 0)), (1, .int x1), (2, .int x2), (3, .int x3)]) hx hb dX9_goOnBy_45 hl (k := 0) rfl (by rw [e_v8]; rfl) (by decide) rfl (fun ls hl => ?_)
        refine lv_goto (tgt := 6) hx hb dX9_goOnBy_48 (by decide) ?_
        exact ih3 _ _ hm _ _ _ hw (lv_sub hl [0, 1, 2, 3, 4, 5] rfl)
      · have hm := hm.2 c11
        refine lv_iload hx hb dX9_goOnBy_36 (lv_at hl 1 rfl) ?_
        refine lv_iconst (v := 1) hx hb dX9_goOnBy_38 (by decide) ?_
        refine lv_iload hx hb dX9_goOnBy_39 (lv_at hl 0 rfl) ?_
        refine lv_ishl hx hb dX9_goOnBy_41 ?_
        refine lv_ior hx hb dX9_goOnBy_42 ?_
        refine lv_topi (fun v9 e_v9 => ?_)
        have hm := hm v9 e_v9
        refine lv_istore (lv' := [(4, .int v9), (5, .int x5_1), (0, .ref (a 0)), (1, .int x1), (2, .int x2), (3, .int x3)]) hx hb dX9_goOnBy_43 hl (by decide) rfl (fun ls hl => ?_)
        obtain ⟨v10, e_v10⟩ : ∃ z : Int32, z = x5_1 + 1 := ⟨_, rfl⟩
        have hm := hm v10 e_v10
        refine lv_iinc (v := v10) (lv' := [(5, .int v10), (4, .int v9), (0, .ref (a 0)), (1, .int x1), (2, .int x2), (3, .int x3)]) hx hb dX9_goOnBy_45 hl (k := 1) rfl (by rw [e_v10]; rfl) (by decide) rfl (fun ls hl => ?_)
        refine lv_goto (tgt := 6) hx hb dX9_goOnBy_48 (by decide) ?_
        exact ih3 _ _ hm _ _ _ hw (lv_sub hl [0, 1, 2, 3, 4, 5] rfl)
set_option maxHeartbeats 4000000 in
set_option maxRecDepth 100000 in
theorem c_M_leadsOn {l : Launch} {D : va_G} {cy : Nat → ClassId} {a : Nat → Nat} {S : Ob} {x1 : Int32} {x2 : Int32} {Q : Int32 → Prop} (hm : wM_leadsOn S x1 x2 Q) : CtI l yX9_leadsOn cX9_leadsOn 4 (some .boolean) (rmN 1) D cy [.ref (a 0), .int x1, .int x2] (mW cy a S) (fun _ : Unit => mW cy a S) (fun (r : Int32) (_ : Unit) => Q r) := by
  refine CtI.ofW (by decide) (Nat.le_of_ble_eq_true rfl) ?_
  intro p e s m args below meth c A ls hc hnm hw hl
  have hx := hc.1.1
  have hb := hc.1.2.1
  have hown := hc.1.2.2.2.1
  have hts := hc.1.2.2.2.2
  have hl : lv_has ls 4 [(0, .ref (a 0)), (1, .int x1), (2, .int x2)] := hl
  obtain ⟨H, hH⟩ : ∃ z, z = s.heap := ⟨_, rfl⟩
  obtain ⟨locs, hLc⟩ : ∃ z : List Loc, z = [] := ⟨_, rfl⟩
  have hw : wV D A s.heap (mW cy a S) H locs := by rw [hH, hLc]; exact hw
  have hgo : W p l e (rmN 1) s m args below meth c H locs 0 0 (MQ below (eI D cy A (fun _ : Unit => mW cy a S) (fun (r : Int32) (_ : Unit) => Q r)) args s (rmN 1).cells (rmN 1).slots A) (F0 m 0 ls []) := ?hgo
  · rw [hH, hLc] at hgo; exact hgo
  refine lv_iconst (v := 0) hx hb dX9_leadsOn_0 (by decide) ?_
  refine lv_istore_n (lv' := [(3, .int 0), (0, .ref (a 0)), (1, .int x1), (2, .int x2)]) hx hb dX9_leadsOn_1 rfl hl (by decide) rfl (fun ls hl => ?_)
  refine wl1_ind (G := fun (x3_1 : Int32) => ∀ (H : Heap) (locs : List Loc) (ls : Array Slot), wV D A s.heap (mW cy a S) H locs → lv_has ls 4 [(3, .int x3_1), (0, .ref (a 0)), (1, .int x1), (2, .int x2)] → W p l e (rmN 1) s m args below meth c H locs 0 0 (MQ below (eI D cy A (fun _ : Unit => mW cy a S) (fun (r : Int32) (_ : Unit) => Q r)) args s (rmN 1).cells (rmN 1).slots A) (F0 m 2 ls [])) ?_ _ hm H locs ls hw (lv_sub hl [0, 1, 2, 3] rfl)
  intro L2 ih2 x3_1 hm H locs ls hw hl
  refine lv_iload_n hx hb dX9_leadsOn_2 rfl (lv_at hl 0 rfl) ?_
  refine lv_iconst (v := 4) hx hb dX9_leadsOn_3 (by decide) ?_
  refine lv_icmp_ge (tgt := 32) hx hb dX9_leadsOn_4 (by decide) (fun c11 => ?_) (fun c11 => ?_)
  · have hm := hm.1 c11
    refine lv_iconst (v := 0) hx hb dX9_leadsOn_32 (by decide) ?_
    exact retZ (u := ()) hc hw rfl hm dX9_leadsOn_33
  · have hm := hm.2 c11
    refine lv_iload_n hx hb dX9_leadsOn_7 rfl (lv_at hl 3 rfl) ?_
    refine lv_iload_n hx hb dX9_leadsOn_8 rfl (lv_at hl 0 rfl) ?_
    refine zS_I (As := [.int x2, .int x3_1]) (rest := []) hc hw (c_M_isIn hm) lk_X9_269 ⟨Nat.le_of_ble_eq_true rfl, Nat.le_of_ble_eq_true rfl⟩ ⟨Nat.le_of_ble_eq_true rfl, Nat.le_of_ble_eq_true rfl⟩ hl.1 rfl (Nat.le_of_ble_eq_true rfl) rfl dX9_leadsOn_9 (fun r3 H locs hm hw => ?_)
    refine lv_if_eq (tgt := 26) hx hb dX9_leadsOn_12 (by decide) (fun c10 => ?_) (fun c10 => ?_)
    · have hm := hm.1 c10
      obtain ⟨v5, e_v5⟩ : ∃ z : Int32, z = x3_1 + 1 := ⟨_, rfl⟩
      have hm := hm v5 e_v5
      refine lv_iinc (v := v5) (lv' := [(3, .int v5), (0, .ref (a 0)), (1, .int x1), (2, .int x2)]) hx hb dX9_leadsOn_26 hl (k := 0) rfl (by rw [e_v5]; rfl) (by decide) rfl (fun ls hl => ?_)
      refine lv_goto (tgt := 2) hx hb dX9_leadsOn_29 (by decide) ?_
      exact ih2 _ hm _ _ _ hw (lv_sub hl [0, 1, 2, 3] rfl)
    · have hm := hm.2 c10
      refine lv_aload_n hx hb dX9_leadsOn_15 rfl (lv_at hl 1 rfl) ?_
      refine lv_iload_n hx hb dX9_leadsOn_16 rfl (lv_at hl 2 rfl) ?_
      refine lv_iload_n hx hb dX9_leadsOn_17 rfl (lv_at hl 0 rfl) ?_
      refine aV_I (As := [.int x1, .int x3_1]) (rest := []) hc hw (c_M_mayNext hm) lk_X9_288 rfl rfl ⟨Nat.le_of_ble_eq_true rfl, Nat.le_of_ble_eq_true rfl⟩ ⟨Nat.le_of_ble_eq_true rfl, Nat.le_of_ble_eq_true rfl⟩ hl.1 rfl (Nat.le_of_ble_eq_true rfl) rfl dX9_leadsOn_18 (fun r6 _ H locs hm hw => ?_)
      have hw : wV D A s.heap (mW cy a S) H locs := hw
      refine lv_if_eq (tgt := 26) hx hb dX9_leadsOn_21 (by decide) (fun c9 => ?_) (fun c9 => ?_)
      · have hm := hm.1 c9
        obtain ⟨v8, e_v8⟩ : ∃ z : Int32, z = x3_1 + 1 := ⟨_, rfl⟩
        have hm := hm v8 e_v8
        refine lv_iinc (v := v8) (lv' := [(3, .int v8), (0, .ref (a 0)), (1, .int x1), (2, .int x2)]) hx hb dX9_leadsOn_26 hl (k := 0) rfl (by rw [e_v8]; rfl) (by decide) rfl (fun ls hl => ?_)
        refine lv_goto (tgt := 2) hx hb dX9_leadsOn_29 (by decide) ?_
        exact ih2 _ hm _ _ _ hw (lv_sub hl [0, 1, 2, 3] rfl)
      · have hm := hm.2 c9
        refine lv_iconst (v := 1) hx hb dX9_leadsOn_24 (by decide) ?_
        exact retZ (u := ()) hc hw rfl hm dX9_leadsOn_25
set_option maxHeartbeats 4000000 in
set_option maxRecDepth 100000 in
theorem c_M_orders0 {l : Launch} {D : va_G} {cy : Nat → ClassId} {a : Nat → Nat} {S : Ob} {x1 : Int32} {Q : Ob → Prop} (hm : wM_orders0 S x1 Q) : CtV l yX9_orders0 cX9_orders0 9 none (rmN 3) D cy [.ref (a 0), .int x1] (mW cy a S) (mW cy a) Q := by
  refine CtV.ofW (by decide) (Nat.le_of_ble_eq_true rfl) ?_
  intro p e s m args below meth c A ls hc hnm hw hl
  have hx := hc.1.1
  have hb := hc.1.2.1
  have hown := hc.1.2.2.2.1
  have hts := hc.1.2.2.2.2
  have hl : lv_has ls 9 [(0, .ref (a 0)), (1, .int x1)] := hl
  obtain ⟨H, hH⟩ : ∃ z, z = s.heap := ⟨_, rfl⟩
  obtain ⟨locs, hLc⟩ : ∃ z : List Loc, z = [] := ⟨_, rfl⟩
  have hw : wV D A s.heap (mW cy a S) H locs := by rw [hH, hLc]; exact hw
  have hgo : W p l e (rmN 3) s m args below meth c H locs 0 0 (MQ below (eV D cy A (mW cy a) Q) args s (rmN 3).cells (rmN 3).slots A) (F0 m 0 ls []) := ?hgo
  · rw [hH, hLc] at hgo; exact hgo
  refine lv_iload_n hx hb dX9_orders0_0 rfl (lv_at hl 1 rfl) ?_
  refine lv_istore_n (lv' := [(2, .int x1), (0, .ref (a 0)), (1, .int x1)]) hx hb dX9_orders0_1 rfl hl (by decide) rfl (fun ls hl => ?_)
  refine lv_aload_n hx hb dX9_orders0_2 rfl (lv_at hl 1 rfl) ?_
  refine aV_I (As := []) (rest := []) hc hw (c_M_lastYear hm) lk_X9_306 rfl rfl ⟨Nat.le_of_ble_eq_true rfl, Nat.le_of_ble_eq_true rfl⟩ ⟨Nat.le_of_ble_eq_true rfl, Nat.le_of_ble_eq_true rfl⟩ hl.1 rfl (Nat.le_of_ble_eq_true rfl) rfl dX9_orders0_3 (fun r1 _ H locs hm hw => ?_)
  have hw : wV D A s.heap (mW cy a S) H locs := hw
  refine lv_istore_n (lv' := [(3, .int r1), (2, .int x1), (0, .ref (a 0)), (1, .int x1)]) hx hb dX9_orders0_6 rfl hl (by decide) rfl (fun ls hl => ?_)
  refine lv_iconst (v := 1) hx hb dX9_orders0_7 (by decide) ?_
  refine lv_aload_n hx hb dX9_orders0_8 rfl (lv_at hl 2 rfl) ?_
  refine aV_I (As := []) (rest := [.int 1]) hc hw (c_M_lastTeller hm) lk_X9_309 rfl rfl ⟨Nat.le_of_ble_eq_true rfl, Nat.le_of_ble_eq_true rfl⟩ ⟨Nat.le_of_ble_eq_true rfl, Nat.le_of_ble_eq_true rfl⟩ hl.1 rfl (Nat.le_of_ble_eq_true rfl) rfl dX9_orders0_9 (fun r3 _ H locs hm hw => ?_)
  have hw : wV D A s.heap (mW cy a S) H locs := hw
  refine lv_ishl hx hb dX9_orders0_12 ?_
  refine lv_topi (fun v5 e_v5 => ?_)
  have hm := hm v5 e_v5
  refine lv_istore (lv' := [(4, .int v5), (3, .int r1), (2, .int x1), (0, .ref (a 0)), (1, .int x1)]) hx hb dX9_orders0_13 hl (by decide) rfl (fun ls hl => ?_)
  refine lv_iload_n hx hb dX9_orders0_15 rfl (lv_at hl 4 rfl) ?_
  refine zS_I (As := [.int x1]) (rest := []) hc hw (c_M_ones hm) lk_X9_260 ⟨Nat.le_of_ble_eq_true rfl, Nat.le_of_ble_eq_true rfl⟩ ⟨Nat.le_of_ble_eq_true rfl, Nat.le_of_ble_eq_true rfl⟩ hl.1 rfl (Nat.le_of_ble_eq_true rfl) rfl dX9_orders0_16 (fun r6 H locs hm hw => ?_)
  refine lv_istore (lv' := [(5, .int r6), (4, .int v5), (3, .int r1), (2, .int x1), (0, .ref (a 0)), (1, .int x1)]) hx hb dX9_orders0_19 hl (by decide) rfl (fun ls hl => ?_)
  refine lv_iconst (v := 0) hx hb dX9_orders0_21 (by decide) ?_
  refine lv_istore (lv' := [(6, .int 0), (5, .int r6), (4, .int v5), (3, .int r1), (2, .int x1), (0, .ref (a 0)), (1, .int x1)]) hx hb dX9_orders0_22 hl (by decide) rfl (fun ls hl => ?_)
  refine wl5_ind (G := fun (x6_8 : Int32) (x4_9 : Int32) (x3_10 : Int32) (x2_11 : Int32) (S12 : Ob) => ∀ (H : Heap) (locs : List Loc) (ls : Array Slot), wV D A s.heap (mW cy a S12) H locs → lv_has ls 9 [(6, .int x6_8), (5, .int r6), (4, .int x4_9), (3, .int x3_10), (2, .int x2_11), (0, .ref (a 0))] → W p l e (rmN 3) s m args below meth c H locs 0 0 (MQ below (eV D cy A (mW cy a) Q) args s (rmN 3).cells (rmN 3).slots A) (F0 m 24 ls [])) ?_ _ _ _ _ _ hm H locs ls hw (lv_sub hl [0, 1, 2, 3, 4, 5] rfl)
  intro L13 ih13 x6_8 x4_9 x3_10 x2_11 S12 hm H locs ls hw hl
  refine lv_iload hx hb dX9_orders0_24 (lv_at hl 0 rfl) ?_
  refine lv_iload hx hb dX9_orders0_26 (lv_at hl 1 rfl) ?_
  refine lv_icmp_ge (tgt := 140) hx hb dX9_orders0_28 (by decide) (fun c92 => ?_) (fun c92 => ?_)
  · have hm := hm.1 c92
    refine lv_aload_n hx hb dX9_orders0_140 rfl (lv_at hl 5 rfl) ?_
    refine gF (k := 35) hc hw inX9 rfl 0 rfl (by decide) (gm 1094 (by decide +kernel) rfl) rfl dX9_orders0_141 ?_
    refine lv_iload hx hb dX9_orders0_144 (lv_at hl 1 rfl) ?_
    refine lv_bipush (v := 15) hx hb dX9_orders0_146 (by decide) ?_
    obtain ⟨c14, hm⟩ := hm
    refine sI hc hw 19 rfl c14 rfl dX9_orders0_148 (fun H locs hw => ?_)
    obtain ⟨S15, e_S15⟩ : ∃ z : Ob, z = uA S12 35 (Int32.toNatClampNeg r6) 15 := ⟨_, rfl⟩
    have hm := hm S15 e_S15
    have hw : wV D A s.heap (mW cy a S15) H locs := by rw [e_S15]; exact hw
    refine lv_iload hx hb dX9_orders0_149 (lv_at hl 1 rfl) ?_
    refine lv_iconst (v := 1) hx hb dX9_orders0_151 (by decide) ?_
    refine lv_isub hx hb dX9_orders0_152 ?_
    refine lv_topi (fun v16 e_v16 => ?_)
    have hm := hm v16 e_v16
    refine lv_istore (lv' := [(6, .int v16), (5, .int r6), (4, .int x4_9), (3, .int x3_10), (2, .int x2_11), (0, .ref (a 0))]) hx hb dX9_orders0_153 hl (by decide) rfl (fun ls hl => ?_)
    refine wl2_ind (G := fun (x6_17 : Int32) (S18 : Ob) => ∀ (H : Heap) (locs : List Loc) (ls : Array Slot), wV D A s.heap (mW cy a S18) H locs → lv_has ls 9 [(6, .int x6_17), (5, .int r6), (0, .ref (a 0))] → W p l e (rmN 3) s m args below meth c H locs 0 0 (MQ below (eV D cy A (mW cy a) Q) args s (rmN 3).cells (rmN 3).slots A) (F0 m 155 ls [])) ?_ _ _ hm H locs ls hw (lv_sub hl [0, 1, 5] rfl)
    intro L19 ih19 x6_17 S18 hm H locs ls hw hl
    refine lv_iload hx hb dX9_orders0_155 (lv_at hl 0 rfl) ?_
    refine lv_if_lt (tgt := 250) hx hb dX9_orders0_157 (by decide) (fun c66 => ?_) (fun c66 => ?_)
    · have hm := hm.1 c66
      refine lv_aload_n hx hb dX9_orders0_250 rfl (lv_at hl 2 rfl) ?_
      refine aV_I (As := []) (rest := []) hc hw (c_M_lastTeller hm) lk_X9_309 rfl rfl ⟨Nat.le_of_ble_eq_true rfl, Nat.le_of_ble_eq_true rfl⟩ ⟨Nat.le_of_ble_eq_true rfl, Nat.le_of_ble_eq_true rfl⟩ hl.1 rfl (Nat.le_of_ble_eq_true rfl) rfl dX9_orders0_251 (fun r20 _ H locs hm hw => ?_)
      have hw : wV D A s.heap (mW cy a S18) H locs := hw
      refine lv_istore (lv' := [(6, .int r20), (5, .int r6), (0, .ref (a 0))]) hx hb dX9_orders0_254 hl (by decide) rfl (fun ls hl => ?_)
      refine lv_iconst (v := 0) hx hb dX9_orders0_256 (by decide) ?_
      refine lv_istore (lv' := [(7, .int 0), (6, .int r20), (5, .int r6), (0, .ref (a 0))]) hx hb dX9_orders0_257 hl (by decide) rfl (fun ls hl => ?_)
      refine wl3_ind (G := fun (x7_22 : Int32) (x6_23 : Int32) (S24 : Ob) => ∀ (H : Heap) (locs : List Loc) (ls : Array Slot), wV D A s.heap (mW cy a S24) H locs → lv_has ls 9 [(7, .int x7_22), (6, .int x6_23), (5, .int r6), (0, .ref (a 0))] → W p l e (rmN 3) s m args below meth c H locs 0 0 (MQ below (eV D cy A (mW cy a) Q) args s (rmN 3).cells (rmN 3).slots A) (F0 m 259 ls [])) ?_ _ _ _ hm H locs ls hw (lv_sub hl [0, 1, 2, 3] rfl)
      intro L25 ih25 x7_22 x6_23 S24 hm H locs ls hw hl
      refine lv_iload hx hb dX9_orders0_259 (lv_at hl 0 rfl) ?_
      refine lv_iload hx hb dX9_orders0_261 (lv_at hl 2 rfl) ?_
      refine lv_icmp_ge (tgt := 320) hx hb dX9_orders0_263 (by decide) (fun c40 => ?_) (fun c40 => ?_)
      · have hm := hm.1 c40
        exact retV (u := S24) hc hw hm dX9_orders0_320
      · have hm := hm.2 c40
        refine lv_iconst (v := 0) hx hb dX9_orders0_266 (by decide) ?_
        refine lv_istore (lv' := [(8, .int 0), (7, .int x7_22), (6, .int x6_23), (5, .int r6), (0, .ref (a 0))]) hx hb dX9_orders0_267 hl (by decide) rfl (fun ls hl => ?_)
        refine wl1_ind (G := fun (x8_26 : Int32) => ∀ (H : Heap) (locs : List Loc) (ls : Array Slot), wV D A s.heap (mW cy a S24) H locs → lv_has ls 9 [(8, .int x8_26), (7, .int x7_22), (6, .int x6_23), (5, .int r6), (0, .ref (a 0))] → W p l e (rmN 3) s m args below meth c H locs 0 0 (MQ below (eV D cy A (mW cy a) Q) args s (rmN 3).cells (rmN 3).slots A) (F0 m 269 ls [])) ?_ _ hm H locs ls hw (lv_sub hl [0, 1, 2, 3, 4] rfl)
        intro L27 ih27 x8_26 hm H locs ls hw hl
        refine lv_aload_n hx hb dX9_orders0_269 rfl (lv_at hl 4 rfl) ?_
        refine gF (k := 35) hc hw inX9 rfl 0 rfl (by decide) (gm 1094 (by decide +kernel) rfl) rfl dX9_orders0_270 ?_
        refine lv_iload hx hb dX9_orders0_273 (lv_at hl 1 rfl) ?_
        obtain ⟨c28, hm⟩ := hm
        refine aI hc hw 19 rfl c28 rfl dX9_orders0_275 ?_
        refine lv_iload hx hb dX9_orders0_276 (lv_at hl 0 rfl) ?_
        refine zS_I (As := [.int (S24.2 35 (Int32.toNatClampNeg x7_22)), .int x8_26]) (rest := []) hc hw (c_M_isIn hm) lk_X9_269 ⟨Nat.le_of_ble_eq_true rfl, Nat.le_of_ble_eq_true rfl⟩ ⟨Nat.le_of_ble_eq_true rfl, Nat.le_of_ble_eq_true rfl⟩ hl.1 rfl (Nat.le_of_ble_eq_true rfl) rfl dX9_orders0_278 (fun r29 H locs hm hw => ?_)
        refine lv_if_eq (tgt := 295) hx hb dX9_orders0_281 (by decide) (fun c39 => ?_) (fun c39 => ?_)
        · have hm := hm.1 c39
          obtain ⟨v31, e_v31⟩ : ∃ z : Int32, z = x8_26 + 1 := ⟨_, rfl⟩
          have hm := hm v31 e_v31
          refine lv_iinc (v := v31) (lv' := [(8, .int v31), (7, .int x7_22), (6, .int x6_23), (5, .int r6), (0, .ref (a 0))]) hx hb dX9_orders0_295 hl (k := 0) rfl (by rw [e_v31]; rfl) (by decide) rfl (fun ls hl => ?_)
          refine lv_goto (tgt := 269) hx hb dX9_orders0_298 (by decide) ?_
          exact ih27 _ hm _ _ _ hw (lv_sub hl [0, 1, 2, 3, 4] rfl)
        · have hm := hm.2 c39
          refine lv_aload_n hx hb dX9_orders0_284 rfl (lv_at hl 4 rfl) ?_
          refine lv_iload hx hb dX9_orders0_285 (lv_at hl 2 rfl) ?_
          refine lv_iload hx hb dX9_orders0_287 (lv_at hl 0 rfl) ?_
          refine aV_I (As := [.int x6_23, .int x8_26]) (rest := []) hc hw (c_M_mayNext hm) lk_X9_288 rfl rfl ⟨Nat.le_of_ble_eq_true rfl, Nat.le_of_ble_eq_true rfl⟩ ⟨Nat.le_of_ble_eq_true rfl, Nat.le_of_ble_eq_true rfl⟩ hl.1 rfl (Nat.le_of_ble_eq_true rfl) rfl dX9_orders0_289 (fun r32 _ H locs hm hw => ?_)
          have hw : wV D A s.heap (mW cy a S24) H locs := hw
          refine lv_if_ne (tgt := 301) hx hb dX9_orders0_292 (by decide) (fun c38 => ?_) (fun c38 => ?_)
          · have hm := hm.1 c38
            refine lv_aload_n hx hb dX9_orders0_301 rfl (lv_at hl 4 rfl) ?_
            refine gF (k := 34) hc hw inX9 rfl 0 rfl (by decide) (gm 1093 (by decide +kernel) rfl) rfl dX9_orders0_302 ?_
            refine lv_iload hx hb dX9_orders0_305 (lv_at hl 1 rfl) ?_
            refine lv_iload hx hb dX9_orders0_307 (lv_at hl 0 rfl) ?_
            obtain ⟨c34, hm⟩ := hm
            refine sI hc hw 18 rfl c34 rfl dX9_orders0_309 (fun H locs hw => ?_)
            obtain ⟨S35, e_S35⟩ : ∃ z : Ob, z = uA S24 34 (Int32.toNatClampNeg x7_22) x8_26 := ⟨_, rfl⟩
            have hm := hm S35 e_S35
            have hw : wV D A s.heap (mW cy a S35) H locs := by rw [e_S35]; exact hw
            refine lv_iload hx hb dX9_orders0_310 (lv_at hl 0 rfl) ?_
            refine lv_istore (lv' := [(6, .int x8_26), (8, .int x8_26), (7, .int x7_22), (5, .int r6), (0, .ref (a 0))]) hx hb dX9_orders0_312 hl (by decide) rfl (fun ls hl => ?_)
            obtain ⟨v36, e_v36⟩ : ∃ z : Int32, z = x7_22 + 1 := ⟨_, rfl⟩
            have hm := hm v36 e_v36
            refine lv_iinc (v := v36) (lv' := [(7, .int v36), (6, .int x8_26), (8, .int x8_26), (5, .int r6), (0, .ref (a 0))]) hx hb dX9_orders0_314 hl (k := 2) rfl (by rw [e_v36]; rfl) (by decide) rfl (fun ls hl => ?_)
            refine lv_goto (tgt := 259) hx hb dX9_orders0_317 (by decide) ?_
            exact ih25 _ _ _ hm _ _ _ hw (lv_sub hl [0, 1, 3, 4] rfl)
          · have hm := hm.2 c38
            obtain ⟨v37, e_v37⟩ : ∃ z : Int32, z = x8_26 + 1 := ⟨_, rfl⟩
            have hm := hm v37 e_v37
            refine lv_iinc (v := v37) (lv' := [(8, .int v37), (7, .int x7_22), (6, .int x6_23), (5, .int r6), (0, .ref (a 0))]) hx hb dX9_orders0_295 hl (k := 0) rfl (by rw [e_v37]; rfl) (by decide) rfl (fun ls hl => ?_)
            refine lv_goto (tgt := 269) hx hb dX9_orders0_298 (by decide) ?_
            exact ih27 _ hm _ _ _ hw (lv_sub hl [0, 1, 2, 3, 4] rfl)
    · have hm := hm.2 c66
      refine lv_aload_n hx hb dX9_orders0_160 rfl (lv_at hl 2 rfl) ?_
      refine gF (k := 35) hc hw inX9 rfl 0 rfl (by decide) (gm 1094 (by decide +kernel) rfl) rfl dX9_orders0_161 ?_
      refine lv_iload hx hb dX9_orders0_164 (lv_at hl 0 rfl) ?_
      refine lv_iconst (v := 0) hx hb dX9_orders0_166 (by decide) ?_
      obtain ⟨c41, hm⟩ := hm
      refine sI hc hw 19 rfl c41 rfl dX9_orders0_167 (fun H locs hw => ?_)
      obtain ⟨S42, e_S42⟩ : ∃ z : Ob, z = uA S18 35 (Int32.toNatClampNeg x6_17) 0 := ⟨_, rfl⟩
      have hm := hm S42 e_S42
      have hw : wV D A s.heap (mW cy a S42) H locs := by rw [e_S42]; exact hw
      refine lv_iconst (v := 0) hx hb dX9_orders0_168 (by decide) ?_
      refine lv_istore (lv' := [(7, .int 0), (6, .int x6_17), (5, .int r6), (0, .ref (a 0))]) hx hb dX9_orders0_169 hl (by decide) rfl (fun ls hl => ?_)
      refine wl2_ind (G := fun (x7_43 : Int32) (S44 : Ob) => ∀ (H : Heap) (locs : List Loc) (ls : Array Slot), wV D A s.heap (mW cy a S44) H locs → lv_has ls 9 [(7, .int x7_43), (6, .int x6_17), (5, .int r6), (0, .ref (a 0))] → W p l e (rmN 3) s m args below meth c H locs 0 0 (MQ below (eV D cy A (mW cy a) Q) args s (rmN 3).cells (rmN 3).slots A) (F0 m 171 ls [])) ?_ _ _ hm H locs ls hw (lv_sub hl [0, 1, 2, 3] rfl)
      intro L45 ih45 x7_43 S44 hm H locs ls hw hl
      refine lv_iload hx hb dX9_orders0_171 (lv_at hl 0 rfl) ?_
      refine lv_iconst (v := 4) hx hb dX9_orders0_173 (by decide) ?_
      refine lv_icmp_ge (tgt := 244) hx hb dX9_orders0_174 (by decide) (fun c65 => ?_) (fun c65 => ?_)
      · have hm := hm.1 c65
        obtain ⟨v46, e_v46⟩ : ∃ z : Int32, z = x6_17 + (-1) := ⟨_, rfl⟩
        have hm := hm v46 e_v46
        refine lv_iinc (v := v46) (lv' := [(6, .int v46), (7, .int x7_43), (5, .int r6), (0, .ref (a 0))]) hx hb dX9_orders0_244 hl (k := 1) rfl (by rw [e_v46]; rfl) (by decide) rfl (fun ls hl => ?_)
        refine lv_goto (tgt := 155) hx hb dX9_orders0_247 (by decide) ?_
        exact ih19 _ _ hm _ _ _ hw (lv_sub hl [0, 2, 3] rfl)
      · have hm := hm.2 c65
        refine lv_aload_n hx hb dX9_orders0_177 rfl (lv_at hl 3 rfl) ?_
        refine gF (k := 28) hc hw inX9 rfl 0 rfl (by decide) (gm 1087 (by decide +kernel) rfl) rfl dX9_orders0_178 ?_
        refine lv_aload_n hx hb dX9_orders0_181 rfl (lv_at hl 3 rfl) ?_
        refine gF (k := 32) hc hw inX9 rfl 0 rfl (by decide) (gm 1091 (by decide +kernel) rfl) rfl dX9_orders0_182 ?_
        refine lv_iload hx hb dX9_orders0_185 (lv_at hl 1 rfl) ?_
        obtain ⟨c47, hm⟩ := hm
        refine aI hc hw 16 rfl c47 rfl dX9_orders0_187 ?_
        obtain ⟨c48, hm⟩ := hm
        refine aI hc hw 14 rfl c48 rfl dX9_orders0_188 ?_
        refine lv_iload hx hb dX9_orders0_189 (lv_at hl 0 rfl) ?_
        refine zS_I (As := [.int (S44.2 28 (Int32.toNatClampNeg (S44.2 32 (Int32.toNatClampNeg x6_17)))), .int x7_43]) (rest := []) hc hw (c_M_isIn hm) lk_X9_269 ⟨Nat.le_of_ble_eq_true rfl, Nat.le_of_ble_eq_true rfl⟩ ⟨Nat.le_of_ble_eq_true rfl, Nat.le_of_ble_eq_true rfl⟩ hl.1 rfl (Nat.le_of_ble_eq_true rfl) rfl dX9_orders0_191 (fun r49 H locs hm hw => ?_)
        refine lv_if_eq (tgt := 238) hx hb dX9_orders0_194 (by decide) (fun c64 => ?_) (fun c64 => ?_)
        · have hm := hm.1 c64
          obtain ⟨v51, e_v51⟩ : ∃ z : Int32, z = x7_43 + 1 := ⟨_, rfl⟩
          have hm := hm v51 e_v51
          refine lv_iinc (v := v51) (lv' := [(7, .int v51), (6, .int x6_17), (5, .int r6), (0, .ref (a 0))]) hx hb dX9_orders0_238 hl (k := 0) rfl (by rw [e_v51]; rfl) (by decide) rfl (fun ls hl => ?_)
          refine lv_goto (tgt := 171) hx hb dX9_orders0_241 (by decide) ?_
          exact ih45 _ _ hm _ _ _ hw (lv_sub hl [0, 1, 2, 3] rfl)
        · have hm := hm.2 c64
          refine lv_iload hx hb dX9_orders0_197 (lv_at hl 1 rfl) ?_
          refine lv_iload hx hb dX9_orders0_199 (lv_at hl 2 rfl) ?_
          refine lv_iconst (v := 1) hx hb dX9_orders0_201 (by decide) ?_
          refine lv_isub hx hb dX9_orders0_202 ?_
          obtain ⟨J53, eJ53, hm⟩ := jn_e hm
          have hJ53 : ∀ (z52 : Unit) (_ : J53 z52) (H : Heap) (locs : List Loc) (ls : Array Slot), wV D A s.heap (mW cy a S44) H locs → lv_has ls 9 [(0, .ref (a 0)), (5, .int r6), (6, .int x6_17), (7, .int x7_43)] → W p l e (rmN 3) s m args below meth c H locs 0 0 (MQ below (eV D cy A (mW cy a) Q) args s (rmN 3).cells (rmN 3).slots A) (F0 m 224 ls []) := by
            intro z52 hm H locs ls hw hl
            rw [eJ53] at hm
            refine lv_aload_n hx hb dX9_orders0_224 rfl (lv_at hl 0 rfl) ?_
            refine gF (k := 35) hc hw inX9 rfl 0 rfl (by decide) (gm 1094 (by decide +kernel) rfl) rfl dX9_orders0_225 ?_
            refine lv_iload hx hb dX9_orders0_228 (lv_at hl 2 rfl) ?_
            refine lv_dup2_11 hx hb dX9_orders0_230 rfl rfl ?_
            obtain ⟨c54, hm⟩ := hm
            refine aI hc hw 19 rfl c54 rfl dX9_orders0_231 ?_
            refine lv_iconst (v := 1) hx hb dX9_orders0_232 (by decide) ?_
            refine lv_iload hx hb dX9_orders0_233 (lv_at hl 3 rfl) ?_
            refine lv_ishl hx hb dX9_orders0_235 ?_
            refine lv_ior hx hb dX9_orders0_236 ?_
            obtain ⟨c55, hm⟩ := hm
            refine sI hc hw 19 rfl c55 rfl dX9_orders0_237 (fun H locs hw => ?_)
            obtain ⟨S56, e_S56⟩ : ∃ z : Ob, z = uA S44 35 (Int32.toNatClampNeg x6_17) ((S44.2 35 (Int32.toNatClampNeg x6_17)) ||| ((1 : Int32) <<< (x7_43 &&& 31))) := ⟨_, rfl⟩
            have hm := hm S56 e_S56
            have hw : wV D A s.heap (mW cy a S56) H locs := by rw [e_S56]; exact hw
            obtain ⟨v57, e_v57⟩ : ∃ z : Int32, z = x7_43 + 1 := ⟨_, rfl⟩
            have hm := hm v57 e_v57
            refine lv_iinc (v := v57) (lv' := [(7, .int v57), (0, .ref (a 0)), (5, .int r6), (6, .int x6_17)]) hx hb dX9_orders0_238 hl (k := 3) rfl (by rw [e_v57]; rfl) (by decide) rfl (fun ls hl => ?_)
            refine lv_goto (tgt := 171) hx hb dX9_orders0_241 (by decide) ?_
            exact ih45 _ _ hm _ _ _ hw (lv_sub hl [0, 3, 2, 1] rfl)
          refine lv_icmp_eq (tgt := 224) hx hb dX9_orders0_203 (by decide) (fun c63 => ?_) (fun c63 => ?_)
          · have hm := hm.1 c63
            exact hJ53 _ hm _ _ _ hw (lv_sub hl [3, 2, 1, 0] rfl)
          · have hm := hm.2 c63
            refine lv_aload_n hx hb dX9_orders0_206 rfl (lv_at hl 3 rfl) ?_
            refine lv_iload hx hb dX9_orders0_207 (lv_at hl 0 rfl) ?_
            refine lv_aload_n hx hb dX9_orders0_209 rfl (lv_at hl 3 rfl) ?_
            refine gF (k := 35) hc hw inX9 rfl 0 rfl (by decide) (gm 1094 (by decide +kernel) rfl) rfl dX9_orders0_210 ?_
            refine lv_iload hx hb dX9_orders0_213 (lv_at hl 1 rfl) ?_
            refine lv_iconst (v := 1) hx hb dX9_orders0_215 (by decide) ?_
            refine lv_iadd hx hb dX9_orders0_216 ?_
            obtain ⟨c58, hm⟩ := hm
            refine aI hc hw 19 rfl c58 rfl dX9_orders0_217 ?_
            refine aV_I (As := [.int x7_43, .int (S44.2 35 (Int32.toNatClampNeg (x6_17 + 1)))]) (rest := []) hc hw (c_M_leadsOn hm) lk_X9_338 rfl rfl ⟨Nat.le_of_ble_eq_true rfl, Nat.le_of_ble_eq_true rfl⟩ ⟨Nat.le_of_ble_eq_true rfl, Nat.le_of_ble_eq_true rfl⟩ hl.1 rfl (Nat.le_of_ble_eq_true rfl) rfl dX9_orders0_218 (fun r59 _ H locs hm hw => ?_)
            have hw : wV D A s.heap (mW cy a S44) H locs := hw
            refine lv_if_eq (tgt := 238) hx hb dX9_orders0_221 (by decide) (fun c62 => ?_) (fun c62 => ?_)
            · have hm := hm.1 c62
              obtain ⟨v61, e_v61⟩ : ∃ z : Int32, z = x7_43 + 1 := ⟨_, rfl⟩
              have hm := hm v61 e_v61
              refine lv_iinc (v := v61) (lv' := [(7, .int v61), (6, .int x6_17), (5, .int r6), (0, .ref (a 0))]) hx hb dX9_orders0_238 hl (k := 0) rfl (by rw [e_v61]; rfl) (by decide) rfl (fun ls hl => ?_)
              refine lv_goto (tgt := 171) hx hb dX9_orders0_241 (by decide) ?_
              exact ih45 _ _ hm _ _ _ hw (lv_sub hl [0, 1, 2, 3] rfl)
            · have hm := hm.2 c62
              exact hJ53 _ hm _ _ _ hw (lv_sub hl [3, 2, 1, 0] rfl)
  · have hm := hm.2 c92
    refine lv_iconst (v := (-1)) hx hb dX9_orders0_31 (by decide) ?_
    refine lv_istore (lv' := [(7, .int (-1)), (6, .int x6_8), (5, .int r6), (4, .int x4_9), (3, .int x3_10), (2, .int x2_11), (0, .ref (a 0))]) hx hb dX9_orders0_32 hl (by decide) rfl (fun ls hl => ?_)
    refine lv_iconst (v := 0) hx hb dX9_orders0_34 (by decide) ?_
    refine lv_istore (lv' := [(8, .int 0), (7, .int (-1)), (6, .int x6_8), (5, .int r6), (4, .int x4_9), (3, .int x3_10), (2, .int x2_11), (0, .ref (a 0))]) hx hb dX9_orders0_35 hl (by decide) rfl (fun ls hl => ?_)
    refine wl2_ind (G := fun (x8_67 : Int32) (x7_68 : Int32) => ∀ (H : Heap) (locs : List Loc) (ls : Array Slot), wV D A s.heap (mW cy a S12) H locs → lv_has ls 9 [(8, .int x8_67), (7, .int x7_68), (6, .int x6_8), (5, .int r6), (4, .int x4_9), (3, .int x3_10), (2, .int x2_11), (0, .ref (a 0))] → W p l e (rmN 3) s m args below meth c H locs 0 0 (MQ below (eV D cy A (mW cy a) Q) args s (rmN 3).cells (rmN 3).slots A) (F0 m 37 ls [])) ?_ _ _ hm H locs ls hw (lv_sub hl [0, 1, 2, 3, 4, 5, 6, 7] rfl)
    intro L69 ih69 x8_67 x7_68 hm H locs ls hw hl
    refine lv_iload hx hb dX9_orders0_37 (lv_at hl 0 rfl) ?_
    refine lv_if_ne (tgt := 96) hx hb dX9_orders0_39 (by decide) (fun c91 => ?_) (fun c91 => ?_)
    · have hm := hm.1 c91
      refine lv_aload_n hx hb dX9_orders0_96 rfl (lv_at hl 7 rfl) ?_
      refine gF (k := 32) hc hw inX9 rfl 0 rfl (by decide) (gm 1091 (by decide +kernel) rfl) rfl dX9_orders0_97 ?_
      refine lv_iload hx hb dX9_orders0_100 (lv_at hl 2 rfl) ?_
      refine lv_iload hx hb dX9_orders0_102 (lv_at hl 1 rfl) ?_
      obtain ⟨c70, hm⟩ := hm
      refine sI hc hw 16 rfl c70 rfl dX9_orders0_104 (fun H locs hw => ?_)
      obtain ⟨S71, e_S71⟩ : ∃ z : Ob, z = uA S12 32 (Int32.toNatClampNeg x6_8) x7_68 := ⟨_, rfl⟩
      have hm := hm S71 e_S71
      have hw : wV D A s.heap (mW cy a S71) H locs := by rw [e_S71]; exact hw
      refine lv_aload_n hx hb dX9_orders0_105 rfl (lv_at hl 7 rfl) ?_
      refine lv_iload hx hb dX9_orders0_106 (lv_at hl 1 rfl) ?_
      refine lv_iload_n hx hb dX9_orders0_108 rfl (lv_at hl 5 rfl) ?_
      refine aV_I (As := [.int x7_68, .int x3_10]) (rest := []) hc hw (c_M_yearBehind hm) lk_X9_297 rfl rfl ⟨Nat.le_of_ble_eq_true rfl, Nat.le_of_ble_eq_true rfl⟩ ⟨Nat.le_of_ble_eq_true rfl, Nat.le_of_ble_eq_true rfl⟩ hl.1 rfl (Nat.le_of_ble_eq_true rfl) rfl dX9_orders0_109 (fun r72 _ H locs hm hw => ?_)
      have hw : wV D A s.heap (mW cy a S71) H locs := hw
      refine lv_istore_n (lv' := [(3, .int r72), (8, .int x8_67), (7, .int x7_68), (6, .int x6_8), (5, .int r6), (4, .int x4_9), (2, .int x2_11), (0, .ref (a 0))]) hx hb dX9_orders0_112 rfl hl (by decide) rfl (fun ls hl => ?_)
      refine lv_aload_n hx hb dX9_orders0_113 rfl (lv_at hl 7 rfl) ?_
      refine gF (k := 33) hc hw inX9 rfl 0 rfl (by decide) (gm 1092 (by decide +kernel) rfl) rfl dX9_orders0_114 ?_
      refine lv_iload hx hb dX9_orders0_117 (lv_at hl 3 rfl) ?_
      refine lv_iload_n hx hb dX9_orders0_119 rfl (lv_at hl 0 rfl) ?_
      obtain ⟨c74, hm⟩ := hm
      refine sI hc hw 17 rfl c74 rfl dX9_orders0_120 (fun H locs hw => ?_)
      obtain ⟨S75, e_S75⟩ : ∃ z : Ob, z = uA S71 33 (Int32.toNatClampNeg x6_8) r72 := ⟨_, rfl⟩
      have hm := hm S75 e_S75
      have hw : wV D A s.heap (mW cy a S75) H locs := by rw [e_S75]; exact hw
      refine lv_iload_n hx hb dX9_orders0_121 rfl (lv_at hl 6 rfl) ?_
      refine lv_iconst (v := 1) hx hb dX9_orders0_122 (by decide) ?_
      refine lv_iload hx hb dX9_orders0_123 (lv_at hl 2 rfl) ?_
      refine lv_ishl hx hb dX9_orders0_125 ?_
      refine lv_iconst (v := (-1)) hx hb dX9_orders0_126 (by decide) ?_
      refine lv_ixor hx hb dX9_orders0_127 ?_
      refine lv_iand hx hb dX9_orders0_128 ?_
      refine lv_topi (fun v76 e_v76 => ?_)
      have hm := hm v76 e_v76
      refine lv_istore_n (lv' := [(2, .int v76), (3, .int r72), (8, .int x8_67), (7, .int x7_68), (6, .int x6_8), (5, .int r6), (4, .int x4_9), (0, .ref (a 0))]) hx hb dX9_orders0_129 rfl hl (by decide) rfl (fun ls hl => ?_)
      refine lv_iload hx hb dX9_orders0_130 (lv_at hl 2 rfl) ?_
      refine lv_istore (lv' := [(4, .int x8_67), (2, .int v76), (3, .int r72), (8, .int x8_67), (7, .int x7_68), (6, .int x6_8), (5, .int r6), (0, .ref (a 0))]) hx hb dX9_orders0_132 hl (by decide) rfl (fun ls hl => ?_)
      obtain ⟨v77, e_v77⟩ : ∃ z : Int32, z = x6_8 + 1 := ⟨_, rfl⟩
      have hm := hm v77 e_v77
      refine lv_iinc (v := v77) (lv' := [(6, .int v77), (4, .int x8_67), (2, .int v76), (3, .int r72), (8, .int x8_67), (7, .int x7_68), (5, .int r6), (0, .ref (a 0))]) hx hb dX9_orders0_134 hl (k := 5) rfl (by rw [e_v77]; rfl) (by decide) rfl (fun ls hl => ?_)
      refine lv_goto (tgt := 24) hx hb dX9_orders0_137 (by decide) ?_
      exact ih13 _ _ _ _ _ hm _ _ _ hw (lv_sub hl [0, 6, 1, 3, 2, 7] rfl)
    · have hm := hm.2 c91
      obtain ⟨v78, e_v78⟩ : ∃ z : Int32, z = x7_68 + 1 := ⟨_, rfl⟩
      have hm := hm v78 e_v78
      refine lv_iinc (v := v78) (lv' := [(7, .int v78), (8, .int x8_67), (6, .int x6_8), (5, .int r6), (4, .int x4_9), (3, .int x3_10), (2, .int x2_11), (0, .ref (a 0))]) hx hb dX9_orders0_42 hl (k := 1) rfl (by rw [e_v78]; rfl) (by decide) rfl (fun ls hl => ?_)
      refine lv_iload_n hx hb dX9_orders0_45 rfl (lv_at hl 6 rfl) ?_
      refine lv_iload hx hb dX9_orders0_46 (lv_at hl 0 rfl) ?_
      refine zS_I (As := [.int x2_11, .int v78]) (rest := []) hc hw (c_M_isIn hm) lk_X9_269 ⟨Nat.le_of_ble_eq_true rfl, Nat.le_of_ble_eq_true rfl⟩ ⟨Nat.le_of_ble_eq_true rfl, Nat.le_of_ble_eq_true rfl⟩ hl.1 rfl (Nat.le_of_ble_eq_true rfl) rfl dX9_orders0_48 (fun r79 H locs hm hw => ?_)
      refine lv_if_eq (tgt := 37) hx hb dX9_orders0_51 (by decide) (fun c90 => ?_) (fun c90 => ?_)
      · have hm := hm.1 c90
        exact ih69 _ _ hm _ _ _ hw (lv_sub hl [1, 0, 2, 3, 4, 5, 6, 7] rfl)
      · have hm := hm.2 c90
        refine lv_aload_n hx hb dX9_orders0_54 rfl (lv_at hl 7 rfl) ?_
        refine lv_iload hx hb dX9_orders0_55 (lv_at hl 0 rfl) ?_
        refine lv_iload_n hx hb dX9_orders0_57 rfl (lv_at hl 5 rfl) ?_
        refine aV_I (As := [.int v78, .int x3_10]) (rest := []) hc hw (c_M_fits hm) lk_X9_300 rfl rfl ⟨Nat.le_of_ble_eq_true rfl, Nat.le_of_ble_eq_true rfl⟩ ⟨Nat.le_of_ble_eq_true rfl, Nat.le_of_ble_eq_true rfl⟩ hl.1 rfl (Nat.le_of_ble_eq_true rfl) rfl dX9_orders0_58 (fun r81 _ H locs hm hw => ?_)
        have hw : wV D A s.heap (mW cy a S12) H locs := hw
        refine lv_if_eq (tgt := 37) hx hb dX9_orders0_61 (by decide) (fun c89 => ?_) (fun c89 => ?_)
        · have hm := hm.1 c89
          exact ih69 _ _ hm _ _ _ hw (lv_sub hl [1, 0, 2, 3, 4, 5, 6, 7] rfl)
        · have hm := hm.2 c89
          refine lv_aload_n hx hb dX9_orders0_64 rfl (lv_at hl 7 rfl) ?_
          refine lv_aload_n hx hb dX9_orders0_65 rfl (lv_at hl 7 rfl) ?_
          refine lv_iload hx hb dX9_orders0_66 (lv_at hl 0 rfl) ?_
          refine lv_iload hx hb dX9_orders0_68 (lv_at hl 4 rfl) ?_
          refine aV_I (As := [.int v78, .int x4_9]) (rest := [.ref (a 0)]) hc hw (c_M_nexts hm) lk_X9_331 rfl rfl ⟨Nat.le_of_ble_eq_true rfl, Nat.le_of_ble_eq_true rfl⟩ ⟨Nat.le_of_ble_eq_true rfl, Nat.le_of_ble_eq_true rfl⟩ hl.1 rfl (Nat.le_of_ble_eq_true rfl) rfl dX9_orders0_70 (fun r83 _ H locs hm hw => ?_)
          have hw : wV D A s.heap (mW cy a S12) H locs := hw
          refine lv_iload_n hx hb dX9_orders0_73 rfl (lv_at hl 6 rfl) ?_
          refine lv_iconst (v := 1) hx hb dX9_orders0_74 (by decide) ?_
          refine lv_iload hx hb dX9_orders0_75 (lv_at hl 0 rfl) ?_
          refine lv_ishl hx hb dX9_orders0_77 ?_
          refine lv_iconst (v := (-1)) hx hb dX9_orders0_78 (by decide) ?_
          refine lv_ixor hx hb dX9_orders0_79 ?_
          refine lv_iand hx hb dX9_orders0_80 ?_
          refine lv_aload_n hx hb dX9_orders0_81 rfl (lv_at hl 7 rfl) ?_
          refine lv_iload hx hb dX9_orders0_82 (lv_at hl 0 rfl) ?_
          refine lv_iload_n hx hb dX9_orders0_84 rfl (lv_at hl 5 rfl) ?_
          refine aV_I (As := [.int v78, .int x3_10]) (rest := [.int (x2_11 &&& (((1 : Int32) <<< (v78 &&& 31)) ^^^ (-1))), .int r83, .ref (a 0)]) hc hw (c_M_yearBehind hm) lk_X9_297 rfl rfl ⟨Nat.le_of_ble_eq_true rfl, Nat.le_of_ble_eq_true rfl⟩ ⟨Nat.le_of_ble_eq_true rfl, Nat.le_of_ble_eq_true rfl⟩ hl.1 rfl (Nat.le_of_ble_eq_true rfl) rfl dX9_orders0_85 (fun r85 _ H locs hm hw => ?_)
          have hw : wV D A s.heap (mW cy a S12) H locs := hw
          refine aV_I (As := [.int r83, .int (x2_11 &&& (((1 : Int32) <<< (v78 &&& 31)) ^^^ (-1))), .int r85]) (rest := []) hc hw (c_M_goOnBy hm) lk_X9_334 rfl rfl ⟨Nat.le_of_ble_eq_true rfl, Nat.le_of_ble_eq_true rfl⟩ ⟨Nat.le_of_ble_eq_true rfl, Nat.le_of_ble_eq_true rfl⟩ hl.1 rfl (Nat.le_of_ble_eq_true rfl) rfl dX9_orders0_88 (fun r87 _ H locs hm hw => ?_)
          have hw : wV D A s.heap (mW cy a S12) H locs := hw
          refine lv_istore (lv' := [(8, .int r87), (7, .int v78), (6, .int x6_8), (5, .int r6), (4, .int x4_9), (3, .int x3_10), (2, .int x2_11), (0, .ref (a 0))]) hx hb dX9_orders0_91 hl (by decide) rfl (fun ls hl => ?_)
          refine lv_goto (tgt := 37) hx hb dX9_orders0_93 (by decide) ?_
          exact ih69 _ _ hm _ _ _ hw (lv_sub hl [0, 1, 2, 3, 4, 5, 6, 7] rfl)
set_option maxHeartbeats 4000000 in
set_option maxRecDepth 100000 in
theorem c_M_order {l : Launch} {D : va_G} {cy : Nat → ClassId} {a : Nat → Nat} {S : Ob} {x1 : Int32} {x2 : Int32} {x3 : Int32} {Q : Int32 → Ob → Prop} (hm : wM_order S x1 x2 x3 Q) : CtI l yX9_order cX9_order 4 (some .int) (rmN 103) D cy [.ref (a 0), .int x1, .int x2, .int x3] (mW cy a S) (mW cy a) Q := by
  refine CtI.ofW (by decide) (Nat.le_of_ble_eq_true rfl) ?_
  intro p e s m args below meth c A ls hc hnm hw hl
  have hx := hc.1.1
  have hb := hc.1.2.1
  have hown := hc.1.2.2.2.1
  have hts := hc.1.2.2.2.2
  have hl : lv_has ls 4 [(0, .ref (a 0)), (1, .int x1), (2, .int x2), (3, .int x3)] := hl
  obtain ⟨H, hH⟩ : ∃ z, z = s.heap := ⟨_, rfl⟩
  obtain ⟨locs, hLc⟩ : ∃ z : List Loc, z = [] := ⟨_, rfl⟩
  have hw : wV D A s.heap (mW cy a S) H locs := by rw [hH, hLc]; exact hw
  have hgo : W p l e (rmN 103) s m args below meth c H locs 0 0 (MQ below (eI D cy A (mW cy a) Q) args s (rmN 103).cells (rmN 103).slots A) (F0 m 0 ls []) := ?hgo
  · rw [hH, hLc] at hgo; exact hgo
  refine lv_aload_n hx hb dX9_order_0 rfl (lv_at hl 0 rfl) ?_
  refine lv_iload_n hx hb dX9_order_1 rfl (lv_at hl 1 rfl) ?_
  refine aV_I (As := [.int x1]) (rest := []) hc hw (c_M_isSet hm) lk_X9_316 rfl rfl ⟨Nat.le_of_ble_eq_true rfl, Nat.le_of_ble_eq_true rfl⟩ ⟨Nat.le_of_ble_eq_true rfl, Nat.le_of_ble_eq_true rfl⟩ hl.1 rfl (Nat.le_of_ble_eq_true rfl) rfl dX9_order_2 (fun r1 _ H locs hm hw => ?_)
  have hw : wV D A s.heap (mW cy a S) H locs := hw
  refine lv_if_eq (tgt := 17) hx hb dX9_order_5 (by decide) (fun c23 => ?_) (fun c23 => ?_)
  · have hm := hm.1 c23
    refine lv_iconst (v := (-1)) hx hb dX9_order_17 (by decide) ?_
    exact retI (u := S) hc hw hm dX9_order_18
  · have hm := hm.2 c23
    refine lv_iload_n hx hb dX9_order_8 rfl (lv_at hl 3 rfl) ?_
    refine lv_iconst (v := 0) hx hb dX9_order_9 (by decide) ?_
    refine lv_iconst (v := 2) hx hb dX9_order_10 (by decide) ?_
    refine zS_I (As := [.int x3, .int 0, .int 2]) (rest := []) hc hw (c_M_lies hm) lk_X9_94 ⟨Nat.le_of_ble_eq_true rfl, Nat.le_of_ble_eq_true rfl⟩ ⟨Nat.le_of_ble_eq_true rfl, Nat.le_of_ble_eq_true rfl⟩ hl.1 rfl (Nat.le_of_ble_eq_true rfl) rfl dX9_order_11 (fun r3 H locs hm hw => ?_)
    refine lv_if_ne (tgt := 19) hx hb dX9_order_14 (by decide) (fun c22 => ?_) (fun c22 => ?_)
    · have hm := hm.1 c22
      refine lv_aload_n hx hb dX9_order_19 rfl (lv_at hl 0 rfl) ?_
      refine aV_V (As := []) (rest := []) hc hw (c_M_looks hm) lk_X9_279 rfl rfl ⟨Nat.le_of_ble_eq_true rfl, Nat.le_of_ble_eq_true rfl⟩ ⟨Nat.le_of_ble_eq_true rfl, Nat.le_of_ble_eq_true rfl⟩ hl.1 rfl (Nat.le_of_ble_eq_true rfl) rfl dX9_order_20 (fun S5 H locs hm hw => ?_)
      have hw : wV D A s.heap (mW cy a S5) H locs := hw
      refine lv_aload_n hx hb dX9_order_23 rfl (lv_at hl 0 rfl) ?_
      refine lv_iload_n hx hb dX9_order_24 rfl (lv_at hl 1 rfl) ?_
      refine aV_I (As := [.int x1]) (rest := []) hc hw (c_M_goesOn hm) lk_X9_319 rfl rfl ⟨Nat.le_of_ble_eq_true rfl, Nat.le_of_ble_eq_true rfl⟩ ⟨Nat.le_of_ble_eq_true rfl, Nat.le_of_ble_eq_true rfl⟩ hl.1 rfl (Nat.le_of_ble_eq_true rfl) rfl dX9_order_25 (fun r7 _ H locs hm hw => ?_)
      have hw : wV D A s.heap (mW cy a S5) H locs := hw
      refine lv_if_eq (tgt := 45) hx hb dX9_order_28 (by decide) (fun c21 => ?_) (fun c21 => ?_)
      · have hm := hm.1 c21
        refine lv_iconst (v := (-1)) hx hb dX9_order_45 (by decide) ?_
        exact retI (u := S5) hc hw hm dX9_order_46
      · have hm := hm.2 c21
        refine lv_iload_n hx hb dX9_order_31 rfl (lv_at hl 2 rfl) ?_
        refine lv_iconst (v := 0) hx hb dX9_order_32 (by decide) ?_
        refine lv_iload_n hx hb dX9_order_33 rfl (lv_at hl 1 rfl) ?_
        refine zS_I (As := [.int x1]) (rest := [.int 0, .int x2]) hc hw (c_M_ones hm) lk_X9_260 ⟨Nat.le_of_ble_eq_true rfl, Nat.le_of_ble_eq_true rfl⟩ ⟨Nat.le_of_ble_eq_true rfl, Nat.le_of_ble_eq_true rfl⟩ hl.1 rfl (Nat.le_of_ble_eq_true rfl) rfl dX9_order_34 (fun r9 H locs hm hw => ?_)
        refine lv_iconst (v := 1) hx hb dX9_order_37 (by decide) ?_
        refine lv_isub hx hb dX9_order_38 ?_
        refine zS_I (As := [.int x2, .int 0, .int (r9 - 1)]) (rest := []) hc hw (c_M_lies hm) lk_X9_94 ⟨Nat.le_of_ble_eq_true rfl, Nat.le_of_ble_eq_true rfl⟩ ⟨Nat.le_of_ble_eq_true rfl, Nat.le_of_ble_eq_true rfl⟩ hl.1 rfl (Nat.le_of_ble_eq_true rfl) rfl dX9_order_39 (fun r11 H locs hm hw => ?_)
        refine lv_if_ne (tgt := 47) hx hb dX9_order_42 (by decide) (fun c20 => ?_) (fun c20 => ?_)
        · have hm := hm.1 c20
          refine lv_aload_n hx hb dX9_order_47 rfl (lv_at hl 0 rfl) ?_
          refine lv_iload_n hx hb dX9_order_48 rfl (lv_at hl 1 rfl) ?_
          refine aV_V (As := [.int x1]) (rest := []) hc hw (c_M_orders0 hm) lk_X9_341 rfl rfl ⟨Nat.le_of_ble_eq_true rfl, Nat.le_of_ble_eq_true rfl⟩ ⟨Nat.le_of_ble_eq_true rfl, Nat.le_of_ble_eq_true rfl⟩ hl.1 rfl (Nat.le_of_ble_eq_true rfl) rfl dX9_order_49 (fun S13 H locs hm hw => ?_)
          have hw : wV D A s.heap (mW cy a S13) H locs := hw
          refine lv_iload_n hx hb dX9_order_52 rfl (lv_at hl 3 rfl) ?_
          refine lv_if_ne (tgt := 65) hx hb dX9_order_53 (by decide) (fun c19 => ?_) (fun c19 => ?_)
          · have hm := hm.1 c19
            refine lv_iload_n hx hb dX9_order_65 rfl (lv_at hl 3 rfl) ?_
            refine lv_iconst (v := 1) hx hb dX9_order_66 (by decide) ?_
            refine lv_icmp_ne (tgt := 79) hx hb dX9_order_67 (by decide) (fun c17 => ?_) (fun c17 => ?_)
            · have hm := hm.1 c17
              refine lv_aload_n hx hb dX9_order_79 rfl (lv_at hl 0 rfl) ?_
              refine gF (k := 34) hc hw inX9 rfl 0 rfl (by decide) (gm 1093 (by decide +kernel) rfl) rfl dX9_order_80 ?_
              refine lv_iload_n hx hb dX9_order_83 rfl (lv_at hl 2 rfl) ?_
              obtain ⟨c15, hm⟩ := hm
              refine aI hc hw 18 rfl c15 rfl dX9_order_84 ?_
              exact retI (u := S13) hc hw hm dX9_order_85
            · have hm := hm.2 c17
              refine lv_aload_n hx hb dX9_order_70 rfl (lv_at hl 0 rfl) ?_
              refine gF (k := 33) hc hw inX9 rfl 0 rfl (by decide) (gm 1092 (by decide +kernel) rfl) rfl dX9_order_71 ?_
              refine lv_iload_n hx hb dX9_order_74 rfl (lv_at hl 2 rfl) ?_
              obtain ⟨c16, hm⟩ := hm
              refine aI hc hw 17 rfl c16 rfl dX9_order_75 ?_
              refine lv_goto (tgt := 85) hx hb dX9_order_76 (by decide) ?_
              exact retI (u := S13) hc hw hm dX9_order_85
          · have hm := hm.2 c19
            refine lv_aload_n hx hb dX9_order_56 rfl (lv_at hl 0 rfl) ?_
            refine gF (k := 32) hc hw inX9 rfl 0 rfl (by decide) (gm 1091 (by decide +kernel) rfl) rfl dX9_order_57 ?_
            refine lv_iload_n hx hb dX9_order_60 rfl (lv_at hl 2 rfl) ?_
            obtain ⟨c18, hm⟩ := hm
            refine aI hc hw 16 rfl c18 rfl dX9_order_61 ?_
            refine lv_goto (tgt := 85) hx hb dX9_order_62 (by decide) ?_
            exact retI (u := S13) hc hw hm dX9_order_85
        · have hm := hm.2 c20
          refine lv_iconst (v := (-1)) hx hb dX9_order_45 (by decide) ?_
          exact retI (u := S5) hc hw hm dX9_order_46
    · have hm := hm.2 c22
      refine lv_iconst (v := (-1)) hx hb dX9_order_17 (by decide) ?_
      exact retI (u := S) hc hw hm dX9_order_18
set_option maxHeartbeats 4000000 in
set_option maxRecDepth 100000 in
theorem c_M_counts {l : Launch} {D : va_G} {cy : Nat → ClassId} {a : Nat → Nat} : ∀ (d : Nat) (S : Ob) (x1 : Int32) (x2 : Int32) (x3 : Int32) (Q : Ob → Prop) (hm : wM_counts d S x1 x2 x3 Q), CtV l yX9_counts cX9_counts 6 none (rmN (3 + 4 * d)) D cy [.ref (a 0), .int x1, .int x2, .int x3] (mW cy a S) (mW cy a) Q
  | 0, _, _, _, _, _, hm => hm.elim
  | d + 1, S, x1, x2, x3, Q, hm => by
    unfold wM_counts at hm
    refine CtV.ofW (by decide) (Nat.le_of_ble_eq_true rfl) ?_
    intro p e s m args below meth c A ls hc hnm hw hl
    have hx := hc.1.1
    have hb := hc.1.2.1
    have hown := hc.1.2.2.2.1
    have hts := hc.1.2.2.2.2
    have hl : lv_has ls 6 [(0, .ref (a 0)), (1, .int x1), (2, .int x2), (3, .int x3)] := hl
    obtain ⟨H, hH⟩ : ∃ z, z = s.heap := ⟨_, rfl⟩
    obtain ⟨locs, hLc⟩ : ∃ z : List Loc, z = [] := ⟨_, rfl⟩
    have hw : wV D A s.heap (mW cy a S) H locs := by rw [hH, hLc]; exact hw
    have hgo : W p l e (rmN (3 + 4 * (d + 1))) s m args below meth c H locs 0 0 (MQ below (eV D cy A (mW cy a) Q) args s (rmN (3 + 4 * (d + 1))).cells (rmN (3 + 4 * (d + 1))).slots A) (F0 m 0 ls []) := ?hgo
    · rw [hH, hLc] at hgo; exact hgo
    refine lv_iload_n hx hb dX9_counts_0 rfl (lv_at hl 1 rfl) ?_
    refine lv_if_ne (tgt := 14) hx hb dX9_counts_1 (by decide) (fun c48 => ?_) (fun c48 => ?_)
    · have hm := hm.1 c48
      refine lv_iconst (v := 0) hx hb dX9_counts_14 (by decide) ?_
      refine lv_istore (lv' := [(4, .int 0), (0, .ref (a 0)), (1, .int x1), (2, .int x2), (3, .int x3)]) hx hb dX9_counts_15 hl (by decide) rfl (fun ls hl => ?_)
      refine wl2_ind (G := fun (x4_1 : Int32) (S2 : Ob) => ∀ (H : Heap) (locs : List Loc) (ls : Array Slot), wV D A s.heap (mW cy a S2) H locs → lv_has ls 6 [(4, .int x4_1), (0, .ref (a 0)), (1, .int x1), (2, .int x2), (3, .int x3)] → W p l e (rmN (3 + 4 * (d + 1))) s m args below meth c H locs 0 0 (MQ below (eV D cy A (mW cy a) Q) args s (rmN (3 + 4 * (d + 1))).cells (rmN (3 + 4 * (d + 1))).slots A) (F0 m 17 ls [])) ?_ _ _ hm H locs ls hw (lv_sub hl [0, 1, 2, 3, 4] rfl)
      intro L3 ih3 x4_1 S2 hm H locs ls hw hl
      refine lv_iload hx hb dX9_counts_17 (lv_at hl 0 rfl) ?_
      refine lv_aload_n hx hb dX9_counts_19 rfl (lv_at hl 1 rfl) ?_
      refine aV_I (As := []) (rest := [.int x4_1]) hc hw (c_M_tales hm) lk_X9_105 rfl rfl (rm_ok (by omega) (by omega)) ⟨Nat.le_of_ble_eq_true rfl, Nat.le_of_ble_eq_true rfl⟩ hl.1 rfl (Nat.le_of_ble_eq_true rfl) rfl dX9_counts_20 (fun r4 _ H locs hm hw => ?_)
      have hw : wV D A s.heap (mW cy a S2) H locs := hw
      refine lv_icmp_ge (tgt := 89) hx hb dX9_counts_23 (by decide) (fun c23 => ?_) (fun c23 => ?_)
      · have hm := hm.1 c23
        exact retV (u := S2) hc hw hm dX9_counts_89
      · have hm := hm.2 c23
        refine lv_iload_n hx hb dX9_counts_26 rfl (lv_at hl 2 rfl) ?_
        refine lv_iload hx hb dX9_counts_27 (lv_at hl 0 rfl) ?_
        refine zS_I (As := [.int x1, .int x4_1]) (rest := []) hc hw (c_M_isIn hm) lk_X9_269 (rm_ok (by omega) (by omega)) ⟨Nat.le_of_ble_eq_true rfl, Nat.le_of_ble_eq_true rfl⟩ hl.1 rfl (Nat.le_of_ble_eq_true rfl) rfl dX9_counts_29 (fun r6 H locs hm hw => ?_)
        refine lv_if_eq (tgt := 83) hx hb dX9_counts_32 (by decide) (fun c22 => ?_) (fun c22 => ?_)
        · have hm := hm.1 c22
          obtain ⟨v8, e_v8⟩ : ∃ z : Int32, z = x4_1 + 1 := ⟨_, rfl⟩
          have hm := hm v8 e_v8
          refine lv_iinc (v := v8) (lv' := [(4, .int v8), (0, .ref (a 0)), (1, .int x1), (2, .int x2), (3, .int x3)]) hx hb dX9_counts_83 hl (k := 0) rfl (by rw [e_v8]; rfl) (by decide) rfl (fun ls hl => ?_)
          refine lv_goto (tgt := 17) hx hb dX9_counts_86 (by decide) ?_
          exact ih3 _ _ hm _ _ _ hw (lv_sub hl [0, 1, 2, 3, 4] rfl)
        · have hm := hm.2 c22
          refine lv_aload_n hx hb dX9_counts_35 rfl (lv_at hl 1 rfl) ?_
          refine lv_iload hx hb dX9_counts_36 (lv_at hl 0 rfl) ?_
          refine lv_iload_n hx hb dX9_counts_38 rfl (lv_at hl 3 rfl) ?_
          refine aV_I (As := [.int x4_1, .int x2]) (rest := []) hc hw (c_M_fits hm) lk_X9_300 rfl rfl (rm_ok (by omega) (by omega)) ⟨Nat.le_of_ble_eq_true rfl, Nat.le_of_ble_eq_true rfl⟩ hl.1 rfl (Nat.le_of_ble_eq_true rfl) rfl dX9_counts_39 (fun r9 _ H locs hm hw => ?_)
          have hw : wV D A s.heap (mW cy a S2) H locs := hw
          refine lv_if_ne (tgt := 48) hx hb dX9_counts_42 (by decide) (fun c21 => ?_) (fun c21 => ?_)
          · have hm := hm.1 c21
            refine lv_aload_n hx hb dX9_counts_48 rfl (lv_at hl 1 rfl) ?_
            refine lv_iload hx hb dX9_counts_49 (lv_at hl 0 rfl) ?_
            refine lv_iload_n hx hb dX9_counts_51 rfl (lv_at hl 4 rfl) ?_
            refine aV_I (As := [.int x4_1, .int x3]) (rest := []) hc hw (c_M_nexts hm) lk_X9_331 rfl rfl (rm_ok (by omega) (by omega)) ⟨Nat.le_of_ble_eq_true rfl, Nat.le_of_ble_eq_true rfl⟩ hl.1 rfl (Nat.le_of_ble_eq_true rfl) rfl dX9_counts_52 (fun r11 _ H locs hm hw => ?_)
            have hw : wV D A s.heap (mW cy a S2) H locs := hw
            refine lv_istore (lv' := [(5, .int r11), (4, .int x4_1), (0, .ref (a 0)), (1, .int x1), (2, .int x2), (3, .int x3)]) hx hb dX9_counts_55 hl (by decide) rfl (fun ls hl => ?_)
            refine lv_iload hx hb dX9_counts_57 (lv_at hl 0 rfl) ?_
            refine lv_if_eq (tgt := 83) hx hb dX9_counts_59 (by decide) (fun c19 => ?_) (fun c19 => ?_)
            · have hm := hm.1 c19
              obtain ⟨v13, e_v13⟩ : ∃ z : Int32, z = x4_1 + 1 := ⟨_, rfl⟩
              have hm := hm v13 e_v13
              refine lv_iinc (v := v13) (lv' := [(4, .int v13), (5, .int r11), (0, .ref (a 0)), (1, .int x1), (2, .int x2), (3, .int x3)]) hx hb dX9_counts_83 hl (k := 1) rfl (by rw [e_v13]; rfl) (by decide) rfl (fun ls hl => ?_)
              refine lv_goto (tgt := 17) hx hb dX9_counts_86 (by decide) ?_
              exact ih3 _ _ hm _ _ _ hw (lv_sub hl [0, 2, 3, 4, 5] rfl)
            · have hm := hm.2 c19
              refine lv_aload_n hx hb dX9_counts_62 rfl (lv_at hl 2 rfl) ?_
              refine lv_iload_n hx hb dX9_counts_63 rfl (lv_at hl 3 rfl) ?_
              refine lv_iconst (v := 1) hx hb dX9_counts_64 (by decide) ?_
              refine lv_iload hx hb dX9_counts_65 (lv_at hl 1 rfl) ?_
              refine lv_ishl hx hb dX9_counts_67 ?_
              refine lv_iconst (v := (-1)) hx hb dX9_counts_68 (by decide) ?_
              refine lv_ixor hx hb dX9_counts_69 ?_
              refine lv_iand hx hb dX9_counts_70 ?_
              refine lv_aload_n hx hb dX9_counts_71 rfl (lv_at hl 2 rfl) ?_
              refine lv_iload hx hb dX9_counts_72 (lv_at hl 1 rfl) ?_
              refine lv_iload_n hx hb dX9_counts_74 rfl (lv_at hl 4 rfl) ?_
              refine aV_I (As := [.int x4_1, .int x2]) (rest := [.int (x1 &&& (((1 : Int32) <<< (x4_1 &&& 31)) ^^^ (-1))), .ref (a 0)]) hc hw (c_M_yearBehind hm) lk_X9_297 rfl rfl (rm_ok (by omega) (by omega)) ⟨Nat.le_of_ble_eq_true rfl, Nat.le_of_ble_eq_true rfl⟩ hl.1 rfl (Nat.le_of_ble_eq_true rfl) rfl dX9_counts_75 (fun r14 _ H locs hm hw => ?_)
              have hw : wV D A s.heap (mW cy a S2) H locs := hw
              refine lv_iload hx hb dX9_counts_78 (lv_at hl 0 rfl) ?_
              refine aV_V (As := [.int (x1 &&& (((1 : Int32) <<< (x4_1 &&& 31)) ^^^ (-1))), .int r14, .int r11]) (rest := []) hc hw (c_M_counts d _ _ _ _ _ hm) lk_X9_347 rfl rfl (rm_ok (by omega) (by omega)) ⟨Nat.le_of_ble_eq_true rfl, Nat.le_of_ble_eq_true rfl⟩ hl.1 rfl (Nat.le_of_ble_eq_true rfl) rfl dX9_counts_80 (fun S16 H locs hm hw => ?_)
              have hw : wV D A s.heap (mW cy a S16) H locs := hw
              obtain ⟨v18, e_v18⟩ : ∃ z : Int32, z = x4_1 + 1 := ⟨_, rfl⟩
              have hm := hm v18 e_v18
              refine lv_iinc (v := v18) (lv' := [(4, .int v18), (5, .int r11), (0, .ref (a 0)), (1, .int x1), (2, .int x2), (3, .int x3)]) hx hb dX9_counts_83 hl (k := 1) rfl (by rw [e_v18]; rfl) (by decide) rfl (fun ls hl => ?_)
              refine lv_goto (tgt := 17) hx hb dX9_counts_86 (by decide) ?_
              exact ih3 _ _ hm _ _ _ hw (lv_sub hl [0, 2, 3, 4, 5] rfl)
          · have hm := hm.2 c21
            refine lv_goto (tgt := 83) hx hb dX9_counts_45 (by decide) ?_
            obtain ⟨v20, e_v20⟩ : ∃ z : Int32, z = x4_1 + 1 := ⟨_, rfl⟩
            have hm := hm v20 e_v20
            refine lv_iinc (v := v20) (lv' := [(4, .int v20), (0, .ref (a 0)), (1, .int x1), (2, .int x2), (3, .int x3)]) hx hb dX9_counts_83 hl (k := 0) rfl (by rw [e_v20]; rfl) (by decide) rfl (fun ls hl => ?_)
            refine lv_goto (tgt := 17) hx hb dX9_counts_86 (by decide) ?_
            exact ih3 _ _ hm _ _ _ hw (lv_sub hl [0, 1, 2, 3, 4] rfl)
    · have hm := hm.2 c48
      refine lv_aload_n hx hb dX9_counts_4 rfl (lv_at hl 0 rfl) ?_
      refine lv_dup hx hb dX9_counts_5 rfl ?_
      refine gF (k := 36) hc hw inX9 rfl 0 rfl (by decide) (gm 1095 (by decide +kernel) rfl) rfl dX9_counts_6 ?_
      refine lv_iconst (v := 1) hx hb dX9_counts_9 (by decide) ?_
      refine lv_iadd hx hb dX9_counts_10 ?_
      refine pF (k := 36) (ty := .int) hc hw inX9 tyX9_ok nmX9 rfl 0 rfl (by decide) (gm 1095 (by decide +kernel) rfl) rfl (by decide +kernel) rfl rfl (Nat.le_of_ble_eq_true rfl) dX9_counts_11 (fun H locs hw => ?_)
      obtain ⟨S24, e_S24⟩ : ∃ z : Ob, z = uS S 36 ((S.1 36) + 1) := ⟨_, rfl⟩
      have hm := hm S24 e_S24
      have hw : wV D A s.heap (mW cy a S24) H locs := by rw [e_S24]; exact hw
      refine lv_iconst (v := 0) hx hb dX9_counts_14 (by decide) ?_
      refine lv_istore (lv' := [(4, .int 0), (0, .ref (a 0)), (1, .int x1), (2, .int x2), (3, .int x3)]) hx hb dX9_counts_15 hl (by decide) rfl (fun ls hl => ?_)
      refine wl2_ind (G := fun (x4_25 : Int32) (S26 : Ob) => ∀ (H : Heap) (locs : List Loc) (ls : Array Slot), wV D A s.heap (mW cy a S26) H locs → lv_has ls 6 [(4, .int x4_25), (0, .ref (a 0)), (1, .int x1), (2, .int x2), (3, .int x3)] → W p l e (rmN (3 + 4 * (d + 1))) s m args below meth c H locs 0 0 (MQ below (eV D cy A (mW cy a) Q) args s (rmN (3 + 4 * (d + 1))).cells (rmN (3 + 4 * (d + 1))).slots A) (F0 m 17 ls [])) ?_ _ _ hm H locs ls hw (lv_sub hl [0, 1, 2, 3, 4] rfl)
      intro L27 ih27 x4_25 S26 hm H locs ls hw hl
      refine lv_iload hx hb dX9_counts_17 (lv_at hl 0 rfl) ?_
      refine lv_aload_n hx hb dX9_counts_19 rfl (lv_at hl 1 rfl) ?_
      refine aV_I (As := []) (rest := [.int x4_25]) hc hw (c_M_tales hm) lk_X9_105 rfl rfl (rm_ok (by omega) (by omega)) ⟨Nat.le_of_ble_eq_true rfl, Nat.le_of_ble_eq_true rfl⟩ hl.1 rfl (Nat.le_of_ble_eq_true rfl) rfl dX9_counts_20 (fun r28 _ H locs hm hw => ?_)
      have hw : wV D A s.heap (mW cy a S26) H locs := hw
      refine lv_icmp_ge (tgt := 89) hx hb dX9_counts_23 (by decide) (fun c47 => ?_) (fun c47 => ?_)
      · have hm := hm.1 c47
        exact retV (u := S26) hc hw hm dX9_counts_89
      · have hm := hm.2 c47
        refine lv_iload_n hx hb dX9_counts_26 rfl (lv_at hl 2 rfl) ?_
        refine lv_iload hx hb dX9_counts_27 (lv_at hl 0 rfl) ?_
        refine zS_I (As := [.int x1, .int x4_25]) (rest := []) hc hw (c_M_isIn hm) lk_X9_269 (rm_ok (by omega) (by omega)) ⟨Nat.le_of_ble_eq_true rfl, Nat.le_of_ble_eq_true rfl⟩ hl.1 rfl (Nat.le_of_ble_eq_true rfl) rfl dX9_counts_29 (fun r30 H locs hm hw => ?_)
        refine lv_if_eq (tgt := 83) hx hb dX9_counts_32 (by decide) (fun c46 => ?_) (fun c46 => ?_)
        · have hm := hm.1 c46
          obtain ⟨v32, e_v32⟩ : ∃ z : Int32, z = x4_25 + 1 := ⟨_, rfl⟩
          have hm := hm v32 e_v32
          refine lv_iinc (v := v32) (lv' := [(4, .int v32), (0, .ref (a 0)), (1, .int x1), (2, .int x2), (3, .int x3)]) hx hb dX9_counts_83 hl (k := 0) rfl (by rw [e_v32]; rfl) (by decide) rfl (fun ls hl => ?_)
          refine lv_goto (tgt := 17) hx hb dX9_counts_86 (by decide) ?_
          exact ih27 _ _ hm _ _ _ hw (lv_sub hl [0, 1, 2, 3, 4] rfl)
        · have hm := hm.2 c46
          refine lv_aload_n hx hb dX9_counts_35 rfl (lv_at hl 1 rfl) ?_
          refine lv_iload hx hb dX9_counts_36 (lv_at hl 0 rfl) ?_
          refine lv_iload_n hx hb dX9_counts_38 rfl (lv_at hl 3 rfl) ?_
          refine aV_I (As := [.int x4_25, .int x2]) (rest := []) hc hw (c_M_fits hm) lk_X9_300 rfl rfl (rm_ok (by omega) (by omega)) ⟨Nat.le_of_ble_eq_true rfl, Nat.le_of_ble_eq_true rfl⟩ hl.1 rfl (Nat.le_of_ble_eq_true rfl) rfl dX9_counts_39 (fun r33 _ H locs hm hw => ?_)
          have hw : wV D A s.heap (mW cy a S26) H locs := hw
          refine lv_if_ne (tgt := 48) hx hb dX9_counts_42 (by decide) (fun c45 => ?_) (fun c45 => ?_)
          · have hm := hm.1 c45
            refine lv_aload_n hx hb dX9_counts_48 rfl (lv_at hl 1 rfl) ?_
            refine lv_iload hx hb dX9_counts_49 (lv_at hl 0 rfl) ?_
            refine lv_iload_n hx hb dX9_counts_51 rfl (lv_at hl 4 rfl) ?_
            refine aV_I (As := [.int x4_25, .int x3]) (rest := []) hc hw (c_M_nexts hm) lk_X9_331 rfl rfl (rm_ok (by omega) (by omega)) ⟨Nat.le_of_ble_eq_true rfl, Nat.le_of_ble_eq_true rfl⟩ hl.1 rfl (Nat.le_of_ble_eq_true rfl) rfl dX9_counts_52 (fun r35 _ H locs hm hw => ?_)
            have hw : wV D A s.heap (mW cy a S26) H locs := hw
            refine lv_istore (lv' := [(5, .int r35), (4, .int x4_25), (0, .ref (a 0)), (1, .int x1), (2, .int x2), (3, .int x3)]) hx hb dX9_counts_55 hl (by decide) rfl (fun ls hl => ?_)
            refine lv_iload hx hb dX9_counts_57 (lv_at hl 0 rfl) ?_
            refine lv_if_eq (tgt := 83) hx hb dX9_counts_59 (by decide) (fun c43 => ?_) (fun c43 => ?_)
            · have hm := hm.1 c43
              obtain ⟨v37, e_v37⟩ : ∃ z : Int32, z = x4_25 + 1 := ⟨_, rfl⟩
              have hm := hm v37 e_v37
              refine lv_iinc (v := v37) (lv' := [(4, .int v37), (5, .int r35), (0, .ref (a 0)), (1, .int x1), (2, .int x2), (3, .int x3)]) hx hb dX9_counts_83 hl (k := 1) rfl (by rw [e_v37]; rfl) (by decide) rfl (fun ls hl => ?_)
              refine lv_goto (tgt := 17) hx hb dX9_counts_86 (by decide) ?_
              exact ih27 _ _ hm _ _ _ hw (lv_sub hl [0, 2, 3, 4, 5] rfl)
            · have hm := hm.2 c43
              refine lv_aload_n hx hb dX9_counts_62 rfl (lv_at hl 2 rfl) ?_
              refine lv_iload_n hx hb dX9_counts_63 rfl (lv_at hl 3 rfl) ?_
              refine lv_iconst (v := 1) hx hb dX9_counts_64 (by decide) ?_
              refine lv_iload hx hb dX9_counts_65 (lv_at hl 1 rfl) ?_
              refine lv_ishl hx hb dX9_counts_67 ?_
              refine lv_iconst (v := (-1)) hx hb dX9_counts_68 (by decide) ?_
              refine lv_ixor hx hb dX9_counts_69 ?_
              refine lv_iand hx hb dX9_counts_70 ?_
              refine lv_aload_n hx hb dX9_counts_71 rfl (lv_at hl 2 rfl) ?_
              refine lv_iload hx hb dX9_counts_72 (lv_at hl 1 rfl) ?_
              refine lv_iload_n hx hb dX9_counts_74 rfl (lv_at hl 4 rfl) ?_
              refine aV_I (As := [.int x4_25, .int x2]) (rest := [.int (x1 &&& (((1 : Int32) <<< (x4_25 &&& 31)) ^^^ (-1))), .ref (a 0)]) hc hw (c_M_yearBehind hm) lk_X9_297 rfl rfl (rm_ok (by omega) (by omega)) ⟨Nat.le_of_ble_eq_true rfl, Nat.le_of_ble_eq_true rfl⟩ hl.1 rfl (Nat.le_of_ble_eq_true rfl) rfl dX9_counts_75 (fun r38 _ H locs hm hw => ?_)
              have hw : wV D A s.heap (mW cy a S26) H locs := hw
              refine lv_iload hx hb dX9_counts_78 (lv_at hl 0 rfl) ?_
              refine aV_V (As := [.int (x1 &&& (((1 : Int32) <<< (x4_25 &&& 31)) ^^^ (-1))), .int r38, .int r35]) (rest := []) hc hw (c_M_counts d _ _ _ _ _ hm) lk_X9_347 rfl rfl (rm_ok (by omega) (by omega)) ⟨Nat.le_of_ble_eq_true rfl, Nat.le_of_ble_eq_true rfl⟩ hl.1 rfl (Nat.le_of_ble_eq_true rfl) rfl dX9_counts_80 (fun S40 H locs hm hw => ?_)
              have hw : wV D A s.heap (mW cy a S40) H locs := hw
              obtain ⟨v42, e_v42⟩ : ∃ z : Int32, z = x4_25 + 1 := ⟨_, rfl⟩
              have hm := hm v42 e_v42
              refine lv_iinc (v := v42) (lv' := [(4, .int v42), (5, .int r35), (0, .ref (a 0)), (1, .int x1), (2, .int x2), (3, .int x3)]) hx hb dX9_counts_83 hl (k := 1) rfl (by rw [e_v42]; rfl) (by decide) rfl (fun ls hl => ?_)
              refine lv_goto (tgt := 17) hx hb dX9_counts_86 (by decide) ?_
              exact ih27 _ _ hm _ _ _ hw (lv_sub hl [0, 2, 3, 4, 5] rfl)
          · have hm := hm.2 c45
            refine lv_goto (tgt := 83) hx hb dX9_counts_45 (by decide) ?_
            obtain ⟨v44, e_v44⟩ : ∃ z : Int32, z = x4_25 + 1 := ⟨_, rfl⟩
            have hm := hm v44 e_v44
            refine lv_iinc (v := v44) (lv' := [(4, .int v44), (0, .ref (a 0)), (1, .int x1), (2, .int x2), (3, .int x3)]) hx hb dX9_counts_83 hl (k := 0) rfl (by rw [e_v44]; rfl) (by decide) rfl (fun ls hl => ?_)
            refine lv_goto (tgt := 17) hx hb dX9_counts_86 (by decide) ?_
            exact ih27 _ _ hm _ _ _ hw (lv_sub hl [0, 1, 2, 3, 4] rfl)
set_option maxHeartbeats 4000000 in
set_option maxRecDepth 100000 in
theorem c_M_orders {l : Launch} {D : va_G} {cy : Nat → ClassId} {a : Nat → Nat} {S : Ob} {x1 : Int32} {Q : Int32 → Ob → Prop} (hm : wM_orders S x1 Q) : CtI l yX9_orders cX9_orders 2 (some .int) (rmN 103) D cy [.ref (a 0), .int x1] (mW cy a S) (mW cy a) Q := by
  refine CtI.ofW (by decide) (Nat.le_of_ble_eq_true rfl) ?_
  intro p e s m args below meth c A ls hc hnm hw hl
  have hx := hc.1.1
  have hb := hc.1.2.1
  have hown := hc.1.2.2.2.1
  have hts := hc.1.2.2.2.2
  have hl : lv_has ls 2 [(0, .ref (a 0)), (1, .int x1)] := hl
  obtain ⟨H, hH⟩ : ∃ z, z = s.heap := ⟨_, rfl⟩
  obtain ⟨locs, hLc⟩ : ∃ z : List Loc, z = [] := ⟨_, rfl⟩
  have hw : wV D A s.heap (mW cy a S) H locs := by rw [hH, hLc]; exact hw
  have hgo : W p l e (rmN 103) s m args below meth c H locs 0 0 (MQ below (eI D cy A (mW cy a) Q) args s (rmN 103).cells (rmN 103).slots A) (F0 m 0 ls []) := ?hgo
  · rw [hH, hLc] at hgo; exact hgo
  refine lv_aload_n hx hb dX9_orders_0 rfl (lv_at hl 0 rfl) ?_
  refine lv_iload_n hx hb dX9_orders_1 rfl (lv_at hl 1 rfl) ?_
  refine aV_I (As := [.int x1]) (rest := []) hc hw (c_M_isSet hm) lk_X9_316 rfl rfl ⟨Nat.le_of_ble_eq_true rfl, Nat.le_of_ble_eq_true rfl⟩ ⟨Nat.le_of_ble_eq_true rfl, Nat.le_of_ble_eq_true rfl⟩ hl.1 rfl (Nat.le_of_ble_eq_true rfl) rfl dX9_orders_2 (fun r1 _ H locs hm hw => ?_)
  have hw : wV D A s.heap (mW cy a S) H locs := hw
  refine lv_if_eq (tgt := 17) hx hb dX9_orders_5 (by decide) (fun c15 => ?_) (fun c15 => ?_)
  · have hm := hm.1 c15
    refine lv_iconst (v := (-1)) hx hb dX9_orders_17 (by decide) ?_
    exact retI (u := S) hc hw hm dX9_orders_18
  · have hm := hm.2 c15
    refine lv_iload_n hx hb dX9_orders_8 rfl (lv_at hl 1 rfl) ?_
    refine zS_I (As := [.int x1]) (rest := []) hc hw (c_M_ones hm) lk_X9_260 ⟨Nat.le_of_ble_eq_true rfl, Nat.le_of_ble_eq_true rfl⟩ ⟨Nat.le_of_ble_eq_true rfl, Nat.le_of_ble_eq_true rfl⟩ hl.1 rfl (Nat.le_of_ble_eq_true rfl) rfl dX9_orders_9 (fun r3 H locs hm hw => ?_)
    refine lv_bipush (v := 7) hx hb dX9_orders_12 (by decide) ?_
    refine lv_icmp_le (tgt := 19) hx hb dX9_orders_14 (by decide) (fun c14 => ?_) (fun c14 => ?_)
    · have hm := hm.1 c14
      refine lv_aload_n hx hb dX9_orders_19 rfl (lv_at hl 0 rfl) ?_
      refine aV_V (As := []) (rest := []) hc hw (c_M_looks hm) lk_X9_279 rfl rfl ⟨Nat.le_of_ble_eq_true rfl, Nat.le_of_ble_eq_true rfl⟩ ⟨Nat.le_of_ble_eq_true rfl, Nat.le_of_ble_eq_true rfl⟩ hl.1 rfl (Nat.le_of_ble_eq_true rfl) rfl dX9_orders_20 (fun S5 H locs hm hw => ?_)
      have hw : wV D A s.heap (mW cy a S5) H locs := hw
      refine lv_aload_n hx hb dX9_orders_23 rfl (lv_at hl 0 rfl) ?_
      refine lv_iconst (v := 0) hx hb dX9_orders_24 (by decide) ?_
      refine pF (k := 36) (ty := .int) hc hw inX9 tyX9_ok nmX9 rfl 0 rfl (by decide) (gm 1095 (by decide +kernel) rfl) rfl (by decide +kernel) rfl rfl (Nat.le_of_ble_eq_true rfl) dX9_orders_25 (fun H locs hw => ?_)
      obtain ⟨S7, e_S7⟩ : ∃ z : Ob, z = uS S5 36 0 := ⟨_, rfl⟩
      have hm := hm S7 e_S7
      have hw : wV D A s.heap (mW cy a S7) H locs := by rw [e_S7]; exact hw
      refine lv_aload_n hx hb dX9_orders_28 rfl (lv_at hl 0 rfl) ?_
      refine lv_iload_n hx hb dX9_orders_29 rfl (lv_at hl 1 rfl) ?_
      refine lv_aload_n hx hb dX9_orders_30 rfl (lv_at hl 0 rfl) ?_
      refine aV_I (As := []) (rest := [.int x1, .ref (a 0)]) hc hw (c_M_lastYear hm) lk_X9_306 rfl rfl ⟨Nat.le_of_ble_eq_true rfl, Nat.le_of_ble_eq_true rfl⟩ ⟨Nat.le_of_ble_eq_true rfl, Nat.le_of_ble_eq_true rfl⟩ hl.1 rfl (Nat.le_of_ble_eq_true rfl) rfl dX9_orders_31 (fun r8 _ H locs hm hw => ?_)
      have hw : wV D A s.heap (mW cy a S7) H locs := hw
      refine lv_iconst (v := 1) hx hb dX9_orders_34 (by decide) ?_
      refine lv_aload_n hx hb dX9_orders_35 rfl (lv_at hl 0 rfl) ?_
      refine aV_I (As := []) (rest := [.int 1, .int r8, .int x1, .ref (a 0)]) hc hw (c_M_lastTeller hm) lk_X9_309 rfl rfl ⟨Nat.le_of_ble_eq_true rfl, Nat.le_of_ble_eq_true rfl⟩ ⟨Nat.le_of_ble_eq_true rfl, Nat.le_of_ble_eq_true rfl⟩ hl.1 rfl (Nat.le_of_ble_eq_true rfl) rfl dX9_orders_36 (fun r10 _ H locs hm hw => ?_)
      have hw : wV D A s.heap (mW cy a S7) H locs := hw
      refine lv_ishl hx hb dX9_orders_39 ?_
      refine aV_V (As := [.int x1, .int r8, .int ((1 : Int32) <<< (r10 &&& 31))]) (rest := []) hc hw (c_M_counts 12 _ _ _ _ _ hm) lk_X9_347 rfl rfl (rm_ok (by omega) (by omega)) ⟨Nat.le_of_ble_eq_true rfl, Nat.le_of_ble_eq_true rfl⟩ hl.1 rfl (Nat.le_of_ble_eq_true rfl) rfl dX9_orders_40 (fun S12 H locs hm hw => ?_)
      have hw : wV D A s.heap (mW cy a S12) H locs := hw
      refine lv_aload_n hx hb dX9_orders_43 rfl (lv_at hl 0 rfl) ?_
      refine gF (k := 36) hc hw inX9 rfl 0 rfl (by decide) (gm 1095 (by decide +kernel) rfl) rfl dX9_orders_44 ?_
      exact retI (u := S12) hc hw hm dX9_orders_47
    · have hm := hm.2 c14
      refine lv_iconst (v := (-1)) hx hb dX9_orders_17 (by decide) ?_
      exact retI (u := S) hc hw hm dX9_orders_18
set_option maxHeartbeats 4000000 in
set_option maxRecDepth 100000 in
theorem c_M_wins {l : Launch} {D : va_G} {cy : Nat → ClassId} {a : Nat → Nat} : ∀ (d : Nat) (S : Ob) (x1 : Int32) (x2 : Int32) (x3 : Int32) (Q : Int32 → Prop) (hm : wM_wins d S x1 x2 x3 Q), CtI l yX9_wins cX9_wins 5 (some .boolean) (rmN (3 + 4 * d)) D cy [.ref (a 0), .int x1, .int x2, .int x3] (mW cy a S) (fun _ : Unit => mW cy a S) (fun (r : Int32) (_ : Unit) => Q r)
  | 0, _, _, _, _, _, hm => hm.elim
  | d + 1, S, x1, x2, x3, Q, hm => by
    unfold wM_wins at hm
    refine CtI.ofW (by decide) (Nat.le_of_ble_eq_true rfl) ?_
    intro p e s m args below meth c A ls hc hnm hw hl
    have hx := hc.1.1
    have hb := hc.1.2.1
    have hown := hc.1.2.2.2.1
    have hts := hc.1.2.2.2.2
    have hl : lv_has ls 5 [(0, .ref (a 0)), (1, .int x1), (2, .int x2), (3, .int x3)] := hl
    obtain ⟨H, hH⟩ : ∃ z, z = s.heap := ⟨_, rfl⟩
    obtain ⟨locs, hLc⟩ : ∃ z : List Loc, z = [] := ⟨_, rfl⟩
    have hw : wV D A s.heap (mW cy a S) H locs := by rw [hH, hLc]; exact hw
    have hgo : W p l e (rmN (3 + 4 * (d + 1))) s m args below meth c H locs 0 0 (MQ below (eI D cy A (fun _ : Unit => mW cy a S) (fun (r : Int32) (_ : Unit) => Q r)) args s (rmN (3 + 4 * (d + 1))).cells (rmN (3 + 4 * (d + 1))).slots A) (F0 m 0 ls []) := ?hgo
    · rw [hH, hLc] at hgo; exact hgo
    refine lv_iconst (v := 0) hx hb dX9_wins_0 (by decide) ?_
    refine lv_istore (lv' := [(4, .int 0), (0, .ref (a 0)), (1, .int x1), (2, .int x2), (3, .int x3)]) hx hb dX9_wins_1 hl (by decide) rfl (fun ls hl => ?_)
    refine wl1_ind (G := fun (x4_1 : Int32) => ∀ (H : Heap) (locs : List Loc) (ls : Array Slot), wV D A s.heap (mW cy a S) H locs → lv_has ls 5 [(4, .int x4_1), (0, .ref (a 0)), (1, .int x1), (2, .int x2), (3, .int x3)] → W p l e (rmN (3 + 4 * (d + 1))) s m args below meth c H locs 0 0 (MQ below (eI D cy A (fun _ : Unit => mW cy a S) (fun (r : Int32) (_ : Unit) => Q r)) args s (rmN (3 + 4 * (d + 1))).cells (rmN (3 + 4 * (d + 1))).slots A) (F0 m 3 ls [])) ?_ _ hm H locs ls hw (lv_sub hl [0, 1, 2, 3, 4] rfl)
    intro L2 ih2 x4_1 hm H locs ls hw hl
    refine lv_iload hx hb dX9_wins_3 (lv_at hl 0 rfl) ?_
    refine lv_aload_n hx hb dX9_wins_5 rfl (lv_at hl 1 rfl) ?_
    refine aV_I (As := []) (rest := [.int x4_1]) hc hw (c_M_tales hm) lk_X9_105 rfl rfl (rm_ok (by omega) (by omega)) ⟨Nat.le_of_ble_eq_true rfl, Nat.le_of_ble_eq_true rfl⟩ hl.1 rfl (Nat.le_of_ble_eq_true rfl) rfl dX9_wins_6 (fun r3 _ H locs hm hw => ?_)
    have hw : wV D A s.heap (mW cy a S) H locs := hw
    refine lv_icmp_ge (tgt := 76) hx hb dX9_wins_9 (by decide) (fun c24 => ?_) (fun c24 => ?_)
    · have hm := hm.1 c24
      refine lv_iconst (v := 0) hx hb dX9_wins_76 (by decide) ?_
      exact retZ (u := ()) hc hw rfl hm dX9_wins_77
    · have hm := hm.2 c24
      refine lv_iload_n hx hb dX9_wins_12 rfl (lv_at hl 2 rfl) ?_
      refine lv_iload hx hb dX9_wins_13 (lv_at hl 0 rfl) ?_
      refine zS_I (As := [.int x1, .int x4_1]) (rest := []) hc hw (c_M_isIn hm) lk_X9_269 (rm_ok (by omega) (by omega)) ⟨Nat.le_of_ble_eq_true rfl, Nat.le_of_ble_eq_true rfl⟩ hl.1 rfl (Nat.le_of_ble_eq_true rfl) rfl dX9_wins_15 (fun r5 H locs hm hw => ?_)
      refine lv_if_ne (tgt := 70) hx hb dX9_wins_18 (by decide) (fun c23 => ?_) (fun c23 => ?_)
      · have hm := hm.1 c23
        obtain ⟨v7, e_v7⟩ : ∃ z : Int32, z = x4_1 + 1 := ⟨_, rfl⟩
        have hm := hm v7 e_v7
        refine lv_iinc (v := v7) (lv' := [(4, .int v7), (0, .ref (a 0)), (1, .int x1), (2, .int x2), (3, .int x3)]) hx hb dX9_wins_70 hl (k := 0) rfl (by rw [e_v7]; rfl) (by decide) rfl (fun ls hl => ?_)
        refine lv_goto (tgt := 3) hx hb dX9_wins_73 (by decide) ?_
        exact ih2 _ hm _ _ _ hw (lv_sub hl [0, 1, 2, 3, 4] rfl)
      · have hm := hm.2 c23
        refine lv_aload_n hx hb dX9_wins_21 rfl (lv_at hl 1 rfl) ?_
        refine gF (k := 28) hc hw inX9 rfl 0 rfl (by decide) (gm 1087 (by decide +kernel) rfl) rfl dX9_wins_22 ?_
        refine lv_iload hx hb dX9_wins_25 (lv_at hl 0 rfl) ?_
        obtain ⟨c8, hm⟩ := hm
        refine aI hc hw 14 rfl c8 rfl dX9_wins_27 ?_
        refine lv_iload_n hx hb dX9_wins_28 rfl (lv_at hl 4 rfl) ?_
        refine zS_I (As := [.int (S.2 28 (Int32.toNatClampNeg x4_1)), .int x3]) (rest := []) hc hw (c_M_isIn hm) lk_X9_269 (rm_ok (by omega) (by omega)) ⟨Nat.le_of_ble_eq_true rfl, Nat.le_of_ble_eq_true rfl⟩ hl.1 rfl (Nat.le_of_ble_eq_true rfl) rfl dX9_wins_29 (fun r9 H locs hm hw => ?_)
        refine lv_if_eq (tgt := 70) hx hb dX9_wins_32 (by decide) (fun c22 => ?_) (fun c22 => ?_)
        · have hm := hm.1 c22
          obtain ⟨v11, e_v11⟩ : ∃ z : Int32, z = x4_1 + 1 := ⟨_, rfl⟩
          have hm := hm v11 e_v11
          refine lv_iinc (v := v11) (lv' := [(4, .int v11), (0, .ref (a 0)), (1, .int x1), (2, .int x2), (3, .int x3)]) hx hb dX9_wins_70 hl (k := 0) rfl (by rw [e_v11]; rfl) (by decide) rfl (fun ls hl => ?_)
          refine lv_goto (tgt := 3) hx hb dX9_wins_73 (by decide) ?_
          exact ih2 _ hm _ _ _ hw (lv_sub hl [0, 1, 2, 3, 4] rfl)
        · have hm := hm.2 c22
          refine lv_aload_n hx hb dX9_wins_35 rfl (lv_at hl 1 rfl) ?_
          refine lv_iload hx hb dX9_wins_36 (lv_at hl 0 rfl) ?_
          refine lv_iload_n hx hb dX9_wins_38 rfl (lv_at hl 3 rfl) ?_
          refine aV_I (As := [.int x4_1, .int x2]) (rest := []) hc hw (c_M_fits hm) lk_X9_300 rfl rfl (rm_ok (by omega) (by omega)) ⟨Nat.le_of_ble_eq_true rfl, Nat.le_of_ble_eq_true rfl⟩ hl.1 rfl (Nat.le_of_ble_eq_true rfl) rfl dX9_wins_39 (fun r12 _ H locs hm hw => ?_)
          have hw : wV D A s.heap (mW cy a S) H locs := hw
          refine lv_if_eq (tgt := 70) hx hb dX9_wins_42 (by decide) (fun c21 => ?_) (fun c21 => ?_)
          · have hm := hm.1 c21
            obtain ⟨v14, e_v14⟩ : ∃ z : Int32, z = x4_1 + 1 := ⟨_, rfl⟩
            have hm := hm v14 e_v14
            refine lv_iinc (v := v14) (lv' := [(4, .int v14), (0, .ref (a 0)), (1, .int x1), (2, .int x2), (3, .int x3)]) hx hb dX9_wins_70 hl (k := 0) rfl (by rw [e_v14]; rfl) (by decide) rfl (fun ls hl => ?_)
            refine lv_goto (tgt := 3) hx hb dX9_wins_73 (by decide) ?_
            exact ih2 _ hm _ _ _ hw (lv_sub hl [0, 1, 2, 3, 4] rfl)
          · have hm := hm.2 c21
            refine lv_aload_n hx hb dX9_wins_45 rfl (lv_at hl 1 rfl) ?_
            refine lv_iload_n hx hb dX9_wins_46 rfl (lv_at hl 2 rfl) ?_
            refine lv_iconst (v := 1) hx hb dX9_wins_47 (by decide) ?_
            refine lv_iload hx hb dX9_wins_48 (lv_at hl 0 rfl) ?_
            refine lv_ishl hx hb dX9_wins_50 ?_
            refine lv_ior hx hb dX9_wins_51 ?_
            refine lv_aload_n hx hb dX9_wins_52 rfl (lv_at hl 1 rfl) ?_
            refine lv_iload hx hb dX9_wins_53 (lv_at hl 0 rfl) ?_
            refine lv_iload_n hx hb dX9_wins_55 rfl (lv_at hl 3 rfl) ?_
            refine aV_I (As := [.int x4_1, .int x2]) (rest := [.int (x1 ||| ((1 : Int32) <<< (x4_1 &&& 31))), .ref (a 0)]) hc hw (c_M_yearBehind hm) lk_X9_297 rfl rfl (rm_ok (by omega) (by omega)) ⟨Nat.le_of_ble_eq_true rfl, Nat.le_of_ble_eq_true rfl⟩ hl.1 rfl (Nat.le_of_ble_eq_true rfl) rfl dX9_wins_56 (fun r15 _ H locs hm hw => ?_)
            have hw : wV D A s.heap (mW cy a S) H locs := hw
            refine lv_iconst (v := 1) hx hb dX9_wins_59 (by decide) ?_
            refine lv_iload_n hx hb dX9_wins_60 rfl (lv_at hl 4 rfl) ?_
            refine lv_isub hx hb dX9_wins_61 ?_
            refine aV_I (As := [.int (x1 ||| ((1 : Int32) <<< (x4_1 &&& 31))), .int r15, .int (1 - x3)]) (rest := []) hc hw (c_M_wins d _ _ _ _ _ hm) lk_X9_351 rfl rfl (rm_ok (by omega) (by omega)) ⟨Nat.le_of_ble_eq_true rfl, Nat.le_of_ble_eq_true rfl⟩ hl.1 rfl (Nat.le_of_ble_eq_true rfl) rfl dX9_wins_62 (fun r17 _ H locs hm hw => ?_)
            have hw : wV D A s.heap (mW cy a S) H locs := hw
            refine lv_if_ne (tgt := 70) hx hb dX9_wins_65 (by decide) (fun c20 => ?_) (fun c20 => ?_)
            · have hm := hm.1 c20
              obtain ⟨v19, e_v19⟩ : ∃ z : Int32, z = x4_1 + 1 := ⟨_, rfl⟩
              have hm := hm v19 e_v19
              refine lv_iinc (v := v19) (lv' := [(4, .int v19), (0, .ref (a 0)), (1, .int x1), (2, .int x2), (3, .int x3)]) hx hb dX9_wins_70 hl (k := 0) rfl (by rw [e_v19]; rfl) (by decide) rfl (fun ls hl => ?_)
              refine lv_goto (tgt := 3) hx hb dX9_wins_73 (by decide) ?_
              exact ih2 _ hm _ _ _ hw (lv_sub hl [0, 1, 2, 3, 4] rfl)
            · have hm := hm.2 c20
              refine lv_iconst (v := 1) hx hb dX9_wins_68 (by decide) ?_
              exact retZ (u := ()) hc hw rfl hm dX9_wins_69
set_option maxHeartbeats 4000000 in
set_option maxRecDepth 100000 in
theorem c_M_duel {l : Launch} {D : va_G} {cy : Nat → ClassId} {a : Nat → Nat} {S : Ob} {x1 : Int32} {Q : Int32 → Ob → Prop} (hm : wM_duel S x1 Q) : CtI l yX9_duel cX9_duel 6 (some .int) (rmN 103) D cy [.ref (a 0), .int x1] (mW cy a S) (mW cy a) Q := by
  refine CtI.ofW (by decide) (Nat.le_of_ble_eq_true rfl) ?_
  intro p e s m args below meth c A ls hc hnm hw hl
  have hx := hc.1.1
  have hb := hc.1.2.1
  have hown := hc.1.2.2.2.1
  have hts := hc.1.2.2.2.2
  have hl : lv_has ls 6 [(0, .ref (a 0)), (1, .int x1)] := hl
  obtain ⟨H, hH⟩ : ∃ z, z = s.heap := ⟨_, rfl⟩
  obtain ⟨locs, hLc⟩ : ∃ z : List Loc, z = [] := ⟨_, rfl⟩
  have hw : wV D A s.heap (mW cy a S) H locs := by rw [hH, hLc]; exact hw
  have hgo : W p l e (rmN 103) s m args below meth c H locs 0 0 (MQ below (eI D cy A (mW cy a) Q) args s (rmN 103).cells (rmN 103).slots A) (F0 m 0 ls []) := ?hgo
  · rw [hH, hLc] at hgo; exact hgo
  refine lv_iload_n hx hb dX9_duel_0 rfl (lv_at hl 1 rfl) ?_
  refine lv_iconst (v := 0) hx hb dX9_duel_1 (by decide) ?_
  refine lv_iconst (v := 1) hx hb dX9_duel_2 (by decide) ?_
  refine zS_I (As := [.int x1, .int 0, .int 1]) (rest := []) hc hw (c_M_lies hm) lk_X9_94 ⟨Nat.le_of_ble_eq_true rfl, Nat.le_of_ble_eq_true rfl⟩ ⟨Nat.le_of_ble_eq_true rfl, Nat.le_of_ble_eq_true rfl⟩ hl.1 rfl (Nat.le_of_ble_eq_true rfl) rfl dX9_duel_3 (fun r1 H locs hm hw => ?_)
  refine lv_if_eq (tgt := 27) hx hb dX9_duel_6 (by decide) (fun c48 => ?_) (fun c48 => ?_)
  · have hm := hm.1 c48
    refine lv_iconst (v := (-1)) hx hb dX9_duel_27 (by decide) ?_
    exact retI (u := S) hc hw hm dX9_duel_28
  · have hm := hm.2 c48
    refine lv_aload_n hx hb dX9_duel_9 rfl (lv_at hl 0 rfl) ?_
    refine aV_I (As := []) (rest := []) hc hw (c_M_tales hm) lk_X9_105 rfl rfl ⟨Nat.le_of_ble_eq_true rfl, Nat.le_of_ble_eq_true rfl⟩ ⟨Nat.le_of_ble_eq_true rfl, Nat.le_of_ble_eq_true rfl⟩ hl.1 rfl (Nat.le_of_ble_eq_true rfl) rfl dX9_duel_10 (fun r3 _ H locs hm hw => ?_)
    have hw : wV D A s.heap (mW cy a S) H locs := hw
    refine lv_aload_n hx hb dX9_duel_13 rfl (lv_at hl 0 rfl) ?_
    refine gF (k := 3) hc hw inX9 rfl 0 rfl (by decide) (gm 1062 (by decide +kernel) rfl) rfl dX9_duel_14 ?_
    refine lv_sipush (v := 134) hx hb dX9_duel_17 (by decide) ?_
    refine aI hc hw 2 rfl (vin (by decide)) (j := 134) (by decide) dX9_duel_20 ?_
    refine lv_isub hx hb dX9_duel_21 ?_
    refine lv_bipush (v := 7) hx hb dX9_duel_22 (by decide) ?_
    refine lv_icmp_le (tgt := 29) hx hb dX9_duel_24 (by decide) (fun c47 => ?_) (fun c47 => ?_)
    · have hm := hm.1 c47
      refine lv_aload_n hx hb dX9_duel_29 rfl (lv_at hl 0 rfl) ?_
      refine aV_V (As := []) (rest := []) hc hw (c_M_looks hm) lk_X9_279 rfl rfl ⟨Nat.le_of_ble_eq_true rfl, Nat.le_of_ble_eq_true rfl⟩ ⟨Nat.le_of_ble_eq_true rfl, Nat.le_of_ble_eq_true rfl⟩ hl.1 rfl (Nat.le_of_ble_eq_true rfl) rfl dX9_duel_30 (fun S5 H locs hm hw => ?_)
      have hw : wV D A s.heap (mW cy a S5) H locs := hw
      refine lv_aload_n hx hb dX9_duel_33 rfl (lv_at hl 0 rfl) ?_
      refine aV_I (As := []) (rest := []) hc hw (c_M_lastTeller hm) lk_X9_309 rfl rfl ⟨Nat.le_of_ble_eq_true rfl, Nat.le_of_ble_eq_true rfl⟩ ⟨Nat.le_of_ble_eq_true rfl, Nat.le_of_ble_eq_true rfl⟩ hl.1 rfl (Nat.le_of_ble_eq_true rfl) rfl dX9_duel_34 (fun r7 _ H locs hm hw => ?_)
      have hw : wV D A s.heap (mW cy a S5) H locs := hw
      obtain ⟨J10, eJ10, hm⟩ := jn_e hm
      have hJ10 : ∀ (t9 : Int32) (_ : J10 t9) (H : Heap) (locs : List Loc) (ls : Array Slot), wV D A s.heap (mW cy a S5) H locs → lv_has ls 6 [(0, .ref (a 0)), (1, .int x1)] → W p l e (rmN 103) s m args below meth c H locs 0 0 (MQ below (eI D cy A (mW cy a) Q) args s (rmN 103).cells (rmN 103).slots A) (F0 m 45 ls [.int t9]) := by
        intro t9 hm H locs ls hw hl
        rw [eJ10] at hm
        refine lv_istore_n (lv' := [(2, .int t9), (0, .ref (a 0)), (1, .int x1)]) hx hb dX9_duel_45 rfl hl (by decide) rfl (fun ls hl => ?_)
        refine lv_aload_n hx hb dX9_duel_46 rfl (lv_at hl 1 rfl) ?_
        refine aV_I (As := []) (rest := []) hc hw (c_M_toldSet hm) lk_X9_303 rfl rfl ⟨Nat.le_of_ble_eq_true rfl, Nat.le_of_ble_eq_true rfl⟩ ⟨Nat.le_of_ble_eq_true rfl, Nat.le_of_ble_eq_true rfl⟩ hl.1 rfl (Nat.le_of_ble_eq_true rfl) rfl dX9_duel_47 (fun r11 _ H locs hm hw => ?_)
        have hw : wV D A s.heap (mW cy a S5) H locs := hw
        refine lv_istore_n (lv' := [(3, .int r11), (2, .int t9), (0, .ref (a 0)), (1, .int x1)]) hx hb dX9_duel_50 rfl hl (by decide) rfl (fun ls hl => ?_)
        refine lv_iconst (v := (-1)) hx hb dX9_duel_51 (by decide) ?_
        refine lv_istore (lv' := [(4, .int (-1)), (3, .int r11), (2, .int t9), (0, .ref (a 0)), (1, .int x1)]) hx hb dX9_duel_52 hl (by decide) rfl (fun ls hl => ?_)
        refine lv_aload_n hx hb dX9_duel_54 rfl (lv_at hl 3 rfl) ?_
        refine aV_I (As := []) (rest := []) hc hw (c_M_tales hm) lk_X9_105 rfl rfl ⟨Nat.le_of_ble_eq_true rfl, Nat.le_of_ble_eq_true rfl⟩ ⟨Nat.le_of_ble_eq_true rfl, Nat.le_of_ble_eq_true rfl⟩ hl.1 rfl (Nat.le_of_ble_eq_true rfl) rfl dX9_duel_55 (fun r13 _ H locs hm hw => ?_)
        have hw : wV D A s.heap (mW cy a S5) H locs := hw
        refine lv_iconst (v := 1) hx hb dX9_duel_58 (by decide) ?_
        refine lv_isub hx hb dX9_duel_59 ?_
        refine lv_topi (fun v15 e_v15 => ?_)
        have hm := hm v15 e_v15
        refine lv_istore (lv' := [(5, .int v15), (4, .int (-1)), (3, .int r11), (2, .int t9), (0, .ref (a 0)), (1, .int x1)]) hx hb dX9_duel_60 hl (by decide) rfl (fun ls hl => ?_)
        refine wl2_ind (G := fun (x5_16 : Int32) (x4_17 : Int32) => ∀ (H : Heap) (locs : List Loc) (ls : Array Slot), wV D A s.heap (mW cy a S5) H locs → lv_has ls 6 [(5, .int x5_16), (4, .int x4_17), (3, .int r11), (2, .int t9), (0, .ref (a 0)), (1, .int x1)] → W p l e (rmN 103) s m args below meth c H locs 0 0 (MQ below (eI D cy A (mW cy a) Q) args s (rmN 103).cells (rmN 103).slots A) (F0 m 62 ls [])) ?_ _ _ hm H locs ls hw (lv_sub hl [0, 1, 2, 3, 4, 5] rfl)
        intro L18 ih18 x5_16 x4_17 hm H locs ls hw hl
        refine lv_iload hx hb dX9_duel_62 (lv_at hl 0 rfl) ?_
        refine lv_if_lt (tgt := 139) hx hb dX9_duel_64 (by decide) (fun c45 => ?_) (fun c45 => ?_)
        · have hm := hm.1 c45
          refine lv_iload_n hx hb dX9_duel_139 rfl (lv_at hl 5 rfl) ?_
          refine lv_iconst (v := 1) hx hb dX9_duel_140 (by decide) ?_
          refine lv_icmp_ne (tgt := 149) hx hb dX9_duel_141 (by decide) (fun c20 => ?_) (fun c20 => ?_)
          · have hm := hm.1 c20
            refine lv_iload hx hb dX9_duel_149 (lv_at hl 1 rfl) ?_
            refine lv_iconst (v := (-1)) hx hb dX9_duel_151 (by decide) ?_
            refine lv_icmp_ne (tgt := 161) hx hb dX9_duel_152 (by decide) (fun c19 => ?_) (fun c19 => ?_)
            · have hm := hm.1 c19
              refine lv_iload_n hx hb dX9_duel_161 rfl (lv_at hl 3 rfl) ?_
              exact retI (u := S5) hc hw hm dX9_duel_162
            · have hm := hm.2 c19
              refine lv_iconst (v := 1) hx hb dX9_duel_155 (by decide) ?_
              refine lv_iload_n hx hb dX9_duel_156 rfl (lv_at hl 3 rfl) ?_
              refine lv_isub hx hb dX9_duel_157 ?_
              refine lv_goto (tgt := 162) hx hb dX9_duel_158 (by decide) ?_
              exact retI (u := S5) hc hw hm dX9_duel_162
          · have hm := hm.2 c20
            refine lv_iload hx hb dX9_duel_144 (lv_at hl 1 rfl) ?_
            refine lv_goto (tgt := 162) hx hb dX9_duel_146 (by decide) ?_
            exact retI (u := S5) hc hw hm dX9_duel_162
        · have hm := hm.2 c45
          refine lv_iload_n hx hb dX9_duel_67 rfl (lv_at hl 2 rfl) ?_
          refine lv_iload hx hb dX9_duel_68 (lv_at hl 0 rfl) ?_
          refine zS_I (As := [.int r11, .int x5_16]) (rest := []) hc hw (c_M_isIn hm) lk_X9_269 ⟨Nat.le_of_ble_eq_true rfl, Nat.le_of_ble_eq_true rfl⟩ ⟨Nat.le_of_ble_eq_true rfl, Nat.le_of_ble_eq_true rfl⟩ hl.1 rfl (Nat.le_of_ble_eq_true rfl) rfl dX9_duel_70 (fun r21 H locs hm hw => ?_)
          refine lv_if_ne (tgt := 133) hx hb dX9_duel_73 (by decide) (fun c44 => ?_) (fun c44 => ?_)
          · have hm := hm.1 c44
            obtain ⟨v23, e_v23⟩ : ∃ z : Int32, z = x5_16 + (-1) := ⟨_, rfl⟩
            have hm := hm v23 e_v23
            refine lv_iinc (v := v23) (lv' := [(5, .int v23), (4, .int x4_17), (3, .int r11), (2, .int t9), (0, .ref (a 0)), (1, .int x1)]) hx hb dX9_duel_133 hl (k := 0) rfl (by rw [e_v23]; rfl) (by decide) rfl (fun ls hl => ?_)
            refine lv_goto (tgt := 62) hx hb dX9_duel_136 (by decide) ?_
            exact ih18 _ _ hm _ _ _ hw (lv_sub hl [0, 1, 2, 3, 4, 5] rfl)
          · have hm := hm.2 c44
            refine lv_aload_n hx hb dX9_duel_76 rfl (lv_at hl 4 rfl) ?_
            refine gF (k := 28) hc hw inX9 rfl 0 rfl (by decide) (gm 1087 (by decide +kernel) rfl) rfl dX9_duel_77 ?_
            refine lv_iload hx hb dX9_duel_80 (lv_at hl 0 rfl) ?_
            obtain ⟨c24, hm⟩ := hm
            refine aI hc hw 14 rfl c24 rfl dX9_duel_82 ?_
            refine lv_iload_n hx hb dX9_duel_83 rfl (lv_at hl 3 rfl) ?_
            refine zS_I (As := [.int (S5.2 28 (Int32.toNatClampNeg x5_16)), .int t9]) (rest := []) hc hw (c_M_isIn hm) lk_X9_269 ⟨Nat.le_of_ble_eq_true rfl, Nat.le_of_ble_eq_true rfl⟩ ⟨Nat.le_of_ble_eq_true rfl, Nat.le_of_ble_eq_true rfl⟩ hl.1 rfl (Nat.le_of_ble_eq_true rfl) rfl dX9_duel_84 (fun r25 H locs hm hw => ?_)
            refine lv_if_eq (tgt := 133) hx hb dX9_duel_87 (by decide) (fun c43 => ?_) (fun c43 => ?_)
            · have hm := hm.1 c43
              obtain ⟨v27, e_v27⟩ : ∃ z : Int32, z = x5_16 + (-1) := ⟨_, rfl⟩
              have hm := hm v27 e_v27
              refine lv_iinc (v := v27) (lv' := [(5, .int v27), (4, .int x4_17), (3, .int r11), (2, .int t9), (0, .ref (a 0)), (1, .int x1)]) hx hb dX9_duel_133 hl (k := 0) rfl (by rw [e_v27]; rfl) (by decide) rfl (fun ls hl => ?_)
              refine lv_goto (tgt := 62) hx hb dX9_duel_136 (by decide) ?_
              exact ih18 _ _ hm _ _ _ hw (lv_sub hl [0, 1, 2, 3, 4, 5] rfl)
            · have hm := hm.2 c43
              refine lv_aload_n hx hb dX9_duel_90 rfl (lv_at hl 4 rfl) ?_
              refine lv_iload hx hb dX9_duel_91 (lv_at hl 0 rfl) ?_
              refine lv_aload_n hx hb dX9_duel_93 rfl (lv_at hl 4 rfl) ?_
              refine aV_I (As := []) (rest := [.int x5_16, .ref (a 0)]) hc hw (c_M_lastYear hm) lk_X9_306 rfl rfl ⟨Nat.le_of_ble_eq_true rfl, Nat.le_of_ble_eq_true rfl⟩ ⟨Nat.le_of_ble_eq_true rfl, Nat.le_of_ble_eq_true rfl⟩ hl.1 rfl (Nat.le_of_ble_eq_true rfl) rfl dX9_duel_94 (fun r28 _ H locs hm hw => ?_)
              have hw : wV D A s.heap (mW cy a S5) H locs := hw
              refine aV_I (As := [.int x5_16, .int r28]) (rest := []) hc hw (c_M_fits hm) lk_X9_300 rfl rfl ⟨Nat.le_of_ble_eq_true rfl, Nat.le_of_ble_eq_true rfl⟩ ⟨Nat.le_of_ble_eq_true rfl, Nat.le_of_ble_eq_true rfl⟩ hl.1 rfl (Nat.le_of_ble_eq_true rfl) rfl dX9_duel_97 (fun r30 _ H locs hm hw => ?_)
              have hw : wV D A s.heap (mW cy a S5) H locs := hw
              refine lv_if_eq (tgt := 133) hx hb dX9_duel_100 (by decide) (fun c42 => ?_) (fun c42 => ?_)
              · have hm := hm.1 c42
                obtain ⟨v32, e_v32⟩ : ∃ z : Int32, z = x5_16 + (-1) := ⟨_, rfl⟩
                have hm := hm v32 e_v32
                refine lv_iinc (v := v32) (lv' := [(5, .int v32), (4, .int x4_17), (3, .int r11), (2, .int t9), (0, .ref (a 0)), (1, .int x1)]) hx hb dX9_duel_133 hl (k := 0) rfl (by rw [e_v32]; rfl) (by decide) rfl (fun ls hl => ?_)
                refine lv_goto (tgt := 62) hx hb dX9_duel_136 (by decide) ?_
                exact ih18 _ _ hm _ _ _ hw (lv_sub hl [0, 1, 2, 3, 4, 5] rfl)
              · have hm := hm.2 c42
                refine lv_aload_n hx hb dX9_duel_103 rfl (lv_at hl 4 rfl) ?_
                refine lv_iload_n hx hb dX9_duel_104 rfl (lv_at hl 2 rfl) ?_
                refine lv_iconst (v := 1) hx hb dX9_duel_105 (by decide) ?_
                refine lv_iload hx hb dX9_duel_106 (lv_at hl 0 rfl) ?_
                refine lv_ishl hx hb dX9_duel_108 ?_
                refine lv_ior hx hb dX9_duel_109 ?_
                refine lv_aload_n hx hb dX9_duel_110 rfl (lv_at hl 4 rfl) ?_
                refine lv_iload hx hb dX9_duel_111 (lv_at hl 0 rfl) ?_
                refine lv_aload_n hx hb dX9_duel_113 rfl (lv_at hl 4 rfl) ?_
                refine aV_I (As := []) (rest := [.int x5_16, .ref (a 0), .int (r11 ||| ((1 : Int32) <<< (x5_16 &&& 31))), .ref (a 0)]) hc hw (c_M_lastYear hm) lk_X9_306 rfl rfl ⟨Nat.le_of_ble_eq_true rfl, Nat.le_of_ble_eq_true rfl⟩ ⟨Nat.le_of_ble_eq_true rfl, Nat.le_of_ble_eq_true rfl⟩ hl.1 rfl (Nat.le_of_ble_eq_true rfl) rfl dX9_duel_114 (fun r33 _ H locs hm hw => ?_)
                have hw : wV D A s.heap (mW cy a S5) H locs := hw
                refine aV_I (As := [.int x5_16, .int r33]) (rest := [.int (r11 ||| ((1 : Int32) <<< (x5_16 &&& 31))), .ref (a 0)]) hc hw (c_M_yearBehind hm) lk_X9_297 rfl rfl ⟨Nat.le_of_ble_eq_true rfl, Nat.le_of_ble_eq_true rfl⟩ ⟨Nat.le_of_ble_eq_true rfl, Nat.le_of_ble_eq_true rfl⟩ hl.1 rfl (Nat.le_of_ble_eq_true rfl) rfl dX9_duel_117 (fun r35 _ H locs hm hw => ?_)
                have hw : wV D A s.heap (mW cy a S5) H locs := hw
                refine lv_iconst (v := 1) hx hb dX9_duel_120 (by decide) ?_
                refine lv_iload_n hx hb dX9_duel_121 rfl (lv_at hl 3 rfl) ?_
                refine lv_isub hx hb dX9_duel_122 ?_
                refine aV_I (As := [.int (r11 ||| ((1 : Int32) <<< (x5_16 &&& 31))), .int r35, .int (1 - t9)]) (rest := []) hc hw (c_M_wins 12 _ _ _ _ _ hm) lk_X9_351 rfl rfl (rm_ok (by omega) (by omega)) ⟨Nat.le_of_ble_eq_true rfl, Nat.le_of_ble_eq_true rfl⟩ hl.1 rfl (Nat.le_of_ble_eq_true rfl) rfl dX9_duel_123 (fun r37 _ H locs hm hw => ?_)
                have hw : wV D A s.heap (mW cy a S5) H locs := hw
                refine lv_if_ne (tgt := 133) hx hb dX9_duel_126 (by decide) (fun c41 => ?_) (fun c41 => ?_)
                · have hm := hm.1 c41
                  obtain ⟨v39, e_v39⟩ : ∃ z : Int32, z = x5_16 + (-1) := ⟨_, rfl⟩
                  have hm := hm v39 e_v39
                  refine lv_iinc (v := v39) (lv' := [(5, .int v39), (4, .int x4_17), (3, .int r11), (2, .int t9), (0, .ref (a 0)), (1, .int x1)]) hx hb dX9_duel_133 hl (k := 0) rfl (by rw [e_v39]; rfl) (by decide) rfl (fun ls hl => ?_)
                  refine lv_goto (tgt := 62) hx hb dX9_duel_136 (by decide) ?_
                  exact ih18 _ _ hm _ _ _ hw (lv_sub hl [0, 1, 2, 3, 4, 5] rfl)
                · have hm := hm.2 c41
                  refine lv_iload hx hb dX9_duel_129 (lv_at hl 0 rfl) ?_
                  refine lv_istore (lv' := [(4, .int x5_16), (5, .int x5_16), (3, .int r11), (2, .int t9), (0, .ref (a 0)), (1, .int x1)]) hx hb dX9_duel_131 hl (by decide) rfl (fun ls hl => ?_)
                  obtain ⟨v40, e_v40⟩ : ∃ z : Int32, z = x5_16 + (-1) := ⟨_, rfl⟩
                  have hm := hm v40 e_v40
                  refine lv_iinc (v := v40) (lv' := [(5, .int v40), (4, .int x5_16), (3, .int r11), (2, .int t9), (0, .ref (a 0)), (1, .int x1)]) hx hb dX9_duel_133 hl (k := 1) rfl (by rw [e_v40]; rfl) (by decide) rfl (fun ls hl => ?_)
                  refine lv_goto (tgt := 62) hx hb dX9_duel_136 (by decide) ?_
                  exact ih18 _ _ hm _ _ _ hw (lv_sub hl [0, 1, 2, 3, 4, 5] rfl)
      refine lv_if_ne (tgt := 44) hx hb dX9_duel_37 (by decide) (fun c46 => ?_) (fun c46 => ?_)
      · have hm := hm.1 c46
        refine lv_iconst (v := 0) hx hb dX9_duel_44 (by decide) ?_
        exact hJ10 _ hm _ _ _ hw (lv_sub hl [0, 1] rfl)
      · have hm := hm.2 c46
        refine lv_iconst (v := 1) hx hb dX9_duel_40 (by decide) ?_
        refine lv_goto (tgt := 45) hx hb dX9_duel_41 (by decide) ?_
        exact hJ10 _ hm _ _ _ hw (lv_sub hl [0, 1] rfl)
    · have hm := hm.2 c47
      refine lv_iconst (v := (-1)) hx hb dX9_duel_27 (by decide) ?_
      exact retI (u := S) hc hw hm dX9_duel_28
