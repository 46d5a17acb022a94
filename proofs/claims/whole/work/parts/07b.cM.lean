set_option maxHeartbeats 4000000 in
set_option maxRecDepth 100000 in
theorem c_M_end {l : Launch} {D : va_G} {cy : Nat → ClassId} {a : Nat → Nat} {S : Ob} {x1 : Int32} {Q : Int32 → Ob → Prop} (hm : wM_end S x1 Q) : CtI l yX9_end cX9_end 2 (some .int) (rmN 1) D cy [.ref (a 0), .int x1] (mW cy a S) (mW cy a) Q := by
  refine CtI.ofW (by decide) (Nat.le_of_ble_eq_true rfl) ?_
  intro p e s m args below meth c A ls hc hnm hw hl
  have hx := hc.1.1
  have hb := hc.1.2.1
  have hown := hc.1.2.2.2.1
  have hts := hc.1.2.2.2.2
  have hl : lv_has ls 2 [(0, .ref (a 0)), (1, .int x1)] := hl
  obtain ⟨H, hH⟩ : ∃ z, z = s.heap := ⟨_, rfl⟩
  obtain ⟨locs, hLc⟩ : ∃ z : List Loc, z = [] := ⟨_, rfl⟩
  have hw : wV D A s.heap (mW cy a S) H locs := by rw [hH, hLc]; exact hw
  have hgo : W p l e (rmN 1) s m args below meth c H locs 0 0 (MQ below (eI D cy A (mW cy a) Q) args s (rmN 1).cells (rmN 1).slots A) (F0 m 0 ls []) := ?hgo
  · rw [hH, hLc] at hgo; exact hgo
  refine lv_iload_n hx hb dX9_end_0 rfl (lv_at hl 1 rfl) ?_
  refine lv_iconst (v := 0) hx hb dX9_end_1 (by decide) ?_
  refine lv_aload_n hx hb dX9_end_2 rfl (lv_at hl 0 rfl) ?_
  refine gF (k := 10) hc hw inX9 rfl 0 rfl (by decide) (gm 1069 (by decide +kernel) rfl) rfl dX9_end_3 ?_
  refine zS_I (As := [.int x1, .int 0, .int (S.1 10)]) (rest := []) hc hw (c_M_lies hm) lk_X9_94 ⟨Nat.le_of_ble_eq_true rfl, Nat.le_of_ble_eq_true rfl⟩ ⟨Nat.le_of_ble_eq_true rfl, Nat.le_of_ble_eq_true rfl⟩ hl.1 rfl (Nat.le_of_ble_eq_true rfl) rfl dX9_end_6 (fun r1 H locs hm hw => ?_)
  refine lv_if_ne (tgt := 14) hx hb dX9_end_9 (by decide) (fun c4 => ?_) (fun c4 => ?_)
  · have hm := hm.1 c4
    refine lv_aload_n hx hb dX9_end_14 rfl (lv_at hl 0 rfl) ?_
    refine lv_iload_n hx hb dX9_end_15 rfl (lv_at hl 1 rfl) ?_
    refine pF (k := 10) (ty := .int) hc hw inX9 tyX9_ok nmX9 rfl 0 rfl (by decide) (gm 1069 (by decide +kernel) rfl) rfl (by decide +kernel) rfl rfl (Nat.le_of_ble_eq_true rfl) dX9_end_16 (fun H locs hw => ?_)
    obtain ⟨S3, e_S3⟩ : ∃ z : Ob, z = uS S 10 x1 := ⟨_, rfl⟩
    have hm := hm S3 e_S3
    have hw : wV D A s.heap (mW cy a S3) H locs := by rw [e_S3]; exact hw
    refine lv_iload_n hx hb dX9_end_19 rfl (lv_at hl 1 rfl) ?_
    exact retI (u := S3) hc hw hm dX9_end_20
  · have hm := hm.2 c4
    refine lv_iconst (v := (-1)) hx hb dX9_end_12 (by decide) ?_
    exact retI (u := S) hc hw hm dX9_end_13
set_option maxHeartbeats 4000000 in
set_option maxRecDepth 100000 in
theorem c_M_isSmall {l : Launch} {D : va_G} {cy : Nat → ClassId} {x0 : Int32} {Q : Int32 → Prop} (hm : wM_isSmall x0 Q) : CtI l yX9_isSmall cX9_isSmall 1 (some .boolean) (rmN 0) D cy [.int x0] [] (fun _ : Unit => ([] : va_W)) (fun (r : Int32) (_ : Unit) => Q r) := by
  refine CtI.ofW (by decide) (Nat.le_of_ble_eq_true rfl) ?_
  intro p e s m args below meth c A ls hc hnm hw hl
  have hx := hc.1.1
  have hb := hc.1.2.1
  have hown := hc.1.2.2.2.1
  have hts := hc.1.2.2.2.2
  have hl : lv_has ls 1 [(0, .int x0)] := hl
  obtain ⟨H, hH⟩ : ∃ z, z = s.heap := ⟨_, rfl⟩
  obtain ⟨locs, hLc⟩ : ∃ z : List Loc, z = [] := ⟨_, rfl⟩
  have hw : wV D A s.heap ([] : va_W) H locs := by rw [hH, hLc]; exact hw
  have hgo : W p l e (rmN 0) s m args below meth c H locs 0 0 (MQ below (eI D cy A (fun _ : Unit => ([] : va_W)) (fun (r : Int32) (_ : Unit) => Q r)) args s (rmN 0).cells (rmN 0).slots A) (F0 m 0 ls []) := ?hgo
  · rw [hH, hLc] at hgo; exact hgo
  refine lv_iload_n hx hb dX9_isSmall_0 rfl (lv_at hl 0 rfl) ?_
  refine lv_bipush (v := 97) hx hb dX9_isSmall_1 (by decide) ?_
  refine lv_icmp_lt (tgt := 16) hx hb dX9_isSmall_3 (by decide) (fun c2 => ?_) (fun c2 => ?_)
  · have hm := hm.1 c2
    refine lv_iconst (v := 0) hx hb dX9_isSmall_16 (by decide) ?_
    exact retZ (u := ()) hc hw rfl hm dX9_isSmall_17
  · have hm := hm.2 c2
    refine lv_iload_n hx hb dX9_isSmall_6 rfl (lv_at hl 0 rfl) ?_
    refine lv_bipush (v := 122) hx hb dX9_isSmall_7 (by decide) ?_
    refine lv_icmp_gt (tgt := 16) hx hb dX9_isSmall_9 (by decide) (fun c1 => ?_) (fun c1 => ?_)
    · have hm := hm.1 c1
      refine lv_iconst (v := 0) hx hb dX9_isSmall_16 (by decide) ?_
      exact retZ (u := ()) hc hw rfl hm dX9_isSmall_17
    · have hm := hm.2 c1
      refine lv_iconst (v := 1) hx hb dX9_isSmall_12 (by decide) ?_
      refine lv_goto (tgt := 17) hx hb dX9_isSmall_13 (by decide) ?_
      exact retZ (u := ()) hc hw rfl hm dX9_isSmall_17
set_option maxHeartbeats 4000000 in
set_option maxRecDepth 100000 in
theorem c_M_isDigit {l : Launch} {D : va_G} {cy : Nat → ClassId} {x0 : Int32} {Q : Int32 → Prop} (hm : wM_isDigit x0 Q) : CtI l yX9_isDigit cX9_isDigit 1 (some .boolean) (rmN 0) D cy [.int x0] [] (fun _ : Unit => ([] : va_W)) (fun (r : Int32) (_ : Unit) => Q r) := by
  refine CtI.ofW (by decide) (Nat.le_of_ble_eq_true rfl) ?_
  intro p e s m args below meth c A ls hc hnm hw hl
  have hx := hc.1.1
  have hb := hc.1.2.1
  have hown := hc.1.2.2.2.1
  have hts := hc.1.2.2.2.2
  have hl : lv_has ls 1 [(0, .int x0)] := hl
  obtain ⟨H, hH⟩ : ∃ z, z = s.heap := ⟨_, rfl⟩
  obtain ⟨locs, hLc⟩ : ∃ z : List Loc, z = [] := ⟨_, rfl⟩
  have hw : wV D A s.heap ([] : va_W) H locs := by rw [hH, hLc]; exact hw
  have hgo : W p l e (rmN 0) s m args below meth c H locs 0 0 (MQ below (eI D cy A (fun _ : Unit => ([] : va_W)) (fun (r : Int32) (_ : Unit) => Q r)) args s (rmN 0).cells (rmN 0).slots A) (F0 m 0 ls []) := ?hgo
  · rw [hH, hLc] at hgo; exact hgo
  refine lv_iload_n hx hb dX9_isDigit_0 rfl (lv_at hl 0 rfl) ?_
  refine lv_bipush (v := 48) hx hb dX9_isDigit_1 (by decide) ?_
  refine lv_icmp_lt (tgt := 16) hx hb dX9_isDigit_3 (by decide) (fun c2 => ?_) (fun c2 => ?_)
  · have hm := hm.1 c2
    refine lv_iconst (v := 0) hx hb dX9_isDigit_16 (by decide) ?_
    exact retZ (u := ()) hc hw rfl hm dX9_isDigit_17
  · have hm := hm.2 c2
    refine lv_iload_n hx hb dX9_isDigit_6 rfl (lv_at hl 0 rfl) ?_
    refine lv_bipush (v := 57) hx hb dX9_isDigit_7 (by decide) ?_
    refine lv_icmp_gt (tgt := 16) hx hb dX9_isDigit_9 (by decide) (fun c1 => ?_) (fun c1 => ?_)
    · have hm := hm.1 c1
      refine lv_iconst (v := 0) hx hb dX9_isDigit_16 (by decide) ?_
      exact retZ (u := ()) hc hw rfl hm dX9_isDigit_17
    · have hm := hm.2 c1
      refine lv_iconst (v := 1) hx hb dX9_isDigit_12 (by decide) ?_
      refine lv_goto (tgt := 17) hx hb dX9_isDigit_13 (by decide) ?_
      exact retZ (u := ()) hc hw rfl hm dX9_isDigit_17
set_option maxHeartbeats 4000000 in
set_option maxRecDepth 100000 in
theorem c_M_wordOf {l : Launch} {D : va_G} {cy : Nat → ClassId} {a : Nat → Nat} {S : Ob} {x1 : Int32} {x2 : Int32} {Q : Int32 → Prop} (hm : wM_wordOf S x1 x2 Q) : CtI l yX9_wordOf cX9_wordOf 8 (some .int) (rmN 0) D cy [.ref (a 0), .int x1, .int x2] (mW cy a S) (fun _ : Unit => mW cy a S) (fun (r : Int32) (_ : Unit) => Q r) := by
  refine CtI.ofW (by decide) (Nat.le_of_ble_eq_true rfl) ?_
  intro p e s m args below meth c A ls hc hnm hw hl
  have hx := hc.1.1
  have hb := hc.1.2.1
  have hown := hc.1.2.2.2.1
  have hts := hc.1.2.2.2.2
  have hl : lv_has ls 8 [(0, .ref (a 0)), (1, .int x1), (2, .int x2)] := hl
  obtain ⟨H, hH⟩ : ∃ z, z = s.heap := ⟨_, rfl⟩
  obtain ⟨locs, hLc⟩ : ∃ z : List Loc, z = [] := ⟨_, rfl⟩
  have hw : wV D A s.heap (mW cy a S) H locs := by rw [hH, hLc]; exact hw
  have hgo : W p l e (rmN 0) s m args below meth c H locs 0 0 (MQ below (eI D cy A (fun _ : Unit => mW cy a S) (fun (r : Int32) (_ : Unit) => Q r)) args s (rmN 0).cells (rmN 0).slots A) (F0 m 0 ls []) := ?hgo
  · rw [hH, hLc] at hgo; exact hgo
  refine lv_iconst (v := 1) hx hb dX9_wordOf_0 (by decide) ?_
  refine lv_istore_n (lv' := [(3, .int 1), (0, .ref (a 0)), (1, .int x1), (2, .int x2)]) hx hb dX9_wordOf_1 rfl hl (by decide) rfl (fun ls hl => ?_)
  refine lv_iconst (v := 0) hx hb dX9_wordOf_2 (by decide) ?_
  refine lv_istore (lv' := [(4, .int 0), (3, .int 1), (0, .ref (a 0)), (1, .int x1), (2, .int x2)]) hx hb dX9_wordOf_3 hl (by decide) rfl (fun ls hl => ?_)
  refine wl2_ind (G := fun (x4_1 : Int32) (x3_2 : Int32) => ∀ (H : Heap) (locs : List Loc) (ls : Array Slot), wV D A s.heap (mW cy a S) H locs → lv_has ls 8 [(4, .int x4_1), (3, .int x3_2), (0, .ref (a 0)), (1, .int x1), (2, .int x2)] → W p l e (rmN 0) s m args below meth c H locs 0 0 (MQ below (eI D cy A (fun _ : Unit => mW cy a S) (fun (r : Int32) (_ : Unit) => Q r)) args s (rmN 0).cells (rmN 0).slots A) (F0 m 5 ls [])) ?_ _ _ hm H locs ls hw (lv_sub hl [0, 1, 2, 3, 4] rfl)
  intro L3 ih3 x4_1 x3_2 hm H locs ls hw hl
  refine lv_iload hx hb dX9_wordOf_5 (lv_at hl 0 rfl) ?_
  refine lv_aload_n hx hb dX9_wordOf_7 rfl (lv_at hl 2 rfl) ?_
  refine gF (k := 7) hc hw inX9 rfl 0 rfl (by decide) (gm 1066 (by decide +kernel) rfl) rfl dX9_wordOf_8 ?_
  refine aLen (t0 := 1) (v := 70) hc hw 5 rfl rfl rfl dX9_wordOf_11 ?_
  refine lv_icmp_ge (tgt := 126) hx hb dX9_wordOf_12 (by decide) (fun c40 => ?_) (fun c40 => ?_)
  · have hm := hm.1 c40
    refine lv_iconst (v := 0) hx hb dX9_wordOf_126 (by decide) ?_
    exact retI (u := ()) hc hw hm dX9_wordOf_127
  · have hm := hm.2 c40
    refine lv_iconst (v := 0) hx hb dX9_wordOf_15 (by decide) ?_
    refine lv_istore (lv' := [(5, .int 0), (4, .int x4_1), (3, .int x3_2), (0, .ref (a 0)), (1, .int x1), (2, .int x2)]) hx hb dX9_wordOf_16 hl (by decide) rfl (fun ls hl => ?_)
    refine wl1_ind (G := fun (x5_4 : Int32) => ∀ (H : Heap) (locs : List Loc) (ls : Array Slot), wV D A s.heap (mW cy a S) H locs → lv_has ls 8 [(5, .int x5_4), (4, .int x4_1), (3, .int x3_2), (0, .ref (a 0)), (1, .int x1), (2, .int x2)] → W p l e (rmN 0) s m args below meth c H locs 0 0 (MQ below (eI D cy A (fun _ : Unit => mW cy a S) (fun (r : Int32) (_ : Unit) => Q r)) args s (rmN 0).cells (rmN 0).slots A) (F0 m 18 ls [])) ?_ _ hm H locs ls hw (lv_sub hl [0, 1, 2, 3, 4, 5] rfl)
    intro L5 ih5 x5_4 hm H locs ls hw hl
    refine lv_aload_n hx hb dX9_wordOf_18 rfl (lv_at hl 3 rfl) ?_
    refine gF (k := 7) hc hw inX9 rfl 0 rfl (by decide) (gm 1066 (by decide +kernel) rfl) rfl dX9_wordOf_19 ?_
    refine lv_iload hx hb dX9_wordOf_22 (lv_at hl 1 rfl) ?_
    refine lv_iload hx hb dX9_wordOf_24 (lv_at hl 0 rfl) ?_
    refine lv_iadd hx hb dX9_wordOf_26 ?_
    obtain ⟨c6, hm⟩ := hm
    refine aB hc hw 5 rfl c6 rfl dX9_wordOf_27 ?_
    refine lv_bipush (v := 32) hx hb dX9_wordOf_28 (by decide) ?_
    refine lv_icmp_eq (tgt := 39) hx hb dX9_wordOf_30 (by decide) (fun c39 => ?_) (fun c39 => ?_)
    · have hm := hm.1 c39
      refine lv_iload hx hb dX9_wordOf_39 (lv_at hl 0 rfl) ?_
      refine lv_iload_n hx hb dX9_wordOf_41 rfl (lv_at hl 5 rfl) ?_
      refine lv_iload_n hx hb dX9_wordOf_42 rfl (lv_at hl 4 rfl) ?_
      refine lv_isub hx hb dX9_wordOf_43 ?_
      refine lv_icmp_ne (tgt := 51) hx hb dX9_wordOf_44 (by decide) (fun c37 => ?_) (fun c37 => ?_)
      · have hm := hm.1 c37
        refine lv_iconst (v := 0) hx hb dX9_wordOf_51 (by decide) ?_
        refine lv_istore (lv' := [(6, .int 0), (5, .int x5_4), (4, .int x4_1), (3, .int x3_2), (0, .ref (a 0)), (1, .int x1), (2, .int x2)]) hx hb dX9_wordOf_52 hl (by decide) rfl (fun ls hl => ?_)
        refine lv_iconst (v := 0) hx hb dX9_wordOf_54 (by decide) ?_
        refine lv_istore (lv' := [(7, .int 0), (6, .int 0), (5, .int x5_4), (4, .int x4_1), (3, .int x3_2), (0, .ref (a 0)), (1, .int x1), (2, .int x2)]) hx hb dX9_wordOf_55 hl (by decide) rfl (fun ls hl => ?_)
        refine wl2_ind (G := fun (x7_7 : Int32) (x6_8 : Int32) => ∀ (H : Heap) (locs : List Loc) (ls : Array Slot), wV D A s.heap (mW cy a S) H locs → lv_has ls 8 [(7, .int x7_7), (6, .int x6_8), (5, .int x5_4), (4, .int x4_1), (3, .int x3_2), (0, .ref (a 0)), (1, .int x1), (2, .int x2)] → W p l e (rmN 0) s m args below meth c H locs 0 0 (MQ below (eI D cy A (fun _ : Unit => mW cy a S) (fun (r : Int32) (_ : Unit) => Q r)) args s (rmN 0).cells (rmN 0).slots A) (F0 m 57 ls [])) ?_ _ _ hm H locs ls hw (lv_sub hl [0, 1, 2, 3, 4, 5, 6, 7] rfl)
        intro L9 ih9 x7_7 x6_8 hm H locs ls hw hl
        refine lv_iload hx hb dX9_wordOf_57 (lv_at hl 0 rfl) ?_
        refine lv_iload hx hb dX9_wordOf_59 (lv_at hl 2 rfl) ?_
        obtain ⟨J11, eJ11, hm⟩ := jn_e hm
        have hJ11 : ∀ (z10 : Unit) (_ : J11 z10) (H : Heap) (locs : List Loc) (ls : Array Slot), wV D A s.heap (mW cy a S) H locs → lv_has ls 8 [(0, .ref (a 0)), (1, .int x1), (2, .int x2), (3, .int x3_2), (4, .int x4_1), (5, .int x5_4), (6, .int x6_8)] → W p l e (rmN 0) s m args below meth c H locs 0 0 (MQ below (eI D cy A (fun _ : Unit => mW cy a S) (fun (r : Int32) (_ : Unit) => Q r)) args s (rmN 0).cells (rmN 0).slots A) (F0 m 104 ls []) := by
          intro z10 hm H locs ls hw hl
          rw [eJ11] at hm
          refine lv_iload hx hb dX9_wordOf_104 (lv_at hl 6 rfl) ?_
          refine lv_if_eq (tgt := 111) hx hb dX9_wordOf_106 (by decide) (fun c14 => ?_) (fun c14 => ?_)
          · have hm := hm.1 c14
            refine lv_iload hx hb dX9_wordOf_111 (lv_at hl 4 rfl) ?_
            refine lv_iload hx hb dX9_wordOf_113 (lv_at hl 5 rfl) ?_
            refine lv_iconst (v := 1) hx hb dX9_wordOf_115 (by decide) ?_
            refine lv_iadd hx hb dX9_wordOf_116 ?_
            refine lv_iadd hx hb dX9_wordOf_117 ?_
            refine lv_topi (fun v12 e_v12 => ?_)
            have hm := hm v12 e_v12
            refine lv_istore (lv' := [(4, .int v12), (0, .ref (a 0)), (1, .int x1), (2, .int x2), (3, .int x3_2), (5, .int x5_4), (6, .int x6_8)]) hx hb dX9_wordOf_118 hl (by decide) rfl (fun ls hl => ?_)
            obtain ⟨v13, e_v13⟩ : ∃ z : Int32, z = x3_2 + 1 := ⟨_, rfl⟩
            have hm := hm v13 e_v13
            refine lv_iinc (v := v13) (lv' := [(3, .int v13), (4, .int v12), (0, .ref (a 0)), (1, .int x1), (2, .int x2), (5, .int x5_4), (6, .int x6_8)]) hx hb dX9_wordOf_120 hl (k := 4) rfl (by rw [e_v13]; rfl) (by decide) rfl (fun ls hl => ?_)
            refine lv_goto (tgt := 5) hx hb dX9_wordOf_123 (by decide) ?_
            exact ih3 _ _ hm _ _ _ hw (lv_sub hl [1, 0, 2, 3, 4] rfl)
          · have hm := hm.2 c14
            refine lv_iload_n hx hb dX9_wordOf_109 rfl (lv_at hl 3 rfl) ?_
            exact retI (u := ()) hc hw hm dX9_wordOf_110
        refine lv_icmp_ge (tgt := 104) hx hb dX9_wordOf_61 (by decide) (fun c21 => ?_) (fun c21 => ?_)
        · have hm := hm.1 c21
          exact hJ11 _ hm _ _ _ hw (lv_sub hl [5, 6, 7, 4, 3, 2, 1] rfl)
        · have hm := hm.2 c21
          refine lv_iload hx hb dX9_wordOf_64 (lv_at hl 1 rfl) ?_
          refine lv_if_eq (tgt := 104) hx hb dX9_wordOf_66 (by decide) (fun c20 => ?_) (fun c20 => ?_)
          · have hm := hm.1 c20
            exact hJ11 _ hm _ _ _ hw (lv_sub hl [5, 6, 7, 4, 3, 2, 1] rfl)
          · have hm := hm.2 c20
            refine lv_aload_n hx hb dX9_wordOf_69 rfl (lv_at hl 5 rfl) ?_
            refine gF (k := 7) hc hw inX9 rfl 0 rfl (by decide) (gm 1066 (by decide +kernel) rfl) rfl dX9_wordOf_70 ?_
            refine lv_iload hx hb dX9_wordOf_73 (lv_at hl 3 rfl) ?_
            refine lv_iload hx hb dX9_wordOf_75 (lv_at hl 0 rfl) ?_
            refine lv_iadd hx hb dX9_wordOf_77 ?_
            obtain ⟨c15, hm⟩ := hm
            refine aB hc hw 5 rfl c15 rfl dX9_wordOf_78 ?_
            refine lv_aload_n hx hb dX9_wordOf_79 rfl (lv_at hl 5 rfl) ?_
            refine gF (k := 8) hc hw inX9 rfl 0 rfl (by decide) (gm 1067 (by decide +kernel) rfl) rfl dX9_wordOf_80 ?_
            refine lv_iload_n hx hb dX9_wordOf_83 rfl (lv_at hl 6 rfl) ?_
            refine lv_iload hx hb dX9_wordOf_84 (lv_at hl 0 rfl) ?_
            refine lv_iadd hx hb dX9_wordOf_86 ?_
            obtain ⟨c16, hm⟩ := hm
            refine aB hc hw 6 rfl c16 rfl dX9_wordOf_87 ?_
            refine lv_icmp_ne (tgt := 95) hx hb dX9_wordOf_88 (by decide) (fun c19 => ?_) (fun c19 => ?_)
            · have hm := hm.1 c19
              refine lv_iconst (v := 0) hx hb dX9_wordOf_95 (by decide) ?_
              refine lv_istore (lv' := [(6, .int 0), (7, .int x7_7), (5, .int x5_4), (4, .int x4_1), (3, .int x3_2), (0, .ref (a 0)), (1, .int x1), (2, .int x2)]) hx hb dX9_wordOf_96 hl (by decide) rfl (fun ls hl => ?_)
              obtain ⟨v17, e_v17⟩ : ∃ z : Int32, z = x7_7 + 1 := ⟨_, rfl⟩
              have hm := hm v17 e_v17
              refine lv_iinc (v := v17) (lv' := [(7, .int v17), (6, .int 0), (5, .int x5_4), (4, .int x4_1), (3, .int x3_2), (0, .ref (a 0)), (1, .int x1), (2, .int x2)]) hx hb dX9_wordOf_98 hl (k := 1) rfl (by rw [e_v17]; rfl) (by decide) rfl (fun ls hl => ?_)
              refine lv_goto (tgt := 57) hx hb dX9_wordOf_101 (by decide) ?_
              exact ih9 _ _ hm _ _ _ hw (lv_sub hl [0, 1, 2, 3, 4, 5, 6, 7] rfl)
            · have hm := hm.2 c19
              refine lv_iconst (v := 1) hx hb dX9_wordOf_91 (by decide) ?_
              refine lv_goto (tgt := 96) hx hb dX9_wordOf_92 (by decide) ?_
              refine lv_istore (lv' := [(6, .int 1), (7, .int x7_7), (5, .int x5_4), (4, .int x4_1), (3, .int x3_2), (0, .ref (a 0)), (1, .int x1), (2, .int x2)]) hx hb dX9_wordOf_96 hl (by decide) rfl (fun ls hl => ?_)
              obtain ⟨v18, e_v18⟩ : ∃ z : Int32, z = x7_7 + 1 := ⟨_, rfl⟩
              have hm := hm v18 e_v18
              refine lv_iinc (v := v18) (lv' := [(7, .int v18), (6, .int 1), (5, .int x5_4), (4, .int x4_1), (3, .int x3_2), (0, .ref (a 0)), (1, .int x1), (2, .int x2)]) hx hb dX9_wordOf_98 hl (k := 1) rfl (by rw [e_v18]; rfl) (by decide) rfl (fun ls hl => ?_)
              refine lv_goto (tgt := 57) hx hb dX9_wordOf_101 (by decide) ?_
              exact ih9 _ _ hm _ _ _ hw (lv_sub hl [0, 1, 2, 3, 4, 5, 6, 7] rfl)
      · have hm := hm.2 c37
        refine lv_iconst (v := 1) hx hb dX9_wordOf_47 (by decide) ?_
        refine lv_goto (tgt := 52) hx hb dX9_wordOf_48 (by decide) ?_
        refine lv_istore (lv' := [(6, .int 1), (5, .int x5_4), (4, .int x4_1), (3, .int x3_2), (0, .ref (a 0)), (1, .int x1), (2, .int x2)]) hx hb dX9_wordOf_52 hl (by decide) rfl (fun ls hl => ?_)
        refine lv_iconst (v := 0) hx hb dX9_wordOf_54 (by decide) ?_
        refine lv_istore (lv' := [(7, .int 0), (6, .int 1), (5, .int x5_4), (4, .int x4_1), (3, .int x3_2), (0, .ref (a 0)), (1, .int x1), (2, .int x2)]) hx hb dX9_wordOf_55 hl (by decide) rfl (fun ls hl => ?_)
        refine wl2_ind (G := fun (x7_22 : Int32) (x6_23 : Int32) => ∀ (H : Heap) (locs : List Loc) (ls : Array Slot), wV D A s.heap (mW cy a S) H locs → lv_has ls 8 [(7, .int x7_22), (6, .int x6_23), (5, .int x5_4), (4, .int x4_1), (3, .int x3_2), (0, .ref (a 0)), (1, .int x1), (2, .int x2)] → W p l e (rmN 0) s m args below meth c H locs 0 0 (MQ below (eI D cy A (fun _ : Unit => mW cy a S) (fun (r : Int32) (_ : Unit) => Q r)) args s (rmN 0).cells (rmN 0).slots A) (F0 m 57 ls [])) ?_ _ _ hm H locs ls hw (lv_sub hl [0, 1, 2, 3, 4, 5, 6, 7] rfl)
        intro L24 ih24 x7_22 x6_23 hm H locs ls hw hl
        refine lv_iload hx hb dX9_wordOf_57 (lv_at hl 0 rfl) ?_
        refine lv_iload hx hb dX9_wordOf_59 (lv_at hl 2 rfl) ?_
        obtain ⟨J26, eJ26, hm⟩ := jn_e hm
        have hJ26 : ∀ (z25 : Unit) (_ : J26 z25) (H : Heap) (locs : List Loc) (ls : Array Slot), wV D A s.heap (mW cy a S) H locs → lv_has ls 8 [(0, .ref (a 0)), (1, .int x1), (2, .int x2), (3, .int x3_2), (4, .int x4_1), (5, .int x5_4), (6, .int x6_23)] → W p l e (rmN 0) s m args below meth c H locs 0 0 (MQ below (eI D cy A (fun _ : Unit => mW cy a S) (fun (r : Int32) (_ : Unit) => Q r)) args s (rmN 0).cells (rmN 0).slots A) (F0 m 104 ls []) := by
          intro z25 hm H locs ls hw hl
          rw [eJ26] at hm
          refine lv_iload hx hb dX9_wordOf_104 (lv_at hl 6 rfl) ?_
          refine lv_if_eq (tgt := 111) hx hb dX9_wordOf_106 (by decide) (fun c29 => ?_) (fun c29 => ?_)
          · have hm := hm.1 c29
            refine lv_iload hx hb dX9_wordOf_111 (lv_at hl 4 rfl) ?_
            refine lv_iload hx hb dX9_wordOf_113 (lv_at hl 5 rfl) ?_
            refine lv_iconst (v := 1) hx hb dX9_wordOf_115 (by decide) ?_
            refine lv_iadd hx hb dX9_wordOf_116 ?_
            refine lv_iadd hx hb dX9_wordOf_117 ?_
            refine lv_topi (fun v27 e_v27 => ?_)
            have hm := hm v27 e_v27
            refine lv_istore (lv' := [(4, .int v27), (0, .ref (a 0)), (1, .int x1), (2, .int x2), (3, .int x3_2), (5, .int x5_4), (6, .int x6_23)]) hx hb dX9_wordOf_118 hl (by decide) rfl (fun ls hl => ?_)
            obtain ⟨v28, e_v28⟩ : ∃ z : Int32, z = x3_2 + 1 := ⟨_, rfl⟩
            have hm := hm v28 e_v28
            refine lv_iinc (v := v28) (lv' := [(3, .int v28), (4, .int v27), (0, .ref (a 0)), (1, .int x1), (2, .int x2), (5, .int x5_4), (6, .int x6_23)]) hx hb dX9_wordOf_120 hl (k := 4) rfl (by rw [e_v28]; rfl) (by decide) rfl (fun ls hl => ?_)
            refine lv_goto (tgt := 5) hx hb dX9_wordOf_123 (by decide) ?_
            exact ih3 _ _ hm _ _ _ hw (lv_sub hl [1, 0, 2, 3, 4] rfl)
          · have hm := hm.2 c29
            refine lv_iload_n hx hb dX9_wordOf_109 rfl (lv_at hl 3 rfl) ?_
            exact retI (u := ()) hc hw hm dX9_wordOf_110
        refine lv_icmp_ge (tgt := 104) hx hb dX9_wordOf_61 (by decide) (fun c36 => ?_) (fun c36 => ?_)
        · have hm := hm.1 c36
          exact hJ26 _ hm _ _ _ hw (lv_sub hl [5, 6, 7, 4, 3, 2, 1] rfl)
        · have hm := hm.2 c36
          refine lv_iload hx hb dX9_wordOf_64 (lv_at hl 1 rfl) ?_
          refine lv_if_eq (tgt := 104) hx hb dX9_wordOf_66 (by decide) (fun c35 => ?_) (fun c35 => ?_)
          · have hm := hm.1 c35
            exact hJ26 _ hm _ _ _ hw (lv_sub hl [5, 6, 7, 4, 3, 2, 1] rfl)
          · have hm := hm.2 c35
            refine lv_aload_n hx hb dX9_wordOf_69 rfl (lv_at hl 5 rfl) ?_
            refine gF (k := 7) hc hw inX9 rfl 0 rfl (by decide) (gm 1066 (by decide +kernel) rfl) rfl dX9_wordOf_70 ?_
            refine lv_iload hx hb dX9_wordOf_73 (lv_at hl 3 rfl) ?_
            refine lv_iload hx hb dX9_wordOf_75 (lv_at hl 0 rfl) ?_
            refine lv_iadd hx hb dX9_wordOf_77 ?_
            obtain ⟨c30, hm⟩ := hm
            refine aB hc hw 5 rfl c30 rfl dX9_wordOf_78 ?_
            refine lv_aload_n hx hb dX9_wordOf_79 rfl (lv_at hl 5 rfl) ?_
            refine gF (k := 8) hc hw inX9 rfl 0 rfl (by decide) (gm 1067 (by decide +kernel) rfl) rfl dX9_wordOf_80 ?_
            refine lv_iload_n hx hb dX9_wordOf_83 rfl (lv_at hl 6 rfl) ?_
            refine lv_iload hx hb dX9_wordOf_84 (lv_at hl 0 rfl) ?_
            refine lv_iadd hx hb dX9_wordOf_86 ?_
            obtain ⟨c31, hm⟩ := hm
            refine aB hc hw 6 rfl c31 rfl dX9_wordOf_87 ?_
            refine lv_icmp_ne (tgt := 95) hx hb dX9_wordOf_88 (by decide) (fun c34 => ?_) (fun c34 => ?_)
            · have hm := hm.1 c34
              refine lv_iconst (v := 0) hx hb dX9_wordOf_95 (by decide) ?_
              refine lv_istore (lv' := [(6, .int 0), (7, .int x7_22), (5, .int x5_4), (4, .int x4_1), (3, .int x3_2), (0, .ref (a 0)), (1, .int x1), (2, .int x2)]) hx hb dX9_wordOf_96 hl (by decide) rfl (fun ls hl => ?_)
              obtain ⟨v32, e_v32⟩ : ∃ z : Int32, z = x7_22 + 1 := ⟨_, rfl⟩
              have hm := hm v32 e_v32
              refine lv_iinc (v := v32) (lv' := [(7, .int v32), (6, .int 0), (5, .int x5_4), (4, .int x4_1), (3, .int x3_2), (0, .ref (a 0)), (1, .int x1), (2, .int x2)]) hx hb dX9_wordOf_98 hl (k := 1) rfl (by rw [e_v32]; rfl) (by decide) rfl (fun ls hl => ?_)
              refine lv_goto (tgt := 57) hx hb dX9_wordOf_101 (by decide) ?_
              exact ih24 _ _ hm _ _ _ hw (lv_sub hl [0, 1, 2, 3, 4, 5, 6, 7] rfl)
            · have hm := hm.2 c34
              refine lv_iconst (v := 1) hx hb dX9_wordOf_91 (by decide) ?_
              refine lv_goto (tgt := 96) hx hb dX9_wordOf_92 (by decide) ?_
              refine lv_istore (lv' := [(6, .int 1), (7, .int x7_22), (5, .int x5_4), (4, .int x4_1), (3, .int x3_2), (0, .ref (a 0)), (1, .int x1), (2, .int x2)]) hx hb dX9_wordOf_96 hl (by decide) rfl (fun ls hl => ?_)
              obtain ⟨v33, e_v33⟩ : ∃ z : Int32, z = x7_22 + 1 := ⟨_, rfl⟩
              have hm := hm v33 e_v33
              refine lv_iinc (v := v33) (lv' := [(7, .int v33), (6, .int 1), (5, .int x5_4), (4, .int x4_1), (3, .int x3_2), (0, .ref (a 0)), (1, .int x1), (2, .int x2)]) hx hb dX9_wordOf_98 hl (k := 1) rfl (by rw [e_v33]; rfl) (by decide) rfl (fun ls hl => ?_)
              refine lv_goto (tgt := 57) hx hb dX9_wordOf_101 (by decide) ?_
              exact ih24 _ _ hm _ _ _ hw (lv_sub hl [0, 1, 2, 3, 4, 5, 6, 7] rfl)
    · have hm := hm.2 c39
      obtain ⟨v38, e_v38⟩ : ∃ z : Int32, z = x5_4 + 1 := ⟨_, rfl⟩
      have hm := hm v38 e_v38
      refine lv_iinc (v := v38) (lv' := [(5, .int v38), (4, .int x4_1), (3, .int x3_2), (0, .ref (a 0)), (1, .int x1), (2, .int x2)]) hx hb dX9_wordOf_33 hl (k := 0) rfl (by rw [e_v38]; rfl) (by decide) rfl (fun ls hl => ?_)
      refine lv_goto (tgt := 18) hx hb dX9_wordOf_36 (by decide) ?_
      exact ih5 _ hm _ _ _ hw (lv_sub hl [0, 1, 2, 3, 4, 5] rfl)
set_option maxHeartbeats 4000000 in
set_option maxRecDepth 100000 in
theorem c_M_splits {l : Launch} {D : va_G} {cy : Nat → ClassId} {a : Nat → Nat} {S : Ob} {x1 : Int32} {Q : Ob → Prop} (hm : wM_splits S x1 Q) : CtV l yX9_splits cX9_splits 6 none (rmN 1) D cy [.ref (a 0), .int x1] (mW cy a S) (mW cy a) Q := by
  refine CtV.ofW (by decide) (Nat.le_of_ble_eq_true rfl) ?_
  intro p e s m args below meth c A ls hc hnm hw hl
  have hx := hc.1.1
  have hb := hc.1.2.1
  have hown := hc.1.2.2.2.1
  have hts := hc.1.2.2.2.2
  have hl : lv_has ls 6 [(0, .ref (a 0)), (1, .int x1)] := hl
  obtain ⟨H, hH⟩ : ∃ z, z = s.heap := ⟨_, rfl⟩
  obtain ⟨locs, hLc⟩ : ∃ z : List Loc, z = [] := ⟨_, rfl⟩
  have hw : wV D A s.heap (mW cy a S) H locs := by rw [hH, hLc]; exact hw
  have hgo : W p l e (rmN 1) s m args below meth c H locs 0 0 (MQ below (eV D cy A (mW cy a) Q) args s (rmN 1).cells (rmN 1).slots A) (F0 m 0 ls []) := ?hgo
  · rw [hH, hLc] at hgo; exact hgo
  refine lv_aload_n hx hb dX9_splits_0 rfl (lv_at hl 0 rfl) ?_
  refine lv_iconst (v := 0) hx hb dX9_splits_1 (by decide) ?_
  refine pF (k := 15) (ty := .int) hc hw inX9 tyX9_ok nmX9 rfl 0 rfl (by decide) (gm 1074 (by decide +kernel) rfl) rfl (by decide +kernel) rfl rfl (Nat.le_of_ble_eq_true rfl) dX9_splits_2 (fun H locs hw => ?_)
  obtain ⟨S1, e_S1⟩ : ∃ z : Ob, z = uS S 15 0 := ⟨_, rfl⟩
  have hm := hm S1 e_S1
  have hw : wV D A s.heap (mW cy a S1) H locs := by rw [e_S1]; exact hw
  refine lv_iconst (v := 0) hx hb dX9_splits_5 (by decide) ?_
  refine lv_istore_n (lv' := [(2, .int 0), (0, .ref (a 0)), (1, .int x1)]) hx hb dX9_splits_6 rfl hl (by decide) rfl (fun ls hl => ?_)
  refine wl2_ind (G := fun (x2_2 : Int32) (S3 : Ob) => ∀ (H : Heap) (locs : List Loc) (ls : Array Slot), wV D A s.heap (mW cy a S3) H locs → lv_has ls 6 [(2, .int x2_2), (0, .ref (a 0)), (1, .int x1)] → W p l e (rmN 1) s m args below meth c H locs 0 0 (MQ below (eV D cy A (mW cy a) Q) args s (rmN 1).cells (rmN 1).slots A) (F0 m 7 ls [])) ?_ _ _ hm H locs ls hw (lv_sub hl [0, 1, 2] rfl)
  intro L4 ih4 x2_2 S3 hm H locs ls hw hl
  refine lv_iload_n hx hb dX9_splits_7 rfl (lv_at hl 0 rfl) ?_
  refine lv_iload_n hx hb dX9_splits_8 rfl (lv_at hl 2 rfl) ?_
  refine lv_icmp_ge (tgt := 263) hx hb dX9_splits_9 (by decide) (fun c78 => ?_) (fun c78 => ?_)
  · have hm := hm.1 c78
    refine lv_aload_n hx hb dX9_splits_263 rfl (lv_at hl 1 rfl) ?_
    refine gF (k := 14) hc hw inX9 rfl 0 rfl (by decide) (gm 1073 (by decide +kernel) rfl) rfl dX9_splits_264 ?_
    refine lv_aload_n hx hb dX9_splits_267 rfl (lv_at hl 1 rfl) ?_
    refine gF (k := 15) hc hw inX9 rfl 0 rfl (by decide) (gm 1074 (by decide +kernel) rfl) rfl dX9_splits_268 ?_
    refine lv_iload_n hx hb dX9_splits_271 rfl (lv_at hl 2 rfl) ?_
    obtain ⟨c5, hm⟩ := hm
    refine sI hc hw 10 rfl c5 rfl dX9_splits_272 (fun H locs hw => ?_)
    obtain ⟨S6, e_S6⟩ : ∃ z : Ob, z = uA S3 14 (Int32.toNatClampNeg (S3.1 15)) x1 := ⟨_, rfl⟩
    have hm := hm S6 e_S6
    have hw : wV D A s.heap (mW cy a S6) H locs := by rw [e_S6]; exact hw
    refine lv_aload_n hx hb dX9_splits_273 rfl (lv_at hl 1 rfl) ?_
    refine gF (k := 12) hc hw inX9 rfl 0 rfl (by decide) (gm 1071 (by decide +kernel) rfl) rfl dX9_splits_274 ?_
    refine lv_aload_n hx hb dX9_splits_277 rfl (lv_at hl 1 rfl) ?_
    refine gF (k := 15) hc hw inX9 rfl 0 rfl (by decide) (gm 1074 (by decide +kernel) rfl) rfl dX9_splits_278 ?_
    refine lv_iconst (v := 0) hx hb dX9_splits_281 (by decide) ?_
    obtain ⟨c7, hm⟩ := hm
    refine sI hc hw 8 rfl c7 rfl dX9_splits_282 (fun H locs hw => ?_)
    obtain ⟨S8, e_S8⟩ : ∃ z : Ob, z = uA S6 12 (Int32.toNatClampNeg (S6.1 15)) 0 := ⟨_, rfl⟩
    have hm := hm S8 e_S8
    have hw : wV D A s.heap (mW cy a S8) H locs := by rw [e_S8]; exact hw
    refine lv_aload_n hx hb dX9_splits_283 rfl (lv_at hl 1 rfl) ?_
    refine gF (k := 13) hc hw inX9 rfl 0 rfl (by decide) (gm 1072 (by decide +kernel) rfl) rfl dX9_splits_284 ?_
    refine lv_aload_n hx hb dX9_splits_287 rfl (lv_at hl 1 rfl) ?_
    refine gF (k := 15) hc hw inX9 rfl 0 rfl (by decide) (gm 1074 (by decide +kernel) rfl) rfl dX9_splits_288 ?_
    refine lv_iconst (v := 0) hx hb dX9_splits_291 (by decide) ?_
    obtain ⟨c9, hm⟩ := hm
    refine sI hc hw 9 rfl c9 rfl dX9_splits_292 (fun H locs hw => ?_)
    obtain ⟨S10, e_S10⟩ : ∃ z : Ob, z = uA S8 13 (Int32.toNatClampNeg (S8.1 15)) 0 := ⟨_, rfl⟩
    have hm := hm S10 e_S10
    have hw : wV D A s.heap (mW cy a S10) H locs := by rw [e_S10]; exact hw
    exact retV (u := S10) hc hw hm dX9_splits_293
  · have hm := hm.2 c78
    refine lv_aload_n hx hb dX9_splits_12 rfl (lv_at hl 1 rfl) ?_
    refine gF (k := 8) hc hw inX9 rfl 0 rfl (by decide) (gm 1067 (by decide +kernel) rfl) rfl dX9_splits_13 ?_
    refine lv_iload_n hx hb dX9_splits_16 rfl (lv_at hl 0 rfl) ?_
    obtain ⟨c11, hm⟩ := hm
    refine aB hc hw 6 rfl c11 rfl dX9_splits_17 ?_
    refine lv_topi (fun v12 e_v12 => ?_)
    have hm := hm v12 e_v12
    refine lv_istore_n (lv' := [(3, .int v12), (2, .int x2_2), (0, .ref (a 0)), (1, .int x1)]) hx hb dX9_splits_18 rfl hl (by decide) rfl (fun ls hl => ?_)
    refine lv_iload_n hx hb dX9_splits_19 rfl (lv_at hl 0 rfl) ?_
    refine lv_bipush (v := 32) hx hb dX9_splits_20 (by decide) ?_
    refine lv_icmp_ne (tgt := 31) hx hb dX9_splits_22 (by decide) (fun c77 => ?_) (fun c77 => ?_)
    · have hm := hm.1 c77
      refine lv_iload_n hx hb dX9_splits_31 rfl (lv_at hl 1 rfl) ?_
      refine lv_iconst (v := 1) hx hb dX9_splits_32 (by decide) ?_
      refine lv_iadd hx hb dX9_splits_33 ?_
      refine lv_topi (fun v13 e_v13 => ?_)
      have hm := hm v13 e_v13
      refine lv_istore (lv' := [(4, .int v13), (3, .int v12), (2, .int x2_2), (0, .ref (a 0)), (1, .int x1)]) hx hb dX9_splits_34 hl (by decide) rfl (fun ls hl => ?_)
      refine lv_iload_n hx hb dX9_splits_36 rfl (lv_at hl 1 rfl) ?_
      refine zS_I (As := [.int v12]) (rest := []) hc hw (c_M_isSmall hm) lk_X9_137 ⟨Nat.le_of_ble_eq_true rfl, Nat.le_of_ble_eq_true rfl⟩ ⟨Nat.le_of_ble_eq_true rfl, Nat.le_of_ble_eq_true rfl⟩ hl.1 rfl (Nat.le_of_ble_eq_true rfl) rfl dX9_splits_37 (fun r14 H locs hm hw => ?_)
      obtain ⟨J17, eJ17, hm⟩ := jn_e hm
      have hJ17 : ∀ (x4_16 : Int32) (_ : J17 x4_16) (H : Heap) (locs : List Loc) (ls : Array Slot), wV D A s.heap (mW cy a S3) H locs → lv_has ls 6 [(0, .ref (a 0)), (1, .int x1), (2, .int x2_2), (3, .int v12), (4, .int x4_16)] → W p l e (rmN 1) s m args below meth c H locs 0 0 (MQ below (eV D cy A (mW cy a) Q) args s (rmN 1).cells (rmN 1).slots A) (F0 m 68 ls []) := by
        intro x4_16 hm H locs ls hw hl
        rw [eJ17] at hm
        refine lv_iload_n hx hb dX9_splits_68 rfl (lv_at hl 3 rfl) ?_
        refine zS_I (As := [.int v12]) (rest := []) hc hw (c_M_isDigit hm) lk_X9_140 ⟨Nat.le_of_ble_eq_true rfl, Nat.le_of_ble_eq_true rfl⟩ ⟨Nat.le_of_ble_eq_true rfl, Nat.le_of_ble_eq_true rfl⟩ hl.1 rfl (Nat.le_of_ble_eq_true rfl) rfl dX9_splits_69 (fun r18 H locs hm hw => ?_)
        obtain ⟨J21, eJ21, hm⟩ := jn_e hm
        have hJ21 : ∀ (x4_20 : Int32) (_ : J21 x4_20) (H : Heap) (locs : List Loc) (ls : Array Slot), wV D A s.heap (mW cy a S3) H locs → lv_has ls 6 [(0, .ref (a 0)), (1, .int x1), (2, .int x2_2), (3, .int v12), (4, .int x4_20)] → W p l e (rmN 1) s m args below meth c H locs 0 0 (MQ below (eV D cy A (mW cy a) Q) args s (rmN 1).cells (rmN 1).slots A) (F0 m 100 ls []) := by
          intro x4_20 hm H locs ls hw hl
          rw [eJ21] at hm
          refine lv_aload_n hx hb dX9_splits_100 rfl (lv_at hl 0 rfl) ?_
          refine gF (k := 14) hc hw inX9 rfl 0 rfl (by decide) (gm 1073 (by decide +kernel) rfl) rfl dX9_splits_101 ?_
          refine lv_aload_n hx hb dX9_splits_104 rfl (lv_at hl 0 rfl) ?_
          refine gF (k := 15) hc hw inX9 rfl 0 rfl (by decide) (gm 1074 (by decide +kernel) rfl) rfl dX9_splits_105 ?_
          refine lv_iload_n hx hb dX9_splits_108 rfl (lv_at hl 2 rfl) ?_
          obtain ⟨c22, hm⟩ := hm
          refine sI hc hw 10 rfl c22 rfl dX9_splits_109 (fun H locs hw => ?_)
          obtain ⟨S23, e_S23⟩ : ∃ z : Ob, z = uA S3 14 (Int32.toNatClampNeg (S3.1 15)) x2_2 := ⟨_, rfl⟩
          have hm := hm S23 e_S23
          have hw : wV D A s.heap (mW cy a S23) H locs := by rw [e_S23]; exact hw
          refine lv_aload_n hx hb dX9_splits_110 rfl (lv_at hl 0 rfl) ?_
          refine gF (k := 13) hc hw inX9 rfl 0 rfl (by decide) (gm 1072 (by decide +kernel) rfl) rfl dX9_splits_111 ?_
          refine lv_aload_n hx hb dX9_splits_114 rfl (lv_at hl 0 rfl) ?_
          refine gF (k := 15) hc hw inX9 rfl 0 rfl (by decide) (gm 1074 (by decide +kernel) rfl) rfl dX9_splits_115 ?_
          refine lv_iconst (v := 0) hx hb dX9_splits_118 (by decide) ?_
          obtain ⟨c24, hm⟩ := hm
          refine sI hc hw 9 rfl c24 rfl dX9_splits_119 (fun H locs hw => ?_)
          obtain ⟨S25, e_S25⟩ : ∃ z : Ob, z = uA S23 13 (Int32.toNatClampNeg (S23.1 15)) 0 := ⟨_, rfl⟩
          have hm := hm S25 e_S25
          have hw : wV D A s.heap (mW cy a S25) H locs := by rw [e_S25]; exact hw
          refine lv_aload_n hx hb dX9_splits_120 rfl (lv_at hl 0 rfl) ?_
          refine gF (k := 12) hc hw inX9 rfl 0 rfl (by decide) (gm 1071 (by decide +kernel) rfl) rfl dX9_splits_121 ?_
          refine lv_aload_n hx hb dX9_splits_124 rfl (lv_at hl 0 rfl) ?_
          refine gF (k := 15) hc hw inX9 rfl 0 rfl (by decide) (gm 1074 (by decide +kernel) rfl) rfl dX9_splits_125 ?_
          refine lv_iload_n hx hb dX9_splits_128 rfl (lv_at hl 3 rfl) ?_
          refine zS_I (As := [.int v12]) (rest := [.int (S25.1 15), .ref (a 8)]) hc hw (c_M_isSmall hm) lk_X9_137 ⟨Nat.le_of_ble_eq_true rfl, Nat.le_of_ble_eq_true rfl⟩ ⟨Nat.le_of_ble_eq_true rfl, Nat.le_of_ble_eq_true rfl⟩ hl.1 rfl (Nat.le_of_ble_eq_true rfl) rfl dX9_splits_129 (fun r26 H locs hm hw => ?_)
          obtain ⟨J29, eJ29, hm⟩ := jn_e hm
          have hJ29 : ∀ (t28 : Int32) (_ : J29 t28) (H : Heap) (locs : List Loc) (ls : Array Slot), wV D A s.heap (mW cy a S25) H locs → lv_has ls 6 [(0, .ref (a 0)), (1, .int x1), (2, .int x2_2), (3, .int v12), (4, .int x4_20)] → W p l e (rmN 1) s m args below meth c H locs 0 0 (MQ below (eV D cy A (mW cy a) Q) args s (rmN 1).cells (rmN 1).slots A) (F0 m 165 ls [.int t28, .int (S25.1 15), .ref (a 8)]) := by
            intro t28 hm H locs ls hw hl
            rw [eJ29] at hm
            obtain ⟨c30, hm⟩ := hm
            refine sI hc hw 8 rfl c30 rfl dX9_splits_165 (fun H locs hw => ?_)
            obtain ⟨S31, e_S31⟩ : ∃ z : Ob, z = uA S25 12 (Int32.toNatClampNeg (S25.1 15)) t28 := ⟨_, rfl⟩
            have hm := hm S31 e_S31
            have hw : wV D A s.heap (mW cy a S31) H locs := by rw [e_S31]; exact hw
            refine lv_iload_n hx hb dX9_splits_166 rfl (lv_at hl 2 rfl) ?_
            refine lv_istore (lv' := [(5, .int x2_2), (0, .ref (a 0)), (1, .int x1), (2, .int x2_2), (3, .int v12), (4, .int x4_20)]) hx hb dX9_splits_167 hl (by decide) rfl (fun ls hl => ?_)
            refine wl2_ind (G := fun (x5_32 : Int32) (S33 : Ob) => ∀ (H : Heap) (locs : List Loc) (ls : Array Slot), wV D A s.heap (mW cy a S33) H locs → lv_has ls 6 [(5, .int x5_32), (0, .ref (a 0)), (1, .int x1), (3, .int v12), (4, .int x4_20)] → W p l e (rmN 1) s m args below meth c H locs 0 0 (MQ below (eV D cy A (mW cy a) Q) args s (rmN 1).cells (rmN 1).slots A) (F0 m 169 ls [])) ?_ _ _ hm H locs ls hw (lv_sub hl [0, 1, 2, 4, 5] rfl)
            intro L34 ih34 x5_32 S33 hm H locs ls hw hl
            refine lv_iload hx hb dX9_splits_169 (lv_at hl 0 rfl) ?_
            refine lv_iload hx hb dX9_splits_171 (lv_at hl 4 rfl) ?_
            obtain ⟨J36, eJ36, hm⟩ := jn_e hm
            have hJ36 : ∀ (z35 : Unit) (_ : J36 z35) (H : Heap) (locs : List Loc) (ls : Array Slot), wV D A s.heap (mW cy a S33) H locs → lv_has ls 6 [(0, .ref (a 0)), (1, .int x1), (4, .int x4_20)] → W p l e (rmN 1) s m args below meth c H locs 0 0 (MQ below (eV D cy A (mW cy a) Q) args s (rmN 1).cells (rmN 1).slots A) (F0 m 247 ls []) := by
              intro z35 hm H locs ls hw hl
              rw [eJ36] at hm
              refine lv_aload_n hx hb dX9_splits_247 rfl (lv_at hl 0 rfl) ?_
              refine lv_dup hx hb dX9_splits_248 rfl ?_
              refine gF (k := 15) hc hw inX9 rfl 0 rfl (by decide) (gm 1074 (by decide +kernel) rfl) rfl dX9_splits_249 ?_
              refine lv_iconst (v := 1) hx hb dX9_splits_252 (by decide) ?_
              refine lv_iadd hx hb dX9_splits_253 ?_
              refine pF (k := 15) (ty := .int) hc hw inX9 tyX9_ok nmX9 rfl 0 rfl (by decide) (gm 1074 (by decide +kernel) rfl) rfl (by decide +kernel) rfl rfl (Nat.le_of_ble_eq_true rfl) dX9_splits_254 (fun H locs hw => ?_)
              obtain ⟨S37, e_S37⟩ : ∃ z : Ob, z = uS S33 15 ((S33.1 15) + 1) := ⟨_, rfl⟩
              have hm := hm S37 e_S37
              have hw : wV D A s.heap (mW cy a S37) H locs := by rw [e_S37]; exact hw
              refine lv_iload hx hb dX9_splits_257 (lv_at hl 2 rfl) ?_
              refine lv_istore_n (lv' := [(2, .int x4_20), (0, .ref (a 0)), (1, .int x1), (4, .int x4_20)]) hx hb dX9_splits_259 rfl hl (by decide) rfl (fun ls hl => ?_)
              refine lv_goto (tgt := 7) hx hb dX9_splits_260 (by decide) ?_
              exact ih4 _ _ hm _ _ _ hw (lv_sub hl [0, 1, 2] rfl)
            refine lv_icmp_ge (tgt := 247) hx hb dX9_splits_173 (by decide) (fun c51 => ?_) (fun c51 => ?_)
            · have hm := hm.1 c51
              exact hJ36 _ hm _ _ _ hw (lv_sub hl [1, 2, 4] rfl)
            · have hm := hm.2 c51
              refine lv_iload_n hx hb dX9_splits_176 rfl (lv_at hl 3 rfl) ?_
              refine zS_I (As := [.int v12]) (rest := []) hc hw (c_M_isDigit hm) lk_X9_140 ⟨Nat.le_of_ble_eq_true rfl, Nat.le_of_ble_eq_true rfl⟩ ⟨Nat.le_of_ble_eq_true rfl, Nat.le_of_ble_eq_true rfl⟩ hl.1 rfl (Nat.le_of_ble_eq_true rfl) rfl dX9_splits_177 (fun r38 H locs hm hw => ?_)
              refine lv_if_eq (tgt := 247) hx hb dX9_splits_180 (by decide) (fun c50 => ?_) (fun c50 => ?_)
              · have hm := hm.1 c50
                exact hJ36 _ hm _ _ _ hw (lv_sub hl [1, 2, 4] rfl)
              · have hm := hm.2 c50
                refine lv_aload_n hx hb dX9_splits_183 rfl (lv_at hl 1 rfl) ?_
                refine gF (k := 13) hc hw inX9 rfl 0 rfl (by decide) (gm 1072 (by decide +kernel) rfl) rfl dX9_splits_184 ?_
                refine lv_aload_n hx hb dX9_splits_187 rfl (lv_at hl 1 rfl) ?_
                refine gF (k := 15) hc hw inX9 rfl 0 rfl (by decide) (gm 1074 (by decide +kernel) rfl) rfl dX9_splits_188 ?_
                refine lv_aload_n hx hb dX9_splits_191 rfl (lv_at hl 1 rfl) ?_
                refine gF (k := 13) hc hw inX9 rfl 0 rfl (by decide) (gm 1072 (by decide +kernel) rfl) rfl dX9_splits_192 ?_
                refine lv_aload_n hx hb dX9_splits_195 rfl (lv_at hl 1 rfl) ?_
                refine gF (k := 15) hc hw inX9 rfl 0 rfl (by decide) (gm 1074 (by decide +kernel) rfl) rfl dX9_splits_196 ?_
                obtain ⟨c40, hm⟩ := hm
                refine aI hc hw 9 rfl c40 rfl dX9_splits_199 ?_
                refine lv_ldc (v := 1000000) hx hb hown (hts _ (gm 1281 (by decide +kernel) rfl)) dX9_splits_200 ?_
                obtain ⟨J42, eJ42, hm⟩ := jn_e hm
                have hJ42 : ∀ (t41 : Int32) (_ : J42 t41) (H : Heap) (locs : List Loc) (ls : Array Slot), wV D A s.heap (mW cy a S33) H locs → lv_has ls 6 [(0, .ref (a 0)), (1, .int x1), (3, .int v12), (4, .int x4_20), (5, .int x5_32)] → W p l e (rmN 1) s m args below meth c H locs 0 0 (MQ below (eV D cy A (mW cy a) Q) args s (rmN 1).cells (rmN 1).slots A) (F0 m 240 ls [.int t41, .int (S33.1 15), .ref (a 9)]) := by
                  intro t41 hm H locs ls hw hl
                  rw [eJ42] at hm
                  obtain ⟨c43, hm⟩ := hm
                  refine sI hc hw 9 rfl c43 rfl dX9_splits_240 (fun H locs hw => ?_)
                  obtain ⟨S44, e_S44⟩ : ∃ z : Ob, z = uA S33 13 (Int32.toNatClampNeg (S33.1 15)) t41 := ⟨_, rfl⟩
                  have hm := hm S44 e_S44
                  have hw : wV D A s.heap (mW cy a S44) H locs := by rw [e_S44]; exact hw
                  obtain ⟨v45, e_v45⟩ : ∃ z : Int32, z = x5_32 + 1 := ⟨_, rfl⟩
                  have hm := hm v45 e_v45
                  refine lv_iinc (v := v45) (lv' := [(5, .int v45), (0, .ref (a 0)), (1, .int x1), (3, .int v12), (4, .int x4_20)]) hx hb dX9_splits_241 hl (k := 4) rfl (by rw [e_v45]; rfl) (by decide) rfl (fun ls hl => ?_)
                  refine lv_goto (tgt := 169) hx hb dX9_splits_244 (by decide) ?_
                  exact ih34 _ _ hm _ _ _ hw (lv_sub hl [0, 1, 2, 3, 4] rfl)
                refine lv_icmp_le (tgt := 217) hx hb dX9_splits_202 (by decide) (fun c49 => ?_) (fun c49 => ?_)
                · have hm := hm.1 c49
                  refine lv_bipush (v := 10) hx hb dX9_splits_217 (by decide) ?_
                  refine lv_aload_n hx hb dX9_splits_219 rfl (lv_at hl 1 rfl) ?_
                  refine gF (k := 13) hc hw inX9 rfl 0 rfl (by decide) (gm 1072 (by decide +kernel) rfl) rfl dX9_splits_220 ?_
                  refine lv_aload_n hx hb dX9_splits_223 rfl (lv_at hl 1 rfl) ?_
                  refine gF (k := 15) hc hw inX9 rfl 0 rfl (by decide) (gm 1074 (by decide +kernel) rfl) rfl dX9_splits_224 ?_
                  obtain ⟨c46, hm⟩ := hm
                  refine aI hc hw 9 rfl c46 rfl dX9_splits_227 ?_
                  refine lv_imul hx hb dX9_splits_228 ?_
                  refine lv_aload_n hx hb dX9_splits_229 rfl (lv_at hl 1 rfl) ?_
                  refine gF (k := 8) hc hw inX9 rfl 0 rfl (by decide) (gm 1067 (by decide +kernel) rfl) rfl dX9_splits_230 ?_
                  refine lv_iload hx hb dX9_splits_233 (lv_at hl 0 rfl) ?_
                  obtain ⟨c47, hm⟩ := hm
                  refine aB hc hw 6 rfl c47 rfl dX9_splits_235 ?_
                  refine lv_iadd hx hb dX9_splits_236 ?_
                  refine lv_bipush (v := 48) hx hb dX9_splits_237 (by decide) ?_
                  refine lv_isub hx hb dX9_splits_239 ?_
                  exact hJ42 _ hm _ _ _ hw (lv_sub hl [1, 2, 3, 4, 0] rfl)
                · have hm := hm.2 c49
                  refine lv_aload_n hx hb dX9_splits_205 rfl (lv_at hl 1 rfl) ?_
                  refine gF (k := 13) hc hw inX9 rfl 0 rfl (by decide) (gm 1072 (by decide +kernel) rfl) rfl dX9_splits_206 ?_
                  refine lv_aload_n hx hb dX9_splits_209 rfl (lv_at hl 1 rfl) ?_
                  refine gF (k := 15) hc hw inX9 rfl 0 rfl (by decide) (gm 1074 (by decide +kernel) rfl) rfl dX9_splits_210 ?_
                  obtain ⟨c48, hm⟩ := hm
                  refine aI hc hw 9 rfl c48 rfl dX9_splits_213 ?_
                  refine lv_goto (tgt := 240) hx hb dX9_splits_214 (by decide) ?_
                  exact hJ42 _ hm _ _ _ hw (lv_sub hl [1, 2, 3, 4, 0] rfl)
          refine lv_if_eq (tgt := 145) hx hb dX9_splits_132 (by decide) (fun c57 => ?_) (fun c57 => ?_)
          · have hm := hm.1 c57
            refine lv_iload_n hx hb dX9_splits_145 rfl (lv_at hl 3 rfl) ?_
            refine zS_I (As := [.int v12]) (rest := [.int (S25.1 15), .ref (a 8)]) hc hw (c_M_isDigit hm) lk_X9_140 ⟨Nat.le_of_ble_eq_true rfl, Nat.le_of_ble_eq_true rfl⟩ ⟨Nat.le_of_ble_eq_true rfl, Nat.le_of_ble_eq_true rfl⟩ hl.1 rfl (Nat.le_of_ble_eq_true rfl) rfl dX9_splits_146 (fun r52 H locs hm hw => ?_)
            refine lv_if_eq (tgt := 157) hx hb dX9_splits_149 (by decide) (fun c54 => ?_) (fun c54 => ?_)
            · have hm := hm.1 c54
              refine lv_bipush (v := 100) hx hb dX9_splits_157 (by decide) ?_
              refine lv_iload_n hx hb dX9_splits_159 rfl (lv_at hl 3 rfl) ?_
              refine lv_sipush (v := 255) hx hb dX9_splits_160 (by decide) ?_
              refine lv_iand hx hb dX9_splits_163 ?_
              refine lv_iadd hx hb dX9_splits_164 ?_
              exact hJ29 _ hm _ _ _ hw (lv_sub hl [0, 1, 2, 3, 4] rfl)
            · have hm := hm.2 c54
              refine lv_bipush (v := 50) hx hb dX9_splits_152 (by decide) ?_
              refine lv_goto (tgt := 165) hx hb dX9_splits_154 (by decide) ?_
              exact hJ29 _ hm _ _ _ hw (lv_sub hl [0, 1, 2, 3, 4] rfl)
          · have hm := hm.2 c57
            refine lv_aload_n hx hb dX9_splits_135 rfl (lv_at hl 0 rfl) ?_
            refine lv_iload_n hx hb dX9_splits_136 rfl (lv_at hl 2 rfl) ?_
            refine lv_iload hx hb dX9_splits_137 (lv_at hl 4 rfl) ?_
            refine aV_I (As := [.int x2_2, .int x4_20]) (rest := [.int (S25.1 15), .ref (a 8)]) hc hw (c_M_wordOf hm) lk_X9_143 rfl rfl ⟨Nat.le_of_ble_eq_true rfl, Nat.le_of_ble_eq_true rfl⟩ ⟨Nat.le_of_ble_eq_true rfl, Nat.le_of_ble_eq_true rfl⟩ hl.1 rfl (Nat.le_of_ble_eq_true rfl) rfl dX9_splits_139 (fun r55 _ H locs hm hw => ?_)
            have hw : wV D A s.heap (mW cy a S25) H locs := hw
            refine lv_goto (tgt := 165) hx hb dX9_splits_142 (by decide) ?_
            exact hJ29 _ hm _ _ _ hw (lv_sub hl [0, 1, 2, 3, 4] rfl)
        refine lv_if_eq (tgt := 100) hx hb dX9_splits_72 (by decide) (fun c66 => ?_) (fun c66 => ?_)
        · have hm := hm.1 c66
          exact hJ21 _ hm _ _ _ hw (lv_sub hl [0, 1, 2, 3, 4] rfl)
        · have hm := hm.2 c66
          refine wl1_ind (G := fun (x4_58 : Int32) => ∀ (H : Heap) (locs : List Loc) (ls : Array Slot), wV D A s.heap (mW cy a S3) H locs → lv_has ls 6 [(0, .ref (a 0)), (1, .int x1), (2, .int x2_2), (3, .int v12), (4, .int x4_58)] → W p l e (rmN 1) s m args below meth c H locs 0 0 (MQ below (eV D cy A (mW cy a) Q) args s (rmN 1).cells (rmN 1).slots A) (F0 m 75 ls [])) ?_ _ hm H locs ls hw (lv_sub hl [0, 1, 2, 3, 4] rfl)
          intro L59 ih59 x4_58 hm H locs ls hw hl
          refine lv_iload hx hb dX9_splits_75 (lv_at hl 4 rfl) ?_
          refine lv_iload_n hx hb dX9_splits_77 rfl (lv_at hl 1 rfl) ?_
          refine lv_icmp_ge (tgt := 100) hx hb dX9_splits_78 (by decide) (fun c65 => ?_) (fun c65 => ?_)
          · have hm := hm.1 c65
            exact hJ21 _ hm _ _ _ hw (lv_sub hl [0, 1, 2, 3, 4] rfl)
          · have hm := hm.2 c65
            refine lv_aload_n hx hb dX9_splits_81 rfl (lv_at hl 0 rfl) ?_
            refine gF (k := 8) hc hw inX9 rfl 0 rfl (by decide) (gm 1067 (by decide +kernel) rfl) rfl dX9_splits_82 ?_
            refine lv_iload hx hb dX9_splits_85 (lv_at hl 4 rfl) ?_
            obtain ⟨c60, hm⟩ := hm
            refine aB hc hw 6 rfl c60 rfl dX9_splits_87 ?_
            refine zS_I (As := [.int (S3.2 8 (Int32.toNatClampNeg x4_58))]) (rest := []) hc hw (c_M_isDigit hm) lk_X9_140 ⟨Nat.le_of_ble_eq_true rfl, Nat.le_of_ble_eq_true rfl⟩ ⟨Nat.le_of_ble_eq_true rfl, Nat.le_of_ble_eq_true rfl⟩ hl.1 rfl (Nat.le_of_ble_eq_true rfl) rfl dX9_splits_88 (fun r61 H locs hm hw => ?_)
            refine lv_if_eq (tgt := 100) hx hb dX9_splits_91 (by decide) (fun c64 => ?_) (fun c64 => ?_)
            · have hm := hm.1 c64
              exact hJ21 _ hm _ _ _ hw (lv_sub hl [0, 1, 2, 3, 4] rfl)
            · have hm := hm.2 c64
              obtain ⟨v63, e_v63⟩ : ∃ z : Int32, z = x4_58 + 1 := ⟨_, rfl⟩
              have hm := hm v63 e_v63
              refine lv_iinc (v := v63) (lv' := [(4, .int v63), (0, .ref (a 0)), (1, .int x1), (2, .int x2_2), (3, .int v12)]) hx hb dX9_splits_94 hl (k := 4) rfl (by rw [e_v63]; rfl) (by decide) rfl (fun ls hl => ?_)
              refine lv_goto (tgt := 75) hx hb dX9_splits_97 (by decide) ?_
              exact ih59 _ hm _ _ _ hw (lv_sub hl [1, 2, 3, 4, 0] rfl)
      refine lv_if_eq (tgt := 68) hx hb dX9_splits_40 (by decide) (fun c75 => ?_) (fun c75 => ?_)
      · have hm := hm.1 c75
        exact hJ17 _ hm _ _ _ hw (lv_sub hl [3, 4, 2, 1, 0] rfl)
      · have hm := hm.2 c75
        refine wl1_ind (G := fun (x4_67 : Int32) => ∀ (H : Heap) (locs : List Loc) (ls : Array Slot), wV D A s.heap (mW cy a S3) H locs → lv_has ls 6 [(4, .int x4_67), (3, .int v12), (2, .int x2_2), (0, .ref (a 0)), (1, .int x1)] → W p l e (rmN 1) s m args below meth c H locs 0 0 (MQ below (eV D cy A (mW cy a) Q) args s (rmN 1).cells (rmN 1).slots A) (F0 m 43 ls [])) ?_ _ hm H locs ls hw (lv_sub hl [0, 1, 2, 3, 4] rfl)
        intro L68 ih68 x4_67 hm H locs ls hw hl
        refine lv_iload hx hb dX9_splits_43 (lv_at hl 0 rfl) ?_
        refine lv_iload_n hx hb dX9_splits_45 rfl (lv_at hl 4 rfl) ?_
        refine lv_icmp_ge (tgt := 68) hx hb dX9_splits_46 (by decide) (fun c74 => ?_) (fun c74 => ?_)
        · have hm := hm.1 c74
          exact hJ17 _ hm _ _ _ hw (lv_sub hl [3, 4, 2, 1, 0] rfl)
        · have hm := hm.2 c74
          refine lv_aload_n hx hb dX9_splits_49 rfl (lv_at hl 3 rfl) ?_
          refine gF (k := 8) hc hw inX9 rfl 0 rfl (by decide) (gm 1067 (by decide +kernel) rfl) rfl dX9_splits_50 ?_
          refine lv_iload hx hb dX9_splits_53 (lv_at hl 0 rfl) ?_
          obtain ⟨c69, hm⟩ := hm
          refine aB hc hw 6 rfl c69 rfl dX9_splits_55 ?_
          refine zS_I (As := [.int (S3.2 8 (Int32.toNatClampNeg x4_67))]) (rest := []) hc hw (c_M_isSmall hm) lk_X9_137 ⟨Nat.le_of_ble_eq_true rfl, Nat.le_of_ble_eq_true rfl⟩ ⟨Nat.le_of_ble_eq_true rfl, Nat.le_of_ble_eq_true rfl⟩ hl.1 rfl (Nat.le_of_ble_eq_true rfl) rfl dX9_splits_56 (fun r70 H locs hm hw => ?_)
          refine lv_if_eq (tgt := 68) hx hb dX9_splits_59 (by decide) (fun c73 => ?_) (fun c73 => ?_)
          · have hm := hm.1 c73
            exact hJ17 _ hm _ _ _ hw (lv_sub hl [3, 4, 2, 1, 0] rfl)
          · have hm := hm.2 c73
            obtain ⟨v72, e_v72⟩ : ∃ z : Int32, z = x4_67 + 1 := ⟨_, rfl⟩
            have hm := hm v72 e_v72
            refine lv_iinc (v := v72) (lv' := [(4, .int v72), (3, .int v12), (2, .int x2_2), (0, .ref (a 0)), (1, .int x1)]) hx hb dX9_splits_62 hl (k := 0) rfl (by rw [e_v72]; rfl) (by decide) rfl (fun ls hl => ?_)
            refine lv_goto (tgt := 43) hx hb dX9_splits_65 (by decide) ?_
            exact ih68 _ hm _ _ _ hw (lv_sub hl [0, 1, 2, 3, 4] rfl)
    · have hm := hm.2 c77
      obtain ⟨v76, e_v76⟩ : ∃ z : Int32, z = x2_2 + 1 := ⟨_, rfl⟩
      have hm := hm v76 e_v76
      refine lv_iinc (v := v76) (lv' := [(2, .int v76), (3, .int v12), (0, .ref (a 0)), (1, .int x1)]) hx hb dX9_splits_25 hl (k := 1) rfl (by rw [e_v76]; rfl) (by decide) rfl (fun ls hl => ?_)
      refine lv_goto (tgt := 7) hx hb dX9_splits_28 (by decide) ?_
      exact ih4 _ _ hm _ _ _ hw (lv_sub hl [0, 2, 3] rfl)
set_option maxHeartbeats 4000000 in
set_option maxRecDepth 100000 in
theorem c_M_fine {l : Launch} {D : va_G} {cy : Nat → ClassId} {a : Nat → Nat} {S : Ob} {Q : Int32 → Prop} (hm : wM_fine S Q) : CtI l yX9_fine cX9_fine 1 (some .boolean) (rmN 0) D cy [.ref (a 0)] (mW cy a S) (fun _ : Unit => mW cy a S) (fun (r : Int32) (_ : Unit) => Q r) := by
  refine CtI.ofW (by decide) (Nat.le_of_ble_eq_true rfl) ?_
  intro p e s m args below meth c A ls hc hnm hw hl
  have hx := hc.1.1
  have hb := hc.1.2.1
  have hown := hc.1.2.2.2.1
  have hts := hc.1.2.2.2.2
  have hl : lv_has ls 1 [(0, .ref (a 0))] := hl
  obtain ⟨H, hH⟩ : ∃ z, z = s.heap := ⟨_, rfl⟩
  obtain ⟨locs, hLc⟩ : ∃ z : List Loc, z = [] := ⟨_, rfl⟩
  have hw : wV D A s.heap (mW cy a S) H locs := by rw [hH, hLc]; exact hw
  have hgo : W p l e (rmN 0) s m args below meth c H locs 0 0 (MQ below (eI D cy A (fun _ : Unit => mW cy a S) (fun (r : Int32) (_ : Unit) => Q r)) args s (rmN 0).cells (rmN 0).slots A) (F0 m 0 ls []) := ?hgo
  · rw [hH, hLc] at hgo; exact hgo
  refine lv_aload_n hx hb dX9_fine_0 rfl (lv_at hl 0 rfl) ?_
  refine gF (k := 18) hc hw inX9 rfl 0 rfl (by decide) (gm 1077 (by decide +kernel) rfl) rfl dX9_fine_1 ?_
  refine lv_iconst (v := (-1)) hx hb dX9_fine_4 (by decide) ?_
  refine lv_icmp_ne (tgt := 12) hx hb dX9_fine_5 (by decide) (fun c1 => ?_) (fun c1 => ?_)
  · have hm := hm.1 c1
    refine lv_iconst (v := 0) hx hb dX9_fine_12 (by decide) ?_
    exact retZ (u := ()) hc hw rfl hm dX9_fine_13
  · have hm := hm.2 c1
    refine lv_iconst (v := 1) hx hb dX9_fine_8 (by decide) ?_
    refine lv_goto (tgt := 13) hx hb dX9_fine_9 (by decide) ?_
    exact retZ (u := ()) hc hw rfl hm dX9_fine_13
set_option maxHeartbeats 4000000 in
set_option maxRecDepth 100000 in
theorem c_M_faults {l : Launch} {D : va_G} {cy : Nat → ClassId} {a : Nat → Nat} {S : Ob} {Q : Ob → Prop} (hm : wM_faults S Q) : CtV l yX9_faults cX9_faults 1 none (rmN 1) D cy [.ref (a 0)] (mW cy a S) (mW cy a) Q := by
  refine CtV.ofW (by decide) (Nat.le_of_ble_eq_true rfl) ?_
  intro p e s m args below meth c A ls hc hnm hw hl
  have hx := hc.1.1
  have hb := hc.1.2.1
  have hown := hc.1.2.2.2.1
  have hts := hc.1.2.2.2.2
  have hl : lv_has ls 1 [(0, .ref (a 0))] := hl
  obtain ⟨H, hH⟩ : ∃ z, z = s.heap := ⟨_, rfl⟩
  obtain ⟨locs, hLc⟩ : ∃ z : List Loc, z = [] := ⟨_, rfl⟩
  have hw : wV D A s.heap (mW cy a S) H locs := by rw [hH, hLc]; exact hw
  have hgo : W p l e (rmN 1) s m args below meth c H locs 0 0 (MQ below (eV D cy A (mW cy a) Q) args s (rmN 1).cells (rmN 1).slots A) (F0 m 0 ls []) := ?hgo
  · rw [hH, hLc] at hgo; exact hgo
  refine lv_aload_n hx hb dX9_faults_0 rfl (lv_at hl 0 rfl) ?_
  refine aV_I (As := []) (rest := []) hc hw (c_M_fine hm) lk_X9_150 rfl rfl ⟨Nat.le_of_ble_eq_true rfl, Nat.le_of_ble_eq_true rfl⟩ ⟨Nat.le_of_ble_eq_true rfl, Nat.le_of_ble_eq_true rfl⟩ hl.1 rfl (Nat.le_of_ble_eq_true rfl) rfl dX9_faults_1 (fun r1 _ H locs hm hw => ?_)
  have hw : wV D A s.heap (mW cy a S) H locs := hw
  refine lv_if_eq (tgt := 20) hx hb dX9_faults_4 (by decide) (fun c5 => ?_) (fun c5 => ?_)
  · have hm := hm.1 c5
    exact retV (u := S) hc hw hm dX9_faults_20
  · have hm := hm.2 c5
    refine lv_aload_n hx hb dX9_faults_7 rfl (lv_at hl 0 rfl) ?_
    refine lv_aload_n hx hb dX9_faults_8 rfl (lv_at hl 0 rfl) ?_
    refine gF (k := 14) hc hw inX9 rfl 0 rfl (by decide) (gm 1073 (by decide +kernel) rfl) rfl dX9_faults_9 ?_
    refine lv_aload_n hx hb dX9_faults_12 rfl (lv_at hl 0 rfl) ?_
    refine gF (k := 16) hc hw inX9 rfl 0 rfl (by decide) (gm 1075 (by decide +kernel) rfl) rfl dX9_faults_13 ?_
    obtain ⟨c3, hm⟩ := hm
    refine aI hc hw 10 rfl c3 rfl dX9_faults_16 ?_
    refine pF (k := 18) (ty := .int) hc hw inX9 tyX9_ok nmX9 rfl 0 rfl (by decide) (gm 1077 (by decide +kernel) rfl) rfl (by decide +kernel) rfl rfl (Nat.le_of_ble_eq_true rfl) dX9_faults_17 (fun H locs hw => ?_)
    obtain ⟨S4, e_S4⟩ : ∃ z : Ob, z = uS S 18 (S.2 14 (Int32.toNatClampNeg (S.1 16))) := ⟨_, rfl⟩
    have hm := hm S4 e_S4
    have hw : wV D A s.heap (mW cy a S4) H locs := by rw [e_S4]; exact hw
    exact retV (u := S4) hc hw hm dX9_faults_20
set_option maxHeartbeats 4000000 in
set_option maxRecDepth 100000 in
theorem c_M_takes0 {l : Launch} {D : va_G} {cy : Nat → ClassId} {a : Nat → Nat} {S : Ob} {x1 : Int32} {Q : Int32 → Ob → Prop} (hm : wM_takes0 S x1 Q) : CtI l yX9_takes0 cX9_takes0 3 (some .boolean) (rmN 1) D cy [.ref (a 0), .int x1] (mW cy a S) (mW cy a) Q := by
  refine CtI.ofW (by decide) (Nat.le_of_ble_eq_true rfl) ?_
  intro p e s m args below meth c A ls hc hnm hw hl
  have hx := hc.1.1
  have hb := hc.1.2.1
  have hown := hc.1.2.2.2.1
  have hts := hc.1.2.2.2.2
  have hl : lv_has ls 3 [(0, .ref (a 0)), (1, .int x1)] := hl
  obtain ⟨H, hH⟩ : ∃ z, z = s.heap := ⟨_, rfl⟩
  obtain ⟨locs, hLc⟩ : ∃ z : List Loc, z = [] := ⟨_, rfl⟩
  have hw : wV D A s.heap (mW cy a S) H locs := by rw [hH, hLc]; exact hw
  have hgo : W p l e (rmN 1) s m args below meth c H locs 0 0 (MQ below (eI D cy A (mW cy a) Q) args s (rmN 1).cells (rmN 1).slots A) (F0 m 0 ls []) := ?hgo
  · rw [hH, hLc] at hgo; exact hgo
  refine lv_aload_n hx hb dX9_takes0_0 rfl (lv_at hl 0 rfl) ?_
  refine aV_I (As := []) (rest := []) hc hw (c_M_fine hm) lk_X9_150 rfl rfl ⟨Nat.le_of_ble_eq_true rfl, Nat.le_of_ble_eq_true rfl⟩ ⟨Nat.le_of_ble_eq_true rfl, Nat.le_of_ble_eq_true rfl⟩ hl.1 rfl (Nat.le_of_ble_eq_true rfl) rfl dX9_takes0_1 (fun r1 _ H locs hm hw => ?_)
  have hw : wV D A s.heap (mW cy a S) H locs := hw
  obtain ⟨J4, eJ4, hm⟩ := jn_e hm
  have hJ4 : ∀ (t3 : Int32) (_ : J4 t3) (H : Heap) (locs : List Loc) (ls : Array Slot), wV D A s.heap (mW cy a S) H locs → lv_has ls 3 [(0, .ref (a 0))] → W p l e (rmN 1) s m args below meth c H locs 0 0 (MQ below (eI D cy A (mW cy a) Q) args s (rmN 1).cells (rmN 1).slots A) (F0 m 25 ls [.int t3]) := by
    intro t3 hm H locs ls hw hl
    rw [eJ4] at hm
    refine lv_istore_n (lv' := [(2, .int t3), (0, .ref (a 0))]) hx hb dX9_takes0_25 rfl hl (by decide) rfl (fun ls hl => ?_)
    refine lv_iload_n hx hb dX9_takes0_26 rfl (lv_at hl 0 rfl) ?_
    refine lv_if_eq (tgt := 40) hx hb dX9_takes0_27 (by decide) (fun c6 => ?_) (fun c6 => ?_)
    · have hm := hm.1 c6
      refine lv_iload_n hx hb dX9_takes0_40 rfl (lv_at hl 0 rfl) ?_
      exact retZ (u := S) hc hw hm.1 hm.2 dX9_takes0_41
    · have hm := hm.2 c6
      refine lv_aload_n hx hb dX9_takes0_30 rfl (lv_at hl 1 rfl) ?_
      refine lv_dup hx hb dX9_takes0_31 rfl ?_
      refine gF (k := 16) hc hw inX9 rfl 0 rfl (by decide) (gm 1075 (by decide +kernel) rfl) rfl dX9_takes0_32 ?_
      refine lv_iconst (v := 1) hx hb dX9_takes0_35 (by decide) ?_
      refine lv_iadd hx hb dX9_takes0_36 ?_
      refine pF (k := 16) (ty := .int) hc hw inX9 tyX9_ok nmX9 rfl 0 rfl (by decide) (gm 1075 (by decide +kernel) rfl) rfl (by decide +kernel) rfl rfl (Nat.le_of_ble_eq_true rfl) dX9_takes0_37 (fun H locs hw => ?_)
      obtain ⟨S5, e_S5⟩ : ∃ z : Ob, z = uS S 16 ((S.1 16) + 1) := ⟨_, rfl⟩
      have hm := hm S5 e_S5
      have hw : wV D A s.heap (mW cy a S5) H locs := by rw [e_S5]; exact hw
      refine lv_iload_n hx hb dX9_takes0_40 rfl (lv_at hl 0 rfl) ?_
      exact retZ (u := S5) hc hw hm.1 hm.2 dX9_takes0_41
  obtain ⟨J8, eJ8, hm⟩ := jn_e hm
  have hJ8 : ∀ (z7 : Unit) (_ : J8 z7) (H : Heap) (locs : List Loc) (ls : Array Slot), wV D A s.heap (mW cy a S) H locs → lv_has ls 3 [(0, .ref (a 0))] → W p l e (rmN 1) s m args below meth c H locs 0 0 (MQ below (eI D cy A (mW cy a) Q) args s (rmN 1).cells (rmN 1).slots A) (F0 m 24 ls []) := by
    intro z7 hm H locs ls hw hl
    rw [eJ8] at hm
    refine lv_iconst (v := 0) hx hb dX9_takes0_24 (by decide) ?_
    exact hJ4 _ hm _ _ _ hw (lv_sub hl [0] rfl)
  refine lv_if_eq (tgt := 24) hx hb dX9_takes0_4 (by decide) (fun c11 => ?_) (fun c11 => ?_)
  · have hm := hm.1 c11
    exact hJ8 _ hm _ _ _ hw (lv_sub hl [0] rfl)
  · have hm := hm.2 c11
    refine lv_aload_n hx hb dX9_takes0_7 rfl (lv_at hl 0 rfl) ?_
    refine gF (k := 12) hc hw inX9 rfl 0 rfl (by decide) (gm 1071 (by decide +kernel) rfl) rfl dX9_takes0_8 ?_
    refine lv_aload_n hx hb dX9_takes0_11 rfl (lv_at hl 0 rfl) ?_
    refine gF (k := 16) hc hw inX9 rfl 0 rfl (by decide) (gm 1075 (by decide +kernel) rfl) rfl dX9_takes0_12 ?_
    obtain ⟨c9, hm⟩ := hm
    refine aI hc hw 8 rfl c9 rfl dX9_takes0_15 ?_
    refine lv_iload_n hx hb dX9_takes0_16 rfl (lv_at hl 1 rfl) ?_
    refine lv_icmp_ne (tgt := 24) hx hb dX9_takes0_17 (by decide) (fun c10 => ?_) (fun c10 => ?_)
    · have hm := hm.1 c10
      exact hJ8 _ hm _ _ _ hw (lv_sub hl [0] rfl)
    · have hm := hm.2 c10
      refine lv_iconst (v := 1) hx hb dX9_takes0_20 (by decide) ?_
      refine lv_goto (tgt := 25) hx hb dX9_takes0_21 (by decide) ?_
      exact hJ4 _ hm _ _ _ hw (lv_sub hl [0] rfl)
set_option maxHeartbeats 4000000 in
set_option maxRecDepth 100000 in
theorem c_M_must {l : Launch} {D : va_G} {cy : Nat → ClassId} {a : Nat → Nat} {S : Ob} {x1 : Int32} {Q : Ob → Prop} (hm : wM_must S x1 Q) : CtV l yX9_must cX9_must 2 none (rmN 2) D cy [.ref (a 0), .int x1] (mW cy a S) (mW cy a) Q := by
  refine CtV.ofW (by decide) (Nat.le_of_ble_eq_true rfl) ?_
  intro p e s m args below meth c A ls hc hnm hw hl
  have hx := hc.1.1
  have hb := hc.1.2.1
  have hown := hc.1.2.2.2.1
  have hts := hc.1.2.2.2.2
  have hl : lv_has ls 2 [(0, .ref (a 0)), (1, .int x1)] := hl
  obtain ⟨H, hH⟩ : ∃ z, z = s.heap := ⟨_, rfl⟩
  obtain ⟨locs, hLc⟩ : ∃ z : List Loc, z = [] := ⟨_, rfl⟩
  have hw : wV D A s.heap (mW cy a S) H locs := by rw [hH, hLc]; exact hw
  have hgo : W p l e (rmN 2) s m args below meth c H locs 0 0 (MQ below (eV D cy A (mW cy a) Q) args s (rmN 2).cells (rmN 2).slots A) (F0 m 0 ls []) := ?hgo
  · rw [hH, hLc] at hgo; exact hgo
  refine lv_aload_n hx hb dX9_must_0 rfl (lv_at hl 0 rfl) ?_
  refine lv_iload_n hx hb dX9_must_1 rfl (lv_at hl 1 rfl) ?_
  refine aV_I (As := [.int x1]) (rest := []) hc hw (c_M_takes0 hm) lk_X9_157 rfl rfl ⟨Nat.le_of_ble_eq_true rfl, Nat.le_of_ble_eq_true rfl⟩ ⟨Nat.le_of_ble_eq_true rfl, Nat.le_of_ble_eq_true rfl⟩ hl.1 rfl (Nat.le_of_ble_eq_true rfl) rfl dX9_must_2 (fun r1 S2 H locs hm hw => ?_)
  have hw : wV D A s.heap (mW cy a S2) H locs := hw
  refine lv_if_ne (tgt := 12) hx hb dX9_must_5 (by decide) (fun c6 => ?_) (fun c6 => ?_)
  · have hm := hm.1 c6
    exact retV (u := S2) hc hw hm dX9_must_12
  · have hm := hm.2 c6
    refine lv_aload_n hx hb dX9_must_8 rfl (lv_at hl 0 rfl) ?_
    refine aV_V (As := []) (rest := []) hc hw (c_M_faults hm) lk_X9_160 rfl rfl ⟨Nat.le_of_ble_eq_true rfl, Nat.le_of_ble_eq_true rfl⟩ ⟨Nat.le_of_ble_eq_true rfl, Nat.le_of_ble_eq_true rfl⟩ hl.1 rfl (Nat.le_of_ble_eq_true rfl) rfl dX9_must_9 (fun S4 H locs hm hw => ?_)
    have hw : wV D A s.heap (mW cy a S4) H locs := hw
    exact retV (u := S4) hc hw hm dX9_must_12
set_option maxHeartbeats 4000000 in
set_option maxRecDepth 100000 in
theorem c_M_leaf {l : Launch} {D : va_G} {cy : Nat → ClassId} {a : Nat → Nat} {S : Ob} {Q : Ob → Prop} (hm : wM_leaf S Q) : CtV l yX9_leaf cX9_leaf 1 none (rmN 2) D cy [.ref (a 0)] (mW cy a S) (mW cy a) Q := by
  refine CtV.ofW (by decide) (Nat.le_of_ble_eq_true rfl) ?_
  intro p e s m args below meth c A ls hc hnm hw hl
  have hx := hc.1.1
  have hb := hc.1.2.1
  have hown := hc.1.2.2.2.1
  have hts := hc.1.2.2.2.2
  have hl : lv_has ls 1 [(0, .ref (a 0))] := hl
  obtain ⟨H, hH⟩ : ∃ z, z = s.heap := ⟨_, rfl⟩
  obtain ⟨locs, hLc⟩ : ∃ z : List Loc, z = [] := ⟨_, rfl⟩
  have hw : wV D A s.heap (mW cy a S) H locs := by rw [hH, hLc]; exact hw
  have hgo : W p l e (rmN 2) s m args below meth c H locs 0 0 (MQ below (eV D cy A (mW cy a) Q) args s (rmN 2).cells (rmN 2).slots A) (F0 m 0 ls []) := ?hgo
  · rw [hH, hLc] at hgo; exact hgo
  refine lv_aload_n hx hb dX9_leaf_0 rfl (lv_at hl 0 rfl) ?_
  refine gF (k := 17) hc hw inX9 rfl 0 rfl (by decide) (gm 1076 (by decide +kernel) rfl) rfl dX9_leaf_1 ?_
  refine lv_bipush (v := 50) hx hb dX9_leaf_4 (by decide) ?_
  obtain ⟨J2, eJ2, hm⟩ := jn_e hm
  have hJ2 : ∀ (S1 : Ob) (_ : J2 S1) (H : Heap) (locs : List Loc) (ls : Array Slot), wV D A s.heap (mW cy a S1) H locs → lv_has ls 1 [(0, .ref (a 0))] → W p l e (rmN 2) s m args below meth c H locs 0 0 (MQ below (eV D cy A (mW cy a) Q) args s (rmN 2).cells (rmN 2).slots A) (F0 m 13 ls []) := by
    intro S1 hm H locs ls hw hl
    rw [eJ2] at hm
    refine lv_aload_n hx hb dX9_leaf_13 rfl (lv_at hl 0 rfl) ?_
    refine lv_dup hx hb dX9_leaf_14 rfl ?_
    refine gF (k := 17) hc hw inX9 rfl 0 rfl (by decide) (gm 1076 (by decide +kernel) rfl) rfl dX9_leaf_15 ?_
    refine lv_iconst (v := 1) hx hb dX9_leaf_18 (by decide) ?_
    refine lv_iadd hx hb dX9_leaf_19 ?_
    refine pF (k := 17) (ty := .int) hc hw inX9 tyX9_ok nmX9 rfl 0 rfl (by decide) (gm 1076 (by decide +kernel) rfl) rfl (by decide +kernel) rfl rfl (Nat.le_of_ble_eq_true rfl) dX9_leaf_20 (fun H locs hw => ?_)
    obtain ⟨S3, e_S3⟩ : ∃ z : Ob, z = uS S1 17 ((S1.1 17) + 1) := ⟨_, rfl⟩
    have hm := hm S3 e_S3
    have hw : wV D A s.heap (mW cy a S3) H locs := by rw [e_S3]; exact hw
    refine lv_aload_n hx hb dX9_leaf_23 rfl (lv_at hl 0 rfl) ?_
    refine aV_I (As := []) (rest := []) hc hw (c_M_fine hm) lk_X9_150 rfl rfl ⟨Nat.le_of_ble_eq_true rfl, Nat.le_of_ble_eq_true rfl⟩ ⟨Nat.le_of_ble_eq_true rfl, Nat.le_of_ble_eq_true rfl⟩ hl.1 rfl (Nat.le_of_ble_eq_true rfl) rfl dX9_leaf_24 (fun r4 _ H locs hm hw => ?_)
    have hw : wV D A s.heap (mW cy a S3) H locs := hw
    refine lv_if_eq (tgt := 40) hx hb dX9_leaf_27 (by decide) (fun c7 => ?_) (fun c7 => ?_)
    · have hm := hm.1 c7
      exact retV (u := S3) hc hw hm dX9_leaf_40
    · have hm := hm.2 c7
      refine lv_aload_n hx hb dX9_leaf_30 rfl (lv_at hl 0 rfl) ?_
      refine lv_dup hx hb dX9_leaf_31 rfl ?_
      refine gF (k := 16) hc hw inX9 rfl 0 rfl (by decide) (gm 1075 (by decide +kernel) rfl) rfl dX9_leaf_32 ?_
      refine lv_iconst (v := 1) hx hb dX9_leaf_35 (by decide) ?_
      refine lv_iadd hx hb dX9_leaf_36 ?_
      refine pF (k := 16) (ty := .int) hc hw inX9 tyX9_ok nmX9 rfl 0 rfl (by decide) (gm 1075 (by decide +kernel) rfl) rfl (by decide +kernel) rfl rfl (Nat.le_of_ble_eq_true rfl) dX9_leaf_37 (fun H locs hw => ?_)
      obtain ⟨S6, e_S6⟩ : ∃ z : Ob, z = uS S3 16 ((S3.1 16) + 1) := ⟨_, rfl⟩
      have hm := hm S6 e_S6
      have hw : wV D A s.heap (mW cy a S6) H locs := by rw [e_S6]; exact hw
      exact retV (u := S6) hc hw hm dX9_leaf_40
  refine lv_icmp_ne (tgt := 13) hx hb dX9_leaf_6 (by decide) (fun c10 => ?_) (fun c10 => ?_)
  · have hm := hm.1 c10
    exact hJ2 _ hm _ _ _ hw (lv_sub hl [0] rfl)
  · have hm := hm.2 c10
    refine lv_aload_n hx hb dX9_leaf_9 rfl (lv_at hl 0 rfl) ?_
    refine aV_V (As := []) (rest := []) hc hw (c_M_faults hm) lk_X9_160 rfl rfl ⟨Nat.le_of_ble_eq_true rfl, Nat.le_of_ble_eq_true rfl⟩ ⟨Nat.le_of_ble_eq_true rfl, Nat.le_of_ble_eq_true rfl⟩ hl.1 rfl (Nat.le_of_ble_eq_true rfl) rfl dX9_leaf_10 (fun S8 H locs hm hw => ?_)
    have hw : wV D A s.heap (mW cy a S8) H locs := hw
    exact hJ2 _ hm _ _ _ hw (lv_sub hl [0] rfl)
set_option maxHeartbeats 4000000 in
set_option maxRecDepth 100000 in
theorem c_M_sign {l : Launch} {D : va_G} {cy : Nat → ClassId} {x0 : Int32} {Q : Int32 → Prop} (hm : wM_sign x0 Q) : CtI l yX9_sign cX9_sign 1 (some .int) (rmN 0) D cy [.int x0] [] (fun _ : Unit => ([] : va_W)) (fun (r : Int32) (_ : Unit) => Q r) := by
  refine CtI.ofW (by decide) (Nat.le_of_ble_eq_true rfl) ?_
  intro p e s m args below meth c A ls hc hnm hw hl
  have hx := hc.1.1
  have hb := hc.1.2.1
  have hown := hc.1.2.2.2.1
  have hts := hc.1.2.2.2.2
  have hl : lv_has ls 1 [(0, .int x0)] := hl
  obtain ⟨H, hH⟩ : ∃ z, z = s.heap := ⟨_, rfl⟩
  obtain ⟨locs, hLc⟩ : ∃ z : List Loc, z = [] := ⟨_, rfl⟩
  have hw : wV D A s.heap ([] : va_W) H locs := by rw [hH, hLc]; exact hw
  have hgo : W p l e (rmN 0) s m args below meth c H locs 0 0 (MQ below (eI D cy A (fun _ : Unit => ([] : va_W)) (fun (r : Int32) (_ : Unit) => Q r)) args s (rmN 0).cells (rmN 0).slots A) (F0 m 0 ls []) := ?hgo
  · rw [hH, hLc] at hgo; exact hgo
  refine lv_bipush (v := 100) hx hb dX9_sign_0 (by decide) ?_
  refine lv_iload_n hx hb dX9_sign_2 rfl (lv_at hl 0 rfl) ?_
  refine lv_iadd hx hb dX9_sign_3 ?_
  exact retI (u := ()) hc hw hm dX9_sign_4
set_option maxHeartbeats 4000000 in
set_option maxRecDepth 100000 in
theorem c_M_readPart {l : Launch} {D : va_G} {cy : Nat → ClassId} {a : Nat → Nat} {S : Ob} {x1 : Int32} {Q : Ob → Prop} {rec : Ob → Int32 → (Ob → Prop) → Prop} {k : Nat} (hk : 3 ≤ k) (hrec : ∀ {S : Ob} {x1 : Int32} {Q : Ob → Prop}, rec S x1 Q → CtV l yX9_readSum cX9_readSum 2 none (rmN k) D cy [.ref (a 0), .int x1] (mW cy a S) (mW cy a) Q) (hm : wM_readPart rec S x1 Q) : CtV l yX9_readPart cX9_readPart 3 none (rmN (k + 1)) D cy [.ref (a 0), .int x1] (mW cy a S) (mW cy a) Q := by
  refine CtV.ofW (by decide) (Nat.le_of_ble_eq_true rfl) ?_
  intro p e s m args below meth c A ls hc hnm hw hl
  have hx := hc.1.1
  have hb := hc.1.2.1
  have hown := hc.1.2.2.2.1
  have hts := hc.1.2.2.2.2
  have hl : lv_has ls 3 [(0, .ref (a 0)), (1, .int x1)] := hl
  obtain ⟨H, hH⟩ : ∃ z, z = s.heap := ⟨_, rfl⟩
  obtain ⟨locs, hLc⟩ : ∃ z : List Loc, z = [] := ⟨_, rfl⟩
  have hw : wV D A s.heap (mW cy a S) H locs := by rw [hH, hLc]; exact hw
  have hgo : W p l e (rmN (k + 1)) s m args below meth c H locs 0 0 (MQ below (eV D cy A (mW cy a) Q) args s (rmN (k + 1)).cells (rmN (k + 1)).slots A) (F0 m 0 ls []) := ?hgo
  · rw [hH, hLc] at hgo; exact hgo
  refine lv_aload_n hx hb dX9_readPart_0 rfl (lv_at hl 0 rfl) ?_
  refine aV_I (As := []) (rest := []) hc hw (c_M_fine hm) lk_X9_150 rfl rfl (rm_ok (by omega) (by omega)) ⟨Nat.le_of_ble_eq_true rfl, Nat.le_of_ble_eq_true rfl⟩ hl.1 rfl (Nat.le_of_ble_eq_true rfl) rfl dX9_readPart_1 (fun r1 _ H locs hm hw => ?_)
  have hw : wV D A s.heap (mW cy a S) H locs := hw
  refine lv_if_ne (tgt := 8) hx hb dX9_readPart_4 (by decide) (fun c38 => ?_) (fun c38 => ?_)
  · have hm := hm.1 c38
    refine lv_aload_n hx hb dX9_readPart_8 rfl (lv_at hl 0 rfl) ?_
    refine gF (k := 12) hc hw inX9 rfl 0 rfl (by decide) (gm 1071 (by decide +kernel) rfl) rfl dX9_readPart_9 ?_
    refine lv_aload_n hx hb dX9_readPart_12 rfl (lv_at hl 0 rfl) ?_
    refine gF (k := 16) hc hw inX9 rfl 0 rfl (by decide) (gm 1075 (by decide +kernel) rfl) rfl dX9_readPart_13 ?_
    obtain ⟨c3, hm⟩ := hm
    refine aI hc hw 8 rfl c3 rfl dX9_readPart_16 ?_
    refine lv_topi (fun v4 e_v4 => ?_)
    have hm := hm v4 e_v4
    refine lv_istore_n (lv' := [(2, .int v4), (0, .ref (a 0)), (1, .int x1)]) hx hb dX9_readPart_17 rfl hl (by decide) rfl (fun ls hl => ?_)
    refine lv_iload_n hx hb dX9_readPart_18 rfl (lv_at hl 0 rfl) ?_
    refine lv_bipush (v := 91) hx hb dX9_readPart_19 (by decide) ?_
    refine zS_I (As := [.int 91]) (rest := [.int v4]) hc hw (c_M_sign hm) lk_X9_182 (rm_ok (by omega) (by omega)) ⟨Nat.le_of_ble_eq_true rfl, Nat.le_of_ble_eq_true rfl⟩ hl.1 rfl (Nat.le_of_ble_eq_true rfl) rfl dX9_readPart_21 (fun r5 H locs hm hw => ?_)
    refine lv_icmp_ne (tgt := 74) hx hb dX9_readPart_24 (by decide) (fun c37 => ?_) (fun c37 => ?_)
    · have hm := hm.1 c37
      refine lv_iload_n hx hb dX9_readPart_74 rfl (lv_at hl 0 rfl) ?_
      refine lv_bipush (v := 50) hx hb dX9_readPart_75 (by decide) ?_
      obtain ⟨J8, eJ8, hm⟩ := jn_e hm
      have hJ8 : ∀ (z7 : Unit) (_ : J8 z7) (H : Heap) (locs : List Loc) (ls : Array Slot), wV D A s.heap (mW cy a S) H locs → lv_has ls 3 [(0, .ref (a 0))] → W p l e (rmN (k + 1)) s m args below meth c H locs 0 0 (MQ below (eV D cy A (mW cy a) Q) args s (rmN (k + 1)).cells (rmN (k + 1)).slots A) (F0 m 107 ls []) := by
        intro z7 hm H locs ls hw hl
        rw [eJ8] at hm
        refine lv_aload_n hx hb dX9_readPart_107 rfl (lv_at hl 0 rfl) ?_
        refine aV_V (As := []) (rest := []) hc hw (c_M_leaf hm) lk_X9_192 rfl rfl (rm_ok (by omega) (by omega)) ⟨Nat.le_of_ble_eq_true rfl, Nat.le_of_ble_eq_true rfl⟩ hl.1 rfl (Nat.le_of_ble_eq_true rfl) rfl dX9_readPart_108 (fun S9 H locs hm hw => ?_)
        have hw : wV D A s.heap (mW cy a S9) H locs := hw
        refine lv_goto (tgt := 118) hx hb dX9_readPart_111 (by decide) ?_
        exact retV (u := S9) hc hw hm dX9_readPart_118
      obtain ⟨J12, eJ12, hm⟩ := jn_e hm
      have hJ12 : ∀ (z11 : Unit) (_ : J12 z11) (H : Heap) (locs : List Loc) (ls : Array Slot), wV D A s.heap (mW cy a S) H locs → lv_has ls 3 [(0, .ref (a 0)), (2, .int v4)] → W p l e (rmN (k + 1)) s m args below meth c H locs 0 0 (MQ below (eV D cy A (mW cy a) Q) args s (rmN (k + 1)).cells (rmN (k + 1)).slots A) (F0 m 95 ls []) := by
        intro z11 hm H locs ls hw hl
        rw [eJ12] at hm
        refine lv_iload_n hx hb dX9_readPart_95 rfl (lv_at hl 1 rfl) ?_
        refine lv_bipush (v := 8) hx hb dX9_readPart_96 (by decide) ?_
        obtain ⟨J14, eJ14, hm⟩ := jn_e hm
        have hJ14 : ∀ (z13 : Unit) (_ : J14 z13) (H : Heap) (locs : List Loc) (ls : Array Slot), wV D A s.heap (mW cy a S) H locs → lv_has ls 3 [(0, .ref (a 0))] → W p l e (rmN (k + 1)) s m args below meth c H locs 0 0 (MQ below (eV D cy A (mW cy a) Q) args s (rmN (k + 1)).cells (rmN (k + 1)).slots A) (F0 m 114 ls []) := by
          intro z13 hm H locs ls hw hl
          rw [eJ14] at hm
          refine lv_aload_n hx hb dX9_readPart_114 rfl (lv_at hl 0 rfl) ?_
          refine aV_V (As := []) (rest := []) hc hw (c_M_faults hm) lk_X9_160 rfl rfl (rm_ok (by omega) (by omega)) ⟨Nat.le_of_ble_eq_true rfl, Nat.le_of_ble_eq_true rfl⟩ hl.1 rfl (Nat.le_of_ble_eq_true rfl) rfl dX9_readPart_115 (fun S15 H locs hm hw => ?_)
          have hw : wV D A s.heap (mW cy a S15) H locs := hw
          exact retV (u := S15) hc hw hm dX9_readPart_118
        refine lv_icmp_lt (tgt := 114) hx hb dX9_readPart_98 (by decide) (fun c18 => ?_) (fun c18 => ?_)
        · have hm := hm.1 c18
          exact hJ14 _ hm _ _ _ hw (lv_sub hl [0] rfl)
        · have hm := hm.2 c18
          refine lv_iload_n hx hb dX9_readPart_101 rfl (lv_at hl 1 rfl) ?_
          refine lv_bipush (v := 15) hx hb dX9_readPart_102 (by decide) ?_
          refine lv_icmp_gt (tgt := 114) hx hb dX9_readPart_104 (by decide) (fun c17 => ?_) (fun c17 => ?_)
          · have hm := hm.1 c17
            exact hJ14 _ hm _ _ _ hw (lv_sub hl [0] rfl)
          · have hm := hm.2 c17
            exact hJ8 _ hm _ _ _ hw (lv_sub hl [0] rfl)
      refine lv_icmp_ne (tgt := 95) hx hb dX9_readPart_77 (by decide) (fun c21 => ?_) (fun c21 => ?_)
      · have hm := hm.1 c21
        exact hJ12 _ hm _ _ _ hw (lv_sub hl [1, 0] rfl)
      · have hm := hm.2 c21
        refine lv_aload_n hx hb dX9_readPart_80 rfl (lv_at hl 1 rfl) ?_
        refine gF (k := 13) hc hw inX9 rfl 0 rfl (by decide) (gm 1072 (by decide +kernel) rfl) rfl dX9_readPart_81 ?_
        refine lv_aload_n hx hb dX9_readPart_84 rfl (lv_at hl 1 rfl) ?_
        refine gF (k := 16) hc hw inX9 rfl 0 rfl (by decide) (gm 1075 (by decide +kernel) rfl) rfl dX9_readPart_85 ?_
        obtain ⟨c19, hm⟩ := hm
        refine aI hc hw 9 rfl c19 rfl dX9_readPart_88 ?_
        refine lv_sipush (v := 2000) hx hb dX9_readPart_89 (by decide) ?_
        refine lv_icmp_le (tgt := 107) hx hb dX9_readPart_92 (by decide) (fun c20 => ?_) (fun c20 => ?_)
        · have hm := hm.1 c20
          exact hJ8 _ hm _ _ _ hw (lv_sub hl [1] rfl)
        · have hm := hm.2 c20
          exact hJ12 _ hm _ _ _ hw (lv_sub hl [1, 0] rfl)
    · have hm := hm.2 c37
      refine lv_iload_n hx hb dX9_readPart_27 rfl (lv_at hl 2 rfl) ?_
      refine lv_bipush (v := 8) hx hb dX9_readPart_28 (by decide) ?_
      obtain ⟨J23, eJ23, hm⟩ := jn_e hm
      have hJ23 : ∀ (S22 : Ob) (_ : J23 S22) (H : Heap) (locs : List Loc) (ls : Array Slot), wV D A s.heap (mW cy a S22) H locs → lv_has ls 3 [(0, .ref (a 0)), (1, .int x1)] → W p l e (rmN (k + 1)) s m args below meth c H locs 0 0 (MQ below (eV D cy A (mW cy a) Q) args s (rmN (k + 1)).cells (rmN (k + 1)).slots A) (F0 m 37 ls []) := by
        intro S22 hm H locs ls hw hl
        rw [eJ23] at hm
        refine lv_aload_n hx hb dX9_readPart_37 rfl (lv_at hl 0 rfl) ?_
        refine aV_I (As := []) (rest := []) hc hw (c_M_fine hm) lk_X9_150 rfl rfl (rm_ok (by omega) (by omega)) ⟨Nat.le_of_ble_eq_true rfl, Nat.le_of_ble_eq_true rfl⟩ hl.1 rfl (Nat.le_of_ble_eq_true rfl) rfl dX9_readPart_38 (fun r24 _ H locs hm hw => ?_)
        have hw : wV D A s.heap (mW cy a S22) H locs := hw
        refine lv_if_ne (tgt := 45) hx hb dX9_readPart_41 (by decide) (fun c33 => ?_) (fun c33 => ?_)
        · have hm := hm.1 c33
          refine lv_aload_n hx hb dX9_readPart_45 rfl (lv_at hl 0 rfl) ?_
          refine lv_dup hx hb dX9_readPart_46 rfl ?_
          refine gF (k := 16) hc hw inX9 rfl 0 rfl (by decide) (gm 1075 (by decide +kernel) rfl) rfl dX9_readPart_47 ?_
          refine lv_iconst (v := 1) hx hb dX9_readPart_50 (by decide) ?_
          refine lv_iadd hx hb dX9_readPart_51 ?_
          refine pF (k := 16) (ty := .int) hc hw inX9 tyX9_ok nmX9 rfl 0 rfl (by decide) (gm 1075 (by decide +kernel) rfl) rfl (by decide +kernel) rfl rfl (Nat.le_of_ble_eq_true rfl) dX9_readPart_52 (fun H locs hw => ?_)
          obtain ⟨S26, e_S26⟩ : ∃ z : Ob, z = uS S22 16 ((S22.1 16) + 1) := ⟨_, rfl⟩
          have hm := hm S26 e_S26
          have hw : wV D A s.heap (mW cy a S26) H locs := by rw [e_S26]; exact hw
          refine lv_aload_n hx hb dX9_readPart_55 rfl (lv_at hl 0 rfl) ?_
          refine lv_iload_n hx hb dX9_readPart_56 rfl (lv_at hl 1 rfl) ?_
          refine lv_iconst (v := 1) hx hb dX9_readPart_57 (by decide) ?_
          refine lv_iadd hx hb dX9_readPart_58 ?_
          refine aV_V (As := [.int (x1 + 1)]) (rest := []) hc hw (hrec hm) lk_X9_166 rfl rfl (rm_ok (by omega) (by omega)) ⟨Nat.le_of_ble_eq_true rfl, Nat.le_of_ble_eq_true rfl⟩ hl.1 rfl (Nat.le_of_ble_eq_true rfl) rfl dX9_readPart_59 (fun S27 H locs hm hw => ?_)
          have hw : wV D A s.heap (mW cy a S27) H locs := hw
          refine lv_aload_n hx hb dX9_readPart_62 rfl (lv_at hl 0 rfl) ?_
          refine lv_bipush (v := 93) hx hb dX9_readPart_63 (by decide) ?_
          refine zS_I (As := [.int 93]) (rest := [.ref (a 0)]) hc hw (c_M_sign hm) lk_X9_182 (rm_ok (by omega) (by omega)) ⟨Nat.le_of_ble_eq_true rfl, Nat.le_of_ble_eq_true rfl⟩ hl.1 rfl (Nat.le_of_ble_eq_true rfl) rfl dX9_readPart_65 (fun r29 H locs hm hw => ?_)
          refine aV_V (As := [.int r29]) (rest := []) hc hw (c_M_must hm) lk_X9_170 rfl rfl (rm_ok (by omega) (by omega)) ⟨Nat.le_of_ble_eq_true rfl, Nat.le_of_ble_eq_true rfl⟩ hl.1 rfl (Nat.le_of_ble_eq_true rfl) rfl dX9_readPart_68 (fun S31 H locs hm hw => ?_)
          have hw : wV D A s.heap (mW cy a S31) H locs := hw
          refine lv_goto (tgt := 118) hx hb dX9_readPart_71 (by decide) ?_
          exact retV (u := S31) hc hw hm dX9_readPart_118
        · have hm := hm.2 c33
          exact retV (u := S22) hc hw hm dX9_readPart_44
      refine lv_icmp_ne (tgt := 37) hx hb dX9_readPart_30 (by decide) (fun c36 => ?_) (fun c36 => ?_)
      · have hm := hm.1 c36
        exact hJ23 _ hm _ _ _ hw (lv_sub hl [1, 2] rfl)
      · have hm := hm.2 c36
        refine lv_aload_n hx hb dX9_readPart_33 rfl (lv_at hl 1 rfl) ?_
        refine aV_V (As := []) (rest := []) hc hw (c_M_faults hm) lk_X9_160 rfl rfl (rm_ok (by omega) (by omega)) ⟨Nat.le_of_ble_eq_true rfl, Nat.le_of_ble_eq_true rfl⟩ hl.1 rfl (Nat.le_of_ble_eq_true rfl) rfl dX9_readPart_34 (fun S34 H locs hm hw => ?_)
        have hw : wV D A s.heap (mW cy a S34) H locs := hw
        exact hJ23 _ hm _ _ _ hw (lv_sub hl [1, 2] rfl)
  · have hm := hm.2 c38
    exact retV (u := S) hc hw hm dX9_readPart_7
set_option maxHeartbeats 4000000 in
set_option maxRecDepth 100000 in
theorem c_M_readTerm {l : Launch} {D : va_G} {cy : Nat → ClassId} {a : Nat → Nat} {S : Ob} {x1 : Int32} {Q : Ob → Prop} {rec : Ob → Int32 → (Ob → Prop) → Prop} {k : Nat} (hk : 3 ≤ k) (hrec : ∀ {S : Ob} {x1 : Int32} {Q : Ob → Prop}, rec S x1 Q → CtV l yX9_readSum cX9_readSum 2 none (rmN k) D cy [.ref (a 0), .int x1] (mW cy a S) (mW cy a) Q) (hm : wM_readTerm rec S x1 Q) : CtV l yX9_readTerm cX9_readTerm 2 none (rmN (k + 2)) D cy [.ref (a 0), .int x1] (mW cy a S) (mW cy a) Q := by
  refine CtV.ofW (by decide) (Nat.le_of_ble_eq_true rfl) ?_
  intro p e s m args below meth c A ls hc hnm hw hl
  have hx := hc.1.1
  have hb := hc.1.2.1
  have hown := hc.1.2.2.2.1
  have hts := hc.1.2.2.2.2
  have hl : lv_has ls 2 [(0, .ref (a 0)), (1, .int x1)] := hl
  obtain ⟨H, hH⟩ : ∃ z, z = s.heap := ⟨_, rfl⟩
  obtain ⟨locs, hLc⟩ : ∃ z : List Loc, z = [] := ⟨_, rfl⟩
  have hw : wV D A s.heap (mW cy a S) H locs := by rw [hH, hLc]; exact hw
  have hgo : W p l e (rmN (k + 2)) s m args below meth c H locs 0 0 (MQ below (eV D cy A (mW cy a) Q) args s (rmN (k + 2)).cells (rmN (k + 2)).slots A) (F0 m 0 ls []) := ?hgo
  · rw [hH, hLc] at hgo; exact hgo
  refine lv_aload_n hx hb dX9_readTerm_0 rfl (lv_at hl 0 rfl) ?_
  refine lv_iload_n hx hb dX9_readTerm_1 rfl (lv_at hl 1 rfl) ?_
  refine aV_V (As := [.int x1]) (rest := []) hc hw (c_M_readPart hk hrec hm) lk_X9_189 rfl rfl (rm_ok (by omega) (by omega)) ⟨Nat.le_of_ble_eq_true rfl, Nat.le_of_ble_eq_true rfl⟩ hl.1 rfl (Nat.le_of_ble_eq_true rfl) rfl dX9_readTerm_2 (fun S1 H locs hm hw => ?_)
  have hw : wV D A s.heap (mW cy a S1) H locs := hw
  refine wl1_ind (G := fun (S3 : Ob) => ∀ (H : Heap) (locs : List Loc) (ls : Array Slot), wV D A s.heap (mW cy a S3) H locs → lv_has ls 2 [(0, .ref (a 0)), (1, .int x1)] → W p l e (rmN (k + 2)) s m args below meth c H locs 0 0 (MQ below (eV D cy A (mW cy a) Q) args s (rmN (k + 2)).cells (rmN (k + 2)).slots A) (F0 m 5 ls [])) ?_ _ hm H locs ls hw (lv_sub hl [0, 1] rfl)
  intro L4 ih4 S3 hm H locs ls hw hl
  refine lv_aload_n hx hb dX9_readTerm_5 rfl (lv_at hl 0 rfl) ?_
  refine lv_bipush (v := 42) hx hb dX9_readTerm_6 (by decide) ?_
  refine zS_I (As := [.int 42]) (rest := [.ref (a 0)]) hc hw (c_M_sign hm) lk_X9_182 (rm_ok (by omega) (by omega)) ⟨Nat.le_of_ble_eq_true rfl, Nat.le_of_ble_eq_true rfl⟩ hl.1 rfl (Nat.le_of_ble_eq_true rfl) rfl dX9_readTerm_8 (fun r5 H locs hm hw => ?_)
  refine aV_I (As := [.int r5]) (rest := []) hc hw (c_M_takes0 hm) lk_X9_157 rfl rfl (rm_ok (by omega) (by omega)) ⟨Nat.le_of_ble_eq_true rfl, Nat.le_of_ble_eq_true rfl⟩ hl.1 rfl (Nat.le_of_ble_eq_true rfl) rfl dX9_readTerm_11 (fun r7 S8 H locs hm hw => ?_)
  have hw : wV D A s.heap (mW cy a S8) H locs := hw
  obtain ⟨J11, eJ11, hm⟩ := jn_e hm
  have hJ11 : ∀ (S10 : Ob) (_ : J11 S10) (H : Heap) (locs : List Loc) (ls : Array Slot), wV D A s.heap (mW cy a S10) H locs → lv_has ls 2 [(0, .ref (a 0)), (1, .int x1)] → W p l e (rmN (k + 2)) s m args below meth c H locs 0 0 (MQ below (eV D cy A (mW cy a) Q) args s (rmN (k + 2)).cells (rmN (k + 2)).slots A) (F0 m 29 ls []) := by
    intro S10 hm H locs ls hw hl
    rw [eJ11] at hm
    refine lv_aload_n hx hb dX9_readTerm_29 rfl (lv_at hl 0 rfl) ?_
    refine lv_iload_n hx hb dX9_readTerm_30 rfl (lv_at hl 1 rfl) ?_
    refine aV_V (As := [.int x1]) (rest := []) hc hw (c_M_readPart hk hrec hm) lk_X9_189 rfl rfl (rm_ok (by omega) (by omega)) ⟨Nat.le_of_ble_eq_true rfl, Nat.le_of_ble_eq_true rfl⟩ hl.1 rfl (Nat.le_of_ble_eq_true rfl) rfl dX9_readTerm_31 (fun S12 H locs hm hw => ?_)
    have hw : wV D A s.heap (mW cy a S12) H locs := hw
    refine lv_goto (tgt := 5) hx hb dX9_readTerm_34 (by decide) ?_
    exact ih4 _ hm _ _ _ hw (lv_sub hl [0, 1] rfl)
  refine lv_if_ne (tgt := 29) hx hb dX9_readTerm_14 (by decide) (fun c20 => ?_) (fun c20 => ?_)
  · have hm := hm.1 c20
    exact hJ11 _ hm _ _ _ hw (lv_sub hl [0, 1] rfl)
  · have hm := hm.2 c20
    refine lv_aload_n hx hb dX9_readTerm_17 rfl (lv_at hl 0 rfl) ?_
    refine lv_bipush (v := 47) hx hb dX9_readTerm_18 (by decide) ?_
    refine zS_I (As := [.int 47]) (rest := [.ref (a 0)]) hc hw (c_M_sign hm) lk_X9_182 (rm_ok (by omega) (by omega)) ⟨Nat.le_of_ble_eq_true rfl, Nat.le_of_ble_eq_true rfl⟩ hl.1 rfl (Nat.le_of_ble_eq_true rfl) rfl dX9_readTerm_20 (fun r14 H locs hm hw => ?_)
    refine aV_I (As := [.int r14]) (rest := []) hc hw (c_M_takes0 hm) lk_X9_157 rfl rfl (rm_ok (by omega) (by omega)) ⟨Nat.le_of_ble_eq_true rfl, Nat.le_of_ble_eq_true rfl⟩ hl.1 rfl (Nat.le_of_ble_eq_true rfl) rfl dX9_readTerm_23 (fun r16 S17 H locs hm hw => ?_)
    have hw : wV D A s.heap (mW cy a S17) H locs := hw
    refine lv_if_eq (tgt := 37) hx hb dX9_readTerm_26 (by decide) (fun c19 => ?_) (fun c19 => ?_)
    · have hm := hm.1 c19
      exact retV (u := S17) hc hw hm dX9_readTerm_37
    · have hm := hm.2 c19
      exact hJ11 _ hm _ _ _ hw (lv_sub hl [0, 1] rfl)
set_option maxHeartbeats 4000000 in
set_option maxRecDepth 100000 in
theorem c_M_readSum {l : Launch} {D : va_G} {cy : Nat → ClassId} {a : Nat → Nat} : ∀ (d : Nat) (S : Ob) (x1 : Int32) (Q : Ob → Prop) (hm : wM_readSum d S x1 Q), CtV l yX9_readSum cX9_readSum 2 none (rmN (3 + 4 * d)) D cy [.ref (a 0), .int x1] (mW cy a S) (mW cy a) Q
  | 0, _, _, _, hm => hm.elim
  | d + 1, S, x1, Q, hm => by
    unfold wM_readSum at hm
    refine CtV.ofW (by decide) (Nat.le_of_ble_eq_true rfl) ?_
    intro p e s m args below meth c A ls hc hnm hw hl
    have hx := hc.1.1
    have hb := hc.1.2.1
    have hown := hc.1.2.2.2.1
    have hts := hc.1.2.2.2.2
    have hl : lv_has ls 2 [(0, .ref (a 0)), (1, .int x1)] := hl
    obtain ⟨H, hH⟩ : ∃ z, z = s.heap := ⟨_, rfl⟩
    obtain ⟨locs, hLc⟩ : ∃ z : List Loc, z = [] := ⟨_, rfl⟩
    have hw : wV D A s.heap (mW cy a S) H locs := by rw [hH, hLc]; exact hw
    have hgo : W p l e (rmN (3 + 4 * (d + 1))) s m args below meth c H locs 0 0 (MQ below (eV D cy A (mW cy a) Q) args s (rmN (3 + 4 * (d + 1))).cells (rmN (3 + 4 * (d + 1))).slots A) (F0 m 0 ls []) := ?hgo
    · rw [hH, hLc] at hgo; exact hgo
    refine lv_aload_n hx hb dX9_readSum_0 rfl (lv_at hl 0 rfl) ?_
    refine lv_iload_n hx hb dX9_readSum_1 rfl (lv_at hl 1 rfl) ?_
    refine aV_V (As := [.int x1]) (rest := []) hc hw (c_M_readTerm (by omega) (fun h => c_M_readSum d _ _ _ h) hm) lk_X9_186 rfl rfl (rm_ok (by omega) (by omega)) ⟨Nat.le_of_ble_eq_true rfl, Nat.le_of_ble_eq_true rfl⟩ hl.1 rfl (Nat.le_of_ble_eq_true rfl) rfl dX9_readSum_2 (fun S1 H locs hm hw => ?_)
    have hw : wV D A s.heap (mW cy a S1) H locs := hw
    refine wl1_ind (G := fun (S3 : Ob) => ∀ (H : Heap) (locs : List Loc) (ls : Array Slot), wV D A s.heap (mW cy a S3) H locs → lv_has ls 2 [(0, .ref (a 0)), (1, .int x1)] → W p l e (rmN (3 + 4 * (d + 1))) s m args below meth c H locs 0 0 (MQ below (eV D cy A (mW cy a) Q) args s (rmN (3 + 4 * (d + 1))).cells (rmN (3 + 4 * (d + 1))).slots A) (F0 m 5 ls [])) ?_ _ hm H locs ls hw (lv_sub hl [0, 1] rfl)
    intro L4 ih4 S3 hm H locs ls hw hl
    refine lv_aload_n hx hb dX9_readSum_5 rfl (lv_at hl 0 rfl) ?_
    refine lv_bipush (v := 43) hx hb dX9_readSum_6 (by decide) ?_
    refine zS_I (As := [.int 43]) (rest := [.ref (a 0)]) hc hw (c_M_sign hm) lk_X9_182 (rm_ok (by omega) (by omega)) ⟨Nat.le_of_ble_eq_true rfl, Nat.le_of_ble_eq_true rfl⟩ hl.1 rfl (Nat.le_of_ble_eq_true rfl) rfl dX9_readSum_8 (fun r5 H locs hm hw => ?_)
    refine aV_I (As := [.int r5]) (rest := []) hc hw (c_M_takes0 hm) lk_X9_157 rfl rfl (rm_ok (by omega) (by omega)) ⟨Nat.le_of_ble_eq_true rfl, Nat.le_of_ble_eq_true rfl⟩ hl.1 rfl (Nat.le_of_ble_eq_true rfl) rfl dX9_readSum_11 (fun r7 S8 H locs hm hw => ?_)
    have hw : wV D A s.heap (mW cy a S8) H locs := hw
    obtain ⟨J11, eJ11, hm⟩ := jn_e hm
    have hJ11 : ∀ (S10 : Ob) (_ : J11 S10) (H : Heap) (locs : List Loc) (ls : Array Slot), wV D A s.heap (mW cy a S10) H locs → lv_has ls 2 [(0, .ref (a 0)), (1, .int x1)] → W p l e (rmN (3 + 4 * (d + 1))) s m args below meth c H locs 0 0 (MQ below (eV D cy A (mW cy a) Q) args s (rmN (3 + 4 * (d + 1))).cells (rmN (3 + 4 * (d + 1))).slots A) (F0 m 29 ls []) := by
      intro S10 hm H locs ls hw hl
      rw [eJ11] at hm
      refine lv_aload_n hx hb dX9_readSum_29 rfl (lv_at hl 0 rfl) ?_
      refine lv_iload_n hx hb dX9_readSum_30 rfl (lv_at hl 1 rfl) ?_
      refine aV_V (As := [.int x1]) (rest := []) hc hw (c_M_readTerm (by omega) (fun h => c_M_readSum d _ _ _ h) hm) lk_X9_186 rfl rfl (rm_ok (by omega) (by omega)) ⟨Nat.le_of_ble_eq_true rfl, Nat.le_of_ble_eq_true rfl⟩ hl.1 rfl (Nat.le_of_ble_eq_true rfl) rfl dX9_readSum_31 (fun S12 H locs hm hw => ?_)
      have hw : wV D A s.heap (mW cy a S12) H locs := hw
      refine lv_goto (tgt := 5) hx hb dX9_readSum_34 (by decide) ?_
      exact ih4 _ hm _ _ _ hw (lv_sub hl [0, 1] rfl)
    refine lv_if_ne (tgt := 29) hx hb dX9_readSum_14 (by decide) (fun c20 => ?_) (fun c20 => ?_)
    · have hm := hm.1 c20
      exact hJ11 _ hm _ _ _ hw (lv_sub hl [0, 1] rfl)
    · have hm := hm.2 c20
      refine lv_aload_n hx hb dX9_readSum_17 rfl (lv_at hl 0 rfl) ?_
      refine lv_bipush (v := 45) hx hb dX9_readSum_18 (by decide) ?_
      refine zS_I (As := [.int 45]) (rest := [.ref (a 0)]) hc hw (c_M_sign hm) lk_X9_182 (rm_ok (by omega) (by omega)) ⟨Nat.le_of_ble_eq_true rfl, Nat.le_of_ble_eq_true rfl⟩ hl.1 rfl (Nat.le_of_ble_eq_true rfl) rfl dX9_readSum_20 (fun r14 H locs hm hw => ?_)
      refine aV_I (As := [.int r14]) (rest := []) hc hw (c_M_takes0 hm) lk_X9_157 rfl rfl (rm_ok (by omega) (by omega)) ⟨Nat.le_of_ble_eq_true rfl, Nat.le_of_ble_eq_true rfl⟩ hl.1 rfl (Nat.le_of_ble_eq_true rfl) rfl dX9_readSum_23 (fun r16 S17 H locs hm hw => ?_)
      have hw : wV D A s.heap (mW cy a S17) H locs := hw
      refine lv_if_eq (tgt := 37) hx hb dX9_readSum_26 (by decide) (fun c19 => ?_) (fun c19 => ?_)
      · have hm := hm.1 c19
        exact retV (u := S17) hc hw hm dX9_readSum_37
      · have hm := hm.2 c19
        exact hJ11 _ hm _ _ _ hw (lv_sub hl [0, 1] rfl)
set_option maxHeartbeats 4000000 in
set_option maxRecDepth 100000 in
theorem c_M_readPlain {l : Launch} {D : va_G} {cy : Nat → ClassId} {a : Nat → Nat} {S : Ob} {x1 : Int32} {Q : Ob → Prop} {rec : Ob → Int32 → (Ob → Prop) → Prop} {k : Nat} (hk : 52 ≤ k) (hrec : ∀ {S : Ob} {x1 : Int32} {Q : Ob → Prop}, rec S x1 Q → CtV l yX9_readTest cX9_readTest 2 none (rmN k) D cy [.ref (a 0), .int x1] (mW cy a S) (mW cy a) Q) (hm : wM_readPlain rec S x1 Q) : CtV l yX9_readPlain cX9_readPlain 4 none (rmN (k + 1)) D cy [.ref (a 0), .int x1] (mW cy a S) (mW cy a) Q := by
  refine CtV.ofW (by decide) (Nat.le_of_ble_eq_true rfl) ?_
  intro p e s m args below meth c A ls hc hnm hw hl
  have hx := hc.1.1
  have hb := hc.1.2.1
  have hown := hc.1.2.2.2.1
  have hts := hc.1.2.2.2.2
  have hl : lv_has ls 4 [(0, .ref (a 0)), (1, .int x1)] := hl
  obtain ⟨H, hH⟩ : ∃ z, z = s.heap := ⟨_, rfl⟩
  obtain ⟨locs, hLc⟩ : ∃ z : List Loc, z = [] := ⟨_, rfl⟩
  have hw : wV D A s.heap (mW cy a S) H locs := by rw [hH, hLc]; exact hw
  have hgo : W p l e (rmN (k + 1)) s m args below meth c H locs 0 0 (MQ below (eV D cy A (mW cy a) Q) args s (rmN (k + 1)).cells (rmN (k + 1)).slots A) (F0 m 0 ls []) := ?hgo
  · rw [hH, hLc] at hgo; exact hgo
  refine lv_iconst (v := 1) hx hb dX9_readPlain_0 (by decide) ?_
  refine lv_istore_n (lv' := [(2, .int 1), (0, .ref (a 0)), (1, .int x1)]) hx hb dX9_readPlain_1 rfl hl (by decide) rfl (fun ls hl => ?_)
  refine wl2_ind (G := fun (x2_1 : Int32) (S2 : Ob) => ∀ (H : Heap) (locs : List Loc) (ls : Array Slot), wV D A s.heap (mW cy a S2) H locs → lv_has ls 4 [(2, .int x2_1), (0, .ref (a 0)), (1, .int x1)] → W p l e (rmN (k + 1)) s m args below meth c H locs 0 0 (MQ below (eV D cy A (mW cy a) Q) args s (rmN (k + 1)).cells (rmN (k + 1)).slots A) (F0 m 2 ls [])) ?_ _ _ hm H locs ls hw (lv_sub hl [0, 1, 2] rfl)
  intro L3 ih3 x2_1 S2 hm H locs ls hw hl
  refine lv_iload_n hx hb dX9_readPlain_2 rfl (lv_at hl 0 rfl) ?_
  refine lv_if_eq (tgt := 16) hx hb dX9_readPlain_3 (by decide) (fun c52 => ?_) (fun c52 => ?_)
  · have hm := hm.1 c52
    refine lv_aload_n hx hb dX9_readPlain_16 rfl (lv_at hl 1 rfl) ?_
    refine aV_I (As := []) (rest := []) hc hw (c_M_fine hm) lk_X9_150 rfl rfl (rm_ok (by omega) (by omega)) ⟨Nat.le_of_ble_eq_true rfl, Nat.le_of_ble_eq_true rfl⟩ hl.1 rfl (Nat.le_of_ble_eq_true rfl) rfl dX9_readPlain_17 (fun r4 _ H locs hm hw => ?_)
    have hw : wV D A s.heap (mW cy a S2) H locs := hw
    refine lv_if_ne (tgt := 24) hx hb dX9_readPlain_20 (by decide) (fun c48 => ?_) (fun c48 => ?_)
    · have hm := hm.1 c48
      refine lv_aload_n hx hb dX9_readPlain_24 rfl (lv_at hl 1 rfl) ?_
      refine gF (k := 12) hc hw inX9 rfl 0 rfl (by decide) (gm 1071 (by decide +kernel) rfl) rfl dX9_readPlain_25 ?_
      refine lv_aload_n hx hb dX9_readPlain_28 rfl (lv_at hl 1 rfl) ?_
      refine gF (k := 16) hc hw inX9 rfl 0 rfl (by decide) (gm 1075 (by decide +kernel) rfl) rfl dX9_readPlain_29 ?_
      obtain ⟨c6, hm⟩ := hm
      refine aI hc hw 8 rfl c6 rfl dX9_readPlain_32 ?_
      refine lv_topi (fun v7 e_v7 => ?_)
      have hm := hm v7 e_v7
      refine lv_istore_n (lv' := [(3, .int v7), (2, .int x2_1), (0, .ref (a 0)), (1, .int x1)]) hx hb dX9_readPlain_33 rfl hl (by decide) rfl (fun ls hl => ?_)
      refine lv_iload_n hx hb dX9_readPlain_34 rfl (lv_at hl 0 rfl) ?_
      refine lv_bipush (v := 40) hx hb dX9_readPlain_35 (by decide) ?_
      refine zS_I (As := [.int 40]) (rest := [.int v7]) hc hw (c_M_sign hm) lk_X9_182 (rm_ok (by omega) (by omega)) ⟨Nat.le_of_ble_eq_true rfl, Nat.le_of_ble_eq_true rfl⟩ hl.1 rfl (Nat.le_of_ble_eq_true rfl) rfl dX9_readPlain_37 (fun r8 H locs hm hw => ?_)
      refine lv_icmp_ne (tgt := 90) hx hb dX9_readPlain_40 (by decide) (fun c47 => ?_) (fun c47 => ?_)
      · have hm := hm.1 c47
        refine lv_aload_n hx hb dX9_readPlain_90 rfl (lv_at hl 2 rfl) ?_
        refine lv_iload_n hx hb dX9_readPlain_91 rfl (lv_at hl 3 rfl) ?_
        refine aV_V (As := [.int x1]) (rest := []) hc hw (c_M_readSum 12 _ _ _ hm) lk_X9_166 rfl rfl (rm_ok (by omega) (by omega)) ⟨Nat.le_of_ble_eq_true rfl, Nat.le_of_ble_eq_true rfl⟩ hl.1 rfl (Nat.le_of_ble_eq_true rfl) rfl dX9_readPlain_92 (fun S10 H locs hm hw => ?_)
        have hw : wV D A s.heap (mW cy a S10) H locs := hw
        refine lv_aload_n hx hb dX9_readPlain_95 rfl (lv_at hl 2 rfl) ?_
        refine lv_bipush (v := 60) hx hb dX9_readPlain_96 (by decide) ?_
        refine zS_I (As := [.int 60]) (rest := [.ref (a 0)]) hc hw (c_M_sign hm) lk_X9_182 (rm_ok (by omega) (by omega)) ⟨Nat.le_of_ble_eq_true rfl, Nat.le_of_ble_eq_true rfl⟩ hl.1 rfl (Nat.le_of_ble_eq_true rfl) rfl dX9_readPlain_98 (fun r12 H locs hm hw => ?_)
        refine aV_I (As := [.int r12]) (rest := []) hc hw (c_M_takes0 hm) lk_X9_157 rfl rfl (rm_ok (by omega) (by omega)) ⟨Nat.le_of_ble_eq_true rfl, Nat.le_of_ble_eq_true rfl⟩ hl.1 rfl (Nat.le_of_ble_eq_true rfl) rfl dX9_readPlain_101 (fun r14 S15 H locs hm hw => ?_)
        have hw : wV D A s.heap (mW cy a S15) H locs := hw
        obtain ⟨J18, eJ18, hm⟩ := jn_e hm
        have hJ18 : ∀ (S17 : Ob) (_ : J18 S17) (H : Heap) (locs : List Loc) (ls : Array Slot), wV D A s.heap (mW cy a S17) H locs → lv_has ls 4 [(0, .ref (a 0)), (1, .int x1)] → W p l e (rmN (k + 1)) s m args below meth c H locs 0 0 (MQ below (eV D cy A (mW cy a) Q) args s (rmN (k + 1)).cells (rmN (k + 1)).slots A) (F0 m 128 ls []) := by
          intro S17 hm H locs ls hw hl
          rw [eJ18] at hm
          refine lv_aload_n hx hb dX9_readPlain_128 rfl (lv_at hl 0 rfl) ?_
          refine lv_iload_n hx hb dX9_readPlain_129 rfl (lv_at hl 1 rfl) ?_
          refine aV_V (As := [.int x1]) (rest := []) hc hw (c_M_readSum 12 _ _ _ hm) lk_X9_166 rfl rfl (rm_ok (by omega) (by omega)) ⟨Nat.le_of_ble_eq_true rfl, Nat.le_of_ble_eq_true rfl⟩ hl.1 rfl (Nat.le_of_ble_eq_true rfl) rfl dX9_readPlain_130 (fun S19 H locs hm hw => ?_)
          have hw : wV D A s.heap (mW cy a S19) H locs := hw
          exact retV (u := S19) hc hw hm dX9_readPlain_133
        refine lv_if_ne (tgt := 128) hx hb dX9_readPlain_104 (by decide) (fun c31 => ?_) (fun c31 => ?_)
        · have hm := hm.1 c31
          exact hJ18 _ hm _ _ _ hw (lv_sub hl [2, 3] rfl)
        · have hm := hm.2 c31
          refine lv_aload_n hx hb dX9_readPlain_107 rfl (lv_at hl 2 rfl) ?_
          refine lv_bipush (v := 62) hx hb dX9_readPlain_108 (by decide) ?_
          refine zS_I (As := [.int 62]) (rest := [.ref (a 0)]) hc hw (c_M_sign hm) lk_X9_182 (rm_ok (by omega) (by omega)) ⟨Nat.le_of_ble_eq_true rfl, Nat.le_of_ble_eq_true rfl⟩ hl.1 rfl (Nat.le_of_ble_eq_true rfl) rfl dX9_readPlain_110 (fun r21 H locs hm hw => ?_)
          refine aV_I (As := [.int r21]) (rest := []) hc hw (c_M_takes0 hm) lk_X9_157 rfl rfl (rm_ok (by omega) (by omega)) ⟨Nat.le_of_ble_eq_true rfl, Nat.le_of_ble_eq_true rfl⟩ hl.1 rfl (Nat.le_of_ble_eq_true rfl) rfl dX9_readPlain_113 (fun r23 S24 H locs hm hw => ?_)
          have hw : wV D A s.heap (mW cy a S24) H locs := hw
          refine lv_if_ne (tgt := 128) hx hb dX9_readPlain_116 (by decide) (fun c30 => ?_) (fun c30 => ?_)
          · have hm := hm.1 c30
            exact hJ18 _ hm _ _ _ hw (lv_sub hl [2, 3] rfl)
          · have hm := hm.2 c30
            refine lv_aload_n hx hb dX9_readPlain_119 rfl (lv_at hl 2 rfl) ?_
            refine lv_bipush (v := 61) hx hb dX9_readPlain_120 (by decide) ?_
            refine zS_I (As := [.int 61]) (rest := [.ref (a 0)]) hc hw (c_M_sign hm) lk_X9_182 (rm_ok (by omega) (by omega)) ⟨Nat.le_of_ble_eq_true rfl, Nat.le_of_ble_eq_true rfl⟩ hl.1 rfl (Nat.le_of_ble_eq_true rfl) rfl dX9_readPlain_122 (fun r26 H locs hm hw => ?_)
            refine aV_V (As := [.int r26]) (rest := []) hc hw (c_M_must hm) lk_X9_170 rfl rfl (rm_ok (by omega) (by omega)) ⟨Nat.le_of_ble_eq_true rfl, Nat.le_of_ble_eq_true rfl⟩ hl.1 rfl (Nat.le_of_ble_eq_true rfl) rfl dX9_readPlain_125 (fun S28 H locs hm hw => ?_)
            have hw : wV D A s.heap (mW cy a S28) H locs := hw
            exact hJ18 _ hm _ _ _ hw (lv_sub hl [2, 3] rfl)
      · have hm := hm.2 c47
        refine lv_iload_n hx hb dX9_readPlain_43 rfl (lv_at hl 3 rfl) ?_
        refine lv_bipush (v := 8) hx hb dX9_readPlain_44 (by decide) ?_
        obtain ⟨J33, eJ33, hm⟩ := jn_e hm
        have hJ33 : ∀ (S32 : Ob) (_ : J33 S32) (H : Heap) (locs : List Loc) (ls : Array Slot), wV D A s.heap (mW cy a S32) H locs → lv_has ls 4 [(0, .ref (a 0)), (1, .int x1)] → W p l e (rmN (k + 1)) s m args below meth c H locs 0 0 (MQ below (eV D cy A (mW cy a) Q) args s (rmN (k + 1)).cells (rmN (k + 1)).slots A) (F0 m 53 ls []) := by
          intro S32 hm H locs ls hw hl
          rw [eJ33] at hm
          refine lv_aload_n hx hb dX9_readPlain_53 rfl (lv_at hl 0 rfl) ?_
          refine aV_I (As := []) (rest := []) hc hw (c_M_fine hm) lk_X9_150 rfl rfl (rm_ok (by omega) (by omega)) ⟨Nat.le_of_ble_eq_true rfl, Nat.le_of_ble_eq_true rfl⟩ hl.1 rfl (Nat.le_of_ble_eq_true rfl) rfl dX9_readPlain_54 (fun r34 _ H locs hm hw => ?_)
          have hw : wV D A s.heap (mW cy a S32) H locs := hw
          refine lv_if_ne (tgt := 61) hx hb dX9_readPlain_57 (by decide) (fun c43 => ?_) (fun c43 => ?_)
          · have hm := hm.1 c43
            refine lv_aload_n hx hb dX9_readPlain_61 rfl (lv_at hl 0 rfl) ?_
            refine lv_dup hx hb dX9_readPlain_62 rfl ?_
            refine gF (k := 16) hc hw inX9 rfl 0 rfl (by decide) (gm 1075 (by decide +kernel) rfl) rfl dX9_readPlain_63 ?_
            refine lv_iconst (v := 1) hx hb dX9_readPlain_66 (by decide) ?_
            refine lv_iadd hx hb dX9_readPlain_67 ?_
            refine pF (k := 16) (ty := .int) hc hw inX9 tyX9_ok nmX9 rfl 0 rfl (by decide) (gm 1075 (by decide +kernel) rfl) rfl (by decide +kernel) rfl rfl (Nat.le_of_ble_eq_true rfl) dX9_readPlain_68 (fun H locs hw => ?_)
            obtain ⟨S36, e_S36⟩ : ∃ z : Ob, z = uS S32 16 ((S32.1 16) + 1) := ⟨_, rfl⟩
            have hm := hm S36 e_S36
            have hw : wV D A s.heap (mW cy a S36) H locs := by rw [e_S36]; exact hw
            refine lv_aload_n hx hb dX9_readPlain_71 rfl (lv_at hl 0 rfl) ?_
            refine lv_iload_n hx hb dX9_readPlain_72 rfl (lv_at hl 1 rfl) ?_
            refine lv_iconst (v := 1) hx hb dX9_readPlain_73 (by decide) ?_
            refine lv_iadd hx hb dX9_readPlain_74 ?_
            refine aV_V (As := [.int (x1 + 1)]) (rest := []) hc hw (hrec hm) lk_X9_173 rfl rfl (rm_ok (by omega) (by omega)) ⟨Nat.le_of_ble_eq_true rfl, Nat.le_of_ble_eq_true rfl⟩ hl.1 rfl (Nat.le_of_ble_eq_true rfl) rfl dX9_readPlain_75 (fun S37 H locs hm hw => ?_)
            have hw : wV D A s.heap (mW cy a S37) H locs := hw
            refine lv_aload_n hx hb dX9_readPlain_78 rfl (lv_at hl 0 rfl) ?_
            refine lv_bipush (v := 41) hx hb dX9_readPlain_79 (by decide) ?_
            refine zS_I (As := [.int 41]) (rest := [.ref (a 0)]) hc hw (c_M_sign hm) lk_X9_182 (rm_ok (by omega) (by omega)) ⟨Nat.le_of_ble_eq_true rfl, Nat.le_of_ble_eq_true rfl⟩ hl.1 rfl (Nat.le_of_ble_eq_true rfl) rfl dX9_readPlain_81 (fun r39 H locs hm hw => ?_)
            refine aV_V (As := [.int r39]) (rest := []) hc hw (c_M_must hm) lk_X9_170 rfl rfl (rm_ok (by omega) (by omega)) ⟨Nat.le_of_ble_eq_true rfl, Nat.le_of_ble_eq_true rfl⟩ hl.1 rfl (Nat.le_of_ble_eq_true rfl) rfl dX9_readPlain_84 (fun S41 H locs hm hw => ?_)
            have hw : wV D A s.heap (mW cy a S41) H locs := hw
            refine lv_goto (tgt := 133) hx hb dX9_readPlain_87 (by decide) ?_
            exact retV (u := S41) hc hw hm dX9_readPlain_133
          · have hm := hm.2 c43
            exact retV (u := S32) hc hw hm dX9_readPlain_60
        refine lv_icmp_ne (tgt := 53) hx hb dX9_readPlain_46 (by decide) (fun c46 => ?_) (fun c46 => ?_)
        · have hm := hm.1 c46
          exact hJ33 _ hm _ _ _ hw (lv_sub hl [2, 3] rfl)
        · have hm := hm.2 c46
          refine lv_aload_n hx hb dX9_readPlain_49 rfl (lv_at hl 2 rfl) ?_
          refine aV_V (As := []) (rest := []) hc hw (c_M_faults hm) lk_X9_160 rfl rfl (rm_ok (by omega) (by omega)) ⟨Nat.le_of_ble_eq_true rfl, Nat.le_of_ble_eq_true rfl⟩ hl.1 rfl (Nat.le_of_ble_eq_true rfl) rfl dX9_readPlain_50 (fun S44 H locs hm hw => ?_)
          have hw : wV D A s.heap (mW cy a S44) H locs := hw
          exact hJ33 _ hm _ _ _ hw (lv_sub hl [2, 3] rfl)
    · have hm := hm.2 c48
      exact retV (u := S2) hc hw hm dX9_readPlain_23
  · have hm := hm.2 c52
    refine lv_aload_n hx hb dX9_readPlain_6 rfl (lv_at hl 1 rfl) ?_
    refine lv_bipush (v := 7) hx hb dX9_readPlain_7 (by decide) ?_
    refine aV_I (As := [.int 7]) (rest := []) hc hw (c_M_takes0 hm) lk_X9_157 rfl rfl (rm_ok (by omega) (by omega)) ⟨Nat.le_of_ble_eq_true rfl, Nat.le_of_ble_eq_true rfl⟩ hl.1 rfl (Nat.le_of_ble_eq_true rfl) rfl dX9_readPlain_9 (fun r49 S50 H locs hm hw => ?_)
    have hw : wV D A s.heap (mW cy a S50) H locs := hw
    refine lv_istore_n (lv' := [(2, .int r49), (0, .ref (a 0)), (1, .int x1)]) hx hb dX9_readPlain_12 rfl hl (by decide) rfl (fun ls hl => ?_)
    refine lv_goto (tgt := 2) hx hb dX9_readPlain_13 (by decide) ?_
    exact ih3 _ _ hm _ _ _ hw (lv_sub hl [0, 1, 2] rfl)
set_option maxHeartbeats 4000000 in
set_option maxRecDepth 100000 in
theorem c_M_readBoth {l : Launch} {D : va_G} {cy : Nat → ClassId} {a : Nat → Nat} {S : Ob} {x1 : Int32} {Q : Ob → Prop} {rec : Ob → Int32 → (Ob → Prop) → Prop} {k : Nat} (hk : 52 ≤ k) (hrec : ∀ {S : Ob} {x1 : Int32} {Q : Ob → Prop}, rec S x1 Q → CtV l yX9_readTest cX9_readTest 2 none (rmN k) D cy [.ref (a 0), .int x1] (mW cy a S) (mW cy a) Q) (hm : wM_readBoth rec S x1 Q) : CtV l yX9_readBoth cX9_readBoth 2 none (rmN (k + 2)) D cy [.ref (a 0), .int x1] (mW cy a S) (mW cy a) Q := by
  refine CtV.ofW (by decide) (Nat.le_of_ble_eq_true rfl) ?_
  intro p e s m args below meth c A ls hc hnm hw hl
  have hx := hc.1.1
  have hb := hc.1.2.1
  have hown := hc.1.2.2.2.1
  have hts := hc.1.2.2.2.2
  have hl : lv_has ls 2 [(0, .ref (a 0)), (1, .int x1)] := hl
  obtain ⟨H, hH⟩ : ∃ z, z = s.heap := ⟨_, rfl⟩
  obtain ⟨locs, hLc⟩ : ∃ z : List Loc, z = [] := ⟨_, rfl⟩
  have hw : wV D A s.heap (mW cy a S) H locs := by rw [hH, hLc]; exact hw
  have hgo : W p l e (rmN (k + 2)) s m args below meth c H locs 0 0 (MQ below (eV D cy A (mW cy a) Q) args s (rmN (k + 2)).cells (rmN (k + 2)).slots A) (F0 m 0 ls []) := ?hgo
  · rw [hH, hLc] at hgo; exact hgo
  refine lv_aload_n hx hb dX9_readBoth_0 rfl (lv_at hl 0 rfl) ?_
  refine lv_iload_n hx hb dX9_readBoth_1 rfl (lv_at hl 1 rfl) ?_
  refine aV_V (As := [.int x1]) (rest := []) hc hw (c_M_readPlain hk hrec hm) lk_X9_179 rfl rfl (rm_ok (by omega) (by omega)) ⟨Nat.le_of_ble_eq_true rfl, Nat.le_of_ble_eq_true rfl⟩ hl.1 rfl (Nat.le_of_ble_eq_true rfl) rfl dX9_readBoth_2 (fun S1 H locs hm hw => ?_)
  have hw : wV D A s.heap (mW cy a S1) H locs := hw
  refine wl1_ind (G := fun (S3 : Ob) => ∀ (H : Heap) (locs : List Loc) (ls : Array Slot), wV D A s.heap (mW cy a S3) H locs → lv_has ls 2 [(0, .ref (a 0)), (1, .int x1)] → W p l e (rmN (k + 2)) s m args below meth c H locs 0 0 (MQ below (eV D cy A (mW cy a) Q) args s (rmN (k + 2)).cells (rmN (k + 2)).slots A) (F0 m 5 ls [])) ?_ _ hm H locs ls hw (lv_sub hl [0, 1] rfl)
  intro L4 ih4 S3 hm H locs ls hw hl
  refine lv_aload_n hx hb dX9_readBoth_5 rfl (lv_at hl 0 rfl) ?_
  refine lv_bipush (v := 6) hx hb dX9_readBoth_6 (by decide) ?_
  refine aV_I (As := [.int 6]) (rest := []) hc hw (c_M_takes0 hm) lk_X9_157 rfl rfl (rm_ok (by omega) (by omega)) ⟨Nat.le_of_ble_eq_true rfl, Nat.le_of_ble_eq_true rfl⟩ hl.1 rfl (Nat.le_of_ble_eq_true rfl) rfl dX9_readBoth_8 (fun r5 S6 H locs hm hw => ?_)
  have hw : wV D A s.heap (mW cy a S6) H locs := hw
  refine lv_if_eq (tgt := 22) hx hb dX9_readBoth_11 (by decide) (fun c10 => ?_) (fun c10 => ?_)
  · have hm := hm.1 c10
    exact retV (u := S6) hc hw hm dX9_readBoth_22
  · have hm := hm.2 c10
    refine lv_aload_n hx hb dX9_readBoth_14 rfl (lv_at hl 0 rfl) ?_
    refine lv_iload_n hx hb dX9_readBoth_15 rfl (lv_at hl 1 rfl) ?_
    refine aV_V (As := [.int x1]) (rest := []) hc hw (c_M_readPlain hk hrec hm) lk_X9_179 rfl rfl (rm_ok (by omega) (by omega)) ⟨Nat.le_of_ble_eq_true rfl, Nat.le_of_ble_eq_true rfl⟩ hl.1 rfl (Nat.le_of_ble_eq_true rfl) rfl dX9_readBoth_16 (fun S8 H locs hm hw => ?_)
    have hw : wV D A s.heap (mW cy a S8) H locs := hw
    refine lv_goto (tgt := 5) hx hb dX9_readBoth_19 (by decide) ?_
    exact ih4 _ hm _ _ _ hw (lv_sub hl [0, 1] rfl)
set_option maxHeartbeats 4000000 in
set_option maxRecDepth 100000 in
theorem c_M_readTest {l : Launch} {D : va_G} {cy : Nat → ClassId} {a : Nat → Nat} : ∀ (d : Nat) (S : Ob) (x1 : Int32) (Q : Ob → Prop) (hm : wM_readTest d S x1 Q), CtV l yX9_readTest cX9_readTest 2 none (rmN (52 + 4 * d)) D cy [.ref (a 0), .int x1] (mW cy a S) (mW cy a) Q
  | 0, _, _, _, hm => hm.elim
  | d + 1, S, x1, Q, hm => by
    unfold wM_readTest at hm
    refine CtV.ofW (by decide) (Nat.le_of_ble_eq_true rfl) ?_
    intro p e s m args below meth c A ls hc hnm hw hl
    have hx := hc.1.1
    have hb := hc.1.2.1
    have hown := hc.1.2.2.2.1
    have hts := hc.1.2.2.2.2
    have hl : lv_has ls 2 [(0, .ref (a 0)), (1, .int x1)] := hl
    obtain ⟨H, hH⟩ : ∃ z, z = s.heap := ⟨_, rfl⟩
    obtain ⟨locs, hLc⟩ : ∃ z : List Loc, z = [] := ⟨_, rfl⟩
    have hw : wV D A s.heap (mW cy a S) H locs := by rw [hH, hLc]; exact hw
    have hgo : W p l e (rmN (52 + 4 * (d + 1))) s m args below meth c H locs 0 0 (MQ below (eV D cy A (mW cy a) Q) args s (rmN (52 + 4 * (d + 1))).cells (rmN (52 + 4 * (d + 1))).slots A) (F0 m 0 ls []) := ?hgo
    · rw [hH, hLc] at hgo; exact hgo
    refine lv_aload_n hx hb dX9_readTest_0 rfl (lv_at hl 0 rfl) ?_
    refine lv_iload_n hx hb dX9_readTest_1 rfl (lv_at hl 1 rfl) ?_
    refine aV_V (As := [.int x1]) (rest := []) hc hw (c_M_readBoth (by omega) (fun h => c_M_readTest d _ _ _ h) hm) lk_X9_176 rfl rfl (rm_ok (by omega) (by omega)) ⟨Nat.le_of_ble_eq_true rfl, Nat.le_of_ble_eq_true rfl⟩ hl.1 rfl (Nat.le_of_ble_eq_true rfl) rfl dX9_readTest_2 (fun S1 H locs hm hw => ?_)
    have hw : wV D A s.heap (mW cy a S1) H locs := hw
    refine wl1_ind (G := fun (S3 : Ob) => ∀ (H : Heap) (locs : List Loc) (ls : Array Slot), wV D A s.heap (mW cy a S3) H locs → lv_has ls 2 [(0, .ref (a 0)), (1, .int x1)] → W p l e (rmN (52 + 4 * (d + 1))) s m args below meth c H locs 0 0 (MQ below (eV D cy A (mW cy a) Q) args s (rmN (52 + 4 * (d + 1))).cells (rmN (52 + 4 * (d + 1))).slots A) (F0 m 5 ls [])) ?_ _ hm H locs ls hw (lv_sub hl [0, 1] rfl)
    intro L4 ih4 S3 hm H locs ls hw hl
    refine lv_aload_n hx hb dX9_readTest_5 rfl (lv_at hl 0 rfl) ?_
    refine lv_iconst (v := 5) hx hb dX9_readTest_6 (by decide) ?_
    refine aV_I (As := [.int 5]) (rest := []) hc hw (c_M_takes0 hm) lk_X9_157 rfl rfl (rm_ok (by omega) (by omega)) ⟨Nat.le_of_ble_eq_true rfl, Nat.le_of_ble_eq_true rfl⟩ hl.1 rfl (Nat.le_of_ble_eq_true rfl) rfl dX9_readTest_7 (fun r5 S6 H locs hm hw => ?_)
    have hw : wV D A s.heap (mW cy a S6) H locs := hw
    refine lv_if_eq (tgt := 21) hx hb dX9_readTest_10 (by decide) (fun c10 => ?_) (fun c10 => ?_)
    · have hm := hm.1 c10
      exact retV (u := S6) hc hw hm dX9_readTest_21
    · have hm := hm.2 c10
      refine lv_aload_n hx hb dX9_readTest_13 rfl (lv_at hl 0 rfl) ?_
      refine lv_iload_n hx hb dX9_readTest_14 rfl (lv_at hl 1 rfl) ?_
      refine aV_V (As := [.int x1]) (rest := []) hc hw (c_M_readBoth (by omega) (fun h => c_M_readTest d _ _ _ h) hm) lk_X9_176 rfl rfl (rm_ok (by omega) (by omega)) ⟨Nat.le_of_ble_eq_true rfl, Nat.le_of_ble_eq_true rfl⟩ hl.1 rfl (Nat.le_of_ble_eq_true rfl) rfl dX9_readTest_15 (fun S8 H locs hm hw => ?_)
      have hw : wV D A s.heap (mW cy a S8) H locs := hw
      refine lv_goto (tgt := 5) hx hb dX9_readTest_18 (by decide) ?_
      exact ih4 _ hm _ _ _ hw (lv_sub hl [0, 1] rfl)
set_option maxHeartbeats 4000000 in
set_option maxRecDepth 100000 in
theorem c_M_readClause {l : Launch} {D : va_G} {cy : Nat → ClassId} {a : Nat → Nat} {S : Ob} {Q : Ob → Prop} (hm : wM_readClause S Q) : CtV l yX9_readClause cX9_readClause 1 none (rmN 101) D cy [.ref (a 0)] (mW cy a S) (mW cy a) Q := by
  refine CtV.ofW (by decide) (Nat.le_of_ble_eq_true rfl) ?_
  intro p e s m args below meth c A ls hc hnm hw hl
  have hx := hc.1.1
  have hb := hc.1.2.1
  have hown := hc.1.2.2.2.1
  have hts := hc.1.2.2.2.2
  have hl : lv_has ls 1 [(0, .ref (a 0))] := hl
  obtain ⟨H, hH⟩ : ∃ z, z = s.heap := ⟨_, rfl⟩
  obtain ⟨locs, hLc⟩ : ∃ z : List Loc, z = [] := ⟨_, rfl⟩
  have hw : wV D A s.heap (mW cy a S) H locs := by rw [hH, hLc]; exact hw
  have hgo : W p l e (rmN 101) s m args below meth c H locs 0 0 (MQ below (eV D cy A (mW cy a) Q) args s (rmN 101).cells (rmN 101).slots A) (F0 m 0 ls []) := ?hgo
  · rw [hH, hLc] at hgo; exact hgo
  refine lv_aload_n hx hb dX9_readClause_0 rfl (lv_at hl 0 rfl) ?_
  refine lv_iconst (v := 1) hx hb dX9_readClause_1 (by decide) ?_
  refine aV_I (As := [.int 1]) (rest := []) hc hw (c_M_takes0 hm) lk_X9_157 rfl rfl ⟨Nat.le_of_ble_eq_true rfl, Nat.le_of_ble_eq_true rfl⟩ ⟨Nat.le_of_ble_eq_true rfl, Nat.le_of_ble_eq_true rfl⟩ hl.1 rfl (Nat.le_of_ble_eq_true rfl) rfl dX9_readClause_2 (fun r1 S2 H locs hm hw => ?_)
  have hw : wV D A s.heap (mW cy a S2) H locs := hw
  obtain ⟨J5, eJ5, hm⟩ := jn_e hm
  have hJ5 : ∀ (S4 : Ob) (_ : J5 S4) (H : Heap) (locs : List Loc) (ls : Array Slot), wV D A s.heap (mW cy a S4) H locs → lv_has ls 1 [(0, .ref (a 0))] → W p l e (rmN 101) s m args below meth c H locs 0 0 (MQ below (eV D cy A (mW cy a) Q) args s (rmN 101).cells (rmN 101).slots A) (F0 m 29 ls []) := by
    intro S4 hm H locs ls hw hl
    rw [eJ5] at hm
    refine lv_aload_n hx hb dX9_readClause_29 rfl (lv_at hl 0 rfl) ?_
    refine lv_iconst (v := 4) hx hb dX9_readClause_30 (by decide) ?_
    refine aV_I (As := [.int 4]) (rest := []) hc hw (c_M_takes0 hm) lk_X9_157 rfl rfl ⟨Nat.le_of_ble_eq_true rfl, Nat.le_of_ble_eq_true rfl⟩ ⟨Nat.le_of_ble_eq_true rfl, Nat.le_of_ble_eq_true rfl⟩ hl.1 rfl (Nat.le_of_ble_eq_true rfl) rfl dX9_readClause_31 (fun r6 S7 H locs hm hw => ?_)
    have hw : wV D A s.heap (mW cy a S7) H locs := hw
    refine lv_if_eq (tgt := 42) hx hb dX9_readClause_34 (by decide) (fun c11 => ?_) (fun c11 => ?_)
    · have hm := hm.1 c11
      exact retV (u := S7) hc hw hm dX9_readClause_42
    · have hm := hm.2 c11
      refine lv_aload_n hx hb dX9_readClause_37 rfl (lv_at hl 0 rfl) ?_
      refine lv_iconst (v := 0) hx hb dX9_readClause_38 (by decide) ?_
      refine aV_V (As := [.int 0]) (rest := []) hc hw (c_M_readTest 12 _ _ _ hm) lk_X9_173 rfl rfl (rm_ok (by omega) (by omega)) ⟨Nat.le_of_ble_eq_true rfl, Nat.le_of_ble_eq_true rfl⟩ hl.1 rfl (Nat.le_of_ble_eq_true rfl) rfl dX9_readClause_39 (fun S9 H locs hm hw => ?_)
      have hw : wV D A s.heap (mW cy a S9) H locs := hw
      exact retV (u := S9) hc hw hm dX9_readClause_42
  obtain ⟨J13, eJ13, hm⟩ := jn_e hm
  have hJ13 : ∀ (S12 : Ob) (_ : J13 S12) (H : Heap) (locs : List Loc) (ls : Array Slot), wV D A s.heap (mW cy a S12) H locs → lv_has ls 1 [(0, .ref (a 0))] → W p l e (rmN 101) s m args below meth c H locs 0 0 (MQ below (eV D cy A (mW cy a) Q) args s (rmN 101).cells (rmN 101).slots A) (F0 m 16 ls []) := by
    intro S12 hm H locs ls hw hl
    rw [eJ13] at hm
    refine lv_aload_n hx hb dX9_readClause_16 rfl (lv_at hl 0 rfl) ?_
    refine lv_iconst (v := 0) hx hb dX9_readClause_17 (by decide) ?_
    refine aV_V (As := [.int 0]) (rest := []) hc hw (c_M_readSum 12 _ _ _ hm) lk_X9_166 rfl rfl (rm_ok (by omega) (by omega)) ⟨Nat.le_of_ble_eq_true rfl, Nat.le_of_ble_eq_true rfl⟩ hl.1 rfl (Nat.le_of_ble_eq_true rfl) rfl dX9_readClause_18 (fun S14 H locs hm hw => ?_)
    have hw : wV D A s.heap (mW cy a S14) H locs := hw
    refine lv_goto (tgt := 29) hx hb dX9_readClause_21 (by decide) ?_
    exact hJ5 _ hm _ _ _ hw (lv_sub hl [0] rfl)
  refine lv_if_ne (tgt := 16) hx hb dX9_readClause_5 (by decide) (fun c22 => ?_) (fun c22 => ?_)
  · have hm := hm.1 c22
    exact hJ13 _ hm _ _ _ hw (lv_sub hl [0] rfl)
  · have hm := hm.2 c22
    refine lv_aload_n hx hb dX9_readClause_8 rfl (lv_at hl 0 rfl) ?_
    refine lv_iconst (v := 2) hx hb dX9_readClause_9 (by decide) ?_
    refine aV_I (As := [.int 2]) (rest := []) hc hw (c_M_takes0 hm) lk_X9_157 rfl rfl ⟨Nat.le_of_ble_eq_true rfl, Nat.le_of_ble_eq_true rfl⟩ ⟨Nat.le_of_ble_eq_true rfl, Nat.le_of_ble_eq_true rfl⟩ hl.1 rfl (Nat.le_of_ble_eq_true rfl) rfl dX9_readClause_10 (fun r16 S17 H locs hm hw => ?_)
    have hw : wV D A s.heap (mW cy a S17) H locs := hw
    refine lv_if_eq (tgt := 24) hx hb dX9_readClause_13 (by decide) (fun c21 => ?_) (fun c21 => ?_)
    · have hm := hm.1 c21
      refine lv_aload_n hx hb dX9_readClause_24 rfl (lv_at hl 0 rfl) ?_
      refine lv_iconst (v := 3) hx hb dX9_readClause_25 (by decide) ?_
      refine aV_V (As := [.int 3]) (rest := []) hc hw (c_M_must hm) lk_X9_170 rfl rfl ⟨Nat.le_of_ble_eq_true rfl, Nat.le_of_ble_eq_true rfl⟩ ⟨Nat.le_of_ble_eq_true rfl, Nat.le_of_ble_eq_true rfl⟩ hl.1 rfl (Nat.le_of_ble_eq_true rfl) rfl dX9_readClause_26 (fun S19 H locs hm hw => ?_)
      have hw : wV D A s.heap (mW cy a S19) H locs := hw
      exact hJ5 _ hm _ _ _ hw (lv_sub hl [0] rfl)
    · have hm := hm.2 c21
      exact hJ13 _ hm _ _ _ hw (lv_sub hl [0] rfl)
set_option maxHeartbeats 4000000 in
set_option maxRecDepth 100000 in
theorem c_M_reads {l : Launch} {D : va_G} {cy : Nat → ClassId} {a : Nat → Nat} {S : Ob} {Q : Int32 → Ob → Prop} (hm : wM_reads S Q) : CtI l yX9_reads cX9_reads 2 (some .boolean) (rmN 102) D cy [.ref (a 0)] (mW cy a S) (mW cy a) Q := by
  refine CtI.ofW (by decide) (Nat.le_of_ble_eq_true rfl) ?_
  intro p e s m args below meth c A ls hc hnm hw hl
  have hx := hc.1.1
  have hb := hc.1.2.1
  have hown := hc.1.2.2.2.1
  have hts := hc.1.2.2.2.2
  have hl : lv_has ls 2 [(0, .ref (a 0))] := hl
  obtain ⟨H, hH⟩ : ∃ z, z = s.heap := ⟨_, rfl⟩
  obtain ⟨locs, hLc⟩ : ∃ z : List Loc, z = [] := ⟨_, rfl⟩
  have hw : wV D A s.heap (mW cy a S) H locs := by rw [hH, hLc]; exact hw
  have hgo : W p l e (rmN 102) s m args below meth c H locs 0 0 (MQ below (eI D cy A (mW cy a) Q) args s (rmN 102).cells (rmN 102).slots A) (F0 m 0 ls []) := ?hgo
  · rw [hH, hLc] at hgo; exact hgo
  refine lv_aload_n hx hb dX9_reads_0 rfl (lv_at hl 0 rfl) ?_
  refine lv_aload_n hx hb dX9_reads_1 rfl (lv_at hl 0 rfl) ?_
  refine gF (k := 10) hc hw inX9 rfl 0 rfl (by decide) (gm 1069 (by decide +kernel) rfl) rfl dX9_reads_2 ?_
  refine aV_V (As := [.int (S.1 10)]) (rest := []) hc hw (c_M_splits hm) lk_X9_195 rfl rfl ⟨Nat.le_of_ble_eq_true rfl, Nat.le_of_ble_eq_true rfl⟩ ⟨Nat.le_of_ble_eq_true rfl, Nat.le_of_ble_eq_true rfl⟩ hl.1 rfl (Nat.le_of_ble_eq_true rfl) rfl dX9_reads_5 (fun S1 H locs hm hw => ?_)
  have hw : wV D A s.heap (mW cy a S1) H locs := hw
  refine lv_aload_n hx hb dX9_reads_8 rfl (lv_at hl 0 rfl) ?_
  refine lv_iconst (v := 0) hx hb dX9_reads_9 (by decide) ?_
  refine pF (k := 10) (ty := .int) hc hw inX9 tyX9_ok nmX9 rfl 0 rfl (by decide) (gm 1069 (by decide +kernel) rfl) rfl (by decide +kernel) rfl rfl (Nat.le_of_ble_eq_true rfl) dX9_reads_10 (fun H locs hw => ?_)
  obtain ⟨S3, e_S3⟩ : ∃ z : Ob, z = uS S1 10 0 := ⟨_, rfl⟩
  have hm := hm S3 e_S3
  have hw : wV D A s.heap (mW cy a S3) H locs := by rw [e_S3]; exact hw
  refine lv_aload_n hx hb dX9_reads_13 rfl (lv_at hl 0 rfl) ?_
  refine lv_iconst (v := 0) hx hb dX9_reads_14 (by decide) ?_
  refine pF (k := 16) (ty := .int) hc hw inX9 tyX9_ok nmX9 rfl 0 rfl (by decide) (gm 1075 (by decide +kernel) rfl) rfl (by decide +kernel) rfl rfl (Nat.le_of_ble_eq_true rfl) dX9_reads_15 (fun H locs hw => ?_)
  obtain ⟨S4, e_S4⟩ : ∃ z : Ob, z = uS S3 16 0 := ⟨_, rfl⟩
  have hm := hm S4 e_S4
  have hw : wV D A s.heap (mW cy a S4) H locs := by rw [e_S4]; exact hw
  refine lv_aload_n hx hb dX9_reads_18 rfl (lv_at hl 0 rfl) ?_
  refine lv_iconst (v := 0) hx hb dX9_reads_19 (by decide) ?_
  refine pF (k := 17) (ty := .int) hc hw inX9 tyX9_ok nmX9 rfl 0 rfl (by decide) (gm 1076 (by decide +kernel) rfl) rfl (by decide +kernel) rfl rfl (Nat.le_of_ble_eq_true rfl) dX9_reads_20 (fun H locs hw => ?_)
  obtain ⟨S5, e_S5⟩ : ∃ z : Ob, z = uS S4 17 0 := ⟨_, rfl⟩
  have hm := hm S5 e_S5
  have hw : wV D A s.heap (mW cy a S5) H locs := by rw [e_S5]; exact hw
  refine lv_aload_n hx hb dX9_reads_23 rfl (lv_at hl 0 rfl) ?_
  refine lv_iconst (v := (-1)) hx hb dX9_reads_24 (by decide) ?_
  refine pF (k := 18) (ty := .int) hc hw inX9 tyX9_ok nmX9 rfl 0 rfl (by decide) (gm 1077 (by decide +kernel) rfl) rfl (by decide +kernel) rfl rfl (Nat.le_of_ble_eq_true rfl) dX9_reads_25 (fun H locs hw => ?_)
  obtain ⟨S6, e_S6⟩ : ∃ z : Ob, z = uS S5 18 (-1) := ⟨_, rfl⟩
  have hm := hm S6 e_S6
  have hw : wV D A s.heap (mW cy a S6) H locs := by rw [e_S6]; exact hw
  refine lv_aload_n hx hb dX9_reads_28 rfl (lv_at hl 0 rfl) ?_
  refine aV_V (As := []) (rest := []) hc hw (c_M_readClause hm) lk_X9_198 rfl rfl ⟨Nat.le_of_ble_eq_true rfl, Nat.le_of_ble_eq_true rfl⟩ ⟨Nat.le_of_ble_eq_true rfl, Nat.le_of_ble_eq_true rfl⟩ hl.1 rfl (Nat.le_of_ble_eq_true rfl) rfl dX9_reads_29 (fun S7 H locs hm hw => ?_)
  have hw : wV D A s.heap (mW cy a S7) H locs := hw
  refine lv_iconst (v := 1) hx hb dX9_reads_32 (by decide) ?_
  refine lv_istore_n (lv' := [(1, .int 1), (0, .ref (a 0))]) hx hb dX9_reads_33 rfl hl (by decide) rfl (fun ls hl => ?_)
  refine wl2_ind (G := fun (x1_9 : Int32) (S10 : Ob) => ∀ (H : Heap) (locs : List Loc) (ls : Array Slot), wV D A s.heap (mW cy a S10) H locs → lv_has ls 2 [(1, .int x1_9), (0, .ref (a 0))] → W p l e (rmN 102) s m args below meth c H locs 0 0 (MQ below (eI D cy A (mW cy a) Q) args s (rmN 102).cells (rmN 102).slots A) (F0 m 34 ls [])) ?_ _ _ hm H locs ls hw (lv_sub hl [0, 1] rfl)
  intro L11 ih11 x1_9 S10 hm H locs ls hw hl
  refine lv_aload_n hx hb dX9_reads_34 rfl (lv_at hl 1 rfl) ?_
  refine lv_bipush (v := 59) hx hb dX9_reads_35 (by decide) ?_
  refine zS_I (As := [.int 59]) (rest := [.ref (a 0)]) hc hw (c_M_sign hm) lk_X9_182 ⟨Nat.le_of_ble_eq_true rfl, Nat.le_of_ble_eq_true rfl⟩ ⟨Nat.le_of_ble_eq_true rfl, Nat.le_of_ble_eq_true rfl⟩ hl.1 rfl (Nat.le_of_ble_eq_true rfl) rfl dX9_reads_37 (fun r12 H locs hm hw => ?_)
  refine aV_I (As := [.int r12]) (rest := []) hc hw (c_M_takes0 hm) lk_X9_157 rfl rfl ⟨Nat.le_of_ble_eq_true rfl, Nat.le_of_ble_eq_true rfl⟩ ⟨Nat.le_of_ble_eq_true rfl, Nat.le_of_ble_eq_true rfl⟩ hl.1 rfl (Nat.le_of_ble_eq_true rfl) rfl dX9_reads_40 (fun r14 S15 H locs hm hw => ?_)
  have hw : wV D A s.heap (mW cy a S15) H locs := hw
  refine lv_if_eq (tgt := 73) hx hb dX9_reads_43 (by decide) (fun c40 => ?_) (fun c40 => ?_)
  · have hm := hm.1 c40
    refine lv_aload_n hx hb dX9_reads_73 rfl (lv_at hl 1 rfl) ?_
    refine aV_I (As := []) (rest := []) hc hw (c_M_fine hm) lk_X9_150 rfl rfl ⟨Nat.le_of_ble_eq_true rfl, Nat.le_of_ble_eq_true rfl⟩ ⟨Nat.le_of_ble_eq_true rfl, Nat.le_of_ble_eq_true rfl⟩ hl.1 rfl (Nat.le_of_ble_eq_true rfl) rfl dX9_reads_74 (fun r17 _ H locs hm hw => ?_)
    have hw : wV D A s.heap (mW cy a S15) H locs := hw
    obtain ⟨J20, eJ20, hm⟩ := jn_e hm
    have hJ20 : ∀ (S19 : Ob) (_ : J20 S19) (H : Heap) (locs : List Loc) (ls : Array Slot), wV D A s.heap (mW cy a S19) H locs → lv_has ls 2 [(0, .ref (a 0))] → W p l e (rmN 102) s m args below meth c H locs 0 0 (MQ below (eI D cy A (mW cy a) Q) args s (rmN 102).cells (rmN 102).slots A) (F0 m 95 ls []) := by
      intro S19 hm H locs ls hw hl
      rw [eJ20] at hm
      refine lv_aload_n hx hb dX9_reads_95 rfl (lv_at hl 0 rfl) ?_
      refine lv_aload_n hx hb dX9_reads_96 rfl (lv_at hl 0 rfl) ?_
      refine gF (k := 18) hc hw inX9 rfl 0 rfl (by decide) (gm 1077 (by decide +kernel) rfl) rfl dX9_reads_97 ?_
      refine pF (k := 11) (ty := .int) hc hw inX9 tyX9_ok nmX9 rfl 0 rfl (by decide) (gm 1070 (by decide +kernel) rfl) rfl (by decide +kernel) rfl rfl (Nat.le_of_ble_eq_true rfl) dX9_reads_100 (fun H locs hw => ?_)
      obtain ⟨S21, e_S21⟩ : ∃ z : Ob, z = uS S19 11 (S19.1 18) := ⟨_, rfl⟩
      have hm := hm S21 e_S21
      have hw : wV D A s.heap (mW cy a S21) H locs := by rw [e_S21]; exact hw
      refine lv_aload_n hx hb dX9_reads_103 rfl (lv_at hl 0 rfl) ?_
      refine aV_I (As := []) (rest := []) hc hw (c_M_fine hm) lk_X9_150 rfl rfl ⟨Nat.le_of_ble_eq_true rfl, Nat.le_of_ble_eq_true rfl⟩ ⟨Nat.le_of_ble_eq_true rfl, Nat.le_of_ble_eq_true rfl⟩ hl.1 rfl (Nat.le_of_ble_eq_true rfl) rfl dX9_reads_104 (fun r22 _ H locs hm hw => ?_)
      have hw : wV D A s.heap (mW cy a S21) H locs := hw
      exact retZ (u := S21) hc hw hm.1 hm.2 dX9_reads_107
    refine lv_if_eq (tgt := 95) hx hb dX9_reads_77 (by decide) (fun c27 => ?_) (fun c27 => ?_)
    · have hm := hm.1 c27
      exact hJ20 _ hm _ _ _ hw (lv_sub hl [1] rfl)
    · have hm := hm.2 c27
      refine lv_aload_n hx hb dX9_reads_80 rfl (lv_at hl 1 rfl) ?_
      refine gF (k := 16) hc hw inX9 rfl 0 rfl (by decide) (gm 1075 (by decide +kernel) rfl) rfl dX9_reads_81 ?_
      refine lv_aload_n hx hb dX9_reads_84 rfl (lv_at hl 1 rfl) ?_
      refine gF (k := 15) hc hw inX9 rfl 0 rfl (by decide) (gm 1074 (by decide +kernel) rfl) rfl dX9_reads_85 ?_
      refine lv_icmp_ge (tgt := 95) hx hb dX9_reads_88 (by decide) (fun c26 => ?_) (fun c26 => ?_)
      · have hm := hm.1 c26
        exact hJ20 _ hm _ _ _ hw (lv_sub hl [1] rfl)
      · have hm := hm.2 c26
        refine lv_aload_n hx hb dX9_reads_91 rfl (lv_at hl 1 rfl) ?_
        refine aV_V (As := []) (rest := []) hc hw (c_M_faults hm) lk_X9_160 rfl rfl ⟨Nat.le_of_ble_eq_true rfl, Nat.le_of_ble_eq_true rfl⟩ ⟨Nat.le_of_ble_eq_true rfl, Nat.le_of_ble_eq_true rfl⟩ hl.1 rfl (Nat.le_of_ble_eq_true rfl) rfl dX9_reads_92 (fun S24 H locs hm hw => ?_)
        have hw : wV D A s.heap (mW cy a S24) H locs := hw
        exact hJ20 _ hm _ _ _ hw (lv_sub hl [1] rfl)
  · have hm := hm.2 c40
    refine lv_iload_n hx hb dX9_reads_46 rfl (lv_at hl 0 rfl) ?_
    refine lv_bipush (v := 12) hx hb dX9_reads_47 (by decide) ?_
    obtain ⟨J29, eJ29, hm⟩ := jn_e hm
    have hJ29 : ∀ (S28 : Ob) (_ : J29 S28) (H : Heap) (locs : List Loc) (ls : Array Slot), wV D A s.heap (mW cy a S28) H locs → lv_has ls 2 [(0, .ref (a 0)), (1, .int x1_9)] → W p l e (rmN 102) s m args below meth c H locs 0 0 (MQ below (eI D cy A (mW cy a) Q) args s (rmN 102).cells (rmN 102).slots A) (F0 m 56 ls []) := by
      intro S28 hm H locs ls hw hl
      rw [eJ29] at hm
      refine lv_aload_n hx hb dX9_reads_56 rfl (lv_at hl 0 rfl) ?_
      refine aV_I (As := []) (rest := []) hc hw (c_M_fine hm) lk_X9_150 rfl rfl ⟨Nat.le_of_ble_eq_true rfl, Nat.le_of_ble_eq_true rfl⟩ ⟨Nat.le_of_ble_eq_true rfl, Nat.le_of_ble_eq_true rfl⟩ hl.1 rfl (Nat.le_of_ble_eq_true rfl) rfl dX9_reads_57 (fun r30 _ H locs hm hw => ?_)
      have hw : wV D A s.heap (mW cy a S28) H locs := hw
      refine lv_if_eq (tgt := 67) hx hb dX9_reads_60 (by decide) (fun c36 => ?_) (fun c36 => ?_)
      · have hm := hm.1 c36
        obtain ⟨v32, e_v32⟩ : ∃ z : Int32, z = x1_9 + 1 := ⟨_, rfl⟩
        have hm := hm v32 e_v32
        refine lv_iinc (v := v32) (lv' := [(1, .int v32), (0, .ref (a 0))]) hx hb dX9_reads_67 hl (k := 1) rfl (by rw [e_v32]; rfl) (by decide) rfl (fun ls hl => ?_)
        refine lv_goto (tgt := 34) hx hb dX9_reads_70 (by decide) ?_
        exact ih11 _ _ hm _ _ _ hw (lv_sub hl [0, 1] rfl)
      · have hm := hm.2 c36
        refine lv_aload_n hx hb dX9_reads_63 rfl (lv_at hl 0 rfl) ?_
        refine aV_V (As := []) (rest := []) hc hw (c_M_readClause hm) lk_X9_198 rfl rfl ⟨Nat.le_of_ble_eq_true rfl, Nat.le_of_ble_eq_true rfl⟩ ⟨Nat.le_of_ble_eq_true rfl, Nat.le_of_ble_eq_true rfl⟩ hl.1 rfl (Nat.le_of_ble_eq_true rfl) rfl dX9_reads_64 (fun S33 H locs hm hw => ?_)
        have hw : wV D A s.heap (mW cy a S33) H locs := hw
        obtain ⟨v35, e_v35⟩ : ∃ z : Int32, z = x1_9 + 1 := ⟨_, rfl⟩
        have hm := hm v35 e_v35
        refine lv_iinc (v := v35) (lv' := [(1, .int v35), (0, .ref (a 0))]) hx hb dX9_reads_67 hl (k := 1) rfl (by rw [e_v35]; rfl) (by decide) rfl (fun ls hl => ?_)
        refine lv_goto (tgt := 34) hx hb dX9_reads_70 (by decide) ?_
        exact ih11 _ _ hm _ _ _ hw (lv_sub hl [0, 1] rfl)
    refine lv_icmp_ne (tgt := 56) hx hb dX9_reads_49 (by decide) (fun c39 => ?_) (fun c39 => ?_)
    · have hm := hm.1 c39
      exact hJ29 _ hm _ _ _ hw (lv_sub hl [1, 0] rfl)
    · have hm := hm.2 c39
      refine lv_aload_n hx hb dX9_reads_52 rfl (lv_at hl 1 rfl) ?_
      refine aV_V (As := []) (rest := []) hc hw (c_M_faults hm) lk_X9_160 rfl rfl ⟨Nat.le_of_ble_eq_true rfl, Nat.le_of_ble_eq_true rfl⟩ ⟨Nat.le_of_ble_eq_true rfl, Nat.le_of_ble_eq_true rfl⟩ hl.1 rfl (Nat.le_of_ble_eq_true rfl) rfl dX9_reads_53 (fun S37 H locs hm hw => ?_)
      have hw : wV D A s.heap (mW cy a S37) H locs := hw
      exact hJ29 _ hm _ _ _ hw (lv_sub hl [1, 0] rfl)
