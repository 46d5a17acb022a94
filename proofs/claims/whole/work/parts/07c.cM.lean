set_option maxHeartbeats 4000000 in
set_option maxRecDepth 100000 in
theorem c_M_law {l : Launch} {D : va_G} {cy : Nat → ClassId} {a : Nat → Nat} {S : Ob} {Q : Int32 → Ob → Prop} (hm : wM_law S Q) : CtI l yX9_law cX9_law 3 (some .int) (rmN 103) D cy [.ref (a 0)] (mW cy a S) (mW cy a) Q := by
  refine CtI.ofW (by decide) (Nat.le_of_ble_eq_true rfl) ?_
  intro p e s m args below meth c A ls hc hnm hw hl
  have hx := hc.1.1
  have hb := hc.1.2.1
  have hown := hc.1.2.2.2.1
  have hts := hc.1.2.2.2.2
  have hl : lv_has ls 3 [(0, .ref (a 0))] := hl
  obtain ⟨H, hH⟩ : ∃ z, z = s.heap := ⟨_, rfl⟩
  obtain ⟨locs, hLc⟩ : ∃ z : List Loc, z = [] := ⟨_, rfl⟩
  have hw : wV D A s.heap (mW cy a S) H locs := by rw [hH, hLc]; exact hw
  have hgo : W p l e (rmN 103) s m args below meth c H locs 0 0 (MQ below (eI D cy A (mW cy a) Q) args s (rmN 103).cells (rmN 103).slots A) (F0 m 0 ls []) := ?hgo
  · rw [hH, hLc] at hgo; exact hgo
  refine lv_aload_n hx hb dX9_law_0 rfl (lv_at hl 0 rfl) ?_
  refine gF (k := 3) hc hw inX9 rfl 0 rfl (by decide) (gm 1062 (by decide +kernel) rfl) rfl dX9_law_1 ?_
  refine lv_sipush (v := 137) hx hb dX9_law_4 (by decide) ?_
  refine aI hc hw 2 rfl (vin (by decide)) (j := 137) (by decide) dX9_law_7 ?_
  refine lv_bipush (v := 6) hx hb dX9_law_8 (by decide) ?_
  refine lv_icmp_ne (tgt := 25) hx hb dX9_law_10 (by decide) (fun c30 => ?_) (fun c30 => ?_)
  · have hm := hm.1 c30
    refine lv_aload_n hx hb dX9_law_25 rfl (lv_at hl 0 rfl) ?_
    refine aV_I (As := []) (rest := []) hc hw (c_M_reads hm) lk_X9_201 rfl rfl ⟨Nat.le_of_ble_eq_true rfl, Nat.le_of_ble_eq_true rfl⟩ ⟨Nat.le_of_ble_eq_true rfl, Nat.le_of_ble_eq_true rfl⟩ hl.1 rfl (Nat.le_of_ble_eq_true rfl) rfl dX9_law_26 (fun r1 S2 H locs hm hw => ?_)
    have hw : wV D A s.heap (mW cy a S2) H locs := hw
    refine lv_if_ne (tgt := 39) hx hb dX9_law_29 (by decide) (fun c25 => ?_) (fun c25 => ?_)
    · have hm := hm.1 c25
      refine lv_aload_n hx hb dX9_law_39 rfl (lv_at hl 0 rfl) ?_
      refine gF (k := 3) hc hw inX9 rfl 0 rfl (by decide) (gm 1062 (by decide +kernel) rfl) rfl dX9_law_40 ?_
      refine lv_sipush (v := 137) hx hb dX9_law_43 (by decide) ?_
      refine aI hc hw 2 rfl (vin (by decide)) (j := 137) (by decide) dX9_law_46 ?_
      refine lv_topi (fun v4 e_v4 => ?_)
      have hm := hm v4 e_v4
      refine lv_istore_n (lv' := [(1, .int v4), (0, .ref (a 0))]) hx hb dX9_law_47 rfl hl (by decide) rfl (fun ls hl => ?_)
      refine lv_aload_n hx hb dX9_law_48 rfl (lv_at hl 1 rfl) ?_
      refine gF (k := 3) hc hw inX9 rfl 0 rfl (by decide) (gm 1062 (by decide +kernel) rfl) rfl dX9_law_49 ?_
      refine lv_sipush (v := 139) hx hb dX9_law_52 (by decide) ?_
      refine lv_iload_n hx hb dX9_law_55 rfl (lv_at hl 0 rfl) ?_
      refine lv_iadd hx hb dX9_law_56 ?_
      refine lv_aload_n hx hb dX9_law_57 rfl (lv_at hl 1 rfl) ?_
      refine gF (k := 15) hc hw inX9 rfl 0 rfl (by decide) (gm 1074 (by decide +kernel) rfl) rfl dX9_law_58 ?_
      obtain ⟨c5, hm⟩ := hm
      refine sI hc hw 2 rfl c5 rfl dX9_law_61 (fun H locs hw => ?_)
      obtain ⟨S6, e_S6⟩ : ∃ z : Ob, z = uA S2 3 (Int32.toNatClampNeg (139 + v4)) (S2.1 15) := ⟨_, rfl⟩
      have hm := hm S6 e_S6
      have hw : wV D A s.heap (mW cy a S6) H locs := by rw [e_S6]; exact hw
      refine lv_iconst (v := 0) hx hb dX9_law_62 (by decide) ?_
      refine lv_istore_n (lv' := [(2, .int 0), (1, .int v4), (0, .ref (a 0))]) hx hb dX9_law_63 rfl hl (by decide) rfl (fun ls hl => ?_)
      refine wl2_ind (G := fun (x2_7 : Int32) (S8 : Ob) => ∀ (H : Heap) (locs : List Loc) (ls : Array Slot), wV D A s.heap (mW cy a S8) H locs → lv_has ls 3 [(2, .int x2_7), (1, .int v4), (0, .ref (a 0))] → W p l e (rmN 103) s m args below meth c H locs 0 0 (MQ below (eI D cy A (mW cy a) Q) args s (rmN 103).cells (rmN 103).slots A) (F0 m 64 ls [])) ?_ _ _ hm H locs ls hw (lv_sub hl [0, 1, 2] rfl)
      intro L9 ih9 x2_7 S8 hm H locs ls hw hl
      refine lv_iload_n hx hb dX9_law_64 rfl (lv_at hl 0 rfl) ?_
      refine lv_aload_n hx hb dX9_law_65 rfl (lv_at hl 2 rfl) ?_
      refine gF (k := 15) hc hw inX9 rfl 0 rfl (by decide) (gm 1074 (by decide +kernel) rfl) rfl dX9_law_66 ?_
      refine lv_icmp_ge (tgt := 122) hx hb dX9_law_69 (by decide) (fun c21 => ?_) (fun c21 => ?_)
      · have hm := hm.1 c21
        refine lv_aload_n hx hb dX9_law_122 rfl (lv_at hl 2 rfl) ?_
        refine gF (k := 3) hc hw inX9 rfl 0 rfl (by decide) (gm 1062 (by decide +kernel) rfl) rfl dX9_law_123 ?_
        refine lv_sipush (v := 137) hx hb dX9_law_126 (by decide) ?_
        refine lv_dup2_11 hx hb dX9_law_129 rfl rfl ?_
        refine aI hc hw 2 rfl (vin (by decide)) (j := 137) (by decide) dX9_law_130 ?_
        refine lv_iconst (v := 1) hx hb dX9_law_131 (by decide) ?_
        refine lv_iadd hx hb dX9_law_132 ?_
        refine sI hc hw 2 rfl (vin (by decide)) (j := 137) (by decide) dX9_law_133 (fun H locs hw => ?_)
        obtain ⟨S10, e_S10⟩ : ∃ z : Ob, z = uA S8 3 137 ((S8.2 3 137) + 1) := ⟨_, rfl⟩
        have hm := hm S10 e_S10
        have hw : wV D A s.heap (mW cy a S10) H locs := by rw [e_S10]; exact hw
        refine lv_aload_n hx hb dX9_law_134 rfl (lv_at hl 2 rfl) ?_
        refine lv_iload_n hx hb dX9_law_135 rfl (lv_at hl 1 rfl) ?_
        refine aV_I (As := [.int v4]) (rest := []) hc hw (c_M_good hm) lk_X9_102 rfl rfl ⟨Nat.le_of_ble_eq_true rfl, Nat.le_of_ble_eq_true rfl⟩ ⟨Nat.le_of_ble_eq_true rfl, Nat.le_of_ble_eq_true rfl⟩ hl.1 rfl (Nat.le_of_ble_eq_true rfl) rfl dX9_law_136 (fun r11 S12 H locs hm hw => ?_)
        have hw : wV D A s.heap (mW cy a S12) H locs := hw
        exact retI (u := S12) hc hw hm dX9_law_139
      · have hm := hm.2 c21
        refine lv_aload_n hx hb dX9_law_72 rfl (lv_at hl 2 rfl) ?_
        refine gF (k := 3) hc hw inX9 rfl 0 rfl (by decide) (gm 1062 (by decide +kernel) rfl) rfl dX9_law_73 ?_
        refine lv_sipush (v := 145) hx hb dX9_law_76 (by decide) ?_
        refine lv_sipush (v := 400) hx hb dX9_law_79 (by decide) ?_
        refine lv_iload_n hx hb dX9_law_82 rfl (lv_at hl 1 rfl) ?_
        refine lv_imul hx hb dX9_law_83 ?_
        refine lv_iadd hx hb dX9_law_84 ?_
        refine lv_iload_n hx hb dX9_law_85 rfl (lv_at hl 0 rfl) ?_
        refine lv_iadd hx hb dX9_law_86 ?_
        refine lv_aload_n hx hb dX9_law_87 rfl (lv_at hl 2 rfl) ?_
        refine gF (k := 12) hc hw inX9 rfl 0 rfl (by decide) (gm 1071 (by decide +kernel) rfl) rfl dX9_law_88 ?_
        refine lv_iload_n hx hb dX9_law_91 rfl (lv_at hl 0 rfl) ?_
        obtain ⟨c14, hm⟩ := hm
        refine aI hc hw 8 rfl c14 rfl dX9_law_92 ?_
        obtain ⟨c15, hm⟩ := hm
        refine sI hc hw 2 rfl c15 rfl dX9_law_93 (fun H locs hw => ?_)
        obtain ⟨S16, e_S16⟩ : ∃ z : Ob, z = uA S8 3 (Int32.toNatClampNeg ((145 + (400 * v4)) + x2_7)) (S8.2 12 (Int32.toNatClampNeg x2_7)) := ⟨_, rfl⟩
        have hm := hm S16 e_S16
        have hw : wV D A s.heap (mW cy a S16) H locs := by rw [e_S16]; exact hw
        refine lv_aload_n hx hb dX9_law_94 rfl (lv_at hl 2 rfl) ?_
        refine gF (k := 3) hc hw inX9 rfl 0 rfl (by decide) (gm 1062 (by decide +kernel) rfl) rfl dX9_law_95 ?_
        refine lv_sipush (v := 2545) hx hb dX9_law_98 (by decide) ?_
        refine lv_sipush (v := 400) hx hb dX9_law_101 (by decide) ?_
        refine lv_iload_n hx hb dX9_law_104 rfl (lv_at hl 1 rfl) ?_
        refine lv_imul hx hb dX9_law_105 ?_
        refine lv_iadd hx hb dX9_law_106 ?_
        refine lv_iload_n hx hb dX9_law_107 rfl (lv_at hl 0 rfl) ?_
        refine lv_iadd hx hb dX9_law_108 ?_
        refine lv_aload_n hx hb dX9_law_109 rfl (lv_at hl 2 rfl) ?_
        refine gF (k := 13) hc hw inX9 rfl 0 rfl (by decide) (gm 1072 (by decide +kernel) rfl) rfl dX9_law_110 ?_
        refine lv_iload_n hx hb dX9_law_113 rfl (lv_at hl 0 rfl) ?_
        obtain ⟨c17, hm⟩ := hm
        refine aI hc hw 9 rfl c17 rfl dX9_law_114 ?_
        obtain ⟨c18, hm⟩ := hm
        refine sI hc hw 2 rfl c18 rfl dX9_law_115 (fun H locs hw => ?_)
        obtain ⟨S19, e_S19⟩ : ∃ z : Ob, z = uA S16 3 (Int32.toNatClampNeg ((2545 + (400 * v4)) + x2_7)) (S16.2 13 (Int32.toNatClampNeg x2_7)) := ⟨_, rfl⟩
        have hm := hm S19 e_S19
        have hw : wV D A s.heap (mW cy a S19) H locs := by rw [e_S19]; exact hw
        obtain ⟨v20, e_v20⟩ : ∃ z : Int32, z = x2_7 + 1 := ⟨_, rfl⟩
        have hm := hm v20 e_v20
        refine lv_iinc (v := v20) (lv' := [(2, .int v20), (1, .int v4), (0, .ref (a 0))]) hx hb dX9_law_116 hl (k := 0) rfl (by rw [e_v20]; rfl) (by decide) rfl (fun ls hl => ?_)
        refine lv_goto (tgt := 64) hx hb dX9_law_119 (by decide) ?_
        exact ih9 _ _ hm _ _ _ hw (lv_sub hl [0, 1, 2] rfl)
    · have hm := hm.2 c25
      refine lv_aload_n hx hb dX9_law_32 rfl (lv_at hl 0 rfl) ?_
      refine lv_bipush (v := (-6)) hx hb dX9_law_33 (by decide) ?_
      refine aV_I (As := [.int (-6)]) (rest := []) hc hw (c_M_refuses hm) lk_X9_98 rfl rfl ⟨Nat.le_of_ble_eq_true rfl, Nat.le_of_ble_eq_true rfl⟩ ⟨Nat.le_of_ble_eq_true rfl, Nat.le_of_ble_eq_true rfl⟩ hl.1 rfl (Nat.le_of_ble_eq_true rfl) rfl dX9_law_35 (fun r22 S23 H locs hm hw => ?_)
      have hw : wV D A s.heap (mW cy a S23) H locs := hw
      exact retI (u := S23) hc hw hm dX9_law_38
  · have hm := hm.2 c30
    refine lv_aload_n hx hb dX9_law_13 rfl (lv_at hl 0 rfl) ?_
    refine lv_iconst (v := 0) hx hb dX9_law_14 (by decide) ?_
    refine pF (k := 10) (ty := .int) hc hw inX9 tyX9_ok nmX9 rfl 0 rfl (by decide) (gm 1069 (by decide +kernel) rfl) rfl (by decide +kernel) rfl rfl (Nat.le_of_ble_eq_true rfl) dX9_law_15 (fun H locs hw => ?_)
    obtain ⟨S26, e_S26⟩ : ∃ z : Ob, z = uS S 10 0 := ⟨_, rfl⟩
    have hm := hm S26 e_S26
    have hw : wV D A s.heap (mW cy a S26) H locs := by rw [e_S26]; exact hw
    refine lv_aload_n hx hb dX9_law_18 rfl (lv_at hl 0 rfl) ?_
    refine lv_bipush (v := (-5)) hx hb dX9_law_19 (by decide) ?_
    refine aV_I (As := [.int (-5)]) (rest := []) hc hw (c_M_refuses hm) lk_X9_98 rfl rfl ⟨Nat.le_of_ble_eq_true rfl, Nat.le_of_ble_eq_true rfl⟩ ⟨Nat.le_of_ble_eq_true rfl, Nat.le_of_ble_eq_true rfl⟩ hl.1 rfl (Nat.le_of_ble_eq_true rfl) rfl dX9_law_21 (fun r27 S28 H locs hm hw => ?_)
    have hw : wV D A s.heap (mW cy a S28) H locs := hw
    exact retI (u := S28) hc hw hm dX9_law_24
set_option maxHeartbeats 4000000 in
set_option maxRecDepth 100000 in
theorem c_M_fault {l : Launch} {D : va_G} {cy : Nat → ClassId} {a : Nat → Nat} {S : Ob} {Q : Int32 → Prop} (hm : wM_fault S Q) : CtI l yX9_fault cX9_fault 1 (some .int) (rmN 0) D cy [.ref (a 0)] (mW cy a S) (fun _ : Unit => mW cy a S) (fun (r : Int32) (_ : Unit) => Q r) := by
  refine CtI.ofW (by decide) (Nat.le_of_ble_eq_true rfl) ?_
  intro p e s m args below meth c A ls hc hnm hw hl
  have hx := hc.1.1
  have hb := hc.1.2.1
  have hown := hc.1.2.2.2.1
  have hts := hc.1.2.2.2.2
  have hl : lv_has ls 1 [(0, .ref (a 0))] := hl
  obtain ⟨H, hH⟩ : ∃ z, z = s.heap := ⟨_, rfl⟩
  obtain ⟨locs, hLc⟩ : ∃ z : List Loc, z = [] := ⟨_, rfl⟩
  have hw : wV D A s.heap (mW cy a S) H locs := by rw [hH, hLc]; exact hw
  have hgo : W p l e (rmN 0) s m args below meth c H locs 0 0 (MQ below (eI D cy A (fun _ : Unit => mW cy a S) (fun (r : Int32) (_ : Unit) => Q r)) args s (rmN 0).cells (rmN 0).slots A) (F0 m 0 ls []) := ?hgo
  · rw [hH, hLc] at hgo; exact hgo
  refine lv_aload_n hx hb dX9_fault_0 rfl (lv_at hl 0 rfl) ?_
  refine gF (k := 11) hc hw inX9 rfl 0 rfl (by decide) (gm 1070 (by decide +kernel) rfl) rfl dX9_fault_1 ?_
  exact retI (u := ()) hc hw hm dX9_fault_4
set_option maxHeartbeats 4000000 in
set_option maxRecDepth 100000 in
theorem c_M_force {l : Launch} {D : va_G} {cy : Nat → ClassId} {a : Nat → Nat} {S : Ob} {x1 : Int32} {Q : Int32 → Ob → Prop} (hm : wM_force S x1 Q) : CtI l yX9_force cX9_force 3 (some .int) (rmN 1) D cy [.ref (a 0), .int x1] (mW cy a S) (mW cy a) Q := by
  refine CtI.ofW (by decide) (Nat.le_of_ble_eq_true rfl) ?_
  intro p e s m args below meth c A ls hc hnm hw hl
  have hx := hc.1.1
  have hb := hc.1.2.1
  have hown := hc.1.2.2.2.1
  have hts := hc.1.2.2.2.2
  have hl : lv_has ls 3 [(0, .ref (a 0)), (1, .int x1)] := hl
  obtain ⟨H, hH⟩ : ∃ z, z = s.heap := ⟨_, rfl⟩
  obtain ⟨locs, hLc⟩ : ∃ z : List Loc, z = [] := ⟨_, rfl⟩
  have hw : wV D A s.heap (mW cy a S) H locs := by rw [hH, hLc]; exact hw
  have hgo : W p l e (rmN 1) s m args below meth c H locs 0 0 (MQ below (eI D cy A (mW cy a) Q) args s (rmN 1).cells (rmN 1).slots A) (F0 m 0 ls []) := ?hgo
  · rw [hH, hLc] at hgo; exact hgo
  refine lv_iload_n hx hb dX9_force_0 rfl (lv_at hl 1 rfl) ?_
  refine lv_iconst (v := (-1)) hx hb dX9_force_1 (by decide) ?_
  refine lv_aload_n hx hb dX9_force_2 rfl (lv_at hl 0 rfl) ?_
  refine gF (k := 3) hc hw inX9 rfl 0 rfl (by decide) (gm 1062 (by decide +kernel) rfl) rfl dX9_force_3 ?_
  refine lv_sipush (v := 137) hx hb dX9_force_6 (by decide) ?_
  refine aI hc hw 2 rfl (vin (by decide)) (j := 137) (by decide) dX9_force_9 ?_
  refine lv_iconst (v := 1) hx hb dX9_force_10 (by decide) ?_
  refine lv_isub hx hb dX9_force_11 ?_
  refine zS_I (As := [.int x1, .int (-1), .int ((S.2 3 137) - 1)]) (rest := []) hc hw (c_M_lies hm) lk_X9_94 ⟨Nat.le_of_ble_eq_true rfl, Nat.le_of_ble_eq_true rfl⟩ ⟨Nat.le_of_ble_eq_true rfl, Nat.le_of_ble_eq_true rfl⟩ hl.1 rfl (Nat.le_of_ble_eq_true rfl) rfl dX9_force_12 (fun r1 H locs hm hw => ?_)
  refine lv_if_ne (tgt := 25) hx hb dX9_force_15 (by decide) (fun c11 => ?_) (fun c11 => ?_)
  · have hm := hm.1 c11
    refine lv_aload_n hx hb dX9_force_25 rfl (lv_at hl 0 rfl) ?_
    refine gF (k := 3) hc hw inX9 rfl 0 rfl (by decide) (gm 1062 (by decide +kernel) rfl) rfl dX9_force_26 ?_
    refine lv_sipush (v := 138) hx hb dX9_force_29 (by decide) ?_
    refine aI hc hw 2 rfl (vin (by decide)) (j := 138) (by decide) dX9_force_32 ?_
    refine lv_topi (fun v3 e_v3 => ?_)
    have hm := hm v3 e_v3
    refine lv_istore_n (lv' := [(2, .int v3), (0, .ref (a 0)), (1, .int x1)]) hx hb dX9_force_33 rfl hl (by decide) rfl (fun ls hl => ?_)
    refine lv_aload_n hx hb dX9_force_34 rfl (lv_at hl 1 rfl) ?_
    refine gF (k := 3) hc hw inX9 rfl 0 rfl (by decide) (gm 1062 (by decide +kernel) rfl) rfl dX9_force_35 ?_
    refine lv_sipush (v := 138) hx hb dX9_force_38 (by decide) ?_
    refine lv_iload_n hx hb dX9_force_41 rfl (lv_at hl 2 rfl) ?_
    refine sI hc hw 2 rfl (vin (by decide)) (j := 138) (by decide) dX9_force_42 (fun H locs hw => ?_)
    obtain ⟨S4, e_S4⟩ : ∃ z : Ob, z = uA S 3 138 x1 := ⟨_, rfl⟩
    have hm := hm S4 e_S4
    have hw : wV D A s.heap (mW cy a S4) H locs := by rw [e_S4]; exact hw
    refine lv_aload_n hx hb dX9_force_43 rfl (lv_at hl 1 rfl) ?_
    refine lv_iload_n hx hb dX9_force_44 rfl (lv_at hl 0 rfl) ?_
    refine aV_I (As := [.int v3]) (rest := []) hc hw (c_M_good hm) lk_X9_102 rfl rfl ⟨Nat.le_of_ble_eq_true rfl, Nat.le_of_ble_eq_true rfl⟩ ⟨Nat.le_of_ble_eq_true rfl, Nat.le_of_ble_eq_true rfl⟩ hl.1 rfl (Nat.le_of_ble_eq_true rfl) rfl dX9_force_45 (fun r5 S6 H locs hm hw => ?_)
    have hw : wV D A s.heap (mW cy a S6) H locs := hw
    exact retI (u := S6) hc hw hm dX9_force_48
  · have hm := hm.2 c11
    refine lv_aload_n hx hb dX9_force_18 rfl (lv_at hl 0 rfl) ?_
    refine lv_bipush (v := (-2)) hx hb dX9_force_19 (by decide) ?_
    refine aV_I (As := [.int (-2)]) (rest := []) hc hw (c_M_refuses hm) lk_X9_98 rfl rfl ⟨Nat.le_of_ble_eq_true rfl, Nat.le_of_ble_eq_true rfl⟩ ⟨Nat.le_of_ble_eq_true rfl, Nat.le_of_ble_eq_true rfl⟩ hl.1 rfl (Nat.le_of_ble_eq_true rfl) rfl dX9_force_21 (fun r8 S9 H locs hm hw => ?_)
    have hw : wV D A s.heap (mW cy a S9) H locs := hw
    exact retI (u := S9) hc hw hm dX9_force_24
set_option maxHeartbeats 4000000 in
set_option maxRecDepth 100000 in
theorem c_M_codeAt {l : Launch} {D : va_G} {cy : Nat → ClassId} {a : Nat → Nat} {S : Ob} {x1 : Int32} {Q : Int32 → Prop} (hm : wM_codeAt S x1 Q) : CtI l yX9_codeAt cX9_codeAt 2 (some .int) (rmN 0) D cy [.ref (a 0), .int x1] (mW cy a S) (fun _ : Unit => mW cy a S) (fun (r : Int32) (_ : Unit) => Q r) := by
  refine CtI.ofW (by decide) (Nat.le_of_ble_eq_true rfl) ?_
  intro p e s m args below meth c A ls hc hnm hw hl
  have hx := hc.1.1
  have hb := hc.1.2.1
  have hown := hc.1.2.2.2.1
  have hts := hc.1.2.2.2.2
  have hl : lv_has ls 2 [(0, .ref (a 0)), (1, .int x1)] := hl
  obtain ⟨H, hH⟩ : ∃ z, z = s.heap := ⟨_, rfl⟩
  obtain ⟨locs, hLc⟩ : ∃ z : List Loc, z = [] := ⟨_, rfl⟩
  have hw : wV D A s.heap (mW cy a S) H locs := by rw [hH, hLc]; exact hw
  have hgo : W p l e (rmN 0) s m args below meth c H locs 0 0 (MQ below (eI D cy A (fun _ : Unit => mW cy a S) (fun (r : Int32) (_ : Unit) => Q r)) args s (rmN 0).cells (rmN 0).slots A) (F0 m 0 ls []) := ?hgo
  · rw [hH, hLc] at hgo; exact hgo
  refine lv_iload_n hx hb dX9_codeAt_0 rfl (lv_at hl 1 rfl) ?_
  refine lv_aload_n hx hb dX9_codeAt_1 rfl (lv_at hl 0 rfl) ?_
  refine gF (k := 20) hc hw inX9 rfl 0 rfl (by decide) (gm 1079 (by decide +kernel) rfl) rfl dX9_codeAt_2 ?_
  refine lv_icmp_ge (tgt := 21) hx hb dX9_codeAt_5 (by decide) (fun c2 => ?_) (fun c2 => ?_)
  · have hm := hm.1 c2
    refine lv_iconst (v := 0) hx hb dX9_codeAt_21 (by decide) ?_
    exact retI (u := ()) hc hw hm dX9_codeAt_22
  · have hm := hm.2 c2
    refine lv_aload_n hx hb dX9_codeAt_8 rfl (lv_at hl 0 rfl) ?_
    refine gF (k := 3) hc hw inX9 rfl 0 rfl (by decide) (gm 1062 (by decide +kernel) rfl) rfl dX9_codeAt_9 ?_
    refine lv_sipush (v := 145) hx hb dX9_codeAt_12 (by decide) ?_
    refine lv_iload_n hx hb dX9_codeAt_15 rfl (lv_at hl 1 rfl) ?_
    refine lv_iadd hx hb dX9_codeAt_16 ?_
    obtain ⟨c1, hm⟩ := hm
    refine aI hc hw 2 rfl c1 rfl dX9_codeAt_17 ?_
    refine lv_goto (tgt := 22) hx hb dX9_codeAt_18 (by decide) ?_
    exact retI (u := ()) hc hw hm dX9_codeAt_22
set_option maxHeartbeats 4000000 in
set_option maxRecDepth 100000 in
theorem c_M_passes0 {l : Launch} {D : va_G} {cy : Nat → ClassId} {a : Nat → Nat} {S : Ob} {x1 : Int32} {Q : Int32 → Ob → Prop} (hm : wM_passes0 S x1 Q) : CtI l yX9_passes0 cX9_passes0 3 (some .boolean) (rmN 1) D cy [.ref (a 0), .int x1] (mW cy a S) (mW cy a) Q := by
  refine CtI.ofW (by decide) (Nat.le_of_ble_eq_true rfl) ?_
  intro p e s m args below meth c A ls hc hnm hw hl
  have hx := hc.1.1
  have hb := hc.1.2.1
  have hown := hc.1.2.2.2.1
  have hts := hc.1.2.2.2.2
  have hl : lv_has ls 3 [(0, .ref (a 0)), (1, .int x1)] := hl
  obtain ⟨H, hH⟩ : ∃ z, z = s.heap := ⟨_, rfl⟩
  obtain ⟨locs, hLc⟩ : ∃ z : List Loc, z = [] := ⟨_, rfl⟩
  have hw : wV D A s.heap (mW cy a S) H locs := by rw [hH, hLc]; exact hw
  have hgo : W p l e (rmN 1) s m args below meth c H locs 0 0 (MQ below (eI D cy A (mW cy a) Q) args s (rmN 1).cells (rmN 1).slots A) (F0 m 0 ls []) := ?hgo
  · rw [hH, hLc] at hgo; exact hgo
  refine lv_aload_n hx hb dX9_passes0_0 rfl (lv_at hl 0 rfl) ?_
  refine lv_aload_n hx hb dX9_passes0_1 rfl (lv_at hl 0 rfl) ?_
  refine gF (k := 19) hc hw inX9 rfl 0 rfl (by decide) (gm 1078 (by decide +kernel) rfl) rfl dX9_passes0_2 ?_
  refine aV_I (As := [.int (S.1 19)]) (rest := []) hc hw (c_M_codeAt hm) lk_X9_210 rfl rfl ⟨Nat.le_of_ble_eq_true rfl, Nat.le_of_ble_eq_true rfl⟩ ⟨Nat.le_of_ble_eq_true rfl, Nat.le_of_ble_eq_true rfl⟩ hl.1 rfl (Nat.le_of_ble_eq_true rfl) rfl dX9_passes0_5 (fun r1 _ H locs hm hw => ?_)
  have hw : wV D A s.heap (mW cy a S) H locs := hw
  refine lv_iload_n hx hb dX9_passes0_8 rfl (lv_at hl 1 rfl) ?_
  obtain ⟨J4, eJ4, hm⟩ := jn_e hm
  have hJ4 : ∀ (t3 : Int32) (_ : J4 t3) (H : Heap) (locs : List Loc) (ls : Array Slot), wV D A s.heap (mW cy a S) H locs → lv_has ls 3 [(0, .ref (a 0))] → W p l e (rmN 1) s m args below meth c H locs 0 0 (MQ below (eI D cy A (mW cy a) Q) args s (rmN 1).cells (rmN 1).slots A) (F0 m 17 ls [.int t3]) := by
    intro t3 hm H locs ls hw hl
    rw [eJ4] at hm
    refine lv_istore_n (lv' := [(2, .int t3), (0, .ref (a 0))]) hx hb dX9_passes0_17 rfl hl (by decide) rfl (fun ls hl => ?_)
    refine lv_iload_n hx hb dX9_passes0_18 rfl (lv_at hl 0 rfl) ?_
    refine lv_if_eq (tgt := 32) hx hb dX9_passes0_19 (by decide) (fun c6 => ?_) (fun c6 => ?_)
    · have hm := hm.1 c6
      refine lv_iload_n hx hb dX9_passes0_32 rfl (lv_at hl 0 rfl) ?_
      exact retZ (u := S) hc hw hm.1 hm.2 dX9_passes0_33
    · have hm := hm.2 c6
      refine lv_aload_n hx hb dX9_passes0_22 rfl (lv_at hl 1 rfl) ?_
      refine lv_dup hx hb dX9_passes0_23 rfl ?_
      refine gF (k := 19) hc hw inX9 rfl 0 rfl (by decide) (gm 1078 (by decide +kernel) rfl) rfl dX9_passes0_24 ?_
      refine lv_iconst (v := 1) hx hb dX9_passes0_27 (by decide) ?_
      refine lv_iadd hx hb dX9_passes0_28 ?_
      refine pF (k := 19) (ty := .int) hc hw inX9 tyX9_ok nmX9 rfl 0 rfl (by decide) (gm 1078 (by decide +kernel) rfl) rfl (by decide +kernel) rfl rfl (Nat.le_of_ble_eq_true rfl) dX9_passes0_29 (fun H locs hw => ?_)
      obtain ⟨S5, e_S5⟩ : ∃ z : Ob, z = uS S 19 ((S.1 19) + 1) := ⟨_, rfl⟩
      have hm := hm S5 e_S5
      have hw : wV D A s.heap (mW cy a S5) H locs := by rw [e_S5]; exact hw
      refine lv_iload_n hx hb dX9_passes0_32 rfl (lv_at hl 0 rfl) ?_
      exact retZ (u := S5) hc hw hm.1 hm.2 dX9_passes0_33
  refine lv_icmp_ne (tgt := 16) hx hb dX9_passes0_9 (by decide) (fun c7 => ?_) (fun c7 => ?_)
  · have hm := hm.1 c7
    refine lv_iconst (v := 0) hx hb dX9_passes0_16 (by decide) ?_
    exact hJ4 _ hm _ _ _ hw (lv_sub hl [0] rfl)
  · have hm := hm.2 c7
    refine lv_iconst (v := 1) hx hb dX9_passes0_12 (by decide) ?_
    refine lv_goto (tgt := 17) hx hb dX9_passes0_13 (by decide) ?_
    exact hJ4 _ hm _ _ _ hw (lv_sub hl [0] rfl)
set_option maxHeartbeats 4000000 in
set_option maxRecDepth 100000 in
theorem c_M_bounded {l : Launch} {D : va_G} {cy : Nat → ClassId} {a : Nat → Nat} {S : Ob} {x1 : Int64} {x3 : Int32} {Q : Int64 → Ob → Prop} (hm : wM_bounded S x1 x3 Q) : CtL l yX9_bounded cX9_bounded 4 (some .long) (rmN 0) D cy [.ref (a 0), .long x1, .int x3] (mW cy a S) (mW cy a) Q := by
  refine CtL.ofW (by decide) (Nat.le_of_ble_eq_true rfl) ?_
  intro p e s m args below meth c A ls hc hnm hw hl
  have hx := hc.1.1
  have hb := hc.1.2.1
  have hown := hc.1.2.2.2.1
  have hts := hc.1.2.2.2.2
  have hl : lv_has ls 4 [(0, .ref (a 0)), (1, .long x1), (3, .int x3)] := hl
  obtain ⟨H, hH⟩ : ∃ z, z = s.heap := ⟨_, rfl⟩
  obtain ⟨locs, hLc⟩ : ∃ z : List Loc, z = [] := ⟨_, rfl⟩
  have hw : wV D A s.heap (mW cy a S) H locs := by rw [hH, hLc]; exact hw
  have hgo : W p l e (rmN 0) s m args below meth c H locs 0 0 (MQ below (eL D cy A (mW cy a) Q) args s (rmN 0).cells (rmN 0).slots A) (F0 m 0 ls []) := ?hgo
  · rw [hH, hLc] at hgo; exact hgo
  refine lv_iload_n hx hb dX9_bounded_0 rfl (lv_at hl 2 rfl) ?_
  obtain ⟨J2, eJ2, hm⟩ := jn_e hm
  have hJ2 : ∀ (S1 : Ob) (_ : J2 S1) (H : Heap) (locs : List Loc) (ls : Array Slot), wV D A s.heap (mW cy a S1) H locs → lv_has ls 4 [(0, .ref (a 0)), (1, .long x1)] → W p l e (rmN 0) s m args below meth c H locs 0 0 (MQ below (eL D cy A (mW cy a) Q) args s (rmN 0).cells (rmN 0).slots A) (F0 m 25 ls []) := by
    intro S1 hm H locs ls hw hl
    rw [eJ2] at hm
    refine lv_aload_n hx hb dX9_bounded_25 rfl (lv_at hl 0 rfl) ?_
    refine gF (k := 21) hc hw inX9 rfl 0 rfl (by decide) (gm 1080 (by decide +kernel) rfl) rfl dX9_bounded_26 ?_
    refine lv_if_eq (tgt := 36) hx hb dX9_bounded_29 (by decide) (fun c3 => ?_) (fun c3 => ?_)
    · have hm := hm.1 c3
      refine lv_lload_n hx hb dX9_bounded_36 rfl (lv_at hl 1 rfl) ?_
      exact retL (u := S1) hc hw hm dX9_bounded_37
    · have hm := hm.2 c3
      refine lv_lconst (v := 0) hx hb dX9_bounded_32 (by decide) ?_
      refine lv_goto (tgt := 37) hx hb dX9_bounded_33 (by decide) ?_
      exact retL (u := S1) hc hw hm dX9_bounded_37
  refine lv_if_eq (tgt := 25) hx hb dX9_bounded_1 (by decide) (fun c9 => ?_) (fun c9 => ?_)
  · have hm := hm.1 c9
    exact hJ2 _ hm _ _ _ hw (lv_sub hl [0, 1] rfl)
  · have hm := hm.2 c9
    refine lv_lload_n hx hb dX9_bounded_4 rfl (lv_at hl 1 rfl) ?_
    refine lv_ldc2 (v := 1000000000) hx hb hown (hts _ (gm 1384 (by decide +kernel) rfl)) dX9_bounded_5 ?_
    refine W.lcmp hx hb dX9_bounded_8 ?_
    obtain ⟨J5, eJ5, hm⟩ := jn_e hm
    have hJ5 : ∀ (z4 : Unit) (_ : J5 z4) (H : Heap) (locs : List Loc) (ls : Array Slot), wV D A s.heap (mW cy a S) H locs → lv_has ls 4 [(0, .ref (a 0)), (1, .long x1)] → W p l e (rmN 0) s m args below meth c H locs 0 0 (MQ below (eL D cy A (mW cy a) Q) args s (rmN 0).cells (rmN 0).slots A) (F0 m 20 ls []) := by
      intro z4 hm H locs ls hw hl
      rw [eJ5] at hm
      refine lv_aload_n hx hb dX9_bounded_20 rfl (lv_at hl 0 rfl) ?_
      refine lv_iconst (v := 1) hx hb dX9_bounded_21 (by decide) ?_
      refine pF (k := 21) (ty := .boolean) hc hw inX9 tyX9_ok nmX9 rfl 0 rfl (by decide) (gm 1080 (by decide +kernel) rfl) rfl (by decide +kernel) rfl rfl (Nat.le_of_ble_eq_true rfl) dX9_bounded_22 (fun H locs hw => ?_)
      obtain ⟨S6, e_S6⟩ : ∃ z : Ob, z = uS S 21 1 := ⟨_, rfl⟩
      have hm := hm S6 e_S6
      have hw : wV D A s.heap (mW cy a S6) H locs := by rw [e_S6]; exact hw
      exact hJ2 _ hm _ _ _ hw (lv_sub hl [0, 1] rfl)
    refine lv_if_gt (tgt := 20) hx hb dX9_bounded_9 (by decide) (fun c8 => ?_) (fun c8 => ?_)
    · have hm := hm.1 c8
      exact hJ5 _ hm _ _ _ hw (lv_sub hl [0, 1] rfl)
    · have hm := hm.2 c8
      refine lv_lload_n hx hb dX9_bounded_12 rfl (lv_at hl 1 rfl) ?_
      refine lv_ldc2 (v := (-1000000000)) hx hb hown (hts _ (gm 1385 (by decide +kernel) rfl)) dX9_bounded_13 ?_
      refine W.lcmp hx hb dX9_bounded_16 ?_
      refine lv_if_ge (tgt := 25) hx hb dX9_bounded_17 (by decide) (fun c7 => ?_) (fun c7 => ?_)
      · have hm := hm.1 c7
        exact hJ2 _ hm _ _ _ hw (lv_sub hl [0, 1] rfl)
      · have hm := hm.2 c7
        exact hJ5 _ hm _ _ _ hw (lv_sub hl [0, 1] rfl)
set_option maxHeartbeats 4000000 in
set_option maxRecDepth 100000 in
theorem c_M_partOf {l : Launch} {D : va_G} {cy : Nat → ClassId} {a : Nat → Nat} {S : Ob} {x1 : Int32} {Q : Int64 → Ob → Prop} {rec : Ob → Int32 → (Int64 → Ob → Prop) → Prop} {k : Nat} (hk : 2 ≤ k) (hrec : ∀ {S : Ob} {x1 : Int32} {Q : Int64 → Ob → Prop}, rec S x1 Q → CtL l yX9_sumOf cX9_sumOf 7 (some .long) (rmN k) D cy [.ref (a 0), .int x1] (mW cy a S) (mW cy a) Q) (hm : wM_partOf rec S x1 Q) : CtL l yX9_partOf cX9_partOf 4 (some .long) (rmN (k + 1)) D cy [.ref (a 0), .int x1] (mW cy a S) (mW cy a) Q := by
  refine CtL.ofW (by decide) (Nat.le_of_ble_eq_true rfl) ?_
  intro p e s m args below meth c A ls hc hnm hw hl
  have hx := hc.1.1
  have hb := hc.1.2.1
  have hown := hc.1.2.2.2.1
  have hts := hc.1.2.2.2.2
  have hl : lv_has ls 4 [(0, .ref (a 0)), (1, .int x1)] := hl
  obtain ⟨H, hH⟩ : ∃ z, z = s.heap := ⟨_, rfl⟩
  obtain ⟨locs, hLc⟩ : ∃ z : List Loc, z = [] := ⟨_, rfl⟩
  have hw : wV D A s.heap (mW cy a S) H locs := by rw [hH, hLc]; exact hw
  have hgo : W p l e (rmN (k + 1)) s m args below meth c H locs 0 0 (MQ below (eL D cy A (mW cy a) Q) args s (rmN (k + 1)).cells (rmN (k + 1)).slots A) (F0 m 0 ls []) := ?hgo
  · rw [hH, hLc] at hgo; exact hgo
  refine lv_aload_n hx hb dX9_partOf_0 rfl (lv_at hl 0 rfl) ?_
  refine lv_bipush (v := 91) hx hb dX9_partOf_1 (by decide) ?_
  refine zS_I (As := [.int 91]) (rest := [.ref (a 0)]) hc hw (c_M_sign hm) lk_X9_182 (rm_ok (by omega) (by omega)) ⟨Nat.le_of_ble_eq_true rfl, Nat.le_of_ble_eq_true rfl⟩ hl.1 rfl (Nat.le_of_ble_eq_true rfl) rfl dX9_partOf_3 (fun r1 H locs hm hw => ?_)
  refine aV_I (As := [.int r1]) (rest := []) hc hw (c_M_passes0 hm) lk_X9_232 rfl rfl (rm_ok (by omega) (by omega)) ⟨Nat.le_of_ble_eq_true rfl, Nat.le_of_ble_eq_true rfl⟩ hl.1 rfl (Nat.le_of_ble_eq_true rfl) rfl dX9_partOf_6 (fun r3 S4 H locs hm hw => ?_)
  have hw : wV D A s.heap (mW cy a S4) H locs := hw
  refine lv_if_eq (tgt := 30) hx hb dX9_partOf_9 (by decide) (fun c18 => ?_) (fun c18 => ?_)
  · have hm := hm.1 c18
    refine lv_aload_n hx hb dX9_partOf_30 rfl (lv_at hl 0 rfl) ?_
    refine lv_aload_n hx hb dX9_partOf_31 rfl (lv_at hl 0 rfl) ?_
    refine gF (k := 19) hc hw inX9 rfl 0 rfl (by decide) (gm 1078 (by decide +kernel) rfl) rfl dX9_partOf_32 ?_
    refine aV_I (As := [.int (S4.1 19)]) (rest := []) hc hw (c_M_codeAt hm) lk_X9_210 rfl rfl (rm_ok (by omega) (by omega)) ⟨Nat.le_of_ble_eq_true rfl, Nat.le_of_ble_eq_true rfl⟩ hl.1 rfl (Nat.le_of_ble_eq_true rfl) rfl dX9_partOf_35 (fun r6 _ H locs hm hw => ?_)
    have hw : wV D A s.heap (mW cy a S4) H locs := hw
    refine lv_istore_n (lv' := [(2, .int r6), (0, .ref (a 0)), (1, .int x1)]) hx hb dX9_partOf_38 rfl hl (by decide) rfl (fun ls hl => ?_)
    refine lv_aload_n hx hb dX9_partOf_39 rfl (lv_at hl 1 rfl) ?_
    refine lv_dup hx hb dX9_partOf_40 rfl ?_
    refine gF (k := 19) hc hw inX9 rfl 0 rfl (by decide) (gm 1078 (by decide +kernel) rfl) rfl dX9_partOf_41 ?_
    refine lv_iconst (v := 1) hx hb dX9_partOf_44 (by decide) ?_
    refine lv_iadd hx hb dX9_partOf_45 ?_
    refine pF (k := 19) (ty := .int) hc hw inX9 tyX9_ok nmX9 rfl 0 rfl (by decide) (gm 1078 (by decide +kernel) rfl) rfl (by decide +kernel) rfl rfl (Nat.le_of_ble_eq_true rfl) dX9_partOf_46 (fun H locs hw => ?_)
    obtain ⟨S8, e_S8⟩ : ∃ z : Ob, z = uS S4 19 ((S4.1 19) + 1) := ⟨_, rfl⟩
    have hm := hm S8 e_S8
    have hw : wV D A s.heap (mW cy a S8) H locs := by rw [e_S8]; exact hw
    refine lv_iload_n hx hb dX9_partOf_49 rfl (lv_at hl 2 rfl) ?_
    refine lv_if_eq (tgt := 60) hx hb dX9_partOf_50 (by decide) (fun c13 => ?_) (fun c13 => ?_)
    · have hm := hm.1 c13
      refine lv_lconst (v := 0) hx hb dX9_partOf_60 (by decide) ?_
      exact retL (u := S8) hc hw hm dX9_partOf_61
    · have hm := hm.2 c13
      refine lv_aload_n hx hb dX9_partOf_53 rfl (lv_at hl 1 rfl) ?_
      refine gF (k := 21) hc hw inX9 rfl 0 rfl (by decide) (gm 1080 (by decide +kernel) rfl) rfl dX9_partOf_54 ?_
      refine lv_if_eq (tgt := 62) hx hb dX9_partOf_57 (by decide) (fun c12 => ?_) (fun c12 => ?_)
      · have hm := hm.1 c12
        refine lv_iload_n hx hb dX9_partOf_62 rfl (lv_at hl 0 rfl) ?_
        refine lv_bipush (v := 50) hx hb dX9_partOf_63 (by decide) ?_
        refine lv_icmp_ne (tgt := 87) hx hb dX9_partOf_65 (by decide) (fun c11 => ?_) (fun c11 => ?_)
        · have hm := hm.1 c11
          refine lv_aload_n hx hb dX9_partOf_87 rfl (lv_at hl 1 rfl) ?_
          refine gF (k := 22) hc hw inX9 rfl 0 rfl (by decide) (gm 1081 (by decide +kernel) rfl) rfl dX9_partOf_88 ?_
          refine lv_iload_n hx hb dX9_partOf_91 rfl (lv_at hl 0 rfl) ?_
          refine lv_bipush (v := 8) hx hb dX9_partOf_92 (by decide) ?_
          refine lv_isub hx hb dX9_partOf_94 ?_
          obtain ⟨c9, hm⟩ := hm
          refine aI hc hw 11 rfl c9 rfl dX9_partOf_95 ?_
          refine lv_i2l hx hb dX9_partOf_96 rfl ?_
          exact retL (u := S8) hc hw hm dX9_partOf_97
        · have hm := hm.2 c11
          refine lv_aload_n hx hb dX9_partOf_68 rfl (lv_at hl 1 rfl) ?_
          refine gF (k := 3) hc hw inX9 rfl 0 rfl (by decide) (gm 1062 (by decide +kernel) rfl) rfl dX9_partOf_69 ?_
          refine lv_sipush (v := 2545) hx hb dX9_partOf_72 (by decide) ?_
          refine lv_aload_n hx hb dX9_partOf_75 rfl (lv_at hl 1 rfl) ?_
          refine gF (k := 19) hc hw inX9 rfl 0 rfl (by decide) (gm 1078 (by decide +kernel) rfl) rfl dX9_partOf_76 ?_
          refine lv_iadd hx hb dX9_partOf_79 ?_
          refine lv_iconst (v := 1) hx hb dX9_partOf_80 (by decide) ?_
          refine lv_isub hx hb dX9_partOf_81 ?_
          obtain ⟨c10, hm⟩ := hm
          refine aI hc hw 2 rfl c10 rfl dX9_partOf_82 ?_
          refine lv_i2l hx hb dX9_partOf_83 rfl ?_
          refine lv_goto (tgt := 97) hx hb dX9_partOf_84 (by decide) ?_
          exact retL (u := S8) hc hw hm dX9_partOf_97
      · have hm := hm.2 c12
        refine lv_lconst (v := 0) hx hb dX9_partOf_60 (by decide) ?_
        exact retL (u := S8) hc hw hm dX9_partOf_61
  · have hm := hm.2 c18
    refine lv_aload_n hx hb dX9_partOf_12 rfl (lv_at hl 0 rfl) ?_
    refine lv_iload_n hx hb dX9_partOf_13 rfl (lv_at hl 1 rfl) ?_
    refine aV_L (As := [.int x1]) (rest := []) hc hw (hrec hm) lk_X9_235 rfl rfl (rm_ok (by omega) (by omega)) ⟨Nat.le_of_ble_eq_true rfl, Nat.le_of_ble_eq_true rfl⟩ hl.1 rfl (Nat.le_of_ble_eq_true rfl) rfl dX9_partOf_14 (fun r14 S15 H locs hm hw => ?_)
    have hw : wV D A s.heap (mW cy a S15) H locs := hw
    refine lv_lstore_n (lv' := [(2, .long r14), (0, .ref (a 0)), (1, .int x1)]) hx hb dX9_partOf_17 rfl hl (by decide) rfl (fun ls hl => ?_)
    refine lv_aload_n hx hb dX9_partOf_18 rfl (lv_at hl 1 rfl) ?_
    refine lv_dup hx hb dX9_partOf_19 rfl ?_
    refine gF (k := 19) hc hw inX9 rfl 0 rfl (by decide) (gm 1078 (by decide +kernel) rfl) rfl dX9_partOf_20 ?_
    refine lv_iconst (v := 1) hx hb dX9_partOf_23 (by decide) ?_
    refine lv_iadd hx hb dX9_partOf_24 ?_
    refine pF (k := 19) (ty := .int) hc hw inX9 tyX9_ok nmX9 rfl 0 rfl (by decide) (gm 1078 (by decide +kernel) rfl) rfl (by decide +kernel) rfl rfl (Nat.le_of_ble_eq_true rfl) dX9_partOf_25 (fun H locs hw => ?_)
    obtain ⟨S17, e_S17⟩ : ∃ z : Ob, z = uS S15 19 ((S15.1 19) + 1) := ⟨_, rfl⟩
    have hm := hm S17 e_S17
    have hw : wV D A s.heap (mW cy a S17) H locs := by rw [e_S17]; exact hw
    refine lv_lload_n hx hb dX9_partOf_28 rfl (lv_at hl 0 rfl) ?_
    exact retL (u := S17) hc hw hm dX9_partOf_29
set_option maxHeartbeats 4000000 in
set_option maxRecDepth 100000 in
theorem c_M_termOf {l : Launch} {D : va_G} {cy : Nat → ClassId} {a : Nat → Nat} {S : Ob} {x1 : Int32} {Q : Int64 → Ob → Prop} {rec : Ob → Int32 → (Int64 → Ob → Prop) → Prop} {k : Nat} (hk : 2 ≤ k) (hrec : ∀ {S : Ob} {x1 : Int32} {Q : Int64 → Ob → Prop}, rec S x1 Q → CtL l yX9_sumOf cX9_sumOf 7 (some .long) (rmN k) D cy [.ref (a 0), .int x1] (mW cy a S) (mW cy a) Q) (hm : wM_termOf rec S x1 Q) : CtL l yX9_termOf cX9_termOf 7 (some .long) (rmN (k + 2)) D cy [.ref (a 0), .int x1] (mW cy a S) (mW cy a) Q := by
  refine CtL.ofW (by decide) (Nat.le_of_ble_eq_true rfl) ?_
  intro p e s m args below meth c A ls hc hnm hw hl
  have hx := hc.1.1
  have hb := hc.1.2.1
  have hown := hc.1.2.2.2.1
  have hts := hc.1.2.2.2.2
  have hl : lv_has ls 7 [(0, .ref (a 0)), (1, .int x1)] := hl
  obtain ⟨H, hH⟩ : ∃ z, z = s.heap := ⟨_, rfl⟩
  obtain ⟨locs, hLc⟩ : ∃ z : List Loc, z = [] := ⟨_, rfl⟩
  have hw : wV D A s.heap (mW cy a S) H locs := by rw [hH, hLc]; exact hw
  have hgo : W p l e (rmN (k + 2)) s m args below meth c H locs 0 0 (MQ below (eL D cy A (mW cy a) Q) args s (rmN (k + 2)).cells (rmN (k + 2)).slots A) (F0 m 0 ls []) := ?hgo
  · rw [hH, hLc] at hgo; exact hgo
  refine lv_aload_n hx hb dX9_termOf_0 rfl (lv_at hl 0 rfl) ?_
  refine lv_iload_n hx hb dX9_termOf_1 rfl (lv_at hl 1 rfl) ?_
  refine aV_L (As := [.int x1]) (rest := []) hc hw (c_M_partOf hk hrec hm) lk_X9_229 rfl rfl (rm_ok (by omega) (by omega)) ⟨Nat.le_of_ble_eq_true rfl, Nat.le_of_ble_eq_true rfl⟩ hl.1 rfl (Nat.le_of_ble_eq_true rfl) rfl dX9_termOf_2 (fun r1 S2 H locs hm hw => ?_)
  have hw : wV D A s.heap (mW cy a S2) H locs := hw
  refine lv_lstore_n (lv' := [(2, .long r1), (0, .ref (a 0)), (1, .int x1)]) hx hb dX9_termOf_5 rfl hl (by decide) rfl (fun ls hl => ?_)
  refine wl2_ind (G := fun (x2_4 : Int64) (S5 : Ob) => ∀ (H : Heap) (locs : List Loc) (ls : Array Slot), wV D A s.heap (mW cy a S5) H locs → lv_has ls 7 [(2, .long x2_4), (0, .ref (a 0)), (1, .int x1)] → W p l e (rmN (k + 2)) s m args below meth c H locs 0 0 (MQ below (eL D cy A (mW cy a) Q) args s (rmN (k + 2)).cells (rmN (k + 2)).slots A) (F0 m 6 ls [])) ?_ _ _ hm H locs ls hw (lv_sub hl [0, 1, 2] rfl)
  intro L6 ih6 x2_4 S5 hm H locs ls hw hl
  refine lv_aload_n hx hb dX9_termOf_6 rfl (lv_at hl 1 rfl) ?_
  refine lv_aload_n hx hb dX9_termOf_7 rfl (lv_at hl 1 rfl) ?_
  refine gF (k := 19) hc hw inX9 rfl 0 rfl (by decide) (gm 1078 (by decide +kernel) rfl) rfl dX9_termOf_8 ?_
  refine aV_I (As := [.int (S5.1 19)]) (rest := []) hc hw (c_M_codeAt hm) lk_X9_210 rfl rfl (rm_ok (by omega) (by omega)) ⟨Nat.le_of_ble_eq_true rfl, Nat.le_of_ble_eq_true rfl⟩ hl.1 rfl (Nat.le_of_ble_eq_true rfl) rfl dX9_termOf_11 (fun r7 _ H locs hm hw => ?_)
  have hw : wV D A s.heap (mW cy a S5) H locs := hw
  refine lv_bipush (v := 42) hx hb dX9_termOf_14 (by decide) ?_
  refine zS_I (As := [.int 42]) (rest := [.int r7]) hc hw (c_M_sign hm) lk_X9_182 (rm_ok (by omega) (by omega)) ⟨Nat.le_of_ble_eq_true rfl, Nat.le_of_ble_eq_true rfl⟩ hl.1 rfl (Nat.le_of_ble_eq_true rfl) rfl dX9_termOf_16 (fun r9 H locs hm hw => ?_)
  obtain ⟨J12, eJ12, hm⟩ := jn_e hm
  have hJ12 : ∀ (z11 : Unit) (_ : J12 z11) (H : Heap) (locs : List Loc) (ls : Array Slot), wV D A s.heap (mW cy a S5) H locs → lv_has ls 7 [(0, .ref (a 0)), (1, .int x1), (2, .long x2_4)] → W p l e (rmN (k + 2)) s m args below meth c H locs 0 0 (MQ below (eL D cy A (mW cy a) Q) args s (rmN (k + 2)).cells (rmN (k + 2)).slots A) (F0 m 38 ls []) := by
    intro z11 hm H locs ls hw hl
    rw [eJ12] at hm
    refine lv_aload_n hx hb dX9_termOf_38 rfl (lv_at hl 0 rfl) ?_
    refine lv_aload_n hx hb dX9_termOf_39 rfl (lv_at hl 0 rfl) ?_
    refine gF (k := 19) hc hw inX9 rfl 0 rfl (by decide) (gm 1078 (by decide +kernel) rfl) rfl dX9_termOf_40 ?_
    refine aV_I (As := [.int (S5.1 19)]) (rest := []) hc hw (c_M_codeAt hm) lk_X9_210 rfl rfl (rm_ok (by omega) (by omega)) ⟨Nat.le_of_ble_eq_true rfl, Nat.le_of_ble_eq_true rfl⟩ hl.1 rfl (Nat.le_of_ble_eq_true rfl) rfl dX9_termOf_43 (fun r13 _ H locs hm hw => ?_)
    have hw : wV D A s.heap (mW cy a S5) H locs := hw
    refine lv_bipush (v := 42) hx hb dX9_termOf_46 (by decide) ?_
    refine zS_I (As := [.int 42]) (rest := [.int r13]) hc hw (c_M_sign hm) lk_X9_182 (rm_ok (by omega) (by omega)) ⟨Nat.le_of_ble_eq_true rfl, Nat.le_of_ble_eq_true rfl⟩ hl.1 rfl (Nat.le_of_ble_eq_true rfl) rfl dX9_termOf_48 (fun r15 H locs hm hw => ?_)
    obtain ⟨J18, eJ18, hm⟩ := jn_e hm
    have hJ18 : ∀ (t17 : Int32) (_ : J18 t17) (H : Heap) (locs : List Loc) (ls : Array Slot), wV D A s.heap (mW cy a S5) H locs → lv_has ls 7 [(0, .ref (a 0)), (1, .int x1), (2, .long x2_4)] → W p l e (rmN (k + 2)) s m args below meth c H locs 0 0 (MQ below (eL D cy A (mW cy a) Q) args s (rmN (k + 2)).cells (rmN (k + 2)).slots A) (F0 m 59 ls [.int t17]) := by
      intro t17 hm H locs ls hw hl
      rw [eJ18] at hm
      refine lv_istore (lv' := [(4, .int t17), (0, .ref (a 0)), (1, .int x1), (2, .long x2_4)]) hx hb dX9_termOf_59 hl (by decide) rfl (fun ls hl => ?_)
      refine lv_aload_n hx hb dX9_termOf_61 rfl (lv_at hl 1 rfl) ?_
      refine lv_dup hx hb dX9_termOf_62 rfl ?_
      refine gF (k := 19) hc hw inX9 rfl 0 rfl (by decide) (gm 1078 (by decide +kernel) rfl) rfl dX9_termOf_63 ?_
      refine lv_iconst (v := 1) hx hb dX9_termOf_66 (by decide) ?_
      refine lv_iadd hx hb dX9_termOf_67 ?_
      refine pF (k := 19) (ty := .int) hc hw inX9 tyX9_ok nmX9 rfl 0 rfl (by decide) (gm 1078 (by decide +kernel) rfl) rfl (by decide +kernel) rfl rfl (Nat.le_of_ble_eq_true rfl) dX9_termOf_68 (fun H locs hw => ?_)
      obtain ⟨S19, e_S19⟩ : ∃ z : Ob, z = uS S5 19 ((S5.1 19) + 1) := ⟨_, rfl⟩
      have hm := hm S19 e_S19
      have hw : wV D A s.heap (mW cy a S19) H locs := by rw [e_S19]; exact hw
      refine lv_aload_n hx hb dX9_termOf_71 rfl (lv_at hl 1 rfl) ?_
      refine lv_iload_n hx hb dX9_termOf_72 rfl (lv_at hl 2 rfl) ?_
      refine aV_L (As := [.int x1]) (rest := []) hc hw (c_M_partOf hk hrec hm) lk_X9_229 rfl rfl (rm_ok (by omega) (by omega)) ⟨Nat.le_of_ble_eq_true rfl, Nat.le_of_ble_eq_true rfl⟩ hl.1 rfl (Nat.le_of_ble_eq_true rfl) rfl dX9_termOf_73 (fun r20 S21 H locs hm hw => ?_)
      have hw : wV D A s.heap (mW cy a S21) H locs := hw
      refine lv_lstore (lv' := [(5, .long r20), (4, .int t17), (0, .ref (a 0)), (1, .int x1), (2, .long x2_4)]) hx hb dX9_termOf_76 hl (by decide) rfl (fun ls hl => ?_)
      refine lv_iload hx hb dX9_termOf_78 (lv_at hl 1 rfl) ?_
      obtain ⟨J25, eJ25, hm⟩ := jn_e hm
      have hJ25 : ∀ (x5_23 : Int64) (S24 : Ob) (_ : J25 x5_23 S24) (H : Heap) (locs : List Loc) (ls : Array Slot), wV D A s.heap (mW cy a S24) H locs → lv_has ls 7 [(0, .ref (a 0)), (1, .int x1), (2, .long x2_4), (4, .int t17), (5, .long x5_23)] → W p l e (rmN (k + 2)) s m args below meth c H locs 0 0 (MQ below (eL D cy A (mW cy a) Q) args s (rmN (k + 2)).cells (rmN (k + 2)).slots A) (F0 m 113 ls []) := by
        intro x5_23 S24 hm H locs ls hw hl
        rw [eJ25] at hm
        refine lv_aload_n hx hb dX9_termOf_113 rfl (lv_at hl 0 rfl) ?_
        refine lv_iload hx hb dX9_termOf_114 (lv_at hl 3 rfl) ?_
        obtain ⟨J27, eJ27, hm⟩ := jn_e hm
        have hJ27 : ∀ (t26 : Int64) (_ : J27 t26) (H : Heap) (locs : List Loc) (ls : Array Slot), wV D A s.heap (mW cy a S24) H locs → lv_has ls 7 [(0, .ref (a 0)), (1, .int x1)] → W p l e (rmN (k + 2)) s m args below meth c H locs 0 0 (MQ below (eL D cy A (mW cy a) Q) args s (rmN (k + 2)).cells (rmN (k + 2)).slots A) (F0 m 130 ls [.long t26, .ref (a 0)]) := by
          intro t26 hm H locs ls hw hl
          rw [eJ27] at hm
          refine lv_iload_n hx hb dX9_termOf_130 rfl (lv_at hl 1 rfl) ?_
          refine aV_L (As := [.long t26, .int x1]) (rest := []) hc hw (c_M_bounded hm) lk_X9_225 rfl rfl (rm_ok (by omega) (by omega)) ⟨Nat.le_of_ble_eq_true rfl, Nat.le_of_ble_eq_true rfl⟩ hl.1 rfl (Nat.le_of_ble_eq_true rfl) rfl dX9_termOf_131 (fun r28 S29 H locs hm hw => ?_)
          have hw : wV D A s.heap (mW cy a S29) H locs := hw
          refine lv_lstore_n (lv' := [(2, .long r28), (0, .ref (a 0)), (1, .int x1)]) hx hb dX9_termOf_134 rfl hl (by decide) rfl (fun ls hl => ?_)
          refine lv_goto (tgt := 6) hx hb dX9_termOf_135 (by decide) ?_
          exact ih6 _ _ hm _ _ _ hw (lv_sub hl [0, 1, 2] rfl)
        refine lv_if_eq (tgt := 126) hx hb dX9_termOf_116 (by decide) (fun c32 => ?_) (fun c32 => ?_)
        · have hm := hm.1 c32
          refine lv_lload_n hx hb dX9_termOf_126 rfl (lv_at hl 2 rfl) ?_
          refine lv_lload hx hb dX9_termOf_127 (lv_at hl 4 rfl) ?_
          obtain ⟨c31, hm⟩ := hm
          refine lv_ldiv hx hb dX9_termOf_129 c31 ?_
          exact hJ27 _ hm _ _ _ hw (lv_sub hl [0, 1] rfl)
        · have hm := hm.2 c32
          refine lv_lload_n hx hb dX9_termOf_119 rfl (lv_at hl 2 rfl) ?_
          refine lv_lload hx hb dX9_termOf_120 (lv_at hl 4 rfl) ?_
          refine lv_lmul hx hb dX9_termOf_122 ?_
          refine lv_goto (tgt := 130) hx hb dX9_termOf_123 (by decide) ?_
          exact hJ27 _ hm _ _ _ hw (lv_sub hl [0, 1] rfl)
      refine lv_if_ne (tgt := 113) hx hb dX9_termOf_80 (by decide) (fun c43 => ?_) (fun c43 => ?_)
      · have hm := hm.1 c43
        exact hJ25 _ _ hm _ _ _ hw (lv_sub hl [2, 3, 4, 1, 0] rfl)
      · have hm := hm.2 c43
        refine lv_lload hx hb dX9_termOf_83 (lv_at hl 0 rfl) ?_
        refine lv_lconst (v := 0) hx hb dX9_termOf_85 (by decide) ?_
        refine W.lcmp hx hb dX9_termOf_86 ?_
        refine lv_if_ne (tgt := 113) hx hb dX9_termOf_87 (by decide) (fun c42 => ?_) (fun c42 => ?_)
        · have hm := hm.1 c42
          exact hJ25 _ _ hm _ _ _ hw (lv_sub hl [2, 3, 4, 1, 0] rfl)
        · have hm := hm.2 c42
          refine lv_aload_n hx hb dX9_termOf_90 rfl (lv_at hl 2 rfl) ?_
          refine lv_aload_n hx hb dX9_termOf_91 rfl (lv_at hl 2 rfl) ?_
          refine gF (k := 21) hc hw inX9 rfl 0 rfl (by decide) (gm 1080 (by decide +kernel) rfl) rfl dX9_termOf_92 ?_
          obtain ⟨J34, eJ34, hm⟩ := jn_e hm
          have hJ34 : ∀ (t33 : Int32) (_ : J34 t33) (H : Heap) (locs : List Loc) (ls : Array Slot), wV D A s.heap (mW cy a S21) H locs → lv_has ls 7 [(0, .ref (a 0)), (1, .int x1), (2, .long x2_4), (4, .int t17)] → W p l e (rmN (k + 2)) s m args below meth c H locs 0 0 (MQ below (eL D cy A (mW cy a) Q) args s (rmN (k + 2)).cells (rmN (k + 2)).slots A) (F0 m 107 ls [.int t33, .ref (a 0)]) := by
            intro t33 hm H locs ls hw hl
            rw [eJ34] at hm
            obtain ⟨c35, c36, hm⟩ := hm
            refine pF (k := 21) (ty := .boolean) hc hw inX9 tyX9_ok nmX9 rfl 0 rfl (by decide) (gm 1080 (by decide +kernel) rfl) rfl (by decide +kernel) c35 c36 (Nat.le_of_ble_eq_true rfl) dX9_termOf_107 (fun H locs hw => ?_)
            obtain ⟨S37, e_S37⟩ : ∃ z : Ob, z = uS S21 21 t33 := ⟨_, rfl⟩
            have hm := hm S37 e_S37
            have hw : wV D A s.heap (mW cy a S37) H locs := by rw [e_S37]; exact hw
            refine lv_lconst (v := 1) hx hb dX9_termOf_110 (by decide) ?_
            refine lv_lstore (lv' := [(5, .long 1), (0, .ref (a 0)), (1, .int x1), (2, .long x2_4), (4, .int t17)]) hx hb dX9_termOf_111 hl (by decide) rfl (fun ls hl => ?_)
            exact hJ25 _ _ hm _ _ _ hw (lv_sub hl [1, 2, 3, 4, 0] rfl)
          obtain ⟨J39, eJ39, hm⟩ := jn_e hm
          have hJ39 : ∀ (z38 : Unit) (_ : J39 z38) (H : Heap) (locs : List Loc) (ls : Array Slot), wV D A s.heap (mW cy a S21) H locs → lv_has ls 7 [(0, .ref (a 0)), (1, .int x1), (2, .long x2_4), (4, .int t17)] → W p l e (rmN (k + 2)) s m args below meth c H locs 0 0 (MQ below (eL D cy A (mW cy a) Q) args s (rmN (k + 2)).cells (rmN (k + 2)).slots A) (F0 m 102 ls [.ref (a 0)]) := by
            intro z38 hm H locs ls hw hl
            rw [eJ39] at hm
            refine lv_iconst (v := 1) hx hb dX9_termOf_102 (by decide) ?_
            refine lv_goto (tgt := 107) hx hb dX9_termOf_103 (by decide) ?_
            exact hJ34 _ hm _ _ _ hw (lv_sub hl [0, 1, 2, 3] rfl)
          refine lv_if_ne (tgt := 102) hx hb dX9_termOf_95 (by decide) (fun c41 => ?_) (fun c41 => ?_)
          · have hm := hm.1 c41
            exact hJ39 _ hm _ _ _ hw (lv_sub hl [2, 3, 4, 1] rfl)
          · have hm := hm.2 c41
            refine lv_iload_n hx hb dX9_termOf_98 rfl (lv_at hl 3 rfl) ?_
            refine lv_if_eq (tgt := 106) hx hb dX9_termOf_99 (by decide) (fun c40 => ?_) (fun c40 => ?_)
            · have hm := hm.1 c40
              refine lv_iconst (v := 0) hx hb dX9_termOf_106 (by decide) ?_
              exact hJ34 _ hm _ _ _ hw (lv_sub hl [2, 3, 4, 1] rfl)
            · have hm := hm.2 c40
              exact hJ39 _ hm _ _ _ hw (lv_sub hl [2, 3, 4, 1] rfl)
    refine lv_icmp_ne (tgt := 58) hx hb dX9_termOf_51 (by decide) (fun c44 => ?_) (fun c44 => ?_)
    · have hm := hm.1 c44
      refine lv_iconst (v := 0) hx hb dX9_termOf_58 (by decide) ?_
      exact hJ18 _ hm _ _ _ hw (lv_sub hl [0, 1, 2] rfl)
    · have hm := hm.2 c44
      refine lv_iconst (v := 1) hx hb dX9_termOf_54 (by decide) ?_
      refine lv_goto (tgt := 59) hx hb dX9_termOf_55 (by decide) ?_
      exact hJ18 _ hm _ _ _ hw (lv_sub hl [0, 1, 2] rfl)
  refine lv_icmp_eq (tgt := 38) hx hb dX9_termOf_19 (by decide) (fun c50 => ?_) (fun c50 => ?_)
  · have hm := hm.1 c50
    exact hJ12 _ hm _ _ _ hw (lv_sub hl [1, 2, 0] rfl)
  · have hm := hm.2 c50
    refine lv_aload_n hx hb dX9_termOf_22 rfl (lv_at hl 1 rfl) ?_
    refine lv_aload_n hx hb dX9_termOf_23 rfl (lv_at hl 1 rfl) ?_
    refine gF (k := 19) hc hw inX9 rfl 0 rfl (by decide) (gm 1078 (by decide +kernel) rfl) rfl dX9_termOf_24 ?_
    refine aV_I (As := [.int (S5.1 19)]) (rest := []) hc hw (c_M_codeAt hm) lk_X9_210 rfl rfl (rm_ok (by omega) (by omega)) ⟨Nat.le_of_ble_eq_true rfl, Nat.le_of_ble_eq_true rfl⟩ hl.1 rfl (Nat.le_of_ble_eq_true rfl) rfl dX9_termOf_27 (fun r45 _ H locs hm hw => ?_)
    have hw : wV D A s.heap (mW cy a S5) H locs := hw
    refine lv_bipush (v := 47) hx hb dX9_termOf_30 (by decide) ?_
    refine zS_I (As := [.int 47]) (rest := [.int r45]) hc hw (c_M_sign hm) lk_X9_182 (rm_ok (by omega) (by omega)) ⟨Nat.le_of_ble_eq_true rfl, Nat.le_of_ble_eq_true rfl⟩ hl.1 rfl (Nat.le_of_ble_eq_true rfl) rfl dX9_termOf_32 (fun r47 H locs hm hw => ?_)
    refine lv_icmp_ne (tgt := 138) hx hb dX9_termOf_35 (by decide) (fun c49 => ?_) (fun c49 => ?_)
    · have hm := hm.1 c49
      refine lv_lload_n hx hb dX9_termOf_138 rfl (lv_at hl 0 rfl) ?_
      exact retL (u := S5) hc hw hm dX9_termOf_139
    · have hm := hm.2 c49
      exact hJ12 _ hm _ _ _ hw (lv_sub hl [1, 2, 0] rfl)
set_option maxHeartbeats 4000000 in
set_option maxRecDepth 100000 in
theorem c_M_sumOf {l : Launch} {D : va_G} {cy : Nat → ClassId} {a : Nat → Nat} : ∀ (d : Nat) (S : Ob) (x1 : Int32) (Q : Int64 → Ob → Prop) (hm : wM_sumOf d S x1 Q), CtL l yX9_sumOf cX9_sumOf 7 (some .long) (rmN (2 + 4 * d)) D cy [.ref (a 0), .int x1] (mW cy a S) (mW cy a) Q
  | 0, _, _, _, hm => hm.elim
  | d + 1, S, x1, Q, hm => by
    unfold wM_sumOf at hm
    refine CtL.ofW (by decide) (Nat.le_of_ble_eq_true rfl) ?_
    intro p e s m args below meth c A ls hc hnm hw hl
    have hx := hc.1.1
    have hb := hc.1.2.1
    have hown := hc.1.2.2.2.1
    have hts := hc.1.2.2.2.2
    have hl : lv_has ls 7 [(0, .ref (a 0)), (1, .int x1)] := hl
    obtain ⟨H, hH⟩ : ∃ z, z = s.heap := ⟨_, rfl⟩
    obtain ⟨locs, hLc⟩ : ∃ z : List Loc, z = [] := ⟨_, rfl⟩
    have hw : wV D A s.heap (mW cy a S) H locs := by rw [hH, hLc]; exact hw
    have hgo : W p l e (rmN (2 + 4 * (d + 1))) s m args below meth c H locs 0 0 (MQ below (eL D cy A (mW cy a) Q) args s (rmN (2 + 4 * (d + 1))).cells (rmN (2 + 4 * (d + 1))).slots A) (F0 m 0 ls []) := ?hgo
    · rw [hH, hLc] at hgo; exact hgo
    refine lv_aload_n hx hb dX9_sumOf_0 rfl (lv_at hl 0 rfl) ?_
    refine lv_iload_n hx hb dX9_sumOf_1 rfl (lv_at hl 1 rfl) ?_
    refine aV_L (As := [.int x1]) (rest := []) hc hw (c_M_termOf (by omega) (fun h => c_M_sumOf d _ _ _ h) hm) lk_X9_221 rfl rfl (rm_ok (by omega) (by omega)) ⟨Nat.le_of_ble_eq_true rfl, Nat.le_of_ble_eq_true rfl⟩ hl.1 rfl (Nat.le_of_ble_eq_true rfl) rfl dX9_sumOf_2 (fun r1 S2 H locs hm hw => ?_)
    have hw : wV D A s.heap (mW cy a S2) H locs := hw
    refine lv_lstore_n (lv' := [(2, .long r1), (0, .ref (a 0)), (1, .int x1)]) hx hb dX9_sumOf_5 rfl hl (by decide) rfl (fun ls hl => ?_)
    refine wl2_ind (G := fun (x2_4 : Int64) (S5 : Ob) => ∀ (H : Heap) (locs : List Loc) (ls : Array Slot), wV D A s.heap (mW cy a S5) H locs → lv_has ls 7 [(2, .long x2_4), (0, .ref (a 0)), (1, .int x1)] → W p l e (rmN (2 + 4 * (d + 1))) s m args below meth c H locs 0 0 (MQ below (eL D cy A (mW cy a) Q) args s (rmN (2 + 4 * (d + 1))).cells (rmN (2 + 4 * (d + 1))).slots A) (F0 m 6 ls [])) ?_ _ _ hm H locs ls hw (lv_sub hl [0, 1, 2] rfl)
    intro L6 ih6 x2_4 S5 hm H locs ls hw hl
    refine lv_aload_n hx hb dX9_sumOf_6 rfl (lv_at hl 1 rfl) ?_
    refine lv_aload_n hx hb dX9_sumOf_7 rfl (lv_at hl 1 rfl) ?_
    refine gF (k := 19) hc hw inX9 rfl 0 rfl (by decide) (gm 1078 (by decide +kernel) rfl) rfl dX9_sumOf_8 ?_
    refine aV_I (As := [.int (S5.1 19)]) (rest := []) hc hw (c_M_codeAt hm) lk_X9_210 rfl rfl (rm_ok (by omega) (by omega)) ⟨Nat.le_of_ble_eq_true rfl, Nat.le_of_ble_eq_true rfl⟩ hl.1 rfl (Nat.le_of_ble_eq_true rfl) rfl dX9_sumOf_11 (fun r7 _ H locs hm hw => ?_)
    have hw : wV D A s.heap (mW cy a S5) H locs := hw
    refine lv_bipush (v := 43) hx hb dX9_sumOf_14 (by decide) ?_
    refine zS_I (As := [.int 43]) (rest := [.int r7]) hc hw (c_M_sign hm) lk_X9_182 (rm_ok (by omega) (by omega)) ⟨Nat.le_of_ble_eq_true rfl, Nat.le_of_ble_eq_true rfl⟩ hl.1 rfl (Nat.le_of_ble_eq_true rfl) rfl dX9_sumOf_16 (fun r9 H locs hm hw => ?_)
    obtain ⟨J12, eJ12, hm⟩ := jn_e hm
    have hJ12 : ∀ (z11 : Unit) (_ : J12 z11) (H : Heap) (locs : List Loc) (ls : Array Slot), wV D A s.heap (mW cy a S5) H locs → lv_has ls 7 [(0, .ref (a 0)), (1, .int x1), (2, .long x2_4)] → W p l e (rmN (2 + 4 * (d + 1))) s m args below meth c H locs 0 0 (MQ below (eL D cy A (mW cy a) Q) args s (rmN (2 + 4 * (d + 1))).cells (rmN (2 + 4 * (d + 1))).slots A) (F0 m 38 ls []) := by
      intro z11 hm H locs ls hw hl
      rw [eJ12] at hm
      refine lv_aload_n hx hb dX9_sumOf_38 rfl (lv_at hl 0 rfl) ?_
      refine lv_aload_n hx hb dX9_sumOf_39 rfl (lv_at hl 0 rfl) ?_
      refine gF (k := 19) hc hw inX9 rfl 0 rfl (by decide) (gm 1078 (by decide +kernel) rfl) rfl dX9_sumOf_40 ?_
      refine aV_I (As := [.int (S5.1 19)]) (rest := []) hc hw (c_M_codeAt hm) lk_X9_210 rfl rfl (rm_ok (by omega) (by omega)) ⟨Nat.le_of_ble_eq_true rfl, Nat.le_of_ble_eq_true rfl⟩ hl.1 rfl (Nat.le_of_ble_eq_true rfl) rfl dX9_sumOf_43 (fun r13 _ H locs hm hw => ?_)
      have hw : wV D A s.heap (mW cy a S5) H locs := hw
      refine lv_bipush (v := 43) hx hb dX9_sumOf_46 (by decide) ?_
      refine zS_I (As := [.int 43]) (rest := [.int r13]) hc hw (c_M_sign hm) lk_X9_182 (rm_ok (by omega) (by omega)) ⟨Nat.le_of_ble_eq_true rfl, Nat.le_of_ble_eq_true rfl⟩ hl.1 rfl (Nat.le_of_ble_eq_true rfl) rfl dX9_sumOf_48 (fun r15 H locs hm hw => ?_)
      obtain ⟨J18, eJ18, hm⟩ := jn_e hm
      have hJ18 : ∀ (t17 : Int32) (_ : J18 t17) (H : Heap) (locs : List Loc) (ls : Array Slot), wV D A s.heap (mW cy a S5) H locs → lv_has ls 7 [(0, .ref (a 0)), (1, .int x1), (2, .long x2_4)] → W p l e (rmN (2 + 4 * (d + 1))) s m args below meth c H locs 0 0 (MQ below (eL D cy A (mW cy a) Q) args s (rmN (2 + 4 * (d + 1))).cells (rmN (2 + 4 * (d + 1))).slots A) (F0 m 59 ls [.int t17]) := by
        intro t17 hm H locs ls hw hl
        rw [eJ18] at hm
        refine lv_istore (lv' := [(4, .int t17), (0, .ref (a 0)), (1, .int x1), (2, .long x2_4)]) hx hb dX9_sumOf_59 hl (by decide) rfl (fun ls hl => ?_)
        refine lv_aload_n hx hb dX9_sumOf_61 rfl (lv_at hl 1 rfl) ?_
        refine lv_dup hx hb dX9_sumOf_62 rfl ?_
        refine gF (k := 19) hc hw inX9 rfl 0 rfl (by decide) (gm 1078 (by decide +kernel) rfl) rfl dX9_sumOf_63 ?_
        refine lv_iconst (v := 1) hx hb dX9_sumOf_66 (by decide) ?_
        refine lv_iadd hx hb dX9_sumOf_67 ?_
        refine pF (k := 19) (ty := .int) hc hw inX9 tyX9_ok nmX9 rfl 0 rfl (by decide) (gm 1078 (by decide +kernel) rfl) rfl (by decide +kernel) rfl rfl (Nat.le_of_ble_eq_true rfl) dX9_sumOf_68 (fun H locs hw => ?_)
        obtain ⟨S19, e_S19⟩ : ∃ z : Ob, z = uS S5 19 ((S5.1 19) + 1) := ⟨_, rfl⟩
        have hm := hm S19 e_S19
        have hw : wV D A s.heap (mW cy a S19) H locs := by rw [e_S19]; exact hw
        refine lv_aload_n hx hb dX9_sumOf_71 rfl (lv_at hl 1 rfl) ?_
        refine lv_iload_n hx hb dX9_sumOf_72 rfl (lv_at hl 2 rfl) ?_
        refine aV_L (As := [.int x1]) (rest := []) hc hw (c_M_termOf (by omega) (fun h => c_M_sumOf d _ _ _ h) hm) lk_X9_221 rfl rfl (rm_ok (by omega) (by omega)) ⟨Nat.le_of_ble_eq_true rfl, Nat.le_of_ble_eq_true rfl⟩ hl.1 rfl (Nat.le_of_ble_eq_true rfl) rfl dX9_sumOf_73 (fun r20 S21 H locs hm hw => ?_)
        have hw : wV D A s.heap (mW cy a S21) H locs := hw
        refine lv_lstore (lv' := [(5, .long r20), (4, .int t17), (0, .ref (a 0)), (1, .int x1), (2, .long x2_4)]) hx hb dX9_sumOf_76 hl (by decide) rfl (fun ls hl => ?_)
        refine lv_aload_n hx hb dX9_sumOf_78 rfl (lv_at hl 2 rfl) ?_
        refine lv_iload hx hb dX9_sumOf_79 (lv_at hl 1 rfl) ?_
        obtain ⟨J24, eJ24, hm⟩ := jn_e hm
        have hJ24 : ∀ (t23 : Int64) (_ : J24 t23) (H : Heap) (locs : List Loc) (ls : Array Slot), wV D A s.heap (mW cy a S21) H locs → lv_has ls 7 [(0, .ref (a 0)), (1, .int x1)] → W p l e (rmN (2 + 4 * (d + 1))) s m args below meth c H locs 0 0 (MQ below (eL D cy A (mW cy a) Q) args s (rmN (2 + 4 * (d + 1))).cells (rmN (2 + 4 * (d + 1))).slots A) (F0 m 95 ls [.long t23, .ref (a 0)]) := by
          intro t23 hm H locs ls hw hl
          rw [eJ24] at hm
          refine lv_iload_n hx hb dX9_sumOf_95 rfl (lv_at hl 1 rfl) ?_
          refine aV_L (As := [.long t23, .int x1]) (rest := []) hc hw (c_M_bounded hm) lk_X9_225 rfl rfl (rm_ok (by omega) (by omega)) ⟨Nat.le_of_ble_eq_true rfl, Nat.le_of_ble_eq_true rfl⟩ hl.1 rfl (Nat.le_of_ble_eq_true rfl) rfl dX9_sumOf_96 (fun r25 S26 H locs hm hw => ?_)
          have hw : wV D A s.heap (mW cy a S26) H locs := hw
          refine lv_lstore_n (lv' := [(2, .long r25), (0, .ref (a 0)), (1, .int x1)]) hx hb dX9_sumOf_99 rfl hl (by decide) rfl (fun ls hl => ?_)
          refine lv_goto (tgt := 6) hx hb dX9_sumOf_100 (by decide) ?_
          exact ih6 _ _ hm _ _ _ hw (lv_sub hl [0, 1, 2] rfl)
        refine lv_if_eq (tgt := 91) hx hb dX9_sumOf_81 (by decide) (fun c28 => ?_) (fun c28 => ?_)
        · have hm := hm.1 c28
          refine lv_lload_n hx hb dX9_sumOf_91 rfl (lv_at hl 4 rfl) ?_
          refine lv_lload hx hb dX9_sumOf_92 (lv_at hl 0 rfl) ?_
          refine lv_lsub hx hb dX9_sumOf_94 ?_
          exact hJ24 _ hm _ _ _ hw (lv_sub hl [2, 3] rfl)
        · have hm := hm.2 c28
          refine lv_lload_n hx hb dX9_sumOf_84 rfl (lv_at hl 4 rfl) ?_
          refine lv_lload hx hb dX9_sumOf_85 (lv_at hl 0 rfl) ?_
          refine lv_ladd hx hb dX9_sumOf_87 ?_
          refine lv_goto (tgt := 95) hx hb dX9_sumOf_88 (by decide) ?_
          exact hJ24 _ hm _ _ _ hw (lv_sub hl [2, 3] rfl)
      refine lv_icmp_ne (tgt := 58) hx hb dX9_sumOf_51 (by decide) (fun c29 => ?_) (fun c29 => ?_)
      · have hm := hm.1 c29
        refine lv_iconst (v := 0) hx hb dX9_sumOf_58 (by decide) ?_
        exact hJ18 _ hm _ _ _ hw (lv_sub hl [0, 1, 2] rfl)
      · have hm := hm.2 c29
        refine lv_iconst (v := 1) hx hb dX9_sumOf_54 (by decide) ?_
        refine lv_goto (tgt := 59) hx hb dX9_sumOf_55 (by decide) ?_
        exact hJ18 _ hm _ _ _ hw (lv_sub hl [0, 1, 2] rfl)
    refine lv_icmp_eq (tgt := 38) hx hb dX9_sumOf_19 (by decide) (fun c35 => ?_) (fun c35 => ?_)
    · have hm := hm.1 c35
      exact hJ12 _ hm _ _ _ hw (lv_sub hl [1, 2, 0] rfl)
    · have hm := hm.2 c35
      refine lv_aload_n hx hb dX9_sumOf_22 rfl (lv_at hl 1 rfl) ?_
      refine lv_aload_n hx hb dX9_sumOf_23 rfl (lv_at hl 1 rfl) ?_
      refine gF (k := 19) hc hw inX9 rfl 0 rfl (by decide) (gm 1078 (by decide +kernel) rfl) rfl dX9_sumOf_24 ?_
      refine aV_I (As := [.int (S5.1 19)]) (rest := []) hc hw (c_M_codeAt hm) lk_X9_210 rfl rfl (rm_ok (by omega) (by omega)) ⟨Nat.le_of_ble_eq_true rfl, Nat.le_of_ble_eq_true rfl⟩ hl.1 rfl (Nat.le_of_ble_eq_true rfl) rfl dX9_sumOf_27 (fun r30 _ H locs hm hw => ?_)
      have hw : wV D A s.heap (mW cy a S5) H locs := hw
      refine lv_bipush (v := 45) hx hb dX9_sumOf_30 (by decide) ?_
      refine zS_I (As := [.int 45]) (rest := [.int r30]) hc hw (c_M_sign hm) lk_X9_182 (rm_ok (by omega) (by omega)) ⟨Nat.le_of_ble_eq_true rfl, Nat.le_of_ble_eq_true rfl⟩ hl.1 rfl (Nat.le_of_ble_eq_true rfl) rfl dX9_sumOf_32 (fun r32 H locs hm hw => ?_)
      refine lv_icmp_ne (tgt := 103) hx hb dX9_sumOf_35 (by decide) (fun c34 => ?_) (fun c34 => ?_)
      · have hm := hm.1 c34
        refine lv_lload_n hx hb dX9_sumOf_103 rfl (lv_at hl 0 rfl) ?_
        exact retL (u := S5) hc hw hm dX9_sumOf_104
      · have hm := hm.2 c34
        exact hJ12 _ hm _ _ _ hw (lv_sub hl [1, 2, 0] rfl)
set_option maxHeartbeats 4000000 in
set_option maxRecDepth 100000 in
theorem c_M_positiveOf {l : Launch} {D : va_G} {cy : Nat → ClassId} {a : Nat → Nat} {S : Ob} {x1 : Int32} {Q : Int32 → Ob → Prop} {rec : Ob → Int32 → (Int32 → Ob → Prop) → Prop} {k : Nat} (hk : 51 ≤ k) (hrec : ∀ {S : Ob} {x1 : Int32} {Q : Int32 → Ob → Prop}, rec S x1 Q → CtI l yX9_testOf cX9_testOf 4 (some .boolean) (rmN k) D cy [.ref (a 0), .int x1] (mW cy a S) (mW cy a) Q) (hm : wM_positiveOf rec S x1 Q) : CtI l yX9_positiveOf cX9_positiveOf 7 (some .boolean) (rmN (k + 1)) D cy [.ref (a 0), .int x1] (mW cy a S) (mW cy a) Q := by
  refine CtI.ofW (by decide) (Nat.le_of_ble_eq_true rfl) ?_
  intro p e s m args below meth c A ls hc hnm hw hl
  have hx := hc.1.1
  have hb := hc.1.2.1
  have hown := hc.1.2.2.2.1
  have hts := hc.1.2.2.2.2
  have hl : lv_has ls 7 [(0, .ref (a 0)), (1, .int x1)] := hl
  obtain ⟨H, hH⟩ : ∃ z, z = s.heap := ⟨_, rfl⟩
  obtain ⟨locs, hLc⟩ : ∃ z : List Loc, z = [] := ⟨_, rfl⟩
  have hw : wV D A s.heap (mW cy a S) H locs := by rw [hH, hLc]; exact hw
  have hgo : W p l e (rmN (k + 1)) s m args below meth c H locs 0 0 (MQ below (eI D cy A (mW cy a) Q) args s (rmN (k + 1)).cells (rmN (k + 1)).slots A) (F0 m 0 ls []) := ?hgo
  · rw [hH, hLc] at hgo; exact hgo
  refine lv_aload_n hx hb dX9_positiveOf_0 rfl (lv_at hl 0 rfl) ?_
  refine lv_bipush (v := 40) hx hb dX9_positiveOf_1 (by decide) ?_
  refine zS_I (As := [.int 40]) (rest := [.ref (a 0)]) hc hw (c_M_sign hm) lk_X9_182 (rm_ok (by omega) (by omega)) ⟨Nat.le_of_ble_eq_true rfl, Nat.le_of_ble_eq_true rfl⟩ hl.1 rfl (Nat.le_of_ble_eq_true rfl) rfl dX9_positiveOf_3 (fun r1 H locs hm hw => ?_)
  refine aV_I (As := [.int r1]) (rest := []) hc hw (c_M_passes0 hm) lk_X9_232 rfl rfl (rm_ok (by omega) (by omega)) ⟨Nat.le_of_ble_eq_true rfl, Nat.le_of_ble_eq_true rfl⟩ hl.1 rfl (Nat.le_of_ble_eq_true rfl) rfl dX9_positiveOf_6 (fun r3 S4 H locs hm hw => ?_)
  have hw : wV D A s.heap (mW cy a S4) H locs := hw
  refine lv_if_eq (tgt := 30) hx hb dX9_positiveOf_9 (by decide) (fun c30 => ?_) (fun c30 => ?_)
  · have hm := hm.1 c30
    refine lv_aload_n hx hb dX9_positiveOf_30 rfl (lv_at hl 0 rfl) ?_
    refine lv_iload_n hx hb dX9_positiveOf_31 rfl (lv_at hl 1 rfl) ?_
    refine aV_L (As := [.int x1]) (rest := []) hc hw (c_M_sumOf 12 _ _ _ hm) lk_X9_235 rfl rfl (rm_ok (by omega) (by omega)) ⟨Nat.le_of_ble_eq_true rfl, Nat.le_of_ble_eq_true rfl⟩ hl.1 rfl (Nat.le_of_ble_eq_true rfl) rfl dX9_positiveOf_32 (fun r6 S7 H locs hm hw => ?_)
    have hw : wV D A s.heap (mW cy a S7) H locs := hw
    refine lv_lstore_n (lv' := [(2, .long r6), (0, .ref (a 0)), (1, .int x1)]) hx hb dX9_positiveOf_35 rfl hl (by decide) rfl (fun ls hl => ?_)
    refine lv_aload_n hx hb dX9_positiveOf_36 rfl (lv_at hl 1 rfl) ?_
    refine lv_aload_n hx hb dX9_positiveOf_37 rfl (lv_at hl 1 rfl) ?_
    refine gF (k := 19) hc hw inX9 rfl 0 rfl (by decide) (gm 1078 (by decide +kernel) rfl) rfl dX9_positiveOf_38 ?_
    refine aV_I (As := [.int (S7.1 19)]) (rest := []) hc hw (c_M_codeAt hm) lk_X9_210 rfl rfl (rm_ok (by omega) (by omega)) ⟨Nat.le_of_ble_eq_true rfl, Nat.le_of_ble_eq_true rfl⟩ hl.1 rfl (Nat.le_of_ble_eq_true rfl) rfl dX9_positiveOf_41 (fun r9 _ H locs hm hw => ?_)
    have hw : wV D A s.heap (mW cy a S7) H locs := hw
    refine lv_istore (lv' := [(4, .int r9), (2, .long r6), (0, .ref (a 0)), (1, .int x1)]) hx hb dX9_positiveOf_44 hl (by decide) rfl (fun ls hl => ?_)
    refine lv_aload_n hx hb dX9_positiveOf_46 rfl (lv_at hl 2 rfl) ?_
    refine lv_dup hx hb dX9_positiveOf_47 rfl ?_
    refine gF (k := 19) hc hw inX9 rfl 0 rfl (by decide) (gm 1078 (by decide +kernel) rfl) rfl dX9_positiveOf_48 ?_
    refine lv_iconst (v := 1) hx hb dX9_positiveOf_51 (by decide) ?_
    refine lv_iadd hx hb dX9_positiveOf_52 ?_
    refine pF (k := 19) (ty := .int) hc hw inX9 tyX9_ok nmX9 rfl 0 rfl (by decide) (gm 1078 (by decide +kernel) rfl) rfl (by decide +kernel) rfl rfl (Nat.le_of_ble_eq_true rfl) dX9_positiveOf_53 (fun H locs hw => ?_)
    obtain ⟨S11, e_S11⟩ : ∃ z : Ob, z = uS S7 19 ((S7.1 19) + 1) := ⟨_, rfl⟩
    have hm := hm S11 e_S11
    have hw : wV D A s.heap (mW cy a S11) H locs := by rw [e_S11]; exact hw
    refine lv_aload_n hx hb dX9_positiveOf_56 rfl (lv_at hl 2 rfl) ?_
    refine lv_iload_n hx hb dX9_positiveOf_57 rfl (lv_at hl 3 rfl) ?_
    refine aV_L (As := [.int x1]) (rest := []) hc hw (c_M_sumOf 12 _ _ _ hm) lk_X9_235 rfl rfl (rm_ok (by omega) (by omega)) ⟨Nat.le_of_ble_eq_true rfl, Nat.le_of_ble_eq_true rfl⟩ hl.1 rfl (Nat.le_of_ble_eq_true rfl) rfl dX9_positiveOf_58 (fun r12 S13 H locs hm hw => ?_)
    have hw : wV D A s.heap (mW cy a S13) H locs := hw
    refine lv_lstore (lv' := [(5, .long r12), (4, .int r9), (2, .long r6), (0, .ref (a 0)), (1, .int x1)]) hx hb dX9_positiveOf_61 hl (by decide) rfl (fun ls hl => ?_)
    refine lv_iload_n hx hb dX9_positiveOf_63 rfl (lv_at hl 4 rfl) ?_
    refine lv_if_eq (tgt := 125) hx hb dX9_positiveOf_64 (by decide) (fun c25 => ?_) (fun c25 => ?_)
    · have hm := hm.1 c25
      refine lv_iconst (v := 0) hx hb dX9_positiveOf_125 (by decide) ?_
      exact retZ (u := S13) hc hw rfl hm dX9_positiveOf_126
    · have hm := hm.2 c25
      refine lv_aload_n hx hb dX9_positiveOf_67 rfl (lv_at hl 3 rfl) ?_
      refine gF (k := 21) hc hw inX9 rfl 0 rfl (by decide) (gm 1080 (by decide +kernel) rfl) rfl dX9_positiveOf_68 ?_
      refine lv_if_ne (tgt := 125) hx hb dX9_positiveOf_71 (by decide) (fun c24 => ?_) (fun c24 => ?_)
      · have hm := hm.1 c24
        refine lv_iconst (v := 0) hx hb dX9_positiveOf_125 (by decide) ?_
        exact retZ (u := S13) hc hw rfl hm dX9_positiveOf_126
      · have hm := hm.2 c24
        refine lv_iload hx hb dX9_positiveOf_74 (lv_at hl 1 rfl) ?_
        refine lv_bipush (v := 60) hx hb dX9_positiveOf_76 (by decide) ?_
        refine zS_I (As := [.int 60]) (rest := [.int r9]) hc hw (c_M_sign hm) lk_X9_182 (rm_ok (by omega) (by omega)) ⟨Nat.le_of_ble_eq_true rfl, Nat.le_of_ble_eq_true rfl⟩ hl.1 rfl (Nat.le_of_ble_eq_true rfl) rfl dX9_positiveOf_78 (fun r15 H locs hm hw => ?_)
        refine lv_icmp_ne (tgt := 94) hx hb dX9_positiveOf_81 (by decide) (fun c23 => ?_) (fun c23 => ?_)
        · have hm := hm.1 c23
          refine lv_iload hx hb dX9_positiveOf_94 (lv_at hl 1 rfl) ?_
          refine lv_bipush (v := 62) hx hb dX9_positiveOf_96 (by decide) ?_
          refine zS_I (As := [.int 62]) (rest := [.int r9]) hc hw (c_M_sign hm) lk_X9_182 (rm_ok (by omega) (by omega)) ⟨Nat.le_of_ble_eq_true rfl, Nat.le_of_ble_eq_true rfl⟩ hl.1 rfl (Nat.le_of_ble_eq_true rfl) rfl dX9_positiveOf_98 (fun r17 H locs hm hw => ?_)
          refine lv_icmp_ne (tgt := 114) hx hb dX9_positiveOf_101 (by decide) (fun c21 => ?_) (fun c21 => ?_)
          · have hm := hm.1 c21
            refine lv_lload_n hx hb dX9_positiveOf_114 rfl (lv_at hl 2 rfl) ?_
            refine lv_lload hx hb dX9_positiveOf_115 (lv_at hl 0 rfl) ?_
            refine W.lcmp hx hb dX9_positiveOf_117 ?_
            refine lv_if_ne (tgt := 125) hx hb dX9_positiveOf_118 (by decide) (fun c19 => ?_) (fun c19 => ?_)
            · have hm := hm.1 c19
              refine lv_iconst (v := 0) hx hb dX9_positiveOf_125 (by decide) ?_
              exact retZ (u := S13) hc hw rfl hm dX9_positiveOf_126
            · have hm := hm.2 c19
              refine lv_iconst (v := 1) hx hb dX9_positiveOf_121 (by decide) ?_
              refine lv_goto (tgt := 126) hx hb dX9_positiveOf_122 (by decide) ?_
              exact retZ (u := S13) hc hw rfl hm dX9_positiveOf_126
          · have hm := hm.2 c21
            refine lv_lload_n hx hb dX9_positiveOf_104 rfl (lv_at hl 2 rfl) ?_
            refine lv_lload hx hb dX9_positiveOf_105 (lv_at hl 0 rfl) ?_
            refine W.lcmp hx hb dX9_positiveOf_107 ?_
            refine lv_if_le (tgt := 125) hx hb dX9_positiveOf_108 (by decide) (fun c20 => ?_) (fun c20 => ?_)
            · have hm := hm.1 c20
              refine lv_iconst (v := 0) hx hb dX9_positiveOf_125 (by decide) ?_
              exact retZ (u := S13) hc hw rfl hm dX9_positiveOf_126
            · have hm := hm.2 c20
              refine lv_goto (tgt := 121) hx hb dX9_positiveOf_111 (by decide) ?_
              refine lv_iconst (v := 1) hx hb dX9_positiveOf_121 (by decide) ?_
              refine lv_goto (tgt := 126) hx hb dX9_positiveOf_122 (by decide) ?_
              exact retZ (u := S13) hc hw rfl hm dX9_positiveOf_126
        · have hm := hm.2 c23
          refine lv_lload_n hx hb dX9_positiveOf_84 rfl (lv_at hl 2 rfl) ?_
          refine lv_lload hx hb dX9_positiveOf_85 (lv_at hl 0 rfl) ?_
          refine W.lcmp hx hb dX9_positiveOf_87 ?_
          refine lv_if_ge (tgt := 125) hx hb dX9_positiveOf_88 (by decide) (fun c22 => ?_) (fun c22 => ?_)
          · have hm := hm.1 c22
            refine lv_iconst (v := 0) hx hb dX9_positiveOf_125 (by decide) ?_
            exact retZ (u := S13) hc hw rfl hm dX9_positiveOf_126
          · have hm := hm.2 c22
            refine lv_goto (tgt := 121) hx hb dX9_positiveOf_91 (by decide) ?_
            refine lv_iconst (v := 1) hx hb dX9_positiveOf_121 (by decide) ?_
            refine lv_goto (tgt := 126) hx hb dX9_positiveOf_122 (by decide) ?_
            exact retZ (u := S13) hc hw rfl hm dX9_positiveOf_126
  · have hm := hm.2 c30
    refine lv_aload_n hx hb dX9_positiveOf_12 rfl (lv_at hl 0 rfl) ?_
    refine lv_iload_n hx hb dX9_positiveOf_13 rfl (lv_at hl 1 rfl) ?_
    refine aV_I (As := [.int x1]) (rest := []) hc hw (hrec hm) lk_X9_248 rfl rfl (rm_ok (by omega) (by omega)) ⟨Nat.le_of_ble_eq_true rfl, Nat.le_of_ble_eq_true rfl⟩ hl.1 rfl (Nat.le_of_ble_eq_true rfl) rfl dX9_positiveOf_14 (fun r26 S27 H locs hm hw => ?_)
    have hw : wV D A s.heap (mW cy a S27) H locs := hw
    refine lv_istore_n (lv' := [(2, .int r26), (0, .ref (a 0)), (1, .int x1)]) hx hb dX9_positiveOf_17 rfl hl (by decide) rfl (fun ls hl => ?_)
    refine lv_aload_n hx hb dX9_positiveOf_18 rfl (lv_at hl 1 rfl) ?_
    refine lv_dup hx hb dX9_positiveOf_19 rfl ?_
    refine gF (k := 19) hc hw inX9 rfl 0 rfl (by decide) (gm 1078 (by decide +kernel) rfl) rfl dX9_positiveOf_20 ?_
    refine lv_iconst (v := 1) hx hb dX9_positiveOf_23 (by decide) ?_
    refine lv_iadd hx hb dX9_positiveOf_24 ?_
    refine pF (k := 19) (ty := .int) hc hw inX9 tyX9_ok nmX9 rfl 0 rfl (by decide) (gm 1078 (by decide +kernel) rfl) rfl (by decide +kernel) rfl rfl (Nat.le_of_ble_eq_true rfl) dX9_positiveOf_25 (fun H locs hw => ?_)
    obtain ⟨S29, e_S29⟩ : ∃ z : Ob, z = uS S27 19 ((S27.1 19) + 1) := ⟨_, rfl⟩
    have hm := hm S29 e_S29
    have hw : wV D A s.heap (mW cy a S29) H locs := by rw [e_S29]; exact hw
    refine lv_iload_n hx hb dX9_positiveOf_28 rfl (lv_at hl 0 rfl) ?_
    exact retZ (u := S29) hc hw hm.1 hm.2 dX9_positiveOf_29
set_option maxHeartbeats 4000000 in
set_option maxRecDepth 100000 in
theorem c_M_plainOf {l : Launch} {D : va_G} {cy : Nat → ClassId} {a : Nat → Nat} {S : Ob} {x1 : Int32} {Q : Int32 → Ob → Prop} {rec : Ob → Int32 → (Int32 → Ob → Prop) → Prop} {k : Nat} (hk : 51 ≤ k) (hrec : ∀ {S : Ob} {x1 : Int32} {Q : Int32 → Ob → Prop}, rec S x1 Q → CtI l yX9_testOf cX9_testOf 4 (some .boolean) (rmN k) D cy [.ref (a 0), .int x1] (mW cy a S) (mW cy a) Q) (hm : wM_plainOf rec S x1 Q) : CtI l yX9_plainOf cX9_plainOf 3 (some .boolean) (rmN (k + 2)) D cy [.ref (a 0), .int x1] (mW cy a S) (mW cy a) Q := by
  refine CtI.ofW (by decide) (Nat.le_of_ble_eq_true rfl) ?_
  intro p e s m args below meth c A ls hc hnm hw hl
  have hx := hc.1.1
  have hb := hc.1.2.1
  have hown := hc.1.2.2.2.1
  have hts := hc.1.2.2.2.2
  have hl : lv_has ls 3 [(0, .ref (a 0)), (1, .int x1)] := hl
  obtain ⟨H, hH⟩ : ∃ z, z = s.heap := ⟨_, rfl⟩
  obtain ⟨locs, hLc⟩ : ∃ z : List Loc, z = [] := ⟨_, rfl⟩
  have hw : wV D A s.heap (mW cy a S) H locs := by rw [hH, hLc]; exact hw
  have hgo : W p l e (rmN (k + 2)) s m args below meth c H locs 0 0 (MQ below (eI D cy A (mW cy a) Q) args s (rmN (k + 2)).cells (rmN (k + 2)).slots A) (F0 m 0 ls []) := ?hgo
  · rw [hH, hLc] at hgo; exact hgo
  refine lv_iconst (v := 0) hx hb dX9_plainOf_0 (by decide) ?_
  refine lv_istore_n (lv' := [(2, .int 0), (0, .ref (a 0)), (1, .int x1)]) hx hb dX9_plainOf_1 rfl hl (by decide) rfl (fun ls hl => ?_)
  refine wl2_ind (G := fun (x2_1 : Int32) (S2 : Ob) => ∀ (H : Heap) (locs : List Loc) (ls : Array Slot), wV D A s.heap (mW cy a S2) H locs → lv_has ls 3 [(2, .int x2_1), (0, .ref (a 0)), (1, .int x1)] → W p l e (rmN (k + 2)) s m args below meth c H locs 0 0 (MQ below (eI D cy A (mW cy a) Q) args s (rmN (k + 2)).cells (rmN (k + 2)).slots A) (F0 m 2 ls [])) ?_ _ _ hm H locs ls hw (lv_sub hl [0, 1, 2] rfl)
  intro L3 ih3 x2_1 S2 hm H locs ls hw hl
  refine lv_aload_n hx hb dX9_plainOf_2 rfl (lv_at hl 1 rfl) ?_
  refine lv_bipush (v := 7) hx hb dX9_plainOf_3 (by decide) ?_
  refine aV_I (As := [.int 7]) (rest := []) hc hw (c_M_passes0 hm) lk_X9_232 rfl rfl (rm_ok (by omega) (by omega)) ⟨Nat.le_of_ble_eq_true rfl, Nat.le_of_ble_eq_true rfl⟩ hl.1 rfl (Nat.le_of_ble_eq_true rfl) rfl dX9_plainOf_5 (fun r4 S5 H locs hm hw => ?_)
  have hw : wV D A s.heap (mW cy a S5) H locs := hw
  refine lv_if_eq (tgt := 24) hx hb dX9_plainOf_8 (by decide) (fun c12 => ?_) (fun c12 => ?_)
  · have hm := hm.1 c12
    refine lv_aload_n hx hb dX9_plainOf_24 rfl (lv_at hl 1 rfl) ?_
    refine lv_iload_n hx hb dX9_plainOf_25 rfl (lv_at hl 2 rfl) ?_
    refine aV_I (As := [.int x1]) (rest := []) hc hw (c_M_positiveOf hk hrec hm) lk_X9_245 rfl rfl (rm_ok (by omega) (by omega)) ⟨Nat.le_of_ble_eq_true rfl, Nat.le_of_ble_eq_true rfl⟩ hl.1 rfl (Nat.le_of_ble_eq_true rfl) rfl dX9_plainOf_26 (fun r7 S8 H locs hm hw => ?_)
    have hw : wV D A s.heap (mW cy a S8) H locs := hw
    refine lv_iload_n hx hb dX9_plainOf_29 rfl (lv_at hl 0 rfl) ?_
    refine lv_icmp_eq (tgt := 37) hx hb dX9_plainOf_30 (by decide) (fun c10 => ?_) (fun c10 => ?_)
    · have hm := hm.1 c10
      refine lv_iconst (v := 0) hx hb dX9_plainOf_37 (by decide) ?_
      exact retZ (u := S8) hc hw rfl hm dX9_plainOf_38
    · have hm := hm.2 c10
      refine lv_iconst (v := 1) hx hb dX9_plainOf_33 (by decide) ?_
      refine lv_goto (tgt := 38) hx hb dX9_plainOf_34 (by decide) ?_
      exact retZ (u := S8) hc hw rfl hm dX9_plainOf_38
  · have hm := hm.2 c12
    refine lv_iload_n hx hb dX9_plainOf_11 rfl (lv_at hl 0 rfl) ?_
    refine lv_if_ne (tgt := 19) hx hb dX9_plainOf_12 (by decide) (fun c11 => ?_) (fun c11 => ?_)
    · have hm := hm.1 c11
      refine lv_iconst (v := 0) hx hb dX9_plainOf_19 (by decide) ?_
      refine lv_istore_n (lv' := [(2, .int 0), (0, .ref (a 0)), (1, .int x1)]) hx hb dX9_plainOf_20 rfl hl (by decide) rfl (fun ls hl => ?_)
      refine lv_goto (tgt := 2) hx hb dX9_plainOf_21 (by decide) ?_
      exact ih3 _ _ hm _ _ _ hw (lv_sub hl [0, 1, 2] rfl)
    · have hm := hm.2 c11
      refine lv_iconst (v := 1) hx hb dX9_plainOf_15 (by decide) ?_
      refine lv_goto (tgt := 20) hx hb dX9_plainOf_16 (by decide) ?_
      refine lv_istore_n (lv' := [(2, .int 1), (0, .ref (a 0)), (1, .int x1)]) hx hb dX9_plainOf_20 rfl hl (by decide) rfl (fun ls hl => ?_)
      refine lv_goto (tgt := 2) hx hb dX9_plainOf_21 (by decide) ?_
      exact ih3 _ _ hm _ _ _ hw (lv_sub hl [0, 1, 2] rfl)
set_option maxHeartbeats 4000000 in
set_option maxRecDepth 100000 in
theorem c_M_bothOf {l : Launch} {D : va_G} {cy : Nat → ClassId} {a : Nat → Nat} {S : Ob} {x1 : Int32} {Q : Int32 → Ob → Prop} {rec : Ob → Int32 → (Int32 → Ob → Prop) → Prop} {k : Nat} (hk : 51 ≤ k) (hrec : ∀ {S : Ob} {x1 : Int32} {Q : Int32 → Ob → Prop}, rec S x1 Q → CtI l yX9_testOf cX9_testOf 4 (some .boolean) (rmN k) D cy [.ref (a 0), .int x1] (mW cy a S) (mW cy a) Q) (hm : wM_bothOf rec S x1 Q) : CtI l yX9_bothOf cX9_bothOf 4 (some .boolean) (rmN (k + 3)) D cy [.ref (a 0), .int x1] (mW cy a S) (mW cy a) Q := by
  refine CtI.ofW (by decide) (Nat.le_of_ble_eq_true rfl) ?_
  intro p e s m args below meth c A ls hc hnm hw hl
  have hx := hc.1.1
  have hb := hc.1.2.1
  have hown := hc.1.2.2.2.1
  have hts := hc.1.2.2.2.2
  have hl : lv_has ls 4 [(0, .ref (a 0)), (1, .int x1)] := hl
  obtain ⟨H, hH⟩ : ∃ z, z = s.heap := ⟨_, rfl⟩
  obtain ⟨locs, hLc⟩ : ∃ z : List Loc, z = [] := ⟨_, rfl⟩
  have hw : wV D A s.heap (mW cy a S) H locs := by rw [hH, hLc]; exact hw
  have hgo : W p l e (rmN (k + 3)) s m args below meth c H locs 0 0 (MQ below (eI D cy A (mW cy a) Q) args s (rmN (k + 3)).cells (rmN (k + 3)).slots A) (F0 m 0 ls []) := ?hgo
  · rw [hH, hLc] at hgo; exact hgo
  refine lv_aload_n hx hb dX9_bothOf_0 rfl (lv_at hl 0 rfl) ?_
  refine lv_iload_n hx hb dX9_bothOf_1 rfl (lv_at hl 1 rfl) ?_
  refine aV_I (As := [.int x1]) (rest := []) hc hw (c_M_plainOf hk hrec hm) lk_X9_242 rfl rfl (rm_ok (by omega) (by omega)) ⟨Nat.le_of_ble_eq_true rfl, Nat.le_of_ble_eq_true rfl⟩ hl.1 rfl (Nat.le_of_ble_eq_true rfl) rfl dX9_bothOf_2 (fun r1 S2 H locs hm hw => ?_)
  have hw : wV D A s.heap (mW cy a S2) H locs := hw
  refine lv_istore_n (lv' := [(2, .int r1), (0, .ref (a 0)), (1, .int x1)]) hx hb dX9_bothOf_5 rfl hl (by decide) rfl (fun ls hl => ?_)
  refine wl2_ind (G := fun (x2_4 : Int32) (S5 : Ob) => ∀ (H : Heap) (locs : List Loc) (ls : Array Slot), wV D A s.heap (mW cy a S5) H locs → lv_has ls 4 [(2, .int x2_4), (0, .ref (a 0)), (1, .int x1)] → W p l e (rmN (k + 3)) s m args below meth c H locs 0 0 (MQ below (eI D cy A (mW cy a) Q) args s (rmN (k + 3)).cells (rmN (k + 3)).slots A) (F0 m 6 ls [])) ?_ _ _ hm H locs ls hw (lv_sub hl [0, 1, 2] rfl)
  intro L6 ih6 x2_4 S5 hm H locs ls hw hl
  refine lv_aload_n hx hb dX9_bothOf_6 rfl (lv_at hl 1 rfl) ?_
  refine lv_bipush (v := 6) hx hb dX9_bothOf_7 (by decide) ?_
  refine aV_I (As := [.int 6]) (rest := []) hc hw (c_M_passes0 hm) lk_X9_232 rfl rfl (rm_ok (by omega) (by omega)) ⟨Nat.le_of_ble_eq_true rfl, Nat.le_of_ble_eq_true rfl⟩ hl.1 rfl (Nat.le_of_ble_eq_true rfl) rfl dX9_bothOf_9 (fun r7 S8 H locs hm hw => ?_)
  have hw : wV D A s.heap (mW cy a S8) H locs := hw
  refine lv_if_eq (tgt := 50) hx hb dX9_bothOf_12 (by decide) (fun c21 => ?_) (fun c21 => ?_)
  · have hm := hm.1 c21
    refine lv_iload_n hx hb dX9_bothOf_50 rfl (lv_at hl 0 rfl) ?_
    exact retZ (u := S8) hc hw hm.1 hm.2 dX9_bothOf_51
  · have hm := hm.2 c21
    refine lv_aload_n hx hb dX9_bothOf_15 rfl (lv_at hl 1 rfl) ?_
    refine lv_iload_n hx hb dX9_bothOf_16 rfl (lv_at hl 2 rfl) ?_
    obtain ⟨J11, eJ11, hm⟩ := jn_e hm
    have hJ11 : ∀ (t10 : Int32) (_ : J11 t10) (H : Heap) (locs : List Loc) (ls : Array Slot), wV D A s.heap (mW cy a S8) H locs → lv_has ls 4 [(0, .ref (a 0)), (1, .int x1), (2, .int x2_4)] → W p l e (rmN (k + 3)) s m args below meth c H locs 0 0 (MQ below (eI D cy A (mW cy a) Q) args s (rmN (k + 3)).cells (rmN (k + 3)).slots A) (F0 m 29 ls [.int t10, .ref (a 0)]) := by
      intro t10 hm H locs ls hw hl
      rw [eJ11] at hm
      refine aV_I (As := [.int t10]) (rest := []) hc hw (c_M_plainOf hk hrec hm) lk_X9_242 rfl rfl (rm_ok (by omega) (by omega)) ⟨Nat.le_of_ble_eq_true rfl, Nat.le_of_ble_eq_true rfl⟩ hl.1 rfl (Nat.le_of_ble_eq_true rfl) rfl dX9_bothOf_29 (fun r12 S13 H locs hm hw => ?_)
      have hw : wV D A s.heap (mW cy a S13) H locs := hw
      refine lv_istore_n (lv' := [(3, .int r12), (0, .ref (a 0)), (1, .int x1), (2, .int x2_4)]) hx hb dX9_bothOf_32 rfl hl (by decide) rfl (fun ls hl => ?_)
      refine lv_iload_n hx hb dX9_bothOf_33 rfl (lv_at hl 3 rfl) ?_
      refine lv_if_eq (tgt := 45) hx hb dX9_bothOf_34 (by decide) (fun c16 => ?_) (fun c16 => ?_)
      · have hm := hm.1 c16
        refine lv_iconst (v := 0) hx hb dX9_bothOf_45 (by decide) ?_
        refine lv_istore_n (lv' := [(2, .int 0), (3, .int r12), (0, .ref (a 0)), (1, .int x1)]) hx hb dX9_bothOf_46 rfl hl (by decide) rfl (fun ls hl => ?_)
        refine lv_goto (tgt := 6) hx hb dX9_bothOf_47 (by decide) ?_
        exact ih6 _ _ hm _ _ _ hw (lv_sub hl [0, 2, 3] rfl)
      · have hm := hm.2 c16
        refine lv_iload_n hx hb dX9_bothOf_37 rfl (lv_at hl 0 rfl) ?_
        refine lv_if_eq (tgt := 45) hx hb dX9_bothOf_38 (by decide) (fun c15 => ?_) (fun c15 => ?_)
        · have hm := hm.1 c15
          refine lv_iconst (v := 0) hx hb dX9_bothOf_45 (by decide) ?_
          refine lv_istore_n (lv' := [(2, .int 0), (3, .int r12), (0, .ref (a 0)), (1, .int x1)]) hx hb dX9_bothOf_46 rfl hl (by decide) rfl (fun ls hl => ?_)
          refine lv_goto (tgt := 6) hx hb dX9_bothOf_47 (by decide) ?_
          exact ih6 _ _ hm _ _ _ hw (lv_sub hl [0, 2, 3] rfl)
        · have hm := hm.2 c15
          refine lv_iconst (v := 1) hx hb dX9_bothOf_41 (by decide) ?_
          refine lv_goto (tgt := 46) hx hb dX9_bothOf_42 (by decide) ?_
          refine lv_istore_n (lv' := [(2, .int 1), (3, .int r12), (0, .ref (a 0)), (1, .int x1)]) hx hb dX9_bothOf_46 rfl hl (by decide) rfl (fun ls hl => ?_)
          refine lv_goto (tgt := 6) hx hb dX9_bothOf_47 (by decide) ?_
          exact ih6 _ _ hm _ _ _ hw (lv_sub hl [0, 2, 3] rfl)
    obtain ⟨J18, eJ18, hm⟩ := jn_e hm
    have hJ18 : ∀ (z17 : Unit) (_ : J18 z17) (H : Heap) (locs : List Loc) (ls : Array Slot), wV D A s.heap (mW cy a S8) H locs → lv_has ls 4 [(0, .ref (a 0)), (1, .int x1), (2, .int x2_4)] → W p l e (rmN (k + 3)) s m args below meth c H locs 0 0 (MQ below (eI D cy A (mW cy a) Q) args s (rmN (k + 3)).cells (rmN (k + 3)).slots A) (F0 m 28 ls [.ref (a 0)]) := by
      intro z17 hm H locs ls hw hl
      rw [eJ18] at hm
      refine lv_iconst (v := 0) hx hb dX9_bothOf_28 (by decide) ?_
      exact hJ11 _ hm _ _ _ hw (lv_sub hl [0, 1, 2] rfl)
    refine lv_if_eq (tgt := 28) hx hb dX9_bothOf_17 (by decide) (fun c20 => ?_) (fun c20 => ?_)
    · have hm := hm.1 c20
      exact hJ18 _ hm _ _ _ hw (lv_sub hl [1, 2, 0] rfl)
    · have hm := hm.2 c20
      refine lv_iload_n hx hb dX9_bothOf_20 rfl (lv_at hl 0 rfl) ?_
      refine lv_if_eq (tgt := 28) hx hb dX9_bothOf_21 (by decide) (fun c19 => ?_) (fun c19 => ?_)
      · have hm := hm.1 c19
        exact hJ18 _ hm _ _ _ hw (lv_sub hl [1, 2, 0] rfl)
      · have hm := hm.2 c19
        refine lv_iconst (v := 1) hx hb dX9_bothOf_24 (by decide) ?_
        refine lv_goto (tgt := 29) hx hb dX9_bothOf_25 (by decide) ?_
        exact hJ11 _ hm _ _ _ hw (lv_sub hl [1, 2, 0] rfl)
set_option maxHeartbeats 4000000 in
set_option maxRecDepth 100000 in
theorem c_M_testOf {l : Launch} {D : va_G} {cy : Nat → ClassId} {a : Nat → Nat} : ∀ (d : Nat) (S : Ob) (x1 : Int32) (Q : Int32 → Ob → Prop) (hm : wM_testOf d S x1 Q), CtI l yX9_testOf cX9_testOf 4 (some .boolean) (rmN (51 + 4 * d)) D cy [.ref (a 0), .int x1] (mW cy a S) (mW cy a) Q
  | 0, _, _, _, hm => hm.elim
  | d + 1, S, x1, Q, hm => by
    unfold wM_testOf at hm
    refine CtI.ofW (by decide) (Nat.le_of_ble_eq_true rfl) ?_
    intro p e s m args below meth c A ls hc hnm hw hl
    have hx := hc.1.1
    have hb := hc.1.2.1
    have hown := hc.1.2.2.2.1
    have hts := hc.1.2.2.2.2
    have hl : lv_has ls 4 [(0, .ref (a 0)), (1, .int x1)] := hl
    obtain ⟨H, hH⟩ : ∃ z, z = s.heap := ⟨_, rfl⟩
    obtain ⟨locs, hLc⟩ : ∃ z : List Loc, z = [] := ⟨_, rfl⟩
    have hw : wV D A s.heap (mW cy a S) H locs := by rw [hH, hLc]; exact hw
    have hgo : W p l e (rmN (51 + 4 * (d + 1))) s m args below meth c H locs 0 0 (MQ below (eI D cy A (mW cy a) Q) args s (rmN (51 + 4 * (d + 1))).cells (rmN (51 + 4 * (d + 1))).slots A) (F0 m 0 ls []) := ?hgo
    · rw [hH, hLc] at hgo; exact hgo
    refine lv_aload_n hx hb dX9_testOf_0 rfl (lv_at hl 0 rfl) ?_
    refine lv_iload_n hx hb dX9_testOf_1 rfl (lv_at hl 1 rfl) ?_
    refine aV_I (As := [.int x1]) (rest := []) hc hw (c_M_bothOf (by omega) (fun h => c_M_testOf d _ _ _ h) hm) lk_X9_238 rfl rfl (rm_ok (by omega) (by omega)) ⟨Nat.le_of_ble_eq_true rfl, Nat.le_of_ble_eq_true rfl⟩ hl.1 rfl (Nat.le_of_ble_eq_true rfl) rfl dX9_testOf_2 (fun r1 S2 H locs hm hw => ?_)
    have hw : wV D A s.heap (mW cy a S2) H locs := hw
    refine lv_istore_n (lv' := [(2, .int r1), (0, .ref (a 0)), (1, .int x1)]) hx hb dX9_testOf_5 rfl hl (by decide) rfl (fun ls hl => ?_)
    refine wl2_ind (G := fun (x2_4 : Int32) (S5 : Ob) => ∀ (H : Heap) (locs : List Loc) (ls : Array Slot), wV D A s.heap (mW cy a S5) H locs → lv_has ls 4 [(2, .int x2_4), (0, .ref (a 0)), (1, .int x1)] → W p l e (rmN (51 + 4 * (d + 1))) s m args below meth c H locs 0 0 (MQ below (eI D cy A (mW cy a) Q) args s (rmN (51 + 4 * (d + 1))).cells (rmN (51 + 4 * (d + 1))).slots A) (F0 m 6 ls [])) ?_ _ _ hm H locs ls hw (lv_sub hl [0, 1, 2] rfl)
    intro L6 ih6 x2_4 S5 hm H locs ls hw hl
    refine lv_aload_n hx hb dX9_testOf_6 rfl (lv_at hl 1 rfl) ?_
    refine lv_iconst (v := 5) hx hb dX9_testOf_7 (by decide) ?_
    refine aV_I (As := [.int 5]) (rest := []) hc hw (c_M_passes0 hm) lk_X9_232 rfl rfl (rm_ok (by omega) (by omega)) ⟨Nat.le_of_ble_eq_true rfl, Nat.le_of_ble_eq_true rfl⟩ hl.1 rfl (Nat.le_of_ble_eq_true rfl) rfl dX9_testOf_8 (fun r7 S8 H locs hm hw => ?_)
    have hw : wV D A s.heap (mW cy a S8) H locs := hw
    refine lv_if_eq (tgt := 49) hx hb dX9_testOf_11 (by decide) (fun c21 => ?_) (fun c21 => ?_)
    · have hm := hm.1 c21
      refine lv_iload_n hx hb dX9_testOf_49 rfl (lv_at hl 0 rfl) ?_
      exact retZ (u := S8) hc hw hm.1 hm.2 dX9_testOf_50
    · have hm := hm.2 c21
      refine lv_aload_n hx hb dX9_testOf_14 rfl (lv_at hl 1 rfl) ?_
      refine lv_iload_n hx hb dX9_testOf_15 rfl (lv_at hl 2 rfl) ?_
      obtain ⟨J11, eJ11, hm⟩ := jn_e hm
      have hJ11 : ∀ (t10 : Int32) (_ : J11 t10) (H : Heap) (locs : List Loc) (ls : Array Slot), wV D A s.heap (mW cy a S8) H locs → lv_has ls 4 [(0, .ref (a 0)), (1, .int x1), (2, .int x2_4)] → W p l e (rmN (51 + 4 * (d + 1))) s m args below meth c H locs 0 0 (MQ below (eI D cy A (mW cy a) Q) args s (rmN (51 + 4 * (d + 1))).cells (rmN (51 + 4 * (d + 1))).slots A) (F0 m 28 ls [.int t10, .ref (a 0)]) := by
        intro t10 hm H locs ls hw hl
        rw [eJ11] at hm
        refine aV_I (As := [.int t10]) (rest := []) hc hw (c_M_bothOf (by omega) (fun h => c_M_testOf d _ _ _ h) hm) lk_X9_238 rfl rfl (rm_ok (by omega) (by omega)) ⟨Nat.le_of_ble_eq_true rfl, Nat.le_of_ble_eq_true rfl⟩ hl.1 rfl (Nat.le_of_ble_eq_true rfl) rfl dX9_testOf_28 (fun r12 S13 H locs hm hw => ?_)
        have hw : wV D A s.heap (mW cy a S13) H locs := hw
        refine lv_istore_n (lv' := [(3, .int r12), (0, .ref (a 0)), (1, .int x1), (2, .int x2_4)]) hx hb dX9_testOf_31 rfl hl (by decide) rfl (fun ls hl => ?_)
        refine lv_iload_n hx hb dX9_testOf_32 rfl (lv_at hl 3 rfl) ?_
        refine lv_if_ne (tgt := 40) hx hb dX9_testOf_33 (by decide) (fun c16 => ?_) (fun c16 => ?_)
        · have hm := hm.1 c16
          refine lv_iconst (v := 1) hx hb dX9_testOf_40 (by decide) ?_
          refine lv_goto (tgt := 45) hx hb dX9_testOf_41 (by decide) ?_
          refine lv_istore_n (lv' := [(2, .int 1), (3, .int r12), (0, .ref (a 0)), (1, .int x1)]) hx hb dX9_testOf_45 rfl hl (by decide) rfl (fun ls hl => ?_)
          refine lv_goto (tgt := 6) hx hb dX9_testOf_46 (by decide) ?_
          exact ih6 _ _ hm _ _ _ hw (lv_sub hl [0, 2, 3] rfl)
        · have hm := hm.2 c16
          refine lv_iload_n hx hb dX9_testOf_36 rfl (lv_at hl 0 rfl) ?_
          refine lv_if_eq (tgt := 44) hx hb dX9_testOf_37 (by decide) (fun c15 => ?_) (fun c15 => ?_)
          · have hm := hm.1 c15
            refine lv_iconst (v := 0) hx hb dX9_testOf_44 (by decide) ?_
            refine lv_istore_n (lv' := [(2, .int 0), (3, .int r12), (0, .ref (a 0)), (1, .int x1)]) hx hb dX9_testOf_45 rfl hl (by decide) rfl (fun ls hl => ?_)
            refine lv_goto (tgt := 6) hx hb dX9_testOf_46 (by decide) ?_
            exact ih6 _ _ hm _ _ _ hw (lv_sub hl [0, 2, 3] rfl)
          · have hm := hm.2 c15
            refine lv_iconst (v := 1) hx hb dX9_testOf_40 (by decide) ?_
            refine lv_goto (tgt := 45) hx hb dX9_testOf_41 (by decide) ?_
            refine lv_istore_n (lv' := [(2, .int 1), (3, .int r12), (0, .ref (a 0)), (1, .int x1)]) hx hb dX9_testOf_45 rfl hl (by decide) rfl (fun ls hl => ?_)
            refine lv_goto (tgt := 6) hx hb dX9_testOf_46 (by decide) ?_
            exact ih6 _ _ hm _ _ _ hw (lv_sub hl [0, 2, 3] rfl)
      obtain ⟨J18, eJ18, hm⟩ := jn_e hm
      have hJ18 : ∀ (z17 : Unit) (_ : J18 z17) (H : Heap) (locs : List Loc) (ls : Array Slot), wV D A s.heap (mW cy a S8) H locs → lv_has ls 4 [(0, .ref (a 0)), (1, .int x1), (2, .int x2_4)] → W p l e (rmN (51 + 4 * (d + 1))) s m args below meth c H locs 0 0 (MQ below (eI D cy A (mW cy a) Q) args s (rmN (51 + 4 * (d + 1))).cells (rmN (51 + 4 * (d + 1))).slots A) (F0 m 27 ls [.ref (a 0)]) := by
        intro z17 hm H locs ls hw hl
        rw [eJ18] at hm
        refine lv_iconst (v := 0) hx hb dX9_testOf_27 (by decide) ?_
        exact hJ11 _ hm _ _ _ hw (lv_sub hl [0, 1, 2] rfl)
      refine lv_if_eq (tgt := 27) hx hb dX9_testOf_16 (by decide) (fun c20 => ?_) (fun c20 => ?_)
      · have hm := hm.1 c20
        exact hJ18 _ hm _ _ _ hw (lv_sub hl [1, 2, 0] rfl)
      · have hm := hm.2 c20
        refine lv_iload_n hx hb dX9_testOf_19 rfl (lv_at hl 0 rfl) ?_
        refine lv_if_ne (tgt := 27) hx hb dX9_testOf_20 (by decide) (fun c19 => ?_) (fun c19 => ?_)
        · have hm := hm.1 c19
          exact hJ18 _ hm _ _ _ hw (lv_sub hl [1, 2, 0] rfl)
        · have hm := hm.2 c19
          refine lv_iconst (v := 1) hx hb dX9_testOf_23 (by decide) ?_
          refine lv_goto (tgt := 28) hx hb dX9_testOf_24 (by decide) ?_
          exact hJ11 _ hm _ _ _ hw (lv_sub hl [1, 2, 0] rfl)
set_option maxHeartbeats 4000000 in
set_option maxRecDepth 100000 in
theorem c_M_asksOf {l : Launch} {D : va_G} {cy : Nat → ClassId} {a : Nat → Nat} {S : Ob} {x1 : Int32} {x2 : Int32} {Q : Ob → Prop} (hm : wM_asksOf S x1 x2 Q) : CtV l yX9_asksOf cX9_asksOf 8 none (rmN 100) D cy [.ref (a 0), .int x1, .int x2] (mW cy a S) (mW cy a) Q := by
  refine CtV.ofW (by decide) (Nat.le_of_ble_eq_true rfl) ?_
  intro p e s m args below meth c A ls hc hnm hw hl
  have hx := hc.1.1
  have hb := hc.1.2.1
  have hown := hc.1.2.2.2.1
  have hts := hc.1.2.2.2.2
  have hl : lv_has ls 8 [(0, .ref (a 0)), (1, .int x1), (2, .int x2)] := hl
  obtain ⟨H, hH⟩ : ∃ z, z = s.heap := ⟨_, rfl⟩
  obtain ⟨locs, hLc⟩ : ∃ z : List Loc, z = [] := ⟨_, rfl⟩
  have hw : wV D A s.heap (mW cy a S) H locs := by rw [hH, hLc]; exact hw
  have hgo : W p l e (rmN 100) s m args below meth c H locs 0 0 (MQ below (eV D cy A (mW cy a) Q) args s (rmN 100).cells (rmN 100).slots A) (F0 m 0 ls []) := ?hgo
  · rw [hH, hLc] at hgo; exact hgo
  refine lv_aload_n hx hb dX9_asksOf_0 rfl (lv_at hl 0 rfl) ?_
  refine lv_aload_n hx hb dX9_asksOf_1 rfl (lv_at hl 0 rfl) ?_
  refine lv_iload_n hx hb dX9_asksOf_2 rfl (lv_at hl 1 rfl) ?_
  refine lv_iconst (v := 2) hx hb dX9_asksOf_3 (by decide) ?_
  refine aV_I (As := [.int x1, .int 2]) (rest := [.ref (a 0)]) hc hw (c_M_factOf hm) lk_X9_121 rfl rfl ⟨Nat.le_of_ble_eq_true rfl, Nat.le_of_ble_eq_true rfl⟩ ⟨Nat.le_of_ble_eq_true rfl, Nat.le_of_ble_eq_true rfl⟩ hl.1 rfl (Nat.le_of_ble_eq_true rfl) rfl dX9_asksOf_4 (fun r1 _ H locs hm hw => ?_)
  have hw : wV D A s.heap (mW cy a S) H locs := hw
  refine pF (k := 23) (ty := .int) hc hw inX9 tyX9_ok nmX9 rfl 0 rfl (by decide) (gm 1082 (by decide +kernel) rfl) rfl (by decide +kernel) rfl rfl (Nat.le_of_ble_eq_true rfl) dX9_asksOf_7 (fun H locs hw => ?_)
  obtain ⟨S3, e_S3⟩ : ∃ z : Ob, z = uS S 23 r1 := ⟨_, rfl⟩
  have hm := hm S3 e_S3
  have hw : wV D A s.heap (mW cy a S3) H locs := by rw [e_S3]; exact hw
  refine lv_aload_n hx hb dX9_asksOf_10 rfl (lv_at hl 0 rfl) ?_
  refine lv_iconst (v := 1) hx hb dX9_asksOf_11 (by decide) ?_
  refine pF (k := 24) (ty := .int) hc hw inX9 tyX9_ok nmX9 rfl 0 rfl (by decide) (gm 1083 (by decide +kernel) rfl) rfl (by decide +kernel) rfl rfl (Nat.le_of_ble_eq_true rfl) dX9_asksOf_12 (fun H locs hw => ?_)
  obtain ⟨S4, e_S4⟩ : ∃ z : Ob, z = uS S3 24 1 := ⟨_, rfl⟩
  have hm := hm S4 e_S4
  have hw : wV D A s.heap (mW cy a S4) H locs := by rw [e_S4]; exact hw
  refine lv_aload_n hx hb dX9_asksOf_15 rfl (lv_at hl 0 rfl) ?_
  refine lv_iconst (v := 0) hx hb dX9_asksOf_16 (by decide) ?_
  refine pF (k := 25) (ty := .boolean) hc hw inX9 tyX9_ok nmX9 rfl 0 rfl (by decide) (gm 1084 (by decide +kernel) rfl) rfl (by decide +kernel) rfl rfl (Nat.le_of_ble_eq_true rfl) dX9_asksOf_17 (fun H locs hw => ?_)
  obtain ⟨S5, e_S5⟩ : ∃ z : Ob, z = uS S4 25 0 := ⟨_, rfl⟩
  have hm := hm S5 e_S5
  have hw : wV D A s.heap (mW cy a S5) H locs := by rw [e_S5]; exact hw
  refine lv_aload_n hx hb dX9_asksOf_20 rfl (lv_at hl 0 rfl) ?_
  refine gF (k := 3) hc hw inX9 rfl 0 rfl (by decide) (gm 1062 (by decide +kernel) rfl) rfl dX9_asksOf_21 ?_
  refine lv_sipush (v := 138) hx hb dX9_asksOf_24 (by decide) ?_
  refine aI hc hw 2 rfl (vin (by decide)) (j := 138) (by decide) dX9_asksOf_27 ?_
  refine lv_iconst (v := (-1)) hx hb dX9_asksOf_28 (by decide) ?_
  refine lv_icmp_ne (tgt := 33) hx hb dX9_asksOf_29 (by decide) (fun c91 => ?_) (fun c91 => ?_)
  · have hm := hm.1 c91
    refine lv_aload_n hx hb dX9_asksOf_33 rfl (lv_at hl 0 rfl) ?_
    refine gF (k := 22) hc hw inX9 rfl 0 rfl (by decide) (gm 1081 (by decide +kernel) rfl) rfl dX9_asksOf_34 ?_
    refine lv_iconst (v := 0) hx hb dX9_asksOf_37 (by decide) ?_
    refine lv_iload_n hx hb dX9_asksOf_38 rfl (lv_at hl 1 rfl) ?_
    refine sI hc hw 11 rfl (vin (by decide)) (j := 0) (by decide) dX9_asksOf_39 (fun H locs hw => ?_)
    obtain ⟨S6, e_S6⟩ : ∃ z : Ob, z = uA S5 22 0 x1 := ⟨_, rfl⟩
    have hm := hm S6 e_S6
    have hw : wV D A s.heap (mW cy a S6) H locs := by rw [e_S6]; exact hw
    refine lv_aload_n hx hb dX9_asksOf_40 rfl (lv_at hl 0 rfl) ?_
    refine gF (k := 22) hc hw inX9 rfl 0 rfl (by decide) (gm 1081 (by decide +kernel) rfl) rfl dX9_asksOf_41 ?_
    refine lv_iconst (v := 1) hx hb dX9_asksOf_44 (by decide) ?_
    refine lv_aload_n hx hb dX9_asksOf_45 rfl (lv_at hl 0 rfl) ?_
    refine lv_iload_n hx hb dX9_asksOf_46 rfl (lv_at hl 1 rfl) ?_
    refine lv_iconst (v := 0) hx hb dX9_asksOf_47 (by decide) ?_
    refine aV_I (As := [.int x1, .int 0]) (rest := [.int 1, .ref (a 11)]) hc hw (c_M_factOf hm) lk_X9_121 rfl rfl ⟨Nat.le_of_ble_eq_true rfl, Nat.le_of_ble_eq_true rfl⟩ ⟨Nat.le_of_ble_eq_true rfl, Nat.le_of_ble_eq_true rfl⟩ hl.1 rfl (Nat.le_of_ble_eq_true rfl) rfl dX9_asksOf_48 (fun r7 _ H locs hm hw => ?_)
    have hw : wV D A s.heap (mW cy a S6) H locs := hw
    refine sI hc hw 11 rfl (vin (by decide)) (j := 1) (by decide) dX9_asksOf_51 (fun H locs hw => ?_)
    obtain ⟨S9, e_S9⟩ : ∃ z : Ob, z = uA S6 22 1 r7 := ⟨_, rfl⟩
    have hm := hm S9 e_S9
    have hw : wV D A s.heap (mW cy a S9) H locs := by rw [e_S9]; exact hw
    refine lv_aload_n hx hb dX9_asksOf_52 rfl (lv_at hl 0 rfl) ?_
    refine gF (k := 22) hc hw inX9 rfl 0 rfl (by decide) (gm 1081 (by decide +kernel) rfl) rfl dX9_asksOf_53 ?_
    refine lv_iconst (v := 2) hx hb dX9_asksOf_56 (by decide) ?_
    refine lv_aload_n hx hb dX9_asksOf_57 rfl (lv_at hl 0 rfl) ?_
    refine lv_iload_n hx hb dX9_asksOf_58 rfl (lv_at hl 1 rfl) ?_
    refine lv_iconst (v := 1) hx hb dX9_asksOf_59 (by decide) ?_
    refine aV_I (As := [.int x1, .int 1]) (rest := [.int 2, .ref (a 11)]) hc hw (c_M_factOf hm) lk_X9_121 rfl rfl ⟨Nat.le_of_ble_eq_true rfl, Nat.le_of_ble_eq_true rfl⟩ ⟨Nat.le_of_ble_eq_true rfl, Nat.le_of_ble_eq_true rfl⟩ hl.1 rfl (Nat.le_of_ble_eq_true rfl) rfl dX9_asksOf_60 (fun r10 _ H locs hm hw => ?_)
    have hw : wV D A s.heap (mW cy a S9) H locs := hw
    refine sI hc hw 11 rfl (vin (by decide)) (j := 2) (by decide) dX9_asksOf_63 (fun H locs hw => ?_)
    obtain ⟨S12, e_S12⟩ : ∃ z : Ob, z = uA S9 22 2 r10 := ⟨_, rfl⟩
    have hm := hm S12 e_S12
    have hw : wV D A s.heap (mW cy a S12) H locs := by rw [e_S12]; exact hw
    refine lv_aload_n hx hb dX9_asksOf_64 rfl (lv_at hl 0 rfl) ?_
    refine gF (k := 22) hc hw inX9 rfl 0 rfl (by decide) (gm 1081 (by decide +kernel) rfl) rfl dX9_asksOf_65 ?_
    refine lv_iconst (v := 3) hx hb dX9_asksOf_68 (by decide) ?_
    refine lv_aload_n hx hb dX9_asksOf_69 rfl (lv_at hl 0 rfl) ?_
    refine lv_iload_n hx hb dX9_asksOf_70 rfl (lv_at hl 1 rfl) ?_
    refine lv_iconst (v := 1) hx hb dX9_asksOf_71 (by decide) ?_
    refine aV_I (As := [.int x1, .int 1]) (rest := [.int 3, .ref (a 11)]) hc hw (c_M_factOf hm) lk_X9_121 rfl rfl ⟨Nat.le_of_ble_eq_true rfl, Nat.le_of_ble_eq_true rfl⟩ ⟨Nat.le_of_ble_eq_true rfl, Nat.le_of_ble_eq_true rfl⟩ hl.1 rfl (Nat.le_of_ble_eq_true rfl) rfl dX9_asksOf_72 (fun r13 _ H locs hm hw => ?_)
    have hw : wV D A s.heap (mW cy a S12) H locs := hw
    refine lv_aload_n hx hb dX9_asksOf_75 rfl (lv_at hl 0 rfl) ?_
    refine lv_iload_n hx hb dX9_asksOf_76 rfl (lv_at hl 1 rfl) ?_
    refine lv_iconst (v := 0) hx hb dX9_asksOf_77 (by decide) ?_
    refine aV_I (As := [.int x1, .int 0]) (rest := [.int r13, .int 3, .ref (a 11)]) hc hw (c_M_factOf hm) lk_X9_121 rfl rfl ⟨Nat.le_of_ble_eq_true rfl, Nat.le_of_ble_eq_true rfl⟩ ⟨Nat.le_of_ble_eq_true rfl, Nat.le_of_ble_eq_true rfl⟩ hl.1 rfl (Nat.le_of_ble_eq_true rfl) rfl dX9_asksOf_78 (fun r15 _ H locs hm hw => ?_)
    have hw : wV D A s.heap (mW cy a S12) H locs := hw
    refine lv_isub hx hb dX9_asksOf_81 ?_
    refine sI hc hw 11 rfl (vin (by decide)) (j := 3) (by decide) dX9_asksOf_82 (fun H locs hw => ?_)
    obtain ⟨S17, e_S17⟩ : ∃ z : Ob, z = uA S12 22 3 (r13 - r15) := ⟨_, rfl⟩
    have hm := hm S17 e_S17
    have hw : wV D A s.heap (mW cy a S17) H locs := by rw [e_S17]; exact hw
    refine lv_aload_n hx hb dX9_asksOf_83 rfl (lv_at hl 0 rfl) ?_
    refine gF (k := 22) hc hw inX9 rfl 0 rfl (by decide) (gm 1081 (by decide +kernel) rfl) rfl dX9_asksOf_84 ?_
    refine lv_iconst (v := 4) hx hb dX9_asksOf_87 (by decide) ?_
    refine lv_aload_n hx hb dX9_asksOf_88 rfl (lv_at hl 0 rfl) ?_
    refine lv_iload_n hx hb dX9_asksOf_89 rfl (lv_at hl 1 rfl) ?_
    refine lv_iconst (v := 2) hx hb dX9_asksOf_90 (by decide) ?_
    refine aV_I (As := [.int x1, .int 2]) (rest := [.int 4, .ref (a 11)]) hc hw (c_M_factOf hm) lk_X9_121 rfl rfl ⟨Nat.le_of_ble_eq_true rfl, Nat.le_of_ble_eq_true rfl⟩ ⟨Nat.le_of_ble_eq_true rfl, Nat.le_of_ble_eq_true rfl⟩ hl.1 rfl (Nat.le_of_ble_eq_true rfl) rfl dX9_asksOf_91 (fun r18 _ H locs hm hw => ?_)
    have hw : wV D A s.heap (mW cy a S17) H locs := hw
    refine sI hc hw 11 rfl (vin (by decide)) (j := 4) (by decide) dX9_asksOf_94 (fun H locs hw => ?_)
    obtain ⟨S20, e_S20⟩ : ∃ z : Ob, z = uA S17 22 4 r18 := ⟨_, rfl⟩
    have hm := hm S20 e_S20
    have hw : wV D A s.heap (mW cy a S20) H locs := by rw [e_S20]; exact hw
    refine lv_aload_n hx hb dX9_asksOf_95 rfl (lv_at hl 0 rfl) ?_
    refine gF (k := 22) hc hw inX9 rfl 0 rfl (by decide) (gm 1081 (by decide +kernel) rfl) rfl dX9_asksOf_96 ?_
    refine lv_iconst (v := 5) hx hb dX9_asksOf_99 (by decide) ?_
    refine lv_aload_n hx hb dX9_asksOf_100 rfl (lv_at hl 0 rfl) ?_
    refine lv_iload_n hx hb dX9_asksOf_101 rfl (lv_at hl 1 rfl) ?_
    refine lv_iconst (v := 3) hx hb dX9_asksOf_102 (by decide) ?_
    refine aV_I (As := [.int x1, .int 3]) (rest := [.int 5, .ref (a 11)]) hc hw (c_M_factOf hm) lk_X9_121 rfl rfl ⟨Nat.le_of_ble_eq_true rfl, Nat.le_of_ble_eq_true rfl⟩ ⟨Nat.le_of_ble_eq_true rfl, Nat.le_of_ble_eq_true rfl⟩ hl.1 rfl (Nat.le_of_ble_eq_true rfl) rfl dX9_asksOf_103 (fun r21 _ H locs hm hw => ?_)
    have hw : wV D A s.heap (mW cy a S20) H locs := hw
    refine lv_iconst (v := 1) hx hb dX9_asksOf_106 (by decide) ?_
    refine lv_aload_n hx hb dX9_asksOf_107 rfl (lv_at hl 0 rfl) ?_
    refine gF (k := 3) hc hw inX9 rfl 0 rfl (by decide) (gm 1062 (by decide +kernel) rfl) rfl dX9_asksOf_108 ?_
    refine lv_bipush (v := 40) hx hb dX9_asksOf_111 (by decide) ?_
    refine aI hc hw 2 rfl (vin (by decide)) (j := 40) (by decide) dX9_asksOf_113 ?_
    refine lv_ishl hx hb dX9_asksOf_114 ?_
    refine lv_iconst (v := 1) hx hb dX9_asksOf_115 (by decide) ?_
    refine lv_isub hx hb dX9_asksOf_116 ?_
    refine lv_iand hx hb dX9_asksOf_117 ?_
    refine zS_I (As := [.int (r21 &&& (((1 : Int32) <<< ((S20.2 3 40) &&& 31)) - 1))]) (rest := [.int 5, .ref (a 11)]) hc hw (c_M_ones hm) lk_X9_260 ⟨Nat.le_of_ble_eq_true rfl, Nat.le_of_ble_eq_true rfl⟩ ⟨Nat.le_of_ble_eq_true rfl, Nat.le_of_ble_eq_true rfl⟩ hl.1 rfl (Nat.le_of_ble_eq_true rfl) rfl dX9_asksOf_118 (fun r23 H locs hm hw => ?_)
    refine sI hc hw 11 rfl (vin (by decide)) (j := 5) (by decide) dX9_asksOf_121 (fun H locs hw => ?_)
    obtain ⟨S25, e_S25⟩ : ∃ z : Ob, z = uA S20 22 5 r23 := ⟨_, rfl⟩
    have hm := hm S25 e_S25
    have hw : wV D A s.heap (mW cy a S25) H locs := by rw [e_S25]; exact hw
    refine lv_aload_n hx hb dX9_asksOf_122 rfl (lv_at hl 0 rfl) ?_
    refine gF (k := 22) hc hw inX9 rfl 0 rfl (by decide) (gm 1081 (by decide +kernel) rfl) rfl dX9_asksOf_123 ?_
    refine lv_bipush (v := 6) hx hb dX9_asksOf_126 (by decide) ?_
    refine lv_aload_n hx hb dX9_asksOf_128 rfl (lv_at hl 0 rfl) ?_
    refine gF (k := 3) hc hw inX9 rfl 0 rfl (by decide) (gm 1062 (by decide +kernel) rfl) rfl dX9_asksOf_129 ?_
    refine lv_bipush (v := 42) hx hb dX9_asksOf_132 (by decide) ?_
    refine aI hc hw 2 rfl (vin (by decide)) (j := 42) (by decide) dX9_asksOf_134 ?_
    refine sI hc hw 11 rfl (vin (by decide)) (j := 6) (by decide) dX9_asksOf_135 (fun H locs hw => ?_)
    obtain ⟨S26, e_S26⟩ : ∃ z : Ob, z = uA S25 22 6 (S25.2 3 42) := ⟨_, rfl⟩
    have hm := hm S26 e_S26
    have hw : wV D A s.heap (mW cy a S26) H locs := by rw [e_S26]; exact hw
    refine lv_aload_n hx hb dX9_asksOf_136 rfl (lv_at hl 0 rfl) ?_
    refine gF (k := 22) hc hw inX9 rfl 0 rfl (by decide) (gm 1081 (by decide +kernel) rfl) rfl dX9_asksOf_137 ?_
    refine lv_bipush (v := 7) hx hb dX9_asksOf_140 (by decide) ?_
    refine lv_iload_n hx hb dX9_asksOf_142 rfl (lv_at hl 2 rfl) ?_
    refine sI hc hw 11 rfl (vin (by decide)) (j := 7) (by decide) dX9_asksOf_143 (fun H locs hw => ?_)
    obtain ⟨S27, e_S27⟩ : ∃ z : Ob, z = uA S26 22 7 x2 := ⟨_, rfl⟩
    have hm := hm S27 e_S27
    have hw : wV D A s.heap (mW cy a S27) H locs := by rw [e_S27]; exact hw
    refine lv_aload_n hx hb dX9_asksOf_144 rfl (lv_at hl 0 rfl) ?_
    refine lv_sipush (v := 400) hx hb dX9_asksOf_145 (by decide) ?_
    refine lv_aload_n hx hb dX9_asksOf_148 rfl (lv_at hl 0 rfl) ?_
    refine gF (k := 3) hc hw inX9 rfl 0 rfl (by decide) (gm 1062 (by decide +kernel) rfl) rfl dX9_asksOf_149 ?_
    refine lv_sipush (v := 138) hx hb dX9_asksOf_152 (by decide) ?_
    refine aI hc hw 2 rfl (vin (by decide)) (j := 138) (by decide) dX9_asksOf_155 ?_
    refine lv_imul hx hb dX9_asksOf_156 ?_
    refine pF (k := 19) (ty := .int) hc hw inX9 tyX9_ok nmX9 rfl 0 rfl (by decide) (gm 1078 (by decide +kernel) rfl) rfl (by decide +kernel) rfl rfl (Nat.le_of_ble_eq_true rfl) dX9_asksOf_157 (fun H locs hw => ?_)
    obtain ⟨S28, e_S28⟩ : ∃ z : Ob, z = uS S27 19 (400 * (S27.2 3 138)) := ⟨_, rfl⟩
    have hm := hm S28 e_S28
    have hw : wV D A s.heap (mW cy a S28) H locs := by rw [e_S28]; exact hw
    refine lv_aload_n hx hb dX9_asksOf_160 rfl (lv_at hl 0 rfl) ?_
    refine lv_aload_n hx hb dX9_asksOf_161 rfl (lv_at hl 0 rfl) ?_
    refine gF (k := 19) hc hw inX9 rfl 0 rfl (by decide) (gm 1078 (by decide +kernel) rfl) rfl dX9_asksOf_162 ?_
    refine lv_aload_n hx hb dX9_asksOf_165 rfl (lv_at hl 0 rfl) ?_
    refine gF (k := 3) hc hw inX9 rfl 0 rfl (by decide) (gm 1062 (by decide +kernel) rfl) rfl dX9_asksOf_166 ?_
    refine lv_sipush (v := 139) hx hb dX9_asksOf_169 (by decide) ?_
    refine lv_aload_n hx hb dX9_asksOf_172 rfl (lv_at hl 0 rfl) ?_
    refine gF (k := 3) hc hw inX9 rfl 0 rfl (by decide) (gm 1062 (by decide +kernel) rfl) rfl dX9_asksOf_173 ?_
    refine lv_sipush (v := 138) hx hb dX9_asksOf_176 (by decide) ?_
    refine aI hc hw 2 rfl (vin (by decide)) (j := 138) (by decide) dX9_asksOf_179 ?_
    refine lv_iadd hx hb dX9_asksOf_180 ?_
    obtain ⟨c29, hm⟩ := hm
    refine aI hc hw 2 rfl c29 rfl dX9_asksOf_181 ?_
    refine lv_iadd hx hb dX9_asksOf_182 ?_
    refine pF (k := 20) (ty := .int) hc hw inX9 tyX9_ok nmX9 rfl 0 rfl (by decide) (gm 1079 (by decide +kernel) rfl) rfl (by decide +kernel) rfl rfl (Nat.le_of_ble_eq_true rfl) dX9_asksOf_183 (fun H locs hw => ?_)
    obtain ⟨S30, e_S30⟩ : ∃ z : Ob, z = uS S28 20 ((S28.1 19) + (S28.2 3 (Int32.toNatClampNeg (139 + (S28.2 3 138))))) := ⟨_, rfl⟩
    have hm := hm S30 e_S30
    have hw : wV D A s.heap (mW cy a S30) H locs := by rw [e_S30]; exact hw
    refine wl1_ind (G := fun (S31 : Ob) => ∀ (H : Heap) (locs : List Loc) (ls : Array Slot), wV D A s.heap (mW cy a S31) H locs → lv_has ls 8 [(0, .ref (a 0))] → W p l e (rmN 100) s m args below meth c H locs 0 0 (MQ below (eV D cy A (mW cy a) Q) args s (rmN 100).cells (rmN 100).slots A) (F0 m 186 ls [])) ?_ _ hm H locs ls hw (lv_sub hl [0] rfl)
    intro L32 ih32 S31 hm H locs ls hw hl
    refine lv_aload_n hx hb dX9_asksOf_186 rfl (lv_at hl 0 rfl) ?_
    refine gF (k := 19) hc hw inX9 rfl 0 rfl (by decide) (gm 1078 (by decide +kernel) rfl) rfl dX9_asksOf_187 ?_
    refine lv_aload_n hx hb dX9_asksOf_190 rfl (lv_at hl 0 rfl) ?_
    refine gF (k := 20) hc hw inX9 rfl 0 rfl (by decide) (gm 1079 (by decide +kernel) rfl) rfl dX9_asksOf_191 ?_
    refine lv_icmp_ge (tgt := 398) hx hb dX9_asksOf_194 (by decide) (fun c90 => ?_) (fun c90 => ?_)
    · have hm := hm.1 c90
      exact retV (u := S31) hc hw hm dX9_asksOf_398
    · have hm := hm.2 c90
      refine lv_aload_n hx hb dX9_asksOf_197 rfl (lv_at hl 0 rfl) ?_
      refine lv_aload_n hx hb dX9_asksOf_198 rfl (lv_at hl 0 rfl) ?_
      refine gF (k := 19) hc hw inX9 rfl 0 rfl (by decide) (gm 1078 (by decide +kernel) rfl) rfl dX9_asksOf_199 ?_
      refine aV_I (As := [.int (S31.1 19)]) (rest := []) hc hw (c_M_codeAt hm) lk_X9_210 rfl rfl ⟨Nat.le_of_ble_eq_true rfl, Nat.le_of_ble_eq_true rfl⟩ ⟨Nat.le_of_ble_eq_true rfl, Nat.le_of_ble_eq_true rfl⟩ hl.1 rfl (Nat.le_of_ble_eq_true rfl) rfl dX9_asksOf_202 (fun r33 _ H locs hm hw => ?_)
      have hw : wV D A s.heap (mW cy a S31) H locs := hw
      refine lv_istore_n (lv' := [(3, .int r33), (0, .ref (a 0))]) hx hb dX9_asksOf_205 rfl hl (by decide) rfl (fun ls hl => ?_)
      refine lv_aload_n hx hb dX9_asksOf_206 rfl (lv_at hl 1 rfl) ?_
      refine lv_iconst (v := 0) hx hb dX9_asksOf_207 (by decide) ?_
      refine pF (k := 21) (ty := .boolean) hc hw inX9 tyX9_ok nmX9 rfl 0 rfl (by decide) (gm 1080 (by decide +kernel) rfl) rfl (by decide +kernel) rfl rfl (Nat.le_of_ble_eq_true rfl) dX9_asksOf_208 (fun H locs hw => ?_)
      obtain ⟨S35, e_S35⟩ : ∃ z : Ob, z = uS S31 21 0 := ⟨_, rfl⟩
      have hm := hm S35 e_S35
      have hw : wV D A s.heap (mW cy a S35) H locs := by rw [e_S35]; exact hw
      refine lv_aload_n hx hb dX9_asksOf_211 rfl (lv_at hl 1 rfl) ?_
      refine lv_dup hx hb dX9_asksOf_212 rfl ?_
      refine gF (k := 19) hc hw inX9 rfl 0 rfl (by decide) (gm 1078 (by decide +kernel) rfl) rfl dX9_asksOf_213 ?_
      refine lv_iconst (v := 1) hx hb dX9_asksOf_216 (by decide) ?_
      refine lv_iadd hx hb dX9_asksOf_217 ?_
      refine pF (k := 19) (ty := .int) hc hw inX9 tyX9_ok nmX9 rfl 0 rfl (by decide) (gm 1078 (by decide +kernel) rfl) rfl (by decide +kernel) rfl rfl (Nat.le_of_ble_eq_true rfl) dX9_asksOf_218 (fun H locs hw => ?_)
      obtain ⟨S36, e_S36⟩ : ∃ z : Ob, z = uS S35 19 ((S35.1 19) + 1) := ⟨_, rfl⟩
      have hm := hm S36 e_S36
      have hw : wV D A s.heap (mW cy a S36) H locs := by rw [e_S36]; exact hw
      refine lv_iload_n hx hb dX9_asksOf_221 rfl (lv_at hl 0 rfl) ?_
      refine lv_iconst (v := 3) hx hb dX9_asksOf_222 (by decide) ?_
      obtain ⟨J39, eJ39, hm⟩ := jn_e hm
      have hJ39 : ∀ (t37 : Int64) (S38 : Ob) (_ : J39 t37 S38) (H : Heap) (locs : List Loc) (ls : Array Slot), wV D A s.heap (mW cy a S38) H locs → lv_has ls 8 [(0, .ref (a 0)), (3, .int r33)] → W p l e (rmN 100) s m args below meth c H locs 0 0 (MQ below (eV D cy A (mW cy a) Q) args s (rmN 100).cells (rmN 100).slots A) (F0 m 235 ls [.long t37]) := by
        intro t37 S38 hm H locs ls hw hl
        rw [eJ39] at hm
        refine lv_lstore (lv' := [(4, .long t37), (0, .ref (a 0)), (3, .int r33)]) hx hb dX9_asksOf_235 hl (by decide) rfl (fun ls hl => ?_)
        refine lv_aload_n hx hb dX9_asksOf_237 rfl (lv_at hl 1 rfl) ?_
        refine gF (k := 21) hc hw inX9 rfl 0 rfl (by decide) (gm 1080 (by decide +kernel) rfl) rfl dX9_asksOf_238 ?_
        refine lv_topi (fun v40 e_v40 => ?_)
        have hm := hm v40 e_v40
        refine lv_istore (lv' := [(6, .int v40), (4, .long t37), (0, .ref (a 0)), (3, .int r33)]) hx hb dX9_asksOf_241 hl (by decide) rfl (fun ls hl => ?_)
        refine lv_aload_n hx hb dX9_asksOf_243 rfl (lv_at hl 2 rfl) ?_
        refine lv_iconst (v := 0) hx hb dX9_asksOf_244 (by decide) ?_
        refine pF (k := 21) (ty := .boolean) hc hw inX9 tyX9_ok nmX9 rfl 0 rfl (by decide) (gm 1080 (by decide +kernel) rfl) rfl (by decide +kernel) rfl rfl (Nat.le_of_ble_eq_true rfl) dX9_asksOf_245 (fun H locs hw => ?_)
        obtain ⟨S41, e_S41⟩ : ∃ z : Ob, z = uS S38 21 0 := ⟨_, rfl⟩
        have hm := hm S41 e_S41
        have hw : wV D A s.heap (mW cy a S41) H locs := by rw [e_S41]; exact hw
        refine lv_aload_n hx hb dX9_asksOf_248 rfl (lv_at hl 2 rfl) ?_
        refine lv_iconst (v := 4) hx hb dX9_asksOf_249 (by decide) ?_
        refine aV_I (As := [.int 4]) (rest := []) hc hw (c_M_passes0 hm) lk_X9_232 rfl rfl ⟨Nat.le_of_ble_eq_true rfl, Nat.le_of_ble_eq_true rfl⟩ ⟨Nat.le_of_ble_eq_true rfl, Nat.le_of_ble_eq_true rfl⟩ hl.1 rfl (Nat.le_of_ble_eq_true rfl) rfl dX9_asksOf_250 (fun r42 S43 H locs hm hw => ?_)
        have hw : wV D A s.heap (mW cy a S43) H locs := hw
        obtain ⟨J47, eJ47, hm⟩ := jn_e hm
        have hJ47 : ∀ (t45 : Int32) (S46 : Ob) (_ : J47 t45 S46) (H : Heap) (locs : List Loc) (ls : Array Slot), wV D A s.heap (mW cy a S46) H locs → lv_has ls 8 [(0, .ref (a 0)), (3, .int r33), (4, .long t37), (6, .int v40)] → W p l e (rmN 100) s m args below meth c H locs 0 0 (MQ below (eV D cy A (mW cy a) Q) args s (rmN 100).cells (rmN 100).slots A) (F0 m 269 ls [.int t45]) := by
          intro t45 S46 hm H locs ls hw hl
          rw [eJ47] at hm
          refine lv_istore (lv' := [(7, .int t45), (0, .ref (a 0)), (3, .int r33), (4, .long t37), (6, .int v40)]) hx hb dX9_asksOf_269 hl (by decide) rfl (fun ls hl => ?_)
          refine lv_iload hx hb dX9_asksOf_271 (lv_at hl 0 rfl) ?_
          obtain ⟨J49, eJ49, hm⟩ := jn_e hm
          have hJ49 : ∀ (S48 : Ob) (_ : J49 S48) (H : Heap) (locs : List Loc) (ls : Array Slot), wV D A s.heap (mW cy a S48) H locs → lv_has ls 8 [(0, .ref (a 0))] → W p l e (rmN 100) s m args below meth c H locs 0 0 (MQ below (eV D cy A (mW cy a) Q) args s (rmN 100).cells (rmN 100).slots A) (F0 m 385 ls []) := by
            intro S48 hm H locs ls hw hl
            rw [eJ49] at hm
            refine lv_aload_n hx hb dX9_asksOf_385 rfl (lv_at hl 0 rfl) ?_
            refine lv_dup hx hb dX9_asksOf_386 rfl ?_
            refine gF (k := 19) hc hw inX9 rfl 0 rfl (by decide) (gm 1078 (by decide +kernel) rfl) rfl dX9_asksOf_387 ?_
            refine lv_iconst (v := 1) hx hb dX9_asksOf_390 (by decide) ?_
            refine lv_iadd hx hb dX9_asksOf_391 ?_
            refine pF (k := 19) (ty := .int) hc hw inX9 tyX9_ok nmX9 rfl 0 rfl (by decide) (gm 1078 (by decide +kernel) rfl) rfl (by decide +kernel) rfl rfl (Nat.le_of_ble_eq_true rfl) dX9_asksOf_392 (fun H locs hw => ?_)
            obtain ⟨S50, e_S50⟩ : ∃ z : Ob, z = uS S48 19 ((S48.1 19) + 1) := ⟨_, rfl⟩
            have hm := hm S50 e_S50
            have hw : wV D A s.heap (mW cy a S50) H locs := by rw [e_S50]; exact hw
            refine lv_goto (tgt := 186) hx hb dX9_asksOf_395 (by decide) ?_
            exact ih32 _ hm _ _ _ hw (lv_sub hl [0] rfl)
          refine lv_if_eq (tgt := 385) hx hb dX9_asksOf_273 (by decide) (fun c78 => ?_) (fun c78 => ?_)
          · have hm := hm.1 c78
            exact hJ49 _ hm _ _ _ hw (lv_sub hl [1] rfl)
          · have hm := hm.2 c78
            refine lv_aload_n hx hb dX9_asksOf_276 rfl (lv_at hl 1 rfl) ?_
            refine gF (k := 21) hc hw inX9 rfl 0 rfl (by decide) (gm 1080 (by decide +kernel) rfl) rfl dX9_asksOf_277 ?_
            refine lv_if_ne (tgt := 385) hx hb dX9_asksOf_280 (by decide) (fun c77 => ?_) (fun c77 => ?_)
            · have hm := hm.1 c77
              exact hJ49 _ hm _ _ _ hw (lv_sub hl [1] rfl)
            · have hm := hm.2 c77
              refine lv_iload hx hb dX9_asksOf_283 (lv_at hl 4 rfl) ?_
              refine lv_if_ne (tgt := 385) hx hb dX9_asksOf_285 (by decide) (fun c76 => ?_) (fun c76 => ?_)
              · have hm := hm.1 c76
                exact hJ49 _ hm _ _ _ hw (lv_sub hl [1] rfl)
              · have hm := hm.2 c76
                refine lv_iload_n hx hb dX9_asksOf_288 rfl (lv_at hl 2 rfl) ?_
                refine lv_iconst (v := 1) hx hb dX9_asksOf_289 (by decide) ?_
                obtain ⟨J52, eJ52, hm⟩ := jn_e hm
                have hJ52 : ∀ (S51 : Ob) (_ : J52 S51) (H : Heap) (locs : List Loc) (ls : Array Slot), wV D A s.heap (mW cy a S51) H locs → lv_has ls 8 [(0, .ref (a 0)), (3, .int r33), (4, .long t37)] → W p l e (rmN 100) s m args below meth c H locs 0 0 (MQ below (eV D cy A (mW cy a) Q) args s (rmN 100).cells (rmN 100).slots A) (F0 m 326 ls []) := by
                  intro S51 hm H locs ls hw hl
                  rw [eJ52] at hm
                  refine lv_iload_n hx hb dX9_asksOf_326 rfl (lv_at hl 1 rfl) ?_
                  refine lv_iconst (v := 2) hx hb dX9_asksOf_327 (by decide) ?_
                  obtain ⟨J54, eJ54, hm⟩ := jn_e hm
                  have hJ54 : ∀ (S53 : Ob) (_ : J54 S53) (H : Heap) (locs : List Loc) (ls : Array Slot), wV D A s.heap (mW cy a S53) H locs → lv_has ls 8 [(0, .ref (a 0)), (3, .int r33)] → W p l e (rmN 100) s m args below meth c H locs 0 0 (MQ below (eV D cy A (mW cy a) Q) args s (rmN 100).cells (rmN 100).slots A) (F0 m 364 ls []) := by
                    intro S53 hm H locs ls hw hl
                    rw [eJ54] at hm
                    refine lv_aload_n hx hb dX9_asksOf_364 rfl (lv_at hl 0 rfl) ?_
                    refine lv_aload_n hx hb dX9_asksOf_365 rfl (lv_at hl 0 rfl) ?_
                    refine gF (k := 25) hc hw inX9 rfl 0 rfl (by decide) (gm 1084 (by decide +kernel) rfl) rfl dX9_asksOf_366 ?_
                    obtain ⟨J56, eJ56, hm⟩ := jn_e hm
                    have hJ56 : ∀ (t55 : Int32) (_ : J56 t55) (H : Heap) (locs : List Loc) (ls : Array Slot), wV D A s.heap (mW cy a S53) H locs → lv_has ls 8 [(0, .ref (a 0))] → W p l e (rmN 100) s m args below meth c H locs 0 0 (MQ below (eV D cy A (mW cy a) Q) args s (rmN 100).cells (rmN 100).slots A) (F0 m 382 ls [.int t55, .ref (a 0)]) := by
                      intro t55 hm H locs ls hw hl
                      rw [eJ56] at hm
                      obtain ⟨c57, c58, hm⟩ := hm
                      refine pF (k := 25) (ty := .boolean) hc hw inX9 tyX9_ok nmX9 rfl 0 rfl (by decide) (gm 1084 (by decide +kernel) rfl) rfl (by decide +kernel) c57 c58 (Nat.le_of_ble_eq_true rfl) dX9_asksOf_382 (fun H locs hw => ?_)
                      obtain ⟨S59, e_S59⟩ : ∃ z : Ob, z = uS S53 25 t55 := ⟨_, rfl⟩
                      have hm := hm S59 e_S59
                      have hw : wV D A s.heap (mW cy a S59) H locs := by rw [e_S59]; exact hw
                      exact hJ49 _ hm _ _ _ hw (lv_sub hl [0] rfl)
                    obtain ⟨J61, eJ61, hm⟩ := jn_e hm
                    have hJ61 : ∀ (z60 : Unit) (_ : J61 z60) (H : Heap) (locs : List Loc) (ls : Array Slot), wV D A s.heap (mW cy a S53) H locs → lv_has ls 8 [(0, .ref (a 0))] → W p l e (rmN 100) s m args below meth c H locs 0 0 (MQ below (eV D cy A (mW cy a) Q) args s (rmN 100).cells (rmN 100).slots A) (F0 m 377 ls [.ref (a 0)]) := by
                      intro z60 hm H locs ls hw hl
                      rw [eJ61] at hm
                      refine lv_iconst (v := 1) hx hb dX9_asksOf_377 (by decide) ?_
                      refine lv_goto (tgt := 382) hx hb dX9_asksOf_378 (by decide) ?_
                      exact hJ56 _ hm _ _ _ hw (lv_sub hl [0] rfl)
                    refine lv_if_ne (tgt := 377) hx hb dX9_asksOf_369 (by decide) (fun c63 => ?_) (fun c63 => ?_)
                    · have hm := hm.1 c63
                      exact hJ61 _ hm _ _ _ hw (lv_sub hl [0] rfl)
                    · have hm := hm.2 c63
                      refine lv_iload_n hx hb dX9_asksOf_372 rfl (lv_at hl 1 rfl) ?_
                      refine lv_iconst (v := 3) hx hb dX9_asksOf_373 (by decide) ?_
                      refine lv_icmp_ne (tgt := 381) hx hb dX9_asksOf_374 (by decide) (fun c62 => ?_) (fun c62 => ?_)
                      · have hm := hm.1 c62
                        refine lv_iconst (v := 0) hx hb dX9_asksOf_381 (by decide) ?_
                        exact hJ56 _ hm _ _ _ hw (lv_sub hl [0] rfl)
                      · have hm := hm.2 c62
                        exact hJ61 _ hm _ _ _ hw (lv_sub hl [0] rfl)
                  refine lv_icmp_ne (tgt := 364) hx hb dX9_asksOf_328 (by decide) (fun c69 => ?_) (fun c69 => ?_)
                  · have hm := hm.1 c69
                    exact hJ54 _ hm _ _ _ hw (lv_sub hl [0, 1] rfl)
                  · have hm := hm.2 c69
                    refine lv_aload_n hx hb dX9_asksOf_331 rfl (lv_at hl 0 rfl) ?_
                    refine lv_lload hx hb dX9_asksOf_332 (lv_at hl 2 rfl) ?_
                    refine lv_lconst (v := 1) hx hb dX9_asksOf_334 (by decide) ?_
                    refine W.lcmp hx hb dX9_asksOf_335 ?_
                    obtain ⟨J65, eJ65, hm⟩ := jn_e hm
                    have hJ65 : ∀ (t64 : Int32) (_ : J65 t64) (H : Heap) (locs : List Loc) (ls : Array Slot), wV D A s.heap (mW cy a S51) H locs → lv_has ls 8 [(0, .ref (a 0)), (3, .int r33)] → W p l e (rmN 100) s m args below meth c H locs 0 0 (MQ below (eV D cy A (mW cy a) Q) args s (rmN 100).cells (rmN 100).slots A) (F0 m 361 ls [.int t64, .ref (a 0)]) := by
                      intro t64 hm H locs ls hw hl
                      rw [eJ65] at hm
                      refine pF (k := 24) (ty := .int) hc hw inX9 tyX9_ok nmX9 rfl 0 rfl (by decide) (gm 1083 (by decide +kernel) rfl) rfl (by decide +kernel) rfl rfl (Nat.le_of_ble_eq_true rfl) dX9_asksOf_361 (fun H locs hw => ?_)
                      obtain ⟨S66, e_S66⟩ : ∃ z : Ob, z = uS S51 24 t64 := ⟨_, rfl⟩
                      have hm := hm S66 e_S66
                      have hw : wV D A s.heap (mW cy a S66) H locs := by rw [e_S66]; exact hw
                      exact hJ54 _ hm _ _ _ hw (lv_sub hl [0, 1] rfl)
                    refine lv_if_ge (tgt := 343) hx hb dX9_asksOf_336 (by decide) (fun c68 => ?_) (fun c68 => ?_)
                    · have hm := hm.1 c68
                      refine lv_lload hx hb dX9_asksOf_343 (lv_at hl 2 rfl) ?_
                      refine lv_ldc2 (v := 999) hx hb hown (hts _ (gm 1402 (by decide +kernel) rfl)) dX9_asksOf_345 ?_
                      refine W.lcmp hx hb dX9_asksOf_348 ?_
                      refine lv_if_le (tgt := 358) hx hb dX9_asksOf_349 (by decide) (fun c67 => ?_) (fun c67 => ?_)
                      · have hm := hm.1 c67
                        refine lv_lload hx hb dX9_asksOf_358 (lv_at hl 2 rfl) ?_
                        refine lv_l2i hx hb dX9_asksOf_360 rfl ?_
                        exact hJ65 _ hm _ _ _ hw (lv_sub hl [0, 1] rfl)
                      · have hm := hm.2 c67
                        refine lv_sipush (v := 999) hx hb dX9_asksOf_352 (by decide) ?_
                        refine lv_goto (tgt := 361) hx hb dX9_asksOf_355 (by decide) ?_
                        exact hJ65 _ hm _ _ _ hw (lv_sub hl [0, 1] rfl)
                    · have hm := hm.2 c68
                      refine lv_iconst (v := 1) hx hb dX9_asksOf_339 (by decide) ?_
                      refine lv_goto (tgt := 361) hx hb dX9_asksOf_340 (by decide) ?_
                      exact hJ65 _ hm _ _ _ hw (lv_sub hl [0, 1] rfl)
                refine lv_icmp_ne (tgt := 326) hx hb dX9_asksOf_290 (by decide) (fun c75 => ?_) (fun c75 => ?_)
                · have hm := hm.1 c75
                  exact hJ52 _ hm _ _ _ hw (lv_sub hl [1, 2, 3] rfl)
                · have hm := hm.2 c75
                  refine lv_aload_n hx hb dX9_asksOf_293 rfl (lv_at hl 1 rfl) ?_
                  refine lv_lload hx hb dX9_asksOf_294 (lv_at hl 3 rfl) ?_
                  refine lv_lconst (v := 0) hx hb dX9_asksOf_296 (by decide) ?_
                  refine W.lcmp hx hb dX9_asksOf_297 ?_
                  obtain ⟨J71, eJ71, hm⟩ := jn_e hm
                  have hJ71 : ∀ (t70 : Int32) (_ : J71 t70) (H : Heap) (locs : List Loc) (ls : Array Slot), wV D A s.heap (mW cy a S46) H locs → lv_has ls 8 [(0, .ref (a 0)), (3, .int r33), (4, .long t37)] → W p l e (rmN 100) s m args below meth c H locs 0 0 (MQ below (eV D cy A (mW cy a) Q) args s (rmN 100).cells (rmN 100).slots A) (F0 m 323 ls [.int t70, .ref (a 0)]) := by
                    intro t70 hm H locs ls hw hl
                    rw [eJ71] at hm
                    refine pF (k := 23) (ty := .int) hc hw inX9 tyX9_ok nmX9 rfl 0 rfl (by decide) (gm 1082 (by decide +kernel) rfl) rfl (by decide +kernel) rfl rfl (Nat.le_of_ble_eq_true rfl) dX9_asksOf_323 (fun H locs hw => ?_)
                    obtain ⟨S72, e_S72⟩ : ∃ z : Ob, z = uS S46 23 t70 := ⟨_, rfl⟩
                    have hm := hm S72 e_S72
                    have hw : wV D A s.heap (mW cy a S72) H locs := by rw [e_S72]; exact hw
                    exact hJ52 _ hm _ _ _ hw (lv_sub hl [0, 1, 2] rfl)
                  refine lv_if_ge (tgt := 305) hx hb dX9_asksOf_298 (by decide) (fun c74 => ?_) (fun c74 => ?_)
                  · have hm := hm.1 c74
                    refine lv_lload hx hb dX9_asksOf_305 (lv_at hl 3 rfl) ?_
                    refine lv_ldc2 (v := 999) hx hb hown (hts _ (gm 1402 (by decide +kernel) rfl)) dX9_asksOf_307 ?_
                    refine W.lcmp hx hb dX9_asksOf_310 ?_
                    refine lv_if_le (tgt := 320) hx hb dX9_asksOf_311 (by decide) (fun c73 => ?_) (fun c73 => ?_)
                    · have hm := hm.1 c73
                      refine lv_lload hx hb dX9_asksOf_320 (lv_at hl 3 rfl) ?_
                      refine lv_l2i hx hb dX9_asksOf_322 rfl ?_
                      exact hJ71 _ hm _ _ _ hw (lv_sub hl [1, 2, 3] rfl)
                    · have hm := hm.2 c73
                      refine lv_sipush (v := 999) hx hb dX9_asksOf_314 (by decide) ?_
                      refine lv_goto (tgt := 323) hx hb dX9_asksOf_317 (by decide) ?_
                      exact hJ71 _ hm _ _ _ hw (lv_sub hl [1, 2, 3] rfl)
                  · have hm := hm.2 c74
                    refine lv_iconst (v := 0) hx hb dX9_asksOf_301 (by decide) ?_
                    refine lv_goto (tgt := 323) hx hb dX9_asksOf_302 (by decide) ?_
                    exact hJ71 _ hm _ _ _ hw (lv_sub hl [1, 2, 3] rfl)
        obtain ⟨J80, eJ80, hm⟩ := jn_e hm
        have hJ80 : ∀ (S79 : Ob) (_ : J80 S79) (H : Heap) (locs : List Loc) (ls : Array Slot), wV D A s.heap (mW cy a S79) H locs → lv_has ls 8 [(0, .ref (a 0)), (3, .int r33), (4, .long t37), (6, .int v40)] → W p l e (rmN 100) s m args below meth c H locs 0 0 (MQ below (eV D cy A (mW cy a) Q) args s (rmN 100).cells (rmN 100).slots A) (F0 m 264 ls []) := by
          intro S79 hm H locs ls hw hl
          rw [eJ80] at hm
          refine lv_iconst (v := 1) hx hb dX9_asksOf_264 (by decide) ?_
          refine lv_goto (tgt := 269) hx hb dX9_asksOf_265 (by decide) ?_
          exact hJ47 _ _ hm _ _ _ hw (lv_sub hl [0, 1, 2, 3] rfl)
        refine lv_if_eq (tgt := 264) hx hb dX9_asksOf_253 (by decide) (fun c85 => ?_) (fun c85 => ?_)
        · have hm := hm.1 c85
          exact hJ80 _ hm _ _ _ hw (lv_sub hl [2, 3, 1, 0] rfl)
        · have hm := hm.2 c85
          refine lv_aload_n hx hb dX9_asksOf_256 rfl (lv_at hl 2 rfl) ?_
          refine lv_iconst (v := 1) hx hb dX9_asksOf_257 (by decide) ?_
          refine aV_I (As := [.int 1]) (rest := []) hc hw (c_M_testOf 12 _ _ _ hm) lk_X9_248 rfl rfl (rm_ok (by omega) (by omega)) ⟨Nat.le_of_ble_eq_true rfl, Nat.le_of_ble_eq_true rfl⟩ hl.1 rfl (Nat.le_of_ble_eq_true rfl) rfl dX9_asksOf_258 (fun r81 S82 H locs hm hw => ?_)
          have hw : wV D A s.heap (mW cy a S82) H locs := hw
          refine lv_if_eq (tgt := 268) hx hb dX9_asksOf_261 (by decide) (fun c84 => ?_) (fun c84 => ?_)
          · have hm := hm.1 c84
            refine lv_iconst (v := 0) hx hb dX9_asksOf_268 (by decide) ?_
            exact hJ47 _ _ hm _ _ _ hw (lv_sub hl [2, 3, 1, 0] rfl)
          · have hm := hm.2 c84
            exact hJ80 _ hm _ _ _ hw (lv_sub hl [2, 3, 1, 0] rfl)
      refine lv_icmp_ne (tgt := 230) hx hb dX9_asksOf_223 (by decide) (fun c89 => ?_) (fun c89 => ?_)
      · have hm := hm.1 c89
        refine lv_aload_n hx hb dX9_asksOf_230 rfl (lv_at hl 1 rfl) ?_
        refine lv_iconst (v := 1) hx hb dX9_asksOf_231 (by decide) ?_
        refine aV_L (As := [.int 1]) (rest := []) hc hw (c_M_sumOf 12 _ _ _ hm) lk_X9_235 rfl rfl (rm_ok (by omega) (by omega)) ⟨Nat.le_of_ble_eq_true rfl, Nat.le_of_ble_eq_true rfl⟩ hl.1 rfl (Nat.le_of_ble_eq_true rfl) rfl dX9_asksOf_232 (fun r86 S87 H locs hm hw => ?_)
        have hw : wV D A s.heap (mW cy a S87) H locs := hw
        exact hJ39 _ _ hm _ _ _ hw (lv_sub hl [1, 0] rfl)
      · have hm := hm.2 c89
        refine lv_lconst (v := 0) hx hb dX9_asksOf_226 (by decide) ?_
        refine lv_goto (tgt := 235) hx hb dX9_asksOf_227 (by decide) ?_
        exact hJ39 _ _ hm _ _ _ hw (lv_sub hl [1, 0] rfl)
  · have hm := hm.2 c91
    exact retV (u := S5) hc hw hm dX9_asksOf_32
