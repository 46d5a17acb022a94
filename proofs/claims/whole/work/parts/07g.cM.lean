set_option maxHeartbeats 4000000 in
set_option maxRecDepth 100000 in
theorem c_M_claim {l : Launch} {D : va_G} {cy : Nat → ClassId} {a : Nat → Nat} {S : Ob} {x1 : Int32} {x2 : Int32} {x3 : Int32} {Q : Int32 → Ob → Prop} (hm : wM_claim S x1 x2 x3 Q) : CtI l yX9_claim cX9_claim 5 (some .int) (rmN 2) D cy [.ref (a 0), .int x1, .int x2, .int x3] (mW cy a S) (mW cy a) Q := by
  refine CtI.ofW (by decide) (Nat.le_of_ble_eq_true rfl) ?_
  intro p e s m args below meth c A ls hc hnm hw hl
  have hx := hc.1.1
  have hb := hc.1.2.1
  have hown := hc.1.2.2.2.1
  have hts := hc.1.2.2.2.2
  have hl : lv_has ls 5 [(0, .ref (a 0)), (1, .int x1), (2, .int x2), (3, .int x3)] := hl
  obtain ⟨H, hH⟩ : ∃ z, z = s.heap := ⟨_, rfl⟩
  obtain ⟨locs, hLc⟩ : ∃ z : List Loc, z = [] := ⟨_, rfl⟩
  have hw : wV D A s.heap (mW cy a S) H locs := by rw [hH, hLc]; exact hw
  have hgo : W p l e (rmN 2) s m args below meth c H locs 0 0 (MQ below (eI D cy A (mW cy a) Q) args s (rmN 2).cells (rmN 2).slots A) (F0 m 0 ls []) := ?hgo
  · rw [hH, hLc] at hgo; exact hgo
  refine lv_iload_n hx hb dX9_claim_0 rfl (lv_at hl 2 rfl) ?_
  refine lv_iconst (v := 0) hx hb dX9_claim_1 (by decide) ?_
  refine lv_sipush (v := 2000) hx hb dX9_claim_2 (by decide) ?_
  refine zS_I (As := [.int x2, .int 0, .int 2000]) (rest := []) hc hw (c_M_lies hm) lk_X9_94 ⟨Nat.le_of_ble_eq_true rfl, Nat.le_of_ble_eq_true rfl⟩ ⟨Nat.le_of_ble_eq_true rfl, Nat.le_of_ble_eq_true rfl⟩ hl.1 rfl (Nat.le_of_ble_eq_true rfl) rfl dX9_claim_5 (fun r1 H locs hm hw => ?_)
  obtain ⟨J4, eJ4, hm⟩ := jn_e hm
  have hJ4 : ∀ (z3 : Unit) (_ : J4 z3) (H : Heap) (locs : List Loc) (ls : Array Slot), wV D A s.heap (mW cy a S) H locs → lv_has ls 5 [(0, .ref (a 0))] → W p l e (rmN 2) s m args below meth c H locs 0 0 (MQ below (eI D cy A (mW cy a) Q) args s (rmN 2).cells (rmN 2).slots A) (F0 m 20 ls []) := by
    intro z3 hm H locs ls hw hl
    rw [eJ4] at hm
    refine lv_aload_n hx hb dX9_claim_20 rfl (lv_at hl 0 rfl) ?_
    refine lv_iconst (v := (-1)) hx hb dX9_claim_21 (by decide) ?_
    refine aV_I (As := [.int (-1)]) (rest := []) hc hw (c_M_refuses hm) lk_X9_98 rfl rfl ⟨Nat.le_of_ble_eq_true rfl, Nat.le_of_ble_eq_true rfl⟩ ⟨Nat.le_of_ble_eq_true rfl, Nat.le_of_ble_eq_true rfl⟩ hl.1 rfl (Nat.le_of_ble_eq_true rfl) rfl dX9_claim_22 (fun r5 S6 H locs hm hw => ?_)
    have hw : wV D A s.heap (mW cy a S6) H locs := hw
    exact retI (u := S6) hc hw hm dX9_claim_25
  refine lv_if_eq (tgt := 20) hx hb dX9_claim_8 (by decide) (fun c32 => ?_) (fun c32 => ?_)
  · have hm := hm.1 c32
    exact hJ4 _ hm _ _ _ hw (lv_sub hl [0] rfl)
  · have hm := hm.2 c32
    refine lv_iload_n hx hb dX9_claim_11 rfl (lv_at hl 3 rfl) ?_
    refine lv_iconst (v := 0) hx hb dX9_claim_12 (by decide) ?_
    refine lv_iconst (v := 3) hx hb dX9_claim_13 (by decide) ?_
    refine zS_I (As := [.int x3, .int 0, .int 3]) (rest := []) hc hw (c_M_lies hm) lk_X9_94 ⟨Nat.le_of_ble_eq_true rfl, Nat.le_of_ble_eq_true rfl⟩ ⟨Nat.le_of_ble_eq_true rfl, Nat.le_of_ble_eq_true rfl⟩ hl.1 rfl (Nat.le_of_ble_eq_true rfl) rfl dX9_claim_14 (fun r8 H locs hm hw => ?_)
    refine lv_if_ne (tgt := 26) hx hb dX9_claim_17 (by decide) (fun c31 => ?_) (fun c31 => ?_)
    · have hm := hm.1 c31
      refine lv_aload_n hx hb dX9_claim_26 rfl (lv_at hl 0 rfl) ?_
      refine lv_iload_n hx hb dX9_claim_27 rfl (lv_at hl 1 rfl) ?_
      refine aV_I (As := [.int x1]) (rest := []) hc hw (c_M_isTale hm) lk_X9_117 rfl rfl ⟨Nat.le_of_ble_eq_true rfl, Nat.le_of_ble_eq_true rfl⟩ ⟨Nat.le_of_ble_eq_true rfl, Nat.le_of_ble_eq_true rfl⟩ hl.1 rfl (Nat.le_of_ble_eq_true rfl) rfl dX9_claim_28 (fun r10 _ H locs hm hw => ?_)
      have hw : wV D A s.heap (mW cy a S) H locs := hw
      refine lv_if_ne (tgt := 41) hx hb dX9_claim_31 (by decide) (fun c30 => ?_) (fun c30 => ?_)
      · have hm := hm.1 c30
        refine lv_aload_n hx hb dX9_claim_41 rfl (lv_at hl 0 rfl) ?_
        refine gF (k := 3) hc hw inX9 rfl 0 rfl (by decide) (gm 1062 (by decide +kernel) rfl) rfl dX9_claim_42 ?_
        refine lv_sipush (v := 136) hx hb dX9_claim_45 (by decide) ?_
        refine aI hc hw 2 rfl (vin (by decide)) (j := 136) (by decide) dX9_claim_48 ?_
        refine lv_topi (fun v12 e_v12 => ?_)
        have hm := hm v12 e_v12
        refine lv_istore (lv' := [(4, .int v12), (0, .ref (a 0)), (1, .int x1), (2, .int x2), (3, .int x3)]) hx hb dX9_claim_49 hl (by decide) rfl (fun ls hl => ?_)
        refine lv_iload hx hb dX9_claim_51 (lv_at hl 0 rfl) ?_
        refine lv_bipush (v := 10) hx hb dX9_claim_53 (by decide) ?_
        refine lv_icmp_ne (tgt := 65) hx hb dX9_claim_55 (by decide) (fun c26 => ?_) (fun c26 => ?_)
        · have hm := hm.1 c26
          refine lv_aload_n hx hb dX9_claim_65 rfl (lv_at hl 1 rfl) ?_
          refine gF (k := 3) hc hw inX9 rfl 0 rfl (by decide) (gm 1062 (by decide +kernel) rfl) rfl dX9_claim_66 ?_
          refine lv_bipush (v := 103) hx hb dX9_claim_69 (by decide) ?_
          refine lv_iconst (v := 3) hx hb dX9_claim_71 (by decide) ?_
          refine lv_iload hx hb dX9_claim_72 (lv_at hl 0 rfl) ?_
          refine lv_imul hx hb dX9_claim_74 ?_
          refine lv_iadd hx hb dX9_claim_75 ?_
          refine lv_iload_n hx hb dX9_claim_76 rfl (lv_at hl 2 rfl) ?_
          obtain ⟨c13, hm⟩ := hm
          refine sI hc hw 2 rfl c13 rfl dX9_claim_77 (fun H locs hw => ?_)
          obtain ⟨S14, e_S14⟩ : ∃ z : Ob, z = uA S 3 (Int32.toNatClampNeg (103 + (3 * v12))) x1 := ⟨_, rfl⟩
          have hm := hm S14 e_S14
          have hw : wV D A s.heap (mW cy a S14) H locs := by rw [e_S14]; exact hw
          refine lv_aload_n hx hb dX9_claim_78 rfl (lv_at hl 1 rfl) ?_
          refine gF (k := 3) hc hw inX9 rfl 0 rfl (by decide) (gm 1062 (by decide +kernel) rfl) rfl dX9_claim_79 ?_
          refine lv_bipush (v := 103) hx hb dX9_claim_82 (by decide) ?_
          refine lv_iconst (v := 3) hx hb dX9_claim_84 (by decide) ?_
          refine lv_iload hx hb dX9_claim_85 (lv_at hl 0 rfl) ?_
          refine lv_imul hx hb dX9_claim_87 ?_
          refine lv_iadd hx hb dX9_claim_88 ?_
          refine lv_iconst (v := 1) hx hb dX9_claim_89 (by decide) ?_
          refine lv_iadd hx hb dX9_claim_90 ?_
          refine lv_iload_n hx hb dX9_claim_91 rfl (lv_at hl 3 rfl) ?_
          obtain ⟨c15, hm⟩ := hm
          refine sI hc hw 2 rfl c15 rfl dX9_claim_92 (fun H locs hw => ?_)
          obtain ⟨S16, e_S16⟩ : ∃ z : Ob, z = uA S14 3 (Int32.toNatClampNeg ((103 + (3 * v12)) + 1)) x2 := ⟨_, rfl⟩
          have hm := hm S16 e_S16
          have hw : wV D A s.heap (mW cy a S16) H locs := by rw [e_S16]; exact hw
          refine lv_aload_n hx hb dX9_claim_93 rfl (lv_at hl 1 rfl) ?_
          refine gF (k := 3) hc hw inX9 rfl 0 rfl (by decide) (gm 1062 (by decide +kernel) rfl) rfl dX9_claim_94 ?_
          refine lv_bipush (v := 103) hx hb dX9_claim_97 (by decide) ?_
          refine lv_iconst (v := 3) hx hb dX9_claim_99 (by decide) ?_
          refine lv_iload hx hb dX9_claim_100 (lv_at hl 0 rfl) ?_
          refine lv_imul hx hb dX9_claim_102 ?_
          refine lv_iadd hx hb dX9_claim_103 ?_
          refine lv_iconst (v := 2) hx hb dX9_claim_104 (by decide) ?_
          refine lv_iadd hx hb dX9_claim_105 ?_
          refine lv_iload_n hx hb dX9_claim_106 rfl (lv_at hl 4 rfl) ?_
          obtain ⟨c17, hm⟩ := hm
          refine sI hc hw 2 rfl c17 rfl dX9_claim_107 (fun H locs hw => ?_)
          obtain ⟨S18, e_S18⟩ : ∃ z : Ob, z = uA S16 3 (Int32.toNatClampNeg ((103 + (3 * v12)) + 2)) x3 := ⟨_, rfl⟩
          have hm := hm S18 e_S18
          have hw : wV D A s.heap (mW cy a S18) H locs := by rw [e_S18]; exact hw
          refine lv_aload_n hx hb dX9_claim_108 rfl (lv_at hl 1 rfl) ?_
          refine gF (k := 3) hc hw inX9 rfl 0 rfl (by decide) (gm 1062 (by decide +kernel) rfl) rfl dX9_claim_109 ?_
          refine lv_sipush (v := 136) hx hb dX9_claim_112 (by decide) ?_
          refine lv_dup2_11 hx hb dX9_claim_115 rfl rfl ?_
          refine aI hc hw 2 rfl (vin (by decide)) (j := 136) (by decide) dX9_claim_116 ?_
          refine lv_iconst (v := 1) hx hb dX9_claim_117 (by decide) ?_
          refine lv_iadd hx hb dX9_claim_118 ?_
          refine sI hc hw 2 rfl (vin (by decide)) (j := 136) (by decide) dX9_claim_119 (fun H locs hw => ?_)
          obtain ⟨S19, e_S19⟩ : ∃ z : Ob, z = uA S18 3 136 ((S18.2 3 136) + 1) := ⟨_, rfl⟩
          have hm := hm S19 e_S19
          have hw : wV D A s.heap (mW cy a S19) H locs := by rw [e_S19]; exact hw
          refine lv_aload_n hx hb dX9_claim_120 rfl (lv_at hl 1 rfl) ?_
          refine lv_iload hx hb dX9_claim_121 (lv_at hl 0 rfl) ?_
          refine lv_iconst (v := 1) hx hb dX9_claim_123 (by decide) ?_
          refine lv_iadd hx hb dX9_claim_124 ?_
          refine aV_I (As := [.int (v12 + 1)]) (rest := []) hc hw (c_M_good hm) lk_X9_102 rfl rfl ⟨Nat.le_of_ble_eq_true rfl, Nat.le_of_ble_eq_true rfl⟩ ⟨Nat.le_of_ble_eq_true rfl, Nat.le_of_ble_eq_true rfl⟩ hl.1 rfl (Nat.le_of_ble_eq_true rfl) rfl dX9_claim_125 (fun r20 S21 H locs hm hw => ?_)
          have hw : wV D A s.heap (mW cy a S21) H locs := hw
          exact retI (u := S21) hc hw hm dX9_claim_128
        · have hm := hm.2 c26
          refine lv_aload_n hx hb dX9_claim_58 rfl (lv_at hl 1 rfl) ?_
          refine lv_bipush (v := (-5)) hx hb dX9_claim_59 (by decide) ?_
          refine aV_I (As := [.int (-5)]) (rest := []) hc hw (c_M_refuses hm) lk_X9_98 rfl rfl ⟨Nat.le_of_ble_eq_true rfl, Nat.le_of_ble_eq_true rfl⟩ ⟨Nat.le_of_ble_eq_true rfl, Nat.le_of_ble_eq_true rfl⟩ hl.1 rfl (Nat.le_of_ble_eq_true rfl) rfl dX9_claim_61 (fun r23 S24 H locs hm hw => ?_)
          have hw : wV D A s.heap (mW cy a S24) H locs := hw
          exact retI (u := S24) hc hw hm dX9_claim_64
      · have hm := hm.2 c30
        refine lv_aload_n hx hb dX9_claim_34 rfl (lv_at hl 0 rfl) ?_
        refine lv_bipush (v := (-2)) hx hb dX9_claim_35 (by decide) ?_
        refine aV_I (As := [.int (-2)]) (rest := []) hc hw (c_M_refuses hm) lk_X9_98 rfl rfl ⟨Nat.le_of_ble_eq_true rfl, Nat.le_of_ble_eq_true rfl⟩ ⟨Nat.le_of_ble_eq_true rfl, Nat.le_of_ble_eq_true rfl⟩ hl.1 rfl (Nat.le_of_ble_eq_true rfl) rfl dX9_claim_37 (fun r27 S28 H locs hm hw => ?_)
        have hw : wV D A s.heap (mW cy a S28) H locs := hw
        exact retI (u := S28) hc hw hm dX9_claim_40
    · have hm := hm.2 c31
      exact hJ4 _ hm _ _ _ hw (lv_sub hl [0] rfl)
set_option maxHeartbeats 4000000 in
set_option maxRecDepth 100000 in
theorem c_M_clear {l : Launch} {D : va_G} {cy : Nat → ClassId} {a : Nat → Nat} {S : Ob} {Q : Int32 → Ob → Prop} (hm : wM_clear S Q) : CtI l yX9_clear cX9_clear 2 (some .int) (rmN 0) D cy [.ref (a 0)] (mW cy a S) (mW cy a) Q := by
  refine CtI.ofW (by decide) (Nat.le_of_ble_eq_true rfl) ?_
  intro p e s m args below meth c A ls hc hnm hw hl
  have hx := hc.1.1
  have hb := hc.1.2.1
  have hown := hc.1.2.2.2.1
  have hts := hc.1.2.2.2.2
  have hl : lv_has ls 2 [(0, .ref (a 0))] := hl
  obtain ⟨H, hH⟩ : ∃ z, z = s.heap := ⟨_, rfl⟩
  obtain ⟨locs, hLc⟩ : ∃ z : List Loc, z = [] := ⟨_, rfl⟩
  have hw : wV D A s.heap (mW cy a S) H locs := by rw [hH, hLc]; exact hw
  have hgo : W p l e (rmN 0) s m args below meth c H locs 0 0 (MQ below (eI D cy A (mW cy a) Q) args s (rmN 0).cells (rmN 0).slots A) (F0 m 0 ls []) := ?hgo
  · rw [hH, hLc] at hgo; exact hgo
  refine lv_aload_n hx hb dX9_clear_0 rfl (lv_at hl 0 rfl) ?_
  refine gF (k := 3) hc hw inX9 rfl 0 rfl (by decide) (gm 1062 (by decide +kernel) rfl) rfl dX9_clear_1 ?_
  refine lv_sipush (v := 136) hx hb dX9_clear_4 (by decide) ?_
  refine aI hc hw 2 rfl (vin (by decide)) (j := 136) (by decide) dX9_clear_7 ?_
  refine lv_topi (fun v1 e_v1 => ?_)
  have hm := hm v1 e_v1
  refine lv_istore_n (lv' := [(1, .int v1), (0, .ref (a 0))]) hx hb dX9_clear_8 rfl hl (by decide) rfl (fun ls hl => ?_)
  refine lv_aload_n hx hb dX9_clear_9 rfl (lv_at hl 1 rfl) ?_
  refine gF (k := 3) hc hw inX9 rfl 0 rfl (by decide) (gm 1062 (by decide +kernel) rfl) rfl dX9_clear_10 ?_
  refine lv_sipush (v := 136) hx hb dX9_clear_13 (by decide) ?_
  refine lv_iconst (v := 0) hx hb dX9_clear_16 (by decide) ?_
  refine sI hc hw 2 rfl (vin (by decide)) (j := 136) (by decide) dX9_clear_17 (fun H locs hw => ?_)
  obtain ⟨S2, e_S2⟩ : ∃ z : Ob, z = uA S 3 136 0 := ⟨_, rfl⟩
  have hm := hm S2 e_S2
  have hw : wV D A s.heap (mW cy a S2) H locs := by rw [e_S2]; exact hw
  refine lv_aload_n hx hb dX9_clear_18 rfl (lv_at hl 1 rfl) ?_
  refine lv_dup hx hb dX9_clear_19 rfl ?_
  refine gF (k := 1) hc hw inX9 rfl 0 rfl (by decide) (gm 1060 (by decide +kernel) rfl) rfl dX9_clear_20 ?_
  refine lv_iconst (v := 1) hx hb dX9_clear_23 (by decide) ?_
  refine lv_iadd hx hb dX9_clear_24 ?_
  refine pF (k := 1) (ty := .int) hc hw inX9 tyX9_ok nmX9 rfl 0 rfl (by decide) (gm 1060 (by decide +kernel) rfl) rfl (by decide +kernel) rfl rfl (Nat.le_of_ble_eq_true rfl) dX9_clear_25 (fun H locs hw => ?_)
  obtain ⟨S3, e_S3⟩ : ∃ z : Ob, z = uS S2 1 ((S2.1 1) + 1) := ⟨_, rfl⟩
  have hm := hm S3 e_S3
  have hw : wV D A s.heap (mW cy a S3) H locs := by rw [e_S3]; exact hw
  refine lv_iload_n hx hb dX9_clear_28 rfl (lv_at hl 0 rfl) ?_
  exact retI (u := S3) hc hw hm dX9_clear_29
set_option maxHeartbeats 4000000 in
set_option maxRecDepth 100000 in
theorem c_M_wrongBut {l : Launch} {D : va_G} {cy : Nat → ClassId} {a : Nat → Nat} {S : Ob} {x1 : Int32} {Q : Int32 → Prop} (hm : wM_wrongBut S x1 Q) : CtI l yX9_wrongBut cX9_wrongBut 9 (some .int) (rmN 1) D cy [.ref (a 0), .int x1] (mW cy a S) (fun _ : Unit => mW cy a S) (fun (r : Int32) (_ : Unit) => Q r) := by
  refine CtI.ofW (by decide) (Nat.le_of_ble_eq_true rfl) ?_
  intro p e s m args below meth c A ls hc hnm hw hl
  have hx := hc.1.1
  have hb := hc.1.2.1
  have hown := hc.1.2.2.2.1
  have hts := hc.1.2.2.2.2
  have hl : lv_has ls 9 [(0, .ref (a 0)), (1, .int x1)] := hl
  obtain ⟨H, hH⟩ : ∃ z, z = s.heap := ⟨_, rfl⟩
  obtain ⟨locs, hLc⟩ : ∃ z : List Loc, z = [] := ⟨_, rfl⟩
  have hw : wV D A s.heap (mW cy a S) H locs := by rw [hH, hLc]; exact hw
  have hgo : W p l e (rmN 1) s m args below meth c H locs 0 0 (MQ below (eI D cy A (fun _ : Unit => mW cy a S) (fun (r : Int32) (_ : Unit) => Q r)) args s (rmN 1).cells (rmN 1).slots A) (F0 m 0 ls []) := ?hgo
  · rw [hH, hLc] at hgo; exact hgo
  refine lv_iconst (v := 0) hx hb dX9_wrongBut_0 (by decide) ?_
  refine lv_istore_n (lv' := [(2, .int 0), (0, .ref (a 0)), (1, .int x1)]) hx hb dX9_wrongBut_1 rfl hl (by decide) rfl (fun ls hl => ?_)
  refine lv_iconst (v := 4) hx hb dX9_wrongBut_2 (by decide) ?_
  refine lv_istore_n (lv' := [(3, .int 4), (2, .int 0), (0, .ref (a 0)), (1, .int x1)]) hx hb dX9_wrongBut_3 rfl hl (by decide) rfl (fun ls hl => ?_)
  refine lv_ldc (v := 1000000) hx hb hown (hts _ (gm 1281 (by decide +kernel) rfl)) dX9_wrongBut_4 ?_
  refine lv_istore (lv' := [(4, .int 1000000), (3, .int 4), (2, .int 0), (0, .ref (a 0)), (1, .int x1)]) hx hb dX9_wrongBut_6 hl (by decide) rfl (fun ls hl => ?_)
  refine lv_iconst (v := 0) hx hb dX9_wrongBut_8 (by decide) ?_
  refine lv_istore (lv' := [(5, .int 0), (4, .int 1000000), (3, .int 4), (2, .int 0), (0, .ref (a 0)), (1, .int x1)]) hx hb dX9_wrongBut_9 hl (by decide) rfl (fun ls hl => ?_)
  refine wl4_ind (G := fun (x5_1 : Int32) (x4_2 : Int32) (x3_3 : Int32) (x2_4 : Int32) => ∀ (H : Heap) (locs : List Loc) (ls : Array Slot), wV D A s.heap (mW cy a S) H locs → lv_has ls 9 [(5, .int x5_1), (4, .int x4_2), (3, .int x3_3), (2, .int x2_4), (0, .ref (a 0)), (1, .int x1)] → W p l e (rmN 1) s m args below meth c H locs 0 0 (MQ below (eI D cy A (fun _ : Unit => mW cy a S) (fun (r : Int32) (_ : Unit) => Q r)) args s (rmN 1).cells (rmN 1).slots A) (F0 m 11 ls [])) ?_ _ _ _ _ hm H locs ls hw (lv_sub hl [0, 1, 2, 3, 4, 5] rfl)
  intro L5 ih5 x5_1 x4_2 x3_3 x2_4 hm H locs ls hw hl
  refine lv_iload hx hb dX9_wrongBut_11 (lv_at hl 0 rfl) ?_
  refine lv_aload_n hx hb dX9_wrongBut_13 rfl (lv_at hl 4 rfl) ?_
  refine gF (k := 3) hc hw inX9 rfl 0 rfl (by decide) (gm 1062 (by decide +kernel) rfl) rfl dX9_wrongBut_14 ?_
  refine lv_sipush (v := 136) hx hb dX9_wrongBut_17 (by decide) ?_
  refine aI hc hw 2 rfl (vin (by decide)) (j := 136) (by decide) dX9_wrongBut_20 ?_
  refine lv_icmp_ge (tgt := 173) hx hb dX9_wrongBut_21 (by decide) (fun c35 => ?_) (fun c35 => ?_)
  · have hm := hm.1 c35
    refine lv_iconst (v := (-1)) hx hb dX9_wrongBut_173 (by decide) ?_
    exact retI (u := ()) hc hw hm dX9_wrongBut_174
  · have hm := hm.2 c35
    refine lv_iload hx hb dX9_wrongBut_24 (lv_at hl 0 rfl) ?_
    refine lv_iload_n hx hb dX9_wrongBut_26 rfl (lv_at hl 5 rfl) ?_
    refine lv_icmp_ne (tgt := 33) hx hb dX9_wrongBut_27 (by decide) (fun c34 => ?_) (fun c34 => ?_)
    · have hm := hm.1 c34
      refine lv_aload_n hx hb dX9_wrongBut_33 rfl (lv_at hl 4 rfl) ?_
      refine gF (k := 3) hc hw inX9 rfl 0 rfl (by decide) (gm 1062 (by decide +kernel) rfl) rfl dX9_wrongBut_34 ?_
      refine lv_bipush (v := 103) hx hb dX9_wrongBut_37 (by decide) ?_
      refine lv_iconst (v := 3) hx hb dX9_wrongBut_39 (by decide) ?_
      refine lv_iload hx hb dX9_wrongBut_40 (lv_at hl 0 rfl) ?_
      refine lv_imul hx hb dX9_wrongBut_42 ?_
      refine lv_iadd hx hb dX9_wrongBut_43 ?_
      obtain ⟨c6, hm⟩ := hm
      refine aI hc hw 2 rfl c6 rfl dX9_wrongBut_44 ?_
      refine lv_topi (fun v7 e_v7 => ?_)
      have hm := hm v7 e_v7
      refine lv_istore (lv' := [(6, .int v7), (5, .int x5_1), (4, .int x4_2), (3, .int x3_3), (2, .int x2_4), (0, .ref (a 0)), (1, .int x1)]) hx hb dX9_wrongBut_45 hl (by decide) rfl (fun ls hl => ?_)
      refine lv_aload_n hx hb dX9_wrongBut_47 rfl (lv_at hl 5 rfl) ?_
      refine gF (k := 3) hc hw inX9 rfl 0 rfl (by decide) (gm 1062 (by decide +kernel) rfl) rfl dX9_wrongBut_48 ?_
      refine lv_bipush (v := 103) hx hb dX9_wrongBut_51 (by decide) ?_
      refine lv_iconst (v := 3) hx hb dX9_wrongBut_53 (by decide) ?_
      refine lv_iload hx hb dX9_wrongBut_54 (lv_at hl 1 rfl) ?_
      refine lv_imul hx hb dX9_wrongBut_56 ?_
      refine lv_iadd hx hb dX9_wrongBut_57 ?_
      refine lv_iconst (v := 1) hx hb dX9_wrongBut_58 (by decide) ?_
      refine lv_iadd hx hb dX9_wrongBut_59 ?_
      obtain ⟨c8, hm⟩ := hm
      refine aI hc hw 2 rfl c8 rfl dX9_wrongBut_60 ?_
      refine lv_topi (fun v9 e_v9 => ?_)
      have hm := hm v9 e_v9
      refine lv_istore (lv' := [(7, .int v9), (6, .int v7), (5, .int x5_1), (4, .int x4_2), (3, .int x3_3), (2, .int x2_4), (0, .ref (a 0)), (1, .int x1)]) hx hb dX9_wrongBut_61 hl (by decide) rfl (fun ls hl => ?_)
      refine lv_aload_n hx hb dX9_wrongBut_63 rfl (lv_at hl 6 rfl) ?_
      refine gF (k := 3) hc hw inX9 rfl 0 rfl (by decide) (gm 1062 (by decide +kernel) rfl) rfl dX9_wrongBut_64 ?_
      refine lv_bipush (v := 103) hx hb dX9_wrongBut_67 (by decide) ?_
      refine lv_iconst (v := 3) hx hb dX9_wrongBut_69 (by decide) ?_
      refine lv_iload hx hb dX9_wrongBut_70 (lv_at hl 2 rfl) ?_
      refine lv_imul hx hb dX9_wrongBut_72 ?_
      refine lv_iadd hx hb dX9_wrongBut_73 ?_
      refine lv_iconst (v := 2) hx hb dX9_wrongBut_74 (by decide) ?_
      refine lv_iadd hx hb dX9_wrongBut_75 ?_
      obtain ⟨c10, hm⟩ := hm
      refine aI hc hw 2 rfl c10 rfl dX9_wrongBut_76 ?_
      refine lv_topi (fun v11 e_v11 => ?_)
      have hm := hm v11 e_v11
      refine lv_istore (lv' := [(8, .int v11), (7, .int v9), (6, .int v7), (5, .int x5_1), (4, .int x4_2), (3, .int x3_3), (2, .int x2_4), (0, .ref (a 0)), (1, .int x1)]) hx hb dX9_wrongBut_77 hl (by decide) rfl (fun ls hl => ?_)
      refine lv_iload_n hx hb dX9_wrongBut_79 rfl (lv_at hl 6 rfl) ?_
      refine lv_iload hx hb dX9_wrongBut_80 (lv_at hl 2 rfl) ?_
      refine zS_I (As := [.int x2_4, .int v7]) (rest := []) hc hw (c_M_isIn hm) lk_X9_269 ⟨Nat.le_of_ble_eq_true rfl, Nat.le_of_ble_eq_true rfl⟩ ⟨Nat.le_of_ble_eq_true rfl, Nat.le_of_ble_eq_true rfl⟩ hl.1 rfl (Nat.le_of_ble_eq_true rfl) rfl dX9_wrongBut_82 (fun r12 H locs hm hw => ?_)
      refine lv_if_ne (tgt := 150) hx hb dX9_wrongBut_85 (by decide) (fun c32 => ?_) (fun c32 => ?_)
      · have hm := hm.1 c32
        refine lv_iload hx hb dX9_wrongBut_150 (lv_at hl 3 rfl) ?_
        exact retI (u := ()) hc hw hm dX9_wrongBut_152
      · have hm := hm.2 c32
        refine lv_aload_n hx hb dX9_wrongBut_88 rfl (lv_at hl 7 rfl) ?_
        refine gF (k := 28) hc hw inX9 rfl 0 rfl (by decide) (gm 1087 (by decide +kernel) rfl) rfl dX9_wrongBut_89 ?_
        refine lv_iload hx hb dX9_wrongBut_92 (lv_at hl 2 rfl) ?_
        obtain ⟨c14, hm⟩ := hm
        refine aI hc hw 14 rfl c14 rfl dX9_wrongBut_94 ?_
        refine lv_iload hx hb dX9_wrongBut_95 (lv_at hl 0 rfl) ?_
        refine zS_I (As := [.int (S.2 28 (Int32.toNatClampNeg v7)), .int v11]) (rest := []) hc hw (c_M_isIn hm) lk_X9_269 ⟨Nat.le_of_ble_eq_true rfl, Nat.le_of_ble_eq_true rfl⟩ ⟨Nat.le_of_ble_eq_true rfl, Nat.le_of_ble_eq_true rfl⟩ hl.1 rfl (Nat.le_of_ble_eq_true rfl) rfl dX9_wrongBut_97 (fun r15 H locs hm hw => ?_)
        refine lv_if_eq (tgt := 150) hx hb dX9_wrongBut_100 (by decide) (fun c31 => ?_) (fun c31 => ?_)
        · have hm := hm.1 c31
          refine lv_iload hx hb dX9_wrongBut_150 (lv_at hl 3 rfl) ?_
          exact retI (u := ()) hc hw hm dX9_wrongBut_152
        · have hm := hm.2 c31
          refine lv_aload_n hx hb dX9_wrongBut_103 rfl (lv_at hl 7 rfl) ?_
          refine lv_iload_n hx hb dX9_wrongBut_104 rfl (lv_at hl 5 rfl) ?_
          refine lv_iload hx hb dX9_wrongBut_105 (lv_at hl 0 rfl) ?_
          refine aV_I (As := [.int x3_3, .int v11]) (rest := []) hc hw (c_M_mayNext hm) lk_X9_288 rfl rfl ⟨Nat.le_of_ble_eq_true rfl, Nat.le_of_ble_eq_true rfl⟩ ⟨Nat.le_of_ble_eq_true rfl, Nat.le_of_ble_eq_true rfl⟩ hl.1 rfl (Nat.le_of_ble_eq_true rfl) rfl dX9_wrongBut_107 (fun r17 _ H locs hm hw => ?_)
          have hw : wV D A s.heap (mW cy a S) H locs := hw
          refine lv_if_eq (tgt := 150) hx hb dX9_wrongBut_110 (by decide) (fun c30 => ?_) (fun c30 => ?_)
          · have hm := hm.1 c30
            refine lv_iload hx hb dX9_wrongBut_150 (lv_at hl 3 rfl) ?_
            exact retI (u := ()) hc hw hm dX9_wrongBut_152
          · have hm := hm.2 c30
            refine lv_iload hx hb dX9_wrongBut_113 (lv_at hl 1 rfl) ?_
            refine lv_aload_n hx hb dX9_wrongBut_115 rfl (lv_at hl 7 rfl) ?_
            refine lv_iload hx hb dX9_wrongBut_116 (lv_at hl 2 rfl) ?_
            refine lv_iconst (v := 0) hx hb dX9_wrongBut_118 (by decide) ?_
            refine aV_I (As := [.int v7, .int 0]) (rest := [.int v9]) hc hw (c_M_factOf hm) lk_X9_121 rfl rfl ⟨Nat.le_of_ble_eq_true rfl, Nat.le_of_ble_eq_true rfl⟩ ⟨Nat.le_of_ble_eq_true rfl, Nat.le_of_ble_eq_true rfl⟩ hl.1 rfl (Nat.le_of_ble_eq_true rfl) rfl dX9_wrongBut_119 (fun r19 _ H locs hm hw => ?_)
            have hw : wV D A s.heap (mW cy a S) H locs := hw
            refine lv_aload_n hx hb dX9_wrongBut_122 rfl (lv_at hl 7 rfl) ?_
            refine lv_iload hx hb dX9_wrongBut_123 (lv_at hl 2 rfl) ?_
            refine lv_iconst (v := 1) hx hb dX9_wrongBut_125 (by decide) ?_
            refine aV_I (As := [.int v7, .int 1]) (rest := [.int r19, .int v9]) hc hw (c_M_factOf hm) lk_X9_121 rfl rfl ⟨Nat.le_of_ble_eq_true rfl, Nat.le_of_ble_eq_true rfl⟩ ⟨Nat.le_of_ble_eq_true rfl, Nat.le_of_ble_eq_true rfl⟩ hl.1 rfl (Nat.le_of_ble_eq_true rfl) rfl dX9_wrongBut_126 (fun r21 _ H locs hm hw => ?_)
            have hw : wV D A s.heap (mW cy a S) H locs := hw
            refine zS_I (As := [.int v9, .int r19, .int r21]) (rest := []) hc hw (c_M_lies hm) lk_X9_94 ⟨Nat.le_of_ble_eq_true rfl, Nat.le_of_ble_eq_true rfl⟩ ⟨Nat.le_of_ble_eq_true rfl, Nat.le_of_ble_eq_true rfl⟩ hl.1 rfl (Nat.le_of_ble_eq_true rfl) rfl dX9_wrongBut_129 (fun r23 H locs hm hw => ?_)
            refine lv_if_eq (tgt := 150) hx hb dX9_wrongBut_132 (by decide) (fun c29 => ?_) (fun c29 => ?_)
            · have hm := hm.1 c29
              refine lv_iload hx hb dX9_wrongBut_150 (lv_at hl 3 rfl) ?_
              exact retI (u := ()) hc hw hm dX9_wrongBut_152
            · have hm := hm.2 c29
              refine lv_iload hx hb dX9_wrongBut_135 (lv_at hl 1 rfl) ?_
              refine lv_iload hx hb dX9_wrongBut_137 (lv_at hl 4 rfl) ?_
              refine lv_aload_n hx hb dX9_wrongBut_139 rfl (lv_at hl 7 rfl) ?_
              refine gF (k := 27) hc hw inX9 rfl 0 rfl (by decide) (gm 1086 (by decide +kernel) rfl) rfl dX9_wrongBut_140 ?_
              refine lv_iload hx hb dX9_wrongBut_143 (lv_at hl 2 rfl) ?_
              obtain ⟨c25, hm⟩ := hm
              refine aI hc hw 13 rfl c25 rfl dX9_wrongBut_145 ?_
              refine lv_isub hx hb dX9_wrongBut_146 ?_
              refine lv_icmp_le (tgt := 153) hx hb dX9_wrongBut_147 (by decide) (fun c28 => ?_) (fun c28 => ?_)
              · have hm := hm.1 c28
                refine lv_iload_n hx hb dX9_wrongBut_153 rfl (lv_at hl 6 rfl) ?_
                refine lv_iconst (v := 1) hx hb dX9_wrongBut_154 (by decide) ?_
                refine lv_iload hx hb dX9_wrongBut_155 (lv_at hl 2 rfl) ?_
                refine lv_ishl hx hb dX9_wrongBut_157 ?_
                refine lv_ior hx hb dX9_wrongBut_158 ?_
                refine lv_topi (fun v26 e_v26 => ?_)
                have hm := hm v26 e_v26
                refine lv_istore_n (lv' := [(2, .int v26), (8, .int v11), (7, .int v9), (6, .int v7), (5, .int x5_1), (4, .int x4_2), (3, .int x3_3), (0, .ref (a 0)), (1, .int x1)]) hx hb dX9_wrongBut_159 rfl hl (by decide) rfl (fun ls hl => ?_)
                refine lv_iload hx hb dX9_wrongBut_160 (lv_at hl 1 rfl) ?_
                refine lv_istore_n (lv' := [(3, .int v11), (2, .int v26), (8, .int v11), (7, .int v9), (6, .int v7), (5, .int x5_1), (4, .int x4_2), (0, .ref (a 0)), (1, .int x1)]) hx hb dX9_wrongBut_162 rfl hl (by decide) rfl (fun ls hl => ?_)
                refine lv_iload hx hb dX9_wrongBut_163 (lv_at hl 3 rfl) ?_
                refine lv_istore (lv' := [(4, .int v9), (3, .int v11), (2, .int v26), (8, .int v11), (7, .int v9), (6, .int v7), (5, .int x5_1), (0, .ref (a 0)), (1, .int x1)]) hx hb dX9_wrongBut_165 hl (by decide) rfl (fun ls hl => ?_)
                obtain ⟨v27, e_v27⟩ : ∃ z : Int32, z = x5_1 + 1 := ⟨_, rfl⟩
                have hm := hm v27 e_v27
                refine lv_iinc (v := v27) (lv' := [(5, .int v27), (4, .int v9), (3, .int v11), (2, .int v26), (8, .int v11), (7, .int v9), (6, .int v7), (0, .ref (a 0)), (1, .int x1)]) hx hb dX9_wrongBut_167 hl (k := 6) rfl (by rw [e_v27]; rfl) (by decide) rfl (fun ls hl => ?_)
                refine lv_goto (tgt := 11) hx hb dX9_wrongBut_170 (by decide) ?_
                exact ih5 _ _ _ _ hm _ _ _ hw (lv_sub hl [0, 1, 2, 3, 7, 8] rfl)
              · have hm := hm.2 c28
                refine lv_iload hx hb dX9_wrongBut_150 (lv_at hl 3 rfl) ?_
                exact retI (u := ()) hc hw hm dX9_wrongBut_152
    · have hm := hm.2 c34
      refine lv_goto (tgt := 167) hx hb dX9_wrongBut_30 (by decide) ?_
      obtain ⟨v33, e_v33⟩ : ∃ z : Int32, z = x5_1 + 1 := ⟨_, rfl⟩
      have hm := hm v33 e_v33
      refine lv_iinc (v := v33) (lv' := [(5, .int v33), (4, .int x4_2), (3, .int x3_3), (2, .int x2_4), (0, .ref (a 0)), (1, .int x1)]) hx hb dX9_wrongBut_167 hl (k := 0) rfl (by rw [e_v33]; rfl) (by decide) rfl (fun ls hl => ?_)
      refine lv_goto (tgt := 11) hx hb dX9_wrongBut_170 (by decide) ?_
      exact ih5 _ _ _ _ hm _ _ _ hw (lv_sub hl [0, 1, 2, 3, 4, 5] rfl)
set_option maxHeartbeats 4000000 in
set_option maxRecDepth 100000 in
theorem c_M_wrong {l : Launch} {D : va_G} {cy : Nat → ClassId} {a : Nat → Nat} {S : Ob} {Q : Int32 → Ob → Prop} (hm : wM_wrong S Q) : CtI l yX9_wrong cX9_wrong 1 (some .int) (rmN 103) D cy [.ref (a 0)] (mW cy a S) (mW cy a) Q := by
  refine CtI.ofW (by decide) (Nat.le_of_ble_eq_true rfl) ?_
  intro p e s m args below meth c A ls hc hnm hw hl
  have hx := hc.1.1
  have hb := hc.1.2.1
  have hown := hc.1.2.2.2.1
  have hts := hc.1.2.2.2.2
  have hl : lv_has ls 1 [(0, .ref (a 0))] := hl
  obtain ⟨H, hH⟩ : ∃ z, z = s.heap := ⟨_, rfl⟩
  obtain ⟨locs, hLc⟩ : ∃ z : List Loc, z = [] := ⟨_, rfl⟩
  have hw : wV D A s.heap (mW cy a S) H locs := by rw [hH, hLc]; exact hw
  have hgo : W p l e (rmN 103) s m args below meth c H locs 0 0 (MQ below (eI D cy A (mW cy a) Q) args s (rmN 103).cells (rmN 103).slots A) (F0 m 0 ls []) := ?hgo
  · rw [hH, hLc] at hgo; exact hgo
  refine lv_aload_n hx hb dX9_wrong_0 rfl (lv_at hl 0 rfl) ?_
  refine aV_V (As := []) (rest := []) hc hw (c_M_looks hm) lk_X9_279 rfl rfl ⟨Nat.le_of_ble_eq_true rfl, Nat.le_of_ble_eq_true rfl⟩ ⟨Nat.le_of_ble_eq_true rfl, Nat.le_of_ble_eq_true rfl⟩ hl.1 rfl (Nat.le_of_ble_eq_true rfl) rfl dX9_wrong_1 (fun S1 H locs hm hw => ?_)
  have hw : wV D A s.heap (mW cy a S1) H locs := hw
  refine lv_aload_n hx hb dX9_wrong_4 rfl (lv_at hl 0 rfl) ?_
  refine lv_iconst (v := (-1)) hx hb dX9_wrong_5 (by decide) ?_
  refine aV_I (As := [.int (-1)]) (rest := []) hc hw (c_M_wrongBut hm) lk_X9_363 rfl rfl ⟨Nat.le_of_ble_eq_true rfl, Nat.le_of_ble_eq_true rfl⟩ ⟨Nat.le_of_ble_eq_true rfl, Nat.le_of_ble_eq_true rfl⟩ hl.1 rfl (Nat.le_of_ble_eq_true rfl) rfl dX9_wrong_6 (fun r3 _ H locs hm hw => ?_)
  have hw : wV D A s.heap (mW cy a S1) H locs := hw
  exact retI (u := S1) hc hw hm dX9_wrong_9
set_option maxHeartbeats 4000000 in
set_option maxRecDepth 100000 in
theorem c_M_liars {l : Launch} {D : va_G} {cy : Nat → ClassId} {a : Nat → Nat} {S : Ob} {Q : Int32 → Ob → Prop} (hm : wM_liars S Q) : CtI l yX9_liars cX9_liars 3 (some .int) (rmN 103) D cy [.ref (a 0)] (mW cy a S) (mW cy a) Q := by
  refine CtI.ofW (by decide) (Nat.le_of_ble_eq_true rfl) ?_
  intro p e s m args below meth c A ls hc hnm hw hl
  have hx := hc.1.1
  have hb := hc.1.2.1
  have hown := hc.1.2.2.2.1
  have hts := hc.1.2.2.2.2
  have hl : lv_has ls 3 [(0, .ref (a 0))] := hl
  obtain ⟨H, hH⟩ : ∃ z, z = s.heap := ⟨_, rfl⟩
  obtain ⟨locs, hLc⟩ : ∃ z : List Loc, z = [] := ⟨_, rfl⟩
  have hw : wV D A s.heap (mW cy a S) H locs := by rw [hH, hLc]; exact hw
  have hgo : W p l e (rmN 103) s m args below meth c H locs 0 0 (MQ below (eI D cy A (mW cy a) Q) args s (rmN 103).cells (rmN 103).slots A) (F0 m 0 ls []) := ?hgo
  · rw [hH, hLc] at hgo; exact hgo
  refine lv_aload_n hx hb dX9_liars_0 rfl (lv_at hl 0 rfl) ?_
  refine aV_V (As := []) (rest := []) hc hw (c_M_looks hm) lk_X9_279 rfl rfl ⟨Nat.le_of_ble_eq_true rfl, Nat.le_of_ble_eq_true rfl⟩ ⟨Nat.le_of_ble_eq_true rfl, Nat.le_of_ble_eq_true rfl⟩ hl.1 rfl (Nat.le_of_ble_eq_true rfl) rfl dX9_liars_1 (fun S1 H locs hm hw => ?_)
  have hw : wV D A s.heap (mW cy a S1) H locs := hw
  refine lv_iconst (v := 0) hx hb dX9_liars_4 (by decide) ?_
  refine lv_istore_n (lv' := [(1, .int 0), (0, .ref (a 0))]) hx hb dX9_liars_5 rfl hl (by decide) rfl (fun ls hl => ?_)
  refine lv_iconst (v := 0) hx hb dX9_liars_6 (by decide) ?_
  refine lv_istore_n (lv' := [(2, .int 0), (1, .int 0), (0, .ref (a 0))]) hx hb dX9_liars_7 rfl hl (by decide) rfl (fun ls hl => ?_)
  refine wl2_ind (G := fun (x2_3 : Int32) (x1_4 : Int32) => ∀ (H : Heap) (locs : List Loc) (ls : Array Slot), wV D A s.heap (mW cy a S1) H locs → lv_has ls 3 [(2, .int x2_3), (1, .int x1_4), (0, .ref (a 0))] → W p l e (rmN 103) s m args below meth c H locs 0 0 (MQ below (eI D cy A (mW cy a) Q) args s (rmN 103).cells (rmN 103).slots A) (F0 m 8 ls [])) ?_ _ _ hm H locs ls hw (lv_sub hl [0, 1, 2] rfl)
  intro L5 ih5 x2_3 x1_4 hm H locs ls hw hl
  refine lv_iload_n hx hb dX9_liars_8 rfl (lv_at hl 0 rfl) ?_
  refine lv_aload_n hx hb dX9_liars_9 rfl (lv_at hl 2 rfl) ?_
  refine gF (k := 3) hc hw inX9 rfl 0 rfl (by decide) (gm 1062 (by decide +kernel) rfl) rfl dX9_liars_10 ?_
  refine lv_sipush (v := 136) hx hb dX9_liars_13 (by decide) ?_
  refine aI hc hw 2 rfl (vin (by decide)) (j := 136) (by decide) dX9_liars_16 ?_
  refine lv_icmp_ge (tgt := 45) hx hb dX9_liars_17 (by decide) (fun c13 => ?_) (fun c13 => ?_)
  · have hm := hm.1 c13
    refine lv_iload_n hx hb dX9_liars_45 rfl (lv_at hl 1 rfl) ?_
    exact retI (u := S1) hc hw hm dX9_liars_46
  · have hm := hm.2 c13
    refine lv_iload_n hx hb dX9_liars_20 rfl (lv_at hl 1 rfl) ?_
    refine lv_aload_n hx hb dX9_liars_21 rfl (lv_at hl 2 rfl) ?_
    refine lv_iload_n hx hb dX9_liars_22 rfl (lv_at hl 0 rfl) ?_
    refine aV_I (As := [.int x2_3]) (rest := [.int x1_4]) hc hw (c_M_wrongBut hm) lk_X9_363 rfl rfl ⟨Nat.le_of_ble_eq_true rfl, Nat.le_of_ble_eq_true rfl⟩ ⟨Nat.le_of_ble_eq_true rfl, Nat.le_of_ble_eq_true rfl⟩ hl.1 rfl (Nat.le_of_ble_eq_true rfl) rfl dX9_liars_23 (fun r6 _ H locs hm hw => ?_)
    have hw : wV D A s.heap (mW cy a S1) H locs := hw
    refine lv_iconst (v := (-1)) hx hb dX9_liars_26 (by decide) ?_
    refine lv_icmp_ne (tgt := 36) hx hb dX9_liars_27 (by decide) (fun c12 => ?_) (fun c12 => ?_)
    · have hm := hm.1 c12
      refine lv_iconst (v := 0) hx hb dX9_liars_36 (by decide) ?_
      refine lv_ior hx hb dX9_liars_37 ?_
      refine lv_topi (fun v8 e_v8 => ?_)
      have hm := hm v8 e_v8
      refine lv_istore_n (lv' := [(1, .int v8), (2, .int x2_3), (0, .ref (a 0))]) hx hb dX9_liars_38 rfl hl (by decide) rfl (fun ls hl => ?_)
      obtain ⟨v9, e_v9⟩ : ∃ z : Int32, z = x2_3 + 1 := ⟨_, rfl⟩
      have hm := hm v9 e_v9
      refine lv_iinc (v := v9) (lv' := [(2, .int v9), (1, .int v8), (0, .ref (a 0))]) hx hb dX9_liars_39 hl (k := 1) rfl (by rw [e_v9]; rfl) (by decide) rfl (fun ls hl => ?_)
      refine lv_goto (tgt := 8) hx hb dX9_liars_42 (by decide) ?_
      exact ih5 _ _ hm _ _ _ hw (lv_sub hl [0, 1, 2] rfl)
    · have hm := hm.2 c12
      refine lv_iconst (v := 1) hx hb dX9_liars_30 (by decide) ?_
      refine lv_iload_n hx hb dX9_liars_31 rfl (lv_at hl 0 rfl) ?_
      refine lv_ishl hx hb dX9_liars_32 ?_
      refine lv_goto (tgt := 37) hx hb dX9_liars_33 (by decide) ?_
      refine lv_ior hx hb dX9_liars_37 ?_
      refine lv_topi (fun v10 e_v10 => ?_)
      have hm := hm v10 e_v10
      refine lv_istore_n (lv' := [(1, .int v10), (2, .int x2_3), (0, .ref (a 0))]) hx hb dX9_liars_38 rfl hl (by decide) rfl (fun ls hl => ?_)
      obtain ⟨v11, e_v11⟩ : ∃ z : Int32, z = x2_3 + 1 := ⟨_, rfl⟩
      have hm := hm v11 e_v11
      refine lv_iinc (v := v11) (lv' := [(2, .int v11), (1, .int v10), (0, .ref (a 0))]) hx hb dX9_liars_39 hl (k := 1) rfl (by rw [e_v11]; rfl) (by decide) rfl (fun ls hl => ?_)
      refine lv_goto (tgt := 8) hx hb dX9_liars_42 (by decide) ?_
      exact ih5 _ _ hm _ _ _ hw (lv_sub hl [0, 1, 2] rfl)
set_option maxHeartbeats 4000000 in
set_option maxRecDepth 100000 in
theorem c_M_draws {l : Launch} {D : va_G} {cy : Nat → ClassId} {a : Nat → Nat} {S : Ob} {x1 : Int32} {Q : Int32 → Ob → Prop} (hm : wM_draws S x1 Q) : CtI l yX9_draws cX9_draws 2 (some .int) (rmN 0) D cy [.ref (a 0), .int x1] (mW cy a S) (mW cy a) Q := by
  refine CtI.ofW (by decide) (Nat.le_of_ble_eq_true rfl) ?_
  intro p e s m args below meth c A ls hc hnm hw hl
  have hx := hc.1.1
  have hb := hc.1.2.1
  have hown := hc.1.2.2.2.1
  have hts := hc.1.2.2.2.2
  have hl : lv_has ls 2 [(0, .ref (a 0)), (1, .int x1)] := hl
  obtain ⟨H, hH⟩ : ∃ z, z = s.heap := ⟨_, rfl⟩
  obtain ⟨locs, hLc⟩ : ∃ z : List Loc, z = [] := ⟨_, rfl⟩
  have hw : wV D A s.heap (mW cy a S) H locs := by rw [hH, hLc]; exact hw
  have hgo : W p l e (rmN 0) s m args below meth c H locs 0 0 (MQ below (eI D cy A (mW cy a) Q) args s (rmN 0).cells (rmN 0).slots A) (F0 m 0 ls []) := ?hgo
  · rw [hH, hLc] at hgo; exact hgo
  refine lv_aload_n hx hb dX9_draws_0 rfl (lv_at hl 0 rfl) ?_
  refine lv_ldc2 (v := 1103) hx hb hown (hts _ (gm 1596 (by decide +kernel) rfl)) dX9_draws_1 ?_
  refine lv_aload_n hx hb dX9_draws_4 rfl (lv_at hl 0 rfl) ?_
  refine gF (k := 42) hc hw inX9 rfl 0 rfl (by decide) (gm 1101 (by decide +kernel) rfl) rfl dX9_draws_5 ?_
  refine lv_i2l hx hb dX9_draws_8 rfl ?_
  refine lv_lmul hx hb dX9_draws_9 ?_
  refine lv_ldc2 (v := 12345) hx hb hown (hts _ (gm 1597 (by decide +kernel) rfl)) dX9_draws_10 ?_
  refine lv_ladd hx hb dX9_draws_13 ?_
  refine lv_ldc2 (v := 1000003) hx hb hown (hts _ (gm 1598 (by decide +kernel) rfl)) dX9_draws_14 ?_
  refine lv_lrem hx hb dX9_draws_17 (by decide) ?_
  refine lv_l2i hx hb dX9_draws_18 rfl ?_
  refine pF (k := 42) (ty := .int) hc hw inX9 tyX9_ok nmX9 rfl 0 rfl (by decide) (gm 1101 (by decide +kernel) rfl) rfl (by decide +kernel) rfl rfl (Nat.le_of_ble_eq_true rfl) dX9_draws_19 (fun H locs hw => ?_)
  obtain ⟨S1, e_S1⟩ : ∃ z : Ob, z = uS S 42 (Int64.toInt32 (((1103 * (Int32.toInt64 (S.1 42))) + 12345) - ((1103 * (Int32.toInt64 (S.1 42))) + 12345) / 1000003 * 1000003)) := ⟨_, rfl⟩
  have hm := hm S1 e_S1
  have hw : wV D A s.heap (mW cy a S1) H locs := by rw [e_S1]; exact hw
  refine lv_aload_n hx hb dX9_draws_22 rfl (lv_at hl 0 rfl) ?_
  refine gF (k := 42) hc hw inX9 rfl 0 rfl (by decide) (gm 1101 (by decide +kernel) rfl) rfl dX9_draws_23 ?_
  refine lv_iload_n hx hb dX9_draws_26 rfl (lv_at hl 1 rfl) ?_
  obtain ⟨c2, hm⟩ := hm
  refine lv_irem hx hb dX9_draws_27 c2 ?_
  exact retI (u := S1) hc hw hm dX9_draws_28
set_option maxHeartbeats 4000000 in
set_option maxRecDepth 100000 in
theorem c_M_draw {l : Launch} {D : va_G} {cy : Nat → ClassId} {a : Nat → Nat} {S : Ob} {x1 : Int32} {Q : Int32 → Ob → Prop} (hm : wM_draw S x1 Q) : CtI l yX9_draw cX9_draw 9 (some .int) (rmN 103) D cy [.ref (a 0), .int x1] (mW cy a S) (mW cy a) Q := by
  refine CtI.ofW (by decide) (Nat.le_of_ble_eq_true rfl) ?_
  intro p e s m args below meth c A ls hc hnm hw hl
  have hx := hc.1.1
  have hb := hc.1.2.1
  have hown := hc.1.2.2.2.1
  have hts := hc.1.2.2.2.2
  have hl : lv_has ls 9 [(0, .ref (a 0)), (1, .int x1)] := hl
  obtain ⟨H, hH⟩ : ∃ z, z = s.heap := ⟨_, rfl⟩
  obtain ⟨locs, hLc⟩ : ∃ z : List Loc, z = [] := ⟨_, rfl⟩
  have hw : wV D A s.heap (mW cy a S) H locs := by rw [hH, hLc]; exact hw
  have hgo : W p l e (rmN 103) s m args below meth c H locs 0 0 (MQ below (eI D cy A (mW cy a) Q) args s (rmN 103).cells (rmN 103).slots A) (F0 m 0 ls []) := ?hgo
  · rw [hH, hLc] at hgo; exact hgo
  refine lv_iload_n hx hb dX9_draw_0 rfl (lv_at hl 1 rfl) ?_
  refine lv_iconst (v := 0) hx hb dX9_draw_1 (by decide) ?_
  refine lv_ldc (v := 1000000) hx hb hown (hts _ (gm 1281 (by decide +kernel) rfl)) dX9_draw_2 ?_
  refine zS_I (As := [.int x1, .int 0, .int 1000000]) (rest := []) hc hw (c_M_lies hm) lk_X9_94 ⟨Nat.le_of_ble_eq_true rfl, Nat.le_of_ble_eq_true rfl⟩ ⟨Nat.le_of_ble_eq_true rfl, Nat.le_of_ble_eq_true rfl⟩ hl.1 rfl (Nat.le_of_ble_eq_true rfl) rfl dX9_draw_4 (fun r1 H locs hm hw => ?_)
  refine lv_if_ne (tgt := 16) hx hb dX9_draw_7 (by decide) (fun c73 => ?_) (fun c73 => ?_)
  · have hm := hm.1 c73
    refine lv_aload_n hx hb dX9_draw_16 rfl (lv_at hl 0 rfl) ?_
    refine aV_V (As := []) (rest := []) hc hw (c_M_looks hm) lk_X9_279 rfl rfl ⟨Nat.le_of_ble_eq_true rfl, Nat.le_of_ble_eq_true rfl⟩ ⟨Nat.le_of_ble_eq_true rfl, Nat.le_of_ble_eq_true rfl⟩ hl.1 rfl (Nat.le_of_ble_eq_true rfl) rfl dX9_draw_17 (fun S3 H locs hm hw => ?_)
    have hw : wV D A s.heap (mW cy a S3) H locs := hw
    refine lv_aload_n hx hb dX9_draw_20 rfl (lv_at hl 0 rfl) ?_
    refine lv_iload_n hx hb dX9_draw_21 rfl (lv_at hl 1 rfl) ?_
    refine pF (k := 42) (ty := .int) hc hw inX9 tyX9_ok nmX9 rfl 0 rfl (by decide) (gm 1101 (by decide +kernel) rfl) rfl (by decide +kernel) rfl rfl (Nat.le_of_ble_eq_true rfl) dX9_draw_22 (fun H locs hw => ?_)
    obtain ⟨S5, e_S5⟩ : ∃ z : Ob, z = uS S3 42 x1 := ⟨_, rfl⟩
    have hm := hm S5 e_S5
    have hw : wV D A s.heap (mW cy a S5) H locs := by rw [e_S5]; exact hw
    refine lv_aload_n hx hb dX9_draw_25 rfl (lv_at hl 0 rfl) ?_
    refine lv_iconst (v := 0) hx hb dX9_draw_26 (by decide) ?_
    refine pF (k := 41) (ty := .int) hc hw inX9 tyX9_ok nmX9 rfl 0 rfl (by decide) (gm 1100 (by decide +kernel) rfl) rfl (by decide +kernel) rfl rfl (Nat.le_of_ble_eq_true rfl) dX9_draw_27 (fun H locs hw => ?_)
    obtain ⟨S6, e_S6⟩ : ∃ z : Ob, z = uS S5 41 0 := ⟨_, rfl⟩
    have hm := hm S6 e_S6
    have hw : wV D A s.heap (mW cy a S6) H locs := by rw [e_S6]; exact hw
    refine lv_aload_n hx hb dX9_draw_30 rfl (lv_at hl 0 rfl) ?_
    refine aV_I (As := []) (rest := []) hc hw (c_M_toldSet hm) lk_X9_303 rfl rfl ⟨Nat.le_of_ble_eq_true rfl, Nat.le_of_ble_eq_true rfl⟩ ⟨Nat.le_of_ble_eq_true rfl, Nat.le_of_ble_eq_true rfl⟩ hl.1 rfl (Nat.le_of_ble_eq_true rfl) rfl dX9_draw_31 (fun r7 _ H locs hm hw => ?_)
    have hw : wV D A s.heap (mW cy a S6) H locs := hw
    refine lv_istore_n (lv' := [(2, .int r7), (0, .ref (a 0)), (1, .int x1)]) hx hb dX9_draw_34 rfl hl (by decide) rfl (fun ls hl => ?_)
    refine lv_aload_n hx hb dX9_draw_35 rfl (lv_at hl 1 rfl) ?_
    refine aV_I (As := []) (rest := []) hc hw (c_M_lastYear hm) lk_X9_306 rfl rfl ⟨Nat.le_of_ble_eq_true rfl, Nat.le_of_ble_eq_true rfl⟩ ⟨Nat.le_of_ble_eq_true rfl, Nat.le_of_ble_eq_true rfl⟩ hl.1 rfl (Nat.le_of_ble_eq_true rfl) rfl dX9_draw_36 (fun r9 _ H locs hm hw => ?_)
    have hw : wV D A s.heap (mW cy a S6) H locs := hw
    refine lv_istore_n (lv' := [(3, .int r9), (2, .int r7), (0, .ref (a 0)), (1, .int x1)]) hx hb dX9_draw_39 rfl hl (by decide) rfl (fun ls hl => ?_)
    refine lv_aload_n hx hb dX9_draw_40 rfl (lv_at hl 2 rfl) ?_
    refine aV_I (As := []) (rest := []) hc hw (c_M_lastTeller hm) lk_X9_309 rfl rfl ⟨Nat.le_of_ble_eq_true rfl, Nat.le_of_ble_eq_true rfl⟩ ⟨Nat.le_of_ble_eq_true rfl, Nat.le_of_ble_eq_true rfl⟩ hl.1 rfl (Nat.le_of_ble_eq_true rfl) rfl dX9_draw_41 (fun r11 _ H locs hm hw => ?_)
    have hw : wV D A s.heap (mW cy a S6) H locs := hw
    refine lv_istore (lv' := [(4, .int r11), (3, .int r9), (2, .int r7), (0, .ref (a 0)), (1, .int x1)]) hx hb dX9_draw_44 hl (by decide) rfl (fun ls hl => ?_)
    refine lv_iconst (v := 1) hx hb dX9_draw_46 (by decide) ?_
    refine lv_istore (lv' := [(5, .int 1), (4, .int r11), (3, .int r9), (2, .int r7), (0, .ref (a 0)), (1, .int x1)]) hx hb dX9_draw_47 hl (by decide) rfl (fun ls hl => ?_)
    refine wl5_ind (G := fun (x5_13 : Int32) (x4_14 : Int32) (x3_15 : Int32) (x2_16 : Int32) (S17 : Ob) => ∀ (H : Heap) (locs : List Loc) (ls : Array Slot), wV D A s.heap (mW cy a S17) H locs → lv_has ls 9 [(5, .int x5_13), (4, .int x4_14), (3, .int x3_15), (2, .int x2_16), (0, .ref (a 0))] → W p l e (rmN 103) s m args below meth c H locs 0 0 (MQ below (eI D cy A (mW cy a) Q) args s (rmN 103).cells (rmN 103).slots A) (F0 m 49 ls [])) ?_ _ _ _ _ _ hm H locs ls hw (lv_sub hl [0, 1, 2, 3, 4] rfl)
    intro L18 ih18 x5_13 x4_14 x3_15 x2_16 S17 hm H locs ls hw hl
    refine lv_iload hx hb dX9_draw_49 (lv_at hl 0 rfl) ?_
    refine lv_if_eq (tgt := 278) hx hb dX9_draw_51 (by decide) (fun c69 => ?_) (fun c69 => ?_)
    · have hm := hm.1 c69
      refine lv_aload_n hx hb dX9_draw_278 rfl (lv_at hl 4 rfl) ?_
      refine lv_aload_n hx hb dX9_draw_279 rfl (lv_at hl 4 rfl) ?_
      refine gF (k := 41) hc hw inX9 rfl 0 rfl (by decide) (gm 1100 (by decide +kernel) rfl) rfl dX9_draw_280 ?_
      refine aV_I (As := [.int (S17.1 41)]) (rest := []) hc hw (c_M_good hm) lk_X9_102 rfl rfl ⟨Nat.le_of_ble_eq_true rfl, Nat.le_of_ble_eq_true rfl⟩ ⟨Nat.le_of_ble_eq_true rfl, Nat.le_of_ble_eq_true rfl⟩ hl.1 rfl (Nat.le_of_ble_eq_true rfl) rfl dX9_draw_283 (fun r19 S20 H locs hm hw => ?_)
      have hw : wV D A s.heap (mW cy a S20) H locs := hw
      exact retI (u := S20) hc hw hm dX9_draw_286
    · have hm := hm.2 c69
      refine lv_iconst (v := 0) hx hb dX9_draw_54 (by decide) ?_
      refine lv_istore (lv' := [(6, .int 0), (5, .int x5_13), (4, .int x4_14), (3, .int x3_15), (2, .int x2_16), (0, .ref (a 0))]) hx hb dX9_draw_55 hl (by decide) rfl (fun ls hl => ?_)
      refine lv_iconst (v := 0) hx hb dX9_draw_57 (by decide) ?_
      refine lv_istore (lv' := [(7, .int 0), (6, .int 0), (5, .int x5_13), (4, .int x4_14), (3, .int x3_15), (2, .int x2_16), (0, .ref (a 0))]) hx hb dX9_draw_58 hl (by decide) rfl (fun ls hl => ?_)
      refine wl2_ind (G := fun (x7_22 : Int32) (x6_23 : Int32) => ∀ (H : Heap) (locs : List Loc) (ls : Array Slot), wV D A s.heap (mW cy a S17) H locs → lv_has ls 9 [(7, .int x7_22), (6, .int x6_23), (4, .int x4_14), (3, .int x3_15), (2, .int x2_16), (0, .ref (a 0))] → W p l e (rmN 103) s m args below meth c H locs 0 0 (MQ below (eI D cy A (mW cy a) Q) args s (rmN 103).cells (rmN 103).slots A) (F0 m 60 ls [])) ?_ _ _ hm H locs ls hw (lv_sub hl [0, 1, 3, 4, 5, 6] rfl)
      intro L24 ih24 x7_22 x6_23 hm H locs ls hw hl
      refine lv_iload hx hb dX9_draw_60 (lv_at hl 0 rfl) ?_
      refine lv_iconst (v := 4) hx hb dX9_draw_62 (by decide) ?_
      refine lv_aload_n hx hb dX9_draw_63 rfl (lv_at hl 5 rfl) ?_
      refine aV_I (As := []) (rest := [.int 4, .int x7_22]) hc hw (c_M_tales hm) lk_X9_105 rfl rfl ⟨Nat.le_of_ble_eq_true rfl, Nat.le_of_ble_eq_true rfl⟩ ⟨Nat.le_of_ble_eq_true rfl, Nat.le_of_ble_eq_true rfl⟩ hl.1 rfl (Nat.le_of_ble_eq_true rfl) rfl dX9_draw_64 (fun r25 _ H locs hm hw => ?_)
      have hw : wV D A s.heap (mW cy a S17) H locs := hw
      refine lv_imul hx hb dX9_draw_67 ?_
      refine lv_icmp_ge (tgt := 106) hx hb dX9_draw_68 (by decide) (fun c68 => ?_) (fun c68 => ?_)
      · have hm := hm.1 c68
        refine lv_iload hx hb dX9_draw_106 (lv_at hl 1 rfl) ?_
        obtain ⟨J28, eJ28, hm⟩ := jn_e hm
        have hJ28 : ∀ (t27 : Int32) (_ : J28 t27) (H : Heap) (locs : List Loc) (ls : Array Slot), wV D A s.heap (mW cy a S17) H locs → lv_has ls 9 [(0, .ref (a 0)), (2, .int x2_16), (3, .int x3_15), (4, .int x4_14), (6, .int x6_23)] → W p l e (rmN 103) s m args below meth c H locs 0 0 (MQ below (eI D cy A (mW cy a) Q) args s (rmN 103).cells (rmN 103).slots A) (F0 m 116 ls [.int t27]) := by
          intro t27 hm H locs ls hw hl
          rw [eJ28] at hm
          refine lv_istore (lv' := [(5, .int t27), (0, .ref (a 0)), (2, .int x2_16), (3, .int x3_15), (4, .int x4_14), (6, .int x6_23)]) hx hb dX9_draw_116 hl (by decide) rfl (fun ls hl => ?_)
          refine lv_iload hx hb dX9_draw_118 (lv_at hl 0 rfl) ?_
          refine lv_if_ne (tgt := 126) hx hb dX9_draw_120 (by decide) (fun c59 => ?_) (fun c59 => ?_)
          · have hm := hm.1 c59
            refine lv_aload_n hx hb dX9_draw_126 rfl (lv_at hl 1 rfl) ?_
            refine lv_iload hx hb dX9_draw_127 (lv_at hl 5 rfl) ?_
            refine aV_I (As := [.int x6_23]) (rest := []) hc hw (c_M_draws hm) lk_X9_378 rfl rfl ⟨Nat.le_of_ble_eq_true rfl, Nat.le_of_ble_eq_true rfl⟩ ⟨Nat.le_of_ble_eq_true rfl, Nat.le_of_ble_eq_true rfl⟩ hl.1 rfl (Nat.le_of_ble_eq_true rfl) rfl dX9_draw_129 (fun r29 S30 H locs hm hw => ?_)
            have hw : wV D A s.heap (mW cy a S30) H locs := hw
            refine lv_istore (lv' := [(7, .int r29), (5, .int t27), (0, .ref (a 0)), (2, .int x2_16), (3, .int x3_15), (4, .int x4_14), (6, .int x6_23)]) hx hb dX9_draw_132 hl (by decide) rfl (fun ls hl => ?_)
            refine lv_iconst (v := 0) hx hb dX9_draw_134 (by decide) ?_
            refine lv_istore (lv' := [(8, .int 0), (7, .int r29), (5, .int t27), (0, .ref (a 0)), (2, .int x2_16), (3, .int x3_15), (4, .int x4_14), (6, .int x6_23)]) hx hb dX9_draw_135 hl (by decide) rfl (fun ls hl => ?_)
            refine wl2_ind (G := fun (x8_32 : Int32) (x7_33 : Int32) => ∀ (H : Heap) (locs : List Loc) (ls : Array Slot), wV D A s.heap (mW cy a S30) H locs → lv_has ls 9 [(8, .int x8_32), (7, .int x7_33), (5, .int t27), (0, .ref (a 0)), (2, .int x2_16), (3, .int x3_15), (4, .int x4_14)] → W p l e (rmN 103) s m args below meth c H locs 0 0 (MQ below (eI D cy A (mW cy a) Q) args s (rmN 103).cells (rmN 103).slots A) (F0 m 137 ls [])) ?_ _ _ hm H locs ls hw (lv_sub hl [0, 1, 2, 3, 4, 5, 6] rfl)
            intro L34 ih34 x8_32 x7_33 hm H locs ls hw hl
            refine lv_aload_n hx hb dX9_draw_137 rfl (lv_at hl 3 rfl) ?_
            refine lv_iload hx hb dX9_draw_138 (lv_at hl 0 rfl) ?_
            refine lv_iconst (v := 4) hx hb dX9_draw_140 (by decide) ?_
            refine lv_idiv hx hb dX9_draw_141 (by decide) ?_
            refine lv_iload hx hb dX9_draw_142 (lv_at hl 0 rfl) ?_
            refine lv_iconst (v := 4) hx hb dX9_draw_144 (by decide) ?_
            refine lv_irem hx hb dX9_draw_145 (by decide) ?_
            refine lv_iload_n hx hb dX9_draw_146 rfl (lv_at hl 4 rfl) ?_
            refine lv_iload_n hx hb dX9_draw_147 rfl (lv_at hl 5 rfl) ?_
            refine lv_iload hx hb dX9_draw_148 (lv_at hl 6 rfl) ?_
            refine aV_I (As := [.int (x8_32 / 4), .int (x8_32 - x8_32 / 4 * 4), .int x2_16, .int x3_15, .int x4_14]) (rest := []) hc hw (c_M_canNext hm) lk_X9_312 rfl rfl ⟨Nat.le_of_ble_eq_true rfl, Nat.le_of_ble_eq_true rfl⟩ ⟨Nat.le_of_ble_eq_true rfl, Nat.le_of_ble_eq_true rfl⟩ hl.1 rfl (Nat.le_of_ble_eq_true rfl) rfl dX9_draw_150 (fun r35 _ H locs hm hw => ?_)
            have hw : wV D A s.heap (mW cy a S30) H locs := hw
            obtain ⟨J38, eJ38, hm⟩ := jn_e hm
            have hJ38 : ∀ (z37 : Unit) (_ : J38 z37) (H : Heap) (locs : List Loc) (ls : Array Slot), wV D A s.heap (mW cy a S30) H locs → lv_has ls 9 [(0, .ref (a 0)), (2, .int x2_16), (3, .int x3_15), (4, .int x4_14), (5, .int t27), (7, .int x7_33), (8, .int x8_32)] → W p l e (rmN 103) s m args below meth c H locs 0 0 (MQ below (eI D cy A (mW cy a) Q) args s (rmN 103).cells (rmN 103).slots A) (F0 m 161 ls []) := by
              intro z37 hm H locs ls hw hl
              rw [eJ38] at hm
              refine lv_iload hx hb dX9_draw_161 (lv_at hl 5 rfl) ?_
              refine lv_aload_n hx hb dX9_draw_163 rfl (lv_at hl 0 rfl) ?_
              refine lv_iload hx hb dX9_draw_164 (lv_at hl 6 rfl) ?_
              refine lv_iconst (v := 4) hx hb dX9_draw_166 (by decide) ?_
              refine lv_idiv hx hb dX9_draw_167 (by decide) ?_
              refine lv_iload hx hb dX9_draw_168 (lv_at hl 6 rfl) ?_
              refine lv_iconst (v := 4) hx hb dX9_draw_170 (by decide) ?_
              refine lv_irem hx hb dX9_draw_171 (by decide) ?_
              refine lv_iload_n hx hb dX9_draw_172 rfl (lv_at hl 1 rfl) ?_
              refine lv_iload_n hx hb dX9_draw_173 rfl (lv_at hl 2 rfl) ?_
              refine lv_iload hx hb dX9_draw_174 (lv_at hl 3 rfl) ?_
              refine aV_I (As := [.int (x8_32 / 4), .int (x8_32 - x8_32 / 4 * 4), .int x2_16, .int x3_15, .int x4_14]) (rest := [.int x7_33]) hc hw (c_M_canNext hm) lk_X9_312 rfl rfl ⟨Nat.le_of_ble_eq_true rfl, Nat.le_of_ble_eq_true rfl⟩ ⟨Nat.le_of_ble_eq_true rfl, Nat.le_of_ble_eq_true rfl⟩ hl.1 rfl (Nat.le_of_ble_eq_true rfl) rfl dX9_draw_176 (fun r39 _ H locs hm hw => ?_)
              have hw : wV D A s.heap (mW cy a S30) H locs := hw
              refine lv_if_eq (tgt := 186) hx hb dX9_draw_179 (by decide) (fun c45 => ?_) (fun c45 => ?_)
              · have hm := hm.1 c45
                refine lv_iconst (v := 0) hx hb dX9_draw_186 (by decide) ?_
                refine lv_isub hx hb dX9_draw_187 ?_
                refine lv_topi (fun v41 e_v41 => ?_)
                have hm := hm v41 e_v41
                refine lv_istore (lv' := [(7, .int v41), (0, .ref (a 0)), (2, .int x2_16), (3, .int x3_15), (4, .int x4_14), (5, .int t27), (8, .int x8_32)]) hx hb dX9_draw_188 hl (by decide) rfl (fun ls hl => ?_)
                obtain ⟨v42, e_v42⟩ : ∃ z : Int32, z = x8_32 + 1 := ⟨_, rfl⟩
                have hm := hm v42 e_v42
                refine lv_iinc (v := v42) (lv' := [(8, .int v42), (7, .int v41), (0, .ref (a 0)), (2, .int x2_16), (3, .int x3_15), (4, .int x4_14), (5, .int t27)]) hx hb dX9_draw_190 hl (k := 6) rfl (by rw [e_v42]; rfl) (by decide) rfl (fun ls hl => ?_)
                refine lv_goto (tgt := 137) hx hb dX9_draw_193 (by decide) ?_
                exact ih34 _ _ hm _ _ _ hw (lv_sub hl [0, 1, 6, 2, 3, 4, 5] rfl)
              · have hm := hm.2 c45
                refine lv_iconst (v := 1) hx hb dX9_draw_182 (by decide) ?_
                refine lv_goto (tgt := 187) hx hb dX9_draw_183 (by decide) ?_
                refine lv_isub hx hb dX9_draw_187 ?_
                refine lv_topi (fun v43 e_v43 => ?_)
                have hm := hm v43 e_v43
                refine lv_istore (lv' := [(7, .int v43), (0, .ref (a 0)), (2, .int x2_16), (3, .int x3_15), (4, .int x4_14), (5, .int t27), (8, .int x8_32)]) hx hb dX9_draw_188 hl (by decide) rfl (fun ls hl => ?_)
                obtain ⟨v44, e_v44⟩ : ∃ z : Int32, z = x8_32 + 1 := ⟨_, rfl⟩
                have hm := hm v44 e_v44
                refine lv_iinc (v := v44) (lv' := [(8, .int v44), (7, .int v43), (0, .ref (a 0)), (2, .int x2_16), (3, .int x3_15), (4, .int x4_14), (5, .int t27)]) hx hb dX9_draw_190 hl (k := 6) rfl (by rw [e_v44]; rfl) (by decide) rfl (fun ls hl => ?_)
                refine lv_goto (tgt := 137) hx hb dX9_draw_193 (by decide) ?_
                exact ih34 _ _ hm _ _ _ hw (lv_sub hl [0, 1, 6, 2, 3, 4, 5] rfl)
            refine lv_if_eq (tgt := 161) hx hb dX9_draw_153 (by decide) (fun c58 => ?_) (fun c58 => ?_)
            · have hm := hm.1 c58
              exact hJ38 _ hm _ _ _ hw (lv_sub hl [3, 4, 5, 6, 2, 1, 0] rfl)
            · have hm := hm.2 c58
              refine lv_iload hx hb dX9_draw_156 (lv_at hl 1 rfl) ?_
              refine lv_if_le (tgt := 196) hx hb dX9_draw_158 (by decide) (fun c57 => ?_) (fun c57 => ?_)
              · have hm := hm.1 c57
                refine lv_aload_n hx hb dX9_draw_196 rfl (lv_at hl 3 rfl) ?_
                refine lv_iload hx hb dX9_draw_197 (lv_at hl 0 rfl) ?_
                refine lv_iconst (v := 4) hx hb dX9_draw_199 (by decide) ?_
                refine lv_idiv hx hb dX9_draw_200 (by decide) ?_
                refine lv_iload_n hx hb dX9_draw_201 rfl (lv_at hl 5 rfl) ?_
                refine aV_I (As := [.int (x8_32 / 4), .int x3_15]) (rest := []) hc hw (c_M_yearBehind hm) lk_X9_297 rfl rfl ⟨Nat.le_of_ble_eq_true rfl, Nat.le_of_ble_eq_true rfl⟩ ⟨Nat.le_of_ble_eq_true rfl, Nat.le_of_ble_eq_true rfl⟩ hl.1 rfl (Nat.le_of_ble_eq_true rfl) rfl dX9_draw_202 (fun r46 _ H locs hm hw => ?_)
                have hw : wV D A s.heap (mW cy a S30) H locs := hw
                refine lv_istore_n (lv' := [(3, .int r46), (8, .int x8_32), (7, .int x7_33), (5, .int t27), (0, .ref (a 0)), (2, .int x2_16), (4, .int x4_14)]) hx hb dX9_draw_205 rfl hl (by decide) rfl (fun ls hl => ?_)
                refine lv_iload hx hb dX9_draw_206 (lv_at hl 1 rfl) ?_
                refine lv_iconst (v := 4) hx hb dX9_draw_208 (by decide) ?_
                refine lv_irem hx hb dX9_draw_209 (by decide) ?_
                refine lv_topi (fun v48 e_v48 => ?_)
                have hm := hm v48 e_v48
                refine lv_istore (lv' := [(4, .int v48), (3, .int r46), (8, .int x8_32), (7, .int x7_33), (5, .int t27), (0, .ref (a 0)), (2, .int x2_16)]) hx hb dX9_draw_210 hl (by decide) rfl (fun ls hl => ?_)
                refine lv_iload_n hx hb dX9_draw_212 rfl (lv_at hl 6 rfl) ?_
                refine lv_iconst (v := 1) hx hb dX9_draw_213 (by decide) ?_
                refine lv_iload hx hb dX9_draw_214 (lv_at hl 2 rfl) ?_
                refine lv_iconst (v := 4) hx hb dX9_draw_216 (by decide) ?_
                refine lv_idiv hx hb dX9_draw_217 (by decide) ?_
                refine lv_ishl hx hb dX9_draw_218 ?_
                refine lv_ior hx hb dX9_draw_219 ?_
                refine lv_topi (fun v49 e_v49 => ?_)
                have hm := hm v49 e_v49
                refine lv_istore_n (lv' := [(2, .int v49), (4, .int v48), (3, .int r46), (8, .int x8_32), (7, .int x7_33), (5, .int t27), (0, .ref (a 0))]) hx hb dX9_draw_220 rfl hl (by decide) rfl (fun ls hl => ?_)
                refine lv_aload_n hx hb dX9_draw_221 rfl (lv_at hl 6 rfl) ?_
                refine gF (k := 40) hc hw inX9 rfl 0 rfl (by decide) (gm 1099 (by decide +kernel) rfl) rfl dX9_draw_222 ?_
                refine lv_iconst (v := 3) hx hb dX9_draw_225 (by decide) ?_
                refine lv_aload_n hx hb dX9_draw_226 rfl (lv_at hl 6 rfl) ?_
                refine gF (k := 41) hc hw inX9 rfl 0 rfl (by decide) (gm 1100 (by decide +kernel) rfl) rfl dX9_draw_227 ?_
                refine lv_imul hx hb dX9_draw_230 ?_
                refine lv_iload hx hb dX9_draw_231 (lv_at hl 3 rfl) ?_
                refine lv_iconst (v := 4) hx hb dX9_draw_233 (by decide) ?_
                refine lv_idiv hx hb dX9_draw_234 (by decide) ?_
                obtain ⟨c50, hm⟩ := hm
                refine sI hc hw 23 rfl c50 rfl dX9_draw_235 (fun H locs hw => ?_)
                obtain ⟨S51, e_S51⟩ : ∃ z : Ob, z = uA S30 40 (Int32.toNatClampNeg (3 * (S30.1 41))) (x8_32 / 4) := ⟨_, rfl⟩
                have hm := hm S51 e_S51
                have hw : wV D A s.heap (mW cy a S51) H locs := by rw [e_S51]; exact hw
                refine lv_aload_n hx hb dX9_draw_236 rfl (lv_at hl 6 rfl) ?_
                refine gF (k := 40) hc hw inX9 rfl 0 rfl (by decide) (gm 1099 (by decide +kernel) rfl) rfl dX9_draw_237 ?_
                refine lv_iconst (v := 3) hx hb dX9_draw_240 (by decide) ?_
                refine lv_aload_n hx hb dX9_draw_241 rfl (lv_at hl 6 rfl) ?_
                refine gF (k := 41) hc hw inX9 rfl 0 rfl (by decide) (gm 1100 (by decide +kernel) rfl) rfl dX9_draw_242 ?_
                refine lv_imul hx hb dX9_draw_245 ?_
                refine lv_iconst (v := 1) hx hb dX9_draw_246 (by decide) ?_
                refine lv_iadd hx hb dX9_draw_247 ?_
                refine lv_iload_n hx hb dX9_draw_248 rfl (lv_at hl 2 rfl) ?_
                obtain ⟨c52, hm⟩ := hm
                refine sI hc hw 23 rfl c52 rfl dX9_draw_249 (fun H locs hw => ?_)
                obtain ⟨S53, e_S53⟩ : ∃ z : Ob, z = uA S51 40 (Int32.toNatClampNeg ((3 * (S51.1 41)) + 1)) r46 := ⟨_, rfl⟩
                have hm := hm S53 e_S53
                have hw : wV D A s.heap (mW cy a S53) H locs := by rw [e_S53]; exact hw
                refine lv_aload_n hx hb dX9_draw_250 rfl (lv_at hl 6 rfl) ?_
                refine gF (k := 40) hc hw inX9 rfl 0 rfl (by decide) (gm 1099 (by decide +kernel) rfl) rfl dX9_draw_251 ?_
                refine lv_iconst (v := 3) hx hb dX9_draw_254 (by decide) ?_
                refine lv_aload_n hx hb dX9_draw_255 rfl (lv_at hl 6 rfl) ?_
                refine gF (k := 41) hc hw inX9 rfl 0 rfl (by decide) (gm 1100 (by decide +kernel) rfl) rfl dX9_draw_256 ?_
                refine lv_imul hx hb dX9_draw_259 ?_
                refine lv_iconst (v := 2) hx hb dX9_draw_260 (by decide) ?_
                refine lv_iadd hx hb dX9_draw_261 ?_
                refine lv_iload hx hb dX9_draw_262 (lv_at hl 1 rfl) ?_
                obtain ⟨c54, hm⟩ := hm
                refine sI hc hw 23 rfl c54 rfl dX9_draw_264 (fun H locs hw => ?_)
                obtain ⟨S55, e_S55⟩ : ∃ z : Ob, z = uA S53 40 (Int32.toNatClampNeg ((3 * (S53.1 41)) + 2)) v48 := ⟨_, rfl⟩
                have hm := hm S55 e_S55
                have hw : wV D A s.heap (mW cy a S55) H locs := by rw [e_S55]; exact hw
                refine lv_aload_n hx hb dX9_draw_265 rfl (lv_at hl 6 rfl) ?_
                refine lv_dup hx hb dX9_draw_266 rfl ?_
                refine gF (k := 41) hc hw inX9 rfl 0 rfl (by decide) (gm 1100 (by decide +kernel) rfl) rfl dX9_draw_267 ?_
                refine lv_iconst (v := 1) hx hb dX9_draw_270 (by decide) ?_
                refine lv_iadd hx hb dX9_draw_271 ?_
                refine pF (k := 41) (ty := .int) hc hw inX9 tyX9_ok nmX9 rfl 0 rfl (by decide) (gm 1100 (by decide +kernel) rfl) rfl (by decide +kernel) rfl rfl (Nat.le_of_ble_eq_true rfl) dX9_draw_272 (fun H locs hw => ?_)
                obtain ⟨S56, e_S56⟩ : ∃ z : Ob, z = uS S55 41 ((S55.1 41) + 1) := ⟨_, rfl⟩
                have hm := hm S56 e_S56
                have hw : wV D A s.heap (mW cy a S56) H locs := by rw [e_S56]; exact hw
                refine lv_goto (tgt := 49) hx hb dX9_draw_275 (by decide) ?_
                exact ih18 _ _ _ _ _ hm _ _ _ hw (lv_sub hl [5, 1, 2, 0, 6] rfl)
              · have hm := hm.2 c57
                exact hJ38 _ hm _ _ _ hw (lv_sub hl [3, 4, 5, 6, 2, 1, 0] rfl)
          · have hm := hm.2 c59
            refine lv_goto (tgt := 49) hx hb dX9_draw_123 (by decide) ?_
            exact ih18 _ _ _ _ _ hm _ _ _ hw (lv_sub hl [0, 4, 3, 2, 1] rfl)
        refine lv_if_le (tgt := 115) hx hb dX9_draw_108 (by decide) (fun c60 => ?_) (fun c60 => ?_)
        · have hm := hm.1 c60
          refine lv_iconst (v := 0) hx hb dX9_draw_115 (by decide) ?_
          exact hJ28 _ hm _ _ _ hw (lv_sub hl [5, 4, 3, 2, 1] rfl)
        · have hm := hm.2 c60
          refine lv_iconst (v := 1) hx hb dX9_draw_111 (by decide) ?_
          refine lv_goto (tgt := 116) hx hb dX9_draw_112 (by decide) ?_
          exact hJ28 _ hm _ _ _ hw (lv_sub hl [5, 4, 3, 2, 1] rfl)
      · have hm := hm.2 c68
        refine lv_iload hx hb dX9_draw_71 (lv_at hl 1 rfl) ?_
        refine lv_aload_n hx hb dX9_draw_73 rfl (lv_at hl 5 rfl) ?_
        refine lv_iload hx hb dX9_draw_74 (lv_at hl 0 rfl) ?_
        refine lv_iconst (v := 4) hx hb dX9_draw_76 (by decide) ?_
        refine lv_idiv hx hb dX9_draw_77 (by decide) ?_
        refine lv_iload hx hb dX9_draw_78 (lv_at hl 0 rfl) ?_
        refine lv_iconst (v := 4) hx hb dX9_draw_80 (by decide) ?_
        refine lv_irem hx hb dX9_draw_81 (by decide) ?_
        refine lv_iload_n hx hb dX9_draw_82 rfl (lv_at hl 4 rfl) ?_
        refine lv_iload_n hx hb dX9_draw_83 rfl (lv_at hl 3 rfl) ?_
        refine lv_iload hx hb dX9_draw_84 (lv_at hl 2 rfl) ?_
        refine aV_I (As := [.int (x7_22 / 4), .int (x7_22 - x7_22 / 4 * 4), .int x2_16, .int x3_15, .int x4_14]) (rest := [.int x6_23]) hc hw (c_M_canNext hm) lk_X9_312 rfl rfl ⟨Nat.le_of_ble_eq_true rfl, Nat.le_of_ble_eq_true rfl⟩ ⟨Nat.le_of_ble_eq_true rfl, Nat.le_of_ble_eq_true rfl⟩ hl.1 rfl (Nat.le_of_ble_eq_true rfl) rfl dX9_draw_86 (fun r61 _ H locs hm hw => ?_)
        have hw : wV D A s.heap (mW cy a S17) H locs := hw
        refine lv_if_eq (tgt := 96) hx hb dX9_draw_89 (by decide) (fun c67 => ?_) (fun c67 => ?_)
        · have hm := hm.1 c67
          refine lv_iconst (v := 0) hx hb dX9_draw_96 (by decide) ?_
          refine lv_iadd hx hb dX9_draw_97 ?_
          refine lv_topi (fun v63 e_v63 => ?_)
          have hm := hm v63 e_v63
          refine lv_istore (lv' := [(6, .int v63), (7, .int x7_22), (4, .int x4_14), (3, .int x3_15), (2, .int x2_16), (0, .ref (a 0))]) hx hb dX9_draw_98 hl (by decide) rfl (fun ls hl => ?_)
          obtain ⟨v64, e_v64⟩ : ∃ z : Int32, z = x7_22 + 1 := ⟨_, rfl⟩
          have hm := hm v64 e_v64
          refine lv_iinc (v := v64) (lv' := [(7, .int v64), (6, .int v63), (4, .int x4_14), (3, .int x3_15), (2, .int x2_16), (0, .ref (a 0))]) hx hb dX9_draw_100 hl (k := 1) rfl (by rw [e_v64]; rfl) (by decide) rfl (fun ls hl => ?_)
          refine lv_goto (tgt := 60) hx hb dX9_draw_103 (by decide) ?_
          exact ih24 _ _ hm _ _ _ hw (lv_sub hl [0, 1, 2, 3, 4, 5] rfl)
        · have hm := hm.2 c67
          refine lv_iconst (v := 1) hx hb dX9_draw_92 (by decide) ?_
          refine lv_goto (tgt := 97) hx hb dX9_draw_93 (by decide) ?_
          refine lv_iadd hx hb dX9_draw_97 ?_
          refine lv_topi (fun v65 e_v65 => ?_)
          have hm := hm v65 e_v65
          refine lv_istore (lv' := [(6, .int v65), (7, .int x7_22), (4, .int x4_14), (3, .int x3_15), (2, .int x2_16), (0, .ref (a 0))]) hx hb dX9_draw_98 hl (by decide) rfl (fun ls hl => ?_)
          obtain ⟨v66, e_v66⟩ : ∃ z : Int32, z = x7_22 + 1 := ⟨_, rfl⟩
          have hm := hm v66 e_v66
          refine lv_iinc (v := v66) (lv' := [(7, .int v66), (6, .int v65), (4, .int x4_14), (3, .int x3_15), (2, .int x2_16), (0, .ref (a 0))]) hx hb dX9_draw_100 hl (k := 1) rfl (by rw [e_v66]; rfl) (by decide) rfl (fun ls hl => ?_)
          refine lv_goto (tgt := 60) hx hb dX9_draw_103 (by decide) ?_
          exact ih24 _ _ hm _ _ _ hw (lv_sub hl [0, 1, 2, 3, 4, 5] rfl)
  · have hm := hm.2 c73
    refine lv_aload_n hx hb dX9_draw_10 rfl (lv_at hl 0 rfl) ?_
    refine lv_iconst (v := (-1)) hx hb dX9_draw_11 (by decide) ?_
    refine aV_I (As := [.int (-1)]) (rest := []) hc hw (c_M_refuses hm) lk_X9_98 rfl rfl ⟨Nat.le_of_ble_eq_true rfl, Nat.le_of_ble_eq_true rfl⟩ ⟨Nat.le_of_ble_eq_true rfl, Nat.le_of_ble_eq_true rfl⟩ hl.1 rfl (Nat.le_of_ble_eq_true rfl) rfl dX9_draw_12 (fun r70 S71 H locs hm hw => ?_)
    have hw : wV D A s.heap (mW cy a S71) H locs := hw
    exact retI (u := S71) hc hw hm dX9_draw_15
set_option maxHeartbeats 4000000 in
set_option maxRecDepth 100000 in
theorem c_M_drawn {l : Launch} {D : va_G} {cy : Nat → ClassId} {a : Nat → Nat} {S : Ob} {x1 : Int32} {x2 : Int32} {Q : Int32 → Prop} (hm : wM_drawn S x1 x2 Q) : CtI l yX9_drawn cX9_drawn 3 (some .int) (rmN 1) D cy [.ref (a 0), .int x1, .int x2] (mW cy a S) (fun _ : Unit => mW cy a S) (fun (r : Int32) (_ : Unit) => Q r) := by
  refine CtI.ofW (by decide) (Nat.le_of_ble_eq_true rfl) ?_
  intro p e s m args below meth c A ls hc hnm hw hl
  have hx := hc.1.1
  have hb := hc.1.2.1
  have hown := hc.1.2.2.2.1
  have hts := hc.1.2.2.2.2
  have hl : lv_has ls 3 [(0, .ref (a 0)), (1, .int x1), (2, .int x2)] := hl
  obtain ⟨H, hH⟩ : ∃ z, z = s.heap := ⟨_, rfl⟩
  obtain ⟨locs, hLc⟩ : ∃ z : List Loc, z = [] := ⟨_, rfl⟩
  have hw : wV D A s.heap (mW cy a S) H locs := by rw [hH, hLc]; exact hw
  have hgo : W p l e (rmN 1) s m args below meth c H locs 0 0 (MQ below (eI D cy A (fun _ : Unit => mW cy a S) (fun (r : Int32) (_ : Unit) => Q r)) args s (rmN 1).cells (rmN 1).slots A) (F0 m 0 ls []) := ?hgo
  · rw [hH, hLc] at hgo; exact hgo
  refine lv_iload_n hx hb dX9_drawn_0 rfl (lv_at hl 1 rfl) ?_
  refine lv_iconst (v := 0) hx hb dX9_drawn_1 (by decide) ?_
  refine lv_aload_n hx hb dX9_drawn_2 rfl (lv_at hl 0 rfl) ?_
  refine gF (k := 41) hc hw inX9 rfl 0 rfl (by decide) (gm 1100 (by decide +kernel) rfl) rfl dX9_drawn_3 ?_
  refine lv_iconst (v := 1) hx hb dX9_drawn_6 (by decide) ?_
  refine lv_isub hx hb dX9_drawn_7 ?_
  refine zS_I (As := [.int x1, .int 0, .int ((S.1 41) - 1)]) (rest := []) hc hw (c_M_lies hm) lk_X9_94 ⟨Nat.le_of_ble_eq_true rfl, Nat.le_of_ble_eq_true rfl⟩ ⟨Nat.le_of_ble_eq_true rfl, Nat.le_of_ble_eq_true rfl⟩ hl.1 rfl (Nat.le_of_ble_eq_true rfl) rfl dX9_drawn_8 (fun r1 H locs hm hw => ?_)
  refine lv_if_eq (tgt := 36) hx hb dX9_drawn_11 (by decide) (fun c7 => ?_) (fun c7 => ?_)
  · have hm := hm.1 c7
    refine lv_iconst (v := (-1)) hx hb dX9_drawn_36 (by decide) ?_
    exact retI (u := ()) hc hw hm dX9_drawn_37
  · have hm := hm.2 c7
    refine lv_iload_n hx hb dX9_drawn_14 rfl (lv_at hl 2 rfl) ?_
    refine lv_iconst (v := 0) hx hb dX9_drawn_15 (by decide) ?_
    refine lv_iconst (v := 2) hx hb dX9_drawn_16 (by decide) ?_
    refine zS_I (As := [.int x2, .int 0, .int 2]) (rest := []) hc hw (c_M_lies hm) lk_X9_94 ⟨Nat.le_of_ble_eq_true rfl, Nat.le_of_ble_eq_true rfl⟩ ⟨Nat.le_of_ble_eq_true rfl, Nat.le_of_ble_eq_true rfl⟩ hl.1 rfl (Nat.le_of_ble_eq_true rfl) rfl dX9_drawn_17 (fun r3 H locs hm hw => ?_)
    refine lv_if_eq (tgt := 36) hx hb dX9_drawn_20 (by decide) (fun c6 => ?_) (fun c6 => ?_)
    · have hm := hm.1 c6
      refine lv_iconst (v := (-1)) hx hb dX9_drawn_36 (by decide) ?_
      exact retI (u := ()) hc hw hm dX9_drawn_37
    · have hm := hm.2 c6
      refine lv_aload_n hx hb dX9_drawn_23 rfl (lv_at hl 0 rfl) ?_
      refine gF (k := 40) hc hw inX9 rfl 0 rfl (by decide) (gm 1099 (by decide +kernel) rfl) rfl dX9_drawn_24 ?_
      refine lv_iconst (v := 3) hx hb dX9_drawn_27 (by decide) ?_
      refine lv_iload_n hx hb dX9_drawn_28 rfl (lv_at hl 1 rfl) ?_
      refine lv_imul hx hb dX9_drawn_29 ?_
      refine lv_iload_n hx hb dX9_drawn_30 rfl (lv_at hl 2 rfl) ?_
      refine lv_iadd hx hb dX9_drawn_31 ?_
      obtain ⟨c5, hm⟩ := hm
      refine aI hc hw 23 rfl c5 rfl dX9_drawn_32 ?_
      refine lv_goto (tgt := 37) hx hb dX9_drawn_33 (by decide) ?_
      exact retI (u := ()) hc hw hm dX9_drawn_37
set_option maxHeartbeats 4000000 in
set_option maxRecDepth 100000 in
theorem c_M_count {l : Launch} {D : va_G} {cy : Nat → ClassId} {a : Nat → Nat} {S : Ob} {x1 : Int32} {Q : Int32 → Prop} (hm : wM_count S x1 Q) : CtI l yX9_count cX9_count 2 (some .int) (rmN 1) D cy [.ref (a 0), .int x1] (mW cy a S) (fun _ : Unit => mW cy a S) (fun (r : Int32) (_ : Unit) => Q r) := by
  refine CtI.ofW (by decide) (Nat.le_of_ble_eq_true rfl) ?_
  intro p e s m args below meth c A ls hc hnm hw hl
  have hx := hc.1.1
  have hb := hc.1.2.1
  have hown := hc.1.2.2.2.1
  have hts := hc.1.2.2.2.2
  have hl : lv_has ls 2 [(0, .ref (a 0)), (1, .int x1)] := hl
  obtain ⟨H, hH⟩ : ∃ z, z = s.heap := ⟨_, rfl⟩
  obtain ⟨locs, hLc⟩ : ∃ z : List Loc, z = [] := ⟨_, rfl⟩
  have hw : wV D A s.heap (mW cy a S) H locs := by rw [hH, hLc]; exact hw
  have hgo : W p l e (rmN 1) s m args below meth c H locs 0 0 (MQ below (eI D cy A (fun _ : Unit => mW cy a S) (fun (r : Int32) (_ : Unit) => Q r)) args s (rmN 1).cells (rmN 1).slots A) (F0 m 0 ls []) := ?hgo
  · rw [hH, hLc] at hgo; exact hgo
  refine lv_iload_n hx hb dX9_count_0 rfl (lv_at hl 1 rfl) ?_
  obtain ⟨J2, eJ2, hm⟩ := jn_e hm
  have hJ2 : ∀ (z1 : Unit) (_ : J2 z1) (H : Heap) (locs : List Loc) (ls : Array Slot), wV D A s.heap (mW cy a S) H locs → lv_has ls 2 [(0, .ref (a 0)), (1, .int x1)] → W p l e (rmN 1) s m args below meth c H locs 0 0 (MQ below (eI D cy A (fun _ : Unit => mW cy a S) (fun (r : Int32) (_ : Unit) => Q r)) args s (rmN 1).cells (rmN 1).slots A) (F0 m 155 ls []) := by
    intro z1 hm H locs ls hw hl
    rw [eJ2] at hm
    refine lv_aload_n hx hb dX9_count_155 rfl (lv_at hl 0 rfl) ?_
    refine gF (k := 3) hc hw inX9 rfl 0 rfl (by decide) (gm 1062 (by decide +kernel) rfl) rfl dX9_count_156 ?_
    refine lv_bipush (v := 40) hx hb dX9_count_159 (by decide) ?_
    refine lv_iload_n hx hb dX9_count_161 rfl (lv_at hl 1 rfl) ?_
    refine lv_iadd hx hb dX9_count_162 ?_
    refine lv_bipush (v := 12) hx hb dX9_count_163 (by decide) ?_
    refine lv_isub hx hb dX9_count_165 ?_
    obtain ⟨c3, hm⟩ := hm
    refine aI hc hw 2 rfl c3 rfl dX9_count_166 ?_
    exact retI (u := ()) hc hw hm dX9_count_167
  refine lv_topi (fun v4 e_v4 => ?_)
  have hm := hm v4 e_v4
  by_cases c7 : v4 = 0
  · have hm := hm.1 c7
    refine lv_tableIn (off := 75) (tgt := 76) hx hb dX9_count_1 (by rw [c7]; decide) (by rw [c7]; decide) (by rw [c7]; rfl) (by decide) ?_
    refine lv_aload_n hx hb dX9_count_76 rfl (lv_at hl 0 rfl) ?_
    refine aV_I (As := []) (rest := []) hc hw (c_M_tales hm) lk_X9_105 rfl rfl ⟨Nat.le_of_ble_eq_true rfl, Nat.le_of_ble_eq_true rfl⟩ ⟨Nat.le_of_ble_eq_true rfl, Nat.le_of_ble_eq_true rfl⟩ hl.1 rfl (Nat.le_of_ble_eq_true rfl) rfl dX9_count_77 (fun r5 _ H locs hm hw => ?_)
    have hw : wV D A s.heap (mW cy a S) H locs := hw
    exact retI (u := ()) hc hw hm dX9_count_80
  by_cases c8 : v4 = 1
  · have hm := hm.2.1 c8
    refine lv_tableIn (off := 80) (tgt := 81) hx hb dX9_count_1 (by rw [c8]; decide) (by rw [c8]; decide) (by rw [c8]; rfl) (by decide) ?_
    refine lv_aload_n hx hb dX9_count_81 rfl (lv_at hl 0 rfl) ?_
    refine gF (k := 3) hc hw inX9 rfl 0 rfl (by decide) (gm 1062 (by decide +kernel) rfl) rfl dX9_count_82 ?_
    refine lv_sipush (v := 137) hx hb dX9_count_85 (by decide) ?_
    refine aI hc hw 2 rfl (vin (by decide)) (j := 137) (by decide) dX9_count_88 ?_
    exact retI (u := ()) hc hw hm dX9_count_89
  by_cases c9 : v4 = 2
  · have hm := hm.2.2.1 c9
    refine lv_tableIn (off := 89) (tgt := 90) hx hb dX9_count_1 (by rw [c9]; decide) (by rw [c9]; decide) (by rw [c9]; rfl) (by decide) ?_
    refine lv_aload_n hx hb dX9_count_90 rfl (lv_at hl 0 rfl) ?_
    refine gF (k := 3) hc hw inX9 rfl 0 rfl (by decide) (gm 1062 (by decide +kernel) rfl) rfl dX9_count_91 ?_
    refine lv_sipush (v := 134) hx hb dX9_count_94 (by decide) ?_
    refine aI hc hw 2 rfl (vin (by decide)) (j := 134) (by decide) dX9_count_97 ?_
    exact retI (u := ()) hc hw hm dX9_count_98
  by_cases c10 : v4 = 3
  · have hm := hm.2.2.2.1 c10
    refine lv_tableIn (off := 98) (tgt := 99) hx hb dX9_count_1 (by rw [c10]; decide) (by rw [c10]; decide) (by rw [c10]; rfl) (by decide) ?_
    refine lv_aload_n hx hb dX9_count_99 rfl (lv_at hl 0 rfl) ?_
    refine gF (k := 3) hc hw inX9 rfl 0 rfl (by decide) (gm 1062 (by decide +kernel) rfl) rfl dX9_count_100 ?_
    refine lv_sipush (v := 135) hx hb dX9_count_103 (by decide) ?_
    refine aI hc hw 2 rfl (vin (by decide)) (j := 135) (by decide) dX9_count_106 ?_
    exact retI (u := ()) hc hw hm dX9_count_107
  by_cases c11 : v4 = 4
  · have hm := hm.2.2.2.2.1 c11
    refine lv_tableIn (off := 107) (tgt := 108) hx hb dX9_count_1 (by rw [c11]; decide) (by rw [c11]; decide) (by rw [c11]; rfl) (by decide) ?_
    refine lv_aload_n hx hb dX9_count_108 rfl (lv_at hl 0 rfl) ?_
    refine gF (k := 3) hc hw inX9 rfl 0 rfl (by decide) (gm 1062 (by decide +kernel) rfl) rfl dX9_count_109 ?_
    refine lv_sipush (v := 136) hx hb dX9_count_112 (by decide) ?_
    refine aI hc hw 2 rfl (vin (by decide)) (j := 136) (by decide) dX9_count_115 ?_
    exact retI (u := ()) hc hw hm dX9_count_116
  by_cases c12 : v4 = 5
  · have hm := hm.2.2.2.2.2.1 c12
    refine lv_tableIn (off := 116) (tgt := 117) hx hb dX9_count_1 (by rw [c12]; decide) (by rw [c12]; decide) (by rw [c12]; rfl) (by decide) ?_
    refine lv_aload_n hx hb dX9_count_117 rfl (lv_at hl 0 rfl) ?_
    refine gF (k := 10) hc hw inX9 rfl 0 rfl (by decide) (gm 1069 (by decide +kernel) rfl) rfl dX9_count_118 ?_
    exact retI (u := ()) hc hw hm dX9_count_121
  by_cases c14 : v4 = 6
  · have hm := hm.2.2.2.2.2.2.1 c14
    refine lv_tableIn (off := 121) (tgt := 122) hx hb dX9_count_1 (by rw [c14]; decide) (by rw [c14]; decide) (by rw [c14]; rfl) (by decide) ?_
    refine lv_aload_n hx hb dX9_count_122 rfl (lv_at hl 0 rfl) ?_
    refine gF (k := 2) hc hw inX9 rfl 0 rfl (by decide) (gm 1061 (by decide +kernel) rfl) rfl dX9_count_123 ?_
    refine lv_iload_n hx hb dX9_count_126 rfl (lv_at hl 1 rfl) ?_
    refine lv_iconst (v := 5) hx hb dX9_count_127 (by decide) ?_
    refine lv_isub hx hb dX9_count_128 ?_
    obtain ⟨c13, hm⟩ := hm
    refine aI hc hw 1 rfl c13 rfl dX9_count_129 ?_
    exact retI (u := ()) hc hw hm dX9_count_130
  by_cases c16 : v4 = 7
  · have hm := hm.2.2.2.2.2.2.2.1 c16
    refine lv_tableIn (off := 121) (tgt := 122) hx hb dX9_count_1 (by rw [c16]; decide) (by rw [c16]; decide) (by rw [c16]; rfl) (by decide) ?_
    refine lv_aload_n hx hb dX9_count_122 rfl (lv_at hl 0 rfl) ?_
    refine gF (k := 2) hc hw inX9 rfl 0 rfl (by decide) (gm 1061 (by decide +kernel) rfl) rfl dX9_count_123 ?_
    refine lv_iload_n hx hb dX9_count_126 rfl (lv_at hl 1 rfl) ?_
    refine lv_iconst (v := 5) hx hb dX9_count_127 (by decide) ?_
    refine lv_isub hx hb dX9_count_128 ?_
    obtain ⟨c15, hm⟩ := hm
    refine aI hc hw 1 rfl c15 rfl dX9_count_129 ?_
    exact retI (u := ()) hc hw hm dX9_count_130
  by_cases c18 : v4 = 8
  · have hm := hm.2.2.2.2.2.2.2.2.1 c18
    refine lv_tableIn (off := 121) (tgt := 122) hx hb dX9_count_1 (by rw [c18]; decide) (by rw [c18]; decide) (by rw [c18]; rfl) (by decide) ?_
    refine lv_aload_n hx hb dX9_count_122 rfl (lv_at hl 0 rfl) ?_
    refine gF (k := 2) hc hw inX9 rfl 0 rfl (by decide) (gm 1061 (by decide +kernel) rfl) rfl dX9_count_123 ?_
    refine lv_iload_n hx hb dX9_count_126 rfl (lv_at hl 1 rfl) ?_
    refine lv_iconst (v := 5) hx hb dX9_count_127 (by decide) ?_
    refine lv_isub hx hb dX9_count_128 ?_
    obtain ⟨c17, hm⟩ := hm
    refine aI hc hw 1 rfl c17 rfl dX9_count_129 ?_
    exact retI (u := ()) hc hw hm dX9_count_130
  by_cases c19 : v4 = 9
  · have hm := hm.2.2.2.2.2.2.2.2.2.1 c19
    refine lv_tableIn (off := 130) (tgt := 131) hx hb dX9_count_1 (by rw [c19]; decide) (by rw [c19]; decide) (by rw [c19]; rfl) (by decide) ?_
    refine lv_aload_n hx hb dX9_count_131 rfl (lv_at hl 0 rfl) ?_
    refine gF (k := 2) hc hw inX9 rfl 0 rfl (by decide) (gm 1061 (by decide +kernel) rfl) rfl dX9_count_132 ?_
    refine lv_iconst (v := 5) hx hb dX9_count_135 (by decide) ?_
    refine aI hc hw 1 rfl (vin (by decide)) (j := 5) (by decide) dX9_count_136 ?_
    exact retI (u := ()) hc hw hm dX9_count_137
  by_cases c20 : v4 = 10
  · have hm := hm.2.2.2.2.2.2.2.2.2.2.1 c20
    refine lv_tableIn (off := 137) (tgt := 138) hx hb dX9_count_1 (by rw [c20]; decide) (by rw [c20]; decide) (by rw [c20]; rfl) (by decide) ?_
    refine lv_aload_n hx hb dX9_count_138 rfl (lv_at hl 0 rfl) ?_
    refine gF (k := 2) hc hw inX9 rfl 0 rfl (by decide) (gm 1061 (by decide +kernel) rfl) rfl dX9_count_139 ?_
    refine lv_bipush (v := 6) hx hb dX9_count_142 (by decide) ?_
    refine aI hc hw 1 rfl (vin (by decide)) (j := 6) (by decide) dX9_count_144 ?_
    exact retI (u := ()) hc hw hm dX9_count_145
  by_cases c21 : v4 = 11
  · have hm := hm.2.2.2.2.2.2.2.2.2.2.2.1 c21
    refine lv_tableIn (off := 145) (tgt := 146) hx hb dX9_count_1 (by rw [c21]; decide) (by rw [c21]; decide) (by rw [c21]; rfl) (by decide) ?_
    refine lv_aload_n hx hb dX9_count_146 rfl (lv_at hl 0 rfl) ?_
    refine gF (k := 3) hc hw inX9 rfl 0 rfl (by decide) (gm 1062 (by decide +kernel) rfl) rfl dX9_count_147 ?_
    refine lv_sipush (v := 138) hx hb dX9_count_150 (by decide) ?_
    refine aI hc hw 2 rfl (vin (by decide)) (j := 138) (by decide) dX9_count_153 ?_
    exact retI (u := ()) hc hw hm dX9_count_154
  by_cases c22 : v4 = 12
  · have hm := hm.2.2.2.2.2.2.2.2.2.2.2.2.1 c22
    refine lv_tableIn (off := 154) (tgt := 155) hx hb dX9_count_1 (by rw [c22]; decide) (by rw [c22]; decide) (by rw [c22]; rfl) (by decide) ?_
    exact hJ2 _ hm _ _ _ hw (lv_sub hl [0, 1] rfl)
  by_cases c23 : v4 = 13
  · have hm := hm.2.2.2.2.2.2.2.2.2.2.2.2.2.1 c23
    refine lv_tableIn (off := 154) (tgt := 155) hx hb dX9_count_1 (by rw [c23]; decide) (by rw [c23]; decide) (by rw [c23]; rfl) (by decide) ?_
    exact hJ2 _ hm _ _ _ hw (lv_sub hl [0, 1] rfl)
  by_cases c24 : v4 = 14
  · have hm := hm.2.2.2.2.2.2.2.2.2.2.2.2.2.2.1 c24
    refine lv_tableIn (off := 154) (tgt := 155) hx hb dX9_count_1 (by rw [c24]; decide) (by rw [c24]; decide) (by rw [c24]; rfl) (by decide) ?_
    exact hJ2 _ hm _ _ _ hw (lv_sub hl [0, 1] rfl)
  have hm := hm.2.2.2.2.2.2.2.2.2.2.2.2.2.2.2 c7 c8 c9 c10 c11 c12 c14 c16 c18 c19 c20 c21 c22 c23 c24
  refine lv_tableOut (tgt := 168) hx hb dX9_count_1 (sw_out 14 (fun k hk => by rcases (show k = 0 ∨ k = 1 ∨ k = 2 ∨ k = 3 ∨ k = 4 ∨ k = 5 ∨ k = 6 ∨ k = 7 ∨ k = 8 ∨ k = 9 ∨ k = 10 ∨ k = 11 ∨ k = 12 ∨ k = 13 ∨ k = 14 by omega) with rfl | rfl | rfl | rfl | rfl | rfl | rfl | rfl | rfl | rfl | rfl | rfl | rfl | rfl | rfl <;> assumption)) (by decide) ?_
  refine lv_iconst (v := (-1)) hx hb dX9_count_168 (by decide) ?_
  exact retI (u := ()) hc hw hm dX9_count_169
set_option maxHeartbeats 4000000 in
set_option maxRecDepth 100000 in
theorem c_M_status {l : Launch} {D : va_G} {cy : Nat → ClassId} {a : Nat → Nat} {S : Ob} {Q : Int32 → Prop} (hm : wM_status S Q) : CtI l yX9_status cX9_status 1 (some .int) (rmN 0) D cy [.ref (a 0)] (mW cy a S) (fun _ : Unit => mW cy a S) (fun (r : Int32) (_ : Unit) => Q r) := by
  refine CtI.ofW (by decide) (Nat.le_of_ble_eq_true rfl) ?_
  intro p e s m args below meth c A ls hc hnm hw hl
  have hx := hc.1.1
  have hb := hc.1.2.1
  have hown := hc.1.2.2.2.1
  have hts := hc.1.2.2.2.2
  have hl : lv_has ls 1 [(0, .ref (a 0))] := hl
  obtain ⟨H, hH⟩ : ∃ z, z = s.heap := ⟨_, rfl⟩
  obtain ⟨locs, hLc⟩ : ∃ z : List Loc, z = [] := ⟨_, rfl⟩
  have hw : wV D A s.heap (mW cy a S) H locs := by rw [hH, hLc]; exact hw
  have hgo : W p l e (rmN 0) s m args below meth c H locs 0 0 (MQ below (eI D cy A (fun _ : Unit => mW cy a S) (fun (r : Int32) (_ : Unit) => Q r)) args s (rmN 0).cells (rmN 0).slots A) (F0 m 0 ls []) := ?hgo
  · rw [hH, hLc] at hgo; exact hgo
  refine lv_aload_n hx hb dX9_status_0 rfl (lv_at hl 0 rfl) ?_
  refine gF (k := 0) hc hw inX9 rfl 0 rfl (by decide) (gm 1059 (by decide +kernel) rfl) rfl dX9_status_1 ?_
  exact retI (u := ()) hc hw hm dX9_status_4
