set_option maxHeartbeats 4000000 in
set_option maxRecDepth 100000 in
theorem c_M_lays {l : Launch} {D : va_G} {cy : Nat → ClassId} {a : Nat → Nat} {S : Ob} {Q : Ob → Prop} (hm : wM_lays S Q) : CtV l yX9_lays cX9_lays 3 none (rmN 101) D cy [.ref (a 0)] (mW cy a S) (mW cy a) Q := by
  refine CtV.ofW (by decide) (Nat.le_of_ble_eq_true rfl) ?_
  intro p e s m args below meth c A ls hc hnm hw hl
  have hx := hc.1.1
  have hb := hc.1.2.1
  have hown := hc.1.2.2.2.1
  have hts := hc.1.2.2.2.2
  have hl : lv_has ls 3 [(0, .ref (a 0))] := hl
  obtain ⟨H, hH⟩ : ∃ z, z = s.heap := ⟨_, rfl⟩
  obtain ⟨locs, hLc⟩ : ∃ z : List Loc, z = [] := ⟨_, rfl⟩
  have hw : wV D A s.heap (mW cy a S) H locs := by rw [hH, hLc]; exact hw
  have hgo : W p l e (rmN 101) s m args below meth c H locs 0 0 (MQ below (eV D cy A (mW cy a) Q) args s (rmN 101).cells (rmN 101).slots A) (F0 m 0 ls []) := ?hgo
  · rw [hH, hLc] at hgo; exact hgo
  refine lv_iconst (v := 0) hx hb dX9_lays_0 (by decide) ?_
  refine lv_istore_n (lv' := [(1, .int 0), (0, .ref (a 0))]) hx hb dX9_lays_1 rfl hl (by decide) rfl (fun ls hl => ?_)
  refine wl2_ind (G := fun (x1_1 : Int32) (S2 : Ob) => ∀ (H : Heap) (locs : List Loc) (ls : Array Slot), wV D A s.heap (mW cy a S2) H locs → lv_has ls 3 [(1, .int x1_1), (0, .ref (a 0))] → W p l e (rmN 101) s m args below meth c H locs 0 0 (MQ below (eV D cy A (mW cy a) Q) args s (rmN 101).cells (rmN 101).slots A) (F0 m 2 ls [])) ?_ _ _ hm H locs ls hw (lv_sub hl [0, 1] rfl)
  intro L3 ih3 x1_1 S2 hm H locs ls hw hl
  refine lv_iload_n hx hb dX9_lays_2 rfl (lv_at hl 0 rfl) ?_
  refine lv_aload_n hx hb dX9_lays_3 rfl (lv_at hl 1 rfl) ?_
  refine aV_I (As := []) (rest := [.int x1_1]) hc hw (c_M_tales hm) lk_X9_105 rfl rfl ⟨Nat.le_of_ble_eq_true rfl, Nat.le_of_ble_eq_true rfl⟩ ⟨Nat.le_of_ble_eq_true rfl, Nat.le_of_ble_eq_true rfl⟩ hl.1 rfl (Nat.le_of_ble_eq_true rfl) rfl dX9_lays_4 (fun r4 _ H locs hm hw => ?_)
  have hw : wV D A s.heap (mW cy a S2) H locs := hw
  refine lv_icmp_ge (tgt := 110) hx hb dX9_lays_7 (by decide) (fun c35 => ?_) (fun c35 => ?_)
  · have hm := hm.1 c35
    exact retV (u := S2) hc hw hm dX9_lays_110
  · have hm := hm.2 c35
    refine lv_aload_n hx hb dX9_lays_10 rfl (lv_at hl 1 rfl) ?_
    refine lv_iload_n hx hb dX9_lays_11 rfl (lv_at hl 0 rfl) ?_
    refine lv_iconst (v := (-1)) hx hb dX9_lays_12 (by decide) ?_
    refine aV_V (As := [.int x1_1, .int (-1)]) (rest := []) hc hw (c_M_asksOf hm) lk_X9_265 rfl rfl ⟨Nat.le_of_ble_eq_true rfl, Nat.le_of_ble_eq_true rfl⟩ ⟨Nat.le_of_ble_eq_true rfl, Nat.le_of_ble_eq_true rfl⟩ hl.1 rfl (Nat.le_of_ble_eq_true rfl) rfl dX9_lays_13 (fun S6 H locs hm hw => ?_)
    have hw : wV D A s.heap (mW cy a S6) H locs := hw
    refine lv_aload_n hx hb dX9_lays_16 rfl (lv_at hl 1 rfl) ?_
    refine gF (k := 26) hc hw inX9 rfl 0 rfl (by decide) (gm 1085 (by decide +kernel) rfl) rfl dX9_lays_17 ?_
    refine lv_iload_n hx hb dX9_lays_20 rfl (lv_at hl 0 rfl) ?_
    refine lv_aload_n hx hb dX9_lays_21 rfl (lv_at hl 1 rfl) ?_
    refine gF (k := 23) hc hw inX9 rfl 0 rfl (by decide) (gm 1082 (by decide +kernel) rfl) rfl dX9_lays_22 ?_
    obtain ⟨c8, hm⟩ := hm
    refine sI hc hw 12 rfl c8 rfl dX9_lays_25 (fun H locs hw => ?_)
    obtain ⟨S9, e_S9⟩ : ∃ z : Ob, z = uA S6 26 (Int32.toNatClampNeg x1_1) (S6.1 23) := ⟨_, rfl⟩
    have hm := hm S9 e_S9
    have hw : wV D A s.heap (mW cy a S9) H locs := by rw [e_S9]; exact hw
    refine lv_aload_n hx hb dX9_lays_26 rfl (lv_at hl 1 rfl) ?_
    refine gF (k := 27) hc hw inX9 rfl 0 rfl (by decide) (gm 1086 (by decide +kernel) rfl) rfl dX9_lays_27 ?_
    refine lv_iload_n hx hb dX9_lays_30 rfl (lv_at hl 0 rfl) ?_
    refine lv_aload_n hx hb dX9_lays_31 rfl (lv_at hl 1 rfl) ?_
    refine gF (k := 24) hc hw inX9 rfl 0 rfl (by decide) (gm 1083 (by decide +kernel) rfl) rfl dX9_lays_32 ?_
    obtain ⟨c10, hm⟩ := hm
    refine sI hc hw 13 rfl c10 rfl dX9_lays_35 (fun H locs hw => ?_)
    obtain ⟨S11, e_S11⟩ : ∃ z : Ob, z = uA S9 27 (Int32.toNatClampNeg x1_1) (S9.1 24) := ⟨_, rfl⟩
    have hm := hm S11 e_S11
    have hw : wV D A s.heap (mW cy a S11) H locs := by rw [e_S11]; exact hw
    refine lv_aload_n hx hb dX9_lays_36 rfl (lv_at hl 1 rfl) ?_
    refine gF (k := 28) hc hw inX9 rfl 0 rfl (by decide) (gm 1087 (by decide +kernel) rfl) rfl dX9_lays_37 ?_
    refine lv_iload_n hx hb dX9_lays_40 rfl (lv_at hl 0 rfl) ?_
    refine lv_iconst (v := 0) hx hb dX9_lays_41 (by decide) ?_
    obtain ⟨c12, hm⟩ := hm
    refine sI hc hw 14 rfl c12 rfl dX9_lays_42 (fun H locs hw => ?_)
    obtain ⟨S13, e_S13⟩ : ∃ z : Ob, z = uA S11 28 (Int32.toNatClampNeg x1_1) 0 := ⟨_, rfl⟩
    have hm := hm S13 e_S13
    have hw : wV D A s.heap (mW cy a S13) H locs := by rw [e_S13]; exact hw
    refine lv_iconst (v := 0) hx hb dX9_lays_43 (by decide) ?_
    refine lv_istore_n (lv' := [(2, .int 0), (1, .int x1_1), (0, .ref (a 0))]) hx hb dX9_lays_44 rfl hl (by decide) rfl (fun ls hl => ?_)
    refine wl2_ind (G := fun (x2_14 : Int32) (S15 : Ob) => ∀ (H : Heap) (locs : List Loc) (ls : Array Slot), wV D A s.heap (mW cy a S15) H locs → lv_has ls 3 [(2, .int x2_14), (1, .int x1_1), (0, .ref (a 0))] → W p l e (rmN 101) s m args below meth c H locs 0 0 (MQ below (eV D cy A (mW cy a) Q) args s (rmN 101).cells (rmN 101).slots A) (F0 m 45 ls [])) ?_ _ _ hm H locs ls hw (lv_sub hl [0, 1, 2] rfl)
    intro L16 ih16 x2_14 S15 hm H locs ls hw hl
    refine lv_iload_n hx hb dX9_lays_45 rfl (lv_at hl 0 rfl) ?_
    refine lv_aload_n hx hb dX9_lays_46 rfl (lv_at hl 2 rfl) ?_
    refine gF (k := 3) hc hw inX9 rfl 0 rfl (by decide) (gm 1062 (by decide +kernel) rfl) rfl dX9_lays_47 ?_
    refine lv_bipush (v := 40) hx hb dX9_lays_50 (by decide) ?_
    refine aI hc hw 2 rfl (vin (by decide)) (j := 40) (by decide) dX9_lays_52 ?_
    refine lv_icmp_ge (tgt := 104) hx hb dX9_lays_53 (by decide) (fun c34 => ?_) (fun c34 => ?_)
    · have hm := hm.1 c34
      obtain ⟨v17, e_v17⟩ : ∃ z : Int32, z = x1_1 + 1 := ⟨_, rfl⟩
      have hm := hm v17 e_v17
      refine lv_iinc (v := v17) (lv' := [(1, .int v17), (2, .int x2_14), (0, .ref (a 0))]) hx hb dX9_lays_104 hl (k := 1) rfl (by rw [e_v17]; rfl) (by decide) rfl (fun ls hl => ?_)
      refine lv_goto (tgt := 2) hx hb dX9_lays_107 (by decide) ?_
      exact ih3 _ _ hm _ _ _ hw (lv_sub hl [0, 2] rfl)
    · have hm := hm.2 c34
      refine lv_aload_n hx hb dX9_lays_56 rfl (lv_at hl 2 rfl) ?_
      refine lv_iload_n hx hb dX9_lays_57 rfl (lv_at hl 1 rfl) ?_
      refine lv_iload_n hx hb dX9_lays_58 rfl (lv_at hl 0 rfl) ?_
      refine aV_V (As := [.int x1_1, .int x2_14]) (rest := []) hc hw (c_M_asksOf hm) lk_X9_265 rfl rfl ⟨Nat.le_of_ble_eq_true rfl, Nat.le_of_ble_eq_true rfl⟩ ⟨Nat.le_of_ble_eq_true rfl, Nat.le_of_ble_eq_true rfl⟩ hl.1 rfl (Nat.le_of_ble_eq_true rfl) rfl dX9_lays_59 (fun S18 H locs hm hw => ?_)
      have hw : wV D A s.heap (mW cy a S18) H locs := hw
      refine lv_aload_n hx hb dX9_lays_62 rfl (lv_at hl 2 rfl) ?_
      refine gF (k := 28) hc hw inX9 rfl 0 rfl (by decide) (gm 1087 (by decide +kernel) rfl) rfl dX9_lays_63 ?_
      refine lv_iload_n hx hb dX9_lays_66 rfl (lv_at hl 1 rfl) ?_
      refine lv_dup2_11 hx hb dX9_lays_67 rfl rfl ?_
      obtain ⟨c20, hm⟩ := hm
      refine aI hc hw 14 rfl c20 rfl dX9_lays_68 ?_
      refine lv_aload_n hx hb dX9_lays_69 rfl (lv_at hl 2 rfl) ?_
      refine lv_iload_n hx hb dX9_lays_70 rfl (lv_at hl 1 rfl) ?_
      refine lv_iconst (v := 3) hx hb dX9_lays_71 (by decide) ?_
      refine aV_I (As := [.int x1_1, .int 3]) (rest := [.int (S18.2 28 (Int32.toNatClampNeg x1_1)), .int x1_1, .ref (a 14)]) hc hw (c_M_factOf hm) lk_X9_121 rfl rfl ⟨Nat.le_of_ble_eq_true rfl, Nat.le_of_ble_eq_true rfl⟩ ⟨Nat.le_of_ble_eq_true rfl, Nat.le_of_ble_eq_true rfl⟩ hl.1 rfl (Nat.le_of_ble_eq_true rfl) rfl dX9_lays_72 (fun r21 _ H locs hm hw => ?_)
      have hw : wV D A s.heap (mW cy a S18) H locs := hw
      refine lv_iload_n hx hb dX9_lays_75 rfl (lv_at hl 0 rfl) ?_
      refine zS_I (As := [.int r21, .int x2_14]) (rest := [.int (S18.2 28 (Int32.toNatClampNeg x1_1)), .int x1_1, .ref (a 14)]) hc hw (c_M_isIn hm) lk_X9_269 ⟨Nat.le_of_ble_eq_true rfl, Nat.le_of_ble_eq_true rfl⟩ ⟨Nat.le_of_ble_eq_true rfl, Nat.le_of_ble_eq_true rfl⟩ hl.1 rfl (Nat.le_of_ble_eq_true rfl) rfl dX9_lays_76 (fun r23 H locs hm hw => ?_)
      obtain ⟨J26, eJ26, hm⟩ := jn_e hm
      have hJ26 : ∀ (t25 : Int32) (_ : J26 t25) (H : Heap) (locs : List Loc) (ls : Array Slot), wV D A s.heap (mW cy a S18) H locs → lv_has ls 3 [(0, .ref (a 0)), (1, .int x1_1), (2, .int x2_14)] → W p l e (rmN 101) s m args below meth c H locs 0 0 (MQ below (eV D cy A (mW cy a) Q) args s (rmN 101).cells (rmN 101).slots A) (F0 m 96 ls [.int t25, .int (S18.2 28 (Int32.toNatClampNeg x1_1)), .int x1_1, .ref (a 14)]) := by
        intro t25 hm H locs ls hw hl
        rw [eJ26] at hm
        refine lv_ior hx hb dX9_lays_96 ?_
        obtain ⟨c27, hm⟩ := hm
        refine sI hc hw 14 rfl c27 rfl dX9_lays_97 (fun H locs hw => ?_)
        obtain ⟨S28, e_S28⟩ : ∃ z : Ob, z = uA S18 28 (Int32.toNatClampNeg x1_1) ((S18.2 28 (Int32.toNatClampNeg x1_1)) ||| t25) := ⟨_, rfl⟩
        have hm := hm S28 e_S28
        have hw : wV D A s.heap (mW cy a S28) H locs := by rw [e_S28]; exact hw
        obtain ⟨v29, e_v29⟩ : ∃ z : Int32, z = x2_14 + 1 := ⟨_, rfl⟩
        have hm := hm v29 e_v29
        refine lv_iinc (v := v29) (lv' := [(2, .int v29), (0, .ref (a 0)), (1, .int x1_1)]) hx hb dX9_lays_98 hl (k := 2) rfl (by rw [e_v29]; rfl) (by decide) rfl (fun ls hl => ?_)
        refine lv_goto (tgt := 45) hx hb dX9_lays_101 (by decide) ?_
        exact ih16 _ _ hm _ _ _ hw (lv_sub hl [0, 2, 1] rfl)
      obtain ⟨J31, eJ31, hm⟩ := jn_e hm
      have hJ31 : ∀ (z30 : Unit) (_ : J31 z30) (H : Heap) (locs : List Loc) (ls : Array Slot), wV D A s.heap (mW cy a S18) H locs → lv_has ls 3 [(0, .ref (a 0)), (1, .int x1_1), (2, .int x2_14)] → W p l e (rmN 101) s m args below meth c H locs 0 0 (MQ below (eV D cy A (mW cy a) Q) args s (rmN 101).cells (rmN 101).slots A) (F0 m 95 ls [.int (S18.2 28 (Int32.toNatClampNeg x1_1)), .int x1_1, .ref (a 14)]) := by
        intro z30 hm H locs ls hw hl
        rw [eJ31] at hm
        refine lv_iconst (v := 0) hx hb dX9_lays_95 (by decide) ?_
        exact hJ26 _ hm _ _ _ hw (lv_sub hl [0, 1, 2] rfl)
      refine lv_if_eq (tgt := 95) hx hb dX9_lays_79 (by decide) (fun c33 => ?_) (fun c33 => ?_)
      · have hm := hm.1 c33
        exact hJ31 _ hm _ _ _ hw (lv_sub hl [2, 1, 0] rfl)
      · have hm := hm.2 c33
        refine lv_aload_n hx hb dX9_lays_82 rfl (lv_at hl 2 rfl) ?_
        refine gF (k := 25) hc hw inX9 rfl 0 rfl (by decide) (gm 1084 (by decide +kernel) rfl) rfl dX9_lays_83 ?_
        refine lv_if_ne (tgt := 95) hx hb dX9_lays_86 (by decide) (fun c32 => ?_) (fun c32 => ?_)
        · have hm := hm.1 c32
          exact hJ31 _ hm _ _ _ hw (lv_sub hl [2, 1, 0] rfl)
        · have hm := hm.2 c32
          refine lv_iconst (v := 1) hx hb dX9_lays_89 (by decide) ?_
          refine lv_iload_n hx hb dX9_lays_90 rfl (lv_at hl 0 rfl) ?_
          refine lv_ishl hx hb dX9_lays_91 ?_
          refine lv_goto (tgt := 96) hx hb dX9_lays_92 (by decide) ?_
          exact hJ26 _ hm _ _ _ hw (lv_sub hl [2, 1, 0] rfl)
set_option maxHeartbeats 4000000 in
set_option maxRecDepth 100000 in
theorem c_M_mayNext {l : Launch} {D : va_G} {cy : Nat → ClassId} {a : Nat → Nat} {S : Ob} {x1 : Int32} {x2 : Int32} {Q : Int32 → Prop} (hm : wM_mayNext S x1 x2 Q) : CtI l yX9_mayNext cX9_mayNext 3 (some .boolean) (rmN 0) D cy [.ref (a 0), .int x1, .int x2] (mW cy a S) (fun _ : Unit => mW cy a S) (fun (r : Int32) (_ : Unit) => Q r) := by
  refine CtI.ofW (by decide) (Nat.le_of_ble_eq_true rfl) ?_
  intro p e s m args below meth c A ls hc hnm hw hl
  have hx := hc.1.1
  have hb := hc.1.2.1
  have hown := hc.1.2.2.2.1
  have hts := hc.1.2.2.2.2
  have hl : lv_has ls 3 [(0, .ref (a 0)), (1, .int x1), (2, .int x2)] := hl
  obtain ⟨H, hH⟩ : ∃ z, z = s.heap := ⟨_, rfl⟩
  obtain ⟨locs, hLc⟩ : ∃ z : List Loc, z = [] := ⟨_, rfl⟩
  have hw : wV D A s.heap (mW cy a S) H locs := by rw [hH, hLc]; exact hw
  have hgo : W p l e (rmN 0) s m args below meth c H locs 0 0 (MQ below (eI D cy A (fun _ : Unit => mW cy a S) (fun (r : Int32) (_ : Unit) => Q r)) args s (rmN 0).cells (rmN 0).slots A) (F0 m 0 ls []) := ?hgo
  · rw [hH, hLc] at hgo; exact hgo
  refine lv_aload_n hx hb dX9_mayNext_0 rfl (lv_at hl 0 rfl) ?_
  refine gF (k := 3) hc hw inX9 rfl 0 rfl (by decide) (gm 1062 (by decide +kernel) rfl) rfl dX9_mayNext_1 ?_
  refine lv_bipush (v := 41) hx hb dX9_mayNext_4 (by decide) ?_
  refine aI hc hw 2 rfl (vin (by decide)) (j := 41) (by decide) dX9_mayNext_6 ?_
  refine lv_iconst (v := 1) hx hb dX9_mayNext_7 (by decide) ?_
  refine lv_icmp_eq (tgt := 16) hx hb dX9_mayNext_8 (by decide) (fun c2 => ?_) (fun c2 => ?_)
  · have hm := hm.1 c2
    refine lv_iconst (v := 1) hx hb dX9_mayNext_16 (by decide) ?_
    refine lv_goto (tgt := 21) hx hb dX9_mayNext_17 (by decide) ?_
    exact retZ (u := ()) hc hw rfl hm dX9_mayNext_21
  · have hm := hm.2 c2
    refine lv_iload_n hx hb dX9_mayNext_11 rfl (lv_at hl 1 rfl) ?_
    refine lv_iload_n hx hb dX9_mayNext_12 rfl (lv_at hl 2 rfl) ?_
    refine lv_icmp_eq (tgt := 20) hx hb dX9_mayNext_13 (by decide) (fun c1 => ?_) (fun c1 => ?_)
    · have hm := hm.1 c1
      refine lv_iconst (v := 0) hx hb dX9_mayNext_20 (by decide) ?_
      exact retZ (u := ()) hc hw rfl hm dX9_mayNext_21
    · have hm := hm.2 c1
      refine lv_iconst (v := 1) hx hb dX9_mayNext_16 (by decide) ?_
      refine lv_goto (tgt := 21) hx hb dX9_mayNext_17 (by decide) ?_
      exact retZ (u := ()) hc hw rfl hm dX9_mayNext_21
set_option maxHeartbeats 4000000 in
set_option maxRecDepth 100000 in
theorem c_M_needOf {l : Launch} {D : va_G} {cy : Nat → ClassId} {a : Nat → Nat} {S : Ob} {x1 : Int32} {x2 : Int32} {Q : Int32 → Prop} (hm : wM_needOf S x1 x2 Q) : CtI l yX9_needOf cX9_needOf 7 (some .int) (rmN 1) D cy [.ref (a 0), .int x1, .int x2] (mW cy a S) (fun _ : Unit => mW cy a S) (fun (r : Int32) (_ : Unit) => Q r) := by
  refine CtI.ofW (by decide) (Nat.le_of_ble_eq_true rfl) ?_
  intro p e s m args below meth c A ls hc hnm hw hl
  have hx := hc.1.1
  have hb := hc.1.2.1
  have hown := hc.1.2.2.2.1
  have hts := hc.1.2.2.2.2
  have hl : lv_has ls 7 [(0, .ref (a 0)), (1, .int x1), (2, .int x2)] := hl
  obtain ⟨H, hH⟩ : ∃ z, z = s.heap := ⟨_, rfl⟩
  obtain ⟨locs, hLc⟩ : ∃ z : List Loc, z = [] := ⟨_, rfl⟩
  have hw : wV D A s.heap (mW cy a S) H locs := by rw [hH, hLc]; exact hw
  have hgo : W p l e (rmN 1) s m args below meth c H locs 0 0 (MQ below (eI D cy A (fun _ : Unit => mW cy a S) (fun (r : Int32) (_ : Unit) => Q r)) args s (rmN 1).cells (rmN 1).slots A) (F0 m 0 ls []) := ?hgo
  · rw [hH, hLc] at hgo; exact hgo
  refine lv_ldc (v := 1000000) hx hb hown (hts _ (gm 1281 (by decide +kernel) rfl)) dX9_needOf_0 ?_
  refine lv_istore_n (lv' := [(3, .int 1000000), (0, .ref (a 0)), (1, .int x1), (2, .int x2)]) hx hb dX9_needOf_2 rfl hl (by decide) rfl (fun ls hl => ?_)
  refine lv_iconst (v := 0) hx hb dX9_needOf_3 (by decide) ?_
  refine lv_istore (lv' := [(4, .int 0), (3, .int 1000000), (0, .ref (a 0)), (1, .int x1), (2, .int x2)]) hx hb dX9_needOf_4 hl (by decide) rfl (fun ls hl => ?_)
  refine wl2_ind (G := fun (x4_1 : Int32) (x3_2 : Int32) => ∀ (H : Heap) (locs : List Loc) (ls : Array Slot), wV D A s.heap (mW cy a S) H locs → lv_has ls 7 [(4, .int x4_1), (3, .int x3_2), (0, .ref (a 0)), (1, .int x1), (2, .int x2)] → W p l e (rmN 1) s m args below meth c H locs 0 0 (MQ below (eI D cy A (fun _ : Unit => mW cy a S) (fun (r : Int32) (_ : Unit) => Q r)) args s (rmN 1).cells (rmN 1).slots A) (F0 m 6 ls [])) ?_ _ _ hm H locs ls hw (lv_sub hl [0, 1, 2, 3, 4] rfl)
  intro L3 ih3 x4_1 x3_2 hm H locs ls hw hl
  refine lv_iload hx hb dX9_needOf_6 (lv_at hl 0 rfl) ?_
  refine lv_aload_n hx hb dX9_needOf_8 rfl (lv_at hl 2 rfl) ?_
  refine aV_I (As := []) (rest := [.int x4_1]) hc hw (c_M_tales hm) lk_X9_105 rfl rfl ⟨Nat.le_of_ble_eq_true rfl, Nat.le_of_ble_eq_true rfl⟩ ⟨Nat.le_of_ble_eq_true rfl, Nat.le_of_ble_eq_true rfl⟩ hl.1 rfl (Nat.le_of_ble_eq_true rfl) rfl dX9_needOf_9 (fun r4 _ H locs hm hw => ?_)
  have hw : wV D A s.heap (mW cy a S) H locs := hw
  refine lv_icmp_ge (tgt := 130) hx hb dX9_needOf_12 (by decide) (fun c37 => ?_) (fun c37 => ?_)
  · have hm := hm.1 c37
    refine lv_iload_n hx hb dX9_needOf_130 rfl (lv_at hl 1 rfl) ?_
    exact retI (u := ()) hc hw hm dX9_needOf_131
  · have hm := hm.2 c37
    refine lv_iconst (v := 0) hx hb dX9_needOf_15 (by decide) ?_
    refine lv_istore (lv' := [(5, .int 0), (4, .int x4_1), (3, .int x3_2), (0, .ref (a 0)), (1, .int x1), (2, .int x2)]) hx hb dX9_needOf_16 hl (by decide) rfl (fun ls hl => ?_)
    refine wl2_ind (G := fun (x5_6 : Int32) (x3_7 : Int32) => ∀ (H : Heap) (locs : List Loc) (ls : Array Slot), wV D A s.heap (mW cy a S) H locs → lv_has ls 7 [(5, .int x5_6), (4, .int x4_1), (3, .int x3_7), (0, .ref (a 0)), (1, .int x1), (2, .int x2)] → W p l e (rmN 1) s m args below meth c H locs 0 0 (MQ below (eI D cy A (fun _ : Unit => mW cy a S) (fun (r : Int32) (_ : Unit) => Q r)) args s (rmN 1).cells (rmN 1).slots A) (F0 m 18 ls [])) ?_ _ _ hm H locs ls hw (lv_sub hl [0, 1, 2, 3, 4, 5] rfl)
    intro L8 ih8 x5_6 x3_7 hm H locs ls hw hl
    refine lv_iload hx hb dX9_needOf_18 (lv_at hl 0 rfl) ?_
    refine lv_iconst (v := 4) hx hb dX9_needOf_20 (by decide) ?_
    refine lv_icmp_ge (tgt := 124) hx hb dX9_needOf_21 (by decide) (fun c36 => ?_) (fun c36 => ?_)
    · have hm := hm.1 c36
      obtain ⟨v9, e_v9⟩ : ∃ z : Int32, z = x4_1 + 1 := ⟨_, rfl⟩
      have hm := hm v9 e_v9
      refine lv_iinc (v := v9) (lv' := [(4, .int v9), (5, .int x5_6), (3, .int x3_7), (0, .ref (a 0)), (1, .int x1), (2, .int x2)]) hx hb dX9_needOf_124 hl (k := 1) rfl (by rw [e_v9]; rfl) (by decide) rfl (fun ls hl => ?_)
      refine lv_goto (tgt := 6) hx hb dX9_needOf_127 (by decide) ?_
      exact ih3 _ _ hm _ _ _ hw (lv_sub hl [0, 2, 3, 4, 5] rfl)
    · have hm := hm.2 c36
      refine lv_iload_n hx hb dX9_needOf_24 rfl (lv_at hl 4 rfl) ?_
      refine lv_iload hx hb dX9_needOf_25 (lv_at hl 1 rfl) ?_
      refine zS_I (As := [.int x1, .int x4_1]) (rest := []) hc hw (c_M_isIn hm) lk_X9_269 ⟨Nat.le_of_ble_eq_true rfl, Nat.le_of_ble_eq_true rfl⟩ ⟨Nat.le_of_ble_eq_true rfl, Nat.le_of_ble_eq_true rfl⟩ hl.1 rfl (Nat.le_of_ble_eq_true rfl) rfl dX9_needOf_27 (fun r10 H locs hm hw => ?_)
      refine lv_if_eq (tgt := 118) hx hb dX9_needOf_30 (by decide) (fun c35 => ?_) (fun c35 => ?_)
      · have hm := hm.1 c35
        obtain ⟨v12, e_v12⟩ : ∃ z : Int32, z = x5_6 + 1 := ⟨_, rfl⟩
        have hm := hm v12 e_v12
        refine lv_iinc (v := v12) (lv' := [(5, .int v12), (4, .int x4_1), (3, .int x3_7), (0, .ref (a 0)), (1, .int x1), (2, .int x2)]) hx hb dX9_needOf_118 hl (k := 0) rfl (by rw [e_v12]; rfl) (by decide) rfl (fun ls hl => ?_)
        refine lv_goto (tgt := 18) hx hb dX9_needOf_121 (by decide) ?_
        exact ih8 _ _ hm _ _ _ hw (lv_sub hl [0, 1, 2, 3, 4, 5] rfl)
      · have hm := hm.2 c35
        refine lv_aload_n hx hb dX9_needOf_33 rfl (lv_at hl 3 rfl) ?_
        refine gF (k := 28) hc hw inX9 rfl 0 rfl (by decide) (gm 1087 (by decide +kernel) rfl) rfl dX9_needOf_34 ?_
        refine lv_iload hx hb dX9_needOf_37 (lv_at hl 1 rfl) ?_
        obtain ⟨c13, hm⟩ := hm
        refine aI hc hw 14 rfl c13 rfl dX9_needOf_39 ?_
        refine lv_iload hx hb dX9_needOf_40 (lv_at hl 0 rfl) ?_
        refine zS_I (As := [.int (S.2 28 (Int32.toNatClampNeg x4_1)), .int x5_6]) (rest := []) hc hw (c_M_isIn hm) lk_X9_269 ⟨Nat.le_of_ble_eq_true rfl, Nat.le_of_ble_eq_true rfl⟩ ⟨Nat.le_of_ble_eq_true rfl, Nat.le_of_ble_eq_true rfl⟩ hl.1 rfl (Nat.le_of_ble_eq_true rfl) rfl dX9_needOf_42 (fun r14 H locs hm hw => ?_)
        refine lv_if_eq (tgt := 118) hx hb dX9_needOf_45 (by decide) (fun c34 => ?_) (fun c34 => ?_)
        · have hm := hm.1 c34
          obtain ⟨v16, e_v16⟩ : ∃ z : Int32, z = x5_6 + 1 := ⟨_, rfl⟩
          have hm := hm v16 e_v16
          refine lv_iinc (v := v16) (lv' := [(5, .int v16), (4, .int x4_1), (3, .int x3_7), (0, .ref (a 0)), (1, .int x1), (2, .int x2)]) hx hb dX9_needOf_118 hl (k := 0) rfl (by rw [e_v16]; rfl) (by decide) rfl (fun ls hl => ?_)
          refine lv_goto (tgt := 18) hx hb dX9_needOf_121 (by decide) ?_
          exact ih8 _ _ hm _ _ _ hw (lv_sub hl [0, 1, 2, 3, 4, 5] rfl)
        · have hm := hm.2 c34
          refine lv_aload_n hx hb dX9_needOf_48 rfl (lv_at hl 3 rfl) ?_
          refine lv_iload_n hx hb dX9_needOf_49 rfl (lv_at hl 5 rfl) ?_
          refine lv_iload hx hb dX9_needOf_50 (lv_at hl 0 rfl) ?_
          refine aV_I (As := [.int x2, .int x5_6]) (rest := []) hc hw (c_M_mayNext hm) lk_X9_288 rfl rfl ⟨Nat.le_of_ble_eq_true rfl, Nat.le_of_ble_eq_true rfl⟩ ⟨Nat.le_of_ble_eq_true rfl, Nat.le_of_ble_eq_true rfl⟩ hl.1 rfl (Nat.le_of_ble_eq_true rfl) rfl dX9_needOf_52 (fun r17 _ H locs hm hw => ?_)
          have hw : wV D A s.heap (mW cy a S) H locs := hw
          refine lv_if_ne (tgt := 61) hx hb dX9_needOf_55 (by decide) (fun c33 => ?_) (fun c33 => ?_)
          · have hm := hm.1 c33
            refine lv_aload_n hx hb dX9_needOf_61 rfl (lv_at hl 3 rfl) ?_
            refine lv_iload hx hb dX9_needOf_62 (lv_at hl 1 rfl) ?_
            refine lv_iconst (v := 0) hx hb dX9_needOf_64 (by decide) ?_
            refine aV_I (As := [.int x4_1, .int 0]) (rest := []) hc hw (c_M_factOf hm) lk_X9_121 rfl rfl ⟨Nat.le_of_ble_eq_true rfl, Nat.le_of_ble_eq_true rfl⟩ ⟨Nat.le_of_ble_eq_true rfl, Nat.le_of_ble_eq_true rfl⟩ hl.1 rfl (Nat.le_of_ble_eq_true rfl) rfl dX9_needOf_65 (fun r19 _ H locs hm hw => ?_)
            have hw : wV D A s.heap (mW cy a S) H locs := hw
            refine lv_aload_n hx hb dX9_needOf_68 rfl (lv_at hl 3 rfl) ?_
            refine gF (k := 30) hc hw inX9 rfl 0 rfl (by decide) (gm 1089 (by decide +kernel) rfl) rfl dX9_needOf_69 ?_
            refine lv_iconst (v := 5) hx hb dX9_needOf_72 (by decide) ?_
            refine lv_iload_n hx hb dX9_needOf_73 rfl (lv_at hl 4 rfl) ?_
            refine lv_iconst (v := 1) hx hb dX9_needOf_74 (by decide) ?_
            refine lv_iload hx hb dX9_needOf_75 (lv_at hl 1 rfl) ?_
            refine lv_ishl hx hb dX9_needOf_77 ?_
            refine lv_iconst (v := (-1)) hx hb dX9_needOf_78 (by decide) ?_
            refine lv_ixor hx hb dX9_needOf_79 ?_
            refine lv_iand hx hb dX9_needOf_80 ?_
            refine lv_imul hx hb dX9_needOf_81 ?_
            refine lv_iload hx hb dX9_needOf_82 (lv_at hl 0 rfl) ?_
            refine lv_iadd hx hb dX9_needOf_84 ?_
            obtain ⟨c21, hm⟩ := hm
            refine aI hc hw 15 rfl c21 rfl dX9_needOf_85 ?_
            refine zS_I (As := [.int r19, .int (S.2 30 (Int32.toNatClampNeg ((5 * (x1 &&& (((1 : Int32) <<< (x4_1 &&& 31)) ^^^ (-1)))) + x5_6)))]) (rest := []) hc hw (c_M_greater hm) lk_X9_291 ⟨Nat.le_of_ble_eq_true rfl, Nat.le_of_ble_eq_true rfl⟩ ⟨Nat.le_of_ble_eq_true rfl, Nat.le_of_ble_eq_true rfl⟩ hl.1 rfl (Nat.le_of_ble_eq_true rfl) rfl dX9_needOf_86 (fun r22 H locs hm hw => ?_)
            refine lv_istore (lv' := [(6, .int r22), (5, .int x5_6), (4, .int x4_1), (3, .int x3_7), (0, .ref (a 0)), (1, .int x1), (2, .int x2)]) hx hb dX9_needOf_89 hl (by decide) rfl (fun ls hl => ?_)
            refine lv_iload hx hb dX9_needOf_91 (lv_at hl 0 rfl) ?_
            refine lv_aload_n hx hb dX9_needOf_93 rfl (lv_at hl 4 rfl) ?_
            refine lv_iload hx hb dX9_needOf_94 (lv_at hl 2 rfl) ?_
            refine lv_iconst (v := 1) hx hb dX9_needOf_96 (by decide) ?_
            refine aV_I (As := [.int x4_1, .int 1]) (rest := [.int r22]) hc hw (c_M_factOf hm) lk_X9_121 rfl rfl ⟨Nat.le_of_ble_eq_true rfl, Nat.le_of_ble_eq_true rfl⟩ ⟨Nat.le_of_ble_eq_true rfl, Nat.le_of_ble_eq_true rfl⟩ hl.1 rfl (Nat.le_of_ble_eq_true rfl) rfl dX9_needOf_97 (fun r24 _ H locs hm hw => ?_)
            have hw : wV D A s.heap (mW cy a S) H locs := hw
            refine lv_icmp_gt (tgt := 118) hx hb dX9_needOf_100 (by decide) (fun c31 => ?_) (fun c31 => ?_)
            · have hm := hm.1 c31
              obtain ⟨v26, e_v26⟩ : ∃ z : Int32, z = x5_6 + 1 := ⟨_, rfl⟩
              have hm := hm v26 e_v26
              refine lv_iinc (v := v26) (lv' := [(5, .int v26), (6, .int r22), (4, .int x4_1), (3, .int x3_7), (0, .ref (a 0)), (1, .int x1), (2, .int x2)]) hx hb dX9_needOf_118 hl (k := 1) rfl (by rw [e_v26]; rfl) (by decide) rfl (fun ls hl => ?_)
              refine lv_goto (tgt := 18) hx hb dX9_needOf_121 (by decide) ?_
              exact ih8 _ _ hm _ _ _ hw (lv_sub hl [0, 2, 3, 4, 5, 6] rfl)
            · have hm := hm.2 c31
              refine lv_iload_n hx hb dX9_needOf_103 rfl (lv_at hl 3 rfl) ?_
              refine lv_iload hx hb dX9_needOf_104 (lv_at hl 0 rfl) ?_
              refine lv_aload_n hx hb dX9_needOf_106 rfl (lv_at hl 4 rfl) ?_
              refine gF (k := 27) hc hw inX9 rfl 0 rfl (by decide) (gm 1086 (by decide +kernel) rfl) rfl dX9_needOf_107 ?_
              refine lv_iload hx hb dX9_needOf_110 (lv_at hl 2 rfl) ?_
              obtain ⟨c27, hm⟩ := hm
              refine aI hc hw 13 rfl c27 rfl dX9_needOf_112 ?_
              refine lv_iadd hx hb dX9_needOf_113 ?_
              refine zS_I (As := [.int x3_7, .int (r22 + (S.2 27 (Int32.toNatClampNeg x4_1)))]) (rest := []) hc hw (c_M_lesser hm) lk_X9_294 ⟨Nat.le_of_ble_eq_true rfl, Nat.le_of_ble_eq_true rfl⟩ ⟨Nat.le_of_ble_eq_true rfl, Nat.le_of_ble_eq_true rfl⟩ hl.1 rfl (Nat.le_of_ble_eq_true rfl) rfl dX9_needOf_114 (fun r28 H locs hm hw => ?_)
              refine lv_istore_n (lv' := [(3, .int r28), (6, .int r22), (5, .int x5_6), (4, .int x4_1), (0, .ref (a 0)), (1, .int x1), (2, .int x2)]) hx hb dX9_needOf_117 rfl hl (by decide) rfl (fun ls hl => ?_)
              obtain ⟨v30, e_v30⟩ : ∃ z : Int32, z = x5_6 + 1 := ⟨_, rfl⟩
              have hm := hm v30 e_v30
              refine lv_iinc (v := v30) (lv' := [(5, .int v30), (3, .int r28), (6, .int r22), (4, .int x4_1), (0, .ref (a 0)), (1, .int x1), (2, .int x2)]) hx hb dX9_needOf_118 hl (k := 2) rfl (by rw [e_v30]; rfl) (by decide) rfl (fun ls hl => ?_)
              refine lv_goto (tgt := 18) hx hb dX9_needOf_121 (by decide) ?_
              exact ih8 _ _ hm _ _ _ hw (lv_sub hl [0, 3, 1, 4, 5, 6] rfl)
          · have hm := hm.2 c33
            refine lv_goto (tgt := 118) hx hb dX9_needOf_58 (by decide) ?_
            obtain ⟨v32, e_v32⟩ : ∃ z : Int32, z = x5_6 + 1 := ⟨_, rfl⟩
            have hm := hm v32 e_v32
            refine lv_iinc (v := v32) (lv' := [(5, .int v32), (4, .int x4_1), (3, .int x3_7), (0, .ref (a 0)), (1, .int x1), (2, .int x2)]) hx hb dX9_needOf_118 hl (k := 0) rfl (by rw [e_v32]; rfl) (by decide) rfl (fun ls hl => ?_)
            refine lv_goto (tgt := 18) hx hb dX9_needOf_121 (by decide) ?_
            exact ih8 _ _ hm _ _ _ hw (lv_sub hl [0, 1, 2, 3, 4, 5] rfl)
set_option maxHeartbeats 4000000 in
set_option maxRecDepth 100000 in
theorem c_M_needs {l : Launch} {D : va_G} {cy : Nat → ClassId} {a : Nat → Nat} {S : Ob} {Q : Ob → Prop} (hm : wM_needs S Q) : CtV l yX9_needs cX9_needs 3 none (rmN 2) D cy [.ref (a 0)] (mW cy a S) (mW cy a) Q := by
  refine CtV.ofW (by decide) (Nat.le_of_ble_eq_true rfl) ?_
  intro p e s m args below meth c A ls hc hnm hw hl
  have hx := hc.1.1
  have hb := hc.1.2.1
  have hown := hc.1.2.2.2.1
  have hts := hc.1.2.2.2.2
  have hl : lv_has ls 3 [(0, .ref (a 0))] := hl
  obtain ⟨H, hH⟩ : ∃ z, z = s.heap := ⟨_, rfl⟩
  obtain ⟨locs, hLc⟩ : ∃ z : List Loc, z = [] := ⟨_, rfl⟩
  have hw : wV D A s.heap (mW cy a S) H locs := by rw [hH, hLc]; exact hw
  have hgo : W p l e (rmN 2) s m args below meth c H locs 0 0 (MQ below (eV D cy A (mW cy a) Q) args s (rmN 2).cells (rmN 2).slots A) (F0 m 0 ls []) := ?hgo
  · rw [hH, hLc] at hgo; exact hgo
  refine lv_iconst (v := 0) hx hb dX9_needs_0 (by decide) ?_
  refine lv_istore_n (lv' := [(1, .int 0), (0, .ref (a 0))]) hx hb dX9_needs_1 rfl hl (by decide) rfl (fun ls hl => ?_)
  refine wl2_ind (G := fun (x1_1 : Int32) (S2 : Ob) => ∀ (H : Heap) (locs : List Loc) (ls : Array Slot), wV D A s.heap (mW cy a S2) H locs → lv_has ls 3 [(1, .int x1_1), (0, .ref (a 0))] → W p l e (rmN 2) s m args below meth c H locs 0 0 (MQ below (eV D cy A (mW cy a) Q) args s (rmN 2).cells (rmN 2).slots A) (F0 m 2 ls [])) ?_ _ _ hm H locs ls hw (lv_sub hl [0, 1] rfl)
  intro L3 ih3 x1_1 S2 hm H locs ls hw hl
  refine lv_iload_n hx hb dX9_needs_2 rfl (lv_at hl 0 rfl) ?_
  refine lv_iconst (v := 1) hx hb dX9_needs_3 (by decide) ?_
  refine lv_aload_n hx hb dX9_needs_4 rfl (lv_at hl 1 rfl) ?_
  refine aV_I (As := []) (rest := [.int 1, .int x1_1]) hc hw (c_M_tales hm) lk_X9_105 rfl rfl ⟨Nat.le_of_ble_eq_true rfl, Nat.le_of_ble_eq_true rfl⟩ ⟨Nat.le_of_ble_eq_true rfl, Nat.le_of_ble_eq_true rfl⟩ hl.1 rfl (Nat.le_of_ble_eq_true rfl) rfl dX9_needs_5 (fun r4 _ H locs hm hw => ?_)
  have hw : wV D A s.heap (mW cy a S2) H locs := hw
  refine lv_ishl hx hb dX9_needs_8 ?_
  refine lv_icmp_ge (tgt := 55) hx hb dX9_needs_9 (by decide) (fun c19 => ?_) (fun c19 => ?_)
  · have hm := hm.1 c19
    exact retV (u := S2) hc hw hm dX9_needs_55
  · have hm := hm.2 c19
    refine lv_iconst (v := 0) hx hb dX9_needs_12 (by decide) ?_
    refine lv_istore_n (lv' := [(2, .int 0), (1, .int x1_1), (0, .ref (a 0))]) hx hb dX9_needs_13 rfl hl (by decide) rfl (fun ls hl => ?_)
    refine wl2_ind (G := fun (x2_6 : Int32) (S7 : Ob) => ∀ (H : Heap) (locs : List Loc) (ls : Array Slot), wV D A s.heap (mW cy a S7) H locs → lv_has ls 3 [(2, .int x2_6), (1, .int x1_1), (0, .ref (a 0))] → W p l e (rmN 2) s m args below meth c H locs 0 0 (MQ below (eV D cy A (mW cy a) Q) args s (rmN 2).cells (rmN 2).slots A) (F0 m 14 ls [])) ?_ _ _ hm H locs ls hw (lv_sub hl [0, 1, 2] rfl)
    intro L8 ih8 x2_6 S7 hm H locs ls hw hl
    refine lv_iload_n hx hb dX9_needs_14 rfl (lv_at hl 0 rfl) ?_
    refine lv_iconst (v := 4) hx hb dX9_needs_15 (by decide) ?_
    refine lv_icmp_gt (tgt := 49) hx hb dX9_needs_16 (by decide) (fun c18 => ?_) (fun c18 => ?_)
    · have hm := hm.1 c18
      obtain ⟨v9, e_v9⟩ : ∃ z : Int32, z = x1_1 + 1 := ⟨_, rfl⟩
      have hm := hm v9 e_v9
      refine lv_iinc (v := v9) (lv' := [(1, .int v9), (2, .int x2_6), (0, .ref (a 0))]) hx hb dX9_needs_49 hl (k := 1) rfl (by rw [e_v9]; rfl) (by decide) rfl (fun ls hl => ?_)
      refine lv_goto (tgt := 2) hx hb dX9_needs_52 (by decide) ?_
      exact ih3 _ _ hm _ _ _ hw (lv_sub hl [0, 2] rfl)
    · have hm := hm.2 c18
      refine lv_aload_n hx hb dX9_needs_19 rfl (lv_at hl 2 rfl) ?_
      refine gF (k := 30) hc hw inX9 rfl 0 rfl (by decide) (gm 1089 (by decide +kernel) rfl) rfl dX9_needs_20 ?_
      refine lv_iconst (v := 5) hx hb dX9_needs_23 (by decide) ?_
      refine lv_iload_n hx hb dX9_needs_24 rfl (lv_at hl 1 rfl) ?_
      refine lv_imul hx hb dX9_needs_25 ?_
      refine lv_iload_n hx hb dX9_needs_26 rfl (lv_at hl 0 rfl) ?_
      refine lv_iadd hx hb dX9_needs_27 ?_
      refine lv_iload_n hx hb dX9_needs_28 rfl (lv_at hl 1 rfl) ?_
      obtain ⟨J11, eJ11, hm⟩ := jn_e hm
      have hJ11 : ∀ (t10 : Int32) (_ : J11 t10) (H : Heap) (locs : List Loc) (ls : Array Slot), wV D A s.heap (mW cy a S7) H locs → lv_has ls 3 [(0, .ref (a 0)), (1, .int x1_1), (2, .int x2_6)] → W p l e (rmN 2) s m args below meth c H locs 0 0 (MQ below (eV D cy A (mW cy a) Q) args s (rmN 2).cells (rmN 2).slots A) (F0 m 42 ls [.int t10, .int ((5 * x1_1) + x2_6), .ref (a 15)]) := by
        intro t10 hm H locs ls hw hl
        rw [eJ11] at hm
        obtain ⟨c12, hm⟩ := hm
        refine sI hc hw 15 rfl c12 rfl dX9_needs_42 (fun H locs hw => ?_)
        obtain ⟨S13, e_S13⟩ : ∃ z : Ob, z = uA S7 30 (Int32.toNatClampNeg ((5 * x1_1) + x2_6)) t10 := ⟨_, rfl⟩
        have hm := hm S13 e_S13
        have hw : wV D A s.heap (mW cy a S13) H locs := by rw [e_S13]; exact hw
        obtain ⟨v14, e_v14⟩ : ∃ z : Int32, z = x2_6 + 1 := ⟨_, rfl⟩
        have hm := hm v14 e_v14
        refine lv_iinc (v := v14) (lv' := [(2, .int v14), (0, .ref (a 0)), (1, .int x1_1)]) hx hb dX9_needs_43 hl (k := 2) rfl (by rw [e_v14]; rfl) (by decide) rfl (fun ls hl => ?_)
        refine lv_goto (tgt := 14) hx hb dX9_needs_46 (by decide) ?_
        exact ih8 _ _ hm _ _ _ hw (lv_sub hl [0, 2, 1] rfl)
      refine lv_if_ne (tgt := 36) hx hb dX9_needs_29 (by decide) (fun c17 => ?_) (fun c17 => ?_)
      · have hm := hm.1 c17
        refine lv_aload_n hx hb dX9_needs_36 rfl (lv_at hl 2 rfl) ?_
        refine lv_iload_n hx hb dX9_needs_37 rfl (lv_at hl 1 rfl) ?_
        refine lv_iload_n hx hb dX9_needs_38 rfl (lv_at hl 0 rfl) ?_
        refine aV_I (As := [.int x1_1, .int x2_6]) (rest := [.int ((5 * x1_1) + x2_6), .ref (a 15)]) hc hw (c_M_needOf hm) lk_X9_285 rfl rfl ⟨Nat.le_of_ble_eq_true rfl, Nat.le_of_ble_eq_true rfl⟩ ⟨Nat.le_of_ble_eq_true rfl, Nat.le_of_ble_eq_true rfl⟩ hl.1 rfl (Nat.le_of_ble_eq_true rfl) rfl dX9_needs_39 (fun r15 _ H locs hm hw => ?_)
        have hw : wV D A s.heap (mW cy a S7) H locs := hw
        exact hJ11 _ hm _ _ _ hw (lv_sub hl [2, 1, 0] rfl)
      · have hm := hm.2 c17
        refine lv_iconst (v := 0) hx hb dX9_needs_32 (by decide) ?_
        refine lv_goto (tgt := 42) hx hb dX9_needs_33 (by decide) ?_
        exact hJ11 _ hm _ _ _ hw (lv_sub hl [2, 1, 0] rfl)
set_option maxHeartbeats 4000000 in
set_option maxRecDepth 100000 in
theorem c_M_looks {l : Launch} {D : va_G} {cy : Nat → ClassId} {a : Nat → Nat} {S : Ob} {Q : Ob → Prop} (hm : wM_looks S Q) : CtV l yX9_looks cX9_looks 1 none (rmN 102) D cy [.ref (a 0)] (mW cy a S) (mW cy a) Q := by
  refine CtV.ofW (by decide) (Nat.le_of_ble_eq_true rfl) ?_
  intro p e s m args below meth c A ls hc hnm hw hl
  have hx := hc.1.1
  have hb := hc.1.2.1
  have hown := hc.1.2.2.2.1
  have hts := hc.1.2.2.2.2
  have hl : lv_has ls 1 [(0, .ref (a 0))] := hl
  obtain ⟨H, hH⟩ : ∃ z, z = s.heap := ⟨_, rfl⟩
  obtain ⟨locs, hLc⟩ : ∃ z : List Loc, z = [] := ⟨_, rfl⟩
  have hw : wV D A s.heap (mW cy a S) H locs := by rw [hH, hLc]; exact hw
  have hgo : W p l e (rmN 102) s m args below meth c H locs 0 0 (MQ below (eV D cy A (mW cy a) Q) args s (rmN 102).cells (rmN 102).slots A) (F0 m 0 ls []) := ?hgo
  · rw [hH, hLc] at hgo; exact hgo
  refine lv_aload_n hx hb dX9_looks_0 rfl (lv_at hl 0 rfl) ?_
  refine gF (k := 29) hc hw inX9 rfl 0 rfl (by decide) (gm 1088 (by decide +kernel) rfl) rfl dX9_looks_1 ?_
  refine lv_aload_n hx hb dX9_looks_4 rfl (lv_at hl 0 rfl) ?_
  refine gF (k := 1) hc hw inX9 rfl 0 rfl (by decide) (gm 1060 (by decide +kernel) rfl) rfl dX9_looks_5 ?_
  refine lv_icmp_ne (tgt := 12) hx hb dX9_looks_8 (by decide) (fun c6 => ?_) (fun c6 => ?_)
  · have hm := hm.1 c6
    refine lv_aload_n hx hb dX9_looks_12 rfl (lv_at hl 0 rfl) ?_
    refine lv_aload_n hx hb dX9_looks_13 rfl (lv_at hl 0 rfl) ?_
    refine gF (k := 1) hc hw inX9 rfl 0 rfl (by decide) (gm 1060 (by decide +kernel) rfl) rfl dX9_looks_14 ?_
    refine pF (k := 29) (ty := .int) hc hw inX9 tyX9_ok nmX9 rfl 0 rfl (by decide) (gm 1088 (by decide +kernel) rfl) rfl (by decide +kernel) rfl rfl (Nat.le_of_ble_eq_true rfl) dX9_looks_17 (fun H locs hw => ?_)
    obtain ⟨S1, e_S1⟩ : ∃ z : Ob, z = uS S 29 (S.1 1) := ⟨_, rfl⟩
    have hm := hm S1 e_S1
    have hw : wV D A s.heap (mW cy a S1) H locs := by rw [e_S1]; exact hw
    refine lv_aload_n hx hb dX9_looks_20 rfl (lv_at hl 0 rfl) ?_
    refine aV_V (As := []) (rest := []) hc hw (c_M_lays hm) lk_X9_273 rfl rfl ⟨Nat.le_of_ble_eq_true rfl, Nat.le_of_ble_eq_true rfl⟩ ⟨Nat.le_of_ble_eq_true rfl, Nat.le_of_ble_eq_true rfl⟩ hl.1 rfl (Nat.le_of_ble_eq_true rfl) rfl dX9_looks_21 (fun S2 H locs hm hw => ?_)
    have hw : wV D A s.heap (mW cy a S2) H locs := hw
    refine lv_aload_n hx hb dX9_looks_24 rfl (lv_at hl 0 rfl) ?_
    refine aV_V (As := []) (rest := []) hc hw (c_M_needs hm) lk_X9_276 rfl rfl ⟨Nat.le_of_ble_eq_true rfl, Nat.le_of_ble_eq_true rfl⟩ ⟨Nat.le_of_ble_eq_true rfl, Nat.le_of_ble_eq_true rfl⟩ hl.1 rfl (Nat.le_of_ble_eq_true rfl) rfl dX9_looks_25 (fun S4 H locs hm hw => ?_)
    have hw : wV D A s.heap (mW cy a S4) H locs := hw
    exact retV (u := S4) hc hw hm dX9_looks_28
  · have hm := hm.2 c6
    exact retV (u := S) hc hw hm dX9_looks_11
set_option maxHeartbeats 4000000 in
set_option maxRecDepth 100000 in
theorem c_M_of {l : Launch} {D : va_G} {cy : Nat → ClassId} {a : Nat → Nat} {S : Ob} {x1 : Int32} {x2 : Int32} {Q : Int32 → Ob → Prop} (hm : wM_of S x1 x2 Q) : CtI l yX9_of cX9_of 3 (some .int) (rmN 103) D cy [.ref (a 0), .int x1, .int x2] (mW cy a S) (mW cy a) Q := by
  refine CtI.ofW (by decide) (Nat.le_of_ble_eq_true rfl) ?_
  intro p e s m args below meth c A ls hc hnm hw hl
  have hx := hc.1.1
  have hb := hc.1.2.1
  have hown := hc.1.2.2.2.1
  have hts := hc.1.2.2.2.2
  have hl : lv_has ls 3 [(0, .ref (a 0)), (1, .int x1), (2, .int x2)] := hl
  obtain ⟨H, hH⟩ : ∃ z, z = s.heap := ⟨_, rfl⟩
  obtain ⟨locs, hLc⟩ : ∃ z : List Loc, z = [] := ⟨_, rfl⟩
  have hw : wV D A s.heap (mW cy a S) H locs := by rw [hH, hLc]; exact hw
  have hgo : W p l e (rmN 103) s m args below meth c H locs 0 0 (MQ below (eI D cy A (mW cy a) Q) args s (rmN 103).cells (rmN 103).slots A) (F0 m 0 ls []) := ?hgo
  · rw [hH, hLc] at hgo; exact hgo
  refine lv_aload_n hx hb dX9_of_0 rfl (lv_at hl 0 rfl) ?_
  refine lv_iload_n hx hb dX9_of_1 rfl (lv_at hl 1 rfl) ?_
  refine aV_I (As := [.int x1]) (rest := []) hc hw (c_M_isTale hm) lk_X9_117 rfl rfl ⟨Nat.le_of_ble_eq_true rfl, Nat.le_of_ble_eq_true rfl⟩ ⟨Nat.le_of_ble_eq_true rfl, Nat.le_of_ble_eq_true rfl⟩ hl.1 rfl (Nat.le_of_ble_eq_true rfl) rfl dX9_of_2 (fun r1 _ H locs hm hw => ?_)
  have hw : wV D A s.heap (mW cy a S) H locs := hw
  refine lv_if_eq (tgt := 17) hx hb dX9_of_5 (by decide) (fun c14 => ?_) (fun c14 => ?_)
  · have hm := hm.1 c14
    refine lv_iconst (v := (-1)) hx hb dX9_of_17 (by decide) ?_
    exact retI (u := S) hc hw hm dX9_of_18
  · have hm := hm.2 c14
    refine lv_iload_n hx hb dX9_of_8 rfl (lv_at hl 2 rfl) ?_
    refine lv_iconst (v := 0) hx hb dX9_of_9 (by decide) ?_
    refine lv_iconst (v := 5) hx hb dX9_of_10 (by decide) ?_
    refine zS_I (As := [.int x2, .int 0, .int 5]) (rest := []) hc hw (c_M_lies hm) lk_X9_94 ⟨Nat.le_of_ble_eq_true rfl, Nat.le_of_ble_eq_true rfl⟩ ⟨Nat.le_of_ble_eq_true rfl, Nat.le_of_ble_eq_true rfl⟩ hl.1 rfl (Nat.le_of_ble_eq_true rfl) rfl dX9_of_11 (fun r3 H locs hm hw => ?_)
    refine lv_if_ne (tgt := 19) hx hb dX9_of_14 (by decide) (fun c13 => ?_) (fun c13 => ?_)
    · have hm := hm.1 c13
      refine lv_iload_n hx hb dX9_of_19 rfl (lv_at hl 2 rfl) ?_
      refine lv_iconst (v := 4) hx hb dX9_of_20 (by decide) ?_
      refine lv_icmp_ge (tgt := 31) hx hb dX9_of_21 (by decide) (fun c12 => ?_) (fun c12 => ?_)
      · have hm := hm.1 c12
        refine lv_aload_n hx hb dX9_of_31 rfl (lv_at hl 0 rfl) ?_
        refine aV_V (As := []) (rest := []) hc hw (c_M_looks hm) lk_X9_279 rfl rfl ⟨Nat.le_of_ble_eq_true rfl, Nat.le_of_ble_eq_true rfl⟩ ⟨Nat.le_of_ble_eq_true rfl, Nat.le_of_ble_eq_true rfl⟩ hl.1 rfl (Nat.le_of_ble_eq_true rfl) rfl dX9_of_32 (fun S5 H locs hm hw => ?_)
        have hw : wV D A s.heap (mW cy a S5) H locs := hw
        refine lv_iload_n hx hb dX9_of_35 rfl (lv_at hl 2 rfl) ?_
        refine lv_iconst (v := 4) hx hb dX9_of_36 (by decide) ?_
        refine lv_icmp_ne (tgt := 49) hx hb dX9_of_37 (by decide) (fun c9 => ?_) (fun c9 => ?_)
        · have hm := hm.1 c9
          refine lv_aload_n hx hb dX9_of_49 rfl (lv_at hl 0 rfl) ?_
          refine gF (k := 27) hc hw inX9 rfl 0 rfl (by decide) (gm 1086 (by decide +kernel) rfl) rfl dX9_of_50 ?_
          refine lv_iload_n hx hb dX9_of_53 rfl (lv_at hl 1 rfl) ?_
          obtain ⟨c7, hm⟩ := hm
          refine aI hc hw 13 rfl c7 rfl dX9_of_54 ?_
          exact retI (u := S5) hc hw hm dX9_of_55
        · have hm := hm.2 c9
          refine lv_aload_n hx hb dX9_of_40 rfl (lv_at hl 0 rfl) ?_
          refine gF (k := 26) hc hw inX9 rfl 0 rfl (by decide) (gm 1085 (by decide +kernel) rfl) rfl dX9_of_41 ?_
          refine lv_iload_n hx hb dX9_of_44 rfl (lv_at hl 1 rfl) ?_
          obtain ⟨c8, hm⟩ := hm
          refine aI hc hw 12 rfl c8 rfl dX9_of_45 ?_
          refine lv_goto (tgt := 55) hx hb dX9_of_46 (by decide) ?_
          exact retI (u := S5) hc hw hm dX9_of_55
      · have hm := hm.2 c12
        refine lv_aload_n hx hb dX9_of_24 rfl (lv_at hl 0 rfl) ?_
        refine lv_iload_n hx hb dX9_of_25 rfl (lv_at hl 1 rfl) ?_
        refine lv_iload_n hx hb dX9_of_26 rfl (lv_at hl 2 rfl) ?_
        refine aV_I (As := [.int x1, .int x2]) (rest := []) hc hw (c_M_factOf hm) lk_X9_121 rfl rfl ⟨Nat.le_of_ble_eq_true rfl, Nat.le_of_ble_eq_true rfl⟩ ⟨Nat.le_of_ble_eq_true rfl, Nat.le_of_ble_eq_true rfl⟩ hl.1 rfl (Nat.le_of_ble_eq_true rfl) rfl dX9_of_27 (fun r10 _ H locs hm hw => ?_)
        have hw : wV D A s.heap (mW cy a S) H locs := hw
        exact retI (u := S) hc hw hm dX9_of_30
    · have hm := hm.2 c13
      refine lv_iconst (v := (-1)) hx hb dX9_of_17 (by decide) ?_
      exact retI (u := S) hc hw hm dX9_of_18
set_option maxHeartbeats 4000000 in
set_option maxRecDepth 100000 in
theorem c_M_can {l : Launch} {D : va_G} {cy : Nat → ClassId} {a : Nat → Nat} {S : Ob} {x1 : Int32} {x2 : Int32} {Q : Int32 → Ob → Prop} (hm : wM_can S x1 x2 Q) : CtI l yX9_can cX9_can 3 (some .int) (rmN 103) D cy [.ref (a 0), .int x1, .int x2] (mW cy a S) (mW cy a) Q := by
  refine CtI.ofW (by decide) (Nat.le_of_ble_eq_true rfl) ?_
  intro p e s m args below meth c A ls hc hnm hw hl
  have hx := hc.1.1
  have hb := hc.1.2.1
  have hown := hc.1.2.2.2.1
  have hts := hc.1.2.2.2.2
  have hl : lv_has ls 3 [(0, .ref (a 0)), (1, .int x1), (2, .int x2)] := hl
  obtain ⟨H, hH⟩ : ∃ z, z = s.heap := ⟨_, rfl⟩
  obtain ⟨locs, hLc⟩ : ∃ z : List Loc, z = [] := ⟨_, rfl⟩
  have hw : wV D A s.heap (mW cy a S) H locs := by rw [hH, hLc]; exact hw
  have hgo : W p l e (rmN 103) s m args below meth c H locs 0 0 (MQ below (eI D cy A (mW cy a) Q) args s (rmN 103).cells (rmN 103).slots A) (F0 m 0 ls []) := ?hgo
  · rw [hH, hLc] at hgo; exact hgo
  refine lv_aload_n hx hb dX9_can_0 rfl (lv_at hl 0 rfl) ?_
  refine lv_iload_n hx hb dX9_can_1 rfl (lv_at hl 1 rfl) ?_
  refine aV_I (As := [.int x1]) (rest := []) hc hw (c_M_isTale hm) lk_X9_117 rfl rfl ⟨Nat.le_of_ble_eq_true rfl, Nat.le_of_ble_eq_true rfl⟩ ⟨Nat.le_of_ble_eq_true rfl, Nat.le_of_ble_eq_true rfl⟩ hl.1 rfl (Nat.le_of_ble_eq_true rfl) rfl dX9_can_2 (fun r1 _ H locs hm hw => ?_)
  have hw : wV D A s.heap (mW cy a S) H locs := hw
  refine lv_if_eq (tgt := 16) hx hb dX9_can_5 (by decide) (fun c12 => ?_) (fun c12 => ?_)
  · have hm := hm.1 c12
    refine lv_iconst (v := (-1)) hx hb dX9_can_16 (by decide) ?_
    exact retI (u := S) hc hw hm dX9_can_17
  · have hm := hm.2 c12
    refine lv_aload_n hx hb dX9_can_8 rfl (lv_at hl 0 rfl) ?_
    refine lv_iload_n hx hb dX9_can_9 rfl (lv_at hl 2 rfl) ?_
    refine aV_I (As := [.int x2]) (rest := []) hc hw (c_M_isTeller hm) lk_X9_282 rfl rfl ⟨Nat.le_of_ble_eq_true rfl, Nat.le_of_ble_eq_true rfl⟩ ⟨Nat.le_of_ble_eq_true rfl, Nat.le_of_ble_eq_true rfl⟩ hl.1 rfl (Nat.le_of_ble_eq_true rfl) rfl dX9_can_10 (fun r3 _ H locs hm hw => ?_)
    have hw : wV D A s.heap (mW cy a S) H locs := hw
    refine lv_if_ne (tgt := 18) hx hb dX9_can_13 (by decide) (fun c11 => ?_) (fun c11 => ?_)
    · have hm := hm.1 c11
      refine lv_aload_n hx hb dX9_can_18 rfl (lv_at hl 0 rfl) ?_
      refine aV_V (As := []) (rest := []) hc hw (c_M_looks hm) lk_X9_279 rfl rfl ⟨Nat.le_of_ble_eq_true rfl, Nat.le_of_ble_eq_true rfl⟩ ⟨Nat.le_of_ble_eq_true rfl, Nat.le_of_ble_eq_true rfl⟩ hl.1 rfl (Nat.le_of_ble_eq_true rfl) rfl dX9_can_19 (fun S5 H locs hm hw => ?_)
      have hw : wV D A s.heap (mW cy a S5) H locs := hw
      refine lv_aload_n hx hb dX9_can_22 rfl (lv_at hl 0 rfl) ?_
      refine gF (k := 28) hc hw inX9 rfl 0 rfl (by decide) (gm 1087 (by decide +kernel) rfl) rfl dX9_can_23 ?_
      refine lv_iload_n hx hb dX9_can_26 rfl (lv_at hl 1 rfl) ?_
      obtain ⟨c7, hm⟩ := hm
      refine aI hc hw 14 rfl c7 rfl dX9_can_27 ?_
      refine lv_iload_n hx hb dX9_can_28 rfl (lv_at hl 2 rfl) ?_
      refine zS_I (As := [.int (S5.2 28 (Int32.toNatClampNeg x1)), .int x2]) (rest := []) hc hw (c_M_isIn hm) lk_X9_269 ⟨Nat.le_of_ble_eq_true rfl, Nat.le_of_ble_eq_true rfl⟩ ⟨Nat.le_of_ble_eq_true rfl, Nat.le_of_ble_eq_true rfl⟩ hl.1 rfl (Nat.le_of_ble_eq_true rfl) rfl dX9_can_29 (fun r8 H locs hm hw => ?_)
      refine lv_if_eq (tgt := 39) hx hb dX9_can_32 (by decide) (fun c10 => ?_) (fun c10 => ?_)
      · have hm := hm.1 c10
        refine lv_iconst (v := 0) hx hb dX9_can_39 (by decide) ?_
        exact retI (u := S5) hc hw hm dX9_can_40
      · have hm := hm.2 c10
        refine lv_iconst (v := 1) hx hb dX9_can_35 (by decide) ?_
        refine lv_goto (tgt := 40) hx hb dX9_can_36 (by decide) ?_
        exact retI (u := S5) hc hw hm dX9_can_40
    · have hm := hm.2 c11
      refine lv_iconst (v := (-1)) hx hb dX9_can_16 (by decide) ?_
      exact retI (u := S) hc hw hm dX9_can_17
set_option maxHeartbeats 4000000 in
set_option maxRecDepth 100000 in
theorem c_M_toldSet {l : Launch} {D : va_G} {cy : Nat → ClassId} {a : Nat → Nat} {S : Ob} {Q : Int32 → Prop} (hm : wM_toldSet S Q) : CtI l yX9_toldSet cX9_toldSet 3 (some .int) (rmN 0) D cy [.ref (a 0)] (mW cy a S) (fun _ : Unit => mW cy a S) (fun (r : Int32) (_ : Unit) => Q r) := by
  refine CtI.ofW (by decide) (Nat.le_of_ble_eq_true rfl) ?_
  intro p e s m args below meth c A ls hc hnm hw hl
  have hx := hc.1.1
  have hb := hc.1.2.1
  have hown := hc.1.2.2.2.1
  have hts := hc.1.2.2.2.2
  have hl : lv_has ls 3 [(0, .ref (a 0))] := hl
  obtain ⟨H, hH⟩ : ∃ z, z = s.heap := ⟨_, rfl⟩
  obtain ⟨locs, hLc⟩ : ∃ z : List Loc, z = [] := ⟨_, rfl⟩
  have hw : wV D A s.heap (mW cy a S) H locs := by rw [hH, hLc]; exact hw
  have hgo : W p l e (rmN 0) s m args below meth c H locs 0 0 (MQ below (eI D cy A (fun _ : Unit => mW cy a S) (fun (r : Int32) (_ : Unit) => Q r)) args s (rmN 0).cells (rmN 0).slots A) (F0 m 0 ls []) := ?hgo
  · rw [hH, hLc] at hgo; exact hgo
  refine lv_iconst (v := 0) hx hb dX9_toldSet_0 (by decide) ?_
  refine lv_istore_n (lv' := [(1, .int 0), (0, .ref (a 0))]) hx hb dX9_toldSet_1 rfl hl (by decide) rfl (fun ls hl => ?_)
  refine lv_iconst (v := 0) hx hb dX9_toldSet_2 (by decide) ?_
  refine lv_istore_n (lv' := [(2, .int 0), (1, .int 0), (0, .ref (a 0))]) hx hb dX9_toldSet_3 rfl hl (by decide) rfl (fun ls hl => ?_)
  refine wl2_ind (G := fun (x2_1 : Int32) (x1_2 : Int32) => ∀ (H : Heap) (locs : List Loc) (ls : Array Slot), wV D A s.heap (mW cy a S) H locs → lv_has ls 3 [(2, .int x2_1), (1, .int x1_2), (0, .ref (a 0))] → W p l e (rmN 0) s m args below meth c H locs 0 0 (MQ below (eI D cy A (fun _ : Unit => mW cy a S) (fun (r : Int32) (_ : Unit) => Q r)) args s (rmN 0).cells (rmN 0).slots A) (F0 m 4 ls [])) ?_ _ _ hm H locs ls hw (lv_sub hl [0, 1, 2] rfl)
  intro L3 ih3 x2_1 x1_2 hm H locs ls hw hl
  refine lv_iload_n hx hb dX9_toldSet_4 rfl (lv_at hl 0 rfl) ?_
  refine lv_aload_n hx hb dX9_toldSet_5 rfl (lv_at hl 2 rfl) ?_
  refine gF (k := 3) hc hw inX9 rfl 0 rfl (by decide) (gm 1062 (by decide +kernel) rfl) rfl dX9_toldSet_6 ?_
  refine lv_sipush (v := 134) hx hb dX9_toldSet_9 (by decide) ?_
  refine aI hc hw 2 rfl (vin (by decide)) (j := 134) (by decide) dX9_toldSet_12 ?_
  refine lv_icmp_ge (tgt := 38) hx hb dX9_toldSet_13 (by decide) (fun c7 => ?_) (fun c7 => ?_)
  · have hm := hm.1 c7
    refine lv_iload_n hx hb dX9_toldSet_38 rfl (lv_at hl 1 rfl) ?_
    exact retI (u := ()) hc hw hm dX9_toldSet_39
  · have hm := hm.2 c7
    refine lv_iload_n hx hb dX9_toldSet_16 rfl (lv_at hl 1 rfl) ?_
    refine lv_iconst (v := 1) hx hb dX9_toldSet_17 (by decide) ?_
    refine lv_aload_n hx hb dX9_toldSet_18 rfl (lv_at hl 2 rfl) ?_
    refine gF (k := 3) hc hw inX9 rfl 0 rfl (by decide) (gm 1062 (by decide +kernel) rfl) rfl dX9_toldSet_19 ?_
    refine lv_bipush (v := 43) hx hb dX9_toldSet_22 (by decide) ?_
    refine lv_iconst (v := 3) hx hb dX9_toldSet_24 (by decide) ?_
    refine lv_iload_n hx hb dX9_toldSet_25 rfl (lv_at hl 0 rfl) ?_
    refine lv_imul hx hb dX9_toldSet_26 ?_
    refine lv_iadd hx hb dX9_toldSet_27 ?_
    obtain ⟨c4, hm⟩ := hm
    refine aI hc hw 2 rfl c4 rfl dX9_toldSet_28 ?_
    refine lv_ishl hx hb dX9_toldSet_29 ?_
    refine lv_ior hx hb dX9_toldSet_30 ?_
    refine lv_topi (fun v5 e_v5 => ?_)
    have hm := hm v5 e_v5
    refine lv_istore_n (lv' := [(1, .int v5), (2, .int x2_1), (0, .ref (a 0))]) hx hb dX9_toldSet_31 rfl hl (by decide) rfl (fun ls hl => ?_)
    obtain ⟨v6, e_v6⟩ : ∃ z : Int32, z = x2_1 + 1 := ⟨_, rfl⟩
    have hm := hm v6 e_v6
    refine lv_iinc (v := v6) (lv' := [(2, .int v6), (1, .int v5), (0, .ref (a 0))]) hx hb dX9_toldSet_32 hl (k := 1) rfl (by rw [e_v6]; rfl) (by decide) rfl (fun ls hl => ?_)
    refine lv_goto (tgt := 4) hx hb dX9_toldSet_35 (by decide) ?_
    exact ih3 _ _ hm _ _ _ hw (lv_sub hl [0, 1, 2] rfl)
set_option maxHeartbeats 4000000 in
set_option maxRecDepth 100000 in
theorem c_M_lastYear {l : Launch} {D : va_G} {cy : Nat → ClassId} {a : Nat → Nat} {S : Ob} {Q : Int32 → Prop} (hm : wM_lastYear S Q) : CtI l yX9_lastYear cX9_lastYear 1 (some .int) (rmN 0) D cy [.ref (a 0)] (mW cy a S) (fun _ : Unit => mW cy a S) (fun (r : Int32) (_ : Unit) => Q r) := by
  refine CtI.ofW (by decide) (Nat.le_of_ble_eq_true rfl) ?_
  intro p e s m args below meth c A ls hc hnm hw hl
  have hx := hc.1.1
  have hb := hc.1.2.1
  have hown := hc.1.2.2.2.1
  have hts := hc.1.2.2.2.2
  have hl : lv_has ls 1 [(0, .ref (a 0))] := hl
  obtain ⟨H, hH⟩ : ∃ z, z = s.heap := ⟨_, rfl⟩
  obtain ⟨locs, hLc⟩ : ∃ z : List Loc, z = [] := ⟨_, rfl⟩
  have hw : wV D A s.heap (mW cy a S) H locs := by rw [hH, hLc]; exact hw
  have hgo : W p l e (rmN 0) s m args below meth c H locs 0 0 (MQ below (eI D cy A (fun _ : Unit => mW cy a S) (fun (r : Int32) (_ : Unit) => Q r)) args s (rmN 0).cells (rmN 0).slots A) (F0 m 0 ls []) := ?hgo
  · rw [hH, hLc] at hgo; exact hgo
  refine lv_aload_n hx hb dX9_lastYear_0 rfl (lv_at hl 0 rfl) ?_
  refine gF (k := 3) hc hw inX9 rfl 0 rfl (by decide) (gm 1062 (by decide +kernel) rfl) rfl dX9_lastYear_1 ?_
  refine lv_sipush (v := 134) hx hb dX9_lastYear_4 (by decide) ?_
  refine aI hc hw 2 rfl (vin (by decide)) (j := 134) (by decide) dX9_lastYear_7 ?_
  refine lv_if_ne (tgt := 16) hx hb dX9_lastYear_8 (by decide) (fun c2 => ?_) (fun c2 => ?_)
  · have hm := hm.1 c2
    refine lv_aload_n hx hb dX9_lastYear_16 rfl (lv_at hl 0 rfl) ?_
    refine gF (k := 3) hc hw inX9 rfl 0 rfl (by decide) (gm 1062 (by decide +kernel) rfl) rfl dX9_lastYear_17 ?_
    refine lv_bipush (v := 43) hx hb dX9_lastYear_20 (by decide) ?_
    refine lv_iconst (v := 3) hx hb dX9_lastYear_22 (by decide) ?_
    refine lv_aload_n hx hb dX9_lastYear_23 rfl (lv_at hl 0 rfl) ?_
    refine gF (k := 3) hc hw inX9 rfl 0 rfl (by decide) (gm 1062 (by decide +kernel) rfl) rfl dX9_lastYear_24 ?_
    refine lv_sipush (v := 134) hx hb dX9_lastYear_27 (by decide) ?_
    refine aI hc hw 2 rfl (vin (by decide)) (j := 134) (by decide) dX9_lastYear_30 ?_
    refine lv_imul hx hb dX9_lastYear_31 ?_
    refine lv_iadd hx hb dX9_lastYear_32 ?_
    refine lv_iconst (v := 2) hx hb dX9_lastYear_33 (by decide) ?_
    refine lv_isub hx hb dX9_lastYear_34 ?_
    obtain ⟨c1, hm⟩ := hm
    refine aI hc hw 2 rfl c1 rfl dX9_lastYear_35 ?_
    exact retI (u := ()) hc hw hm dX9_lastYear_36
  · have hm := hm.2 c2
    refine lv_ldc (v := 1000000) hx hb hown (hts _ (gm 1281 (by decide +kernel) rfl)) dX9_lastYear_11 ?_
    refine lv_goto (tgt := 36) hx hb dX9_lastYear_13 (by decide) ?_
    exact retI (u := ()) hc hw hm dX9_lastYear_36
set_option maxHeartbeats 4000000 in
set_option maxRecDepth 100000 in
theorem c_M_lastTeller {l : Launch} {D : va_G} {cy : Nat → ClassId} {a : Nat → Nat} {S : Ob} {Q : Int32 → Prop} (hm : wM_lastTeller S Q) : CtI l yX9_lastTeller cX9_lastTeller 1 (some .int) (rmN 0) D cy [.ref (a 0)] (mW cy a S) (fun _ : Unit => mW cy a S) (fun (r : Int32) (_ : Unit) => Q r) := by
  refine CtI.ofW (by decide) (Nat.le_of_ble_eq_true rfl) ?_
  intro p e s m args below meth c A ls hc hnm hw hl
  have hx := hc.1.1
  have hb := hc.1.2.1
  have hown := hc.1.2.2.2.1
  have hts := hc.1.2.2.2.2
  have hl : lv_has ls 1 [(0, .ref (a 0))] := hl
  obtain ⟨H, hH⟩ : ∃ z, z = s.heap := ⟨_, rfl⟩
  obtain ⟨locs, hLc⟩ : ∃ z : List Loc, z = [] := ⟨_, rfl⟩
  have hw : wV D A s.heap (mW cy a S) H locs := by rw [hH, hLc]; exact hw
  have hgo : W p l e (rmN 0) s m args below meth c H locs 0 0 (MQ below (eI D cy A (fun _ : Unit => mW cy a S) (fun (r : Int32) (_ : Unit) => Q r)) args s (rmN 0).cells (rmN 0).slots A) (F0 m 0 ls []) := ?hgo
  · rw [hH, hLc] at hgo; exact hgo
  refine lv_aload_n hx hb dX9_lastTeller_0 rfl (lv_at hl 0 rfl) ?_
  refine gF (k := 3) hc hw inX9 rfl 0 rfl (by decide) (gm 1062 (by decide +kernel) rfl) rfl dX9_lastTeller_1 ?_
  refine lv_sipush (v := 134) hx hb dX9_lastTeller_4 (by decide) ?_
  refine aI hc hw 2 rfl (vin (by decide)) (j := 134) (by decide) dX9_lastTeller_7 ?_
  refine lv_if_ne (tgt := 15) hx hb dX9_lastTeller_8 (by decide) (fun c2 => ?_) (fun c2 => ?_)
  · have hm := hm.1 c2
    refine lv_aload_n hx hb dX9_lastTeller_15 rfl (lv_at hl 0 rfl) ?_
    refine gF (k := 3) hc hw inX9 rfl 0 rfl (by decide) (gm 1062 (by decide +kernel) rfl) rfl dX9_lastTeller_16 ?_
    refine lv_bipush (v := 43) hx hb dX9_lastTeller_19 (by decide) ?_
    refine lv_iconst (v := 3) hx hb dX9_lastTeller_21 (by decide) ?_
    refine lv_aload_n hx hb dX9_lastTeller_22 rfl (lv_at hl 0 rfl) ?_
    refine gF (k := 3) hc hw inX9 rfl 0 rfl (by decide) (gm 1062 (by decide +kernel) rfl) rfl dX9_lastTeller_23 ?_
    refine lv_sipush (v := 134) hx hb dX9_lastTeller_26 (by decide) ?_
    refine aI hc hw 2 rfl (vin (by decide)) (j := 134) (by decide) dX9_lastTeller_29 ?_
    refine lv_imul hx hb dX9_lastTeller_30 ?_
    refine lv_iadd hx hb dX9_lastTeller_31 ?_
    refine lv_iconst (v := 1) hx hb dX9_lastTeller_32 (by decide) ?_
    refine lv_isub hx hb dX9_lastTeller_33 ?_
    obtain ⟨c1, hm⟩ := hm
    refine aI hc hw 2 rfl c1 rfl dX9_lastTeller_34 ?_
    exact retI (u := ()) hc hw hm dX9_lastTeller_35
  · have hm := hm.2 c2
    refine lv_iconst (v := 4) hx hb dX9_lastTeller_11 (by decide) ?_
    refine lv_goto (tgt := 35) hx hb dX9_lastTeller_12 (by decide) ?_
    exact retI (u := ()) hc hw hm dX9_lastTeller_35
set_option maxHeartbeats 4000000 in
set_option maxRecDepth 100000 in
theorem c_M_yearBehind {l : Launch} {D : va_G} {cy : Nat → ClassId} {a : Nat → Nat} {S : Ob} {x1 : Int32} {x2 : Int32} {Q : Int32 → Prop} (hm : wM_yearBehind S x1 x2 Q) : CtI l yX9_yearBehind cX9_yearBehind 3 (some .int) (rmN 1) D cy [.ref (a 0), .int x1, .int x2] (mW cy a S) (fun _ : Unit => mW cy a S) (fun (r : Int32) (_ : Unit) => Q r) := by
  refine CtI.ofW (by decide) (Nat.le_of_ble_eq_true rfl) ?_
  intro p e s m args below meth c A ls hc hnm hw hl
  have hx := hc.1.1
  have hb := hc.1.2.1
  have hown := hc.1.2.2.2.1
  have hts := hc.1.2.2.2.2
  have hl : lv_has ls 3 [(0, .ref (a 0)), (1, .int x1), (2, .int x2)] := hl
  obtain ⟨H, hH⟩ : ∃ z, z = s.heap := ⟨_, rfl⟩
  obtain ⟨locs, hLc⟩ : ∃ z : List Loc, z = [] := ⟨_, rfl⟩
  have hw : wV D A s.heap (mW cy a S) H locs := by rw [hH, hLc]; exact hw
  have hgo : W p l e (rmN 1) s m args below meth c H locs 0 0 (MQ below (eI D cy A (fun _ : Unit => mW cy a S) (fun (r : Int32) (_ : Unit) => Q r)) args s (rmN 1).cells (rmN 1).slots A) (F0 m 0 ls []) := ?hgo
  · rw [hH, hLc] at hgo; exact hgo
  refine lv_aload_n hx hb dX9_yearBehind_0 rfl (lv_at hl 0 rfl) ?_
  refine lv_iload_n hx hb dX9_yearBehind_1 rfl (lv_at hl 1 rfl) ?_
  refine lv_iconst (v := 1) hx hb dX9_yearBehind_2 (by decide) ?_
  refine aV_I (As := [.int x1, .int 1]) (rest := []) hc hw (c_M_factOf hm) lk_X9_121 rfl rfl ⟨Nat.le_of_ble_eq_true rfl, Nat.le_of_ble_eq_true rfl⟩ ⟨Nat.le_of_ble_eq_true rfl, Nat.le_of_ble_eq_true rfl⟩ hl.1 rfl (Nat.le_of_ble_eq_true rfl) rfl dX9_yearBehind_3 (fun r1 _ H locs hm hw => ?_)
  have hw : wV D A s.heap (mW cy a S) H locs := hw
  refine lv_iload_n hx hb dX9_yearBehind_6 rfl (lv_at hl 2 rfl) ?_
  refine lv_aload_n hx hb dX9_yearBehind_7 rfl (lv_at hl 0 rfl) ?_
  refine gF (k := 27) hc hw inX9 rfl 0 rfl (by decide) (gm 1086 (by decide +kernel) rfl) rfl dX9_yearBehind_8 ?_
  refine lv_iload_n hx hb dX9_yearBehind_11 rfl (lv_at hl 1 rfl) ?_
  obtain ⟨c3, hm⟩ := hm
  refine aI hc hw 13 rfl c3 rfl dX9_yearBehind_12 ?_
  refine lv_isub hx hb dX9_yearBehind_13 ?_
  refine zS_I (As := [.int r1, .int (x2 - (S.2 27 (Int32.toNatClampNeg x1)))]) (rest := []) hc hw (c_M_lesser hm) lk_X9_294 ⟨Nat.le_of_ble_eq_true rfl, Nat.le_of_ble_eq_true rfl⟩ ⟨Nat.le_of_ble_eq_true rfl, Nat.le_of_ble_eq_true rfl⟩ hl.1 rfl (Nat.le_of_ble_eq_true rfl) rfl dX9_yearBehind_14 (fun r4 H locs hm hw => ?_)
  exact retI (u := ()) hc hw hm dX9_yearBehind_17
set_option maxHeartbeats 4000000 in
set_option maxRecDepth 100000 in
theorem c_M_fits {l : Launch} {D : va_G} {cy : Nat → ClassId} {a : Nat → Nat} {S : Ob} {x1 : Int32} {x2 : Int32} {Q : Int32 → Prop} (hm : wM_fits S x1 x2 Q) : CtI l yX9_fits cX9_fits 3 (some .boolean) (rmN 2) D cy [.ref (a 0), .int x1, .int x2] (mW cy a S) (fun _ : Unit => mW cy a S) (fun (r : Int32) (_ : Unit) => Q r) := by
  refine CtI.ofW (by decide) (Nat.le_of_ble_eq_true rfl) ?_
  intro p e s m args below meth c A ls hc hnm hw hl
  have hx := hc.1.1
  have hb := hc.1.2.1
  have hown := hc.1.2.2.2.1
  have hts := hc.1.2.2.2.2
  have hl : lv_has ls 3 [(0, .ref (a 0)), (1, .int x1), (2, .int x2)] := hl
  obtain ⟨H, hH⟩ : ∃ z, z = s.heap := ⟨_, rfl⟩
  obtain ⟨locs, hLc⟩ : ∃ z : List Loc, z = [] := ⟨_, rfl⟩
  have hw : wV D A s.heap (mW cy a S) H locs := by rw [hH, hLc]; exact hw
  have hgo : W p l e (rmN 2) s m args below meth c H locs 0 0 (MQ below (eI D cy A (fun _ : Unit => mW cy a S) (fun (r : Int32) (_ : Unit) => Q r)) args s (rmN 2).cells (rmN 2).slots A) (F0 m 0 ls []) := ?hgo
  · rw [hH, hLc] at hgo; exact hgo
  refine lv_aload_n hx hb dX9_fits_0 rfl (lv_at hl 0 rfl) ?_
  refine lv_iload_n hx hb dX9_fits_1 rfl (lv_at hl 1 rfl) ?_
  refine lv_iload_n hx hb dX9_fits_2 rfl (lv_at hl 2 rfl) ?_
  refine aV_I (As := [.int x1, .int x2]) (rest := []) hc hw (c_M_yearBehind hm) lk_X9_297 rfl rfl ⟨Nat.le_of_ble_eq_true rfl, Nat.le_of_ble_eq_true rfl⟩ ⟨Nat.le_of_ble_eq_true rfl, Nat.le_of_ble_eq_true rfl⟩ hl.1 rfl (Nat.le_of_ble_eq_true rfl) rfl dX9_fits_3 (fun r1 _ H locs hm hw => ?_)
  have hw : wV D A s.heap (mW cy a S) H locs := hw
  refine lv_aload_n hx hb dX9_fits_6 rfl (lv_at hl 0 rfl) ?_
  refine lv_iload_n hx hb dX9_fits_7 rfl (lv_at hl 1 rfl) ?_
  refine lv_iconst (v := 0) hx hb dX9_fits_8 (by decide) ?_
  refine aV_I (As := [.int x1, .int 0]) (rest := [.int r1]) hc hw (c_M_factOf hm) lk_X9_121 rfl rfl ⟨Nat.le_of_ble_eq_true rfl, Nat.le_of_ble_eq_true rfl⟩ ⟨Nat.le_of_ble_eq_true rfl, Nat.le_of_ble_eq_true rfl⟩ hl.1 rfl (Nat.le_of_ble_eq_true rfl) rfl dX9_fits_9 (fun r3 _ H locs hm hw => ?_)
  have hw : wV D A s.heap (mW cy a S) H locs := hw
  refine lv_icmp_lt (tgt := 19) hx hb dX9_fits_12 (by decide) (fun c5 => ?_) (fun c5 => ?_)
  · have hm := hm.1 c5
    refine lv_iconst (v := 0) hx hb dX9_fits_19 (by decide) ?_
    exact retZ (u := ()) hc hw rfl hm dX9_fits_20
  · have hm := hm.2 c5
    refine lv_iconst (v := 1) hx hb dX9_fits_15 (by decide) ?_
    refine lv_goto (tgt := 20) hx hb dX9_fits_16 (by decide) ?_
    exact retZ (u := ()) hc hw rfl hm dX9_fits_20
set_option maxHeartbeats 4000000 in
set_option maxRecDepth 100000 in
theorem c_M_canNext {l : Launch} {D : va_G} {cy : Nat → ClassId} {a : Nat → Nat} {S : Ob} {x1 : Int32} {x2 : Int32} {x3 : Int32} {x4 : Int32} {x5 : Int32} {Q : Int32 → Prop} (hm : wM_canNext S x1 x2 x3 x4 x5 Q) : CtI l yX9_canNext cX9_canNext 6 (some .boolean) (rmN 3) D cy [.ref (a 0), .int x1, .int x2, .int x3, .int x4, .int x5] (mW cy a S) (fun _ : Unit => mW cy a S) (fun (r : Int32) (_ : Unit) => Q r) := by
  refine CtI.ofW (by decide) (Nat.le_of_ble_eq_true rfl) ?_
  intro p e s m args below meth c A ls hc hnm hw hl
  have hx := hc.1.1
  have hb := hc.1.2.1
  have hown := hc.1.2.2.2.1
  have hts := hc.1.2.2.2.2
  have hl : lv_has ls 6 [(0, .ref (a 0)), (1, .int x1), (2, .int x2), (3, .int x3), (4, .int x4), (5, .int x5)] := hl
  obtain ⟨H, hH⟩ : ∃ z, z = s.heap := ⟨_, rfl⟩
  obtain ⟨locs, hLc⟩ : ∃ z : List Loc, z = [] := ⟨_, rfl⟩
  have hw : wV D A s.heap (mW cy a S) H locs := by rw [hH, hLc]; exact hw
  have hgo : W p l e (rmN 3) s m args below meth c H locs 0 0 (MQ below (eI D cy A (fun _ : Unit => mW cy a S) (fun (r : Int32) (_ : Unit) => Q r)) args s (rmN 3).cells (rmN 3).slots A) (F0 m 0 ls []) := ?hgo
  · rw [hH, hLc] at hgo; exact hgo
  refine lv_iload_n hx hb dX9_canNext_0 rfl (lv_at hl 3 rfl) ?_
  refine lv_iload_n hx hb dX9_canNext_1 rfl (lv_at hl 1 rfl) ?_
  refine zS_I (As := [.int x3, .int x1]) (rest := []) hc hw (c_M_isIn hm) lk_X9_269 ⟨Nat.le_of_ble_eq_true rfl, Nat.le_of_ble_eq_true rfl⟩ ⟨Nat.le_of_ble_eq_true rfl, Nat.le_of_ble_eq_true rfl⟩ hl.1 rfl (Nat.le_of_ble_eq_true rfl) rfl dX9_canNext_2 (fun r1 H locs hm hw => ?_)
  refine lv_if_ne (tgt := 45) hx hb dX9_canNext_5 (by decide) (fun c13 => ?_) (fun c13 => ?_)
  · have hm := hm.1 c13
    refine lv_iconst (v := 0) hx hb dX9_canNext_45 (by decide) ?_
    exact retZ (u := ()) hc hw rfl hm dX9_canNext_46
  · have hm := hm.2 c13
    refine lv_aload_n hx hb dX9_canNext_8 rfl (lv_at hl 0 rfl) ?_
    refine gF (k := 28) hc hw inX9 rfl 0 rfl (by decide) (gm 1087 (by decide +kernel) rfl) rfl dX9_canNext_9 ?_
    refine lv_iload_n hx hb dX9_canNext_12 rfl (lv_at hl 1 rfl) ?_
    obtain ⟨c3, hm⟩ := hm
    refine aI hc hw 14 rfl c3 rfl dX9_canNext_13 ?_
    refine lv_iload_n hx hb dX9_canNext_14 rfl (lv_at hl 2 rfl) ?_
    refine zS_I (As := [.int (S.2 28 (Int32.toNatClampNeg x1)), .int x2]) (rest := []) hc hw (c_M_isIn hm) lk_X9_269 ⟨Nat.le_of_ble_eq_true rfl, Nat.le_of_ble_eq_true rfl⟩ ⟨Nat.le_of_ble_eq_true rfl, Nat.le_of_ble_eq_true rfl⟩ hl.1 rfl (Nat.le_of_ble_eq_true rfl) rfl dX9_canNext_15 (fun r4 H locs hm hw => ?_)
    refine lv_if_eq (tgt := 45) hx hb dX9_canNext_18 (by decide) (fun c12 => ?_) (fun c12 => ?_)
    · have hm := hm.1 c12
      refine lv_iconst (v := 0) hx hb dX9_canNext_45 (by decide) ?_
      exact retZ (u := ()) hc hw rfl hm dX9_canNext_46
    · have hm := hm.2 c12
      refine lv_aload_n hx hb dX9_canNext_21 rfl (lv_at hl 0 rfl) ?_
      refine lv_iload hx hb dX9_canNext_22 (lv_at hl 5 rfl) ?_
      refine lv_iload_n hx hb dX9_canNext_24 rfl (lv_at hl 2 rfl) ?_
      refine aV_I (As := [.int x5, .int x2]) (rest := []) hc hw (c_M_mayNext hm) lk_X9_288 rfl rfl ⟨Nat.le_of_ble_eq_true rfl, Nat.le_of_ble_eq_true rfl⟩ ⟨Nat.le_of_ble_eq_true rfl, Nat.le_of_ble_eq_true rfl⟩ hl.1 rfl (Nat.le_of_ble_eq_true rfl) rfl dX9_canNext_25 (fun r6 _ H locs hm hw => ?_)
      have hw : wV D A s.heap (mW cy a S) H locs := hw
      refine lv_if_eq (tgt := 45) hx hb dX9_canNext_28 (by decide) (fun c11 => ?_) (fun c11 => ?_)
      · have hm := hm.1 c11
        refine lv_iconst (v := 0) hx hb dX9_canNext_45 (by decide) ?_
        exact retZ (u := ()) hc hw rfl hm dX9_canNext_46
      · have hm := hm.2 c11
        refine lv_aload_n hx hb dX9_canNext_31 rfl (lv_at hl 0 rfl) ?_
        refine lv_iload_n hx hb dX9_canNext_32 rfl (lv_at hl 1 rfl) ?_
        refine lv_iload hx hb dX9_canNext_33 (lv_at hl 4 rfl) ?_
        refine aV_I (As := [.int x1, .int x4]) (rest := []) hc hw (c_M_fits hm) lk_X9_300 rfl rfl ⟨Nat.le_of_ble_eq_true rfl, Nat.le_of_ble_eq_true rfl⟩ ⟨Nat.le_of_ble_eq_true rfl, Nat.le_of_ble_eq_true rfl⟩ hl.1 rfl (Nat.le_of_ble_eq_true rfl) rfl dX9_canNext_35 (fun r8 _ H locs hm hw => ?_)
        have hw : wV D A s.heap (mW cy a S) H locs := hw
        refine lv_if_eq (tgt := 45) hx hb dX9_canNext_38 (by decide) (fun c10 => ?_) (fun c10 => ?_)
        · have hm := hm.1 c10
          refine lv_iconst (v := 0) hx hb dX9_canNext_45 (by decide) ?_
          exact retZ (u := ()) hc hw rfl hm dX9_canNext_46
        · have hm := hm.2 c10
          refine lv_iconst (v := 1) hx hb dX9_canNext_41 (by decide) ?_
          refine lv_goto (tgt := 46) hx hb dX9_canNext_42 (by decide) ?_
          exact retZ (u := ()) hc hw rfl hm dX9_canNext_46
set_option maxHeartbeats 4000000 in
set_option maxRecDepth 100000 in
theorem c_M_tell {l : Launch} {D : va_G} {cy : Nat → ClassId} {a : Nat → Nat} {S : Ob} {x1 : Int32} {x2 : Int32} {Q : Int32 → Ob → Prop} (hm : wM_tell S x1 x2 Q) : CtI l yX9_tell cX9_tell 5 (some .int) (rmN 103) D cy [.ref (a 0), .int x1, .int x2] (mW cy a S) (mW cy a) Q := by
  refine CtI.ofW (by decide) (Nat.le_of_ble_eq_true rfl) ?_
  intro p e s m args below meth c A ls hc hnm hw hl
  have hx := hc.1.1
  have hb := hc.1.2.1
  have hown := hc.1.2.2.2.1
  have hts := hc.1.2.2.2.2
  have hl : lv_has ls 5 [(0, .ref (a 0)), (1, .int x1), (2, .int x2)] := hl
  obtain ⟨H, hH⟩ : ∃ z, z = s.heap := ⟨_, rfl⟩
  obtain ⟨locs, hLc⟩ : ∃ z : List Loc, z = [] := ⟨_, rfl⟩
  have hw : wV D A s.heap (mW cy a S) H locs := by rw [hH, hLc]; exact hw
  have hgo : W p l e (rmN 103) s m args below meth c H locs 0 0 (MQ below (eI D cy A (mW cy a) Q) args s (rmN 103).cells (rmN 103).slots A) (F0 m 0 ls []) := ?hgo
  · rw [hH, hLc] at hgo; exact hgo
  refine lv_aload_n hx hb dX9_tell_0 rfl (lv_at hl 0 rfl) ?_
  refine lv_iload_n hx hb dX9_tell_1 rfl (lv_at hl 2 rfl) ?_
  refine aV_I (As := [.int x2]) (rest := []) hc hw (c_M_isTeller hm) lk_X9_282 rfl rfl ⟨Nat.le_of_ble_eq_true rfl, Nat.le_of_ble_eq_true rfl⟩ ⟨Nat.le_of_ble_eq_true rfl, Nat.le_of_ble_eq_true rfl⟩ hl.1 rfl (Nat.le_of_ble_eq_true rfl) rfl dX9_tell_2 (fun r1 _ H locs hm hw => ?_)
  have hw : wV D A s.heap (mW cy a S) H locs := hw
  refine lv_if_ne (tgt := 14) hx hb dX9_tell_5 (by decide) (fun c41 => ?_) (fun c41 => ?_)
  · have hm := hm.1 c41
    refine lv_aload_n hx hb dX9_tell_14 rfl (lv_at hl 0 rfl) ?_
    refine lv_iload_n hx hb dX9_tell_15 rfl (lv_at hl 1 rfl) ?_
    refine aV_I (As := [.int x1]) (rest := []) hc hw (c_M_isTale hm) lk_X9_117 rfl rfl ⟨Nat.le_of_ble_eq_true rfl, Nat.le_of_ble_eq_true rfl⟩ ⟨Nat.le_of_ble_eq_true rfl, Nat.le_of_ble_eq_true rfl⟩ hl.1 rfl (Nat.le_of_ble_eq_true rfl) rfl dX9_tell_16 (fun r3 _ H locs hm hw => ?_)
    have hw : wV D A s.heap (mW cy a S) H locs := hw
    refine lv_if_ne (tgt := 29) hx hb dX9_tell_19 (by decide) (fun c37 => ?_) (fun c37 => ?_)
    · have hm := hm.1 c37
      refine lv_aload_n hx hb dX9_tell_29 rfl (lv_at hl 0 rfl) ?_
      refine aV_V (As := []) (rest := []) hc hw (c_M_looks hm) lk_X9_279 rfl rfl ⟨Nat.le_of_ble_eq_true rfl, Nat.le_of_ble_eq_true rfl⟩ ⟨Nat.le_of_ble_eq_true rfl, Nat.le_of_ble_eq_true rfl⟩ hl.1 rfl (Nat.le_of_ble_eq_true rfl) rfl dX9_tell_30 (fun S5 H locs hm hw => ?_)
      have hw : wV D A s.heap (mW cy a S5) H locs := hw
      refine lv_aload_n hx hb dX9_tell_33 rfl (lv_at hl 0 rfl) ?_
      refine lv_iload_n hx hb dX9_tell_34 rfl (lv_at hl 1 rfl) ?_
      refine lv_iload_n hx hb dX9_tell_35 rfl (lv_at hl 2 rfl) ?_
      refine lv_aload_n hx hb dX9_tell_36 rfl (lv_at hl 0 rfl) ?_
      refine aV_I (As := []) (rest := [.int x2, .int x1, .ref (a 0)]) hc hw (c_M_toldSet hm) lk_X9_303 rfl rfl ⟨Nat.le_of_ble_eq_true rfl, Nat.le_of_ble_eq_true rfl⟩ ⟨Nat.le_of_ble_eq_true rfl, Nat.le_of_ble_eq_true rfl⟩ hl.1 rfl (Nat.le_of_ble_eq_true rfl) rfl dX9_tell_37 (fun r7 _ H locs hm hw => ?_)
      have hw : wV D A s.heap (mW cy a S5) H locs := hw
      refine lv_aload_n hx hb dX9_tell_40 rfl (lv_at hl 0 rfl) ?_
      refine aV_I (As := []) (rest := [.int r7, .int x2, .int x1, .ref (a 0)]) hc hw (c_M_lastYear hm) lk_X9_306 rfl rfl ⟨Nat.le_of_ble_eq_true rfl, Nat.le_of_ble_eq_true rfl⟩ ⟨Nat.le_of_ble_eq_true rfl, Nat.le_of_ble_eq_true rfl⟩ hl.1 rfl (Nat.le_of_ble_eq_true rfl) rfl dX9_tell_41 (fun r9 _ H locs hm hw => ?_)
      have hw : wV D A s.heap (mW cy a S5) H locs := hw
      refine lv_aload_n hx hb dX9_tell_44 rfl (lv_at hl 0 rfl) ?_
      refine aV_I (As := []) (rest := [.int r9, .int r7, .int x2, .int x1, .ref (a 0)]) hc hw (c_M_lastTeller hm) lk_X9_309 rfl rfl ⟨Nat.le_of_ble_eq_true rfl, Nat.le_of_ble_eq_true rfl⟩ ⟨Nat.le_of_ble_eq_true rfl, Nat.le_of_ble_eq_true rfl⟩ hl.1 rfl (Nat.le_of_ble_eq_true rfl) rfl dX9_tell_45 (fun r11 _ H locs hm hw => ?_)
      have hw : wV D A s.heap (mW cy a S5) H locs := hw
      refine aV_I (As := [.int x1, .int x2, .int r7, .int r9, .int r11]) (rest := []) hc hw (c_M_canNext hm) lk_X9_312 rfl rfl ⟨Nat.le_of_ble_eq_true rfl, Nat.le_of_ble_eq_true rfl⟩ ⟨Nat.le_of_ble_eq_true rfl, Nat.le_of_ble_eq_true rfl⟩ hl.1 rfl (Nat.le_of_ble_eq_true rfl) rfl dX9_tell_48 (fun r13 _ H locs hm hw => ?_)
      have hw : wV D A s.heap (mW cy a S5) H locs := hw
      refine lv_if_ne (tgt := 61) hx hb dX9_tell_51 (by decide) (fun c33 => ?_) (fun c33 => ?_)
      · have hm := hm.1 c33
        refine lv_aload_n hx hb dX9_tell_61 rfl (lv_at hl 0 rfl) ?_
        refine lv_iload_n hx hb dX9_tell_62 rfl (lv_at hl 1 rfl) ?_
        refine lv_aload_n hx hb dX9_tell_63 rfl (lv_at hl 0 rfl) ?_
        refine aV_I (As := []) (rest := [.int x1, .ref (a 0)]) hc hw (c_M_lastYear hm) lk_X9_306 rfl rfl ⟨Nat.le_of_ble_eq_true rfl, Nat.le_of_ble_eq_true rfl⟩ ⟨Nat.le_of_ble_eq_true rfl, Nat.le_of_ble_eq_true rfl⟩ hl.1 rfl (Nat.le_of_ble_eq_true rfl) rfl dX9_tell_64 (fun r15 _ H locs hm hw => ?_)
        have hw : wV D A s.heap (mW cy a S5) H locs := hw
        refine aV_I (As := [.int x1, .int r15]) (rest := []) hc hw (c_M_yearBehind hm) lk_X9_297 rfl rfl ⟨Nat.le_of_ble_eq_true rfl, Nat.le_of_ble_eq_true rfl⟩ ⟨Nat.le_of_ble_eq_true rfl, Nat.le_of_ble_eq_true rfl⟩ hl.1 rfl (Nat.le_of_ble_eq_true rfl) rfl dX9_tell_67 (fun r17 _ H locs hm hw => ?_)
        have hw : wV D A s.heap (mW cy a S5) H locs := hw
        refine lv_istore_n (lv' := [(3, .int r17), (0, .ref (a 0)), (1, .int x1), (2, .int x2)]) hx hb dX9_tell_70 rfl hl (by decide) rfl (fun ls hl => ?_)
        refine lv_bipush (v := 43) hx hb dX9_tell_71 (by decide) ?_
        refine lv_iconst (v := 3) hx hb dX9_tell_73 (by decide) ?_
        refine lv_aload_n hx hb dX9_tell_74 rfl (lv_at hl 1 rfl) ?_
        refine gF (k := 3) hc hw inX9 rfl 0 rfl (by decide) (gm 1062 (by decide +kernel) rfl) rfl dX9_tell_75 ?_
        refine lv_sipush (v := 134) hx hb dX9_tell_78 (by decide) ?_
        refine aI hc hw 2 rfl (vin (by decide)) (j := 134) (by decide) dX9_tell_81 ?_
        refine lv_imul hx hb dX9_tell_82 ?_
        refine lv_iadd hx hb dX9_tell_83 ?_
        refine lv_topi (fun v19 e_v19 => ?_)
        have hm := hm v19 e_v19
        refine lv_istore (lv' := [(4, .int v19), (3, .int r17), (0, .ref (a 0)), (1, .int x1), (2, .int x2)]) hx hb dX9_tell_84 hl (by decide) rfl (fun ls hl => ?_)
        refine lv_aload_n hx hb dX9_tell_86 rfl (lv_at hl 2 rfl) ?_
        refine gF (k := 3) hc hw inX9 rfl 0 rfl (by decide) (gm 1062 (by decide +kernel) rfl) rfl dX9_tell_87 ?_
        refine lv_iload hx hb dX9_tell_90 (lv_at hl 0 rfl) ?_
        refine lv_iload_n hx hb dX9_tell_92 rfl (lv_at hl 3 rfl) ?_
        obtain ⟨c20, hm⟩ := hm
        refine sI hc hw 2 rfl c20 rfl dX9_tell_93 (fun H locs hw => ?_)
        obtain ⟨S21, e_S21⟩ : ∃ z : Ob, z = uA S5 3 (Int32.toNatClampNeg v19) x1 := ⟨_, rfl⟩
        have hm := hm S21 e_S21
        have hw : wV D A s.heap (mW cy a S21) H locs := by rw [e_S21]; exact hw
        refine lv_aload_n hx hb dX9_tell_94 rfl (lv_at hl 2 rfl) ?_
        refine gF (k := 3) hc hw inX9 rfl 0 rfl (by decide) (gm 1062 (by decide +kernel) rfl) rfl dX9_tell_95 ?_
        refine lv_iload hx hb dX9_tell_98 (lv_at hl 0 rfl) ?_
        refine lv_iconst (v := 1) hx hb dX9_tell_100 (by decide) ?_
        refine lv_iadd hx hb dX9_tell_101 ?_
        refine lv_iload_n hx hb dX9_tell_102 rfl (lv_at hl 1 rfl) ?_
        obtain ⟨c22, hm⟩ := hm
        refine sI hc hw 2 rfl c22 rfl dX9_tell_103 (fun H locs hw => ?_)
        obtain ⟨S23, e_S23⟩ : ∃ z : Ob, z = uA S21 3 (Int32.toNatClampNeg (v19 + 1)) r17 := ⟨_, rfl⟩
        have hm := hm S23 e_S23
        have hw : wV D A s.heap (mW cy a S23) H locs := by rw [e_S23]; exact hw
        refine lv_aload_n hx hb dX9_tell_104 rfl (lv_at hl 2 rfl) ?_
        refine gF (k := 3) hc hw inX9 rfl 0 rfl (by decide) (gm 1062 (by decide +kernel) rfl) rfl dX9_tell_105 ?_
        refine lv_iload hx hb dX9_tell_108 (lv_at hl 0 rfl) ?_
        refine lv_iconst (v := 2) hx hb dX9_tell_110 (by decide) ?_
        refine lv_iadd hx hb dX9_tell_111 ?_
        refine lv_iload_n hx hb dX9_tell_112 rfl (lv_at hl 4 rfl) ?_
        obtain ⟨c24, hm⟩ := hm
        refine sI hc hw 2 rfl c24 rfl dX9_tell_113 (fun H locs hw => ?_)
        obtain ⟨S25, e_S25⟩ : ∃ z : Ob, z = uA S23 3 (Int32.toNatClampNeg (v19 + 2)) x2 := ⟨_, rfl⟩
        have hm := hm S25 e_S25
        have hw : wV D A s.heap (mW cy a S25) H locs := by rw [e_S25]; exact hw
        refine lv_aload_n hx hb dX9_tell_114 rfl (lv_at hl 2 rfl) ?_
        refine gF (k := 3) hc hw inX9 rfl 0 rfl (by decide) (gm 1062 (by decide +kernel) rfl) rfl dX9_tell_115 ?_
        refine lv_sipush (v := 134) hx hb dX9_tell_118 (by decide) ?_
        refine lv_dup2_11 hx hb dX9_tell_121 rfl rfl ?_
        refine aI hc hw 2 rfl (vin (by decide)) (j := 134) (by decide) dX9_tell_122 ?_
        refine lv_iconst (v := 1) hx hb dX9_tell_123 (by decide) ?_
        refine lv_iadd hx hb dX9_tell_124 ?_
        refine sI hc hw 2 rfl (vin (by decide)) (j := 134) (by decide) dX9_tell_125 (fun H locs hw => ?_)
        obtain ⟨S26, e_S26⟩ : ∃ z : Ob, z = uA S25 3 134 ((S25.2 3 134) + 1) := ⟨_, rfl⟩
        have hm := hm S26 e_S26
        have hw : wV D A s.heap (mW cy a S26) H locs := by rw [e_S26]; exact hw
        refine lv_aload_n hx hb dX9_tell_126 rfl (lv_at hl 2 rfl) ?_
        refine lv_iload_n hx hb dX9_tell_127 rfl (lv_at hl 1 rfl) ?_
        refine aV_I (As := [.int r17]) (rest := []) hc hw (c_M_good hm) lk_X9_102 rfl rfl ⟨Nat.le_of_ble_eq_true rfl, Nat.le_of_ble_eq_true rfl⟩ ⟨Nat.le_of_ble_eq_true rfl, Nat.le_of_ble_eq_true rfl⟩ hl.1 rfl (Nat.le_of_ble_eq_true rfl) rfl dX9_tell_128 (fun r27 S28 H locs hm hw => ?_)
        have hw : wV D A s.heap (mW cy a S28) H locs := hw
        exact retI (u := S28) hc hw hm dX9_tell_131
      · have hm := hm.2 c33
        refine lv_aload_n hx hb dX9_tell_54 rfl (lv_at hl 0 rfl) ?_
        refine lv_bipush (v := (-3)) hx hb dX9_tell_55 (by decide) ?_
        refine aV_I (As := [.int (-3)]) (rest := []) hc hw (c_M_refuses hm) lk_X9_98 rfl rfl ⟨Nat.le_of_ble_eq_true rfl, Nat.le_of_ble_eq_true rfl⟩ ⟨Nat.le_of_ble_eq_true rfl, Nat.le_of_ble_eq_true rfl⟩ hl.1 rfl (Nat.le_of_ble_eq_true rfl) rfl dX9_tell_57 (fun r30 S31 H locs hm hw => ?_)
        have hw : wV D A s.heap (mW cy a S31) H locs := hw
        exact retI (u := S31) hc hw hm dX9_tell_60
    · have hm := hm.2 c37
      refine lv_aload_n hx hb dX9_tell_22 rfl (lv_at hl 0 rfl) ?_
      refine lv_bipush (v := (-2)) hx hb dX9_tell_23 (by decide) ?_
      refine aV_I (As := [.int (-2)]) (rest := []) hc hw (c_M_refuses hm) lk_X9_98 rfl rfl ⟨Nat.le_of_ble_eq_true rfl, Nat.le_of_ble_eq_true rfl⟩ ⟨Nat.le_of_ble_eq_true rfl, Nat.le_of_ble_eq_true rfl⟩ hl.1 rfl (Nat.le_of_ble_eq_true rfl) rfl dX9_tell_25 (fun r34 S35 H locs hm hw => ?_)
      have hw : wV D A s.heap (mW cy a S35) H locs := hw
      exact retI (u := S35) hc hw hm dX9_tell_28
  · have hm := hm.2 c41
    refine lv_aload_n hx hb dX9_tell_8 rfl (lv_at hl 0 rfl) ?_
    refine lv_iconst (v := (-1)) hx hb dX9_tell_9 (by decide) ?_
    refine aV_I (As := [.int (-1)]) (rest := []) hc hw (c_M_refuses hm) lk_X9_98 rfl rfl ⟨Nat.le_of_ble_eq_true rfl, Nat.le_of_ble_eq_true rfl⟩ ⟨Nat.le_of_ble_eq_true rfl, Nat.le_of_ble_eq_true rfl⟩ hl.1 rfl (Nat.le_of_ble_eq_true rfl) rfl dX9_tell_10 (fun r38 S39 H locs hm hw => ?_)
    have hw : wV D A s.heap (mW cy a S39) H locs := hw
    exact retI (u := S39) hc hw hm dX9_tell_13
set_option maxHeartbeats 4000000 in
set_option maxRecDepth 100000 in
theorem c_M_hush {l : Launch} {D : va_G} {cy : Nat → ClassId} {a : Nat → Nat} {S : Ob} {Q : Int32 → Ob → Prop} (hm : wM_hush S Q) : CtI l yX9_hush cX9_hush 2 (some .int) (rmN 0) D cy [.ref (a 0)] (mW cy a S) (mW cy a) Q := by
  refine CtI.ofW (by decide) (Nat.le_of_ble_eq_true rfl) ?_
  intro p e s m args below meth c A ls hc hnm hw hl
  have hx := hc.1.1
  have hb := hc.1.2.1
  have hown := hc.1.2.2.2.1
  have hts := hc.1.2.2.2.2
  have hl : lv_has ls 2 [(0, .ref (a 0))] := hl
  obtain ⟨H, hH⟩ : ∃ z, z = s.heap := ⟨_, rfl⟩
  obtain ⟨locs, hLc⟩ : ∃ z : List Loc, z = [] := ⟨_, rfl⟩
  have hw : wV D A s.heap (mW cy a S) H locs := by rw [hH, hLc]; exact hw
  have hgo : W p l e (rmN 0) s m args below meth c H locs 0 0 (MQ below (eI D cy A (mW cy a) Q) args s (rmN 0).cells (rmN 0).slots A) (F0 m 0 ls []) := ?hgo
  · rw [hH, hLc] at hgo; exact hgo
  refine lv_aload_n hx hb dX9_hush_0 rfl (lv_at hl 0 rfl) ?_
  refine gF (k := 3) hc hw inX9 rfl 0 rfl (by decide) (gm 1062 (by decide +kernel) rfl) rfl dX9_hush_1 ?_
  refine lv_sipush (v := 134) hx hb dX9_hush_4 (by decide) ?_
  refine aI hc hw 2 rfl (vin (by decide)) (j := 134) (by decide) dX9_hush_7 ?_
  refine lv_topi (fun v1 e_v1 => ?_)
  have hm := hm v1 e_v1
  refine lv_istore_n (lv' := [(1, .int v1), (0, .ref (a 0))]) hx hb dX9_hush_8 rfl hl (by decide) rfl (fun ls hl => ?_)
  refine lv_aload_n hx hb dX9_hush_9 rfl (lv_at hl 1 rfl) ?_
  refine gF (k := 3) hc hw inX9 rfl 0 rfl (by decide) (gm 1062 (by decide +kernel) rfl) rfl dX9_hush_10 ?_
  refine lv_sipush (v := 134) hx hb dX9_hush_13 (by decide) ?_
  refine lv_iconst (v := 0) hx hb dX9_hush_16 (by decide) ?_
  refine sI hc hw 2 rfl (vin (by decide)) (j := 134) (by decide) dX9_hush_17 (fun H locs hw => ?_)
  obtain ⟨S2, e_S2⟩ : ∃ z : Ob, z = uA S 3 134 0 := ⟨_, rfl⟩
  have hm := hm S2 e_S2
  have hw : wV D A s.heap (mW cy a S2) H locs := by rw [e_S2]; exact hw
  refine lv_aload_n hx hb dX9_hush_18 rfl (lv_at hl 1 rfl) ?_
  refine lv_dup hx hb dX9_hush_19 rfl ?_
  refine gF (k := 1) hc hw inX9 rfl 0 rfl (by decide) (gm 1060 (by decide +kernel) rfl) rfl dX9_hush_20 ?_
  refine lv_iconst (v := 1) hx hb dX9_hush_23 (by decide) ?_
  refine lv_iadd hx hb dX9_hush_24 ?_
  refine pF (k := 1) (ty := .int) hc hw inX9 tyX9_ok nmX9 rfl 0 rfl (by decide) (gm 1060 (by decide +kernel) rfl) rfl (by decide +kernel) rfl rfl (Nat.le_of_ble_eq_true rfl) dX9_hush_25 (fun H locs hw => ?_)
  obtain ⟨S3, e_S3⟩ : ∃ z : Ob, z = uS S2 1 ((S2.1 1) + 1) := ⟨_, rfl⟩
  have hm := hm S3 e_S3
  have hw : wV D A s.heap (mW cy a S3) H locs := by rw [e_S3]; exact hw
  refine lv_iload_n hx hb dX9_hush_28 rfl (lv_at hl 0 rfl) ?_
  exact retI (u := S3) hc hw hm dX9_hush_29
set_option maxHeartbeats 4000000 in
set_option maxRecDepth 100000 in
theorem c_M_heard {l : Launch} {D : va_G} {cy : Nat → ClassId} {a : Nat → Nat} {S : Ob} {x1 : Int32} {x2 : Int32} {Q : Int32 → Prop} (hm : wM_heard S x1 x2 Q) : CtI l yX9_heard cX9_heard 3 (some .int) (rmN 1) D cy [.ref (a 0), .int x1, .int x2] (mW cy a S) (fun _ : Unit => mW cy a S) (fun (r : Int32) (_ : Unit) => Q r) := by
  refine CtI.ofW (by decide) (Nat.le_of_ble_eq_true rfl) ?_
  intro p e s m args below meth c A ls hc hnm hw hl
  have hx := hc.1.1
  have hb := hc.1.2.1
  have hown := hc.1.2.2.2.1
  have hts := hc.1.2.2.2.2
  have hl : lv_has ls 3 [(0, .ref (a 0)), (1, .int x1), (2, .int x2)] := hl
  obtain ⟨H, hH⟩ : ∃ z, z = s.heap := ⟨_, rfl⟩
  obtain ⟨locs, hLc⟩ : ∃ z : List Loc, z = [] := ⟨_, rfl⟩
  have hw : wV D A s.heap (mW cy a S) H locs := by rw [hH, hLc]; exact hw
  have hgo : W p l e (rmN 1) s m args below meth c H locs 0 0 (MQ below (eI D cy A (fun _ : Unit => mW cy a S) (fun (r : Int32) (_ : Unit) => Q r)) args s (rmN 1).cells (rmN 1).slots A) (F0 m 0 ls []) := ?hgo
  · rw [hH, hLc] at hgo; exact hgo
  refine lv_iload_n hx hb dX9_heard_0 rfl (lv_at hl 1 rfl) ?_
  refine lv_iconst (v := 0) hx hb dX9_heard_1 (by decide) ?_
  refine lv_aload_n hx hb dX9_heard_2 rfl (lv_at hl 0 rfl) ?_
  refine gF (k := 3) hc hw inX9 rfl 0 rfl (by decide) (gm 1062 (by decide +kernel) rfl) rfl dX9_heard_3 ?_
  refine lv_sipush (v := 134) hx hb dX9_heard_6 (by decide) ?_
  refine aI hc hw 2 rfl (vin (by decide)) (j := 134) (by decide) dX9_heard_9 ?_
  refine lv_iconst (v := 1) hx hb dX9_heard_10 (by decide) ?_
  refine lv_isub hx hb dX9_heard_11 ?_
  refine zS_I (As := [.int x1, .int 0, .int ((S.2 3 134) - 1)]) (rest := []) hc hw (c_M_lies hm) lk_X9_94 ⟨Nat.le_of_ble_eq_true rfl, Nat.le_of_ble_eq_true rfl⟩ ⟨Nat.le_of_ble_eq_true rfl, Nat.le_of_ble_eq_true rfl⟩ hl.1 rfl (Nat.le_of_ble_eq_true rfl) rfl dX9_heard_12 (fun r1 H locs hm hw => ?_)
  refine lv_if_eq (tgt := 43) hx hb dX9_heard_15 (by decide) (fun c7 => ?_) (fun c7 => ?_)
  · have hm := hm.1 c7
    refine lv_iconst (v := (-1)) hx hb dX9_heard_43 (by decide) ?_
    exact retI (u := ()) hc hw hm dX9_heard_44
  · have hm := hm.2 c7
    refine lv_iload_n hx hb dX9_heard_18 rfl (lv_at hl 2 rfl) ?_
    refine lv_iconst (v := 0) hx hb dX9_heard_19 (by decide) ?_
    refine lv_iconst (v := 2) hx hb dX9_heard_20 (by decide) ?_
    refine zS_I (As := [.int x2, .int 0, .int 2]) (rest := []) hc hw (c_M_lies hm) lk_X9_94 ⟨Nat.le_of_ble_eq_true rfl, Nat.le_of_ble_eq_true rfl⟩ ⟨Nat.le_of_ble_eq_true rfl, Nat.le_of_ble_eq_true rfl⟩ hl.1 rfl (Nat.le_of_ble_eq_true rfl) rfl dX9_heard_21 (fun r3 H locs hm hw => ?_)
    refine lv_if_eq (tgt := 43) hx hb dX9_heard_24 (by decide) (fun c6 => ?_) (fun c6 => ?_)
    · have hm := hm.1 c6
      refine lv_iconst (v := (-1)) hx hb dX9_heard_43 (by decide) ?_
      exact retI (u := ()) hc hw hm dX9_heard_44
    · have hm := hm.2 c6
      refine lv_aload_n hx hb dX9_heard_27 rfl (lv_at hl 0 rfl) ?_
      refine gF (k := 3) hc hw inX9 rfl 0 rfl (by decide) (gm 1062 (by decide +kernel) rfl) rfl dX9_heard_28 ?_
      refine lv_bipush (v := 43) hx hb dX9_heard_31 (by decide) ?_
      refine lv_iconst (v := 3) hx hb dX9_heard_33 (by decide) ?_
      refine lv_iload_n hx hb dX9_heard_34 rfl (lv_at hl 1 rfl) ?_
      refine lv_imul hx hb dX9_heard_35 ?_
      refine lv_iadd hx hb dX9_heard_36 ?_
      refine lv_iload_n hx hb dX9_heard_37 rfl (lv_at hl 2 rfl) ?_
      refine lv_iadd hx hb dX9_heard_38 ?_
      obtain ⟨c5, hm⟩ := hm
      refine aI hc hw 2 rfl c5 rfl dX9_heard_39 ?_
      refine lv_goto (tgt := 44) hx hb dX9_heard_40 (by decide) ?_
      exact retI (u := ()) hc hw hm dX9_heard_44
set_option maxHeartbeats 4000000 in
set_option maxRecDepth 100000 in
theorem c_M_open {l : Launch} {D : va_G} {cy : Nat → ClassId} {a : Nat → Nat} {S : Ob} {Q : Int32 → Ob → Prop} (hm : wM_open S Q) : CtI l yX9_open cX9_open 4 (some .int) (rmN 103) D cy [.ref (a 0)] (mW cy a S) (mW cy a) Q := by
  refine CtI.ofW (by decide) (Nat.le_of_ble_eq_true rfl) ?_
  intro p e s m args below meth c A ls hc hnm hw hl
  have hx := hc.1.1
  have hb := hc.1.2.1
  have hown := hc.1.2.2.2.1
  have hts := hc.1.2.2.2.2
  have hl : lv_has ls 4 [(0, .ref (a 0))] := hl
  obtain ⟨H, hH⟩ : ∃ z, z = s.heap := ⟨_, rfl⟩
  obtain ⟨locs, hLc⟩ : ∃ z : List Loc, z = [] := ⟨_, rfl⟩
  have hw : wV D A s.heap (mW cy a S) H locs := by rw [hH, hLc]; exact hw
  have hgo : W p l e (rmN 103) s m args below meth c H locs 0 0 (MQ below (eI D cy A (mW cy a) Q) args s (rmN 103).cells (rmN 103).slots A) (F0 m 0 ls []) := ?hgo
  · rw [hH, hLc] at hgo; exact hgo
  refine lv_aload_n hx hb dX9_open_0 rfl (lv_at hl 0 rfl) ?_
  refine aV_V (As := []) (rest := []) hc hw (c_M_looks hm) lk_X9_279 rfl rfl ⟨Nat.le_of_ble_eq_true rfl, Nat.le_of_ble_eq_true rfl⟩ ⟨Nat.le_of_ble_eq_true rfl, Nat.le_of_ble_eq_true rfl⟩ hl.1 rfl (Nat.le_of_ble_eq_true rfl) rfl dX9_open_1 (fun S1 H locs hm hw => ?_)
  have hw : wV D A s.heap (mW cy a S1) H locs := hw
  refine lv_iconst (v := 0) hx hb dX9_open_4 (by decide) ?_
  refine lv_istore_n (lv' := [(1, .int 0), (0, .ref (a 0))]) hx hb dX9_open_5 rfl hl (by decide) rfl (fun ls hl => ?_)
  refine lv_iconst (v := 0) hx hb dX9_open_6 (by decide) ?_
  refine lv_istore_n (lv' := [(2, .int 0), (1, .int 0), (0, .ref (a 0))]) hx hb dX9_open_7 rfl hl (by decide) rfl (fun ls hl => ?_)
  refine wl2_ind (G := fun (x2_3 : Int32) (x1_4 : Int32) => ∀ (H : Heap) (locs : List Loc) (ls : Array Slot), wV D A s.heap (mW cy a S1) H locs → lv_has ls 4 [(2, .int x2_3), (1, .int x1_4), (0, .ref (a 0))] → W p l e (rmN 103) s m args below meth c H locs 0 0 (MQ below (eI D cy A (mW cy a) Q) args s (rmN 103).cells (rmN 103).slots A) (F0 m 8 ls [])) ?_ _ _ hm H locs ls hw (lv_sub hl [0, 1, 2] rfl)
  intro L5 ih5 x2_3 x1_4 hm H locs ls hw hl
  refine lv_iload_n hx hb dX9_open_8 rfl (lv_at hl 0 rfl) ?_
  refine lv_aload_n hx hb dX9_open_9 rfl (lv_at hl 2 rfl) ?_
  refine aV_I (As := []) (rest := [.int x2_3]) hc hw (c_M_tales hm) lk_X9_105 rfl rfl ⟨Nat.le_of_ble_eq_true rfl, Nat.le_of_ble_eq_true rfl⟩ ⟨Nat.le_of_ble_eq_true rfl, Nat.le_of_ble_eq_true rfl⟩ hl.1 rfl (Nat.le_of_ble_eq_true rfl) rfl dX9_open_10 (fun r6 _ H locs hm hw => ?_)
  have hw : wV D A s.heap (mW cy a S1) H locs := hw
  refine lv_icmp_ge (tgt := 62) hx hb dX9_open_13 (by decide) (fun c25 => ?_) (fun c25 => ?_)
  · have hm := hm.1 c25
    refine lv_iload_n hx hb dX9_open_62 rfl (lv_at hl 1 rfl) ?_
    exact retI (u := S1) hc hw hm dX9_open_63
  · have hm := hm.2 c25
    refine lv_iconst (v := 0) hx hb dX9_open_16 (by decide) ?_
    refine lv_istore_n (lv' := [(3, .int 0), (2, .int x2_3), (1, .int x1_4), (0, .ref (a 0))]) hx hb dX9_open_17 rfl hl (by decide) rfl (fun ls hl => ?_)
    refine wl2_ind (G := fun (x3_8 : Int32) (x1_9 : Int32) => ∀ (H : Heap) (locs : List Loc) (ls : Array Slot), wV D A s.heap (mW cy a S1) H locs → lv_has ls 4 [(3, .int x3_8), (2, .int x2_3), (1, .int x1_9), (0, .ref (a 0))] → W p l e (rmN 103) s m args below meth c H locs 0 0 (MQ below (eI D cy A (mW cy a) Q) args s (rmN 103).cells (rmN 103).slots A) (F0 m 18 ls [])) ?_ _ _ hm H locs ls hw (lv_sub hl [0, 1, 2, 3] rfl)
    intro L10 ih10 x3_8 x1_9 hm H locs ls hw hl
    refine lv_iload_n hx hb dX9_open_18 rfl (lv_at hl 0 rfl) ?_
    refine lv_iconst (v := 4) hx hb dX9_open_19 (by decide) ?_
    refine lv_icmp_ge (tgt := 56) hx hb dX9_open_20 (by decide) (fun c24 => ?_) (fun c24 => ?_)
    · have hm := hm.1 c24
      obtain ⟨v11, e_v11⟩ : ∃ z : Int32, z = x2_3 + 1 := ⟨_, rfl⟩
      have hm := hm v11 e_v11
      refine lv_iinc (v := v11) (lv' := [(2, .int v11), (3, .int x3_8), (1, .int x1_9), (0, .ref (a 0))]) hx hb dX9_open_56 hl (k := 1) rfl (by rw [e_v11]; rfl) (by decide) rfl (fun ls hl => ?_)
      refine lv_goto (tgt := 8) hx hb dX9_open_59 (by decide) ?_
      exact ih5 _ _ hm _ _ _ hw (lv_sub hl [0, 2, 3] rfl)
    · have hm := hm.2 c24
      refine lv_aload_n hx hb dX9_open_23 rfl (lv_at hl 3 rfl) ?_
      refine lv_iload_n hx hb dX9_open_24 rfl (lv_at hl 1 rfl) ?_
      refine lv_iload_n hx hb dX9_open_25 rfl (lv_at hl 0 rfl) ?_
      refine lv_aload_n hx hb dX9_open_26 rfl (lv_at hl 3 rfl) ?_
      refine aV_I (As := []) (rest := [.int x3_8, .int x2_3, .ref (a 0)]) hc hw (c_M_toldSet hm) lk_X9_303 rfl rfl ⟨Nat.le_of_ble_eq_true rfl, Nat.le_of_ble_eq_true rfl⟩ ⟨Nat.le_of_ble_eq_true rfl, Nat.le_of_ble_eq_true rfl⟩ hl.1 rfl (Nat.le_of_ble_eq_true rfl) rfl dX9_open_27 (fun r12 _ H locs hm hw => ?_)
      have hw : wV D A s.heap (mW cy a S1) H locs := hw
      refine lv_aload_n hx hb dX9_open_30 rfl (lv_at hl 3 rfl) ?_
      refine aV_I (As := []) (rest := [.int r12, .int x3_8, .int x2_3, .ref (a 0)]) hc hw (c_M_lastYear hm) lk_X9_306 rfl rfl ⟨Nat.le_of_ble_eq_true rfl, Nat.le_of_ble_eq_true rfl⟩ ⟨Nat.le_of_ble_eq_true rfl, Nat.le_of_ble_eq_true rfl⟩ hl.1 rfl (Nat.le_of_ble_eq_true rfl) rfl dX9_open_31 (fun r14 _ H locs hm hw => ?_)
      have hw : wV D A s.heap (mW cy a S1) H locs := hw
      refine lv_aload_n hx hb dX9_open_34 rfl (lv_at hl 3 rfl) ?_
      refine aV_I (As := []) (rest := [.int r14, .int r12, .int x3_8, .int x2_3, .ref (a 0)]) hc hw (c_M_lastTeller hm) lk_X9_309 rfl rfl ⟨Nat.le_of_ble_eq_true rfl, Nat.le_of_ble_eq_true rfl⟩ ⟨Nat.le_of_ble_eq_true rfl, Nat.le_of_ble_eq_true rfl⟩ hl.1 rfl (Nat.le_of_ble_eq_true rfl) rfl dX9_open_35 (fun r16 _ H locs hm hw => ?_)
      have hw : wV D A s.heap (mW cy a S1) H locs := hw
      refine aV_I (As := [.int x2_3, .int x3_8, .int r12, .int r14, .int r16]) (rest := []) hc hw (c_M_canNext hm) lk_X9_312 rfl rfl ⟨Nat.le_of_ble_eq_true rfl, Nat.le_of_ble_eq_true rfl⟩ ⟨Nat.le_of_ble_eq_true rfl, Nat.le_of_ble_eq_true rfl⟩ hl.1 rfl (Nat.le_of_ble_eq_true rfl) rfl dX9_open_38 (fun r18 _ H locs hm hw => ?_)
      have hw : wV D A s.heap (mW cy a S1) H locs := hw
      refine lv_if_eq (tgt := 50) hx hb dX9_open_41 (by decide) (fun c23 => ?_) (fun c23 => ?_)
      · have hm := hm.1 c23
        obtain ⟨v20, e_v20⟩ : ∃ z : Int32, z = x3_8 + 1 := ⟨_, rfl⟩
        have hm := hm v20 e_v20
        refine lv_iinc (v := v20) (lv' := [(3, .int v20), (2, .int x2_3), (1, .int x1_9), (0, .ref (a 0))]) hx hb dX9_open_50 hl (k := 0) rfl (by rw [e_v20]; rfl) (by decide) rfl (fun ls hl => ?_)
        refine lv_goto (tgt := 18) hx hb dX9_open_53 (by decide) ?_
        exact ih10 _ _ hm _ _ _ hw (lv_sub hl [0, 1, 2, 3] rfl)
      · have hm := hm.2 c23
        refine lv_iload_n hx hb dX9_open_44 rfl (lv_at hl 2 rfl) ?_
        refine lv_iconst (v := 1) hx hb dX9_open_45 (by decide) ?_
        refine lv_iload_n hx hb dX9_open_46 rfl (lv_at hl 1 rfl) ?_
        refine lv_ishl hx hb dX9_open_47 ?_
        refine lv_ior hx hb dX9_open_48 ?_
        refine lv_topi (fun v21 e_v21 => ?_)
        have hm := hm v21 e_v21
        refine lv_istore_n (lv' := [(1, .int v21), (3, .int x3_8), (2, .int x2_3), (0, .ref (a 0))]) hx hb dX9_open_49 rfl hl (by decide) rfl (fun ls hl => ?_)
        obtain ⟨v22, e_v22⟩ : ∃ z : Int32, z = x3_8 + 1 := ⟨_, rfl⟩
        have hm := hm v22 e_v22
        refine lv_iinc (v := v22) (lv' := [(3, .int v22), (1, .int v21), (2, .int x2_3), (0, .ref (a 0))]) hx hb dX9_open_50 hl (k := 1) rfl (by rw [e_v22]; rfl) (by decide) rfl (fun ls hl => ?_)
        refine lv_goto (tgt := 18) hx hb dX9_open_53 (by decide) ?_
        exact ih10 _ _ hm _ _ _ hw (lv_sub hl [0, 2, 1, 3] rfl)
set_option maxHeartbeats 4000000 in
set_option maxRecDepth 100000 in
theorem c_M_isSet {l : Launch} {D : va_G} {cy : Nat → ClassId} {a : Nat → Nat} {S : Ob} {x1 : Int32} {Q : Int32 → Prop} (hm : wM_isSet S x1 Q) : CtI l yX9_isSet cX9_isSet 2 (some .boolean) (rmN 1) D cy [.ref (a 0), .int x1] (mW cy a S) (fun _ : Unit => mW cy a S) (fun (r : Int32) (_ : Unit) => Q r) := by
  refine CtI.ofW (by decide) (Nat.le_of_ble_eq_true rfl) ?_
  intro p e s m args below meth c A ls hc hnm hw hl
  have hx := hc.1.1
  have hb := hc.1.2.1
  have hown := hc.1.2.2.2.1
  have hts := hc.1.2.2.2.2
  have hl : lv_has ls 2 [(0, .ref (a 0)), (1, .int x1)] := hl
  obtain ⟨H, hH⟩ : ∃ z, z = s.heap := ⟨_, rfl⟩
  obtain ⟨locs, hLc⟩ : ∃ z : List Loc, z = [] := ⟨_, rfl⟩
  have hw : wV D A s.heap (mW cy a S) H locs := by rw [hH, hLc]; exact hw
  have hgo : W p l e (rmN 1) s m args below meth c H locs 0 0 (MQ below (eI D cy A (fun _ : Unit => mW cy a S) (fun (r : Int32) (_ : Unit) => Q r)) args s (rmN 1).cells (rmN 1).slots A) (F0 m 0 ls []) := ?hgo
  · rw [hH, hLc] at hgo; exact hgo
  refine lv_iload_n hx hb dX9_isSet_0 rfl (lv_at hl 1 rfl) ?_
  refine lv_iconst (v := 0) hx hb dX9_isSet_1 (by decide) ?_
  refine lv_iconst (v := 1) hx hb dX9_isSet_2 (by decide) ?_
  refine lv_aload_n hx hb dX9_isSet_3 rfl (lv_at hl 0 rfl) ?_
  refine aV_I (As := []) (rest := [.int 1, .int 0, .int x1]) hc hw (c_M_tales hm) lk_X9_105 rfl rfl ⟨Nat.le_of_ble_eq_true rfl, Nat.le_of_ble_eq_true rfl⟩ ⟨Nat.le_of_ble_eq_true rfl, Nat.le_of_ble_eq_true rfl⟩ hl.1 rfl (Nat.le_of_ble_eq_true rfl) rfl dX9_isSet_4 (fun r1 _ H locs hm hw => ?_)
  have hw : wV D A s.heap (mW cy a S) H locs := hw
  refine lv_ishl hx hb dX9_isSet_7 ?_
  refine lv_iconst (v := 1) hx hb dX9_isSet_8 (by decide) ?_
  refine lv_isub hx hb dX9_isSet_9 ?_
  refine zS_I (As := [.int x1, .int 0, .int (((1 : Int32) <<< (r1 &&& 31)) - 1)]) (rest := []) hc hw (c_M_lies hm) lk_X9_94 ⟨Nat.le_of_ble_eq_true rfl, Nat.le_of_ble_eq_true rfl⟩ ⟨Nat.le_of_ble_eq_true rfl, Nat.le_of_ble_eq_true rfl⟩ hl.1 rfl (Nat.le_of_ble_eq_true rfl) rfl dX9_isSet_10 (fun r3 H locs hm hw => ?_)
  refine lv_if_eq (tgt := 29) hx hb dX9_isSet_13 (by decide) (fun c8 => ?_) (fun c8 => ?_)
  · have hm := hm.1 c8
    refine lv_iconst (v := 0) hx hb dX9_isSet_29 (by decide) ?_
    exact retZ (u := ()) hc hw rfl hm dX9_isSet_30
  · have hm := hm.2 c8
    refine lv_iload_n hx hb dX9_isSet_16 rfl (lv_at hl 1 rfl) ?_
    refine lv_aload_n hx hb dX9_isSet_17 rfl (lv_at hl 0 rfl) ?_
    refine aV_I (As := []) (rest := [.int x1]) hc hw (c_M_toldSet hm) lk_X9_303 rfl rfl ⟨Nat.le_of_ble_eq_true rfl, Nat.le_of_ble_eq_true rfl⟩ ⟨Nat.le_of_ble_eq_true rfl, Nat.le_of_ble_eq_true rfl⟩ hl.1 rfl (Nat.le_of_ble_eq_true rfl) rfl dX9_isSet_18 (fun r5 _ H locs hm hw => ?_)
    have hw : wV D A s.heap (mW cy a S) H locs := hw
    refine lv_iand hx hb dX9_isSet_21 ?_
    refine lv_if_ne (tgt := 29) hx hb dX9_isSet_22 (by decide) (fun c7 => ?_) (fun c7 => ?_)
    · have hm := hm.1 c7
      refine lv_iconst (v := 0) hx hb dX9_isSet_29 (by decide) ?_
      exact retZ (u := ()) hc hw rfl hm dX9_isSet_30
    · have hm := hm.2 c7
      refine lv_iconst (v := 1) hx hb dX9_isSet_25 (by decide) ?_
      refine lv_goto (tgt := 30) hx hb dX9_isSet_26 (by decide) ?_
      exact retZ (u := ()) hc hw rfl hm dX9_isSet_30
set_option maxHeartbeats 4000000 in
set_option maxRecDepth 100000 in
theorem c_M_goesOn {l : Launch} {D : va_G} {cy : Nat → ClassId} {a : Nat → Nat} {S : Ob} {x1 : Int32} {Q : Int32 → Prop} (hm : wM_goesOn S x1 Q) : CtI l yX9_goesOn cX9_goesOn 2 (some .boolean) (rmN 1) D cy [.ref (a 0), .int x1] (mW cy a S) (fun _ : Unit => mW cy a S) (fun (r : Int32) (_ : Unit) => Q r) := by
  refine CtI.ofW (by decide) (Nat.le_of_ble_eq_true rfl) ?_
  intro p e s m args below meth c A ls hc hnm hw hl
  have hx := hc.1.1
  have hb := hc.1.2.1
  have hown := hc.1.2.2.2.1
  have hts := hc.1.2.2.2.2
  have hl : lv_has ls 2 [(0, .ref (a 0)), (1, .int x1)] := hl
  obtain ⟨H, hH⟩ : ∃ z, z = s.heap := ⟨_, rfl⟩
  obtain ⟨locs, hLc⟩ : ∃ z : List Loc, z = [] := ⟨_, rfl⟩
  have hw : wV D A s.heap (mW cy a S) H locs := by rw [hH, hLc]; exact hw
  have hgo : W p l e (rmN 1) s m args below meth c H locs 0 0 (MQ below (eI D cy A (fun _ : Unit => mW cy a S) (fun (r : Int32) (_ : Unit) => Q r)) args s (rmN 1).cells (rmN 1).slots A) (F0 m 0 ls []) := ?hgo
  · rw [hH, hLc] at hgo; exact hgo
  refine lv_aload_n hx hb dX9_goesOn_0 rfl (lv_at hl 0 rfl) ?_
  refine gF (k := 30) hc hw inX9 rfl 0 rfl (by decide) (gm 1089 (by decide +kernel) rfl) rfl dX9_goesOn_1 ?_
  refine lv_iconst (v := 5) hx hb dX9_goesOn_4 (by decide) ?_
  refine lv_iload_n hx hb dX9_goesOn_5 rfl (lv_at hl 1 rfl) ?_
  refine lv_imul hx hb dX9_goesOn_6 ?_
  refine lv_aload_n hx hb dX9_goesOn_7 rfl (lv_at hl 0 rfl) ?_
  refine aV_I (As := []) (rest := [.int (5 * x1), .ref (a 15)]) hc hw (c_M_lastTeller hm) lk_X9_309 rfl rfl ⟨Nat.le_of_ble_eq_true rfl, Nat.le_of_ble_eq_true rfl⟩ ⟨Nat.le_of_ble_eq_true rfl, Nat.le_of_ble_eq_true rfl⟩ hl.1 rfl (Nat.le_of_ble_eq_true rfl) rfl dX9_goesOn_8 (fun r1 _ H locs hm hw => ?_)
  have hw : wV D A s.heap (mW cy a S) H locs := hw
  refine lv_iadd hx hb dX9_goesOn_11 ?_
  obtain ⟨c3, hm⟩ := hm
  refine aI hc hw 15 rfl c3 rfl dX9_goesOn_12 ?_
  refine lv_aload_n hx hb dX9_goesOn_13 rfl (lv_at hl 0 rfl) ?_
  refine aV_I (As := []) (rest := [.int (S.2 30 (Int32.toNatClampNeg ((5 * x1) + r1)))]) hc hw (c_M_lastYear hm) lk_X9_306 rfl rfl ⟨Nat.le_of_ble_eq_true rfl, Nat.le_of_ble_eq_true rfl⟩ ⟨Nat.le_of_ble_eq_true rfl, Nat.le_of_ble_eq_true rfl⟩ hl.1 rfl (Nat.le_of_ble_eq_true rfl) rfl dX9_goesOn_14 (fun r4 _ H locs hm hw => ?_)
  have hw : wV D A s.heap (mW cy a S) H locs := hw
  refine lv_icmp_gt (tgt := 42) hx hb dX9_goesOn_17 (by decide) (fun c10 => ?_) (fun c10 => ?_)
  · have hm := hm.1 c10
    refine lv_iconst (v := 0) hx hb dX9_goesOn_42 (by decide) ?_
    exact retZ (u := ()) hc hw rfl hm dX9_goesOn_43
  · have hm := hm.2 c10
    refine lv_aload_n hx hb dX9_goesOn_20 rfl (lv_at hl 0 rfl) ?_
    refine gF (k := 30) hc hw inX9 rfl 0 rfl (by decide) (gm 1089 (by decide +kernel) rfl) rfl dX9_goesOn_21 ?_
    refine lv_iconst (v := 5) hx hb dX9_goesOn_24 (by decide) ?_
    refine lv_iload_n hx hb dX9_goesOn_25 rfl (lv_at hl 1 rfl) ?_
    refine lv_imul hx hb dX9_goesOn_26 ?_
    refine lv_aload_n hx hb dX9_goesOn_27 rfl (lv_at hl 0 rfl) ?_
    refine aV_I (As := []) (rest := [.int (5 * x1), .ref (a 15)]) hc hw (c_M_lastTeller hm) lk_X9_309 rfl rfl ⟨Nat.le_of_ble_eq_true rfl, Nat.le_of_ble_eq_true rfl⟩ ⟨Nat.le_of_ble_eq_true rfl, Nat.le_of_ble_eq_true rfl⟩ hl.1 rfl (Nat.le_of_ble_eq_true rfl) rfl dX9_goesOn_28 (fun r6 _ H locs hm hw => ?_)
    have hw : wV D A s.heap (mW cy a S) H locs := hw
    refine lv_iadd hx hb dX9_goesOn_31 ?_
    obtain ⟨c8, hm⟩ := hm
    refine aI hc hw 15 rfl c8 rfl dX9_goesOn_32 ?_
    refine lv_ldc (v := 1000000) hx hb hown (hts _ (gm 1281 (by decide +kernel) rfl)) dX9_goesOn_33 ?_
    refine lv_icmp_ge (tgt := 42) hx hb dX9_goesOn_35 (by decide) (fun c9 => ?_) (fun c9 => ?_)
    · have hm := hm.1 c9
      refine lv_iconst (v := 0) hx hb dX9_goesOn_42 (by decide) ?_
      exact retZ (u := ()) hc hw rfl hm dX9_goesOn_43
    · have hm := hm.2 c9
      refine lv_iconst (v := 1) hx hb dX9_goesOn_38 (by decide) ?_
      refine lv_goto (tgt := 43) hx hb dX9_goesOn_39 (by decide) ?_
      exact retZ (u := ()) hc hw rfl hm dX9_goesOn_43
set_option maxHeartbeats 4000000 in
set_option maxRecDepth 100000 in
theorem c_M_goes {l : Launch} {D : va_G} {cy : Nat → ClassId} {a : Nat → Nat} {S : Ob} {x1 : Int32} {Q : Int32 → Ob → Prop} (hm : wM_goes S x1 Q) : CtI l yX9_goes cX9_goes 2 (some .int) (rmN 103) D cy [.ref (a 0), .int x1] (mW cy a S) (mW cy a) Q := by
  refine CtI.ofW (by decide) (Nat.le_of_ble_eq_true rfl) ?_
  intro p e s m args below meth c A ls hc hnm hw hl
  have hx := hc.1.1
  have hb := hc.1.2.1
  have hown := hc.1.2.2.2.1
  have hts := hc.1.2.2.2.2
  have hl : lv_has ls 2 [(0, .ref (a 0)), (1, .int x1)] := hl
  obtain ⟨H, hH⟩ : ∃ z, z = s.heap := ⟨_, rfl⟩
  obtain ⟨locs, hLc⟩ : ∃ z : List Loc, z = [] := ⟨_, rfl⟩
  have hw : wV D A s.heap (mW cy a S) H locs := by rw [hH, hLc]; exact hw
  have hgo : W p l e (rmN 103) s m args below meth c H locs 0 0 (MQ below (eI D cy A (mW cy a) Q) args s (rmN 103).cells (rmN 103).slots A) (F0 m 0 ls []) := ?hgo
  · rw [hH, hLc] at hgo; exact hgo
  refine lv_aload_n hx hb dX9_goes_0 rfl (lv_at hl 0 rfl) ?_
  refine lv_iload_n hx hb dX9_goes_1 rfl (lv_at hl 1 rfl) ?_
  refine aV_I (As := [.int x1]) (rest := []) hc hw (c_M_isSet hm) lk_X9_316 rfl rfl ⟨Nat.le_of_ble_eq_true rfl, Nat.le_of_ble_eq_true rfl⟩ ⟨Nat.le_of_ble_eq_true rfl, Nat.le_of_ble_eq_true rfl⟩ hl.1 rfl (Nat.le_of_ble_eq_true rfl) rfl dX9_goes_2 (fun r1 _ H locs hm hw => ?_)
  have hw : wV D A s.heap (mW cy a S) H locs := hw
  refine lv_if_ne (tgt := 10) hx hb dX9_goes_5 (by decide) (fun c8 => ?_) (fun c8 => ?_)
  · have hm := hm.1 c8
    refine lv_aload_n hx hb dX9_goes_10 rfl (lv_at hl 0 rfl) ?_
    refine aV_V (As := []) (rest := []) hc hw (c_M_looks hm) lk_X9_279 rfl rfl ⟨Nat.le_of_ble_eq_true rfl, Nat.le_of_ble_eq_true rfl⟩ ⟨Nat.le_of_ble_eq_true rfl, Nat.le_of_ble_eq_true rfl⟩ hl.1 rfl (Nat.le_of_ble_eq_true rfl) rfl dX9_goes_11 (fun S3 H locs hm hw => ?_)
    have hw : wV D A s.heap (mW cy a S3) H locs := hw
    refine lv_aload_n hx hb dX9_goes_14 rfl (lv_at hl 0 rfl) ?_
    refine lv_iload_n hx hb dX9_goes_15 rfl (lv_at hl 1 rfl) ?_
    refine aV_I (As := [.int x1]) (rest := []) hc hw (c_M_goesOn hm) lk_X9_319 rfl rfl ⟨Nat.le_of_ble_eq_true rfl, Nat.le_of_ble_eq_true rfl⟩ ⟨Nat.le_of_ble_eq_true rfl, Nat.le_of_ble_eq_true rfl⟩ hl.1 rfl (Nat.le_of_ble_eq_true rfl) rfl dX9_goes_16 (fun r5 _ H locs hm hw => ?_)
    have hw : wV D A s.heap (mW cy a S3) H locs := hw
    refine lv_if_eq (tgt := 26) hx hb dX9_goes_19 (by decide) (fun c7 => ?_) (fun c7 => ?_)
    · have hm := hm.1 c7
      refine lv_iconst (v := 0) hx hb dX9_goes_26 (by decide) ?_
      exact retI (u := S3) hc hw hm dX9_goes_27
    · have hm := hm.2 c7
      refine lv_iconst (v := 1) hx hb dX9_goes_22 (by decide) ?_
      refine lv_goto (tgt := 27) hx hb dX9_goes_23 (by decide) ?_
      exact retI (u := S3) hc hw hm dX9_goes_27
  · have hm := hm.2 c8
    refine lv_iconst (v := (-1)) hx hb dX9_goes_8 (by decide) ?_
    exact retI (u := S) hc hw hm dX9_goes_9
set_option maxHeartbeats 4000000 in
set_option maxRecDepth 100000 in
theorem c_M_worthOf {l : Launch} {D : va_G} {cy : Nat → ClassId} {a : Nat → Nat} {S : Ob} {x1 : Int32} {Q : Int32 → Prop} (hm : wM_worthOf S x1 Q) : CtI l yX9_worthOf cX9_worthOf 4 (some .int) (rmN 1) D cy [.ref (a 0), .int x1] (mW cy a S) (fun _ : Unit => mW cy a S) (fun (r : Int32) (_ : Unit) => Q r) := by
  refine CtI.ofW (by decide) (Nat.le_of_ble_eq_true rfl) ?_
  intro p e s m args below meth c A ls hc hnm hw hl
  have hx := hc.1.1
  have hb := hc.1.2.1
  have hown := hc.1.2.2.2.1
  have hts := hc.1.2.2.2.2
  have hl : lv_has ls 4 [(0, .ref (a 0)), (1, .int x1)] := hl
  obtain ⟨H, hH⟩ : ∃ z, z = s.heap := ⟨_, rfl⟩
  obtain ⟨locs, hLc⟩ : ∃ z : List Loc, z = [] := ⟨_, rfl⟩
  have hw : wV D A s.heap (mW cy a S) H locs := by rw [hH, hLc]; exact hw
  have hgo : W p l e (rmN 1) s m args below meth c H locs 0 0 (MQ below (eI D cy A (fun _ : Unit => mW cy a S) (fun (r : Int32) (_ : Unit) => Q r)) args s (rmN 1).cells (rmN 1).slots A) (F0 m 0 ls []) := ?hgo
  · rw [hH, hLc] at hgo; exact hgo
  refine lv_iconst (v := 0) hx hb dX9_worthOf_0 (by decide) ?_
  refine lv_istore_n (lv' := [(2, .int 0), (0, .ref (a 0)), (1, .int x1)]) hx hb dX9_worthOf_1 rfl hl (by decide) rfl (fun ls hl => ?_)
  refine lv_iconst (v := 0) hx hb dX9_worthOf_2 (by decide) ?_
  refine lv_istore_n (lv' := [(3, .int 0), (2, .int 0), (0, .ref (a 0)), (1, .int x1)]) hx hb dX9_worthOf_3 rfl hl (by decide) rfl (fun ls hl => ?_)
  refine wl2_ind (G := fun (x3_1 : Int32) (x2_2 : Int32) => ∀ (H : Heap) (locs : List Loc) (ls : Array Slot), wV D A s.heap (mW cy a S) H locs → lv_has ls 4 [(3, .int x3_1), (2, .int x2_2), (0, .ref (a 0)), (1, .int x1)] → W p l e (rmN 1) s m args below meth c H locs 0 0 (MQ below (eI D cy A (fun _ : Unit => mW cy a S) (fun (r : Int32) (_ : Unit) => Q r)) args s (rmN 1).cells (rmN 1).slots A) (F0 m 4 ls [])) ?_ _ _ hm H locs ls hw (lv_sub hl [0, 1, 2, 3] rfl)
  intro L3 ih3 x3_1 x2_2 hm H locs ls hw hl
  refine lv_iload_n hx hb dX9_worthOf_4 rfl (lv_at hl 0 rfl) ?_
  refine lv_aload_n hx hb dX9_worthOf_5 rfl (lv_at hl 2 rfl) ?_
  refine aV_I (As := []) (rest := [.int x3_1]) hc hw (c_M_tales hm) lk_X9_105 rfl rfl ⟨Nat.le_of_ble_eq_true rfl, Nat.le_of_ble_eq_true rfl⟩ ⟨Nat.le_of_ble_eq_true rfl, Nat.le_of_ble_eq_true rfl⟩ hl.1 rfl (Nat.le_of_ble_eq_true rfl) rfl dX9_worthOf_6 (fun r4 _ H locs hm hw => ?_)
  have hw : wV D A s.heap (mW cy a S) H locs := hw
  refine lv_icmp_ge (tgt := 39) hx hb dX9_worthOf_9 (by decide) (fun c14 => ?_) (fun c14 => ?_)
  · have hm := hm.1 c14
    refine lv_iload_n hx hb dX9_worthOf_39 rfl (lv_at hl 1 rfl) ?_
    exact retI (u := ()) hc hw hm dX9_worthOf_40
  · have hm := hm.2 c14
    refine lv_iload_n hx hb dX9_worthOf_12 rfl (lv_at hl 1 rfl) ?_
    refine lv_iload_n hx hb dX9_worthOf_13 rfl (lv_at hl 3 rfl) ?_
    refine lv_iload_n hx hb dX9_worthOf_14 rfl (lv_at hl 0 rfl) ?_
    refine zS_I (As := [.int x1, .int x3_1]) (rest := [.int x2_2]) hc hw (c_M_isIn hm) lk_X9_269 ⟨Nat.le_of_ble_eq_true rfl, Nat.le_of_ble_eq_true rfl⟩ ⟨Nat.le_of_ble_eq_true rfl, Nat.le_of_ble_eq_true rfl⟩ hl.1 rfl (Nat.le_of_ble_eq_true rfl) rfl dX9_worthOf_15 (fun r6 H locs hm hw => ?_)
    refine lv_if_eq (tgt := 30) hx hb dX9_worthOf_18 (by decide) (fun c13 => ?_) (fun c13 => ?_)
    · have hm := hm.1 c13
      refine lv_iconst (v := 0) hx hb dX9_worthOf_30 (by decide) ?_
      refine lv_iadd hx hb dX9_worthOf_31 ?_
      refine lv_topi (fun v8 e_v8 => ?_)
      have hm := hm v8 e_v8
      refine lv_istore_n (lv' := [(2, .int v8), (3, .int x3_1), (0, .ref (a 0)), (1, .int x1)]) hx hb dX9_worthOf_32 rfl hl (by decide) rfl (fun ls hl => ?_)
      obtain ⟨v9, e_v9⟩ : ∃ z : Int32, z = x3_1 + 1 := ⟨_, rfl⟩
      have hm := hm v9 e_v9
      refine lv_iinc (v := v9) (lv' := [(3, .int v9), (2, .int v8), (0, .ref (a 0)), (1, .int x1)]) hx hb dX9_worthOf_33 hl (k := 1) rfl (by rw [e_v9]; rfl) (by decide) rfl (fun ls hl => ?_)
      refine lv_goto (tgt := 4) hx hb dX9_worthOf_36 (by decide) ?_
      exact ih3 _ _ hm _ _ _ hw (lv_sub hl [0, 1, 2, 3] rfl)
    · have hm := hm.2 c13
      refine lv_aload_n hx hb dX9_worthOf_21 rfl (lv_at hl 2 rfl) ?_
      refine gF (k := 26) hc hw inX9 rfl 0 rfl (by decide) (gm 1085 (by decide +kernel) rfl) rfl dX9_worthOf_22 ?_
      refine lv_iload_n hx hb dX9_worthOf_25 rfl (lv_at hl 0 rfl) ?_
      obtain ⟨c10, hm⟩ := hm
      refine aI hc hw 12 rfl c10 rfl dX9_worthOf_26 ?_
      refine lv_goto (tgt := 31) hx hb dX9_worthOf_27 (by decide) ?_
      refine lv_iadd hx hb dX9_worthOf_31 ?_
      refine lv_topi (fun v11 e_v11 => ?_)
      have hm := hm v11 e_v11
      refine lv_istore_n (lv' := [(2, .int v11), (3, .int x3_1), (0, .ref (a 0)), (1, .int x1)]) hx hb dX9_worthOf_32 rfl hl (by decide) rfl (fun ls hl => ?_)
      obtain ⟨v12, e_v12⟩ : ∃ z : Int32, z = x3_1 + 1 := ⟨_, rfl⟩
      have hm := hm v12 e_v12
      refine lv_iinc (v := v12) (lv' := [(3, .int v12), (2, .int v11), (0, .ref (a 0)), (1, .int x1)]) hx hb dX9_worthOf_33 hl (k := 1) rfl (by rw [e_v12]; rfl) (by decide) rfl (fun ls hl => ?_)
      refine lv_goto (tgt := 4) hx hb dX9_worthOf_36 (by decide) ?_
      exact ih3 _ _ hm _ _ _ hw (lv_sub hl [0, 1, 2, 3] rfl)
