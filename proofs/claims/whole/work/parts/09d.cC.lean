set_option maxHeartbeats 4000000 in
set_option maxRecDepth 100000 in
theorem c_X4_isLetter {l : Launch} {D : va_G} {cy : Nat → ClassId} {x0 : Int32} {Q : Int32 → Prop} (hm : w_X4_isLetter x0 Q) : CtI l yX4_isLetter cX4_isLetter 1 (some .boolean) (rmN 0) D cy [.int x0] ([] : va_W) (fun _ : Unit => ([] : va_W)) (fun (r : Int32) (_ : Unit) => Q r) := by
  refine CtI.ofW (by decide) (Nat.le_of_ble_eq_true rfl) ?_
  intro p e s m args below meth c A ls hc hnm hw hl
  have hx := hc.1.1
  have hb := hc.1.2.1
  have hown := hc.1.2.2.2.1
  have hts := hc.1.2.2.2.2
  have hl : lv_has ls 1 [(0, .int x0)] := hl
  obtain ⟨H, hH⟩ : ∃ z, z = s.heap := ⟨_, rfl⟩
  obtain ⟨locs, hLc⟩ : ∃ z : List Loc, z = [] := ⟨_, rfl⟩
  have hw : wV D A s.heap ([] : va_W) H locs := by rw [hH, hLc]; exact hw
  have hgo : W p l e (rmN 0) s m args below meth c H locs 0 0 (MQ below (eI D cy A (fun _ : Unit => ([] : va_W)) (fun (r : Int32) (_ : Unit) => Q r)) args s (rmN 0).cells (rmN 0).slots A) (F0 m 0 ls []) := ?hgo
  · rw [hH, hLc] at hgo; exact hgo
  refine lv_iload_n hx hb dX4_isLetter_0 rfl (lv_at hl 0 rfl) ?_
  refine lv_bipush (v := 97) hx hb dX4_isLetter_1 (by decide) ?_
  refine lv_icmp_lt (tgt := 16) hx hb dX4_isLetter_3 (by decide) (fun c2 => ?_) (fun c2 => ?_)
  · have hm := hm.1 c2
    refine lv_iconst (v := 0) hx hb dX4_isLetter_16 (by decide) ?_
    exact retZ (u := ()) hc hw rfl hm dX4_isLetter_17
  · have hm := hm.2 c2
    refine lv_iload_n hx hb dX4_isLetter_6 rfl (lv_at hl 0 rfl) ?_
    refine lv_bipush (v := 122) hx hb dX4_isLetter_7 (by decide) ?_
    refine lv_icmp_gt (tgt := 16) hx hb dX4_isLetter_9 (by decide) (fun c1 => ?_) (fun c1 => ?_)
    · have hm := hm.1 c1
      refine lv_iconst (v := 0) hx hb dX4_isLetter_16 (by decide) ?_
      exact retZ (u := ()) hc hw rfl hm dX4_isLetter_17
    · have hm := hm.2 c1
      refine lv_iconst (v := 1) hx hb dX4_isLetter_12 (by decide) ?_
      refine lv_goto (tgt := 17) hx hb dX4_isLetter_13 (by decide) ?_
      exact retZ (u := ()) hc hw rfl hm dX4_isLetter_17
set_option maxHeartbeats 4000000 in
set_option maxRecDepth 100000 in
theorem c_X4_isDigit {l : Launch} {D : va_G} {cy : Nat → ClassId} {x0 : Int32} {Q : Int32 → Prop} (hm : w_X4_isDigit x0 Q) : CtI l yX4_isDigit cX4_isDigit 1 (some .boolean) (rmN 0) D cy [.int x0] ([] : va_W) (fun _ : Unit => ([] : va_W)) (fun (r : Int32) (_ : Unit) => Q r) := by
  refine CtI.ofW (by decide) (Nat.le_of_ble_eq_true rfl) ?_
  intro p e s m args below meth c A ls hc hnm hw hl
  have hx := hc.1.1
  have hb := hc.1.2.1
  have hown := hc.1.2.2.2.1
  have hts := hc.1.2.2.2.2
  have hl : lv_has ls 1 [(0, .int x0)] := hl
  obtain ⟨H, hH⟩ : ∃ z, z = s.heap := ⟨_, rfl⟩
  obtain ⟨locs, hLc⟩ : ∃ z : List Loc, z = [] := ⟨_, rfl⟩
  have hw : wV D A s.heap ([] : va_W) H locs := by rw [hH, hLc]; exact hw
  have hgo : W p l e (rmN 0) s m args below meth c H locs 0 0 (MQ below (eI D cy A (fun _ : Unit => ([] : va_W)) (fun (r : Int32) (_ : Unit) => Q r)) args s (rmN 0).cells (rmN 0).slots A) (F0 m 0 ls []) := ?hgo
  · rw [hH, hLc] at hgo; exact hgo
  refine lv_iload_n hx hb dX4_isDigit_0 rfl (lv_at hl 0 rfl) ?_
  refine lv_bipush (v := 48) hx hb dX4_isDigit_1 (by decide) ?_
  refine lv_icmp_lt (tgt := 16) hx hb dX4_isDigit_3 (by decide) (fun c2 => ?_) (fun c2 => ?_)
  · have hm := hm.1 c2
    refine lv_iconst (v := 0) hx hb dX4_isDigit_16 (by decide) ?_
    exact retZ (u := ()) hc hw rfl hm dX4_isDigit_17
  · have hm := hm.2 c2
    refine lv_iload_n hx hb dX4_isDigit_6 rfl (lv_at hl 0 rfl) ?_
    refine lv_bipush (v := 57) hx hb dX4_isDigit_7 (by decide) ?_
    refine lv_icmp_gt (tgt := 16) hx hb dX4_isDigit_9 (by decide) (fun c1 => ?_) (fun c1 => ?_)
    · have hm := hm.1 c1
      refine lv_iconst (v := 0) hx hb dX4_isDigit_16 (by decide) ?_
      exact retZ (u := ()) hc hw rfl hm dX4_isDigit_17
    · have hm := hm.2 c1
      refine lv_iconst (v := 1) hx hb dX4_isDigit_12 (by decide) ?_
      refine lv_goto (tgt := 17) hx hb dX4_isDigit_13 (by decide) ?_
      exact retZ (u := ()) hc hw rfl hm dX4_isDigit_17
set_option maxHeartbeats 4000000 in
set_option maxRecDepth 100000 in
theorem c_X4_runEnd {l : Launch} {D : va_G} {cy : Nat → ClassId} {atp : Nat → Nat} {Stp : (Nat → Int32)} {x1 : Int32} {x2 : Int32} {x3 : Int32} {Q : Int32 → Prop} (hm : w_X4_runEnd Stp x1 x2 x3 Q) : CtI l yX4_runEnd cX4_runEnd 6 (some .int) (rmN 1) D cy [.ref (atp 0), .int x1, .int x2, .int x3] (tpW cy atp Stp) (fun _ : Unit => (tpW cy atp Stp)) (fun (r : Int32) (_ : Unit) => Q r) := by
  refine CtI.ofW (by decide) (Nat.le_of_ble_eq_true rfl) ?_
  intro p e s m args below meth c A ls hc hnm hw hl
  have hx := hc.1.1
  have hb := hc.1.2.1
  have hown := hc.1.2.2.2.1
  have hts := hc.1.2.2.2.2
  have hl : lv_has ls 6 [(0, .ref (atp 0)), (1, .int x1), (2, .int x2), (3, .int x3)] := hl
  obtain ⟨H, hH⟩ : ∃ z, z = s.heap := ⟨_, rfl⟩
  obtain ⟨locs, hLc⟩ : ∃ z : List Loc, z = [] := ⟨_, rfl⟩
  have hw : wV D A s.heap (tpW cy atp Stp) H locs := by rw [hH, hLc]; exact hw
  have hgo : W p l e (rmN 1) s m args below meth c H locs 0 0 (MQ below (eI D cy A (fun _ : Unit => (tpW cy atp Stp)) (fun (r : Int32) (_ : Unit) => Q r)) args s (rmN 1).cells (rmN 1).slots A) (F0 m 0 ls []) := ?hgo
  · rw [hH, hLc] at hgo; exact hgo
  refine lv_iload_n hx hb dX4_runEnd_0 rfl (lv_at hl 1 rfl) ?_
  refine lv_istore (lv' := [(4, .int x1), (0, .ref (atp 0)), (1, .int x1), (2, .int x2), (3, .int x3)]) hx hb dX4_runEnd_1 hl (by decide) rfl (fun ls hl => ?_)
  refine lv_iconst (v := 0) hx hb dX4_runEnd_3 (by decide) ?_
  refine lv_istore (lv' := [(5, .int 0), (4, .int x1), (0, .ref (atp 0)), (1, .int x1), (2, .int x2), (3, .int x3)]) hx hb dX4_runEnd_4 hl (by decide) rfl (fun ls hl => ?_)
  refine wl2_ind (G := fun (x5_1 : Int32) (x4_2 : Int32) => ∀ (H : Heap) (locs : List Loc) (ls : Array Slot), wV D A s.heap (tpW cy atp Stp) H locs → lv_has ls 6 [(5, .int x5_1), (4, .int x4_2), (0, .ref (atp 0)), (2, .int x2), (3, .int x3)] → W p l e (rmN 1) s m args below meth c H locs 0 0 (MQ below (eI D cy A (fun _ : Unit => (tpW cy atp Stp)) (fun (r : Int32) (_ : Unit) => Q r)) args s (rmN 1).cells (rmN 1).slots A) (F0 m 6 ls [])) ?_ _ _ hm H locs ls hw (lv_sub hl [0, 1, 2, 4, 5] rfl)
  intro L3 ih3 x5_1 x4_2 hm H locs ls hw hl
  refine lv_iload hx hb dX4_runEnd_6 (lv_at hl 0 rfl) ?_
  refine lv_sipush (v := 400) hx hb dX4_runEnd_8 (by decide) ?_
  refine lv_icmp_ge (tgt := 59) hx hb dX4_runEnd_11 (by decide) (fun c18 => ?_) (fun c18 => ?_)
  · have hm := hm.1 c18
    refine lv_iload hx hb dX4_runEnd_59 (lv_at hl 1 rfl) ?_
    exact retI (u := ()) hc hw hm dX4_runEnd_61
  · have hm := hm.2 c18
    refine lv_iload hx hb dX4_runEnd_14 (lv_at hl 1 rfl) ?_
    refine lv_iload_n hx hb dX4_runEnd_16 rfl (lv_at hl 3 rfl) ?_
    refine lv_icmp_ge (tgt := 59) hx hb dX4_runEnd_17 (by decide) (fun c17 => ?_) (fun c17 => ?_)
    · have hm := hm.1 c17
      refine lv_iload hx hb dX4_runEnd_59 (lv_at hl 1 rfl) ?_
      exact retI (u := ()) hc hw hm dX4_runEnd_61
    · have hm := hm.2 c17
      refine lv_iload_n hx hb dX4_runEnd_20 rfl (lv_at hl 4 rfl) ?_
      refine lv_if_eq (tgt := 37) hx hb dX4_runEnd_21 (by decide) (fun c16 => ?_) (fun c16 => ?_)
      · have hm := hm.1 c16
        refine lv_aload_n hx hb dX4_runEnd_37 rfl (lv_at hl 2 rfl) ?_
        refine lv_iload hx hb dX4_runEnd_38 (lv_at hl 1 rfl) ?_
        obtain ⟨c4, hm⟩ := hm
        refine aI hc hw 0 rfl c4 rfl dX4_runEnd_40 ?_
        refine zS_I (As := [.int (Stp (Int32.toNatClampNeg x4_2))]) (rest := []) hc hw (c_X4_isDigit hm) lk_X4_89 ⟨Nat.le_of_ble_eq_true rfl, Nat.le_of_ble_eq_true rfl⟩ ⟨Nat.le_of_ble_eq_true rfl, Nat.le_of_ble_eq_true rfl⟩ hl.1 rfl (Nat.le_of_ble_eq_true rfl) rfl dX4_runEnd_41 (fun r5 H locs hm hw => ?_)
        refine lv_if_ne (tgt := 50) hx hb dX4_runEnd_44 (by decide) (fun c9 => ?_) (fun c9 => ?_)
        · have hm := hm.1 c9
          obtain ⟨v7, e_v7⟩ : ∃ z : Int32, z = x4_2 + 1 := ⟨_, rfl⟩
          have hm := hm v7 e_v7
          refine lv_iinc (v := v7) (lv' := [(4, .int v7), (5, .int x5_1), (0, .ref (atp 0)), (2, .int x2), (3, .int x3)]) hx hb dX4_runEnd_50 hl (k := 1) rfl (by rw [e_v7]; rfl) (by decide) rfl (fun ls hl => ?_)
          obtain ⟨v8, e_v8⟩ : ∃ z : Int32, z = x5_1 + 1 := ⟨_, rfl⟩
          have hm := hm v8 e_v8
          refine lv_iinc (v := v8) (lv' := [(5, .int v8), (4, .int v7), (0, .ref (atp 0)), (2, .int x2), (3, .int x3)]) hx hb dX4_runEnd_53 hl (k := 1) rfl (by rw [e_v8]; rfl) (by decide) rfl (fun ls hl => ?_)
          refine lv_goto (tgt := 6) hx hb dX4_runEnd_56 (by decide) ?_
          exact ih3 _ _ hm _ _ _ hw (lv_sub hl [0, 1, 2, 3, 4] rfl)
        · have hm := hm.2 c9
          refine lv_goto (tgt := 59) hx hb dX4_runEnd_47 (by decide) ?_
          refine lv_iload hx hb dX4_runEnd_59 (lv_at hl 1 rfl) ?_
          exact retI (u := ()) hc hw hm dX4_runEnd_61
      · have hm := hm.2 c16
        refine lv_aload_n hx hb dX4_runEnd_24 rfl (lv_at hl 2 rfl) ?_
        refine lv_iload hx hb dX4_runEnd_25 (lv_at hl 1 rfl) ?_
        obtain ⟨c10, hm⟩ := hm
        refine aI hc hw 0 rfl c10 rfl dX4_runEnd_27 ?_
        refine zS_I (As := [.int (Stp (Int32.toNatClampNeg x4_2))]) (rest := []) hc hw (c_X4_isLetter hm) lk_X4_78 ⟨Nat.le_of_ble_eq_true rfl, Nat.le_of_ble_eq_true rfl⟩ ⟨Nat.le_of_ble_eq_true rfl, Nat.le_of_ble_eq_true rfl⟩ hl.1 rfl (Nat.le_of_ble_eq_true rfl) rfl dX4_runEnd_28 (fun r11 H locs hm hw => ?_)
        refine lv_if_eq (tgt := 59) hx hb dX4_runEnd_31 (by decide) (fun c15 => ?_) (fun c15 => ?_)
        · have hm := hm.1 c15
          refine lv_iload hx hb dX4_runEnd_59 (lv_at hl 1 rfl) ?_
          exact retI (u := ()) hc hw hm dX4_runEnd_61
        · have hm := hm.2 c15
          refine lv_goto (tgt := 50) hx hb dX4_runEnd_34 (by decide) ?_
          obtain ⟨v13, e_v13⟩ : ∃ z : Int32, z = x4_2 + 1 := ⟨_, rfl⟩
          have hm := hm v13 e_v13
          refine lv_iinc (v := v13) (lv' := [(4, .int v13), (5, .int x5_1), (0, .ref (atp 0)), (2, .int x2), (3, .int x3)]) hx hb dX4_runEnd_50 hl (k := 1) rfl (by rw [e_v13]; rfl) (by decide) rfl (fun ls hl => ?_)
          obtain ⟨v14, e_v14⟩ : ∃ z : Int32, z = x5_1 + 1 := ⟨_, rfl⟩
          have hm := hm v14 e_v14
          refine lv_iinc (v := v14) (lv' := [(5, .int v14), (4, .int v13), (0, .ref (atp 0)), (2, .int x2), (3, .int x3)]) hx hb dX4_runEnd_53 hl (k := 1) rfl (by rw [e_v14]; rfl) (by decide) rfl (fun ls hl => ?_)
          refine lv_goto (tgt := 6) hx hb dX4_runEnd_56 (by decide) ?_
          exact ih3 _ _ hm _ _ _ hw (lv_sub hl [0, 1, 2, 3, 4] rfl)
set_option maxHeartbeats 4000000 in
set_option maxRecDepth 100000 in
theorem c_X4_valueOf {l : Launch} {D : va_G} {cy : Nat → ClassId} {atp : Nat → Nat} {Stp : (Nat → Int32)} {x1 : Int32} {x2 : Int32} {Q : Int32 → Prop} (hm : w_X4_valueOf Stp x1 x2 Q) : CtI l yX4_valueOf cX4_valueOf 5 (some .int) (rmN 2) D cy [.ref (atp 0), .int x1, .int x2] (tpW cy atp Stp) (fun _ : Unit => (tpW cy atp Stp)) (fun (r : Int32) (_ : Unit) => Q r) := by
  refine CtI.ofW (by decide) (Nat.le_of_ble_eq_true rfl) ?_
  intro p e s m args below meth c A ls hc hnm hw hl
  have hx := hc.1.1
  have hb := hc.1.2.1
  have hown := hc.1.2.2.2.1
  have hts := hc.1.2.2.2.2
  have hl : lv_has ls 5 [(0, .ref (atp 0)), (1, .int x1), (2, .int x2)] := hl
  obtain ⟨H, hH⟩ : ∃ z, z = s.heap := ⟨_, rfl⟩
  obtain ⟨locs, hLc⟩ : ∃ z : List Loc, z = [] := ⟨_, rfl⟩
  have hw : wV D A s.heap (tpW cy atp Stp) H locs := by rw [hH, hLc]; exact hw
  have hgo : W p l e (rmN 2) s m args below meth c H locs 0 0 (MQ below (eI D cy A (fun _ : Unit => (tpW cy atp Stp)) (fun (r : Int32) (_ : Unit) => Q r)) args s (rmN 2).cells (rmN 2).slots A) (F0 m 0 ls []) := ?hgo
  · rw [hH, hLc] at hgo; exact hgo
  refine lv_iconst (v := 0) hx hb dX4_valueOf_0 (by decide) ?_
  refine lv_istore_n (lv' := [(3, .int 0), (0, .ref (atp 0)), (1, .int x1), (2, .int x2)]) hx hb dX4_valueOf_1 rfl hl (by decide) rfl (fun ls hl => ?_)
  refine lv_iload_n hx hb dX4_valueOf_2 rfl (lv_at hl 2 rfl) ?_
  refine lv_istore (lv' := [(4, .int x1), (3, .int 0), (0, .ref (atp 0)), (1, .int x1), (2, .int x2)]) hx hb dX4_valueOf_3 hl (by decide) rfl (fun ls hl => ?_)
  refine wl2_ind (G := fun (x4_1 : Int32) (x3_2 : Int32) => ∀ (H : Heap) (locs : List Loc) (ls : Array Slot), wV D A s.heap (tpW cy atp Stp) H locs → lv_has ls 5 [(4, .int x4_1), (3, .int x3_2), (0, .ref (atp 0)), (2, .int x2)] → W p l e (rmN 2) s m args below meth c H locs 0 0 (MQ below (eI D cy A (fun _ : Unit => (tpW cy atp Stp)) (fun (r : Int32) (_ : Unit) => Q r)) args s (rmN 2).cells (rmN 2).slots A) (F0 m 5 ls [])) ?_ _ _ hm H locs ls hw (lv_sub hl [0, 1, 2, 4] rfl)
  intro L3 ih3 x4_1 x3_2 hm H locs ls hw hl
  refine lv_iload hx hb dX4_valueOf_5 (lv_at hl 0 rfl) ?_
  refine lv_iload_n hx hb dX4_valueOf_7 rfl (lv_at hl 3 rfl) ?_
  refine lv_icmp_ge (tgt := 36) hx hb dX4_valueOf_8 (by decide) (fun c7 => ?_) (fun c7 => ?_)
  · have hm := hm.1 c7
    refine lv_iload_n hx hb dX4_valueOf_36 rfl (lv_at hl 1 rfl) ?_
    exact retI (u := ()) hc hw hm dX4_valueOf_37
  · have hm := hm.2 c7
    refine lv_iload_n hx hb dX4_valueOf_11 rfl (lv_at hl 1 rfl) ?_
    refine lv_bipush (v := 10) hx hb dX4_valueOf_12 (by decide) ?_
    refine lv_imul hx hb dX4_valueOf_14 ?_
    refine lv_aload_n hx hb dX4_valueOf_15 rfl (lv_at hl 2 rfl) ?_
    refine lv_iload hx hb dX4_valueOf_16 (lv_at hl 0 rfl) ?_
    obtain ⟨c4, hm⟩ := hm
    refine aI hc hw 0 rfl c4 rfl dX4_valueOf_18 ?_
    refine lv_iadd hx hb dX4_valueOf_19 ?_
    refine lv_bipush (v := 48) hx hb dX4_valueOf_20 (by decide) ?_
    refine lv_isub hx hb dX4_valueOf_22 ?_
    refine lv_sipush (v := 2001) hx hb dX4_valueOf_23 (by decide) ?_
    refine m_min (rest := []) hc hl.1 (gm 683 (by decide +kernel) rfl) (Nat.le_of_ble_eq_true rfl) (Nat.le_of_ble_eq_true rfl) (Nat.le_of_ble_eq_true rfl) (Nat.le_of_ble_eq_true rfl) dX4_valueOf_26 ?_
    refine lv_topi (fun v5 e_v5 => ?_)
    have hm := hm v5 e_v5
    refine lv_istore_n (lv' := [(3, .int v5), (4, .int x4_1), (0, .ref (atp 0)), (2, .int x2)]) hx hb dX4_valueOf_29 rfl hl (by decide) rfl (fun ls hl => ?_)
    obtain ⟨v6, e_v6⟩ : ∃ z : Int32, z = x4_1 + 1 := ⟨_, rfl⟩
    have hm := hm v6 e_v6
    refine lv_iinc (v := v6) (lv' := [(4, .int v6), (3, .int v5), (0, .ref (atp 0)), (2, .int x2)]) hx hb dX4_valueOf_30 hl (k := 1) rfl (by rw [e_v6]; rfl) (by decide) rfl (fun ls hl => ?_)
    refine lv_goto (tgt := 5) hx hb dX4_valueOf_33 (by decide) ?_
    exact ih3 _ _ hm _ _ _ hw (lv_sub hl [0, 1, 2, 3] rfl)
set_option maxHeartbeats 4000000 in
set_option maxRecDepth 100000 in
theorem c_X4_next {l : Launch} {D : va_G} {cy : Nat → ClassId} {aR : Nat → Nat} {SR : Ob} {Q : Int32 → Prop} (hm : w_X4_next SR Q) : CtI l yX4_next cX4_next 1 (some .int) (rmN 0) D cy [.ref (aR 0)] (rW cy aR SR) (fun _ : Unit => (rW cy aR SR)) (fun (r : Int32) (_ : Unit) => Q r) := by
  refine CtI.ofW (by decide) (Nat.le_of_ble_eq_true rfl) ?_
  intro p e s m args below meth c A ls hc hnm hw hl
  have hx := hc.1.1
  have hb := hc.1.2.1
  have hown := hc.1.2.2.2.1
  have hts := hc.1.2.2.2.2
  have hl : lv_has ls 1 [(0, .ref (aR 0))] := hl
  obtain ⟨H, hH⟩ : ∃ z, z = s.heap := ⟨_, rfl⟩
  obtain ⟨locs, hLc⟩ : ∃ z : List Loc, z = [] := ⟨_, rfl⟩
  have hw : wV D A s.heap (rW cy aR SR) H locs := by rw [hH, hLc]; exact hw
  have hgo : W p l e (rmN 0) s m args below meth c H locs 0 0 (MQ below (eI D cy A (fun _ : Unit => (rW cy aR SR)) (fun (r : Int32) (_ : Unit) => Q r)) args s (rmN 0).cells (rmN 0).slots A) (F0 m 0 ls []) := ?hgo
  · rw [hH, hLc] at hgo; exact hgo
  refine lv_aload_n hx hb dX4_next_0 rfl (lv_at hl 0 rfl) ?_
  refine gF (k := 3) hc hw inX4 rfl 0 rfl (by decide) (gm 267 (by decide +kernel) rfl) rfl dX4_next_1 ?_
  refine lv_aload_n hx hb dX4_next_4 rfl (lv_at hl 0 rfl) ?_
  refine gF (k := 0) hc hw inX4 rfl 0 rfl (by decide) (gm 264 (by decide +kernel) rfl) rfl dX4_next_5 ?_
  refine aLen (t0 := 0) (v := 401) hc hw 1 rfl rfl rfl dX4_next_8 ?_
  refine lv_icmp_ge (tgt := 24) hx hb dX4_next_9 (by decide) (fun c2 => ?_) (fun c2 => ?_)
  · have hm := hm.1 c2
    refine lv_sipush (v := 283) hx hb dX4_next_24 (by decide) ?_
    exact retI (u := ()) hc hw hm dX4_next_27
  · have hm := hm.2 c2
    refine lv_aload_n hx hb dX4_next_12 rfl (lv_at hl 0 rfl) ?_
    refine gF (k := 0) hc hw inX4 rfl 0 rfl (by decide) (gm 264 (by decide +kernel) rfl) rfl dX4_next_13 ?_
    refine lv_aload_n hx hb dX4_next_16 rfl (lv_at hl 0 rfl) ?_
    refine gF (k := 3) hc hw inX4 rfl 0 rfl (by decide) (gm 267 (by decide +kernel) rfl) rfl dX4_next_17 ?_
    obtain ⟨c1, hm⟩ := hm
    refine aI hc hw 1 rfl c1 rfl dX4_next_20 ?_
    refine lv_goto (tgt := 27) hx hb dX4_next_21 (by decide) ?_
    exact retI (u := ()) hc hw hm dX4_next_27
set_option maxHeartbeats 4000000 in
set_option maxRecDepth 100000 in
theorem c_X4_takes {l : Launch} {D : va_G} {cy : Nat → ClassId} {aR : Nat → Nat} {SR : Ob} {x1 : Int32} {Q : Int32 → Ob → Prop} (hm : w_X4_takes SR x1 Q) : CtI l yX4_takes cX4_takes 2 (some .boolean) (rmN 0) D cy [.ref (aR 0), .int x1] (rW cy aR SR) (fun u : Ob => (rW cy aR u)) Q := by
  refine CtI.ofW (by decide) (Nat.le_of_ble_eq_true rfl) ?_
  intro p e s m args below meth c A ls hc hnm hw hl
  have hx := hc.1.1
  have hb := hc.1.2.1
  have hown := hc.1.2.2.2.1
  have hts := hc.1.2.2.2.2
  have hl : lv_has ls 2 [(0, .ref (aR 0)), (1, .int x1)] := hl
  obtain ⟨H, hH⟩ : ∃ z, z = s.heap := ⟨_, rfl⟩
  obtain ⟨locs, hLc⟩ : ∃ z : List Loc, z = [] := ⟨_, rfl⟩
  have hw : wV D A s.heap (rW cy aR SR) H locs := by rw [hH, hLc]; exact hw
  have hgo : W p l e (rmN 0) s m args below meth c H locs 0 0 (MQ below (eI D cy A (fun u : Ob => (rW cy aR u)) Q) args s (rmN 0).cells (rmN 0).slots A) (F0 m 0 ls []) := ?hgo
  · rw [hH, hLc] at hgo; exact hgo
  refine lv_aload_n hx hb dX4_takes_0 rfl (lv_at hl 0 rfl) ?_
  refine gF (k := 11) hc hw inX4 rfl 0 rfl (by decide) (gm 275 (by decide +kernel) rfl) rfl dX4_takes_1 ?_
  refine lv_iconst (v := (-1)) hx hb dX4_takes_4 (by decide) ?_
  refine lv_icmp_ne (tgt := 33) hx hb dX4_takes_5 (by decide) (fun c5 => ?_) (fun c5 => ?_)
  · have hm := hm.1 c5
    refine lv_iconst (v := 0) hx hb dX4_takes_33 (by decide) ?_
    exact retZ (u := SR) hc hw rfl hm dX4_takes_34
  · have hm := hm.2 c5
    refine lv_aload_n hx hb dX4_takes_8 rfl (lv_at hl 0 rfl) ?_
    refine gF (k := 3) hc hw inX4 rfl 0 rfl (by decide) (gm 267 (by decide +kernel) rfl) rfl dX4_takes_9 ?_
    refine lv_aload_n hx hb dX4_takes_12 rfl (lv_at hl 0 rfl) ?_
    refine gF (k := 0) hc hw inX4 rfl 0 rfl (by decide) (gm 264 (by decide +kernel) rfl) rfl dX4_takes_13 ?_
    refine aLen (t0 := 0) (v := 401) hc hw 1 rfl rfl rfl dX4_takes_16 ?_
    refine lv_icmp_ge (tgt := 33) hx hb dX4_takes_17 (by decide) (fun c4 => ?_) (fun c4 => ?_)
    · have hm := hm.1 c4
      refine lv_iconst (v := 0) hx hb dX4_takes_33 (by decide) ?_
      exact retZ (u := SR) hc hw rfl hm dX4_takes_34
    · have hm := hm.2 c4
      refine lv_aload_n hx hb dX4_takes_20 rfl (lv_at hl 0 rfl) ?_
      refine gF (k := 0) hc hw inX4 rfl 0 rfl (by decide) (gm 264 (by decide +kernel) rfl) rfl dX4_takes_21 ?_
      refine lv_aload_n hx hb dX4_takes_24 rfl (lv_at hl 0 rfl) ?_
      refine gF (k := 3) hc hw inX4 rfl 0 rfl (by decide) (gm 267 (by decide +kernel) rfl) rfl dX4_takes_25 ?_
      obtain ⟨c1, hm⟩ := hm
      refine aI hc hw 1 rfl c1 rfl dX4_takes_28 ?_
      refine lv_iload_n hx hb dX4_takes_29 rfl (lv_at hl 1 rfl) ?_
      refine lv_icmp_eq (tgt := 35) hx hb dX4_takes_30 (by decide) (fun c3 => ?_) (fun c3 => ?_)
      · have hm := hm.1 c3
        refine lv_aload_n hx hb dX4_takes_35 rfl (lv_at hl 0 rfl) ?_
        refine lv_dup hx hb dX4_takes_36 rfl ?_
        refine gF (k := 3) hc hw inX4 rfl 0 rfl (by decide) (gm 267 (by decide +kernel) rfl) rfl dX4_takes_37 ?_
        refine lv_iconst (v := 1) hx hb dX4_takes_40 (by decide) ?_
        refine lv_iadd hx hb dX4_takes_41 ?_
        refine pF (k := 3) (ty := .int) hc hw inX4 tyX4_ok nmX4 rfl 0 rfl (by decide) (gm 267 (by decide +kernel) rfl) rfl (by decide +kernel) rfl rfl (Nat.le_of_ble_eq_true rfl) dX4_takes_42 (fun H locs hw => ?_)
        obtain ⟨S2, e_S2⟩ : ∃ z : Ob, z = uS SR 3 ((SR.1 3) + 1) := ⟨_, rfl⟩
        have hm := hm S2 e_S2
        have hw : wV D A s.heap (rW cy aR S2) H locs := by rw [e_S2]; exact hw
        refine lv_iconst (v := 1) hx hb dX4_takes_45 (by decide) ?_
        exact retZ (u := S2) hc hw rfl hm dX4_takes_46
      · have hm := hm.2 c3
        refine lv_iconst (v := 0) hx hb dX4_takes_33 (by decide) ?_
        exact retZ (u := SR) hc hw rfl hm dX4_takes_34
set_option maxHeartbeats 4000000 in
set_option maxRecDepth 100000 in
theorem c_X4_stop {l : Launch} {D : va_G} {cy : Nat → ClassId} {aR : Nat → Nat} {SR : Ob} {Q : Ob → Prop} (hm : w_X4_stop SR Q) : CtV l yX4_stop cX4_stop 1 none (rmN 0) D cy [.ref (aR 0)] (rW cy aR SR) (fun u : Ob => (rW cy aR u)) Q := by
  refine CtV.ofW (by decide) (Nat.le_of_ble_eq_true rfl) ?_
  intro p e s m args below meth c A ls hc hnm hw hl
  have hx := hc.1.1
  have hb := hc.1.2.1
  have hown := hc.1.2.2.2.1
  have hts := hc.1.2.2.2.2
  have hl : lv_has ls 1 [(0, .ref (aR 0))] := hl
  obtain ⟨H, hH⟩ : ∃ z, z = s.heap := ⟨_, rfl⟩
  obtain ⟨locs, hLc⟩ : ∃ z : List Loc, z = [] := ⟨_, rfl⟩
  have hw : wV D A s.heap (rW cy aR SR) H locs := by rw [hH, hLc]; exact hw
  have hgo : W p l e (rmN 0) s m args below meth c H locs 0 0 (MQ below (eV D cy A (fun u : Ob => (rW cy aR u)) Q) args s (rmN 0).cells (rmN 0).slots A) (F0 m 0 ls []) := ?hgo
  · rw [hH, hLc] at hgo; exact hgo
  refine lv_aload_n hx hb dX4_stop_0 rfl (lv_at hl 0 rfl) ?_
  refine gF (k := 11) hc hw inX4 rfl 0 rfl (by decide) (gm 275 (by decide +kernel) rfl) rfl dX4_stop_1 ?_
  refine lv_iconst (v := (-1)) hx hb dX4_stop_4 (by decide) ?_
  refine lv_icmp_ne (tgt := 39) hx hb dX4_stop_5 (by decide) (fun c6 => ?_) (fun c6 => ?_)
  · have hm := hm.1 c6
    exact retV (u := SR) hc hw hm dX4_stop_39
  · have hm := hm.2 c6
    refine lv_aload_n hx hb dX4_stop_8 rfl (lv_at hl 0 rfl) ?_
    refine lv_aload_n hx hb dX4_stop_9 rfl (lv_at hl 0 rfl) ?_
    refine gF (k := 3) hc hw inX4 rfl 0 rfl (by decide) (gm 267 (by decide +kernel) rfl) rfl dX4_stop_10 ?_
    refine lv_aload_n hx hb dX4_stop_13 rfl (lv_at hl 0 rfl) ?_
    refine gF (k := 2) hc hw inX4 rfl 0 rfl (by decide) (gm 266 (by decide +kernel) rfl) rfl dX4_stop_14 ?_
    refine aLen (t0 := 0) (v := 401) hc hw 3 rfl rfl rfl dX4_stop_17 ?_
    obtain ⟨J2, eJ2, hm⟩ := jn_e hm
    have hJ2 : ∀ (t1 : Int32) (_ : J2 t1) (H : Heap) (locs : List Loc) (ls : Array Slot), wV D A s.heap (rW cy aR SR) H locs → lv_has ls 1 [] → W p l e (rmN 0) s m args below meth c H locs 0 0 (MQ below (eV D cy A (fun u : Ob => (rW cy aR u)) Q) args s (rmN 0).cells (rmN 0).slots A) (F0 m 36 ls [.int t1, .ref (aR 0)]) := by
      intro t1 hm H locs ls hw hl
      rw [eJ2] at hm
      refine pF (k := 11) (ty := .int) hc hw inX4 tyX4_ok nmX4 rfl 0 rfl (by decide) (gm 275 (by decide +kernel) rfl) rfl (by decide +kernel) rfl rfl (Nat.le_of_ble_eq_true rfl) dX4_stop_36 (fun H locs hw => ?_)
      obtain ⟨S3, e_S3⟩ : ∃ z : Ob, z = uS SR 11 t1 := ⟨_, rfl⟩
      have hm := hm S3 e_S3
      have hw : wV D A s.heap (rW cy aR S3) H locs := by rw [e_S3]; exact hw
      exact retV (u := S3) hc hw hm dX4_stop_39
    refine lv_icmp_ge (tgt := 33) hx hb dX4_stop_18 (by decide) (fun c5 => ?_) (fun c5 => ?_)
    · have hm := hm.1 c5
      refine lv_sipush (v := 400) hx hb dX4_stop_33 (by decide) ?_
      exact hJ2 _ hm _ _ _ hw (lv_sub hl [] rfl)
    · have hm := hm.2 c5
      refine lv_aload_n hx hb dX4_stop_21 rfl (lv_at hl 0 rfl) ?_
      refine gF (k := 2) hc hw inX4 rfl 0 rfl (by decide) (gm 266 (by decide +kernel) rfl) rfl dX4_stop_22 ?_
      refine lv_aload_n hx hb dX4_stop_25 rfl (lv_at hl 0 rfl) ?_
      refine gF (k := 3) hc hw inX4 rfl 0 rfl (by decide) (gm 267 (by decide +kernel) rfl) rfl dX4_stop_26 ?_
      obtain ⟨c4, hm⟩ := hm
      refine aI hc hw 3 rfl c4 rfl dX4_stop_29 ?_
      refine lv_goto (tgt := 36) hx hb dX4_stop_30 (by decide) ?_
      exact hJ2 _ hm _ _ _ hw (lv_sub hl [] rfl)
set_option maxHeartbeats 4000000 in
set_option maxRecDepth 100000 in
theorem c_X4_step {l : Launch} {D : va_G} {cy : Nat → ClassId} {aR : Nat → Nat} {SR : Ob} {x1 : Int32} {x2 : Int32} {Q : Ob → Prop} (hm : w_X4_step SR x1 x2 Q) : CtV l yX4_step cX4_step 3 none (rmN 0) D cy [.ref (aR 0), .int x1, .int x2] (rW cy aR SR) (fun u : Ob => (rW cy aR u)) Q := by
  refine CtV.ofW (by decide) (Nat.le_of_ble_eq_true rfl) ?_
  intro p e s m args below meth c A ls hc hnm hw hl
  have hx := hc.1.1
  have hb := hc.1.2.1
  have hown := hc.1.2.2.2.1
  have hts := hc.1.2.2.2.2
  have hl : lv_has ls 3 [(0, .ref (aR 0)), (1, .int x1), (2, .int x2)] := hl
  obtain ⟨H, hH⟩ : ∃ z, z = s.heap := ⟨_, rfl⟩
  obtain ⟨locs, hLc⟩ : ∃ z : List Loc, z = [] := ⟨_, rfl⟩
  have hw : wV D A s.heap (rW cy aR SR) H locs := by rw [hH, hLc]; exact hw
  have hgo : W p l e (rmN 0) s m args below meth c H locs 0 0 (MQ below (eV D cy A (fun u : Ob => (rW cy aR u)) Q) args s (rmN 0).cells (rmN 0).slots A) (F0 m 0 ls []) := ?hgo
  · rw [hH, hLc] at hgo; exact hgo
  refine lv_aload_n hx hb dX4_step_0 rfl (lv_at hl 0 rfl) ?_
  refine gF (k := 9) hc hw inX4 rfl 0 rfl (by decide) (gm 273 (by decide +kernel) rfl) rfl dX4_step_1 ?_
  refine lv_sipush (v := 424) hx hb dX4_step_4 (by decide) ?_
  refine lv_icmp_ge (tgt := 40) hx hb dX4_step_7 (by decide) (fun c6 => ?_) (fun c6 => ?_)
  · have hm := hm.1 c6
    exact retV (u := SR) hc hw hm dX4_step_40
  · have hm := hm.2 c6
    refine lv_aload_n hx hb dX4_step_10 rfl (lv_at hl 0 rfl) ?_
    refine gF (k := 7) hc hw inX4 rfl 0 rfl (by decide) (gm 271 (by decide +kernel) rfl) rfl dX4_step_11 ?_
    refine lv_aload_n hx hb dX4_step_14 rfl (lv_at hl 0 rfl) ?_
    refine gF (k := 9) hc hw inX4 rfl 0 rfl (by decide) (gm 273 (by decide +kernel) rfl) rfl dX4_step_15 ?_
    refine lv_iload_n hx hb dX4_step_18 rfl (lv_at hl 1 rfl) ?_
    obtain ⟨c1, hm⟩ := hm
    refine sI hc hw 6 rfl c1 rfl dX4_step_19 (fun H locs hw => ?_)
    obtain ⟨S2, e_S2⟩ : ∃ z : Ob, z = uA SR 7 (Int32.toNatClampNeg (SR.1 9)) x1 := ⟨_, rfl⟩
    have hm := hm S2 e_S2
    have hw : wV D A s.heap (rW cy aR S2) H locs := by rw [e_S2]; exact hw
    refine lv_aload_n hx hb dX4_step_20 rfl (lv_at hl 0 rfl) ?_
    refine gF (k := 8) hc hw inX4 rfl 0 rfl (by decide) (gm 272 (by decide +kernel) rfl) rfl dX4_step_21 ?_
    refine lv_aload_n hx hb dX4_step_24 rfl (lv_at hl 0 rfl) ?_
    refine gF (k := 9) hc hw inX4 rfl 0 rfl (by decide) (gm 273 (by decide +kernel) rfl) rfl dX4_step_25 ?_
    refine lv_iload_n hx hb dX4_step_28 rfl (lv_at hl 2 rfl) ?_
    obtain ⟨c3, hm⟩ := hm
    refine sI hc hw 7 rfl c3 rfl dX4_step_29 (fun H locs hw => ?_)
    obtain ⟨S4, e_S4⟩ : ∃ z : Ob, z = uA S2 8 (Int32.toNatClampNeg (S2.1 9)) x2 := ⟨_, rfl⟩
    have hm := hm S4 e_S4
    have hw : wV D A s.heap (rW cy aR S4) H locs := by rw [e_S4]; exact hw
    refine lv_aload_n hx hb dX4_step_30 rfl (lv_at hl 0 rfl) ?_
    refine lv_dup hx hb dX4_step_31 rfl ?_
    refine gF (k := 9) hc hw inX4 rfl 0 rfl (by decide) (gm 273 (by decide +kernel) rfl) rfl dX4_step_32 ?_
    refine lv_iconst (v := 1) hx hb dX4_step_35 (by decide) ?_
    refine lv_iadd hx hb dX4_step_36 ?_
    refine pF (k := 9) (ty := .int) hc hw inX4 tyX4_ok nmX4 rfl 0 rfl (by decide) (gm 273 (by decide +kernel) rfl) rfl (by decide +kernel) rfl rfl (Nat.le_of_ble_eq_true rfl) dX4_step_37 (fun H locs hw => ?_)
    obtain ⟨S5, e_S5⟩ : ∃ z : Ob, z = uS S4 9 ((S4.1 9) + 1) := ⟨_, rfl⟩
    have hm := hm S5 e_S5
    have hw : wV D A s.heap (rW cy aR S5) H locs := by rw [e_S5]; exact hw
    exact retV (u := S5) hc hw hm dX4_step_40
set_option maxHeartbeats 4000000 in
set_option maxRecDepth 100000 in
theorem c_X4_land {l : Launch} {D : va_G} {cy : Nat → ClassId} {aR : Nat → Nat} {SR : Ob} {x1 : Int32} {Q : Ob → Prop} (hm : w_X4_land SR x1 Q) : CtV l yX4_land cX4_land 2 none (rmN 0) D cy [.ref (aR 0), .int x1] (rW cy aR SR) (fun u : Ob => (rW cy aR u)) Q := by
  refine CtV.ofW (by decide) (Nat.le_of_ble_eq_true rfl) ?_
  intro p e s m args below meth c A ls hc hnm hw hl
  have hx := hc.1.1
  have hb := hc.1.2.1
  have hown := hc.1.2.2.2.1
  have hts := hc.1.2.2.2.2
  have hl : lv_has ls 2 [(0, .ref (aR 0)), (1, .int x1)] := hl
  obtain ⟨H, hH⟩ : ∃ z, z = s.heap := ⟨_, rfl⟩
  obtain ⟨locs, hLc⟩ : ∃ z : List Loc, z = [] := ⟨_, rfl⟩
  have hw : wV D A s.heap (rW cy aR SR) H locs := by rw [hH, hLc]; exact hw
  have hgo : W p l e (rmN 0) s m args below meth c H locs 0 0 (MQ below (eV D cy A (fun u : Ob => (rW cy aR u)) Q) args s (rmN 0).cells (rmN 0).slots A) (F0 m 0 ls []) := ?hgo
  · rw [hH, hLc] at hgo; exact hgo
  refine lv_iload_n hx hb dX4_land_0 rfl (lv_at hl 1 rfl) ?_
  refine lv_if_le (tgt := 23) hx hb dX4_land_1 (by decide) (fun c4 => ?_) (fun c4 => ?_)
  · have hm := hm.1 c4
    exact retV (u := SR) hc hw hm dX4_land_23
  · have hm := hm.2 c4
    refine lv_iload_n hx hb dX4_land_4 rfl (lv_at hl 1 rfl) ?_
    refine lv_sipush (v := 424) hx hb dX4_land_5 (by decide) ?_
    refine lv_icmp_gt (tgt := 23) hx hb dX4_land_8 (by decide) (fun c3 => ?_) (fun c3 => ?_)
    · have hm := hm.1 c3
      exact retV (u := SR) hc hw hm dX4_land_23
    · have hm := hm.2 c3
      refine lv_aload_n hx hb dX4_land_11 rfl (lv_at hl 0 rfl) ?_
      refine gF (k := 8) hc hw inX4 rfl 0 rfl (by decide) (gm 272 (by decide +kernel) rfl) rfl dX4_land_12 ?_
      refine lv_iload_n hx hb dX4_land_15 rfl (lv_at hl 1 rfl) ?_
      refine lv_iconst (v := 1) hx hb dX4_land_16 (by decide) ?_
      refine lv_isub hx hb dX4_land_17 ?_
      refine lv_aload_n hx hb dX4_land_18 rfl (lv_at hl 0 rfl) ?_
      refine gF (k := 9) hc hw inX4 rfl 0 rfl (by decide) (gm 273 (by decide +kernel) rfl) rfl dX4_land_19 ?_
      obtain ⟨c1, hm⟩ := hm
      refine sI hc hw 7 rfl c1 rfl dX4_land_22 (fun H locs hw => ?_)
      obtain ⟨S2, e_S2⟩ : ∃ z : Ob, z = uA SR 8 (Int32.toNatClampNeg (x1 - 1)) (SR.1 9) := ⟨_, rfl⟩
      have hm := hm S2 e_S2
      have hw : wV D A s.heap (rW cy aR S2) H locs := by rw [e_S2]; exact hw
      exact retV (u := S2) hc hw hm dX4_land_23
set_option maxHeartbeats 4000000 in
set_option maxRecDepth 100000 in
theorem c_X4_part {l : Launch} {D : va_G} {cy : Nat → ClassId} {aR : Nat → Nat} {SR : Ob} {x1 : Int32} {Q : Ob → Prop} {rec : Ob → Int32 → (Ob → Prop) → Prop} {k : Nat} (hk : 1 ≤ k) (hrec : ∀ {SR : Ob} {x1 : Int32} {Q : Ob → Prop}, rec SR x1 Q → CtV l yX4_sum cX4_sum 5 none (rmN k) D cy [.ref (aR 0), .int x1] (rW cy aR SR) (fun u : Ob => (rW cy aR u)) Q) (hm : w_X4_part rec SR x1 Q) : CtV l yX4_part cX4_part 5 none (rmN (k + 1)) D cy [.ref (aR 0), .int x1] (rW cy aR SR) (fun u : Ob => (rW cy aR u)) Q := by
  refine CtV.ofW (by decide) (Nat.le_of_ble_eq_true rfl) ?_
  intro p e s m args below meth c A ls hc hnm hw hl
  have hx := hc.1.1
  have hb := hc.1.2.1
  have hown := hc.1.2.2.2.1
  have hts := hc.1.2.2.2.2
  have hl : lv_has ls 5 [(0, .ref (aR 0)), (1, .int x1)] := hl
  obtain ⟨H, hH⟩ : ∃ z, z = s.heap := ⟨_, rfl⟩
  obtain ⟨locs, hLc⟩ : ∃ z : List Loc, z = [] := ⟨_, rfl⟩
  have hw : wV D A s.heap (rW cy aR SR) H locs := by rw [hH, hLc]; exact hw
  have hgo : W p l e (rmN (k + 1)) s m args below meth c H locs 0 0 (MQ below (eV D cy A (fun u : Ob => (rW cy aR u)) Q) args s (rmN (k + 1)).cells (rmN (k + 1)).slots A) (F0 m 0 ls []) := ?hgo
  · rw [hH, hLc] at hgo; exact hgo
  refine lv_iload_n hx hb dX4_part_0 rfl (lv_at hl 1 rfl) ?_
  refine lv_bipush (v := 8) hx hb dX4_part_1 (by decide) ?_
  obtain ⟨J2, eJ2, hm⟩ := jn_e hm
  have hJ2 : ∀ (S1 : Ob) (_ : J2 S1) (H : Heap) (locs : List Loc) (ls : Array Slot), wV D A s.heap (rW cy aR S1) H locs → lv_has ls 5 [(0, .ref (aR 0))] → W p l e (rmN (k + 1)) s m args below meth c H locs 0 0 (MQ below (eV D cy A (fun u : Ob => (rW cy aR u)) Q) args s (rmN (k + 1)).cells (rmN (k + 1)).slots A) (F0 m 36 ls []) := by
    intro S1 hm H locs ls hw hl
    rw [eJ2] at hm
    refine lv_aload_n hx hb dX4_part_36 rfl (lv_at hl 0 rfl) ?_
    refine aV_I (As := []) (rest := []) hc hw (c_X4_next hm) lk_X4_60 rfl rfl (rm_ok (by omega) (by omega)) ⟨Nat.le_of_ble_eq_true rfl, Nat.le_of_ble_eq_true rfl⟩ hl.1 rfl (Nat.le_of_ble_eq_true rfl) rfl dX4_part_37 (fun r3 _ H locs hm hw => ?_)
    have hw : wV D A s.heap (rW cy aR S1) H locs := hw
    refine lv_istore_n (lv' := [(2, .int r3), (0, .ref (aR 0))]) hx hb dX4_part_40 rfl hl (by decide) rfl (fun ls hl => ?_)
    refine lv_iload_n hx hb dX4_part_41 rfl (lv_at hl 0 rfl) ?_
    refine lv_sipush (v := 281) hx hb dX4_part_42 (by decide) ?_
    obtain ⟨J6, eJ6, hm⟩ := jn_e hm
    have hJ6 : ∀ (t5 : Int32) (_ : J6 t5) (H : Heap) (locs : List Loc) (ls : Array Slot), wV D A s.heap (rW cy aR S1) H locs → lv_has ls 5 [(0, .ref (aR 0)), (2, .int r3)] → W p l e (rmN (k + 1)) s m args below meth c H locs 0 0 (MQ below (eV D cy A (fun u : Ob => (rW cy aR u)) Q) args s (rmN (k + 1)).cells (rmN (k + 1)).slots A) (F0 m 68 ls [.int t5]) := by
      intro t5 hm H locs ls hw hl
      rw [eJ6] at hm
      refine lv_istore_n (lv' := [(3, .int t5), (0, .ref (aR 0)), (2, .int r3)]) hx hb dX4_part_68 rfl hl (by decide) rfl (fun ls hl => ?_)
      refine lv_iload_n hx hb dX4_part_69 rfl (lv_at hl 2 rfl) ?_
      refine lv_sipush (v := 263) hx hb dX4_part_70 (by decide) ?_
      obtain ⟨J8, eJ8, hm⟩ := jn_e hm
      have hJ8 : ∀ (t7 : Int32) (_ : J8 t7) (H : Heap) (locs : List Loc) (ls : Array Slot), wV D A s.heap (rW cy aR S1) H locs → lv_has ls 5 [(0, .ref (aR 0)), (2, .int r3), (3, .int t5)] → W p l e (rmN (k + 1)) s m args below meth c H locs 0 0 (MQ below (eV D cy A (fun u : Ob => (rW cy aR u)) Q) args s (rmN (k + 1)).cells (rmN (k + 1)).slots A) (F0 m 88 ls [.int t7]) := by
        intro t7 hm H locs ls hw hl
        rw [eJ8] at hm
        refine lv_istore (lv' := [(4, .int t7), (0, .ref (aR 0)), (2, .int r3), (3, .int t5)]) hx hb dX4_part_88 hl (by decide) rfl (fun ls hl => ?_)
        refine lv_aload_n hx hb dX4_part_90 rfl (lv_at hl 1 rfl) ?_
        refine gF (k := 10) hc hw inX4 rfl 0 rfl (by decide) (gm 274 (by decide +kernel) rfl) rfl dX4_part_91 ?_
        refine lv_bipush (v := 50) hx hb dX4_part_94 (by decide) ?_
        obtain ⟨J10, eJ10, hm⟩ := jn_e hm
        have hJ10 : ∀ (z9 : Unit) (_ : J10 z9) (H : Heap) (locs : List Loc) (ls : Array Slot), wV D A s.heap (rW cy aR S1) H locs → lv_has ls 5 [(0, .ref (aR 0))] → W p l e (rmN (k + 1)) s m args below meth c H locs 0 0 (MQ below (eV D cy A (fun u : Ob => (rW cy aR u)) Q) args s (rmN (k + 1)).cells (rmN (k + 1)).slots A) (F0 m 116 ls []) := by
          intro z9 hm H locs ls hw hl
          rw [eJ10] at hm
          refine lv_aload_n hx hb dX4_part_116 rfl (lv_at hl 0 rfl) ?_
          refine aV_V (As := []) (rest := []) hc hw (c_X4_stop hm) lk_X4_64 rfl rfl (rm_ok (by omega) (by omega)) ⟨Nat.le_of_ble_eq_true rfl, Nat.le_of_ble_eq_true rfl⟩ hl.1 rfl (Nat.le_of_ble_eq_true rfl) rfl dX4_part_117 (fun S11 H locs hm hw => ?_)
          have hw : wV D A s.heap (rW cy aR S11) H locs := hw
          exact retV (u := S11) hc hw hm dX4_part_120
        refine lv_icmp_ge (tgt := 116) hx hb dX4_part_96 (by decide) (fun c29 => ?_) (fun c29 => ?_)
        · have hm := hm.1 c29
          exact hJ10 _ hm _ _ _ hw (lv_sub hl [1] rfl)
        · have hm := hm.2 c29
          refine lv_aload_n hx hb dX4_part_99 rfl (lv_at hl 1 rfl) ?_
          refine gF (k := 11) hc hw inX4 rfl 0 rfl (by decide) (gm 275 (by decide +kernel) rfl) rfl dX4_part_100 ?_
          refine lv_iconst (v := (-1)) hx hb dX4_part_103 (by decide) ?_
          refine lv_icmp_ne (tgt := 116) hx hb dX4_part_104 (by decide) (fun c28 => ?_) (fun c28 => ?_)
          · have hm := hm.1 c28
            exact hJ10 _ hm _ _ _ hw (lv_sub hl [1] rfl)
          · have hm := hm.2 c28
            refine lv_iload_n hx hb dX4_part_107 rfl (lv_at hl 3 rfl) ?_
            obtain ⟨J14, eJ14, hm⟩ := jn_e hm
            have hJ14 : ∀ (z13 : Unit) (_ : J14 z13) (H : Heap) (locs : List Loc) (ls : Array Slot), wV D A s.heap (rW cy aR S1) H locs → lv_has ls 5 [(0, .ref (aR 0)), (2, .int r3), (3, .int t5)] → W p l e (rmN (k + 1)) s m args below meth c H locs 0 0 (MQ below (eV D cy A (fun u : Ob => (rW cy aR u)) Q) args s (rmN (k + 1)).cells (rmN (k + 1)).slots A) (F0 m 121 ls []) := by
              intro z13 hm H locs ls hw hl
              rw [eJ14] at hm
              refine lv_aload_n hx hb dX4_part_121 rfl (lv_at hl 0 rfl) ?_
              refine lv_dup hx hb dX4_part_122 rfl ?_
              refine gF (k := 10) hc hw inX4 rfl 0 rfl (by decide) (gm 274 (by decide +kernel) rfl) rfl dX4_part_123 ?_
              refine lv_iconst (v := 1) hx hb dX4_part_126 (by decide) ?_
              refine lv_iadd hx hb dX4_part_127 ?_
              refine pF (k := 10) (ty := .int) hc hw inX4 tyX4_ok nmX4 rfl 0 rfl (by decide) (gm 274 (by decide +kernel) rfl) rfl (by decide +kernel) rfl rfl (Nat.le_of_ble_eq_true rfl) dX4_part_128 (fun H locs hw => ?_)
              obtain ⟨S15, e_S15⟩ : ∃ z : Ob, z = uS S1 10 ((S1.1 10) + 1) := ⟨_, rfl⟩
              have hm := hm S15 e_S15
              have hw : wV D A s.heap (rW cy aR S15) H locs := by rw [e_S15]; exact hw
              refine lv_aload_n hx hb dX4_part_131 rfl (lv_at hl 0 rfl) ?_
              refine lv_iload_n hx hb dX4_part_132 rfl (lv_at hl 2 rfl) ?_
              obtain ⟨J17, eJ17, hm⟩ := jn_e hm
              have hJ17 : ∀ (t16 : Int32) (_ : J17 t16) (H : Heap) (locs : List Loc) (ls : Array Slot), wV D A s.heap (rW cy aR S15) H locs → lv_has ls 5 [(0, .ref (aR 0)), (2, .int r3), (3, .int t5)] → W p l e (rmN (k + 1)) s m args below meth c H locs 0 0 (MQ below (eV D cy A (fun u : Ob => (rW cy aR u)) Q) args s (rmN (k + 1)).cells (rmN (k + 1)).slots A) (F0 m 145 ls [.int t16, .ref (aR 0)]) := by
                intro t16 hm H locs ls hw hl
                rw [eJ17] at hm
                refine lv_iload_n hx hb dX4_part_145 rfl (lv_at hl 2 rfl) ?_
                obtain ⟨J19, eJ19, hm⟩ := jn_e hm
                have hJ19 : ∀ (t18 : Int32) (_ : J19 t18) (H : Heap) (locs : List Loc) (ls : Array Slot), wV D A s.heap (rW cy aR S15) H locs → lv_has ls 5 [(0, .ref (aR 0))] → W p l e (rmN (k + 1)) s m args below meth c H locs 0 0 (MQ below (eV D cy A (fun u : Ob => (rW cy aR u)) Q) args s (rmN (k + 1)).cells (rmN (k + 1)).slots A) (F0 m 166 ls [.int t18, .int t16, .ref (aR 0)]) := by
                  intro t18 hm H locs ls hw hl
                  rw [eJ19] at hm
                  refine aV_V (As := [.int t16, .int t18]) (rest := []) hc hw (c_X4_step hm) lk_X4_115 rfl rfl (rm_ok (by omega) (by omega)) ⟨Nat.le_of_ble_eq_true rfl, Nat.le_of_ble_eq_true rfl⟩ hl.1 rfl (Nat.le_of_ble_eq_true rfl) rfl dX4_part_166 (fun S20 H locs hm hw => ?_)
                  have hw : wV D A s.heap (rW cy aR S20) H locs := hw
                  refine lv_aload_n hx hb dX4_part_169 rfl (lv_at hl 0 rfl) ?_
                  refine lv_dup hx hb dX4_part_170 rfl ?_
                  refine gF (k := 3) hc hw inX4 rfl 0 rfl (by decide) (gm 267 (by decide +kernel) rfl) rfl dX4_part_171 ?_
                  refine lv_iconst (v := 1) hx hb dX4_part_174 (by decide) ?_
                  refine lv_iadd hx hb dX4_part_175 ?_
                  refine pF (k := 3) (ty := .int) hc hw inX4 tyX4_ok nmX4 rfl 0 rfl (by decide) (gm 267 (by decide +kernel) rfl) rfl (by decide +kernel) rfl rfl (Nat.le_of_ble_eq_true rfl) dX4_part_176 (fun H locs hw => ?_)
                  obtain ⟨S22, e_S22⟩ : ∃ z : Ob, z = uS S20 3 ((S20.1 3) + 1) := ⟨_, rfl⟩
                  have hm := hm S22 e_S22
                  have hw : wV D A s.heap (rW cy aR S22) H locs := by rw [e_S22]; exact hw
                  exact retV (u := S22) hc hw hm dX4_part_179
                refine lv_if_eq (tgt := 161) hx hb dX4_part_146 (by decide) (fun c24 => ?_) (fun c24 => ?_)
                · have hm := hm.1 c24
                  refine lv_iload_n hx hb dX4_part_161 rfl (lv_at hl 1 rfl) ?_
                  refine lv_sipush (v := 263) hx hb dX4_part_162 (by decide) ?_
                  refine lv_isub hx hb dX4_part_165 ?_
                  exact hJ19 _ hm _ _ _ hw (lv_sub hl [0] rfl)
                · have hm := hm.2 c24
                  refine lv_aload_n hx hb dX4_part_149 rfl (lv_at hl 0 rfl) ?_
                  refine gF (k := 1) hc hw inX4 rfl 0 rfl (by decide) (gm 265 (by decide +kernel) rfl) rfl dX4_part_150 ?_
                  refine lv_aload_n hx hb dX4_part_153 rfl (lv_at hl 0 rfl) ?_
                  refine gF (k := 3) hc hw inX4 rfl 0 rfl (by decide) (gm 267 (by decide +kernel) rfl) rfl dX4_part_154 ?_
                  obtain ⟨c23, hm⟩ := hm
                  refine aI hc hw 2 rfl c23 rfl dX4_part_157 ?_
                  refine lv_goto (tgt := 166) hx hb dX4_part_158 (by decide) ?_
                  exact hJ19 _ hm _ _ _ hw (lv_sub hl [0] rfl)
              refine lv_if_eq (tgt := 142) hx hb dX4_part_133 (by decide) (fun c25 => ?_) (fun c25 => ?_)
              · have hm := hm.1 c25
                refine lv_sipush (v := 282) hx hb dX4_part_142 (by decide) ?_
                exact hJ17 _ hm _ _ _ hw (lv_sub hl [0, 1, 2] rfl)
              · have hm := hm.2 c25
                refine lv_sipush (v := 281) hx hb dX4_part_136 (by decide) ?_
                refine lv_goto (tgt := 145) hx hb dX4_part_139 (by decide) ?_
                exact hJ17 _ hm _ _ _ hw (lv_sub hl [0, 1, 2] rfl)
            refine lv_if_ne (tgt := 121) hx hb dX4_part_108 (by decide) (fun c27 => ?_) (fun c27 => ?_)
            · have hm := hm.1 c27
              exact hJ14 _ hm _ _ _ hw (lv_sub hl [1, 2, 3] rfl)
            · have hm := hm.2 c27
              refine lv_iload hx hb dX4_part_111 (lv_at hl 0 rfl) ?_
              refine lv_if_ne (tgt := 121) hx hb dX4_part_113 (by decide) (fun c26 => ?_) (fun c26 => ?_)
              · have hm := hm.1 c26
                exact hJ14 _ hm _ _ _ hw (lv_sub hl [1, 2, 3] rfl)
              · have hm := hm.2 c26
                exact hJ10 _ hm _ _ _ hw (lv_sub hl [1] rfl)
      obtain ⟨J31, eJ31, hm⟩ := jn_e hm
      have hJ31 : ∀ (z30 : Unit) (_ : J31 z30) (H : Heap) (locs : List Loc) (ls : Array Slot), wV D A s.heap (rW cy aR S1) H locs → lv_has ls 5 [(0, .ref (aR 0)), (2, .int r3), (3, .int t5)] → W p l e (rmN (k + 1)) s m args below meth c H locs 0 0 (MQ below (eV D cy A (fun u : Ob => (rW cy aR u)) Q) args s (rmN (k + 1)).cells (rmN (k + 1)).slots A) (F0 m 87 ls []) := by
        intro z30 hm H locs ls hw hl
        rw [eJ31] at hm
        refine lv_iconst (v := 0) hx hb dX4_part_87 (by decide) ?_
        exact hJ8 _ hm _ _ _ hw (lv_sub hl [0, 1, 2] rfl)
      refine lv_icmp_lt (tgt := 87) hx hb dX4_part_73 (by decide) (fun c33 => ?_) (fun c33 => ?_)
      · have hm := hm.1 c33
        exact hJ31 _ hm _ _ _ hw (lv_sub hl [1, 2, 0] rfl)
      · have hm := hm.2 c33
        refine lv_iload_n hx hb dX4_part_76 rfl (lv_at hl 2 rfl) ?_
        refine lv_sipush (v := 270) hx hb dX4_part_77 (by decide) ?_
        refine lv_icmp_gt (tgt := 87) hx hb dX4_part_80 (by decide) (fun c32 => ?_) (fun c32 => ?_)
        · have hm := hm.1 c32
          exact hJ31 _ hm _ _ _ hw (lv_sub hl [1, 2, 0] rfl)
        · have hm := hm.2 c32
          refine lv_iconst (v := 1) hx hb dX4_part_83 (by decide) ?_
          refine lv_goto (tgt := 88) hx hb dX4_part_84 (by decide) ?_
          exact hJ8 _ hm _ _ _ hw (lv_sub hl [1, 2, 0] rfl)
    obtain ⟨J35, eJ35, hm⟩ := jn_e hm
    have hJ35 : ∀ (z34 : Unit) (_ : J35 z34) (H : Heap) (locs : List Loc) (ls : Array Slot), wV D A s.heap (rW cy aR S1) H locs → lv_has ls 5 [(0, .ref (aR 0)), (2, .int r3)] → W p l e (rmN (k + 1)) s m args below meth c H locs 0 0 (MQ below (eV D cy A (fun u : Ob => (rW cy aR u)) Q) args s (rmN (k + 1)).cells (rmN (k + 1)).slots A) (F0 m 67 ls []) := by
      intro z34 hm H locs ls hw hl
      rw [eJ35] at hm
      refine lv_iconst (v := 0) hx hb dX4_part_67 (by decide) ?_
      exact hJ6 _ hm _ _ _ hw (lv_sub hl [0, 1] rfl)
    refine lv_icmp_ne (tgt := 67) hx hb dX4_part_45 (by decide) (fun c38 => ?_) (fun c38 => ?_)
    · have hm := hm.1 c38
      exact hJ35 _ hm _ _ _ hw (lv_sub hl [1, 0] rfl)
    · have hm := hm.2 c38
      refine lv_aload_n hx hb dX4_part_48 rfl (lv_at hl 1 rfl) ?_
      refine gF (k := 1) hc hw inX4 rfl 0 rfl (by decide) (gm 265 (by decide +kernel) rfl) rfl dX4_part_49 ?_
      refine lv_aload_n hx hb dX4_part_52 rfl (lv_at hl 1 rfl) ?_
      refine gF (k := 3) hc hw inX4 rfl 0 rfl (by decide) (gm 267 (by decide +kernel) rfl) rfl dX4_part_53 ?_
      obtain ⟨c36, hm⟩ := hm
      refine aI hc hw 2 rfl c36 rfl dX4_part_56 ?_
      refine lv_sipush (v := 2000) hx hb dX4_part_57 (by decide) ?_
      refine lv_icmp_gt (tgt := 67) hx hb dX4_part_60 (by decide) (fun c37 => ?_) (fun c37 => ?_)
      · have hm := hm.1 c37
        exact hJ35 _ hm _ _ _ hw (lv_sub hl [1, 0] rfl)
      · have hm := hm.2 c37
        refine lv_iconst (v := 1) hx hb dX4_part_63 (by decide) ?_
        refine lv_goto (tgt := 68) hx hb dX4_part_64 (by decide) ?_
        exact hJ6 _ hm _ _ _ hw (lv_sub hl [1, 0] rfl)
  refine lv_icmp_ge (tgt := 36) hx hb dX4_part_3 (by decide) (fun c51 => ?_) (fun c51 => ?_)
  · have hm := hm.1 c51
    exact hJ2 _ hm _ _ _ hw (lv_sub hl [0] rfl)
  · have hm := hm.2 c51
    refine lv_aload_n hx hb dX4_part_6 rfl (lv_at hl 0 rfl) ?_
    refine lv_bipush (v := 91) hx hb dX4_part_7 (by decide) ?_
    refine aV_I (As := [.int 91]) (rest := []) hc hw (c_X4_takes hm) lk_X4_56 rfl rfl (rm_ok (by omega) (by omega)) ⟨Nat.le_of_ble_eq_true rfl, Nat.le_of_ble_eq_true rfl⟩ hl.1 rfl (Nat.le_of_ble_eq_true rfl) rfl dX4_part_9 (fun r39 S40 H locs hm hw => ?_)
    have hw : wV D A s.heap (rW cy aR S40) H locs := hw
    refine lv_if_eq (tgt := 36) hx hb dX4_part_12 (by decide) (fun c50 => ?_) (fun c50 => ?_)
    · have hm := hm.1 c50
      exact hJ2 _ hm _ _ _ hw (lv_sub hl [0] rfl)
    · have hm := hm.2 c50
      refine lv_aload_n hx hb dX4_part_15 rfl (lv_at hl 0 rfl) ?_
      refine lv_iload_n hx hb dX4_part_16 rfl (lv_at hl 1 rfl) ?_
      refine lv_iconst (v := 1) hx hb dX4_part_17 (by decide) ?_
      refine lv_iadd hx hb dX4_part_18 ?_
      refine aV_V (As := [.int (x1 + 1)]) (rest := []) hc hw (hrec hm) lk_X4_119 rfl rfl (rm_ok (by omega) (by omega)) ⟨Nat.le_of_ble_eq_true rfl, Nat.le_of_ble_eq_true rfl⟩ hl.1 rfl (Nat.le_of_ble_eq_true rfl) rfl dX4_part_19 (fun S42 H locs hm hw => ?_)
      have hw : wV D A s.heap (rW cy aR S42) H locs := hw
      refine lv_aload_n hx hb dX4_part_22 rfl (lv_at hl 0 rfl) ?_
      refine lv_bipush (v := 93) hx hb dX4_part_23 (by decide) ?_
      refine aV_I (As := [.int 93]) (rest := []) hc hw (c_X4_takes hm) lk_X4_56 rfl rfl (rm_ok (by omega) (by omega)) ⟨Nat.le_of_ble_eq_true rfl, Nat.le_of_ble_eq_true rfl⟩ hl.1 rfl (Nat.le_of_ble_eq_true rfl) rfl dX4_part_25 (fun r44 S45 H locs hm hw => ?_)
      have hw : wV D A s.heap (rW cy aR S45) H locs := hw
      refine lv_if_ne (tgt := 35) hx hb dX4_part_28 (by decide) (fun c49 => ?_) (fun c49 => ?_)
      · have hm := hm.1 c49
        exact retV (u := S45) hc hw hm dX4_part_35
      · have hm := hm.2 c49
        refine lv_aload_n hx hb dX4_part_31 rfl (lv_at hl 0 rfl) ?_
        refine aV_V (As := []) (rest := []) hc hw (c_X4_stop hm) lk_X4_64 rfl rfl (rm_ok (by omega) (by omega)) ⟨Nat.le_of_ble_eq_true rfl, Nat.le_of_ble_eq_true rfl⟩ hl.1 rfl (Nat.le_of_ble_eq_true rfl) rfl dX4_part_32 (fun S47 H locs hm hw => ?_)
        have hw : wV D A s.heap (rW cy aR S47) H locs := hw
        exact retV (u := S47) hc hw hm dX4_part_35
set_option maxHeartbeats 4000000 in
set_option maxRecDepth 100000 in
theorem c_X4_sum {l : Launch} {D : va_G} {cy : Nat → ClassId} {aR : Nat → Nat} : ∀ (d : Nat) (SR : Ob) (x1 : Int32) (Q : (Ob → Prop)) (hm : w_X4_sum d SR x1 Q), CtV l yX4_sum cX4_sum 5 none (rmN (1 + 4 * d)) D cy [.ref (aR 0), .int x1] (rW cy aR SR) (fun u : Ob => (rW cy aR u)) Q
  | 0, _, _, _, hm => hm.elim
  | d + 1, SR, x1, Q, hm => by
    unfold w_X4_sum at hm
    refine CtV.ofW (by decide) (Nat.le_of_ble_eq_true rfl) ?_
    intro p e s m args below meth c A ls hc hnm hw hl
    have hx := hc.1.1
    have hb := hc.1.2.1
    have hown := hc.1.2.2.2.1
    have hts := hc.1.2.2.2.2
    have hl : lv_has ls 5 [(0, .ref (aR 0)), (1, .int x1)] := hl
    obtain ⟨H, hH⟩ : ∃ z, z = s.heap := ⟨_, rfl⟩
    obtain ⟨locs, hLc⟩ : ∃ z : List Loc, z = [] := ⟨_, rfl⟩
    have hw : wV D A s.heap (rW cy aR SR) H locs := by rw [hH, hLc]; exact hw
    have hgo : W p l e (rmN (1 + 4 * (d + 1))) s m args below meth c H locs 0 0 (MQ below (eV D cy A (fun u : Ob => (rW cy aR u)) Q) args s (rmN (1 + 4 * (d + 1))).cells (rmN (1 + 4 * (d + 1))).slots A) (F0 m 0 ls []) := ?hgo
    · rw [hH, hLc] at hgo; exact hgo
    refine lv_iconst (v := (-1)) hx hb dX4_sum_0 (by decide) ?_
    refine lv_istore_n (lv' := [(2, .int (-1)), (0, .ref (aR 0)), (1, .int x1)]) hx hb dX4_sum_1 rfl hl (by decide) rfl (fun ls hl => ?_)
    refine lv_aload_n hx hb dX4_sum_2 rfl (lv_at hl 1 rfl) ?_
    refine lv_iload_n hx hb dX4_sum_3 rfl (lv_at hl 2 rfl) ?_
    refine aV_V (As := [.int x1]) (rest := []) hc hw (c_X4_part (by omega) (fun h => c_X4_sum d _ _ _ h) hm) lk_X4_132 rfl rfl (rm_ok (by omega) (by omega)) ⟨Nat.le_of_ble_eq_true rfl, Nat.le_of_ble_eq_true rfl⟩ hl.1 rfl (Nat.le_of_ble_eq_true rfl) rfl dX4_sum_4 (fun S1 H locs hm hw => ?_)
    have hw : wV D A s.heap (rW cy aR S1) H locs := hw
    refine lv_iconst (v := 0) hx hb dX4_sum_7 (by decide) ?_
    refine lv_istore_n (lv' := [(3, .int 0), (2, .int (-1)), (0, .ref (aR 0)), (1, .int x1)]) hx hb dX4_sum_8 rfl hl (by decide) rfl (fun ls hl => ?_)
    refine wl3_ind (G := fun (x3_3 : Int32) (x2_4 : Int32) (S5 : Ob) => ∀ (H : Heap) (locs : List Loc) (ls : Array Slot), wV D A s.heap (rW cy aR S5) H locs → lv_has ls 5 [(3, .int x3_3), (2, .int x2_4), (0, .ref (aR 0)), (1, .int x1)] → W p l e (rmN (1 + 4 * (d + 1))) s m args below meth c H locs 0 0 (MQ below (eV D cy A (fun u : Ob => (rW cy aR u)) Q) args s (rmN (1 + 4 * (d + 1))).cells (rmN (1 + 4 * (d + 1))).slots A) (F0 m 9 ls [])) ?_ _ _ _ hm H locs ls hw (lv_sub hl [0, 1, 2, 3] rfl)
    intro L6 ih6 x3_3 x2_4 S5 hm H locs ls hw hl
    refine lv_iload_n hx hb dX4_sum_9 rfl (lv_at hl 0 rfl) ?_
    refine lv_sipush (v := 400) hx hb dX4_sum_10 (by decide) ?_
    obtain ⟨J8, eJ8, hm⟩ := jn_e hm
    have hJ8 : ∀ (z7 : Unit) (_ : J8 z7) (H : Heap) (locs : List Loc) (ls : Array Slot), wV D A s.heap (rW cy aR S5) H locs → lv_has ls 5 [(0, .ref (aR 0)), (2, .int x2_4)] → W p l e (rmN (1 + 4 * (d + 1))) s m args below meth c H locs 0 0 (MQ below (eV D cy A (fun u : Ob => (rW cy aR u)) Q) args s (rmN (1 + 4 * (d + 1))).cells (rmN (1 + 4 * (d + 1))).slots A) (F0 m 118 ls []) := by
      intro z7 hm H locs ls hw hl
      rw [eJ8] at hm
      refine lv_iload_n hx hb dX4_sum_118 rfl (lv_at hl 1 rfl) ?_
      refine lv_iconst (v := (-1)) hx hb dX4_sum_119 (by decide) ?_
      refine lv_icmp_eq (tgt := 129) hx hb dX4_sum_120 (by decide) (fun c11 => ?_) (fun c11 => ?_)
      · have hm := hm.1 c11
        exact retV (u := S5) hc hw hm dX4_sum_129
      · have hm := hm.2 c11
        refine lv_aload_n hx hb dX4_sum_123 rfl (lv_at hl 0 rfl) ?_
        refine lv_iload_n hx hb dX4_sum_124 rfl (lv_at hl 1 rfl) ?_
        refine lv_iconst (v := 0) hx hb dX4_sum_125 (by decide) ?_
        refine aV_V (As := [.int x2_4, .int 0]) (rest := []) hc hw (c_X4_step hm) lk_X4_115 rfl rfl (rm_ok (by omega) (by omega)) ⟨Nat.le_of_ble_eq_true rfl, Nat.le_of_ble_eq_true rfl⟩ hl.1 rfl (Nat.le_of_ble_eq_true rfl) rfl dX4_sum_126 (fun S9 H locs hm hw => ?_)
        have hw : wV D A s.heap (rW cy aR S9) H locs := hw
        exact retV (u := S9) hc hw hm dX4_sum_129
    refine lv_icmp_ge (tgt := 118) hx hb dX4_sum_13 (by decide) (fun c38 => ?_) (fun c38 => ?_)
    · have hm := hm.1 c38
      exact hJ8 _ hm _ _ _ hw (lv_sub hl [2, 1] rfl)
    · have hm := hm.2 c38
      refine lv_aload_n hx hb dX4_sum_16 rfl (lv_at hl 2 rfl) ?_
      refine gF (k := 11) hc hw inX4 rfl 0 rfl (by decide) (gm 275 (by decide +kernel) rfl) rfl dX4_sum_17 ?_
      refine lv_iconst (v := (-1)) hx hb dX4_sum_20 (by decide) ?_
      refine lv_icmp_ne (tgt := 118) hx hb dX4_sum_21 (by decide) (fun c37 => ?_) (fun c37 => ?_)
      · have hm := hm.1 c37
        exact hJ8 _ hm _ _ _ hw (lv_sub hl [2, 1] rfl)
      · have hm := hm.2 c37
        refine lv_aload_n hx hb dX4_sum_24 rfl (lv_at hl 2 rfl) ?_
        refine aV_I (As := []) (rest := []) hc hw (c_X4_next hm) lk_X4_60 rfl rfl (rm_ok (by omega) (by omega)) ⟨Nat.le_of_ble_eq_true rfl, Nat.le_of_ble_eq_true rfl⟩ hl.1 rfl (Nat.le_of_ble_eq_true rfl) rfl dX4_sum_25 (fun r12 _ H locs hm hw => ?_)
        have hw : wV D A s.heap (rW cy aR S5) H locs := hw
        refine lv_istore (lv' := [(4, .int r12), (3, .int x3_3), (2, .int x2_4), (0, .ref (aR 0)), (1, .int x1)]) hx hb dX4_sum_28 hl (by decide) rfl (fun ls hl => ?_)
        refine lv_iload hx hb dX4_sum_30 (lv_at hl 0 rfl) ?_
        refine lv_bipush (v := 42) hx hb dX4_sum_32 (by decide) ?_
        obtain ⟨J15, eJ15, hm⟩ := jn_e hm
        have hJ15 : ∀ (z14 : Unit) (_ : J15 z14) (H : Heap) (locs : List Loc) (ls : Array Slot), wV D A s.heap (rW cy aR S5) H locs → lv_has ls 5 [(0, .ref (aR 0)), (1, .int x1), (2, .int x2_4), (3, .int x3_3), (4, .int r12)] → W p l e (rmN (1 + 4 * (d + 1))) s m args below meth c H locs 0 0 (MQ below (eV D cy A (fun u : Ob => (rW cy aR u)) Q) args s (rmN (1 + 4 * (d + 1))).cells (rmN (1 + 4 * (d + 1))).slots A) (F0 m 44 ls []) := by
          intro z14 hm H locs ls hw hl
          rw [eJ15] at hm
          refine lv_aload_n hx hb dX4_sum_44 rfl (lv_at hl 0 rfl) ?_
          refine lv_dup hx hb dX4_sum_45 rfl ?_
          refine gF (k := 3) hc hw inX4 rfl 0 rfl (by decide) (gm 267 (by decide +kernel) rfl) rfl dX4_sum_46 ?_
          refine lv_iconst (v := 1) hx hb dX4_sum_49 (by decide) ?_
          refine lv_iadd hx hb dX4_sum_50 ?_
          refine pF (k := 3) (ty := .int) hc hw inX4 tyX4_ok nmX4 rfl 0 rfl (by decide) (gm 267 (by decide +kernel) rfl) rfl (by decide +kernel) rfl rfl (Nat.le_of_ble_eq_true rfl) dX4_sum_51 (fun H locs hw => ?_)
          obtain ⟨S16, e_S16⟩ : ∃ z : Ob, z = uS S5 3 ((S5.1 3) + 1) := ⟨_, rfl⟩
          have hm := hm S16 e_S16
          have hw : wV D A s.heap (rW cy aR S16) H locs := by rw [e_S16]; exact hw
          refine lv_aload_n hx hb dX4_sum_54 rfl (lv_at hl 0 rfl) ?_
          refine lv_iload_n hx hb dX4_sum_55 rfl (lv_at hl 1 rfl) ?_
          refine aV_V (As := [.int x1]) (rest := []) hc hw (c_X4_part (by omega) (fun h => c_X4_sum d _ _ _ h) hm) lk_X4_132 rfl rfl (rm_ok (by omega) (by omega)) ⟨Nat.le_of_ble_eq_true rfl, Nat.le_of_ble_eq_true rfl⟩ hl.1 rfl (Nat.le_of_ble_eq_true rfl) rfl dX4_sum_56 (fun S17 H locs hm hw => ?_)
          have hw : wV D A s.heap (rW cy aR S17) H locs := hw
          refine lv_aload_n hx hb dX4_sum_59 rfl (lv_at hl 0 rfl) ?_
          refine lv_iload hx hb dX4_sum_60 (lv_at hl 4 rfl) ?_
          refine lv_iconst (v := 0) hx hb dX4_sum_62 (by decide) ?_
          refine aV_V (As := [.int r12, .int 0]) (rest := []) hc hw (c_X4_step hm) lk_X4_115 rfl rfl (rm_ok (by omega) (by omega)) ⟨Nat.le_of_ble_eq_true rfl, Nat.le_of_ble_eq_true rfl⟩ hl.1 rfl (Nat.le_of_ble_eq_true rfl) rfl dX4_sum_63 (fun S19 H locs hm hw => ?_)
          have hw : wV D A s.heap (rW cy aR S19) H locs := hw
          refine lv_goto (tgt := 112) hx hb dX4_sum_66 (by decide) ?_
          obtain ⟨v21, e_v21⟩ : ∃ z : Int32, z = x3_3 + 1 := ⟨_, rfl⟩
          have hm := hm v21 e_v21
          refine lv_iinc (v := v21) (lv' := [(3, .int v21), (0, .ref (aR 0)), (1, .int x1), (2, .int x2_4), (4, .int r12)]) hx hb dX4_sum_112 hl (k := 3) rfl (by rw [e_v21]; rfl) (by decide) rfl (fun ls hl => ?_)
          refine lv_goto (tgt := 9) hx hb dX4_sum_115 (by decide) ?_
          exact ih6 _ _ _ hm _ _ _ hw (lv_sub hl [0, 3, 1, 2] rfl)
        refine lv_icmp_eq (tgt := 44) hx hb dX4_sum_34 (by decide) (fun c36 => ?_) (fun c36 => ?_)
        · have hm := hm.1 c36
          exact hJ15 _ hm _ _ _ hw (lv_sub hl [3, 4, 2, 1, 0] rfl)
        · have hm := hm.2 c36
          refine lv_iload hx hb dX4_sum_37 (lv_at hl 0 rfl) ?_
          refine lv_bipush (v := 47) hx hb dX4_sum_39 (by decide) ?_
          refine lv_icmp_ne (tgt := 69) hx hb dX4_sum_41 (by decide) (fun c35 => ?_) (fun c35 => ?_)
          · have hm := hm.1 c35
            refine lv_iload hx hb dX4_sum_69 (lv_at hl 0 rfl) ?_
            refine lv_bipush (v := 43) hx hb dX4_sum_71 (by decide) ?_
            obtain ⟨J23, eJ23, hm⟩ := jn_e hm
            have hJ23 : ∀ (z22 : Unit) (_ : J23 z22) (H : Heap) (locs : List Loc) (ls : Array Slot), wV D A s.heap (rW cy aR S5) H locs → lv_has ls 5 [(0, .ref (aR 0)), (1, .int x1), (2, .int x2_4), (3, .int x3_3), (4, .int r12)] → W p l e (rmN (1 + 4 * (d + 1))) s m args below meth c H locs 0 0 (MQ below (eV D cy A (fun u : Ob => (rW cy aR u)) Q) args s (rmN (1 + 4 * (d + 1))).cells (rmN (1 + 4 * (d + 1))).slots A) (F0 m 83 ls []) := by
              intro z22 hm H locs ls hw hl
              rw [eJ23] at hm
              refine lv_iload_n hx hb dX4_sum_83 rfl (lv_at hl 2 rfl) ?_
              refine lv_iconst (v := (-1)) hx hb dX4_sum_84 (by decide) ?_
              obtain ⟨J25, eJ25, hm⟩ := jn_e hm
              have hJ25 : ∀ (S24 : Ob) (_ : J25 S24) (H : Heap) (locs : List Loc) (ls : Array Slot), wV D A s.heap (rW cy aR S24) H locs → lv_has ls 5 [(0, .ref (aR 0)), (1, .int x1), (3, .int x3_3), (4, .int r12)] → W p l e (rmN (1 + 4 * (d + 1))) s m args below meth c H locs 0 0 (MQ below (eV D cy A (fun u : Ob => (rW cy aR u)) Q) args s (rmN (1 + 4 * (d + 1))).cells (rmN (1 + 4 * (d + 1))).slots A) (F0 m 94 ls []) := by
                intro S24 hm H locs ls hw hl
                rw [eJ25] at hm
                refine lv_iload hx hb dX4_sum_94 (lv_at hl 3 rfl) ?_
                refine lv_istore_n (lv' := [(2, .int r12), (0, .ref (aR 0)), (1, .int x1), (3, .int x3_3), (4, .int r12)]) hx hb dX4_sum_96 rfl hl (by decide) rfl (fun ls hl => ?_)
                refine lv_aload_n hx hb dX4_sum_97 rfl (lv_at hl 1 rfl) ?_
                refine lv_dup hx hb dX4_sum_98 rfl ?_
                refine gF (k := 3) hc hw inX4 rfl 0 rfl (by decide) (gm 267 (by decide +kernel) rfl) rfl dX4_sum_99 ?_
                refine lv_iconst (v := 1) hx hb dX4_sum_102 (by decide) ?_
                refine lv_iadd hx hb dX4_sum_103 ?_
                refine pF (k := 3) (ty := .int) hc hw inX4 tyX4_ok nmX4 rfl 0 rfl (by decide) (gm 267 (by decide +kernel) rfl) rfl (by decide +kernel) rfl rfl (Nat.le_of_ble_eq_true rfl) dX4_sum_104 (fun H locs hw => ?_)
                obtain ⟨S26, e_S26⟩ : ∃ z : Ob, z = uS S24 3 ((S24.1 3) + 1) := ⟨_, rfl⟩
                have hm := hm S26 e_S26
                have hw : wV D A s.heap (rW cy aR S26) H locs := by rw [e_S26]; exact hw
                refine lv_aload_n hx hb dX4_sum_107 rfl (lv_at hl 1 rfl) ?_
                refine lv_iload_n hx hb dX4_sum_108 rfl (lv_at hl 2 rfl) ?_
                refine aV_V (As := [.int x1]) (rest := []) hc hw (c_X4_part (by omega) (fun h => c_X4_sum d _ _ _ h) hm) lk_X4_132 rfl rfl (rm_ok (by omega) (by omega)) ⟨Nat.le_of_ble_eq_true rfl, Nat.le_of_ble_eq_true rfl⟩ hl.1 rfl (Nat.le_of_ble_eq_true rfl) rfl dX4_sum_109 (fun S27 H locs hm hw => ?_)
                have hw : wV D A s.heap (rW cy aR S27) H locs := hw
                obtain ⟨v29, e_v29⟩ : ∃ z : Int32, z = x3_3 + 1 := ⟨_, rfl⟩
                have hm := hm v29 e_v29
                refine lv_iinc (v := v29) (lv' := [(3, .int v29), (2, .int r12), (0, .ref (aR 0)), (1, .int x1), (4, .int r12)]) hx hb dX4_sum_112 hl (k := 3) rfl (by rw [e_v29]; rfl) (by decide) rfl (fun ls hl => ?_)
                refine lv_goto (tgt := 9) hx hb dX4_sum_115 (by decide) ?_
                exact ih6 _ _ _ hm _ _ _ hw (lv_sub hl [0, 1, 2, 3] rfl)
              refine lv_icmp_eq (tgt := 94) hx hb dX4_sum_85 (by decide) (fun c32 => ?_) (fun c32 => ?_)
              · have hm := hm.1 c32
                exact hJ25 _ hm _ _ _ hw (lv_sub hl [0, 1, 3, 4] rfl)
              · have hm := hm.2 c32
                refine lv_aload_n hx hb dX4_sum_88 rfl (lv_at hl 0 rfl) ?_
                refine lv_iload_n hx hb dX4_sum_89 rfl (lv_at hl 2 rfl) ?_
                refine lv_iconst (v := 0) hx hb dX4_sum_90 (by decide) ?_
                refine aV_V (As := [.int x2_4, .int 0]) (rest := []) hc hw (c_X4_step hm) lk_X4_115 rfl rfl (rm_ok (by omega) (by omega)) ⟨Nat.le_of_ble_eq_true rfl, Nat.le_of_ble_eq_true rfl⟩ hl.1 rfl (Nat.le_of_ble_eq_true rfl) rfl dX4_sum_91 (fun S30 H locs hm hw => ?_)
                have hw : wV D A s.heap (rW cy aR S30) H locs := hw
                exact hJ25 _ hm _ _ _ hw (lv_sub hl [0, 1, 3, 4] rfl)
            refine lv_icmp_eq (tgt := 83) hx hb dX4_sum_73 (by decide) (fun c34 => ?_) (fun c34 => ?_)
            · have hm := hm.1 c34
              exact hJ23 _ hm _ _ _ hw (lv_sub hl [3, 4, 2, 1, 0] rfl)
            · have hm := hm.2 c34
              refine lv_iload hx hb dX4_sum_76 (lv_at hl 0 rfl) ?_
              refine lv_bipush (v := 45) hx hb dX4_sum_78 (by decide) ?_
              refine lv_icmp_ne (tgt := 118) hx hb dX4_sum_80 (by decide) (fun c33 => ?_) (fun c33 => ?_)
              · have hm := hm.1 c33
                exact hJ8 _ hm _ _ _ hw (lv_sub hl [3, 2] rfl)
              · have hm := hm.2 c33
                exact hJ23 _ hm _ _ _ hw (lv_sub hl [3, 4, 2, 1, 0] rfl)
          · have hm := hm.2 c35
            exact hJ15 _ hm _ _ _ hw (lv_sub hl [3, 4, 2, 1, 0] rfl)
set_option maxHeartbeats 4000000 in
set_option maxRecDepth 100000 in
theorem c_X4_plain {l : Launch} {D : va_G} {cy : Nat → ClassId} {aR : Nat → Nat} {SR : Ob} {x1 : Int32} {Q : Ob → Prop} {rec : Ob → Int32 → (Ob → Prop) → Prop} {k : Nat} (hk : 50 ≤ k) (hrec : ∀ {SR : Ob} {x1 : Int32} {Q : Ob → Prop}, rec SR x1 Q → CtV l yX4_test cX4_test 5 none (rmN k) D cy [.ref (aR 0), .int x1] (rW cy aR SR) (fun u : Ob => (rW cy aR u)) Q) (hm : w_X4_plain rec SR x1 Q) : CtV l yX4_plain cX4_plain 4 none (rmN (k + 1)) D cy [.ref (aR 0), .int x1] (rW cy aR SR) (fun u : Ob => (rW cy aR u)) Q := by
  refine CtV.ofW (by decide) (Nat.le_of_ble_eq_true rfl) ?_
  intro p e s m args below meth c A ls hc hnm hw hl
  have hx := hc.1.1
  have hb := hc.1.2.1
  have hown := hc.1.2.2.2.1
  have hts := hc.1.2.2.2.2
  have hl : lv_has ls 4 [(0, .ref (aR 0)), (1, .int x1)] := hl
  obtain ⟨H, hH⟩ : ∃ z, z = s.heap := ⟨_, rfl⟩
  obtain ⟨locs, hLc⟩ : ∃ z : List Loc, z = [] := ⟨_, rfl⟩
  have hw : wV D A s.heap (rW cy aR SR) H locs := by rw [hH, hLc]; exact hw
  have hgo : W p l e (rmN (k + 1)) s m args below meth c H locs 0 0 (MQ below (eV D cy A (fun u : Ob => (rW cy aR u)) Q) args s (rmN (k + 1)).cells (rmN (k + 1)).slots A) (F0 m 0 ls []) := ?hgo
  · rw [hH, hLc] at hgo; exact hgo
  refine lv_iconst (v := 0) hx hb dX4_plain_0 (by decide) ?_
  refine lv_istore_n (lv' := [(2, .int 0), (0, .ref (aR 0)), (1, .int x1)]) hx hb dX4_plain_1 rfl hl (by decide) rfl (fun ls hl => ?_)
  refine lv_iconst (v := 0) hx hb dX4_plain_2 (by decide) ?_
  refine lv_istore_n (lv' := [(3, .int 0), (2, .int 0), (0, .ref (aR 0)), (1, .int x1)]) hx hb dX4_plain_3 rfl hl (by decide) rfl (fun ls hl => ?_)
  refine wl3_ind (G := fun (x3_1 : Int32) (x2_2 : Int32) (S3 : Ob) => ∀ (H : Heap) (locs : List Loc) (ls : Array Slot), wV D A s.heap (rW cy aR S3) H locs → lv_has ls 4 [(3, .int x3_1), (2, .int x2_2), (0, .ref (aR 0)), (1, .int x1)] → W p l e (rmN (k + 1)) s m args below meth c H locs 0 0 (MQ below (eV D cy A (fun u : Ob => (rW cy aR u)) Q) args s (rmN (k + 1)).cells (rmN (k + 1)).slots A) (F0 m 4 ls [])) ?_ _ _ _ hm H locs ls hw (lv_sub hl [0, 1, 2, 3] rfl)
  intro L4 ih4 x3_1 x2_2 S3 hm H locs ls hw hl
  refine lv_iload_n hx hb dX4_plain_4 rfl (lv_at hl 0 rfl) ?_
  refine lv_sipush (v := 400) hx hb dX4_plain_5 (by decide) ?_
  obtain ⟨J6, eJ6, hm⟩ := jn_e hm
  have hJ6 : ∀ (S5 : Ob) (_ : J6 S5) (H : Heap) (locs : List Loc) (ls : Array Slot), wV D A s.heap (rW cy aR S5) H locs → lv_has ls 4 [(0, .ref (aR 0)), (1, .int x1), (2, .int x2_2)] → W p l e (rmN (k + 1)) s m args below meth c H locs 0 0 (MQ below (eV D cy A (fun u : Ob => (rW cy aR u)) Q) args s (rmN (k + 1)).cells (rmN (k + 1)).slots A) (F0 m 37 ls []) := by
    intro S5 hm H locs ls hw hl
    rw [eJ6] at hm
    refine lv_iload_n hx hb dX4_plain_37 rfl (lv_at hl 1 rfl) ?_
    refine lv_bipush (v := 8) hx hb dX4_plain_38 (by decide) ?_
    obtain ⟨J8, eJ8, hm⟩ := jn_e hm
    have hJ8 : ∀ (S7 : Ob) (_ : J8 S7) (H : Heap) (locs : List Loc) (ls : Array Slot), wV D A s.heap (rW cy aR S7) H locs → lv_has ls 4 [(0, .ref (aR 0)), (2, .int x2_2)] → W p l e (rmN (k + 1)) s m args below meth c H locs 0 0 (MQ below (eV D cy A (fun u : Ob => (rW cy aR u)) Q) args s (rmN (k + 1)).cells (rmN (k + 1)).slots A) (F0 m 130 ls []) := by
      intro S7 hm H locs ls hw hl
      rw [eJ8] at hm
      refine lv_iload_n hx hb dX4_plain_130 rfl (lv_at hl 1 rfl) ?_
      refine lv_if_eq (tgt := 142) hx hb dX4_plain_131 (by decide) (fun c11 => ?_) (fun c11 => ?_)
      · have hm := hm.1 c11
        exact retV (u := S7) hc hw hm dX4_plain_142
      · have hm := hm.2 c11
        refine lv_aload_n hx hb dX4_plain_134 rfl (lv_at hl 0 rfl) ?_
        refine lv_sipush (v := 262) hx hb dX4_plain_135 (by decide) ?_
        refine lv_iconst (v := 0) hx hb dX4_plain_138 (by decide) ?_
        refine aV_V (As := [.int 262, .int 0]) (rest := []) hc hw (c_X4_step hm) lk_X4_115 rfl rfl (rm_ok (by omega) (by omega)) ⟨Nat.le_of_ble_eq_true rfl, Nat.le_of_ble_eq_true rfl⟩ hl.1 rfl (Nat.le_of_ble_eq_true rfl) rfl dX4_plain_139 (fun S9 H locs hm hw => ?_)
        have hw : wV D A s.heap (rW cy aR S9) H locs := hw
        exact retV (u := S9) hc hw hm dX4_plain_142
    obtain ⟨J13, eJ13, hm⟩ := jn_e hm
    have hJ13 : ∀ (S12 : Ob) (_ : J13 S12) (H : Heap) (locs : List Loc) (ls : Array Slot), wV D A s.heap (rW cy aR S12) H locs → lv_has ls 4 [(0, .ref (aR 0)), (1, .int x1), (2, .int x2_2)] → W p l e (rmN (k + 1)) s m args below meth c H locs 0 0 (MQ below (eV D cy A (fun u : Ob => (rW cy aR u)) Q) args s (rmN (k + 1)).cells (rmN (k + 1)).slots A) (F0 m 75 ls []) := by
      intro S12 hm H locs ls hw hl
      rw [eJ13] at hm
      refine lv_aload_n hx hb dX4_plain_75 rfl (lv_at hl 0 rfl) ?_
      refine lv_iload_n hx hb dX4_plain_76 rfl (lv_at hl 1 rfl) ?_
      refine aV_V (As := [.int x1]) (rest := []) hc hw (c_X4_sum 12 _ _ _ hm) lk_X4_119 rfl rfl (rm_ok (by omega) (by omega)) ⟨Nat.le_of_ble_eq_true rfl, Nat.le_of_ble_eq_true rfl⟩ hl.1 rfl (Nat.le_of_ble_eq_true rfl) rfl dX4_plain_77 (fun S14 H locs hm hw => ?_)
      have hw : wV D A s.heap (rW cy aR S14) H locs := hw
      refine lv_aload_n hx hb dX4_plain_80 rfl (lv_at hl 0 rfl) ?_
      refine aV_I (As := []) (rest := []) hc hw (c_X4_next hm) lk_X4_60 rfl rfl (rm_ok (by omega) (by omega)) ⟨Nat.le_of_ble_eq_true rfl, Nat.le_of_ble_eq_true rfl⟩ hl.1 rfl (Nat.le_of_ble_eq_true rfl) rfl dX4_plain_81 (fun r16 _ H locs hm hw => ?_)
      have hw : wV D A s.heap (rW cy aR S14) H locs := hw
      refine lv_istore_n (lv' := [(3, .int r16), (0, .ref (aR 0)), (1, .int x1), (2, .int x2_2)]) hx hb dX4_plain_84 rfl hl (by decide) rfl (fun ls hl => ?_)
      refine lv_aload_n hx hb dX4_plain_85 rfl (lv_at hl 1 rfl) ?_
      refine lv_bipush (v := 60) hx hb dX4_plain_86 (by decide) ?_
      refine aV_I (As := [.int 60]) (rest := []) hc hw (c_X4_takes hm) lk_X4_56 rfl rfl (rm_ok (by omega) (by omega)) ⟨Nat.le_of_ble_eq_true rfl, Nat.le_of_ble_eq_true rfl⟩ hl.1 rfl (Nat.le_of_ble_eq_true rfl) rfl dX4_plain_88 (fun r18 S19 H locs hm hw => ?_)
      have hw : wV D A s.heap (rW cy aR S19) H locs := hw
      obtain ⟨J22, eJ22, hm⟩ := jn_e hm
      have hJ22 : ∀ (S21 : Ob) (_ : J22 S21) (H : Heap) (locs : List Loc) (ls : Array Slot), wV D A s.heap (rW cy aR S21) H locs → lv_has ls 4 [(0, .ref (aR 0)), (1, .int x1), (2, .int x2_2), (3, .int r16)] → W p l e (rmN (k + 1)) s m args below meth c H locs 0 0 (MQ below (eV D cy A (fun u : Ob => (rW cy aR u)) Q) args s (rmN (k + 1)).cells (rmN (k + 1)).slots A) (F0 m 112 ls []) := by
        intro S21 hm H locs ls hw hl
        rw [eJ22] at hm
        refine lv_aload_n hx hb dX4_plain_112 rfl (lv_at hl 0 rfl) ?_
        refine lv_iload_n hx hb dX4_plain_113 rfl (lv_at hl 1 rfl) ?_
        refine aV_V (As := [.int x1]) (rest := []) hc hw (c_X4_sum 12 _ _ _ hm) lk_X4_119 rfl rfl (rm_ok (by omega) (by omega)) ⟨Nat.le_of_ble_eq_true rfl, Nat.le_of_ble_eq_true rfl⟩ hl.1 rfl (Nat.le_of_ble_eq_true rfl) rfl dX4_plain_114 (fun S23 H locs hm hw => ?_)
        have hw : wV D A s.heap (rW cy aR S23) H locs := hw
        refine lv_aload_n hx hb dX4_plain_117 rfl (lv_at hl 0 rfl) ?_
        refine lv_iload_n hx hb dX4_plain_118 rfl (lv_at hl 3 rfl) ?_
        refine lv_iconst (v := 0) hx hb dX4_plain_119 (by decide) ?_
        refine aV_V (As := [.int r16, .int 0]) (rest := []) hc hw (c_X4_step hm) lk_X4_115 rfl rfl (rm_ok (by omega) (by omega)) ⟨Nat.le_of_ble_eq_true rfl, Nat.le_of_ble_eq_true rfl⟩ hl.1 rfl (Nat.le_of_ble_eq_true rfl) rfl dX4_plain_120 (fun S25 H locs hm hw => ?_)
        have hw : wV D A s.heap (rW cy aR S25) H locs := hw
        refine lv_goto (tgt := 130) hx hb dX4_plain_123 (by decide) ?_
        exact hJ8 _ hm _ _ _ hw (lv_sub hl [0, 2] rfl)
      refine lv_if_ne (tgt := 112) hx hb dX4_plain_91 (by decide) (fun c37 => ?_) (fun c37 => ?_)
      · have hm := hm.1 c37
        exact hJ22 _ hm _ _ _ hw (lv_sub hl [1, 2, 3, 0] rfl)
      · have hm := hm.2 c37
        refine lv_aload_n hx hb dX4_plain_94 rfl (lv_at hl 1 rfl) ?_
        refine lv_bipush (v := 62) hx hb dX4_plain_95 (by decide) ?_
        refine aV_I (As := [.int 62]) (rest := []) hc hw (c_X4_takes hm) lk_X4_56 rfl rfl (rm_ok (by omega) (by omega)) ⟨Nat.le_of_ble_eq_true rfl, Nat.le_of_ble_eq_true rfl⟩ hl.1 rfl (Nat.le_of_ble_eq_true rfl) rfl dX4_plain_97 (fun r27 S28 H locs hm hw => ?_)
        have hw : wV D A s.heap (rW cy aR S28) H locs := hw
        refine lv_if_ne (tgt := 112) hx hb dX4_plain_100 (by decide) (fun c36 => ?_) (fun c36 => ?_)
        · have hm := hm.1 c36
          exact hJ22 _ hm _ _ _ hw (lv_sub hl [1, 2, 3, 0] rfl)
        · have hm := hm.2 c36
          refine lv_aload_n hx hb dX4_plain_103 rfl (lv_at hl 1 rfl) ?_
          refine lv_bipush (v := 61) hx hb dX4_plain_104 (by decide) ?_
          refine aV_I (As := [.int 61]) (rest := []) hc hw (c_X4_takes hm) lk_X4_56 rfl rfl (rm_ok (by omega) (by omega)) ⟨Nat.le_of_ble_eq_true rfl, Nat.le_of_ble_eq_true rfl⟩ hl.1 rfl (Nat.le_of_ble_eq_true rfl) rfl dX4_plain_106 (fun r30 S31 H locs hm hw => ?_)
          have hw : wV D A s.heap (rW cy aR S31) H locs := hw
          refine lv_if_eq (tgt := 126) hx hb dX4_plain_109 (by decide) (fun c35 => ?_) (fun c35 => ?_)
          · have hm := hm.1 c35
            refine lv_aload_n hx hb dX4_plain_126 rfl (lv_at hl 1 rfl) ?_
            refine aV_V (As := []) (rest := []) hc hw (c_X4_stop hm) lk_X4_64 rfl rfl (rm_ok (by omega) (by omega)) ⟨Nat.le_of_ble_eq_true rfl, Nat.le_of_ble_eq_true rfl⟩ hl.1 rfl (Nat.le_of_ble_eq_true rfl) rfl dX4_plain_127 (fun S33 H locs hm hw => ?_)
            have hw : wV D A s.heap (rW cy aR S33) H locs := hw
            exact hJ8 _ hm _ _ _ hw (lv_sub hl [1, 3] rfl)
          · have hm := hm.2 c35
            exact hJ22 _ hm _ _ _ hw (lv_sub hl [1, 2, 3, 0] rfl)
    refine lv_icmp_ge (tgt := 75) hx hb dX4_plain_40 (by decide) (fun c50 => ?_) (fun c50 => ?_)
    · have hm := hm.1 c50
      exact hJ13 _ hm _ _ _ hw (lv_sub hl [0, 1, 2] rfl)
    · have hm := hm.2 c50
      refine lv_aload_n hx hb dX4_plain_43 rfl (lv_at hl 0 rfl) ?_
      refine lv_bipush (v := 40) hx hb dX4_plain_44 (by decide) ?_
      refine aV_I (As := [.int 40]) (rest := []) hc hw (c_X4_takes hm) lk_X4_56 rfl rfl (rm_ok (by omega) (by omega)) ⟨Nat.le_of_ble_eq_true rfl, Nat.le_of_ble_eq_true rfl⟩ hl.1 rfl (Nat.le_of_ble_eq_true rfl) rfl dX4_plain_46 (fun r38 S39 H locs hm hw => ?_)
      have hw : wV D A s.heap (rW cy aR S39) H locs := hw
      refine lv_if_eq (tgt := 75) hx hb dX4_plain_49 (by decide) (fun c49 => ?_) (fun c49 => ?_)
      · have hm := hm.1 c49
        exact hJ13 _ hm _ _ _ hw (lv_sub hl [0, 1, 2] rfl)
      · have hm := hm.2 c49
        refine lv_aload_n hx hb dX4_plain_52 rfl (lv_at hl 0 rfl) ?_
        refine lv_iload_n hx hb dX4_plain_53 rfl (lv_at hl 1 rfl) ?_
        refine lv_iconst (v := 1) hx hb dX4_plain_54 (by decide) ?_
        refine lv_iadd hx hb dX4_plain_55 ?_
        refine aV_V (As := [.int (x1 + 1)]) (rest := []) hc hw (hrec hm) lk_X4_123 rfl rfl (rm_ok (by omega) (by omega)) ⟨Nat.le_of_ble_eq_true rfl, Nat.le_of_ble_eq_true rfl⟩ hl.1 rfl (Nat.le_of_ble_eq_true rfl) rfl dX4_plain_56 (fun S41 H locs hm hw => ?_)
        have hw : wV D A s.heap (rW cy aR S41) H locs := hw
        refine lv_aload_n hx hb dX4_plain_59 rfl (lv_at hl 0 rfl) ?_
        refine lv_bipush (v := 41) hx hb dX4_plain_60 (by decide) ?_
        refine aV_I (As := [.int 41]) (rest := []) hc hw (c_X4_takes hm) lk_X4_56 rfl rfl (rm_ok (by omega) (by omega)) ⟨Nat.le_of_ble_eq_true rfl, Nat.le_of_ble_eq_true rfl⟩ hl.1 rfl (Nat.le_of_ble_eq_true rfl) rfl dX4_plain_62 (fun r43 S44 H locs hm hw => ?_)
        have hw : wV D A s.heap (rW cy aR S44) H locs := hw
        refine lv_if_ne (tgt := 130) hx hb dX4_plain_65 (by decide) (fun c48 => ?_) (fun c48 => ?_)
        · have hm := hm.1 c48
          exact hJ8 _ hm _ _ _ hw (lv_sub hl [0, 2] rfl)
        · have hm := hm.2 c48
          refine lv_aload_n hx hb dX4_plain_68 rfl (lv_at hl 0 rfl) ?_
          refine aV_V (As := []) (rest := []) hc hw (c_X4_stop hm) lk_X4_64 rfl rfl (rm_ok (by omega) (by omega)) ⟨Nat.le_of_ble_eq_true rfl, Nat.le_of_ble_eq_true rfl⟩ hl.1 rfl (Nat.le_of_ble_eq_true rfl) rfl dX4_plain_69 (fun S46 H locs hm hw => ?_)
          have hw : wV D A s.heap (rW cy aR S46) H locs := hw
          refine lv_goto (tgt := 130) hx hb dX4_plain_72 (by decide) ?_
          exact hJ8 _ hm _ _ _ hw (lv_sub hl [0, 2] rfl)
  refine lv_icmp_ge (tgt := 37) hx hb dX4_plain_8 (by decide) (fun c58 => ?_) (fun c58 => ?_)
  · have hm := hm.1 c58
    exact hJ6 _ hm _ _ _ hw (lv_sub hl [2, 3, 1] rfl)
  · have hm := hm.2 c58
    refine lv_aload_n hx hb dX4_plain_11 rfl (lv_at hl 2 rfl) ?_
    refine lv_sipush (v := 262) hx hb dX4_plain_12 (by decide) ?_
    refine aV_I (As := [.int 262]) (rest := []) hc hw (c_X4_takes hm) lk_X4_56 rfl rfl (rm_ok (by omega) (by omega)) ⟨Nat.le_of_ble_eq_true rfl, Nat.le_of_ble_eq_true rfl⟩ hl.1 rfl (Nat.le_of_ble_eq_true rfl) rfl dX4_plain_15 (fun r51 S52 H locs hm hw => ?_)
    have hw : wV D A s.heap (rW cy aR S52) H locs := hw
    refine lv_if_eq (tgt := 37) hx hb dX4_plain_18 (by decide) (fun c57 => ?_) (fun c57 => ?_)
    · have hm := hm.1 c57
      exact hJ6 _ hm _ _ _ hw (lv_sub hl [2, 3, 1] rfl)
    · have hm := hm.2 c57
      refine lv_iload_n hx hb dX4_plain_21 rfl (lv_at hl 1 rfl) ?_
      refine lv_if_ne (tgt := 29) hx hb dX4_plain_22 (by decide) (fun c56 => ?_) (fun c56 => ?_)
      · have hm := hm.1 c56
        refine lv_iconst (v := 0) hx hb dX4_plain_29 (by decide) ?_
        refine lv_istore_n (lv' := [(2, .int 0), (3, .int x3_1), (0, .ref (aR 0)), (1, .int x1)]) hx hb dX4_plain_30 rfl hl (by decide) rfl (fun ls hl => ?_)
        obtain ⟨v54, e_v54⟩ : ∃ z : Int32, z = x3_1 + 1 := ⟨_, rfl⟩
        have hm := hm v54 e_v54
        refine lv_iinc (v := v54) (lv' := [(3, .int v54), (2, .int 0), (0, .ref (aR 0)), (1, .int x1)]) hx hb dX4_plain_31 hl (k := 1) rfl (by rw [e_v54]; rfl) (by decide) rfl (fun ls hl => ?_)
        refine lv_goto (tgt := 4) hx hb dX4_plain_34 (by decide) ?_
        exact ih4 _ _ _ hm _ _ _ hw (lv_sub hl [0, 1, 2, 3] rfl)
      · have hm := hm.2 c56
        refine lv_iconst (v := 1) hx hb dX4_plain_25 (by decide) ?_
        refine lv_goto (tgt := 30) hx hb dX4_plain_26 (by decide) ?_
        refine lv_istore_n (lv' := [(2, .int 1), (3, .int x3_1), (0, .ref (aR 0)), (1, .int x1)]) hx hb dX4_plain_30 rfl hl (by decide) rfl (fun ls hl => ?_)
        obtain ⟨v55, e_v55⟩ : ∃ z : Int32, z = x3_1 + 1 := ⟨_, rfl⟩
        have hm := hm v55 e_v55
        refine lv_iinc (v := v55) (lv' := [(3, .int v55), (2, .int 1), (0, .ref (aR 0)), (1, .int x1)]) hx hb dX4_plain_31 hl (k := 1) rfl (by rw [e_v55]; rfl) (by decide) rfl (fun ls hl => ?_)
        refine lv_goto (tgt := 4) hx hb dX4_plain_34 (by decide) ?_
        exact ih4 _ _ _ hm _ _ _ hw (lv_sub hl [0, 1, 2, 3] rfl)
set_option maxHeartbeats 4000000 in
set_option maxRecDepth 100000 in
theorem c_X4_test {l : Launch} {D : va_G} {cy : Nat → ClassId} {aR : Nat → Nat} : ∀ (d : Nat) (SR : Ob) (x1 : Int32) (Q : (Ob → Prop)) (hm : w_X4_test d SR x1 Q), CtV l yX4_test cX4_test 5 none (rmN (50 + 4 * d)) D cy [.ref (aR 0), .int x1] (rW cy aR SR) (fun u : Ob => (rW cy aR u)) Q
  | 0, _, _, _, hm => hm.elim
  | d + 1, SR, x1, Q, hm => by
    unfold w_X4_test at hm
    refine CtV.ofW (by decide) (Nat.le_of_ble_eq_true rfl) ?_
    intro p e s m args below meth c A ls hc hnm hw hl
    have hx := hc.1.1
    have hb := hc.1.2.1
    have hown := hc.1.2.2.2.1
    have hts := hc.1.2.2.2.2
    have hl : lv_has ls 5 [(0, .ref (aR 0)), (1, .int x1)] := hl
    obtain ⟨H, hH⟩ : ∃ z, z = s.heap := ⟨_, rfl⟩
    obtain ⟨locs, hLc⟩ : ∃ z : List Loc, z = [] := ⟨_, rfl⟩
    have hw : wV D A s.heap (rW cy aR SR) H locs := by rw [hH, hLc]; exact hw
    have hgo : W p l e (rmN (50 + 4 * (d + 1))) s m args below meth c H locs 0 0 (MQ below (eV D cy A (fun u : Ob => (rW cy aR u)) Q) args s (rmN (50 + 4 * (d + 1))).cells (rmN (50 + 4 * (d + 1))).slots A) (F0 m 0 ls []) := ?hgo
    · rw [hH, hLc] at hgo; exact hgo
    refine lv_iconst (v := (-1)) hx hb dX4_test_0 (by decide) ?_
    refine lv_istore_n (lv' := [(2, .int (-1)), (0, .ref (aR 0)), (1, .int x1)]) hx hb dX4_test_1 rfl hl (by decide) rfl (fun ls hl => ?_)
    refine lv_aload_n hx hb dX4_test_2 rfl (lv_at hl 1 rfl) ?_
    refine lv_iload_n hx hb dX4_test_3 rfl (lv_at hl 2 rfl) ?_
    refine aV_V (As := [.int x1]) (rest := []) hc hw (c_X4_plain (by omega) (fun h => c_X4_test d _ _ _ h) hm) lk_X4_126 rfl rfl (rm_ok (by omega) (by omega)) ⟨Nat.le_of_ble_eq_true rfl, Nat.le_of_ble_eq_true rfl⟩ hl.1 rfl (Nat.le_of_ble_eq_true rfl) rfl dX4_test_4 (fun S1 H locs hm hw => ?_)
    have hw : wV D A s.heap (rW cy aR S1) H locs := hw
    refine lv_iconst (v := 0) hx hb dX4_test_7 (by decide) ?_
    refine lv_istore_n (lv' := [(3, .int 0), (2, .int (-1)), (0, .ref (aR 0)), (1, .int x1)]) hx hb dX4_test_8 rfl hl (by decide) rfl (fun ls hl => ?_)
    refine wl3_ind (G := fun (x3_3 : Int32) (x2_4 : Int32) (S5 : Ob) => ∀ (H : Heap) (locs : List Loc) (ls : Array Slot), wV D A s.heap (rW cy aR S5) H locs → lv_has ls 5 [(3, .int x3_3), (2, .int x2_4), (0, .ref (aR 0)), (1, .int x1)] → W p l e (rmN (50 + 4 * (d + 1))) s m args below meth c H locs 0 0 (MQ below (eV D cy A (fun u : Ob => (rW cy aR u)) Q) args s (rmN (50 + 4 * (d + 1))).cells (rmN (50 + 4 * (d + 1))).slots A) (F0 m 9 ls [])) ?_ _ _ _ hm H locs ls hw (lv_sub hl [0, 1, 2, 3] rfl)
    intro L6 ih6 x3_3 x2_4 S5 hm H locs ls hw hl
    refine lv_iload_n hx hb dX4_test_9 rfl (lv_at hl 0 rfl) ?_
    refine lv_sipush (v := 400) hx hb dX4_test_10 (by decide) ?_
    obtain ⟨J8, eJ8, hm⟩ := jn_e hm
    have hJ8 : ∀ (S7 : Ob) (_ : J8 S7) (H : Heap) (locs : List Loc) (ls : Array Slot), wV D A s.heap (rW cy aR S7) H locs → lv_has ls 5 [(0, .ref (aR 0)), (2, .int x2_4)] → W p l e (rmN (50 + 4 * (d + 1))) s m args below meth c H locs 0 0 (MQ below (eV D cy A (fun u : Ob => (rW cy aR u)) Q) args s (rmN (50 + 4 * (d + 1))).cells (rmN (50 + 4 * (d + 1))).slots A) (F0 m 101 ls []) := by
      intro S7 hm H locs ls hw hl
      rw [eJ8] at hm
      refine lv_aload_n hx hb dX4_test_101 rfl (lv_at hl 0 rfl) ?_
      refine lv_iload_n hx hb dX4_test_102 rfl (lv_at hl 1 rfl) ?_
      refine aV_V (As := [.int x2_4]) (rest := []) hc hw (c_X4_land hm) lk_X4_129 rfl rfl (rm_ok (by omega) (by omega)) ⟨Nat.le_of_ble_eq_true rfl, Nat.le_of_ble_eq_true rfl⟩ hl.1 rfl (Nat.le_of_ble_eq_true rfl) rfl dX4_test_103 (fun S9 H locs hm hw => ?_)
      have hw : wV D A s.heap (rW cy aR S9) H locs := hw
      exact retV (u := S9) hc hw hm dX4_test_106
    refine lv_icmp_ge (tgt := 101) hx hb dX4_test_13 (by decide) (fun c36 => ?_) (fun c36 => ?_)
    · have hm := hm.1 c36
      exact hJ8 _ hm _ _ _ hw (lv_sub hl [2, 1] rfl)
    · have hm := hm.2 c36
      refine lv_aload_n hx hb dX4_test_16 rfl (lv_at hl 2 rfl) ?_
      refine gF (k := 11) hc hw inX4 rfl 0 rfl (by decide) (gm 275 (by decide +kernel) rfl) rfl dX4_test_17 ?_
      refine lv_iconst (v := (-1)) hx hb dX4_test_20 (by decide) ?_
      refine lv_icmp_ne (tgt := 101) hx hb dX4_test_21 (by decide) (fun c35 => ?_) (fun c35 => ?_)
      · have hm := hm.1 c35
        exact hJ8 _ hm _ _ _ hw (lv_sub hl [2, 1] rfl)
      · have hm := hm.2 c35
        refine lv_aload_n hx hb dX4_test_24 rfl (lv_at hl 2 rfl) ?_
        refine lv_sipush (v := 261) hx hb dX4_test_25 (by decide) ?_
        refine aV_I (As := [.int 261]) (rest := []) hc hw (c_X4_takes hm) lk_X4_56 rfl rfl (rm_ok (by omega) (by omega)) ⟨Nat.le_of_ble_eq_true rfl, Nat.le_of_ble_eq_true rfl⟩ hl.1 rfl (Nat.le_of_ble_eq_true rfl) rfl dX4_test_28 (fun r11 S12 H locs hm hw => ?_)
        have hw : wV D A s.heap (rW cy aR S12) H locs := hw
        refine lv_if_eq (tgt := 62) hx hb dX4_test_31 (by decide) (fun c34 => ?_) (fun c34 => ?_)
        · have hm := hm.1 c34
          refine lv_aload_n hx hb dX4_test_62 rfl (lv_at hl 2 rfl) ?_
          refine lv_sipush (v := 260) hx hb dX4_test_63 (by decide) ?_
          refine aV_I (As := [.int 260]) (rest := []) hc hw (c_X4_takes hm) lk_X4_56 rfl rfl (rm_ok (by omega) (by omega)) ⟨Nat.le_of_ble_eq_true rfl, Nat.le_of_ble_eq_true rfl⟩ hl.1 rfl (Nat.le_of_ble_eq_true rfl) rfl dX4_test_66 (fun r14 S15 H locs hm hw => ?_)
          have hw : wV D A s.heap (rW cy aR S15) H locs := hw
          refine lv_if_eq (tgt := 101) hx hb dX4_test_69 (by decide) (fun c25 => ?_) (fun c25 => ?_)
          · have hm := hm.1 c25
            exact hJ8 _ hm _ _ _ hw (lv_sub hl [2, 1] rfl)
          · have hm := hm.2 c25
            refine lv_aload_n hx hb dX4_test_72 rfl (lv_at hl 2 rfl) ?_
            refine lv_iload_n hx hb dX4_test_73 rfl (lv_at hl 1 rfl) ?_
            refine aV_V (As := [.int x2_4]) (rest := []) hc hw (c_X4_land hm) lk_X4_129 rfl rfl (rm_ok (by omega) (by omega)) ⟨Nat.le_of_ble_eq_true rfl, Nat.le_of_ble_eq_true rfl⟩ hl.1 rfl (Nat.le_of_ble_eq_true rfl) rfl dX4_test_74 (fun S17 H locs hm hw => ?_)
            have hw : wV D A s.heap (rW cy aR S17) H locs := hw
            refine lv_aload_n hx hb dX4_test_77 rfl (lv_at hl 2 rfl) ?_
            refine lv_sipush (v := 260) hx hb dX4_test_78 (by decide) ?_
            refine lv_iconst (v := 0) hx hb dX4_test_81 (by decide) ?_
            refine aV_V (As := [.int 260, .int 0]) (rest := []) hc hw (c_X4_step hm) lk_X4_115 rfl rfl (rm_ok (by omega) (by omega)) ⟨Nat.le_of_ble_eq_true rfl, Nat.le_of_ble_eq_true rfl⟩ hl.1 rfl (Nat.le_of_ble_eq_true rfl) rfl dX4_test_82 (fun S19 H locs hm hw => ?_)
            have hw : wV D A s.heap (rW cy aR S19) H locs := hw
            refine lv_aload_n hx hb dX4_test_85 rfl (lv_at hl 2 rfl) ?_
            refine gF (k := 9) hc hw inX4 rfl 0 rfl (by decide) (gm 273 (by decide +kernel) rfl) rfl dX4_test_86 ?_
            refine lv_topi (fun v21 e_v21 => ?_)
            have hm := hm v21 e_v21
            refine lv_istore_n (lv' := [(2, .int v21), (3, .int x3_3), (0, .ref (aR 0)), (1, .int x1)]) hx hb dX4_test_89 rfl hl (by decide) rfl (fun ls hl => ?_)
            refine lv_aload_n hx hb dX4_test_90 rfl (lv_at hl 2 rfl) ?_
            refine lv_iload_n hx hb dX4_test_91 rfl (lv_at hl 3 rfl) ?_
            refine aV_V (As := [.int x1]) (rest := []) hc hw (c_X4_plain (by omega) (fun h => c_X4_test d _ _ _ h) hm) lk_X4_126 rfl rfl (rm_ok (by omega) (by omega)) ⟨Nat.le_of_ble_eq_true rfl, Nat.le_of_ble_eq_true rfl⟩ hl.1 rfl (Nat.le_of_ble_eq_true rfl) rfl dX4_test_92 (fun S22 H locs hm hw => ?_)
            have hw : wV D A s.heap (rW cy aR S22) H locs := hw
            obtain ⟨v24, e_v24⟩ : ∃ z : Int32, z = x3_3 + 1 := ⟨_, rfl⟩
            have hm := hm v24 e_v24
            refine lv_iinc (v := v24) (lv' := [(3, .int v24), (2, .int v21), (0, .ref (aR 0)), (1, .int x1)]) hx hb dX4_test_95 hl (k := 1) rfl (by rw [e_v24]; rfl) (by decide) rfl (fun ls hl => ?_)
            refine lv_goto (tgt := 9) hx hb dX4_test_98 (by decide) ?_
            exact ih6 _ _ _ hm _ _ _ hw (lv_sub hl [0, 1, 2, 3] rfl)
        · have hm := hm.2 c34
          refine lv_aload_n hx hb dX4_test_34 rfl (lv_at hl 2 rfl) ?_
          refine lv_sipush (v := 261) hx hb dX4_test_35 (by decide) ?_
          refine lv_iconst (v := 0) hx hb dX4_test_38 (by decide) ?_
          refine aV_V (As := [.int 261, .int 0]) (rest := []) hc hw (c_X4_step hm) lk_X4_115 rfl rfl (rm_ok (by omega) (by omega)) ⟨Nat.le_of_ble_eq_true rfl, Nat.le_of_ble_eq_true rfl⟩ hl.1 rfl (Nat.le_of_ble_eq_true rfl) rfl dX4_test_39 (fun S26 H locs hm hw => ?_)
          have hw : wV D A s.heap (rW cy aR S26) H locs := hw
          refine lv_aload_n hx hb dX4_test_42 rfl (lv_at hl 2 rfl) ?_
          refine gF (k := 9) hc hw inX4 rfl 0 rfl (by decide) (gm 273 (by decide +kernel) rfl) rfl dX4_test_43 ?_
          refine lv_topi (fun v28 e_v28 => ?_)
          have hm := hm v28 e_v28
          refine lv_istore (lv' := [(4, .int v28), (3, .int x3_3), (2, .int x2_4), (0, .ref (aR 0)), (1, .int x1)]) hx hb dX4_test_46 hl (by decide) rfl (fun ls hl => ?_)
          refine lv_aload_n hx hb dX4_test_48 rfl (lv_at hl 3 rfl) ?_
          refine lv_iload_n hx hb dX4_test_49 rfl (lv_at hl 4 rfl) ?_
          refine aV_V (As := [.int x1]) (rest := []) hc hw (c_X4_plain (by omega) (fun h => c_X4_test d _ _ _ h) hm) lk_X4_126 rfl rfl (rm_ok (by omega) (by omega)) ⟨Nat.le_of_ble_eq_true rfl, Nat.le_of_ble_eq_true rfl⟩ hl.1 rfl (Nat.le_of_ble_eq_true rfl) rfl dX4_test_50 (fun S29 H locs hm hw => ?_)
          have hw : wV D A s.heap (rW cy aR S29) H locs := hw
          refine lv_aload_n hx hb dX4_test_53 rfl (lv_at hl 3 rfl) ?_
          refine lv_iload hx hb dX4_test_54 (lv_at hl 0 rfl) ?_
          refine aV_V (As := [.int v28]) (rest := []) hc hw (c_X4_land hm) lk_X4_129 rfl rfl (rm_ok (by omega) (by omega)) ⟨Nat.le_of_ble_eq_true rfl, Nat.le_of_ble_eq_true rfl⟩ hl.1 rfl (Nat.le_of_ble_eq_true rfl) rfl dX4_test_56 (fun S31 H locs hm hw => ?_)
          have hw : wV D A s.heap (rW cy aR S31) H locs := hw
          refine lv_goto (tgt := 95) hx hb dX4_test_59 (by decide) ?_
          obtain ⟨v33, e_v33⟩ : ∃ z : Int32, z = x3_3 + 1 := ⟨_, rfl⟩
          have hm := hm v33 e_v33
          refine lv_iinc (v := v33) (lv' := [(3, .int v33), (4, .int v28), (2, .int x2_4), (0, .ref (aR 0)), (1, .int x1)]) hx hb dX4_test_95 hl (k := 1) rfl (by rw [e_v33]; rfl) (by decide) rfl (fun ls hl => ?_)
          refine lv_goto (tgt := 9) hx hb dX4_test_98 (by decide) ?_
          exact ih6 _ _ _ hm _ _ _ hw (lv_sub hl [0, 2, 3, 4] rfl)
set_option maxHeartbeats 4000000 in
set_option maxRecDepth 100000 in
theorem c_X4_clause {l : Launch} {D : va_G} {cy : Nat → ClassId} {aR : Nat → Nat} {SR : Ob} {Q : Ob → Prop} (hm : w_X4_clause SR Q) : CtV l yX4_clause cX4_clause 2 none (rmN 99) D cy [.ref (aR 0)] (rW cy aR SR) (fun u : Ob => (rW cy aR u)) Q := by
  refine CtV.ofW (by decide) (Nat.le_of_ble_eq_true rfl) ?_
  intro p e s m args below meth c A ls hc hnm hw hl
  have hx := hc.1.1
  have hb := hc.1.2.1
  have hown := hc.1.2.2.2.1
  have hts := hc.1.2.2.2.2
  have hl : lv_has ls 2 [(0, .ref (aR 0))] := hl
  obtain ⟨H, hH⟩ : ∃ z, z = s.heap := ⟨_, rfl⟩
  obtain ⟨locs, hLc⟩ : ∃ z : List Loc, z = [] := ⟨_, rfl⟩
  have hw : wV D A s.heap (rW cy aR SR) H locs := by rw [hH, hLc]; exact hw
  have hgo : W p l e (rmN 99) s m args below meth c H locs 0 0 (MQ below (eV D cy A (fun u : Ob => (rW cy aR u)) Q) args s (rmN 99).cells (rmN 99).slots A) (F0 m 0 ls []) := ?hgo
  · rw [hH, hLc] at hgo; exact hgo
  refine lv_aload_n hx hb dX4_clause_0 rfl (lv_at hl 0 rfl) ?_
  refine aV_I (As := []) (rest := []) hc hw (c_X4_next hm) lk_X4_60 rfl rfl ⟨Nat.le_of_ble_eq_true rfl, Nat.le_of_ble_eq_true rfl⟩ ⟨Nat.le_of_ble_eq_true rfl, Nat.le_of_ble_eq_true rfl⟩ hl.1 rfl (Nat.le_of_ble_eq_true rfl) rfl dX4_clause_1 (fun r1 _ H locs hm hw => ?_)
  have hw : wV D A s.heap (rW cy aR SR) H locs := hw
  refine lv_istore_n (lv' := [(1, .int r1), (0, .ref (aR 0))]) hx hb dX4_clause_4 rfl hl (by decide) rfl (fun ls hl => ?_)
  refine lv_aload_n hx hb dX4_clause_5 rfl (lv_at hl 1 rfl) ?_
  refine gF (k := 6) hc hw inX4 rfl 0 rfl (by decide) (gm 270 (by decide +kernel) rfl) rfl dX4_clause_6 ?_
  refine lv_bipush (v := 12) hx hb dX4_clause_9 (by decide) ?_
  obtain ⟨J4, eJ4, hm⟩ := jn_e hm
  have hJ4 : ∀ (z3 : Unit) (_ : J4 z3) (H : Heap) (locs : List Loc) (ls : Array Slot), wV D A s.heap (rW cy aR SR) H locs → lv_has ls 2 [(0, .ref (aR 0))] → W p l e (rmN 99) s m args below meth c H locs 0 0 (MQ below (eV D cy A (fun u : Ob => (rW cy aR u)) Q) args s (rmN 99).cells (rmN 99).slots A) (F0 m 28 ls []) := by
    intro z3 hm H locs ls hw hl
    rw [eJ4] at hm
    refine lv_aload_n hx hb dX4_clause_28 rfl (lv_at hl 0 rfl) ?_
    refine aV_V (As := []) (rest := []) hc hw (c_X4_stop hm) lk_X4_64 rfl rfl ⟨Nat.le_of_ble_eq_true rfl, Nat.le_of_ble_eq_true rfl⟩ ⟨Nat.le_of_ble_eq_true rfl, Nat.le_of_ble_eq_true rfl⟩ hl.1 rfl (Nat.le_of_ble_eq_true rfl) rfl dX4_clause_29 (fun S5 H locs hm hw => ?_)
    have hw : wV D A s.heap (rW cy aR S5) H locs := hw
    exact retV (u := S5) hc hw hm dX4_clause_32
  refine lv_icmp_ge (tgt := 28) hx hb dX4_clause_11 (by decide) (fun c32 => ?_) (fun c32 => ?_)
  · have hm := hm.1 c32
    exact hJ4 _ hm _ _ _ hw (lv_sub hl [1] rfl)
  · have hm := hm.2 c32
    refine lv_iload_n hx hb dX4_clause_14 rfl (lv_at hl 0 rfl) ?_
    refine lv_sipush (v := 256) hx hb dX4_clause_15 (by decide) ?_
    refine lv_icmp_lt (tgt := 28) hx hb dX4_clause_18 (by decide) (fun c31 => ?_) (fun c31 => ?_)
    · have hm := hm.1 c31
      exact hJ4 _ hm _ _ _ hw (lv_sub hl [1] rfl)
    · have hm := hm.2 c31
      refine lv_iload_n hx hb dX4_clause_21 rfl (lv_at hl 0 rfl) ?_
      refine lv_sipush (v := 258) hx hb dX4_clause_22 (by decide) ?_
      refine lv_icmp_le (tgt := 33) hx hb dX4_clause_25 (by decide) (fun c30 => ?_) (fun c30 => ?_)
      · have hm := hm.1 c30
        refine lv_aload_n hx hb dX4_clause_33 rfl (lv_at hl 1 rfl) ?_
        refine lv_dup hx hb dX4_clause_34 rfl ?_
        refine gF (k := 3) hc hw inX4 rfl 0 rfl (by decide) (gm 267 (by decide +kernel) rfl) rfl dX4_clause_35 ?_
        refine lv_iconst (v := 1) hx hb dX4_clause_38 (by decide) ?_
        refine lv_iadd hx hb dX4_clause_39 ?_
        refine pF (k := 3) (ty := .int) hc hw inX4 tyX4_ok nmX4 rfl 0 rfl (by decide) (gm 267 (by decide +kernel) rfl) rfl (by decide +kernel) rfl rfl (Nat.le_of_ble_eq_true rfl) dX4_clause_40 (fun H locs hw => ?_)
        obtain ⟨S7, e_S7⟩ : ∃ z : Ob, z = uS SR 3 ((SR.1 3) + 1) := ⟨_, rfl⟩
        have hm := hm S7 e_S7
        have hw : wV D A s.heap (rW cy aR S7) H locs := by rw [e_S7]; exact hw
        refine lv_iload_n hx hb dX4_clause_43 rfl (lv_at hl 0 rfl) ?_
        refine lv_sipush (v := 258) hx hb dX4_clause_44 (by decide) ?_
        obtain ⟨J9, eJ9, hm⟩ := jn_e hm
        have hJ9 : ∀ (S8 : Ob) (_ : J9 S8) (H : Heap) (locs : List Loc) (ls : Array Slot), wV D A s.heap (rW cy aR S8) H locs → lv_has ls 2 [(0, .ref (aR 0)), (1, .int r1)] → W p l e (rmN 99) s m args below meth c H locs 0 0 (MQ below (eV D cy A (fun u : Ob => (rW cy aR u)) Q) args s (rmN 99).cells (rmN 99).slots A) (F0 m 66 ls []) := by
          intro S8 hm H locs ls hw hl
          rw [eJ9] at hm
          refine lv_aload_n hx hb dX4_clause_66 rfl (lv_at hl 0 rfl) ?_
          refine lv_sipush (v := 259) hx hb dX4_clause_67 (by decide) ?_
          refine aV_I (As := [.int 259]) (rest := []) hc hw (c_X4_takes hm) lk_X4_56 rfl rfl ⟨Nat.le_of_ble_eq_true rfl, Nat.le_of_ble_eq_true rfl⟩ ⟨Nat.le_of_ble_eq_true rfl, Nat.le_of_ble_eq_true rfl⟩ hl.1 rfl (Nat.le_of_ble_eq_true rfl) rfl dX4_clause_70 (fun r10 S11 H locs hm hw => ?_)
          have hw : wV D A s.heap (rW cy aR S11) H locs := hw
          obtain ⟨J14, eJ14, hm⟩ := jn_e hm
          have hJ14 : ∀ (S13 : Ob) (_ : J14 S13) (H : Heap) (locs : List Loc) (ls : Array Slot), wV D A s.heap (rW cy aR S13) H locs → lv_has ls 2 [(0, .ref (aR 0)), (1, .int r1)] → W p l e (rmN 99) s m args below meth c H locs 0 0 (MQ below (eV D cy A (fun u : Ob => (rW cy aR u)) Q) args s (rmN 99).cells (rmN 99).slots A) (F0 m 92 ls []) := by
            intro S13 hm H locs ls hw hl
            rw [eJ14] at hm
            refine lv_aload_n hx hb dX4_clause_92 rfl (lv_at hl 0 rfl) ?_
            refine gF (k := 4) hc hw inX4 rfl 0 rfl (by decide) (gm 268 (by decide +kernel) rfl) rfl dX4_clause_93 ?_
            refine lv_aload_n hx hb dX4_clause_96 rfl (lv_at hl 0 rfl) ?_
            refine gF (k := 6) hc hw inX4 rfl 0 rfl (by decide) (gm 270 (by decide +kernel) rfl) rfl dX4_clause_97 ?_
            refine lv_iload_n hx hb dX4_clause_100 rfl (lv_at hl 1 rfl) ?_
            obtain ⟨c15, hm⟩ := hm
            refine sI hc hw 4 rfl c15 rfl dX4_clause_101 (fun H locs hw => ?_)
            obtain ⟨S16, e_S16⟩ : ∃ z : Ob, z = uA S13 4 (Int32.toNatClampNeg (S13.1 6)) r1 := ⟨_, rfl⟩
            have hm := hm S16 e_S16
            have hw : wV D A s.heap (rW cy aR S16) H locs := by rw [e_S16]; exact hw
            refine lv_aload_n hx hb dX4_clause_102 rfl (lv_at hl 0 rfl) ?_
            refine gF (k := 5) hc hw inX4 rfl 0 rfl (by decide) (gm 269 (by decide +kernel) rfl) rfl dX4_clause_103 ?_
            refine lv_aload_n hx hb dX4_clause_106 rfl (lv_at hl 0 rfl) ?_
            refine gF (k := 6) hc hw inX4 rfl 0 rfl (by decide) (gm 270 (by decide +kernel) rfl) rfl dX4_clause_107 ?_
            refine lv_aload_n hx hb dX4_clause_110 rfl (lv_at hl 0 rfl) ?_
            refine gF (k := 9) hc hw inX4 rfl 0 rfl (by decide) (gm 273 (by decide +kernel) rfl) rfl dX4_clause_111 ?_
            obtain ⟨c17, hm⟩ := hm
            refine sI hc hw 5 rfl c17 rfl dX4_clause_114 (fun H locs hw => ?_)
            obtain ⟨S18, e_S18⟩ : ∃ z : Ob, z = uA S16 5 (Int32.toNatClampNeg (S16.1 6)) (S16.1 9) := ⟨_, rfl⟩
            have hm := hm S18 e_S18
            have hw : wV D A s.heap (rW cy aR S18) H locs := by rw [e_S18]; exact hw
            refine lv_aload_n hx hb dX4_clause_115 rfl (lv_at hl 0 rfl) ?_
            refine lv_dup hx hb dX4_clause_116 rfl ?_
            refine gF (k := 6) hc hw inX4 rfl 0 rfl (by decide) (gm 270 (by decide +kernel) rfl) rfl dX4_clause_117 ?_
            refine lv_iconst (v := 1) hx hb dX4_clause_120 (by decide) ?_
            refine lv_iadd hx hb dX4_clause_121 ?_
            refine pF (k := 6) (ty := .int) hc hw inX4 tyX4_ok nmX4 rfl 0 rfl (by decide) (gm 270 (by decide +kernel) rfl) rfl (by decide +kernel) rfl rfl (Nat.le_of_ble_eq_true rfl) dX4_clause_122 (fun H locs hw => ?_)
            obtain ⟨S19, e_S19⟩ : ∃ z : Ob, z = uS S18 6 ((S18.1 6) + 1) := ⟨_, rfl⟩
            have hm := hm S19 e_S19
            have hw : wV D A s.heap (rW cy aR S19) H locs := by rw [e_S19]; exact hw
            exact retV (u := S19) hc hw hm dX4_clause_125
          refine lv_if_eq (tgt := 84) hx hb dX4_clause_73 (by decide) (fun c24 => ?_) (fun c24 => ?_)
          · have hm := hm.1 c24
            refine lv_aload_n hx hb dX4_clause_84 rfl (lv_at hl 0 rfl) ?_
            refine lv_sipush (v := 281) hx hb dX4_clause_85 (by decide) ?_
            refine lv_iconst (v := 1) hx hb dX4_clause_88 (by decide) ?_
            refine aV_V (As := [.int 281, .int 1]) (rest := []) hc hw (c_X4_step hm) lk_X4_115 rfl rfl ⟨Nat.le_of_ble_eq_true rfl, Nat.le_of_ble_eq_true rfl⟩ ⟨Nat.le_of_ble_eq_true rfl, Nat.le_of_ble_eq_true rfl⟩ hl.1 rfl (Nat.le_of_ble_eq_true rfl) rfl dX4_clause_89 (fun S20 H locs hm hw => ?_)
            have hw : wV D A s.heap (rW cy aR S20) H locs := hw
            exact hJ14 _ hm _ _ _ hw (lv_sub hl [0, 1] rfl)
          · have hm := hm.2 c24
            refine lv_aload_n hx hb dX4_clause_76 rfl (lv_at hl 0 rfl) ?_
            refine lv_iconst (v := 0) hx hb dX4_clause_77 (by decide) ?_
            refine aV_V (As := [.int 0]) (rest := []) hc hw (c_X4_test 12 _ _ _ hm) lk_X4_123 rfl rfl (rm_ok (by omega) (by omega)) ⟨Nat.le_of_ble_eq_true rfl, Nat.le_of_ble_eq_true rfl⟩ hl.1 rfl (Nat.le_of_ble_eq_true rfl) rfl dX4_clause_78 (fun S22 H locs hm hw => ?_)
            have hw : wV D A s.heap (rW cy aR S22) H locs := hw
            refine lv_goto (tgt := 92) hx hb dX4_clause_81 (by decide) ?_
            exact hJ14 _ hm _ _ _ hw (lv_sub hl [0, 1] rfl)
        refine lv_icmp_ne (tgt := 61) hx hb dX4_clause_47 (by decide) (fun c29 => ?_) (fun c29 => ?_)
        · have hm := hm.1 c29
          refine lv_aload_n hx hb dX4_clause_61 rfl (lv_at hl 1 rfl) ?_
          refine lv_iconst (v := 0) hx hb dX4_clause_62 (by decide) ?_
          refine aV_V (As := [.int 0]) (rest := []) hc hw (c_X4_sum 12 _ _ _ hm) lk_X4_119 rfl rfl (rm_ok (by omega) (by omega)) ⟨Nat.le_of_ble_eq_true rfl, Nat.le_of_ble_eq_true rfl⟩ hl.1 rfl (Nat.le_of_ble_eq_true rfl) rfl dX4_clause_63 (fun S25 H locs hm hw => ?_)
          have hw : wV D A s.heap (rW cy aR S25) H locs := hw
          exact hJ9 _ hm _ _ _ hw (lv_sub hl [1, 0] rfl)
        · have hm := hm.2 c29
          refine lv_aload_n hx hb dX4_clause_50 rfl (lv_at hl 1 rfl) ?_
          refine lv_sipush (v := 281) hx hb dX4_clause_51 (by decide) ?_
          refine lv_iconst (v := 1) hx hb dX4_clause_54 (by decide) ?_
          refine aV_V (As := [.int 281, .int 1]) (rest := []) hc hw (c_X4_step hm) lk_X4_115 rfl rfl ⟨Nat.le_of_ble_eq_true rfl, Nat.le_of_ble_eq_true rfl⟩ ⟨Nat.le_of_ble_eq_true rfl, Nat.le_of_ble_eq_true rfl⟩ hl.1 rfl (Nat.le_of_ble_eq_true rfl) rfl dX4_clause_55 (fun S27 H locs hm hw => ?_)
          have hw : wV D A s.heap (rW cy aR S27) H locs := hw
          refine lv_goto (tgt := 66) hx hb dX4_clause_58 (by decide) ?_
          exact hJ9 _ hm _ _ _ hw (lv_sub hl [1, 0] rfl)
      · have hm := hm.2 c30
        exact hJ4 _ hm _ _ _ hw (lv_sub hl [1] rfl)
set_option maxHeartbeats 4000000 in
set_option maxRecDepth 100000 in
theorem c_X4_isWordAt {l : Launch} {D : va_G} {cy : Nat → ClassId} {atp : Nat → Nat} {Stp : (Nat → Int32)} {x1 : Int32} {x2 : Int32} {x3 : Int32} {Q : Int32 → Prop} (hm : w_X4_isWordAt Stp x1 x2 x3 Q) : CtI l yX4_isWordAt cX4_isWordAt 5 (some .boolean) (rmN 4) D cy [.ref (atp 0), .int x1, .int x2, .int x3] (tpW cy atp Stp) (fun _ : Unit => (tpW cy atp Stp)) (fun (r : Int32) (_ : Unit) => Q r) := by
  refine CtI.ofW (by decide) (Nat.le_of_ble_eq_true rfl) ?_
  intro p e s m args below meth c A ls hc hnm hw hl
  have hx := hc.1.1
  have hb := hc.1.2.1
  have hown := hc.1.2.2.2.1
  have hts := hc.1.2.2.2.2
  have hl : lv_has ls 5 [(0, .ref (atp 0)), (1, .int x1), (2, .int x2), (3, .int x3)] := hl
  obtain ⟨H, hH⟩ : ∃ z, z = s.heap := ⟨_, rfl⟩
  obtain ⟨locs, hLc⟩ : ∃ z : List Loc, z = [] := ⟨_, rfl⟩
  have hw : wV D A s.heap (tpW cy atp Stp) H locs := by rw [hH, hLc]; exact hw
  have hgo : W p l e (rmN 4) s m args below meth c H locs 0 0 (MQ below (eI D cy A (fun _ : Unit => (tpW cy atp Stp)) (fun (r : Int32) (_ : Unit) => Q r)) args s (rmN 4).cells (rmN 4).slots A) (F0 m 0 ls []) := ?hgo
  · rw [hH, hLc] at hgo; exact hgo
  refine lv_iload_n hx hb dX4_isWordAt_0 rfl (lv_at hl 2 rfl) ?_
  refine lv_istore (lv' := [(4, .int x2), (0, .ref (atp 0)), (1, .int x1), (2, .int x2), (3, .int x3)]) hx hb dX4_isWordAt_1 hl (by decide) rfl (fun ls hl => ?_)
  refine wl1_ind (G := fun (x4_1 : Int32) => ∀ (H : Heap) (locs : List Loc) (ls : Array Slot), wV D A s.heap (tpW cy atp Stp) H locs → lv_has ls 5 [(4, .int x4_1), (0, .ref (atp 0)), (1, .int x1), (2, .int x2), (3, .int x3)] → W p l e (rmN 4) s m args below meth c H locs 0 0 (MQ below (eI D cy A (fun _ : Unit => (tpW cy atp Stp)) (fun (r : Int32) (_ : Unit) => Q r)) args s (rmN 4).cells (rmN 4).slots A) (F0 m 3 ls [])) ?_ _ hm H locs ls hw (lv_sub hl [0, 1, 2, 3, 4] rfl)
  intro L2 ih2 x4_1 hm H locs ls hw hl
  refine lv_iload hx hb dX4_isWordAt_3 (lv_at hl 0 rfl) ?_
  refine lv_iload_n hx hb dX4_isWordAt_5 rfl (lv_at hl 4 rfl) ?_
  refine lv_icmp_ge (tgt := 35) hx hb dX4_isWordAt_6 (by decide) (fun c8 => ?_) (fun c8 => ?_)
  · have hm := hm.1 c8
    refine lv_iconst (v := 1) hx hb dX4_isWordAt_35 (by decide) ?_
    exact retZ (u := ()) hc hw rfl hm dX4_isWordAt_36
  · have hm := hm.2 c8
    refine lv_aload_n hx hb dX4_isWordAt_9 rfl (lv_at hl 1 rfl) ?_
    refine lv_iload_n hx hb dX4_isWordAt_10 rfl (lv_at hl 2 rfl) ?_
    refine lv_iload hx hb dX4_isWordAt_11 (lv_at hl 0 rfl) ?_
    refine lv_iadd hx hb dX4_isWordAt_13 ?_
    refine lv_iload_n hx hb dX4_isWordAt_14 rfl (lv_at hl 3 rfl) ?_
    refine lv_isub hx hb dX4_isWordAt_15 ?_
    obtain ⟨c3, hm⟩ := hm
    refine aI hc hw 0 rfl c3 rfl dX4_isWordAt_16 ?_
    refine ldS hc dX4_isWordAt_17 ?_
    refine lv_iload hx hb dX4_isWordAt_19 (lv_at hl 0 rfl) ?_
    obtain ⟨c5, hm⟩ := hm
    refine kT_I (As := [.int x4_1]) (rest := [.int (Stp (Int32.toNatClampNeg ((x1 + x4_1) - x2)))]) hc hw (c_charAt c5) lk_X4_107 rfl ⟨Nat.le_of_ble_eq_true rfl, Nat.le_of_ble_eq_true rfl⟩ ⟨Nat.le_of_ble_eq_true rfl, Nat.le_of_ble_eq_true rfl⟩ hl.1 rfl (Nat.le_of_ble_eq_true rfl) rfl dX4_isWordAt_21 (fun r4 H locs hq hw => ?_)
    have hq : r4 = sCh x4_1 := hq
    subst hq
    refine lv_icmp_eq (tgt := 29) hx hb dX4_isWordAt_24 (by decide) (fun c7 => ?_) (fun c7 => ?_)
    · have hm := hm.1 c7
      obtain ⟨v6, e_v6⟩ : ∃ z : Int32, z = x4_1 + 1 := ⟨_, rfl⟩
      have hm := hm v6 e_v6
      refine lv_iinc (v := v6) (lv' := [(4, .int v6), (0, .ref (atp 0)), (1, .int x1), (2, .int x2), (3, .int x3)]) hx hb dX4_isWordAt_29 hl (k := 0) rfl (by rw [e_v6]; rfl) (by decide) rfl (fun ls hl => ?_)
      refine lv_goto (tgt := 3) hx hb dX4_isWordAt_32 (by decide) ?_
      exact ih2 _ hm _ _ _ hw (lv_sub hl [0, 1, 2, 3, 4] rfl)
    · have hm := hm.2 c7
      refine lv_iconst (v := 0) hx hb dX4_isWordAt_27 (by decide) ?_
      exact retZ (u := ()) hc hw rfl hm dX4_isWordAt_28
set_option maxHeartbeats 4000000 in
set_option maxRecDepth 100000 in
theorem c_X4_wordOf {l : Launch} {D : va_G} {cy : Nat → ClassId} {atp : Nat → Nat} {Stp : (Nat → Int32)} {x1 : Int32} {x2 : Int32} {Q : Int32 → Prop} (hm : w_X4_wordOf Stp x1 x2 Q) : CtI l yX4_wordOf cX4_wordOf 6 (some .int) (rmN 5) D cy [.ref (atp 0), .int x1, .int x2] (tpW cy atp Stp) (fun _ : Unit => (tpW cy atp Stp)) (fun (r : Int32) (_ : Unit) => Q r) := by
  refine CtI.ofW (by decide) (Nat.le_of_ble_eq_true rfl) ?_
  intro p e s m args below meth c A ls hc hnm hw hl
  have hx := hc.1.1
  have hb := hc.1.2.1
  have hown := hc.1.2.2.2.1
  have hts := hc.1.2.2.2.2
  have hl : lv_has ls 6 [(0, .ref (atp 0)), (1, .int x1), (2, .int x2)] := hl
  obtain ⟨H, hH⟩ : ∃ z, z = s.heap := ⟨_, rfl⟩
  obtain ⟨locs, hLc⟩ : ∃ z : List Loc, z = [] := ⟨_, rfl⟩
  have hw : wV D A s.heap (tpW cy atp Stp) H locs := by rw [hH, hLc]; exact hw
  have hgo : W p l e (rmN 5) s m args below meth c H locs 0 0 (MQ below (eI D cy A (fun _ : Unit => (tpW cy atp Stp)) (fun (r : Int32) (_ : Unit) => Q r)) args s (rmN 5).cells (rmN 5).slots A) (F0 m 0 ls []) := ?hgo
  · rw [hH, hLc] at hgo; exact hgo
  refine lv_sipush (v := 256) hx hb dX4_wordOf_0 (by decide) ?_
  refine lv_istore_n (lv' := [(3, .int 256), (0, .ref (atp 0)), (1, .int x1), (2, .int x2)]) hx hb dX4_wordOf_3 rfl hl (by decide) rfl (fun ls hl => ?_)
  refine lv_iconst (v := 0) hx hb dX4_wordOf_4 (by decide) ?_
  refine lv_istore (lv' := [(4, .int 0), (3, .int 256), (0, .ref (atp 0)), (1, .int x1), (2, .int x2)]) hx hb dX4_wordOf_5 hl (by decide) rfl (fun ls hl => ?_)
  refine lv_iconst (v := 0) hx hb dX4_wordOf_7 (by decide) ?_
  refine lv_istore (lv' := [(5, .int 0), (4, .int 0), (3, .int 256), (0, .ref (atp 0)), (1, .int x1), (2, .int x2)]) hx hb dX4_wordOf_8 hl (by decide) rfl (fun ls hl => ?_)
  refine wl3_ind (G := fun (x5_1 : Int32) (x4_2 : Int32) (x3_3 : Int32) => ∀ (H : Heap) (locs : List Loc) (ls : Array Slot), wV D A s.heap (tpW cy atp Stp) H locs → lv_has ls 6 [(5, .int x5_1), (4, .int x4_2), (3, .int x3_3), (0, .ref (atp 0)), (1, .int x1), (2, .int x2)] → W p l e (rmN 5) s m args below meth c H locs 0 0 (MQ below (eI D cy A (fun _ : Unit => (tpW cy atp Stp)) (fun (r : Int32) (_ : Unit) => Q r)) args s (rmN 5).cells (rmN 5).slots A) (F0 m 10 ls [])) ?_ _ _ _ hm H locs ls hw (lv_sub hl [0, 1, 2, 3, 4, 5] rfl)
  intro L4 ih4 x5_1 x4_2 x3_3 hm H locs ls hw hl
  refine lv_iload hx hb dX4_wordOf_10 (lv_at hl 0 rfl) ?_
  refine ldS hc dX4_wordOf_12 ?_
  refine kT_I (As := []) (rest := [.int x5_1]) hc hw c_strlen lk_X4_103 rfl ⟨Nat.le_of_ble_eq_true rfl, Nat.le_of_ble_eq_true rfl⟩ ⟨Nat.le_of_ble_eq_true rfl, Nat.le_of_ble_eq_true rfl⟩ hl.1 rfl (Nat.le_of_ble_eq_true rfl) rfl dX4_wordOf_14 (fun r5 H locs hq hw => ?_)
  have hq : r5 = 70 := hq
  subst hq
  refine lv_icmp_ge (tgt := 72) hx hb dX4_wordOf_17 (by decide) (fun c19 => ?_) (fun c19 => ?_)
  · have hm := hm.1 c19
    refine lv_sipush (v := 280) hx hb dX4_wordOf_72 (by decide) ?_
    exact retI (u := ()) hc hw hm dX4_wordOf_75
  · have hm := hm.2 c19
    refine ldS hc dX4_wordOf_20 ?_
    refine lv_iload hx hb dX4_wordOf_22 (lv_at hl 0 rfl) ?_
    obtain ⟨c7, hm⟩ := hm
    refine kT_I (As := [.int x5_1]) (rest := []) hc hw (c_charAt c7) lk_X4_107 rfl ⟨Nat.le_of_ble_eq_true rfl, Nat.le_of_ble_eq_true rfl⟩ ⟨Nat.le_of_ble_eq_true rfl, Nat.le_of_ble_eq_true rfl⟩ hl.1 rfl (Nat.le_of_ble_eq_true rfl) rfl dX4_wordOf_24 (fun r6 H locs hq hw => ?_)
    have hq : r6 = sCh x5_1 := hq
    subst hq
    refine lv_bipush (v := 32) hx hb dX4_wordOf_27 (by decide) ?_
    refine lv_icmp_ne (tgt := 66) hx hb dX4_wordOf_29 (by decide) (fun c18 => ?_) (fun c18 => ?_)
    · have hm := hm.1 c18
      obtain ⟨v8, e_v8⟩ : ∃ z : Int32, z = x5_1 + 1 := ⟨_, rfl⟩
      have hm := hm v8 e_v8
      refine lv_iinc (v := v8) (lv' := [(5, .int v8), (4, .int x4_2), (3, .int x3_3), (0, .ref (atp 0)), (1, .int x1), (2, .int x2)]) hx hb dX4_wordOf_66 hl (k := 0) rfl (by rw [e_v8]; rfl) (by decide) rfl (fun ls hl => ?_)
      refine lv_goto (tgt := 10) hx hb dX4_wordOf_69 (by decide) ?_
      exact ih4 _ _ _ hm _ _ _ hw (lv_sub hl [0, 1, 2, 3, 4, 5] rfl)
    · have hm := hm.2 c18
      refine lv_iload hx hb dX4_wordOf_32 (lv_at hl 0 rfl) ?_
      refine lv_iload hx hb dX4_wordOf_34 (lv_at hl 1 rfl) ?_
      refine lv_isub hx hb dX4_wordOf_36 ?_
      refine lv_iload_n hx hb dX4_wordOf_37 rfl (lv_at hl 5 rfl) ?_
      refine lv_iload_n hx hb dX4_wordOf_38 rfl (lv_at hl 4 rfl) ?_
      refine lv_isub hx hb dX4_wordOf_39 ?_
      obtain ⟨J10, eJ10, hm⟩ := jn_e hm
      have hJ10 : ∀ (z9 : Unit) (_ : J10 z9) (H : Heap) (locs : List Loc) (ls : Array Slot), wV D A s.heap (tpW cy atp Stp) H locs → lv_has ls 6 [(0, .ref (atp 0)), (1, .int x1), (2, .int x2), (3, .int x3_3), (5, .int x5_1)] → W p l e (rmN 5) s m args below meth c H locs 0 0 (MQ below (eI D cy A (fun _ : Unit => (tpW cy atp Stp)) (fun (r : Int32) (_ : Unit) => Q r)) args s (rmN 5).cells (rmN 5).slots A) (F0 m 57 ls []) := by
        intro z9 hm H locs ls hw hl
        rw [eJ10] at hm
        obtain ⟨v11, e_v11⟩ : ∃ z : Int32, z = x3_3 + 1 := ⟨_, rfl⟩
        have hm := hm v11 e_v11
        refine lv_iinc (v := v11) (lv' := [(3, .int v11), (0, .ref (atp 0)), (1, .int x1), (2, .int x2), (5, .int x5_1)]) hx hb dX4_wordOf_57 hl (k := 3) rfl (by rw [e_v11]; rfl) (by decide) rfl (fun ls hl => ?_)
        refine lv_iload hx hb dX4_wordOf_60 (lv_at hl 4 rfl) ?_
        refine lv_iconst (v := 1) hx hb dX4_wordOf_62 (by decide) ?_
        refine lv_iadd hx hb dX4_wordOf_63 ?_
        refine lv_topi (fun v12 e_v12 => ?_)
        have hm := hm v12 e_v12
        refine lv_istore (lv' := [(4, .int v12), (3, .int v11), (0, .ref (atp 0)), (1, .int x1), (2, .int x2), (5, .int x5_1)]) hx hb dX4_wordOf_64 hl (by decide) rfl (fun ls hl => ?_)
        obtain ⟨v13, e_v13⟩ : ∃ z : Int32, z = x5_1 + 1 := ⟨_, rfl⟩
        have hm := hm v13 e_v13
        refine lv_iinc (v := v13) (lv' := [(5, .int v13), (4, .int v12), (3, .int v11), (0, .ref (atp 0)), (1, .int x1), (2, .int x2)]) hx hb dX4_wordOf_66 hl (k := 5) rfl (by rw [e_v13]; rfl) (by decide) rfl (fun ls hl => ?_)
        refine lv_goto (tgt := 10) hx hb dX4_wordOf_69 (by decide) ?_
        exact ih4 _ _ _ hm _ _ _ hw (lv_sub hl [0, 1, 2, 3, 4, 5] rfl)
      refine lv_icmp_ne (tgt := 57) hx hb dX4_wordOf_40 (by decide) (fun c17 => ?_) (fun c17 => ?_)
      · have hm := hm.1 c17
        exact hJ10 _ hm _ _ _ hw (lv_sub hl [3, 4, 5, 2, 0] rfl)
      · have hm := hm.2 c17
        refine lv_aload_n hx hb dX4_wordOf_43 rfl (lv_at hl 3 rfl) ?_
        refine lv_iload_n hx hb dX4_wordOf_44 rfl (lv_at hl 4 rfl) ?_
        refine lv_iload hx hb dX4_wordOf_45 (lv_at hl 1 rfl) ?_
        refine lv_iload hx hb dX4_wordOf_47 (lv_at hl 0 rfl) ?_
        refine nS_I (As := [.ref (atp 0), .int x1, .int x4_2, .int x5_1]) (rest := []) (wc := (tpW cy atp Stp)) (wr := ([] : va_W)) (isC := [0]) (isR := []) hc hw (c_X4_isWordAt hm) lk_X4_111 ⟨rfl, rfl, rfl, rfl, by decide⟩ ⟨Nat.le_of_ble_eq_true rfl, Nat.le_of_ble_eq_true rfl⟩ ⟨Nat.le_of_ble_eq_true rfl, Nat.le_of_ble_eq_true rfl⟩ hl.1 rfl (Nat.le_of_ble_eq_true rfl) rfl dX4_wordOf_49 (fun r14 _ H locs hm hw => ?_)
        have hw : wV D A s.heap (tpW cy atp Stp) H locs := hw.perm [0] rfl rfl
        refine lv_if_eq (tgt := 57) hx hb dX4_wordOf_52 (by decide) (fun c16 => ?_) (fun c16 => ?_)
        · have hm := hm.1 c16
          exact hJ10 _ hm _ _ _ hw (lv_sub hl [3, 4, 5, 2, 0] rfl)
        · have hm := hm.2 c16
          refine lv_iload_n hx hb dX4_wordOf_55 rfl (lv_at hl 2 rfl) ?_
          exact retI (u := ()) hc hw hm dX4_wordOf_56
set_option maxHeartbeats 4000000 in
set_option maxRecDepth 100000 in
theorem c_X4_split {l : Launch} {D : va_G} {cy : Nat → ClassId} {aR : Nat → Nat} {atp : Nat → Nat} {SR : Ob} {Stp : (Nat → Int32)} {x2 : Int32} {Q : Ob → Prop} (hm : w_X4_split SR Stp x2 Q) : CtV l yX4_split cX4_split 8 none (rmN 6) D cy [.ref (aR 0), .ref (atp 0), .int x2] ((rW cy aR SR) ++ (tpW cy atp Stp)) (fun u : Ob => ((rW cy aR u) ++ (tpW cy atp Stp))) Q := by
  refine CtV.ofW (by decide) (Nat.le_of_ble_eq_true rfl) ?_
  intro p e s m args below meth c A ls hc hnm hw hl
  have hx := hc.1.1
  have hb := hc.1.2.1
  have hown := hc.1.2.2.2.1
  have hts := hc.1.2.2.2.2
  have hl : lv_has ls 8 [(0, .ref (aR 0)), (1, .ref (atp 0)), (2, .int x2)] := hl
  obtain ⟨H, hH⟩ : ∃ z, z = s.heap := ⟨_, rfl⟩
  obtain ⟨locs, hLc⟩ : ∃ z : List Loc, z = [] := ⟨_, rfl⟩
  have hw : wV D A s.heap ((rW cy aR SR) ++ (tpW cy atp Stp)) H locs := by rw [hH, hLc]; exact hw
  have hgo : W p l e (rmN 6) s m args below meth c H locs 0 0 (MQ below (eV D cy A (fun u : Ob => ((rW cy aR u) ++ (tpW cy atp Stp))) Q) args s (rmN 6).cells (rmN 6).slots A) (F0 m 0 ls []) := ?hgo
  · rw [hH, hLc] at hgo; exact hgo
  refine lv_iconst (v := 0) hx hb dX4_split_0 (by decide) ?_
  refine lv_istore_n (lv' := [(3, .int 0), (0, .ref (aR 0)), (1, .ref (atp 0)), (2, .int x2)]) hx hb dX4_split_1 rfl hl (by decide) rfl (fun ls hl => ?_)
  refine lv_iconst (v := 0) hx hb dX4_split_2 (by decide) ?_
  refine lv_istore (lv' := [(4, .int 0), (3, .int 0), (0, .ref (aR 0)), (1, .ref (atp 0)), (2, .int x2)]) hx hb dX4_split_3 hl (by decide) rfl (fun ls hl => ?_)
  refine lv_iconst (v := 0) hx hb dX4_split_5 (by decide) ?_
  refine lv_istore (lv' := [(5, .int 0), (4, .int 0), (3, .int 0), (0, .ref (aR 0)), (1, .ref (atp 0)), (2, .int x2)]) hx hb dX4_split_6 hl (by decide) rfl (fun ls hl => ?_)
  refine wl4_ind (G := fun (x5_1 : Int32) (x4_2 : Int32) (x3_3 : Int32) (S4 : Ob) => ∀ (H : Heap) (locs : List Loc) (ls : Array Slot), wV D A s.heap ((rW cy aR S4) ++ (tpW cy atp Stp)) H locs → lv_has ls 8 [(5, .int x5_1), (4, .int x4_2), (3, .int x3_3), (0, .ref (aR 0)), (1, .ref (atp 0)), (2, .int x2)] → W p l e (rmN 6) s m args below meth c H locs 0 0 (MQ below (eV D cy A (fun u : Ob => ((rW cy aR u) ++ (tpW cy atp Stp))) Q) args s (rmN 6).cells (rmN 6).slots A) (F0 m 8 ls [])) ?_ _ _ _ _ hm H locs ls hw (lv_sub hl [0, 1, 2, 3, 4, 5] rfl)
  intro L5 ih5 x5_1 x4_2 x3_3 S4 hm H locs ls hw hl
  refine lv_iload hx hb dX4_split_8 (lv_at hl 0 rfl) ?_
  refine lv_sipush (v := 400) hx hb dX4_split_10 (by decide) ?_
  obtain ⟨J7, eJ7, hm⟩ := jn_e hm
  have hJ7 : ∀ (z6 : Unit) (_ : J7 z6) (H : Heap) (locs : List Loc) (ls : Array Slot), wV D A s.heap ((rW cy aR S4) ++ (tpW cy atp Stp)) H locs → lv_has ls 8 [(0, .ref (aR 0)), (2, .int x2), (3, .int x3_3)] → W p l e (rmN 6) s m args below meth c H locs 0 0 (MQ below (eV D cy A (fun u : Ob => ((rW cy aR u) ++ (tpW cy atp Stp))) Q) args s (rmN 6).cells (rmN 6).slots A) (F0 m 149 ls []) := by
    intro z6 hm H locs ls hw hl
    rw [eJ7] at hm
    refine lv_aload_n hx hb dX4_split_149 rfl (lv_at hl 0 rfl) ?_
    refine gF (k := 0) hc hw inX4 rfl 0 rfl (by decide) (gm 264 (by decide +kernel) rfl) rfl dX4_split_150 ?_
    refine lv_iload_n hx hb dX4_split_153 rfl (lv_at hl 2 rfl) ?_
    refine lv_sipush (v := 283) hx hb dX4_split_154 (by decide) ?_
    obtain ⟨c8, hm⟩ := hm
    refine sI hc hw 1 rfl c8 rfl dX4_split_157 (fun H locs hw => ?_)
    obtain ⟨S9, e_S9⟩ : ∃ z : Ob, z = uA S4 0 (Int32.toNatClampNeg x3_3) 283 := ⟨_, rfl⟩
    have hm := hm S9 e_S9
    have hw : wV D A s.heap ((rW cy aR S9) ++ (tpW cy atp Stp)) H locs := by rw [e_S9]; exact hw
    refine lv_aload_n hx hb dX4_split_158 rfl (lv_at hl 0 rfl) ?_
    refine gF (k := 2) hc hw inX4 rfl 0 rfl (by decide) (gm 266 (by decide +kernel) rfl) rfl dX4_split_159 ?_
    refine lv_iload_n hx hb dX4_split_162 rfl (lv_at hl 2 rfl) ?_
    refine lv_iload_n hx hb dX4_split_163 rfl (lv_at hl 1 rfl) ?_
    obtain ⟨c10, hm⟩ := hm
    refine sI hc hw 3 rfl c10 rfl dX4_split_164 (fun H locs hw => ?_)
    obtain ⟨S11, e_S11⟩ : ∃ z : Ob, z = uA S9 2 (Int32.toNatClampNeg x3_3) x2 := ⟨_, rfl⟩
    have hm := hm S11 e_S11
    have hw : wV D A s.heap ((rW cy aR S11) ++ (tpW cy atp Stp)) H locs := by rw [e_S11]; exact hw
    exact retV (u := S11) hc hw hm dX4_split_165
  refine lv_icmp_ge (tgt := 149) hx hb dX4_split_13 (by decide) (fun c47 => ?_) (fun c47 => ?_)
  · have hm := hm.1 c47
    exact hJ7 _ hm _ _ _ hw (lv_sub hl [3, 5, 2] rfl)
  · have hm := hm.2 c47
    refine lv_iload hx hb dX4_split_16 (lv_at hl 1 rfl) ?_
    refine lv_iload_n hx hb dX4_split_18 rfl (lv_at hl 5 rfl) ?_
    refine lv_icmp_ge (tgt := 149) hx hb dX4_split_19 (by decide) (fun c46 => ?_) (fun c46 => ?_)
    · have hm := hm.1 c46
      exact hJ7 _ hm _ _ _ hw (lv_sub hl [3, 5, 2] rfl)
    · have hm := hm.2 c46
      refine lv_iload hx hb dX4_split_22 (lv_at hl 1 rfl) ?_
      refine lv_iconst (v := 1) hx hb dX4_split_24 (by decide) ?_
      refine lv_iadd hx hb dX4_split_25 ?_
      refine lv_topi (fun v12 e_v12 => ?_)
      have hm := hm v12 e_v12
      refine lv_istore (lv' := [(6, .int v12), (5, .int x5_1), (4, .int x4_2), (3, .int x3_3), (0, .ref (aR 0)), (1, .ref (atp 0)), (2, .int x2)]) hx hb dX4_split_26 hl (by decide) rfl (fun ls hl => ?_)
      refine lv_aload_n hx hb dX4_split_28 rfl (lv_at hl 5 rfl) ?_
      refine lv_iload hx hb dX4_split_29 (lv_at hl 2 rfl) ?_
      obtain ⟨c13, hm⟩ := hm
      refine aI hc hw 8 rfl c13 rfl dX4_split_31 ?_
      refine lv_topi (fun v14 e_v14 => ?_)
      have hm := hm v14 e_v14
      refine lv_istore (lv' := [(7, .int v14), (6, .int v12), (5, .int x5_1), (4, .int x4_2), (3, .int x3_3), (0, .ref (aR 0)), (1, .ref (atp 0)), (2, .int x2)]) hx hb dX4_split_32 hl (by decide) rfl (fun ls hl => ?_)
      refine lv_iload hx hb dX4_split_34 (lv_at hl 0 rfl) ?_
      refine zS_I (As := [.int v14]) (rest := []) hc hw (c_X4_isLetter hm) lk_X4_78 ⟨Nat.le_of_ble_eq_true rfl, Nat.le_of_ble_eq_true rfl⟩ ⟨Nat.le_of_ble_eq_true rfl, Nat.le_of_ble_eq_true rfl⟩ hl.1 rfl (Nat.le_of_ble_eq_true rfl) rfl dX4_split_36 (fun r15 H locs hm hw => ?_)
      obtain ⟨J19, eJ19, hm⟩ := jn_e hm
      have hJ19 : ∀ (x6_17 : Int32) (S18 : Ob) (_ : J19 x6_17 S18) (H : Heap) (locs : List Loc) (ls : Array Slot), wV D A s.heap ((rW cy aR S18) ++ (tpW cy atp Stp)) H locs → lv_has ls 8 [(0, .ref (aR 0)), (1, .ref (atp 0)), (2, .int x2), (3, .int x3_3), (4, .int x4_2), (5, .int x5_1), (6, .int x6_17), (7, .int v14)] → W p l e (rmN 6) s m args below meth c H locs 0 0 (MQ below (eV D cy A (fun u : Ob => ((rW cy aR u) ++ (tpW cy atp Stp))) Q) args s (rmN 6).cells (rmN 6).slots A) (F0 m 121 ls []) := by
        intro x6_17 S18 hm H locs ls hw hl
        rw [eJ19] at hm
        refine lv_aload_n hx hb dX4_split_121 rfl (lv_at hl 0 rfl) ?_
        refine gF (k := 2) hc hw inX4 rfl 0 rfl (by decide) (gm 266 (by decide +kernel) rfl) rfl dX4_split_122 ?_
        refine lv_iload_n hx hb dX4_split_125 rfl (lv_at hl 3 rfl) ?_
        refine lv_iload hx hb dX4_split_126 (lv_at hl 4 rfl) ?_
        obtain ⟨c20, hm⟩ := hm
        refine sI hc hw 3 rfl c20 rfl dX4_split_128 (fun H locs hw => ?_)
        obtain ⟨S21, e_S21⟩ : ∃ z : Ob, z = uA S18 2 (Int32.toNatClampNeg x3_3) x4_2 := ⟨_, rfl⟩
        have hm := hm S21 e_S21
        have hw : wV D A s.heap ((rW cy aR S21) ++ (tpW cy atp Stp)) H locs := by rw [e_S21]; exact hw
        refine lv_iload hx hb dX4_split_129 (lv_at hl 7 rfl) ?_
        refine lv_bipush (v := 32) hx hb dX4_split_131 (by decide) ?_
        refine lv_icmp_eq (tgt := 139) hx hb dX4_split_133 (by decide) (fun c25 => ?_) (fun c25 => ?_)
        · have hm := hm.1 c25
          refine lv_iload hx hb dX4_split_139 (lv_at hl 6 rfl) ?_
          refine lv_istore (lv' := [(4, .int x6_17), (0, .ref (aR 0)), (1, .ref (atp 0)), (2, .int x2), (3, .int x3_3), (5, .int x5_1), (6, .int x6_17), (7, .int v14)]) hx hb dX4_split_141 hl (by decide) rfl (fun ls hl => ?_)
          obtain ⟨v22, e_v22⟩ : ∃ z : Int32, z = x5_1 + 1 := ⟨_, rfl⟩
          have hm := hm v22 e_v22
          refine lv_iinc (v := v22) (lv' := [(5, .int v22), (4, .int x6_17), (0, .ref (aR 0)), (1, .ref (atp 0)), (2, .int x2), (3, .int x3_3), (6, .int x6_17), (7, .int v14)]) hx hb dX4_split_143 hl (k := 5) rfl (by rw [e_v22]; rfl) (by decide) rfl (fun ls hl => ?_)
          refine lv_goto (tgt := 8) hx hb dX4_split_146 (by decide) ?_
          exact ih5 _ _ _ _ hm _ _ _ hw (lv_sub hl [0, 1, 5, 2, 3, 4] rfl)
        · have hm := hm.2 c25
          obtain ⟨v23, e_v23⟩ : ∃ z : Int32, z = x3_3 + 1 := ⟨_, rfl⟩
          have hm := hm v23 e_v23
          refine lv_iinc (v := v23) (lv' := [(3, .int v23), (0, .ref (aR 0)), (1, .ref (atp 0)), (2, .int x2), (4, .int x4_2), (5, .int x5_1), (6, .int x6_17), (7, .int v14)]) hx hb dX4_split_136 hl (k := 3) rfl (by rw [e_v23]; rfl) (by decide) rfl (fun ls hl => ?_)
          refine lv_iload hx hb dX4_split_139 (lv_at hl 6 rfl) ?_
          refine lv_istore (lv' := [(4, .int x6_17), (3, .int v23), (0, .ref (aR 0)), (1, .ref (atp 0)), (2, .int x2), (5, .int x5_1), (6, .int x6_17), (7, .int v14)]) hx hb dX4_split_141 hl (by decide) rfl (fun ls hl => ?_)
          obtain ⟨v24, e_v24⟩ : ∃ z : Int32, z = x5_1 + 1 := ⟨_, rfl⟩
          have hm := hm v24 e_v24
          refine lv_iinc (v := v24) (lv' := [(5, .int v24), (4, .int x6_17), (3, .int v23), (0, .ref (aR 0)), (1, .ref (atp 0)), (2, .int x2), (6, .int x6_17), (7, .int v14)]) hx hb dX4_split_143 hl (k := 5) rfl (by rw [e_v24]; rfl) (by decide) rfl (fun ls hl => ?_)
          refine lv_goto (tgt := 8) hx hb dX4_split_146 (by decide) ?_
          exact ih5 _ _ _ _ hm _ _ _ hw (lv_sub hl [0, 1, 2, 3, 4, 5] rfl)
      refine lv_if_eq (tgt := 69) hx hb dX4_split_39 (by decide) (fun c45 => ?_) (fun c45 => ?_)
      · have hm := hm.1 c45
        refine lv_iload hx hb dX4_split_69 (lv_at hl 0 rfl) ?_
        refine zS_I (As := [.int v14]) (rest := []) hc hw (c_X4_isDigit hm) lk_X4_89 ⟨Nat.le_of_ble_eq_true rfl, Nat.le_of_ble_eq_true rfl⟩ ⟨Nat.le_of_ble_eq_true rfl, Nat.le_of_ble_eq_true rfl⟩ hl.1 rfl (Nat.le_of_ble_eq_true rfl) rfl dX4_split_71 (fun r26 H locs hm hw => ?_)
        refine lv_if_eq (tgt := 113) hx hb dX4_split_74 (by decide) (fun c38 => ?_) (fun c38 => ?_)
        · have hm := hm.1 c38
          refine lv_aload_n hx hb dX4_split_113 rfl (lv_at hl 5 rfl) ?_
          refine gF (k := 0) hc hw inX4 rfl 0 rfl (by decide) (gm 264 (by decide +kernel) rfl) rfl dX4_split_114 ?_
          refine lv_iload_n hx hb dX4_split_117 rfl (lv_at hl 4 rfl) ?_
          refine lv_iload hx hb dX4_split_118 (lv_at hl 0 rfl) ?_
          obtain ⟨c28, hm⟩ := hm
          refine sI hc hw 1 rfl c28 rfl dX4_split_120 (fun H locs hw => ?_)
          obtain ⟨S29, e_S29⟩ : ∃ z : Ob, z = uA S4 0 (Int32.toNatClampNeg x3_3) v14 := ⟨_, rfl⟩
          have hm := hm S29 e_S29
          have hw : wV D A s.heap ((rW cy aR S29) ++ (tpW cy atp Stp)) H locs := by rw [e_S29]; exact hw
          exact hJ19 _ _ hm _ _ _ hw (lv_sub hl [5, 6, 7, 4, 3, 2, 1, 0] rfl)
        · have hm := hm.2 c38
          refine lv_aload_n hx hb dX4_split_77 rfl (lv_at hl 6 rfl) ?_
          refine lv_iload hx hb dX4_split_78 (lv_at hl 3 rfl) ?_
          refine lv_iload_n hx hb dX4_split_80 rfl (lv_at hl 7 rfl) ?_
          refine lv_iconst (v := 0) hx hb dX4_split_81 (by decide) ?_
          refine nS_I (As := [.ref (atp 0), .int x4_2, .int x2, .int 0]) (rest := []) (wc := (tpW cy atp Stp)) (wr := (rW cy aR S4)) (isC := [8]) (isR := [0, 1, 2, 3, 4, 5, 6, 7]) hc hw (c_X4_runEnd hm) lk_X4_81 ⟨rfl, rfl, rfl, rfl, by decide⟩ ⟨Nat.le_of_ble_eq_true rfl, Nat.le_of_ble_eq_true rfl⟩ ⟨Nat.le_of_ble_eq_true rfl, Nat.le_of_ble_eq_true rfl⟩ hl.1 rfl (Nat.le_of_ble_eq_true rfl) rfl dX4_split_82 (fun r30 _ H locs hm hw => ?_)
          have hw : wV D A s.heap ((rW cy aR S4) ++ (tpW cy atp Stp)) H locs := hw.perm [0, 1, 2, 3, 4, 5, 6, 7, 8] rfl rfl
          refine lv_istore (lv' := [(6, .int r30), (7, .int v14), (5, .int x5_1), (4, .int x4_2), (3, .int x3_3), (0, .ref (aR 0)), (1, .ref (atp 0)), (2, .int x2)]) hx hb dX4_split_85 hl (by decide) rfl (fun ls hl => ?_)
          refine lv_aload_n hx hb dX4_split_87 rfl (lv_at hl 5 rfl) ?_
          refine gF (k := 0) hc hw inX4 rfl 0 rfl (by decide) (gm 264 (by decide +kernel) rfl) rfl dX4_split_88 ?_
          refine lv_iload_n hx hb dX4_split_91 rfl (lv_at hl 4 rfl) ?_
          refine lv_sipush (v := 281) hx hb dX4_split_92 (by decide) ?_
          obtain ⟨c32, hm⟩ := hm
          refine sI hc hw 1 rfl c32 rfl dX4_split_95 (fun H locs hw => ?_)
          obtain ⟨S33, e_S33⟩ : ∃ z : Ob, z = uA S4 0 (Int32.toNatClampNeg x3_3) 281 := ⟨_, rfl⟩
          have hm := hm S33 e_S33
          have hw : wV D A s.heap ((rW cy aR S33) ++ (tpW cy atp Stp)) H locs := by rw [e_S33]; exact hw
          refine lv_aload_n hx hb dX4_split_96 rfl (lv_at hl 5 rfl) ?_
          refine gF (k := 1) hc hw inX4 rfl 0 rfl (by decide) (gm 265 (by decide +kernel) rfl) rfl dX4_split_97 ?_
          refine lv_iload_n hx hb dX4_split_100 rfl (lv_at hl 4 rfl) ?_
          refine lv_aload_n hx hb dX4_split_101 rfl (lv_at hl 6 rfl) ?_
          refine lv_iload hx hb dX4_split_102 (lv_at hl 3 rfl) ?_
          refine lv_iload hx hb dX4_split_104 (lv_at hl 0 rfl) ?_
          refine nS_I (As := [.ref (atp 0), .int x4_2, .int r30]) (rest := [.int x3_3, .ref (aR 2)]) (wc := (tpW cy atp Stp)) (wr := (rW cy aR S33)) (isC := [8]) (isR := [0, 1, 2, 3, 4, 5, 6, 7]) hc hw (c_X4_valueOf hm) lk_X4_92 ⟨rfl, rfl, rfl, rfl, by decide⟩ ⟨Nat.le_of_ble_eq_true rfl, Nat.le_of_ble_eq_true rfl⟩ ⟨Nat.le_of_ble_eq_true rfl, Nat.le_of_ble_eq_true rfl⟩ hl.1 rfl (Nat.le_of_ble_eq_true rfl) rfl dX4_split_106 (fun r34 _ H locs hm hw => ?_)
          have hw : wV D A s.heap ((rW cy aR S33) ++ (tpW cy atp Stp)) H locs := hw.perm [0, 1, 2, 3, 4, 5, 6, 7, 8] rfl rfl
          obtain ⟨c36, hm⟩ := hm
          refine sI hc hw 2 rfl c36 rfl dX4_split_109 (fun H locs hw => ?_)
          obtain ⟨S37, e_S37⟩ : ∃ z : Ob, z = uA S33 1 (Int32.toNatClampNeg x3_3) r34 := ⟨_, rfl⟩
          have hm := hm S37 e_S37
          have hw : wV D A s.heap ((rW cy aR S37) ++ (tpW cy atp Stp)) H locs := by rw [e_S37]; exact hw
          refine lv_goto (tgt := 121) hx hb dX4_split_110 (by decide) ?_
          exact hJ19 _ _ hm _ _ _ hw (lv_sub hl [5, 6, 7, 4, 3, 2, 0, 1] rfl)
      · have hm := hm.2 c45
        refine lv_aload_n hx hb dX4_split_42 rfl (lv_at hl 6 rfl) ?_
        refine lv_iload hx hb dX4_split_43 (lv_at hl 3 rfl) ?_
        refine lv_iload_n hx hb dX4_split_45 rfl (lv_at hl 7 rfl) ?_
        refine lv_iconst (v := 1) hx hb dX4_split_46 (by decide) ?_
        refine nS_I (As := [.ref (atp 0), .int x4_2, .int x2, .int 1]) (rest := []) (wc := (tpW cy atp Stp)) (wr := (rW cy aR S4)) (isC := [8]) (isR := [0, 1, 2, 3, 4, 5, 6, 7]) hc hw (c_X4_runEnd hm) lk_X4_81 ⟨rfl, rfl, rfl, rfl, by decide⟩ ⟨Nat.le_of_ble_eq_true rfl, Nat.le_of_ble_eq_true rfl⟩ ⟨Nat.le_of_ble_eq_true rfl, Nat.le_of_ble_eq_true rfl⟩ hl.1 rfl (Nat.le_of_ble_eq_true rfl) rfl dX4_split_47 (fun r39 _ H locs hm hw => ?_)
        have hw : wV D A s.heap ((rW cy aR S4) ++ (tpW cy atp Stp)) H locs := hw.perm [0, 1, 2, 3, 4, 5, 6, 7, 8] rfl rfl
        refine lv_istore (lv' := [(6, .int r39), (7, .int v14), (5, .int x5_1), (4, .int x4_2), (3, .int x3_3), (0, .ref (aR 0)), (1, .ref (atp 0)), (2, .int x2)]) hx hb dX4_split_50 hl (by decide) rfl (fun ls hl => ?_)
        refine lv_aload_n hx hb dX4_split_52 rfl (lv_at hl 5 rfl) ?_
        refine gF (k := 0) hc hw inX4 rfl 0 rfl (by decide) (gm 264 (by decide +kernel) rfl) rfl dX4_split_53 ?_
        refine lv_iload_n hx hb dX4_split_56 rfl (lv_at hl 4 rfl) ?_
        refine lv_aload_n hx hb dX4_split_57 rfl (lv_at hl 6 rfl) ?_
        refine lv_iload hx hb dX4_split_58 (lv_at hl 3 rfl) ?_
        refine lv_iload hx hb dX4_split_60 (lv_at hl 0 rfl) ?_
        refine nS_I (As := [.ref (atp 0), .int x4_2, .int r39]) (rest := [.int x3_3, .ref (aR 1)]) (wc := (tpW cy atp Stp)) (wr := (rW cy aR S4)) (isC := [8]) (isR := [0, 1, 2, 3, 4, 5, 6, 7]) hc hw (c_X4_wordOf hm) lk_X4_85 ⟨rfl, rfl, rfl, rfl, by decide⟩ ⟨Nat.le_of_ble_eq_true rfl, Nat.le_of_ble_eq_true rfl⟩ ⟨Nat.le_of_ble_eq_true rfl, Nat.le_of_ble_eq_true rfl⟩ hl.1 rfl (Nat.le_of_ble_eq_true rfl) rfl dX4_split_62 (fun r41 _ H locs hm hw => ?_)
        have hw : wV D A s.heap ((rW cy aR S4) ++ (tpW cy atp Stp)) H locs := hw.perm [0, 1, 2, 3, 4, 5, 6, 7, 8] rfl rfl
        obtain ⟨c43, hm⟩ := hm
        refine sI hc hw 1 rfl c43 rfl dX4_split_65 (fun H locs hw => ?_)
        obtain ⟨S44, e_S44⟩ : ∃ z : Ob, z = uA S4 0 (Int32.toNatClampNeg x3_3) r41 := ⟨_, rfl⟩
        have hm := hm S44 e_S44
        have hw : wV D A s.heap ((rW cy aR S44) ++ (tpW cy atp Stp)) H locs := by rw [e_S44]; exact hw
        refine lv_goto (tgt := 121) hx hb dX4_split_66 (by decide) ?_
        exact hJ19 _ _ hm _ _ _ hw (lv_sub hl [5, 6, 7, 4, 3, 2, 0, 1] rfl)
set_option maxHeartbeats 4000000 in
set_option maxRecDepth 100000 in
theorem c_X8_refuse {l : Launch} {D : va_G} {cy : Nat → ClassId} {aO : Nat → Nat} {e_O_table : Nat} {e_O_images : Nat} {e_O_tape : Nat} {e_O_reader : Nat} {e_O_plan : Nat} {e_O_trial : Option Nat} {e_O_season : Option Nat} {e_O_dates : Nat} {e_O_line : Nat} {e_O_evening : Nat} {e_O_choices : Nat} {SO : Ob} {x1 : Int32} {Q : Int32 → Ob → Prop} (hm : w_X8_refuse SO x1 Q) : CtI l yX8_refuse cX8_refuse 2 (some .int) (rmN 0) D cy [.ref (aO 0), .int x1] (oW cy aO e_O_table e_O_images e_O_tape e_O_reader e_O_plan e_O_trial e_O_season e_O_dates e_O_line e_O_evening e_O_choices SO) (fun u : Ob => (oW cy aO e_O_table e_O_images e_O_tape e_O_reader e_O_plan e_O_trial e_O_season e_O_dates e_O_line e_O_evening e_O_choices u)) Q := by
  refine CtI.ofW (by decide) (Nat.le_of_ble_eq_true rfl) ?_
  intro p e s m args below meth c A ls hc hnm hw hl
  have hx := hc.1.1
  have hb := hc.1.2.1
  have hown := hc.1.2.2.2.1
  have hts := hc.1.2.2.2.2
  have hl : lv_has ls 2 [(0, .ref (aO 0)), (1, .int x1)] := hl
  obtain ⟨H, hH⟩ : ∃ z, z = s.heap := ⟨_, rfl⟩
  obtain ⟨locs, hLc⟩ : ∃ z : List Loc, z = [] := ⟨_, rfl⟩
  have hw : wV D A s.heap (oW cy aO e_O_table e_O_images e_O_tape e_O_reader e_O_plan e_O_trial e_O_season e_O_dates e_O_line e_O_evening e_O_choices SO) H locs := by rw [hH, hLc]; exact hw
  have hgo : W p l e (rmN 0) s m args below meth c H locs 0 0 (MQ below (eI D cy A (fun u : Ob => (oW cy aO e_O_table e_O_images e_O_tape e_O_reader e_O_plan e_O_trial e_O_season e_O_dates e_O_line e_O_evening e_O_choices u)) Q) args s (rmN 0).cells (rmN 0).slots A) (F0 m 0 ls []) := ?hgo
  · rw [hH, hLc] at hgo; exact hgo
  refine lv_aload_n hx hb dX8_refuse_0 rfl (lv_at hl 0 rfl) ?_
  refine lv_iload_n hx hb dX8_refuse_1 rfl (lv_at hl 1 rfl) ?_
  refine pF (k := 16) (ty := .int) hc hw inX8 tyX8_ok nmX8 rfl 0 rfl (by decide) (gm 431 (by decide +kernel) rfl) rfl (by decide +kernel) rfl rfl (Nat.le_of_ble_eq_true rfl) dX8_refuse_2 (fun H locs hw => ?_)
  obtain ⟨S1, e_S1⟩ : ∃ z : Ob, z = uS SO 16 x1 := ⟨_, rfl⟩
  have hm := hm S1 e_S1
  have hw : wV D A s.heap (oW cy aO e_O_table e_O_images e_O_tape e_O_reader e_O_plan e_O_trial e_O_season e_O_dates e_O_line e_O_evening e_O_choices S1) H locs := by rw [e_S1]; exact hw
  refine lv_iload_n hx hb dX8_refuse_5 rfl (lv_at hl 1 rfl) ?_
  refine lv_if_ge (tgt := 26) hx hb dX8_refuse_6 (by decide) (fun c6 => ?_) (fun c6 => ?_)
  · have hm := hm.1 c6
    refine lv_iload_n hx hb dX8_refuse_26 rfl (lv_at hl 1 rfl) ?_
    exact retI (u := S1) hc hw hm dX8_refuse_27
  · have hm := hm.2 c6
    refine lv_iload_n hx hb dX8_refuse_9 rfl (lv_at hl 1 rfl) ?_
    refine lv_bipush (v := (-6)) hx hb dX8_refuse_10 (by decide) ?_
    refine lv_icmp_lt (tgt := 26) hx hb dX8_refuse_12 (by decide) (fun c5 => ?_) (fun c5 => ?_)
    · have hm := hm.1 c5
      refine lv_iload_n hx hb dX8_refuse_26 rfl (lv_at hl 1 rfl) ?_
      exact retI (u := S1) hc hw hm dX8_refuse_27
    · have hm := hm.2 c5
      refine lv_aload_n hx hb dX8_refuse_15 rfl (lv_at hl 0 rfl) ?_
      refine gF (k := 15) hc hw inX8 rfl 0 rfl (by decide) (gm 430 (by decide +kernel) rfl) rfl dX8_refuse_16 ?_
      refine lv_iload_n hx hb dX8_refuse_19 rfl (lv_at hl 1 rfl) ?_
      refine lv_ineg hx hb dX8_refuse_20 ?_
      refine lv_dup2_11 hx hb dX8_refuse_21 rfl rfl ?_
      obtain ⟨c2, hm⟩ := hm
      refine aI hc hw 2 rfl c2 rfl dX8_refuse_22 ?_
      refine lv_iconst (v := 1) hx hb dX8_refuse_23 (by decide) ?_
      refine lv_iadd hx hb dX8_refuse_24 ?_
      obtain ⟨c3, hm⟩ := hm
      refine sI hc hw 2 rfl c3 rfl dX8_refuse_25 (fun H locs hw => ?_)
      obtain ⟨S4, e_S4⟩ : ∃ z : Ob, z = uA S1 15 (Int32.toNatClampNeg (-x1)) ((S1.2 15 (Int32.toNatClampNeg (-x1))) + 1) := ⟨_, rfl⟩
      have hm := hm S4 e_S4
      have hw : wV D A s.heap (oW cy aO e_O_table e_O_images e_O_tape e_O_reader e_O_plan e_O_trial e_O_season e_O_dates e_O_line e_O_evening e_O_choices S4) H locs := by rw [e_S4]; exact hw
      refine lv_iload_n hx hb dX8_refuse_26 rfl (lv_at hl 1 rfl) ?_
      exact retI (u := S4) hc hw hm dX8_refuse_27
set_option maxHeartbeats 4000000 in
set_option maxRecDepth 100000 in
theorem c_X8_accept {l : Launch} {D : va_G} {cy : Nat → ClassId} {aO : Nat → Nat} {e_O_table : Nat} {e_O_images : Nat} {e_O_tape : Nat} {e_O_reader : Nat} {e_O_plan : Nat} {e_O_trial : Option Nat} {e_O_season : Option Nat} {e_O_dates : Nat} {e_O_line : Nat} {e_O_evening : Nat} {e_O_choices : Nat} {SO : Ob} {x1 : Int32} {Q : Int32 → Ob → Prop} (hm : w_X8_accept SO x1 Q) : CtI l yX8_accept cX8_accept 2 (some .int) (rmN 0) D cy [.ref (aO 0), .int x1] (oW cy aO e_O_table e_O_images e_O_tape e_O_reader e_O_plan e_O_trial e_O_season e_O_dates e_O_line e_O_evening e_O_choices SO) (fun u : Ob => (oW cy aO e_O_table e_O_images e_O_tape e_O_reader e_O_plan e_O_trial e_O_season e_O_dates e_O_line e_O_evening e_O_choices u)) Q := by
  refine CtI.ofW (by decide) (Nat.le_of_ble_eq_true rfl) ?_
  intro p e s m args below meth c A ls hc hnm hw hl
  have hx := hc.1.1
  have hb := hc.1.2.1
  have hown := hc.1.2.2.2.1
  have hts := hc.1.2.2.2.2
  have hl : lv_has ls 2 [(0, .ref (aO 0)), (1, .int x1)] := hl
  obtain ⟨H, hH⟩ : ∃ z, z = s.heap := ⟨_, rfl⟩
  obtain ⟨locs, hLc⟩ : ∃ z : List Loc, z = [] := ⟨_, rfl⟩
  have hw : wV D A s.heap (oW cy aO e_O_table e_O_images e_O_tape e_O_reader e_O_plan e_O_trial e_O_season e_O_dates e_O_line e_O_evening e_O_choices SO) H locs := by rw [hH, hLc]; exact hw
  have hgo : W p l e (rmN 0) s m args below meth c H locs 0 0 (MQ below (eI D cy A (fun u : Ob => (oW cy aO e_O_table e_O_images e_O_tape e_O_reader e_O_plan e_O_trial e_O_season e_O_dates e_O_line e_O_evening e_O_choices u)) Q) args s (rmN 0).cells (rmN 0).slots A) (F0 m 0 ls []) := ?hgo
  · rw [hH, hLc] at hgo; exact hgo
  refine lv_aload_n hx hb dX8_accept_0 rfl (lv_at hl 0 rfl) ?_
  refine lv_iconst (v := 0) hx hb dX8_accept_1 (by decide) ?_
  refine pF (k := 16) (ty := .int) hc hw inX8 tyX8_ok nmX8 rfl 0 rfl (by decide) (gm 431 (by decide +kernel) rfl) rfl (by decide +kernel) rfl rfl (Nat.le_of_ble_eq_true rfl) dX8_accept_2 (fun H locs hw => ?_)
  obtain ⟨S1, e_S1⟩ : ∃ z : Ob, z = uS SO 16 0 := ⟨_, rfl⟩
  have hm := hm S1 e_S1
  have hw : wV D A s.heap (oW cy aO e_O_table e_O_images e_O_tape e_O_reader e_O_plan e_O_trial e_O_season e_O_dates e_O_line e_O_evening e_O_choices S1) H locs := by rw [e_S1]; exact hw
  refine lv_iload_n hx hb dX8_accept_5 rfl (lv_at hl 1 rfl) ?_
  exact retI (u := S1) hc hw hm dX8_accept_6
