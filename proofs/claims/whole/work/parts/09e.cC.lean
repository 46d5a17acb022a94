set_option maxHeartbeats 4000000 in
set_option maxRecDepth 100000 in
theorem c_X4_isLetter {l : Launch} {D : va_G} {cy : Nat → ClassId} {x0 : Int32} {Q : Int32 → Prop} (hm : w_X4_isLetter x0 Q) : CtI l yX4_isLetter cX4_isLetter 1 (some .boolean) (rmN 0) D cy [.int x0] ([] : va_W) (fun _ : Unit => ([] : va_W)) (fun (r : Int32) (_ : Unit) => Q r) := by
  refine CtI.ofW (by decide) (Nat.le_of_ble_eq_true rfl) ?_
  intro p e s m args below meth c A ls hc hnm hw hl
  have hx := hc.1.1
  have hb := hc.1.2.1
  have hown := hc.1.2.2.2.1
  have hts := hc.1.2.2.2.2
  have hl : lv_has ls 1 [(0, .int x0)] := hl
  obtain ⟨H, hH⟩ : ∃ z, z = s.heap := ⟨_, rfl⟩
  obtain ⟨locs, hLc⟩ : ∃ z : List Loc, z = [] := ⟨_, rfl⟩
  have hw : wV D A s.heap ([] : va_W) H locs := by rw [hH, hLc]; exact hw
  have hgo : W p l e (rmN 0) s m args below meth c H locs 0 0 (MQ below (eI D cy A (fun _ : Unit => ([] : va_W)) (fun (r : Int32) (_ : Unit) => Q r)) args s (rmN 0).cells (rmN 0).slots A) (F0 m 0 ls []) := ?hgo
  · rw [hH, hLc] at hgo; exact hgo
  refine lv_iload_n hx hb dX4_isLetter_0 rfl (lv_at hl 0 rfl) ?_
  refine lv_bipush (v := 97) hx hb dX4_isLetter_1 (by decide) ?_
  refine lv_icmp_lt (tgt := 16) hx hb dX4_isLetter_3 (by decide) (fun c2 => ?_) (fun c2 => ?_)
  · have hm := hm.1 c2
    refine lv_iconst (v := 0) hx hb dX4_isLetter_16 (by decide) ?_
    exact retZ (u := ()) hc hw rfl hm dX4_isLetter_17
  · have hm := hm.2 c2
    refine lv_iload_n hx hb dX4_isLetter_6 rfl (lv_at hl 0 rfl) ?_
    refine lv_bipush (v := 122) hx hb dX4_isLetter_7 (by decide) ?_
    refine lv_icmp_gt (tgt := 16) hx hb dX4_isLetter_9 (by decide) (fun c1 => ?_) (fun c1 => ?_)
    · have hm := hm.1 c1
      refine lv_iconst (v := 0) hx hb dX4_isLetter_16 (by decide) ?_
      exact retZ (u := ()) hc hw rfl hm dX4_isLetter_17
    · have hm := hm.2 c1
      refine lv_iconst (v := 1) hx hb dX4_isLetter_12 (by decide) ?_
      refine lv_goto (tgt := 17) hx hb dX4_isLetter_13 (by decide) ?_
      exact retZ (u := ()) hc hw rfl hm dX4_isLetter_17
set_option maxHeartbeats 4000000 in
set_option maxRecDepth 100000 in
theorem c_X4_isDigit {l : Launch} {D : va_G} {cy : Nat → ClassId} {x0 : Int32} {Q : Int32 → Prop} (hm : w_X4_isDigit x0 Q) : CtI l yX4_isDigit cX4_isDigit 1 (some .boolean) (rmN 0) D cy [.int x0] ([] : va_W) (fun _ : Unit => ([] : va_W)) (fun (r : Int32) (_ : Unit) => Q r) := by
  refine CtI.ofW (by decide) (Nat.le_of_ble_eq_true rfl) ?_
  intro p e s m args below meth c A ls hc hnm hw hl
  have hx := hc.1.1
  have hb := hc.1.2.1
  have hown := hc.1.2.2.2.1
  have hts := hc.1.2.2.2.2
  have hl : lv_has ls 1 [(0, .int x0)] := hl
  obtain ⟨H, hH⟩ : ∃ z, z = s.heap := ⟨_, rfl⟩
  obtain ⟨locs, hLc⟩ : ∃ z : List Loc, z = [] := ⟨_, rfl⟩
  have hw : wV D A s.heap ([] : va_W) H locs := by rw [hH, hLc]; exact hw
  have hgo : W p l e (rmN 0) s m args below meth c H locs 0 0 (MQ below (eI D cy A (fun _ : Unit => ([] : va_W)) (fun (r : Int32) (_ : Unit) => Q r)) args s (rmN 0).cells (rmN 0).slots A) (F0 m 0 ls []) := ?hgo
  · rw [hH, hLc] at hgo; exact hgo
  refine lv_iload_n hx hb dX4_isDigit_0 rfl (lv_at hl 0 rfl) ?_
  refine lv_bipush (v := 48) hx hb dX4_isDigit_1 (by decide) ?_
  refine lv_icmp_lt (tgt := 16) hx hb dX4_isDigit_3 (by decide) (fun c2 => ?_) (fun c2 => ?_)
  · have hm := hm.1 c2
    refine lv_iconst (v := 0) hx hb dX4_isDigit_16 (by decide) ?_
    exact retZ (u := ()) hc hw rfl hm dX4_isDigit_17
  · have hm := hm.2 c2
    refine lv_iload_n hx hb dX4_isDigit_6 rfl (lv_at hl 0 rfl) ?_
    refine lv_bipush (v := 57) hx hb dX4_isDigit_7 (by decide) ?_
    refine lv_icmp_gt (tgt := 16) hx hb dX4_isDigit_9 (by decide) (fun c1 => ?_) (fun c1 => ?_)
    · have hm := hm.1 c1
      refine lv_iconst (v := 0) hx hb dX4_isDigit_16 (by decide) ?_
      exact retZ (u := ()) hc hw rfl hm dX4_isDigit_17
    · have hm := hm.2 c1
      refine lv_iconst (v := 1) hx hb dX4_isDigit_12 (by decide) ?_
      refine lv_goto (tgt := 17) hx hb dX4_isDigit_13 (by decide) ?_
      exact retZ (u := ()) hc hw rfl hm dX4_isDigit_17
set_option maxHeartbeats 4000000 in
set_option maxRecDepth 100000 in
theorem c_X4_runEnd {l : Launch} {D : va_G} {cy : Nat → ClassId} {atp : Nat → Nat} {Stp : (Nat → Int32)} {x1 : Int32} {x2 : Int32} {x3 : Int32} {Q : Int32 → Prop} (hm : w_X4_runEnd Stp x1 x2 x3 Q) : CtI l yX4_runEnd cX4_runEnd 6 (some .int) (rmN 1) D cy [.ref (atp 0), .int x1, .int x2, .int x3] (tpW cy atp Stp) (fun _ : Unit => (tpW cy atp Stp)) (fun (r : Int32) (_ : Unit) => Q r) := by
  refine CtI.ofW (by decide) (Nat.le_of_ble_eq_true rfl) ?_
  intro p e s m args below meth c A ls hc hnm hw hl
  have hx := hc.1.1
  have hb := hc.1.2.1
  have hown := hc.1.2.2.2.1
  have hts := hc.1.2.2.2.2
  have hl : lv_has ls 6 [(0, .ref (atp 0)), (1, .int x1), (2, .int x2), (3, .int x3)] := hl
  obtain ⟨H, hH⟩ : ∃ z, z = s.heap := ⟨_, rfl⟩
  obtain ⟨locs, hLc⟩ : ∃ z : List Loc, z = [] := ⟨_, rfl⟩
  have hw : wV D A s.heap (tpW cy atp Stp) H locs := by rw [hH, hLc]; exact hw
  have hgo : W p l e (rmN 1) s m args below meth c H locs 0 0 (MQ below (eI D cy A (fun _ : Unit => (tpW cy atp Stp)) (fun (r : Int32) (_ : Unit) => Q r)) args s (rmN 1).cells (rmN 1).slots A) (F0 m 0 ls []) := ?hgo
  · rw [hH, hLc] at hgo; exact hgo
  refine lv_iload_n hx hb dX4_runEnd_0 rfl (lv_at hl 1 rfl) ?_
  refine lv_istore (lv' := [(4, .int x1), (0, .ref (atp 0)), (1, .int x1), (2, .int x2), (3, .int x3)]) hx hb dX4_runEnd_1 hl (by decide) rfl (fun ls hl => ?_)
  refine lv_iconst (v := 0) hx hb dX4_runEnd_3 (by decide) ?_
  refine lv_istore (lv' := [(5, .int 0), (4, .int x1), (0, .ref (atp 0)), (1, .int x1), (2, .int x2), (3, .int x3)]) hx hb dX4_runEnd_4 hl (by decide) rfl (fun ls hl => ?_)
  refine wl2_ind (G := fun (x5_1 : Int32) (x4_2 : Int32) => ∀ (H : Heap) (locs : List Loc) (ls : Array Slot), wV D A s.heap (tpW cy atp Stp) H locs → lv_has ls 6 [(5, .int x5_1), (4, .int x4_2), (0, .ref (atp 0)), (2, .int x2), (3, .int x3)] → W p l e (rmN 1) s m args below meth c H locs 0 0 (MQ below (eI D cy A (fun _ : Unit => (tpW cy atp Stp)) (fun (r : Int32) (_ : Unit) => Q r)) args s (rmN 1).cells (rmN 1).slots A) (F0 m 6 ls [])) ?_ _ _ hm H locs ls hw (lv_sub hl [0, 1, 2, 4, 5] rfl)
  intro L3 ih3 x5_1 x4_2 hm H locs ls hw hl
  refine lv_iload hx hb dX4_runEnd_6 (lv_at hl 0 rfl) ?_
  refine lv_sipush (v := 400) hx hb dX4_runEnd_8 (by decide) ?_
  refine lv_icmp_ge (tgt := 59) hx hb dX4_runEnd_11 (by decide) (fun c18 => ?_) (fun c18 => ?_)
  · have hm := hm.1 c18
    refine lv_iload hx hb dX4_runEnd_59 (lv_at hl 1 rfl) ?_
    exact retI (u := ()) hc hw hm dX4_runEnd_61
  · have hm := hm.2 c18
    refine lv_iload hx hb dX4_runEnd_14 (lv_at hl 1 rfl) ?_
    refine lv_iload_n hx hb dX4_runEnd_16 rfl (lv_at hl 3 rfl) ?_
    refine lv_icmp_ge (tgt := 59) hx hb dX4_runEnd_17 (by decide) (fun c17 => ?_) (fun c17 => ?_)
    · have hm := hm.1 c17
      refine lv_iload hx hb dX4_runEnd_59 (lv_at hl 1 rfl) ?_
      exact retI (u := ()) hc hw hm dX4_runEnd_61
    · have hm := hm.2 c17
      refine lv_iload_n hx hb dX4_runEnd_20 rfl (lv_at hl 4 rfl) ?_
      refine lv_if_eq (tgt := 37) hx hb dX4_runEnd_21 (by decide) (fun c16 => ?_) (fun c16 => ?_)
      · have hm := hm.1 c16
        refine lv_aload_n hx hb dX4_runEnd_37 rfl (lv_at hl 2 rfl) ?_
        refine lv_iload hx hb dX4_runEnd_38 (lv_at hl 1 rfl) ?_
        obtain ⟨c4, hm⟩ := hm
        refine aI hc hw 0 rfl c4 rfl dX4_runEnd_40 ?_
        refine zS_I (As := [.int (Stp (Int32.toNatClampNeg x4_2))]) (rest := []) hc hw (c_X4_isDigit hm) lk_X4_89 ⟨Nat.le_of_ble_eq_true rfl, Nat.le_of_ble_eq_true rfl⟩ ⟨Nat.le_of_ble_eq_true rfl, Nat.le_of_ble_eq_true rfl⟩ hl.1 rfl (Nat.le_of_ble_eq_true rfl) rfl dX4_runEnd_41 (fun r5 H locs hm hw => ?_)
        refine lv_if_ne (tgt := 50) hx hb dX4_runEnd_44 (by decide) (fun c9 => ?_) (fun c9 => ?_)
        · have hm := hm.1 c9
          obtain ⟨v7, e_v7⟩ : ∃ z : Int32, z = x4_2 + 1 := ⟨_, rfl⟩
          have hm := hm v7 e_v7
          refine lv_iinc (v := v7) (lv' := [(4, .int v7), (5, .int x5_1), (0, .ref (atp 0)), (2, .int x2), (3, .int x3)]) hx hb dX4_runEnd_50 hl (k := 1) rfl (by rw [e_v7]; rfl) (by decide) rfl (fun ls hl => ?_)
          obtain ⟨v8, e_v8⟩ : ∃ z : Int32, z = x5_1 + 1 := ⟨_, rfl⟩
          have hm := hm v8 e_v8
          refine lv_iinc (v := v8) (lv' := [(5, .int v8), (4, .int v7), (0, .ref (atp 0)), (2, .int x2), (3, .int x3)]) hx hb dX4_runEnd_53 hl (k := 1) rfl (by rw [e_v8]; rfl) (by decide) rfl (fun ls hl => ?_)
          refine lv_goto (tgt := 6) hx hb dX4_runEnd_56 (by decide) ?_
          exact ih3 _ _ hm _ _ _ hw (lv_sub hl [0, 1, 2, 3, 4] rfl)
        · have hm := hm.2 c9
          refine lv_goto (tgt := 59) hx hb dX4_runEnd_47 (by decide) ?_
          refine lv_iload hx hb dX4_runEnd_59 (lv_at hl 1 rfl) ?_
          exact retI (u := ()) hc hw hm dX4_runEnd_61
      · have hm := hm.2 c16
        refine lv_aload_n hx hb dX4_runEnd_24 rfl (lv_at hl 2 rfl) ?_
        refine lv_iload hx hb dX4_runEnd_25 (lv_at hl 1 rfl) ?_
        obtain ⟨c10, hm⟩ := hm
        refine aI hc hw 0 rfl c10 rfl dX4_runEnd_27 ?_
        refine zS_I (As := [.int (Stp (Int32.toNatClampNeg x4_2))]) (rest := []) hc hw (c_X4_isLetter hm) lk_X4_78 ⟨Nat.le_of_ble_eq_true rfl, Nat.le_of_ble_eq_true rfl⟩ ⟨Nat.le_of_ble_eq_true rfl, Nat.le_of_ble_eq_true rfl⟩ hl.1 rfl (Nat.le_of_ble_eq_true rfl) rfl dX4_runEnd_28 (fun r11 H locs hm hw => ?_)
        refine lv_if_eq (tgt := 59) hx hb dX4_runEnd_31 (by decide) (fun c15 => ?_) (fun c15 => ?_)
        · have hm := hm.1 c15
          refine lv_iload hx hb dX4_runEnd_59 (lv_at hl 1 rfl) ?_
          exact retI (u := ()) hc hw hm dX4_runEnd_61
        · have hm := hm.2 c15
          refine lv_goto (tgt := 50) hx hb dX4_runEnd_34 (by decide) ?_
          obtain ⟨v13, e_v13⟩ : ∃ z : Int32, z = x4_2 + 1 := ⟨_, rfl⟩
          have hm := hm v13 e_v13
          refine lv_iinc (v := v13) (lv' := [(4, .int v13), (5, .int x5_1), (0, .ref (atp 0)), (2, .int x2), (3, .int x3)]) hx hb dX4_runEnd_50 hl (k := 1) rfl (by rw [e_v13]; rfl) (by decide) rfl (fun ls hl => ?_)
          obtain ⟨v14, e_v14⟩ : ∃ z : Int32, z = x5_1 + 1 := ⟨_, rfl⟩
          have hm := hm v14 e_v14
          refine lv_iinc (v := v14) (lv' := [(5, .int v14), (4, .int v13), (0, .ref (atp 0)), (2, .int x2), (3, .int x3)]) hx hb dX4_runEnd_53 hl (k := 1) rfl (by rw [e_v14]; rfl) (by decide) rfl (fun ls hl => ?_)
          refine lv_goto (tgt := 6) hx hb dX4_runEnd_56 (by decide) ?_
          exact ih3 _ _ hm _ _ _ hw (lv_sub hl [0, 1, 2, 3, 4] rfl)
set_option maxHeartbeats 4000000 in
set_option maxRecDepth 100000 in
theorem c_X4_valueOf {l : Launch} {D : va_G} {cy : Nat → ClassId} {atp : Nat → Nat} {Stp : (Nat → Int32)} {x1 : Int32} {x2 : Int32} {Q : Int32 → Prop} (hm : w_X4_valueOf Stp x1 x2 Q) : CtI l yX4_valueOf cX4_valueOf 5 (some .int) (rmN 2) D cy [.ref (atp 0), .int x1, .int x2] (tpW cy atp Stp) (fun _ : Unit => (tpW cy atp Stp)) (fun (r : Int32) (_ : Unit) => Q r) := by
  refine CtI.ofW (by decide) (Nat.le_of_ble_eq_true rfl) ?_
  intro p e s m args below meth c A ls hc hnm hw hl
  have hx := hc.1.1
  have hb := hc.1.2.1
  have hown := hc.1.2.2.2.1
  have hts := hc.1.2.2.2.2
  have hl : lv_has ls 5 [(0, .ref (atp 0)), (1, .int x1), (2, .int x2)] := hl
  obtain ⟨H, hH⟩ : ∃ z, z = s.heap := ⟨_, rfl⟩
  obtain ⟨locs, hLc⟩ : ∃ z : List Loc, z = [] := ⟨_, rfl⟩
  have hw : wV D A s.heap (tpW cy atp Stp) H locs := by rw [hH, hLc]; exact hw
  have hgo : W p l e (rmN 2) s m args below meth c H locs 0 0 (MQ below (eI D cy A (fun _ : Unit => (tpW cy atp Stp)) (fun (r : Int32) (_ : Unit) => Q r)) args s (rmN 2).cells (rmN 2).slots A) (F0 m 0 ls []) := ?hgo
  · rw [hH, hLc] at hgo; exact hgo
  refine lv_iconst (v := 0) hx hb dX4_valueOf_0 (by decide) ?_
  refine lv_istore_n (lv' := [(3, .int 0), (0, .ref (atp 0)), (1, .int x1), (2, .int x2)]) hx hb dX4_valueOf_1 rfl hl (by decide) rfl (fun ls hl => ?_)
  refine lv_iload_n hx hb dX4_valueOf_2 rfl (lv_at hl 2 rfl) ?_
  refine lv_istore (lv' := [(4, .int x1), (3, .int 0), (0, .ref (atp 0)), (1, .int x1), (2, .int x2)]) hx hb dX4_valueOf_3 hl (by decide) rfl (fun ls hl => ?_)
  refine wl2_ind (G := fun (x4_1 : Int32) (x3_2 : Int32) => ∀ (H : Heap) (locs : List Loc) (ls : Array Slot), wV D A s.heap (tpW cy atp Stp) H locs → lv_has ls 5 [(4, .int x4_1), (3, .int x3_2), (0, .ref (atp 0)), (2, .int x2)] → W p l e (rmN 2) s m args below meth c H locs 0 0 (MQ below (eI D cy A (fun _ : Unit => (tpW cy atp Stp)) (fun (r : Int32) (_ : Unit) => Q r)) args s (rmN 2).cells (rmN 2).slots A) (F0 m 5 ls [])) ?_ _ _ hm H locs ls hw (lv_sub hl [0, 1, 2, 4] rfl)
  intro L3 ih3 x4_1 x3_2 hm H locs ls hw hl
  refine lv_iload hx hb dX4_valueOf_5 (lv_at hl 0 rfl) ?_
  refine lv_iload_n hx hb dX4_valueOf_7 rfl (lv_at hl 3 rfl) ?_
  refine lv_icmp_ge (tgt := 36) hx hb dX4_valueOf_8 (by decide) (fun c7 => ?_) (fun c7 => ?_)
  · have hm := hm.1 c7
    refine lv_iload_n hx hb dX4_valueOf_36 rfl (lv_at hl 1 rfl) ?_
    exact retI (u := ()) hc hw hm dX4_valueOf_37
  · have hm := hm.2 c7
    refine lv_iload_n hx hb dX4_valueOf_11 rfl (lv_at hl 1 rfl) ?_
    refine lv_bipush (v := 10) hx hb dX4_valueOf_12 (by decide) ?_
    refine lv_imul hx hb dX4_valueOf_14 ?_
    refine lv_aload_n hx hb dX4_valueOf_15 rfl (lv_at hl 2 rfl) ?_
    refine lv_iload hx hb dX4_valueOf_16 (lv_at hl 0 rfl) ?_
    obtain ⟨c4, hm⟩ := hm
    refine aI hc hw 0 rfl c4 rfl dX4_valueOf_18 ?_
    refine lv_iadd hx hb dX4_valueOf_19 ?_
    refine lv_bipush (v := 48) hx hb dX4_valueOf_20 (by decide) ?_
    refine lv_isub hx hb dX4_valueOf_22 ?_
    refine lv_sipush (v := 2001) hx hb dX4_valueOf_23 (by decide) ?_
    refine m_min (rest := []) hc hl.1 (gm 683 (by decide +kernel) rfl) (Nat.le_of_ble_eq_true rfl) (Nat.le_of_ble_eq_true rfl) (Nat.le_of_ble_eq_true rfl) (Nat.le_of_ble_eq_true rfl) dX4_valueOf_26 ?_
    refine lv_topi (fun v5 e_v5 => ?_)
    have hm := hm v5 e_v5
    refine lv_istore_n (lv' := [(3, .int v5), (4, .int x4_1), (0, .ref (atp 0)), (2, .int x2)]) hx hb dX4_valueOf_29 rfl hl (by decide) rfl (fun ls hl => ?_)
    obtain ⟨v6, e_v6⟩ : ∃ z : Int32, z = x4_1 + 1 := ⟨_, rfl⟩
    have hm := hm v6 e_v6
    refine lv_iinc (v := v6) (lv' := [(4, .int v6), (3, .int v5), (0, .ref (atp 0)), (2, .int x2)]) hx hb dX4_valueOf_30 hl (k := 1) rfl (by rw [e_v6]; rfl) (by decide) rfl (fun ls hl => ?_)
    refine lv_goto (tgt := 5) hx hb dX4_valueOf_33 (by decide) ?_
    exact ih3 _ _ hm _ _ _ hw (lv_sub hl [0, 1, 2, 3] rfl)
set_option maxHeartbeats 4000000 in
set_option maxRecDepth 100000 in
theorem c_X4_next {l : Launch} {D : va_G} {cy : Nat → ClassId} {aR : Nat → Nat} {SR : Ob} {Q : Int32 → Prop} (hm : w_X4_next SR Q) : CtI l yX4_next cX4_next 1 (some .int) (rmN 0) D cy [.ref (aR 0)] (rW cy aR SR) (fun _ : Unit => (rW cy aR SR)) (fun (r : Int32) (_ : Unit) => Q r) := by
  refine CtI.ofW (by decide) (Nat.le_of_ble_eq_true rfl) ?_
  intro p e s m args below meth c A ls hc hnm hw hl
  have hx := hc.1.1
  have hb := hc.1.2.1
  have hown := hc.1.2.2.2.1
  have hts := hc.1.2.2.2.2
  have hl : lv_has ls 1 [(0, .ref (aR 0))] := hl
  obtain ⟨H, hH⟩ : ∃ z, z = s.heap := ⟨_, rfl⟩
  obtain ⟨locs, hLc⟩ : ∃ z : List Loc, z = [] := ⟨_, rfl⟩
  have hw : wV D A s.heap (rW cy aR SR) H locs := by rw [hH, hLc]; exact hw
  have hgo : W p l e (rmN 0) s m args below meth c H locs 0 0 (MQ below (eI D cy A (fun _ : Unit => (rW cy aR SR)) (fun (r : Int32) (_ : Unit) => Q r)) args s (rmN 0).cells (rmN 0).slots A) (F0 m 0 ls []) := ?hgo
  · rw [hH, hLc] at hgo; exact hgo
  refine lv_aload_n hx hb dX4_next_0 rfl (lv_at hl 0 rfl) ?_
  refine gF (k := 3) hc hw inX4 rfl 0 rfl (by decide) (gm 267 (by decide +kernel) rfl) rfl dX4_next_1 ?_
  refine lv_aload_n hx hb dX4_next_4 rfl (lv_at hl 0 rfl) ?_
  refine gF (k := 0) hc hw inX4 rfl 0 rfl (by decide) (gm 264 (by decide +kernel) rfl) rfl dX4_next_5 ?_
  refine aLen (t0 := 0) (v := 401) hc hw 1 rfl rfl rfl dX4_next_8 ?_
  refine lv_icmp_ge (tgt := 24) hx hb dX4_next_9 (by decide) (fun c2 => ?_) (fun c2 => ?_)
  · have hm := hm.1 c2
    refine lv_sipush (v := 283) hx hb dX4_next_24 (by decide) ?_
    exact retI (u := ()) hc hw hm dX4_next_27
  · have hm := hm.2 c2
    refine lv_aload_n hx hb dX4_next_12 rfl (lv_at hl 0 rfl) ?_
    refine gF (k := 0) hc hw inX4 rfl 0 rfl (by decide) (gm 264 (by decide +kernel) rfl) rfl dX4_next_13 ?_
    refine lv_aload_n hx hb dX4_next_16 rfl (lv_at hl 0 rfl) ?_
    refine gF (k := 3) hc hw inX4 rfl 0 rfl (by decide) (gm 267 (by decide +kernel) rfl) rfl dX4_next_17 ?_
    obtain ⟨c1, hm⟩ := hm
    refine aI hc hw 1 rfl c1 rfl dX4_next_20 ?_
    refine lv_goto (tgt := 27) hx hb dX4_next_21 (by decide) ?_
    exact retI (u := ()) hc hw hm dX4_next_27
set_option maxHeartbeats 4000000 in
set_option maxRecDepth 100000 in
theorem c_X4_takes {l : Launch} {D : va_G} {cy : Nat → ClassId} {aR : Nat → Nat} {SR : Ob} {x1 : Int32} {Q : Int32 → Ob → Prop} (hm : w_X4_takes SR x1 Q) : CtI l yX4_takes cX4_takes 2 (some .boolean) (rmN 0) D cy [.ref (aR 0), .int x1] (rW cy aR SR) (fun u : Ob => (rW cy aR u)) Q := by
  refine CtI.ofW (by decide) (Nat.le_of_ble_eq_true rfl) ?_
  intro p e s m args below meth c A ls hc hnm hw hl
  have hx := hc.1.1
  have hb := hc.1.2.1
  have hown := hc.1.2.2.2.1
  have hts := hc.1.2.2.2.2
  have hl : lv_has ls 2 [(0, .ref (aR 0)), (1, .int x1)] := hl
  obtain ⟨H, hH⟩ : ∃ z, z = s.heap := ⟨_, rfl⟩
  obtain ⟨locs, hLc⟩ : ∃ z : List Loc, z = [] := ⟨_, rfl⟩
  have hw : wV D A s.heap (rW cy aR SR) H locs := by rw [hH, hLc]; exact hw
  have hgo : W p l e (rmN 0) s m args below meth c H locs 0 0 (MQ below (eI D cy A (fun u : Ob => (rW cy aR u)) Q) args s (rmN 0).cells (rmN 0).slots A) (F0 m 0 ls []) := ?hgo
  · rw [hH, hLc] at hgo; exact hgo
  refine lv_aload_n hx hb dX4_takes_0 rfl (lv_at hl 0 rfl) ?_
  refine gF (k := 11) hc hw inX4 rfl 0 rfl (by decide) (gm 275 (by decide +kernel) rfl) rfl dX4_takes_1 ?_
  refine lv_iconst (v := (-1)) hx hb dX4_takes_4 (by decide) ?_
  refine lv_icmp_ne (tgt := 33) hx hb dX4_takes_5 (by decide) (fun c5 => ?_) (fun c5 => ?_)
  · have hm := hm.1 c5
    refine lv_iconst (v := 0) hx hb dX4_takes_33 (by decide) ?_
    exact retZ (u := SR) hc hw rfl hm dX4_takes_34
  · have hm := hm.2 c5
    refine lv_aload_n hx hb dX4_takes_8 rfl (lv_at hl 0 rfl) ?_
    refine gF (k := 3) hc hw inX4 rfl 0 rfl (by decide) (gm 267 (by decide +kernel) rfl) rfl dX4_takes_9 ?_
    refine lv_aload_n hx hb dX4_takes_12 rfl (lv_at hl 0 rfl) ?_
    refine gF (k := 0) hc hw inX4 rfl 0 rfl (by decide) (gm 264 (by decide +kernel) rfl) rfl dX4_takes_13 ?_
    refine aLen (t0 := 0) (v := 401) hc hw 1 rfl rfl rfl dX4_takes_16 ?_
    refine lv_icmp_ge (tgt := 33) hx hb dX4_takes_17 (by decide) (fun c4 => ?_) (fun c4 => ?_)
    · have hm := hm.1 c4
      refine lv_iconst (v := 0) hx hb dX4_takes_33 (by decide) ?_
      exact retZ (u := SR) hc hw rfl hm dX4_takes_34
    · have hm := hm.2 c4
      refine lv_aload_n hx hb dX4_takes_20 rfl (lv_at hl 0 rfl) ?_
      refine gF (k := 0) hc hw inX4 rfl 0 rfl (by decide) (gm 264 (by decide +kernel) rfl) rfl dX4_takes_21 ?_
      refine lv_aload_n hx hb dX4_takes_24 rfl (lv_at hl 0 rfl) ?_
      refine gF (k := 3) hc hw inX4 rfl 0 rfl (by decide) (gm 267 (by decide +kernel) rfl) rfl dX4_takes_25 ?_
      obtain ⟨c1, hm⟩ := hm
      refine aI hc hw 1 rfl c1 rfl dX4_takes_28 ?_
      refine lv_iload_n hx hb dX4_takes_29 rfl (lv_at hl 1 rfl) ?_
      refine lv_icmp_eq (tgt := 35) hx hb dX4_takes_30 (by decide) (fun c3 => ?_) (fun c3 => ?_)
      · have hm := hm.1 c3
        refine lv_aload_n hx hb dX4_takes_35 rfl (lv_at hl 0 rfl) ?_
        refine lv_dup hx hb dX4_takes_36 rfl ?_
        refine gF (k := 3) hc hw inX4 rfl 0 rfl (by decide) (gm 267 (by decide +kernel) rfl) rfl dX4_takes_37 ?_
        refine lv_iconst (v := 1) hx hb dX4_takes_40 (by decide) ?_
        refine lv_iadd hx hb dX4_takes_41 ?_
        refine pF (k := 3) (ty := .int) hc hw inX4 tyX4_ok nmX4 rfl 0 rfl (by decide) (gm 267 (by decide +kernel) rfl) rfl (by decide +kernel) rfl rfl (Nat.le_of_ble_eq_true rfl) dX4_takes_42 (fun H locs hw => ?_)
        obtain ⟨S2, e_S2⟩ : ∃ z : Ob, z = uS SR 3 ((SR.1 3) + 1) := ⟨_, rfl⟩
        have hm := hm S2 e_S2
        have hw : wV D A s.heap (rW cy aR S2) H locs := by rw [e_S2]; exact hw
        refine lv_iconst (v := 1) hx hb dX4_takes_45 (by decide) ?_
        exact retZ (u := S2) hc hw rfl hm dX4_takes_46
      · have hm := hm.2 c3
        refine lv_iconst (v := 0) hx hb dX4_takes_33 (by decide) ?_
        exact retZ (u := SR) hc hw rfl hm dX4_takes_34
set_option maxHeartbeats 4000000 in
set_option maxRecDepth 100000 in
theorem c_X4_stop {l : Launch} {D : va_G} {cy : Nat → ClassId} {aR : Nat → Nat} {SR : Ob} {Q : Ob → Prop} (hm : w_X4_stop SR Q) : CtV l yX4_stop cX4_stop 1 none (rmN 0) D cy [.ref (aR 0)] (rW cy aR SR) (fun u : Ob => (rW cy aR u)) Q := by
  refine CtV.ofW (by decide) (Nat.le_of_ble_eq_true rfl) ?_
  intro p e s m args below meth c A ls hc hnm hw hl
  have hx := hc.1.1
  have hb := hc.1.2.1
  have hown := hc.1.2.2.2.1
  have hts := hc.1.2.2.2.2
  have hl : lv_has ls 1 [(0, .ref (aR 0))] := hl
  obtain ⟨H, hH⟩ : ∃ z, z = s.heap := ⟨_, rfl⟩
  obtain ⟨locs, hLc⟩ : ∃ z : List Loc, z = [] := ⟨_, rfl⟩
  have hw : wV D A s.heap (rW cy aR SR) H locs := by rw [hH, hLc]; exact hw
  have hgo : W p l e (rmN 0) s m args below meth c H locs 0 0 (MQ below (eV D cy A (fun u : Ob => (rW cy aR u)) Q) args s (rmN 0).cells (rmN 0).slots A) (F0 m 0 ls []) := ?hgo
  · rw [hH, hLc] at hgo; exact hgo
  refine lv_aload_n hx hb dX4_stop_0 rfl (lv_at hl 0 rfl) ?_
  refine gF (k := 11) hc hw inX4 rfl 0 rfl (by decide) (gm 275 (by decide +kernel) rfl) rfl dX4_stop_1 ?_
  refine lv_iconst (v := (-1)) hx hb dX4_stop_4 (by decide) ?_
  refine lv_icmp_ne (tgt := 39) hx hb dX4_stop_5 (by decide) (fun c6 => ?_) (fun c6 => ?_)
  · have hm := hm.1 c6
    exact retV (u := SR) hc hw hm dX4_stop_39
  · have hm := hm.2 c6
    refine lv_aload_n hx hb dX4_stop_8 rfl (lv_at hl 0 rfl) ?_
    refine lv_aload_n hx hb dX4_stop_9 rfl (lv_at hl 0 rfl) ?_
    refine gF (k := 3) hc hw inX4 rfl 0 rfl (by decide) (gm 267 (by decide +kernel) rfl) rfl dX4_stop_10 ?_
    refine lv_aload_n hx hb dX4_stop_13 rfl (lv_at hl 0 rfl) ?_
    refine gF (k := 2) hc hw inX4 rfl 0 rfl (by decide) (gm 266 (by decide +kernel) rfl) rfl dX4_stop_14 ?_
    refine aLen (t0 := 0) (v := 401) hc hw 3 rfl rfl rfl dX4_stop_17 ?_
    obtain ⟨J2, eJ2, hm⟩ := jn_e hm
    have hJ2 : ∀ (t1 : Int32) (_ : J2 t1) (H : Heap) (locs : List Loc) (ls : Array Slot), wV D A s.heap (rW cy aR SR) H locs → lv_has ls 1 [] → W p l e (rmN 0) s m args below meth c H locs 0 0 (MQ below (eV D cy A (fun u : Ob => (rW cy aR u)) Q) args s (rmN 0).cells (rmN 0).slots A) (F0 m 36 ls [.int t1, .ref (aR 0)]) := by
      intro t1 hm H locs ls hw hl
      rw [eJ2] at hm
      refine pF (k := 11) (ty := .int) hc hw inX4 tyX4_ok nmX4 rfl 0 rfl (by decide) (gm 275 (by decide +kernel) rfl) rfl (by decide +kernel) rfl rfl (Nat.le_of_ble_eq_true rfl) dX4_stop_36 (fun H locs hw => ?_)
      obtain ⟨S3, e_S3⟩ : ∃ z : Ob, z = uS SR 11 t1 := ⟨_, rfl⟩
      have hm := hm S3 e_S3
      have hw : wV D A s.heap (rW cy aR S3) H locs := by rw [e_S3]; exact hw
      exact retV (u := S3) hc hw hm dX4_stop_39
    refine lv_icmp_ge (tgt := 33) hx hb dX4_stop_18 (by decide) (fun c5 => ?_) (fun c5 => ?_)
    · have hm := hm.1 c5
      refine lv_sipush (v := 400) hx hb dX4_stop_33 (by decide) ?_
      exact hJ2 _ hm _ _ _ hw (lv_sub hl [] rfl)
    · have hm := hm.2 c5
      refine lv_aload_n hx hb dX4_stop_21 rfl (lv_at hl 0 rfl) ?_
      refine gF (k := 2) hc hw inX4 rfl 0 rfl (by decide) (gm 266 (by decide +kernel) rfl) rfl dX4_stop_22 ?_
      refine lv_aload_n hx hb dX4_stop_25 rfl (lv_at hl 0 rfl) ?_
      refine gF (k := 3) hc hw inX4 rfl 0 rfl (by decide) (gm 267 (by decide +kernel) rfl) rfl dX4_stop_26 ?_
      obtain ⟨c4, hm⟩ := hm
      refine aI hc hw 3 rfl c4 rfl dX4_stop_29 ?_
      refine lv_goto (tgt := 36) hx hb dX4_stop_30 (by decide) ?_
      exact hJ2 _ hm _ _ _ hw (lv_sub hl [] rfl)
set_option maxHeartbeats 4000000 in
set_option maxRecDepth 100000 in
theorem c_X4_step {l : Launch} {D : va_G} {cy : Nat → ClassId} {aR : Nat → Nat} {SR : Ob} {x1 : Int32} {x2 : Int32} {Q : Ob → Prop} (hm : w_X4_step SR x1 x2 Q) : CtV l yX4_step cX4_step 3 none (rmN 0) D cy [.ref (aR 0), .int x1, .int x2] (rW cy aR SR) (fun u : Ob => (rW cy aR u)) Q := by
  refine CtV.ofW (by decide) (Nat.le_of_ble_eq_true rfl) ?_
  intro p e s m args below meth c A ls hc hnm hw hl
  have hx := hc.1.1
  have hb := hc.1.2.1
  have hown := hc.1.2.2.2.1
  have hts := hc.1.2.2.2.2
  have hl : lv_has ls 3 [(0, .ref (aR 0)), (1, .int x1), (2, .int x2)] := hl
  obtain ⟨H, hH⟩ : ∃ z, z = s.heap := ⟨_, rfl⟩
  obtain ⟨locs, hLc⟩ : ∃ z : List Loc, z = [] := ⟨_, rfl⟩
  have hw : wV D A s.heap (rW cy aR SR) H locs := by rw [hH, hLc]; exact hw
  have hgo : W p l e (rmN 0) s m args below meth c H locs 0 0 (MQ below (eV D cy A (fun u : Ob => (rW cy aR u)) Q) args s (rmN 0).cells (rmN 0).slots A) (F0 m 0 ls []) := ?hgo
  · rw [hH, hLc] at hgo; exact hgo
  refine lv_aload_n hx hb dX4_step_0 rfl (lv_at hl 0 rfl) ?_
  refine gF (k := 9) hc hw inX4 rfl 0 rfl (by decide) (gm 273 (by decide +kernel) rfl) rfl dX4_step_1 ?_
  refine lv_sipush (v := 424) hx hb dX4_step_4 (by decide) ?_
  refine lv_icmp_ge (tgt := 40) hx hb dX4_step_7 (by decide) (fun c6 => ?_) (fun c6 => ?_)
  · have hm := hm.1 c6
    exact retV (u := SR) hc hw hm dX4_step_40
  · have hm := hm.2 c6
    refine lv_aload_n hx hb dX4_step_10 rfl (lv_at hl 0 rfl) ?_
    refine gF (k := 7) hc hw inX4 rfl 0 rfl (by decide) (gm 271 (by decide +kernel) rfl) rfl dX4_step_11 ?_
    refine lv_aload_n hx hb dX4_step_14 rfl (lv_at hl 0 rfl) ?_
    refine gF (k := 9) hc hw inX4 rfl 0 rfl (by decide) (gm 273 (by decide +kernel) rfl) rfl dX4_step_15 ?_
    refine lv_iload_n hx hb dX4_step_18 rfl (lv_at hl 1 rfl) ?_
    obtain ⟨c1, hm⟩ := hm
    refine sI hc hw 6 rfl c1 rfl dX4_step_19 (fun H locs hw => ?_)
    obtain ⟨S2, e_S2⟩ : ∃ z : Ob, z = uA SR 7 (Int32.toNatClampNeg (SR.1 9)) x1 := ⟨_, rfl⟩
    have hm := hm S2 e_S2
    have hw : wV D A s.heap (rW cy aR S2) H locs := by rw [e_S2]; exact hw
    refine lv_aload_n hx hb dX4_step_20 rfl (lv_at hl 0 rfl) ?_
    refine gF (k := 8) hc hw inX4 rfl 0 rfl (by decide) (gm 272 (by decide +kernel) rfl) rfl dX4_step_21 ?_
    refine lv_aload_n hx hb dX4_step_24 rfl (lv_at hl 0 rfl) ?_
    refine gF (k := 9) hc hw inX4 rfl 0 rfl (by decide) (gm 273 (by decide +kernel) rfl) rfl dX4_step_25 ?_
    refine lv_iload_n hx hb dX4_step_28 rfl (lv_at hl 2 rfl) ?_
    obtain ⟨c3, hm⟩ := hm
    refine sI hc hw 7 rfl c3 rfl dX4_step_29 (fun H locs hw => ?_)
    obtain ⟨S4, e_S4⟩ : ∃ z : Ob, z = uA S2 8 (Int32.toNatClampNeg (S2.1 9)) x2 := ⟨_, rfl⟩
    have hm := hm S4 e_S4
    have hw : wV D A s.heap (rW cy aR S4) H locs := by rw [e_S4]; exact hw
    refine lv_aload_n hx hb dX4_step_30 rfl (lv_at hl 0 rfl) ?_
    refine lv_dup hx hb dX4_step_31 rfl ?_
    refine gF (k := 9) hc hw inX4 rfl 0 rfl (by decide) (gm 273 (by decide +kernel) rfl) rfl dX4_step_32 ?_
    refine lv_iconst (v := 1) hx hb dX4_step_35 (by decide) ?_
    refine lv_iadd hx hb dX4_step_36 ?_
    refine pF (k := 9) (ty := .int) hc hw inX4 tyX4_ok nmX4 rfl 0 rfl (by decide) (gm 273 (by decide +kernel) rfl) rfl (by decide +kernel) rfl rfl (Nat.le_of_ble_eq_true rfl) dX4_step_37 (fun H locs hw => ?_)
    obtain ⟨S5, e_S5⟩ : ∃ z : Ob, z = uS S4 9 ((S4.1 9) + 1) := ⟨_, rfl⟩
    have hm := hm S5 e_S5
    have hw : wV D A s.heap (rW cy aR S5) H locs := by rw [e_S5]; exact hw
    exact retV (u := S5) hc hw hm dX4_step_40
set_option maxHeartbeats 4000000 in
set_option maxRecDepth 100000 in
theorem c_X4_land {l : Launch} {D : va_G} {cy : Nat → ClassId} {aR : Nat → Nat} {SR : Ob} {x1 : Int32} {Q : Ob → Prop} (hm : w_X4_land SR x1 Q) : CtV l yX4_land cX4_land 2 none (rmN 0) D cy [.ref (aR 0), .int x1] (rW cy aR SR) (fun u : Ob => (rW cy aR u)) Q := by
  refine CtV.ofW (by decide) (Nat.le_of_ble_eq_true rfl) ?_
  intro p e s m args below meth c A ls hc hnm hw hl
  have hx := hc.1.1
  have hb := hc.1.2.1
  have hown := hc.1.2.2.2.1
  have hts := hc.1.2.2.2.2
  have hl : lv_has ls 2 [(0, .ref (aR 0)), (1, .int x1)] := hl
  obtain ⟨H, hH⟩ : ∃ z, z = s.heap := ⟨_, rfl⟩
  obtain ⟨locs, hLc⟩ : ∃ z : List Loc, z = [] := ⟨_, rfl⟩
  have hw : wV D A s.heap (rW cy aR SR) H locs := by rw [hH, hLc]; exact hw
  have hgo : W p l e (rmN 0) s m args below meth c H locs 0 0 (MQ below (eV D cy A (fun u : Ob => (rW cy aR u)) Q) args s (rmN 0).cells (rmN 0).slots A) (F0 m 0 ls []) := ?hgo
  · rw [hH, hLc] at hgo; exact hgo
  refine lv_iload_n hx hb dX4_land_0 rfl (lv_at hl 1 rfl) ?_
  refine lv_if_le (tgt := 23) hx hb dX4_land_1 (by decide) (fun c4 => ?_) (fun c4 => ?_)
  · have hm := hm.1 c4
    exact retV (u := SR) hc hw hm dX4_land_23
  · have hm := hm.2 c4
    refine lv_iload_n hx hb dX4_land_4 rfl (lv_at hl 1 rfl) ?_
    refine lv_sipush (v := 424) hx hb dX4_land_5 (by decide) ?_
    refine lv_icmp_gt (tgt := 23) hx hb dX4_land_8 (by decide) (fun c3 => ?_) (fun c3 => ?_)
    · have hm := hm.1 c3
      exact retV (u := SR) hc hw hm dX4_land_23
    · have hm := hm.2 c3
      refine lv_aload_n hx hb dX4_land_11 rfl (lv_at hl 0 rfl) ?_
      refine gF (k := 8) hc hw inX4 rfl 0 rfl (by decide) (gm 272 (by decide +kernel) rfl) rfl dX4_land_12 ?_
      refine lv_iload_n hx hb dX4_land_15 rfl (lv_at hl 1 rfl) ?_
      refine lv_iconst (v := 1) hx hb dX4_land_16 (by decide) ?_
      refine lv_isub hx hb dX4_land_17 ?_
      refine lv_aload_n hx hb dX4_land_18 rfl (lv_at hl 0 rfl) ?_
      refine gF (k := 9) hc hw inX4 rfl 0 rfl (by decide) (gm 273 (by decide +kernel) rfl) rfl dX4_land_19 ?_
      obtain ⟨c1, hm⟩ := hm
      refine sI hc hw 7 rfl c1 rfl dX4_land_22 (fun H locs hw => ?_)
      obtain ⟨S2, e_S2⟩ : ∃ z : Ob, z = uA SR 8 (Int32.toNatClampNeg (x1 - 1)) (SR.1 9) := ⟨_, rfl⟩
      have hm := hm S2 e_S2
      have hw : wV D A s.heap (rW cy aR S2) H locs := by rw [e_S2]; exact hw
      exact retV (u := S2) hc hw hm dX4_land_23
