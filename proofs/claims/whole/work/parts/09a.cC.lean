set_option maxHeartbeats 4000000 in
set_option maxRecDepth 100000 in
theorem c_J6_bitCount_0f7a4 {l : Launch} {D : va_G} {cy : Nat → ClassId} {x0 : Int32} {Q : Int32 → Prop} (hm : w_J6_bitCount_0f7a4 x0 Q) : CtI l yJ6_bitCount_0f7a4 cJ6_bitCount_0f7a4 1 (some .int) (rmN 0) D cy [.int x0] ([] : va_W) (fun _ : Unit => ([] : va_W)) (fun (r : Int32) (_ : Unit) => Q r) := by
  refine CtI.ofW (by decide) (Nat.le_of_ble_eq_true rfl) ?_
  intro p e s m args below meth c A ls hc hnm hw hl
  have hx := hc.1.1
  have hb := hc.1.2.1
  have hown := hc.1.2.2.2.1
  have hts := hc.1.2.2.2.2
  have hl : lv_has ls 1 [(0, .int x0)] := hl
  obtain ⟨H, hH⟩ : ∃ z, z = s.heap := ⟨_, rfl⟩
  obtain ⟨locs, hLc⟩ : ∃ z : List Loc, z = [] := ⟨_, rfl⟩
  have hw : wV D A s.heap ([] : va_W) H locs := by rw [hH, hLc]; exact hw
  have hgo : W p l e (rmN 0) s m args below meth c H locs 0 0 (MQ below (eI D cy A (fun _ : Unit => ([] : va_W)) (fun (r : Int32) (_ : Unit) => Q r)) args s (rmN 0).cells (rmN 0).slots A) (F0 m 0 ls []) := ?hgo
  · rw [hH, hLc] at hgo; exact hgo
  refine lv_iload_n hx hb dJ6_bitCount_0f7a4_0 rfl (lv_at hl 0 rfl) ?_
  refine lv_iload_n hx hb dJ6_bitCount_0f7a4_1 rfl (lv_at hl 0 rfl) ?_
  refine lv_iconst (v := 1) hx hb dJ6_bitCount_0f7a4_2 (by decide) ?_
  refine lv_iushr hx hb dJ6_bitCount_0f7a4_3 rfl ?_
  refine lv_ldcw (v := 1431655765) hx hb hown (hts _ (gm 525 (by decide +kernel) rfl)) dJ6_bitCount_0f7a4_4 ?_
  refine lv_iand hx hb dJ6_bitCount_0f7a4_7 ?_
  refine lv_isub hx hb dJ6_bitCount_0f7a4_8 ?_
  refine lv_topi (fun v1 e_v1 => ?_)
  have hm := hm v1 e_v1
  refine lv_istore_n (lv' := [(0, .int v1)]) hx hb dJ6_bitCount_0f7a4_9 rfl hl (by decide) rfl (fun ls hl => ?_)
  refine lv_iload_n hx hb dJ6_bitCount_0f7a4_10 rfl (lv_at hl 0 rfl) ?_
  refine lv_ldcw (v := 858993459) hx hb hown (hts _ (gm 526 (by decide +kernel) rfl)) dJ6_bitCount_0f7a4_11 ?_
  refine lv_iand hx hb dJ6_bitCount_0f7a4_14 ?_
  refine lv_iload_n hx hb dJ6_bitCount_0f7a4_15 rfl (lv_at hl 0 rfl) ?_
  refine lv_iconst (v := 2) hx hb dJ6_bitCount_0f7a4_16 (by decide) ?_
  refine lv_iushr hx hb dJ6_bitCount_0f7a4_17 rfl ?_
  refine lv_ldcw (v := 858993459) hx hb hown (hts _ (gm 526 (by decide +kernel) rfl)) dJ6_bitCount_0f7a4_18 ?_
  refine lv_iand hx hb dJ6_bitCount_0f7a4_21 ?_
  refine lv_iadd hx hb dJ6_bitCount_0f7a4_22 ?_
  refine lv_topi (fun v2 e_v2 => ?_)
  have hm := hm v2 e_v2
  refine lv_istore_n (lv' := [(0, .int v2)]) hx hb dJ6_bitCount_0f7a4_23 rfl hl (by decide) rfl (fun ls hl => ?_)
  refine lv_iload_n hx hb dJ6_bitCount_0f7a4_24 rfl (lv_at hl 0 rfl) ?_
  refine lv_iload_n hx hb dJ6_bitCount_0f7a4_25 rfl (lv_at hl 0 rfl) ?_
  refine lv_iconst (v := 4) hx hb dJ6_bitCount_0f7a4_26 (by decide) ?_
  refine lv_iushr hx hb dJ6_bitCount_0f7a4_27 rfl ?_
  refine lv_iadd hx hb dJ6_bitCount_0f7a4_28 ?_
  refine lv_ldcw (v := 252645135) hx hb hown (hts _ (gm 527 (by decide +kernel) rfl)) dJ6_bitCount_0f7a4_29 ?_
  refine lv_iand hx hb dJ6_bitCount_0f7a4_32 ?_
  refine lv_topi (fun v3 e_v3 => ?_)
  have hm := hm v3 e_v3
  refine lv_istore_n (lv' := [(0, .int v3)]) hx hb dJ6_bitCount_0f7a4_33 rfl hl (by decide) rfl (fun ls hl => ?_)
  refine lv_iload_n hx hb dJ6_bitCount_0f7a4_34 rfl (lv_at hl 0 rfl) ?_
  refine lv_iload_n hx hb dJ6_bitCount_0f7a4_35 rfl (lv_at hl 0 rfl) ?_
  refine lv_bipush (v := 8) hx hb dJ6_bitCount_0f7a4_36 (by decide) ?_
  refine lv_iushr hx hb dJ6_bitCount_0f7a4_38 rfl ?_
  refine lv_iadd hx hb dJ6_bitCount_0f7a4_39 ?_
  refine lv_topi (fun v4 e_v4 => ?_)
  have hm := hm v4 e_v4
  refine lv_istore_n (lv' := [(0, .int v4)]) hx hb dJ6_bitCount_0f7a4_40 rfl hl (by decide) rfl (fun ls hl => ?_)
  refine lv_iload_n hx hb dJ6_bitCount_0f7a4_41 rfl (lv_at hl 0 rfl) ?_
  refine lv_iload_n hx hb dJ6_bitCount_0f7a4_42 rfl (lv_at hl 0 rfl) ?_
  refine lv_bipush (v := 16) hx hb dJ6_bitCount_0f7a4_43 (by decide) ?_
  refine lv_iushr hx hb dJ6_bitCount_0f7a4_45 rfl ?_
  refine lv_iadd hx hb dJ6_bitCount_0f7a4_46 ?_
  refine lv_topi (fun v5 e_v5 => ?_)
  have hm := hm v5 e_v5
  refine lv_istore_n (lv' := [(0, .int v5)]) hx hb dJ6_bitCount_0f7a4_47 rfl hl (by decide) rfl (fun ls hl => ?_)
  refine lv_iload_n hx hb dJ6_bitCount_0f7a4_48 rfl (lv_at hl 0 rfl) ?_
  refine lv_bipush (v := 63) hx hb dJ6_bitCount_0f7a4_49 (by decide) ?_
  refine lv_iand hx hb dJ6_bitCount_0f7a4_51 ?_
  exact retI (u := ()) hc hw hm dJ6_bitCount_0f7a4_52
set_option maxHeartbeats 4000000 in
set_option maxRecDepth 100000 in
theorem c_X7_isFull {l : Launch} {D : va_G} {cy : Nat → ClassId} {aT : Nat → Nat} {ST : Ob} {Q : Int32 → Prop} (hm : w_X7_isFull ST Q) : CtI l yX7_isFull cX7_isFull 1 (some .boolean) (rmN 0) D cy [.ref (aT 0)] (tW cy aT ST) (fun _ : Unit => (tW cy aT ST)) (fun (r : Int32) (_ : Unit) => Q r) := by
  refine CtI.ofW (by decide) (Nat.le_of_ble_eq_true rfl) ?_
  intro p e s m args below meth c A ls hc hnm hw hl
  have hx := hc.1.1
  have hb := hc.1.2.1
  have hown := hc.1.2.2.2.1
  have hts := hc.1.2.2.2.2
  have hl : lv_has ls 1 [(0, .ref (aT 0))] := hl
  obtain ⟨H, hH⟩ : ∃ z, z = s.heap := ⟨_, rfl⟩
  obtain ⟨locs, hLc⟩ : ∃ z : List Loc, z = [] := ⟨_, rfl⟩
  have hw : wV D A s.heap (tW cy aT ST) H locs := by rw [hH, hLc]; exact hw
  have hgo : W p l e (rmN 0) s m args below meth c H locs 0 0 (MQ below (eI D cy A (fun _ : Unit => (tW cy aT ST)) (fun (r : Int32) (_ : Unit) => Q r)) args s (rmN 0).cells (rmN 0).slots A) (F0 m 0 ls []) := ?hgo
  · rw [hH, hLc] at hgo; exact hgo
  refine lv_aload_n hx hb dX7_isFull_0 rfl (lv_at hl 0 rfl) ?_
  refine gF (k := 3) hc hw inX7 rfl 0 rfl (by decide) (gm 179 (by decide +kernel) rfl) rfl dX7_isFull_1 ?_
  refine lv_bipush (v := 10) hx hb dX7_isFull_4 (by decide) ?_
  refine lv_icmp_lt (tgt := 13) hx hb dX7_isFull_6 (by decide) (fun c1 => ?_) (fun c1 => ?_)
  · have hm := hm.1 c1
    refine lv_iconst (v := 0) hx hb dX7_isFull_13 (by decide) ?_
    exact retZ (u := ()) hc hw rfl hm dX7_isFull_14
  · have hm := hm.2 c1
    refine lv_iconst (v := 1) hx hb dX7_isFull_9 (by decide) ?_
    refine lv_goto (tgt := 14) hx hb dX7_isFull_10 (by decide) ?_
    exact retZ (u := ()) hc hw rfl hm dX7_isFull_14
set_option maxHeartbeats 4000000 in
set_option maxRecDepth 100000 in
theorem c_X7_add {l : Launch} {D : va_G} {cy : Nat → ClassId} {aT : Nat → Nat} {ST : Ob} {x1 : Int32} {x2 : Int32} {x3 : Int32} {Q : Ob → Prop} (hm : w_X7_add ST x1 x2 x3 Q) : CtV l yX7_add cX7_add 4 none (rmN 0) D cy [.ref (aT 0), .int x1, .int x2, .int x3] (tW cy aT ST) (fun u : Ob => (tW cy aT u)) Q := by
  refine CtV.ofW (by decide) (Nat.le_of_ble_eq_true rfl) ?_
  intro p e s m args below meth c A ls hc hnm hw hl
  have hx := hc.1.1
  have hb := hc.1.2.1
  have hown := hc.1.2.2.2.1
  have hts := hc.1.2.2.2.2
  have hl : lv_has ls 4 [(0, .ref (aT 0)), (1, .int x1), (2, .int x2), (3, .int x3)] := hl
  obtain ⟨H, hH⟩ : ∃ z, z = s.heap := ⟨_, rfl⟩
  obtain ⟨locs, hLc⟩ : ∃ z : List Loc, z = [] := ⟨_, rfl⟩
  have hw : wV D A s.heap (tW cy aT ST) H locs := by rw [hH, hLc]; exact hw
  have hgo : W p l e (rmN 0) s m args below meth c H locs 0 0 (MQ below (eV D cy A (fun u : Ob => (tW cy aT u)) Q) args s (rmN 0).cells (rmN 0).slots A) (F0 m 0 ls []) := ?hgo
  · rw [hH, hLc] at hgo; exact hgo
  refine lv_aload_n hx hb dX7_add_0 rfl (lv_at hl 0 rfl) ?_
  refine gF (k := 3) hc hw inX7 rfl 0 rfl (by decide) (gm 179 (by decide +kernel) rfl) rfl dX7_add_1 ?_
  refine lv_bipush (v := 10) hx hb dX7_add_4 (by decide) ?_
  refine lv_icmp_ge (tgt := 49) hx hb dX7_add_6 (by decide) (fun c8 => ?_) (fun c8 => ?_)
  · have hm := hm.1 c8
    exact retV (u := ST) hc hw hm dX7_add_49
  · have hm := hm.2 c8
    refine lv_aload_n hx hb dX7_add_9 rfl (lv_at hl 0 rfl) ?_
    refine gF (k := 0) hc hw inX7 rfl 0 rfl (by decide) (gm 167 (by decide +kernel) rfl) rfl dX7_add_10 ?_
    refine lv_aload_n hx hb dX7_add_13 rfl (lv_at hl 0 rfl) ?_
    refine gF (k := 3) hc hw inX7 rfl 0 rfl (by decide) (gm 179 (by decide +kernel) rfl) rfl dX7_add_14 ?_
    refine lv_iload_n hx hb dX7_add_17 rfl (lv_at hl 1 rfl) ?_
    obtain ⟨c1, hm⟩ := hm
    refine sI hc hw 1 rfl c1 rfl dX7_add_18 (fun H locs hw => ?_)
    obtain ⟨S2, e_S2⟩ : ∃ z : Ob, z = uA ST 0 (Int32.toNatClampNeg (ST.1 3)) x1 := ⟨_, rfl⟩
    have hm := hm S2 e_S2
    have hw : wV D A s.heap (tW cy aT S2) H locs := by rw [e_S2]; exact hw
    refine lv_aload_n hx hb dX7_add_19 rfl (lv_at hl 0 rfl) ?_
    refine gF (k := 1) hc hw inX7 rfl 0 rfl (by decide) (gm 171 (by decide +kernel) rfl) rfl dX7_add_20 ?_
    refine lv_aload_n hx hb dX7_add_23 rfl (lv_at hl 0 rfl) ?_
    refine gF (k := 3) hc hw inX7 rfl 0 rfl (by decide) (gm 179 (by decide +kernel) rfl) rfl dX7_add_24 ?_
    refine lv_iload_n hx hb dX7_add_27 rfl (lv_at hl 2 rfl) ?_
    obtain ⟨c3, hm⟩ := hm
    refine sI hc hw 2 rfl c3 rfl dX7_add_28 (fun H locs hw => ?_)
    obtain ⟨S4, e_S4⟩ : ∃ z : Ob, z = uA S2 1 (Int32.toNatClampNeg (S2.1 3)) x2 := ⟨_, rfl⟩
    have hm := hm S4 e_S4
    have hw : wV D A s.heap (tW cy aT S4) H locs := by rw [e_S4]; exact hw
    refine lv_aload_n hx hb dX7_add_29 rfl (lv_at hl 0 rfl) ?_
    refine gF (k := 2) hc hw inX7 rfl 0 rfl (by decide) (gm 175 (by decide +kernel) rfl) rfl dX7_add_30 ?_
    refine lv_aload_n hx hb dX7_add_33 rfl (lv_at hl 0 rfl) ?_
    refine gF (k := 3) hc hw inX7 rfl 0 rfl (by decide) (gm 179 (by decide +kernel) rfl) rfl dX7_add_34 ?_
    refine lv_iload_n hx hb dX7_add_37 rfl (lv_at hl 3 rfl) ?_
    obtain ⟨c5, hm⟩ := hm
    refine sI hc hw 3 rfl c5 rfl dX7_add_38 (fun H locs hw => ?_)
    obtain ⟨S6, e_S6⟩ : ∃ z : Ob, z = uA S4 2 (Int32.toNatClampNeg (S4.1 3)) x3 := ⟨_, rfl⟩
    have hm := hm S6 e_S6
    have hw : wV D A s.heap (tW cy aT S6) H locs := by rw [e_S6]; exact hw
    refine lv_aload_n hx hb dX7_add_39 rfl (lv_at hl 0 rfl) ?_
    refine lv_dup hx hb dX7_add_40 rfl ?_
    refine gF (k := 3) hc hw inX7 rfl 0 rfl (by decide) (gm 179 (by decide +kernel) rfl) rfl dX7_add_41 ?_
    refine lv_iconst (v := 1) hx hb dX7_add_44 (by decide) ?_
    refine lv_iadd hx hb dX7_add_45 ?_
    refine pF (k := 3) (ty := .int) hc hw inX7 tyX7_ok nmX7 rfl 0 rfl (by decide) (gm 179 (by decide +kernel) rfl) rfl (by decide +kernel) rfl rfl (Nat.le_of_ble_eq_true rfl) dX7_add_46 (fun H locs hw => ?_)
    obtain ⟨S7, e_S7⟩ : ∃ z : Ob, z = uS S6 3 ((S6.1 3) + 1) := ⟨_, rfl⟩
    have hm := hm S7 e_S7
    have hw : wV D A s.heap (tW cy aT S7) H locs := by rw [e_S7]; exact hw
    exact retV (u := S7) hc hw hm dX7_add_49
set_option maxHeartbeats 4000000 in
set_option maxRecDepth 100000 in
theorem c_X7_drop {l : Launch} {D : va_G} {cy : Nat → ClassId} {aT : Nat → Nat} {ST : Ob} {Q : Int32 → Ob → Prop} (hm : w_X7_drop ST Q) : CtI l yX7_drop cX7_drop 2 (some .int) (rmN 0) D cy [.ref (aT 0)] (tW cy aT ST) (fun u : Ob => (tW cy aT u)) Q := by
  refine CtI.ofW (by decide) (Nat.le_of_ble_eq_true rfl) ?_
  intro p e s m args below meth c A ls hc hnm hw hl
  have hx := hc.1.1
  have hb := hc.1.2.1
  have hown := hc.1.2.2.2.1
  have hts := hc.1.2.2.2.2
  have hl : lv_has ls 2 [(0, .ref (aT 0))] := hl
  obtain ⟨H, hH⟩ : ∃ z, z = s.heap := ⟨_, rfl⟩
  obtain ⟨locs, hLc⟩ : ∃ z : List Loc, z = [] := ⟨_, rfl⟩
  have hw : wV D A s.heap (tW cy aT ST) H locs := by rw [hH, hLc]; exact hw
  have hgo : W p l e (rmN 0) s m args below meth c H locs 0 0 (MQ below (eI D cy A (fun u : Ob => (tW cy aT u)) Q) args s (rmN 0).cells (rmN 0).slots A) (F0 m 0 ls []) := ?hgo
  · rw [hH, hLc] at hgo; exact hgo
  refine lv_aload_n hx hb dX7_drop_0 rfl (lv_at hl 0 rfl) ?_
  refine gF (k := 3) hc hw inX7 rfl 0 rfl (by decide) (gm 179 (by decide +kernel) rfl) rfl dX7_drop_1 ?_
  refine lv_topi (fun v1 e_v1 => ?_)
  have hm := hm v1 e_v1
  refine lv_istore_n (lv' := [(1, .int v1), (0, .ref (aT 0))]) hx hb dX7_drop_4 rfl hl (by decide) rfl (fun ls hl => ?_)
  refine lv_aload_n hx hb dX7_drop_5 rfl (lv_at hl 1 rfl) ?_
  refine lv_iconst (v := 0) hx hb dX7_drop_6 (by decide) ?_
  refine pF (k := 3) (ty := .int) hc hw inX7 tyX7_ok nmX7 rfl 0 rfl (by decide) (gm 179 (by decide +kernel) rfl) rfl (by decide +kernel) rfl rfl (Nat.le_of_ble_eq_true rfl) dX7_drop_7 (fun H locs hw => ?_)
  obtain ⟨S2, e_S2⟩ : ∃ z : Ob, z = uS ST 3 0 := ⟨_, rfl⟩
  have hm := hm S2 e_S2
  have hw : wV D A s.heap (tW cy aT S2) H locs := by rw [e_S2]; exact hw
  refine lv_iload_n hx hb dX7_drop_10 rfl (lv_at hl 0 rfl) ?_
  exact retI (u := S2) hc hw hm dX7_drop_11
set_option maxHeartbeats 4000000 in
set_option maxRecDepth 100000 in
theorem c_X7_at {l : Launch} {D : va_G} {cy : Nat → ClassId} {aT : Nat → Nat} {ST : Ob} {x1 : Int32} {x2 : Int32} {Q : Int32 → Prop} (hm : w_X7_at ST x1 x2 Q) : CtI l yX7_at cX7_at 3 (some .int) (rmN 0) D cy [.ref (aT 0), .int x1, .int x2] (tW cy aT ST) (fun _ : Unit => (tW cy aT ST)) (fun (r : Int32) (_ : Unit) => Q r) := by
  refine CtI.ofW (by decide) (Nat.le_of_ble_eq_true rfl) ?_
  intro p e s m args below meth c A ls hc hnm hw hl
  have hx := hc.1.1
  have hb := hc.1.2.1
  have hown := hc.1.2.2.2.1
  have hts := hc.1.2.2.2.2
  have hl : lv_has ls 3 [(0, .ref (aT 0)), (1, .int x1), (2, .int x2)] := hl
  obtain ⟨H, hH⟩ : ∃ z, z = s.heap := ⟨_, rfl⟩
  obtain ⟨locs, hLc⟩ : ∃ z : List Loc, z = [] := ⟨_, rfl⟩
  have hw : wV D A s.heap (tW cy aT ST) H locs := by rw [hH, hLc]; exact hw
  have hgo : W p l e (rmN 0) s m args below meth c H locs 0 0 (MQ below (eI D cy A (fun _ : Unit => (tW cy aT ST)) (fun (r : Int32) (_ : Unit) => Q r)) args s (rmN 0).cells (rmN 0).slots A) (F0 m 0 ls []) := ?hgo
  · rw [hH, hLc] at hgo; exact hgo
  refine lv_iload_n hx hb dX7_at_0 rfl (lv_at hl 1 rfl) ?_
  refine lv_if_lt (tgt := 21) hx hb dX7_at_1 (by decide) (fun c9 => ?_) (fun c9 => ?_)
  · have hm := hm.1 c9
    refine lv_iconst (v := (-1)) hx hb dX7_at_21 (by decide) ?_
    exact retI (u := ()) hc hw hm dX7_at_22
  · have hm := hm.2 c9
    refine lv_iload_n hx hb dX7_at_4 rfl (lv_at hl 1 rfl) ?_
    refine lv_aload_n hx hb dX7_at_5 rfl (lv_at hl 0 rfl) ?_
    refine gF (k := 3) hc hw inX7 rfl 0 rfl (by decide) (gm 179 (by decide +kernel) rfl) rfl dX7_at_6 ?_
    refine lv_icmp_ge (tgt := 21) hx hb dX7_at_9 (by decide) (fun c8 => ?_) (fun c8 => ?_)
    · have hm := hm.1 c8
      refine lv_iconst (v := (-1)) hx hb dX7_at_21 (by decide) ?_
      exact retI (u := ()) hc hw hm dX7_at_22
    · have hm := hm.2 c8
      refine lv_iload_n hx hb dX7_at_12 rfl (lv_at hl 2 rfl) ?_
      refine lv_if_lt (tgt := 21) hx hb dX7_at_13 (by decide) (fun c7 => ?_) (fun c7 => ?_)
      · have hm := hm.1 c7
        refine lv_iconst (v := (-1)) hx hb dX7_at_21 (by decide) ?_
        exact retI (u := ()) hc hw hm dX7_at_22
      · have hm := hm.2 c7
        refine lv_iload_n hx hb dX7_at_16 rfl (lv_at hl 2 rfl) ?_
        refine lv_iconst (v := 2) hx hb dX7_at_17 (by decide) ?_
        refine lv_icmp_le (tgt := 23) hx hb dX7_at_18 (by decide) (fun c6 => ?_) (fun c6 => ?_)
        · have hm := hm.1 c6
          refine lv_iload_n hx hb dX7_at_23 rfl (lv_at hl 2 rfl) ?_
          refine lv_if_ne (tgt := 34) hx hb dX7_at_24 (by decide) (fun c5 => ?_) (fun c5 => ?_)
          · have hm := hm.1 c5
            refine lv_iload_n hx hb dX7_at_34 rfl (lv_at hl 2 rfl) ?_
            refine lv_iconst (v := 1) hx hb dX7_at_35 (by decide) ?_
            refine lv_icmp_ne (tgt := 48) hx hb dX7_at_36 (by decide) (fun c3 => ?_) (fun c3 => ?_)
            · have hm := hm.1 c3
              refine lv_aload_n hx hb dX7_at_48 rfl (lv_at hl 0 rfl) ?_
              refine gF (k := 2) hc hw inX7 rfl 0 rfl (by decide) (gm 175 (by decide +kernel) rfl) rfl dX7_at_49 ?_
              refine lv_iload_n hx hb dX7_at_52 rfl (lv_at hl 1 rfl) ?_
              obtain ⟨c1, hm⟩ := hm
              refine aI hc hw 3 rfl c1 rfl dX7_at_53 ?_
              exact retI (u := ()) hc hw hm dX7_at_54
            · have hm := hm.2 c3
              refine lv_aload_n hx hb dX7_at_39 rfl (lv_at hl 0 rfl) ?_
              refine gF (k := 1) hc hw inX7 rfl 0 rfl (by decide) (gm 171 (by decide +kernel) rfl) rfl dX7_at_40 ?_
              refine lv_iload_n hx hb dX7_at_43 rfl (lv_at hl 1 rfl) ?_
              obtain ⟨c2, hm⟩ := hm
              refine aI hc hw 2 rfl c2 rfl dX7_at_44 ?_
              refine lv_goto (tgt := 54) hx hb dX7_at_45 (by decide) ?_
              exact retI (u := ()) hc hw hm dX7_at_54
          · have hm := hm.2 c5
            refine lv_aload_n hx hb dX7_at_27 rfl (lv_at hl 0 rfl) ?_
            refine gF (k := 0) hc hw inX7 rfl 0 rfl (by decide) (gm 167 (by decide +kernel) rfl) rfl dX7_at_28 ?_
            refine lv_iload_n hx hb dX7_at_31 rfl (lv_at hl 1 rfl) ?_
            obtain ⟨c4, hm⟩ := hm
            refine aI hc hw 1 rfl c4 rfl dX7_at_32 ?_
            exact retI (u := ()) hc hw hm dX7_at_33
        · have hm := hm.2 c6
          refine lv_iconst (v := (-1)) hx hb dX7_at_21 (by decide) ?_
          exact retI (u := ()) hc hw hm dX7_at_22
set_option maxHeartbeats 4000000 in
set_option maxRecDepth 100000 in
theorem c_X7_copyFrom {l : Launch} {D : va_G} {cy : Nat → ClassId} {aT : Nat → Nat} {aU : Nat → Nat} {ST : Ob} {SU : Ob} {Q : Ob → Prop} (hm : w_X7_copyFrom ST SU Q) : CtV l yX7_copyFrom cX7_copyFrom 2 none (rmN 2) D cy [.ref (aT 0), .ref (aU 0)] ((tW cy aT ST) ++ (tW cy aU SU)) (fun u : Ob => ((tW cy aT u) ++ (tW cy aU SU))) Q := by
  refine CtV.ofW (by decide) (Nat.le_of_ble_eq_true rfl) ?_
  intro p e s m args below meth c A ls hc hnm hw hl
  have hx := hc.1.1
  have hb := hc.1.2.1
  have hown := hc.1.2.2.2.1
  have hts := hc.1.2.2.2.2
  have hl : lv_has ls 2 [(0, .ref (aT 0)), (1, .ref (aU 0))] := hl
  obtain ⟨H, hH⟩ : ∃ z, z = s.heap := ⟨_, rfl⟩
  obtain ⟨locs, hLc⟩ : ∃ z : List Loc, z = [] := ⟨_, rfl⟩
  have hw : wV D A s.heap ((tW cy aT ST) ++ (tW cy aU SU)) H locs := by rw [hH, hLc]; exact hw
  have hgo : W p l e (rmN 2) s m args below meth c H locs 0 0 (MQ below (eV D cy A (fun u : Ob => ((tW cy aT u) ++ (tW cy aU SU))) Q) args s (rmN 2).cells (rmN 2).slots A) (F0 m 0 ls []) := ?hgo
  · rw [hH, hLc] at hgo; exact hgo
  refine lv_aload_n hx hb dX7_copyFrom_0 rfl (lv_at hl 1 rfl) ?_
  refine gF (k := 0) hc hw inX7 rfl 4 rfl (by decide) (gm 167 (by decide +kernel) rfl) rfl dX7_copyFrom_1 ?_
  refine lv_iconst (v := 0) hx hb dX7_copyFrom_4 (by decide) ?_
  refine lv_aload_n hx hb dX7_copyFrom_5 rfl (lv_at hl 0 rfl) ?_
  refine gF (k := 0) hc hw inX7 rfl 0 rfl (by decide) (gm 167 (by decide +kernel) rfl) rfl dX7_copyFrom_6 ?_
  refine lv_iconst (v := 0) hx hb dX7_copyFrom_9 (by decide) ?_
  refine lv_bipush (v := 10) hx hb dX7_copyFrom_10 (by decide) ?_
  refine cpI hc hw (gm 1040 (by decide +kernel) rfl) hl.1 5 1 rfl rfl (k := 10) (by decide) (by decide) (by decide) (by decide) (Nat.le_of_ble_eq_true rfl) (Nat.le_of_ble_eq_true rfl) (Nat.le_of_ble_eq_true rfl) (Nat.le_of_ble_eq_true rfl) dX7_copyFrom_12 (fun H locs hw => ?_)
  obtain ⟨S1, e_S1⟩ : ∃ z : Ob, z = uR ST 0 (va_cpy (SU.2 0) (ST.2 0) 0 0 10) := ⟨_, rfl⟩
  have hm := hm S1 e_S1
  have hw : wV D A s.heap ((tW cy aT S1) ++ (tW cy aU SU)) H locs := by rw [e_S1]; exact hw
  refine lv_aload_n hx hb dX7_copyFrom_15 rfl (lv_at hl 1 rfl) ?_
  refine gF (k := 1) hc hw inX7 rfl 4 rfl (by decide) (gm 171 (by decide +kernel) rfl) rfl dX7_copyFrom_16 ?_
  refine lv_iconst (v := 0) hx hb dX7_copyFrom_19 (by decide) ?_
  refine lv_aload_n hx hb dX7_copyFrom_20 rfl (lv_at hl 0 rfl) ?_
  refine gF (k := 1) hc hw inX7 rfl 0 rfl (by decide) (gm 171 (by decide +kernel) rfl) rfl dX7_copyFrom_21 ?_
  refine lv_iconst (v := 0) hx hb dX7_copyFrom_24 (by decide) ?_
  refine lv_bipush (v := 10) hx hb dX7_copyFrom_25 (by decide) ?_
  refine cpI hc hw (gm 1040 (by decide +kernel) rfl) hl.1 6 2 rfl rfl (k := 10) (by decide) (by decide) (by decide) (by decide) (Nat.le_of_ble_eq_true rfl) (Nat.le_of_ble_eq_true rfl) (Nat.le_of_ble_eq_true rfl) (Nat.le_of_ble_eq_true rfl) dX7_copyFrom_27 (fun H locs hw => ?_)
  obtain ⟨S2, e_S2⟩ : ∃ z : Ob, z = uR S1 1 (va_cpy (SU.2 1) (S1.2 1) 0 0 10) := ⟨_, rfl⟩
  have hm := hm S2 e_S2
  have hw : wV D A s.heap ((tW cy aT S2) ++ (tW cy aU SU)) H locs := by rw [e_S2]; exact hw
  refine lv_aload_n hx hb dX7_copyFrom_30 rfl (lv_at hl 1 rfl) ?_
  refine gF (k := 2) hc hw inX7 rfl 4 rfl (by decide) (gm 175 (by decide +kernel) rfl) rfl dX7_copyFrom_31 ?_
  refine lv_iconst (v := 0) hx hb dX7_copyFrom_34 (by decide) ?_
  refine lv_aload_n hx hb dX7_copyFrom_35 rfl (lv_at hl 0 rfl) ?_
  refine gF (k := 2) hc hw inX7 rfl 0 rfl (by decide) (gm 175 (by decide +kernel) rfl) rfl dX7_copyFrom_36 ?_
  refine lv_iconst (v := 0) hx hb dX7_copyFrom_39 (by decide) ?_
  refine lv_bipush (v := 10) hx hb dX7_copyFrom_40 (by decide) ?_
  refine cpI hc hw (gm 1040 (by decide +kernel) rfl) hl.1 7 3 rfl rfl (k := 10) (by decide) (by decide) (by decide) (by decide) (Nat.le_of_ble_eq_true rfl) (Nat.le_of_ble_eq_true rfl) (Nat.le_of_ble_eq_true rfl) (Nat.le_of_ble_eq_true rfl) dX7_copyFrom_42 (fun H locs hw => ?_)
  obtain ⟨S3, e_S3⟩ : ∃ z : Ob, z = uR S2 2 (va_cpy (SU.2 2) (S2.2 2) 0 0 10) := ⟨_, rfl⟩
  have hm := hm S3 e_S3
  have hw : wV D A s.heap ((tW cy aT S3) ++ (tW cy aU SU)) H locs := by rw [e_S3]; exact hw
  refine lv_aload_n hx hb dX7_copyFrom_45 rfl (lv_at hl 0 rfl) ?_
  refine lv_aload_n hx hb dX7_copyFrom_46 rfl (lv_at hl 1 rfl) ?_
  refine gF (k := 3) hc hw inX7 rfl 4 rfl (by decide) (gm 179 (by decide +kernel) rfl) rfl dX7_copyFrom_47 ?_
  refine pF (k := 3) (ty := .int) hc hw inX7 tyX7_ok nmX7 rfl 0 rfl (by decide) (gm 179 (by decide +kernel) rfl) rfl (by decide +kernel) rfl rfl (Nat.le_of_ble_eq_true rfl) dX7_copyFrom_50 (fun H locs hw => ?_)
  obtain ⟨S4, e_S4⟩ : ∃ z : Ob, z = uS S3 3 (SU.1 3) := ⟨_, rfl⟩
  have hm := hm S4 e_S4
  have hw : wV D A s.heap ((tW cy aT S4) ++ (tW cy aU SU)) H locs := by rw [e_S4]; exact hw
  exact retV (u := S4) hc hw hm dX7_copyFrom_53
set_option maxHeartbeats 4000000 in
set_option maxRecDepth 100000 in
theorem c_X6_canPut {l : Launch} {D : va_G} {cy : Nat → ClassId} {x0 : Int32} {x1 : Int32} {Q : Int32 → Prop} (hm : w_X6_canPut x0 x1 Q) : CtI l yX6_canPut cX6_canPut 2 (some .boolean) (rmN 0) D cy [.int x0, .int x1] ([] : va_W) (fun _ : Unit => ([] : va_W)) (fun (r : Int32) (_ : Unit) => Q r) := by
  refine CtI.ofW (by decide) (Nat.le_of_ble_eq_true rfl) ?_
  intro p e s m args below meth c A ls hc hnm hw hl
  have hx := hc.1.1
  have hb := hc.1.2.1
  have hown := hc.1.2.2.2.1
  have hts := hc.1.2.2.2.2
  have hl : lv_has ls 2 [(0, .int x0), (1, .int x1)] := hl
  obtain ⟨H, hH⟩ : ∃ z, z = s.heap := ⟨_, rfl⟩
  obtain ⟨locs, hLc⟩ : ∃ z : List Loc, z = [] := ⟨_, rfl⟩
  have hw : wV D A s.heap ([] : va_W) H locs := by rw [hH, hLc]; exact hw
  have hgo : W p l e (rmN 0) s m args below meth c H locs 0 0 (MQ below (eI D cy A (fun _ : Unit => ([] : va_W)) (fun (r : Int32) (_ : Unit) => Q r)) args s (rmN 0).cells (rmN 0).slots A) (F0 m 0 ls []) := ?hgo
  · rw [hH, hLc] at hgo; exact hgo
  refine lv_iload_n hx hb dX6_canPut_0 rfl (lv_at hl 0 rfl) ?_
  refine lv_if_lt (tgt := 13) hx hb dX6_canPut_1 (by decide) (fun c9 => ?_) (fun c9 => ?_)
  · have hm := hm.1 c9
    refine lv_iconst (v := 0) hx hb dX6_canPut_13 (by decide) ?_
    exact retZ (u := ()) hc hw rfl hm dX6_canPut_14
  · have hm := hm.2 c9
    refine lv_iload_n hx hb dX6_canPut_4 rfl (lv_at hl 0 rfl) ?_
    refine lv_iconst (v := 3) hx hb dX6_canPut_5 (by decide) ?_
    refine lv_icmp_gt (tgt := 13) hx hb dX6_canPut_6 (by decide) (fun c8 => ?_) (fun c8 => ?_)
    · have hm := hm.1 c8
      refine lv_iconst (v := 0) hx hb dX6_canPut_13 (by decide) ?_
      exact retZ (u := ()) hc hw rfl hm dX6_canPut_14
    · have hm := hm.2 c8
      refine lv_iload_n hx hb dX6_canPut_9 rfl (lv_at hl 1 rfl) ?_
      refine lv_if_ge (tgt := 15) hx hb dX6_canPut_10 (by decide) (fun c7 => ?_) (fun c7 => ?_)
      · have hm := hm.1 c7
        refine lv_iload_n hx hb dX6_canPut_15 rfl (lv_at hl 0 rfl) ?_
        refine lv_iconst (v := 2) hx hb dX6_canPut_16 (by decide) ?_
        refine lv_icmp_ge (tgt := 33) hx hb dX6_canPut_17 (by decide) (fun c6 => ?_) (fun c6 => ?_)
        · have hm := hm.1 c6
          refine lv_iload_n hx hb dX6_canPut_33 rfl (lv_at hl 1 rfl) ?_
          refine lv_iload_n hx hb dX6_canPut_34 rfl (lv_at hl 0 rfl) ?_
          refine lv_iconst (v := 2) hx hb dX6_canPut_35 (by decide) ?_
          obtain ⟨J2, eJ2, hm⟩ := jn_e hm
          have hJ2 : ∀ (t1 : Int32) (_ : J2 t1) (H : Heap) (locs : List Loc) (ls : Array Slot), wV D A s.heap ([] : va_W) H locs → lv_has ls 2 [] → W p l e (rmN 0) s m args below meth c H locs 0 0 (MQ below (eI D cy A (fun _ : Unit => ([] : va_W)) (fun (r : Int32) (_ : Unit) => Q r)) args s (rmN 0).cells (rmN 0).slots A) (F0 m 46 ls [.int t1, .int x1]) := by
            intro t1 hm H locs ls hw hl
            rw [eJ2] at hm
            refine lv_icmp_gt (tgt := 53) hx hb dX6_canPut_46 (by decide) (fun c3 => ?_) (fun c3 => ?_)
            · have hm := hm.1 c3
              refine lv_iconst (v := 0) hx hb dX6_canPut_53 (by decide) ?_
              exact retZ (u := ()) hc hw rfl hm dX6_canPut_54
            · have hm := hm.2 c3
              refine lv_iconst (v := 1) hx hb dX6_canPut_49 (by decide) ?_
              refine lv_goto (tgt := 54) hx hb dX6_canPut_50 (by decide) ?_
              exact retZ (u := ()) hc hw rfl hm dX6_canPut_54
          refine lv_icmp_ne (tgt := 44) hx hb dX6_canPut_36 (by decide) (fun c4 => ?_) (fun c4 => ?_)
          · have hm := hm.1 c4
            refine lv_bipush (v := 15) hx hb dX6_canPut_44 (by decide) ?_
            exact hJ2 _ hm _ _ _ hw (lv_sub hl [] rfl)
          · have hm := hm.2 c4
            refine lv_bipush (v := 99) hx hb dX6_canPut_39 (by decide) ?_
            refine lv_goto (tgt := 46) hx hb dX6_canPut_41 (by decide) ?_
            exact hJ2 _ hm _ _ _ hw (lv_sub hl [] rfl)
        · have hm := hm.2 c6
          refine lv_iload_n hx hb dX6_canPut_20 rfl (lv_at hl 1 rfl) ?_
          refine lv_sipush (v := 2000) hx hb dX6_canPut_21 (by decide) ?_
          refine lv_icmp_gt (tgt := 31) hx hb dX6_canPut_24 (by decide) (fun c5 => ?_) (fun c5 => ?_)
          · have hm := hm.1 c5
            refine lv_iconst (v := 0) hx hb dX6_canPut_31 (by decide) ?_
            exact retZ (u := ()) hc hw rfl hm dX6_canPut_32
          · have hm := hm.2 c5
            refine lv_iconst (v := 1) hx hb dX6_canPut_27 (by decide) ?_
            refine lv_goto (tgt := 32) hx hb dX6_canPut_28 (by decide) ?_
            exact retZ (u := ()) hc hw rfl hm dX6_canPut_32
      · have hm := hm.2 c7
        refine lv_iconst (v := 0) hx hb dX6_canPut_13 (by decide) ?_
        exact retZ (u := ()) hc hw rfl hm dX6_canPut_14
set_option maxHeartbeats 4000000 in
set_option maxRecDepth 100000 in
theorem c_X6_canBe {l : Launch} {D : va_G} {cy : Nat → ClassId} {x0 : Int32} {x1 : Int32} {x2 : Int32} {x3 : Int32} {Q : Int32 → Prop} (hm : w_X6_canBe x0 x1 x2 x3 Q) : CtI l yX6_canBe cX6_canBe 4 (some .boolean) (rmN 1) D cy [.int x0, .int x1, .int x2, .int x3] ([] : va_W) (fun _ : Unit => ([] : va_W)) (fun (r : Int32) (_ : Unit) => Q r) := by
  refine CtI.ofW (by decide) (Nat.le_of_ble_eq_true rfl) ?_
  intro p e s m args below meth c A ls hc hnm hw hl
  have hx := hc.1.1
  have hb := hc.1.2.1
  have hown := hc.1.2.2.2.1
  have hts := hc.1.2.2.2.2
  have hl : lv_has ls 4 [(0, .int x0), (1, .int x1), (2, .int x2), (3, .int x3)] := hl
  obtain ⟨H, hH⟩ : ∃ z, z = s.heap := ⟨_, rfl⟩
  obtain ⟨locs, hLc⟩ : ∃ z : List Loc, z = [] := ⟨_, rfl⟩
  have hw : wV D A s.heap ([] : va_W) H locs := by rw [hH, hLc]; exact hw
  have hgo : W p l e (rmN 1) s m args below meth c H locs 0 0 (MQ below (eI D cy A (fun _ : Unit => ([] : va_W)) (fun (r : Int32) (_ : Unit) => Q r)) args s (rmN 1).cells (rmN 1).slots A) (F0 m 0 ls []) := ?hgo
  · rw [hH, hLc] at hgo; exact hgo
  refine lv_iconst (v := 0) hx hb dX6_canBe_0 (by decide) ?_
  refine lv_iload_n hx hb dX6_canBe_1 rfl (lv_at hl 0 rfl) ?_
  refine zS_I (As := [.int 0, .int x0]) (rest := []) hc hw (c_X6_canPut hm) lk_X6_56 ⟨Nat.le_of_ble_eq_true rfl, Nat.le_of_ble_eq_true rfl⟩ ⟨Nat.le_of_ble_eq_true rfl, Nat.le_of_ble_eq_true rfl⟩ hl.1 rfl (Nat.le_of_ble_eq_true rfl) rfl dX6_canBe_2 (fun r1 H locs hm hw => ?_)
  refine lv_if_eq (tgt := 41) hx hb dX6_canBe_5 (by decide) (fun c13 => ?_) (fun c13 => ?_)
  · have hm := hm.1 c13
    refine lv_iconst (v := 0) hx hb dX6_canBe_41 (by decide) ?_
    exact retZ (u := ()) hc hw rfl hm dX6_canBe_42
  · have hm := hm.2 c13
    refine lv_iconst (v := 1) hx hb dX6_canBe_8 (by decide) ?_
    refine lv_iload_n hx hb dX6_canBe_9 rfl (lv_at hl 1 rfl) ?_
    refine zS_I (As := [.int 1, .int x1]) (rest := []) hc hw (c_X6_canPut hm) lk_X6_56 ⟨Nat.le_of_ble_eq_true rfl, Nat.le_of_ble_eq_true rfl⟩ ⟨Nat.le_of_ble_eq_true rfl, Nat.le_of_ble_eq_true rfl⟩ hl.1 rfl (Nat.le_of_ble_eq_true rfl) rfl dX6_canBe_10 (fun r3 H locs hm hw => ?_)
    refine lv_if_eq (tgt := 41) hx hb dX6_canBe_13 (by decide) (fun c12 => ?_) (fun c12 => ?_)
    · have hm := hm.1 c12
      refine lv_iconst (v := 0) hx hb dX6_canBe_41 (by decide) ?_
      exact retZ (u := ()) hc hw rfl hm dX6_canBe_42
    · have hm := hm.2 c12
      refine lv_iload_n hx hb dX6_canBe_16 rfl (lv_at hl 0 rfl) ?_
      refine lv_iload_n hx hb dX6_canBe_17 rfl (lv_at hl 1 rfl) ?_
      refine lv_icmp_gt (tgt := 41) hx hb dX6_canBe_18 (by decide) (fun c11 => ?_) (fun c11 => ?_)
      · have hm := hm.1 c11
        refine lv_iconst (v := 0) hx hb dX6_canBe_41 (by decide) ?_
        exact retZ (u := ()) hc hw rfl hm dX6_canBe_42
      · have hm := hm.2 c11
        refine lv_iconst (v := 2) hx hb dX6_canBe_21 (by decide) ?_
        refine lv_iload_n hx hb dX6_canBe_22 rfl (lv_at hl 2 rfl) ?_
        refine zS_I (As := [.int 2, .int x2]) (rest := []) hc hw (c_X6_canPut hm) lk_X6_56 ⟨Nat.le_of_ble_eq_true rfl, Nat.le_of_ble_eq_true rfl⟩ ⟨Nat.le_of_ble_eq_true rfl, Nat.le_of_ble_eq_true rfl⟩ hl.1 rfl (Nat.le_of_ble_eq_true rfl) rfl dX6_canBe_23 (fun r5 H locs hm hw => ?_)
        refine lv_if_eq (tgt := 41) hx hb dX6_canBe_26 (by decide) (fun c10 => ?_) (fun c10 => ?_)
        · have hm := hm.1 c10
          refine lv_iconst (v := 0) hx hb dX6_canBe_41 (by decide) ?_
          exact retZ (u := ()) hc hw rfl hm dX6_canBe_42
        · have hm := hm.2 c10
          refine lv_iconst (v := 3) hx hb dX6_canBe_29 (by decide) ?_
          refine lv_iload_n hx hb dX6_canBe_30 rfl (lv_at hl 3 rfl) ?_
          refine zS_I (As := [.int 3, .int x3]) (rest := []) hc hw (c_X6_canPut hm) lk_X6_56 ⟨Nat.le_of_ble_eq_true rfl, Nat.le_of_ble_eq_true rfl⟩ ⟨Nat.le_of_ble_eq_true rfl, Nat.le_of_ble_eq_true rfl⟩ hl.1 rfl (Nat.le_of_ble_eq_true rfl) rfl dX6_canBe_31 (fun r7 H locs hm hw => ?_)
          refine lv_if_eq (tgt := 41) hx hb dX6_canBe_34 (by decide) (fun c9 => ?_) (fun c9 => ?_)
          · have hm := hm.1 c9
            refine lv_iconst (v := 0) hx hb dX6_canBe_41 (by decide) ?_
            exact retZ (u := ()) hc hw rfl hm dX6_canBe_42
          · have hm := hm.2 c9
            refine lv_iconst (v := 1) hx hb dX6_canBe_37 (by decide) ?_
            refine lv_goto (tgt := 42) hx hb dX6_canBe_38 (by decide) ?_
            exact retZ (u := ()) hc hw rfl hm dX6_canBe_42
set_option maxHeartbeats 4000000 in
set_option maxRecDepth 100000 in
theorem c_X6_add {l : Launch} {D : va_G} {cy : Nat → ClassId} {aB : Nat → Nat} {e_B_laws : Nat} {e_B_told : Nat} {e_B_mentions : Nat} {e_B_claims : Nat} {SB : Ob} {x1 : Int32} {x2 : Int32} {x3 : Int32} {x4 : Int32} {Q : Ob → Prop} (hm : w_X6_add SB x1 x2 x3 x4 Q) : CtV l yX6_add cX6_add 5 none (rmN 0) D cy [.ref (aB 0), .int x1, .int x2, .int x3, .int x4] (bW cy aB e_B_laws e_B_told e_B_mentions e_B_claims SB) (fun u : Ob => (bW cy aB e_B_laws e_B_told e_B_mentions e_B_claims u)) Q := by
  refine CtV.ofW (by decide) (Nat.le_of_ble_eq_true rfl) ?_
  intro p e s m args below meth c A ls hc hnm hw hl
  have hx := hc.1.1
  have hb := hc.1.2.1
  have hown := hc.1.2.2.2.1
  have hts := hc.1.2.2.2.2
  have hl : lv_has ls 5 [(0, .ref (aB 0)), (1, .int x1), (2, .int x2), (3, .int x3), (4, .int x4)] := hl
  obtain ⟨H, hH⟩ : ∃ z, z = s.heap := ⟨_, rfl⟩
  obtain ⟨locs, hLc⟩ : ∃ z : List Loc, z = [] := ⟨_, rfl⟩
  have hw : wV D A s.heap (bW cy aB e_B_laws e_B_told e_B_mentions e_B_claims SB) H locs := by rw [hH, hLc]; exact hw
  have hgo : W p l e (rmN 0) s m args below meth c H locs 0 0 (MQ below (eV D cy A (fun u : Ob => (bW cy aB e_B_laws e_B_told e_B_mentions e_B_claims u)) Q) args s (rmN 0).cells (rmN 0).slots A) (F0 m 0 ls []) := ?hgo
  · rw [hH, hLc] at hgo; exact hgo
  refine lv_aload_n hx hb dX6_add_0 rfl (lv_at hl 0 rfl) ?_
  refine gF (k := 4) hc hw inX6 rfl 0 rfl (by decide) (gm 211 (by decide +kernel) rfl) rfl dX6_add_1 ?_
  refine lv_bipush (v := 10) hx hb dX6_add_4 (by decide) ?_
  refine lv_icmp_ge (tgt := 60) hx hb dX6_add_6 (by decide) (fun c10 => ?_) (fun c10 => ?_)
  · have hm := hm.1 c10
    exact retV (u := SB) hc hw hm dX6_add_60
  · have hm := hm.2 c10
    refine lv_aload_n hx hb dX6_add_9 rfl (lv_at hl 0 rfl) ?_
    refine gF (k := 0) hc hw inX6 rfl 0 rfl (by decide) (gm 194 (by decide +kernel) rfl) rfl dX6_add_10 ?_
    refine lv_aload_n hx hb dX6_add_13 rfl (lv_at hl 0 rfl) ?_
    refine gF (k := 4) hc hw inX6 rfl 0 rfl (by decide) (gm 211 (by decide +kernel) rfl) rfl dX6_add_14 ?_
    refine lv_iload_n hx hb dX6_add_17 rfl (lv_at hl 1 rfl) ?_
    obtain ⟨c1, hm⟩ := hm
    refine sI hc hw 1 rfl c1 rfl dX6_add_18 (fun H locs hw => ?_)
    obtain ⟨S2, e_S2⟩ : ∃ z : Ob, z = uA SB 0 (Int32.toNatClampNeg (SB.1 4)) x1 := ⟨_, rfl⟩
    have hm := hm S2 e_S2
    have hw : wV D A s.heap (bW cy aB e_B_laws e_B_told e_B_mentions e_B_claims S2) H locs := by rw [e_S2]; exact hw
    refine lv_aload_n hx hb dX6_add_19 rfl (lv_at hl 0 rfl) ?_
    refine gF (k := 1) hc hw inX6 rfl 0 rfl (by decide) (gm 199 (by decide +kernel) rfl) rfl dX6_add_20 ?_
    refine lv_aload_n hx hb dX6_add_23 rfl (lv_at hl 0 rfl) ?_
    refine gF (k := 4) hc hw inX6 rfl 0 rfl (by decide) (gm 211 (by decide +kernel) rfl) rfl dX6_add_24 ?_
    refine lv_iload_n hx hb dX6_add_27 rfl (lv_at hl 2 rfl) ?_
    obtain ⟨c3, hm⟩ := hm
    refine sI hc hw 2 rfl c3 rfl dX6_add_28 (fun H locs hw => ?_)
    obtain ⟨S4, e_S4⟩ : ∃ z : Ob, z = uA S2 1 (Int32.toNatClampNeg (S2.1 4)) x2 := ⟨_, rfl⟩
    have hm := hm S4 e_S4
    have hw : wV D A s.heap (bW cy aB e_B_laws e_B_told e_B_mentions e_B_claims S4) H locs := by rw [e_S4]; exact hw
    refine lv_aload_n hx hb dX6_add_29 rfl (lv_at hl 0 rfl) ?_
    refine gF (k := 2) hc hw inX6 rfl 0 rfl (by decide) (gm 204 (by decide +kernel) rfl) rfl dX6_add_30 ?_
    refine lv_aload_n hx hb dX6_add_33 rfl (lv_at hl 0 rfl) ?_
    refine gF (k := 4) hc hw inX6 rfl 0 rfl (by decide) (gm 211 (by decide +kernel) rfl) rfl dX6_add_34 ?_
    refine lv_iload_n hx hb dX6_add_37 rfl (lv_at hl 3 rfl) ?_
    obtain ⟨c5, hm⟩ := hm
    refine sI hc hw 3 rfl c5 rfl dX6_add_38 (fun H locs hw => ?_)
    obtain ⟨S6, e_S6⟩ : ∃ z : Ob, z = uA S4 2 (Int32.toNatClampNeg (S4.1 4)) x3 := ⟨_, rfl⟩
    have hm := hm S6 e_S6
    have hw : wV D A s.heap (bW cy aB e_B_laws e_B_told e_B_mentions e_B_claims S6) H locs := by rw [e_S6]; exact hw
    refine lv_aload_n hx hb dX6_add_39 rfl (lv_at hl 0 rfl) ?_
    refine gF (k := 3) hc hw inX6 rfl 0 rfl (by decide) (gm 207 (by decide +kernel) rfl) rfl dX6_add_40 ?_
    refine lv_aload_n hx hb dX6_add_43 rfl (lv_at hl 0 rfl) ?_
    refine gF (k := 4) hc hw inX6 rfl 0 rfl (by decide) (gm 211 (by decide +kernel) rfl) rfl dX6_add_44 ?_
    refine lv_iload hx hb dX6_add_47 (lv_at hl 4 rfl) ?_
    obtain ⟨c7, hm⟩ := hm
    refine sI hc hw 4 rfl c7 rfl dX6_add_49 (fun H locs hw => ?_)
    obtain ⟨S8, e_S8⟩ : ∃ z : Ob, z = uA S6 3 (Int32.toNatClampNeg (S6.1 4)) x4 := ⟨_, rfl⟩
    have hm := hm S8 e_S8
    have hw : wV D A s.heap (bW cy aB e_B_laws e_B_told e_B_mentions e_B_claims S8) H locs := by rw [e_S8]; exact hw
    refine lv_aload_n hx hb dX6_add_50 rfl (lv_at hl 0 rfl) ?_
    refine lv_dup hx hb dX6_add_51 rfl ?_
    refine gF (k := 4) hc hw inX6 rfl 0 rfl (by decide) (gm 211 (by decide +kernel) rfl) rfl dX6_add_52 ?_
    refine lv_iconst (v := 1) hx hb dX6_add_55 (by decide) ?_
    refine lv_iadd hx hb dX6_add_56 ?_
    refine pF (k := 4) (ty := .int) hc hw inX6 tyX6_ok nmX6 rfl 0 rfl (by decide) (gm 211 (by decide +kernel) rfl) rfl (by decide +kernel) rfl rfl (Nat.le_of_ble_eq_true rfl) dX6_add_57 (fun H locs hw => ?_)
    obtain ⟨S9, e_S9⟩ : ∃ z : Ob, z = uS S8 4 ((S8.1 4) + 1) := ⟨_, rfl⟩
    have hm := hm S9 e_S9
    have hw : wV D A s.heap (bW cy aB e_B_laws e_B_told e_B_mentions e_B_claims S9) H locs := by rw [e_S9]; exact hw
    exact retV (u := S9) hc hw hm dX6_add_60
set_option maxHeartbeats 4000000 in
set_option maxRecDepth 100000 in
theorem c_X6_has {l : Launch} {D : va_G} {cy : Nat → ClassId} {aB : Nat → Nat} {e_B_laws : Nat} {e_B_told : Nat} {e_B_mentions : Nat} {e_B_claims : Nat} {SB : Ob} {x1 : Int32} {Q : Int32 → Prop} (hm : w_X6_has SB x1 Q) : CtI l yX6_has cX6_has 2 (some .boolean) (rmN 0) D cy [.ref (aB 0), .int x1] (bW cy aB e_B_laws e_B_told e_B_mentions e_B_claims SB) (fun _ : Unit => (bW cy aB e_B_laws e_B_told e_B_mentions e_B_claims SB)) (fun (r : Int32) (_ : Unit) => Q r) := by
  refine CtI.ofW (by decide) (Nat.le_of_ble_eq_true rfl) ?_
  intro p e s m args below meth c A ls hc hnm hw hl
  have hx := hc.1.1
  have hb := hc.1.2.1
  have hown := hc.1.2.2.2.1
  have hts := hc.1.2.2.2.2
  have hl : lv_has ls 2 [(0, .ref (aB 0)), (1, .int x1)] := hl
  obtain ⟨H, hH⟩ : ∃ z, z = s.heap := ⟨_, rfl⟩
  obtain ⟨locs, hLc⟩ : ∃ z : List Loc, z = [] := ⟨_, rfl⟩
  have hw : wV D A s.heap (bW cy aB e_B_laws e_B_told e_B_mentions e_B_claims SB) H locs := by rw [hH, hLc]; exact hw
  have hgo : W p l e (rmN 0) s m args below meth c H locs 0 0 (MQ below (eI D cy A (fun _ : Unit => (bW cy aB e_B_laws e_B_told e_B_mentions e_B_claims SB)) (fun (r : Int32) (_ : Unit) => Q r)) args s (rmN 0).cells (rmN 0).slots A) (F0 m 0 ls []) := ?hgo
  · rw [hH, hLc] at hgo; exact hgo
  refine lv_iload_n hx hb dX6_has_0 rfl (lv_at hl 1 rfl) ?_
  refine lv_if_lt (tgt := 16) hx hb dX6_has_1 (by decide) (fun c2 => ?_) (fun c2 => ?_)
  · have hm := hm.1 c2
    refine lv_iconst (v := 0) hx hb dX6_has_16 (by decide) ?_
    exact retZ (u := ()) hc hw rfl hm dX6_has_17
  · have hm := hm.2 c2
    refine lv_iload_n hx hb dX6_has_4 rfl (lv_at hl 1 rfl) ?_
    refine lv_aload_n hx hb dX6_has_5 rfl (lv_at hl 0 rfl) ?_
    refine gF (k := 4) hc hw inX6 rfl 0 rfl (by decide) (gm 211 (by decide +kernel) rfl) rfl dX6_has_6 ?_
    refine lv_icmp_ge (tgt := 16) hx hb dX6_has_9 (by decide) (fun c1 => ?_) (fun c1 => ?_)
    · have hm := hm.1 c1
      refine lv_iconst (v := 0) hx hb dX6_has_16 (by decide) ?_
      exact retZ (u := ()) hc hw rfl hm dX6_has_17
    · have hm := hm.2 c1
      refine lv_iconst (v := 1) hx hb dX6_has_12 (by decide) ?_
      refine lv_goto (tgt := 17) hx hb dX6_has_13 (by decide) ?_
      exact retZ (u := ()) hc hw rfl hm dX6_has_17
set_option maxHeartbeats 4000000 in
set_option maxRecDepth 100000 in
theorem c_X6_seats {l : Launch} {D : va_G} {cy : Nat → ClassId} {aB : Nat → Nat} {e_B_laws : Nat} {e_B_told : Nat} {e_B_mentions : Nat} {e_B_claims : Nat} {SB : Ob} {x1 : Int32} {Q : Int32 → Prop} (hm : w_X6_seats SB x1 Q) : CtI l yX6_seats cX6_seats 2 (some .boolean) (rmN 0) D cy [.ref (aB 0), .int x1] (bW cy aB e_B_laws e_B_told e_B_mentions e_B_claims SB) (fun _ : Unit => (bW cy aB e_B_laws e_B_told e_B_mentions e_B_claims SB)) (fun (r : Int32) (_ : Unit) => Q r) := by
  refine CtI.ofW (by decide) (Nat.le_of_ble_eq_true rfl) ?_
  intro p e s m args below meth c A ls hc hnm hw hl
  have hx := hc.1.1
  have hb := hc.1.2.1
  have hown := hc.1.2.2.2.1
  have hts := hc.1.2.2.2.2
  have hl : lv_has ls 2 [(0, .ref (aB 0)), (1, .int x1)] := hl
  obtain ⟨H, hH⟩ : ∃ z, z = s.heap := ⟨_, rfl⟩
  obtain ⟨locs, hLc⟩ : ∃ z : List Loc, z = [] := ⟨_, rfl⟩
  have hw : wV D A s.heap (bW cy aB e_B_laws e_B_told e_B_mentions e_B_claims SB) H locs := by rw [hH, hLc]; exact hw
  have hgo : W p l e (rmN 0) s m args below meth c H locs 0 0 (MQ below (eI D cy A (fun _ : Unit => (bW cy aB e_B_laws e_B_told e_B_mentions e_B_claims SB)) (fun (r : Int32) (_ : Unit) => Q r)) args s (rmN 0).cells (rmN 0).slots A) (F0 m 0 ls []) := ?hgo
  · rw [hH, hLc] at hgo; exact hgo
  refine lv_iload_n hx hb dX6_seats_0 rfl (lv_at hl 1 rfl) ?_
  refine lv_if_lt (tgt := 18) hx hb dX6_seats_1 (by decide) (fun c2 => ?_) (fun c2 => ?_)
  · have hm := hm.1 c2
    refine lv_iconst (v := 0) hx hb dX6_seats_18 (by decide) ?_
    exact retZ (u := ()) hc hw rfl hm dX6_seats_19
  · have hm := hm.2 c2
    refine lv_iload_n hx hb dX6_seats_4 rfl (lv_at hl 1 rfl) ?_
    refine lv_aload_n hx hb dX6_seats_5 rfl (lv_at hl 0 rfl) ?_
    refine gF (k := 5) hc hw inX6 rfl 0 rfl (by decide) (gm 215 (by decide +kernel) rfl) rfl dX6_seats_6 ?_
    refine lv_iconst (v := 0) hx hb dX6_seats_9 (by decide) ?_
    refine aI hc hw 5 rfl (vin (by decide)) (j := 0) (by decide) dX6_seats_10 ?_
    refine lv_icmp_ge (tgt := 18) hx hb dX6_seats_11 (by decide) (fun c1 => ?_) (fun c1 => ?_)
    · have hm := hm.1 c1
      refine lv_iconst (v := 0) hx hb dX6_seats_18 (by decide) ?_
      exact retZ (u := ()) hc hw rfl hm dX6_seats_19
    · have hm := hm.2 c1
      refine lv_iconst (v := 1) hx hb dX6_seats_14 (by decide) ?_
      refine lv_goto (tgt := 19) hx hb dX6_seats_15 (by decide) ?_
      exact retZ (u := ()) hc hw rfl hm dX6_seats_19
set_option maxHeartbeats 4000000 in
set_option maxRecDepth 100000 in
theorem c_X6_column {l : Launch} {D : va_G} {cy : Nat → ClassId} {aB : Nat → Nat} {e_B_laws : Nat} {e_B_told : Nat} {e_B_mentions : Nat} {e_B_claims : Nat} {SB : Ob} {x1 : Int32} {Q : Option Nat → Prop} (hm : w_X6_column aB SB x1 Q) : CtQ l yX6_column cX6_column 2 (some (.array .int)) (rmN 0) D cy [.ref (aB 0), .int x1] (bW cy aB e_B_laws e_B_told e_B_mentions e_B_claims SB) (fun _ : Unit => (bW cy aB e_B_laws e_B_told e_B_mentions e_B_claims SB)) (fun (r : Option Nat) (_ : Unit) => Q r) := by
  refine CtQ.ofW (by decide) (Nat.le_of_ble_eq_true rfl) ?_
  intro p e s m args below meth c A ls hc hnm hw hl
  have hx := hc.1.1
  have hb := hc.1.2.1
  have hown := hc.1.2.2.2.1
  have hts := hc.1.2.2.2.2
  have hl : lv_has ls 2 [(0, .ref (aB 0)), (1, .int x1)] := hl
  obtain ⟨H, hH⟩ : ∃ z, z = s.heap := ⟨_, rfl⟩
  obtain ⟨locs, hLc⟩ : ∃ z : List Loc, z = [] := ⟨_, rfl⟩
  have hw : wV D A s.heap (bW cy aB e_B_laws e_B_told e_B_mentions e_B_claims SB) H locs := by rw [hH, hLc]; exact hw
  have hgo : W p l e (rmN 0) s m args below meth c H locs 0 0 (MQ below (eQ D cy A (fun _ : Unit => (bW cy aB e_B_laws e_B_told e_B_mentions e_B_claims SB)) (fun (r : Option Nat) (_ : Unit) => Q r)) args s (rmN 0).cells (rmN 0).slots A) (F0 m 0 ls []) := ?hgo
  · rw [hH, hLc] at hgo; exact hgo
  refine lv_iload_n hx hb dX6_column_0 rfl (lv_at hl 1 rfl) ?_
  refine lv_if_ne (tgt := 9) hx hb dX6_column_1 (by decide) (fun c3 => ?_) (fun c3 => ?_)
  · have hm := hm.1 c3
    refine lv_iload_n hx hb dX6_column_9 rfl (lv_at hl 1 rfl) ?_
    refine lv_iconst (v := 1) hx hb dX6_column_10 (by decide) ?_
    refine lv_icmp_ne (tgt := 19) hx hb dX6_column_11 (by decide) (fun c2 => ?_) (fun c2 => ?_)
    · have hm := hm.1 c2
      refine lv_iload_n hx hb dX6_column_19 rfl (lv_at hl 1 rfl) ?_
      refine lv_iconst (v := 2) hx hb dX6_column_20 (by decide) ?_
      refine lv_icmp_ne (tgt := 31) hx hb dX6_column_21 (by decide) (fun c1 => ?_) (fun c1 => ?_)
      · have hm := hm.1 c1
        refine lv_aload_n hx hb dX6_column_31 rfl (lv_at hl 0 rfl) ?_
        refine gF (k := 3) hc hw inX6 rfl 0 rfl (by decide) (gm 207 (by decide +kernel) rfl) rfl dX6_column_32 ?_
        exact retQ (r := (some (aB 4))) (u := ()) hc hw hm rfl dX6_column_35
      · have hm := hm.2 c1
        refine lv_aload_n hx hb dX6_column_24 rfl (lv_at hl 0 rfl) ?_
        refine gF (k := 2) hc hw inX6 rfl 0 rfl (by decide) (gm 204 (by decide +kernel) rfl) rfl dX6_column_25 ?_
        refine lv_goto (tgt := 35) hx hb dX6_column_28 (by decide) ?_
        exact retQ (r := (some (aB 3))) (u := ()) hc hw hm rfl dX6_column_35
    · have hm := hm.2 c2
      refine lv_aload_n hx hb dX6_column_14 rfl (lv_at hl 0 rfl) ?_
      refine gF (k := 1) hc hw inX6 rfl 0 rfl (by decide) (gm 199 (by decide +kernel) rfl) rfl dX6_column_15 ?_
      exact retQ (r := (some (aB 2))) (u := ()) hc hw hm rfl dX6_column_18
  · have hm := hm.2 c3
    refine lv_aload_n hx hb dX6_column_4 rfl (lv_at hl 0 rfl) ?_
    refine gF (k := 0) hc hw inX6 rfl 0 rfl (by decide) (gm 194 (by decide +kernel) rfl) rfl dX6_column_5 ?_
    exact retQ (r := (some (aB 1))) (u := ()) hc hw hm rfl dX6_column_8
set_option maxHeartbeats 4000000 in
set_option maxRecDepth 100000 in
theorem c_X6_all {l : Launch} {D : va_G} {cy : Nat → ClassId} {aB : Nat → Nat} {e_B_laws : Nat} {e_B_told : Nat} {e_B_mentions : Nat} {e_B_claims : Nat} {SB : Ob} {Q : Int32 → Prop} (hm : w_X6_all SB Q) : CtI l yX6_all cX6_all 1 (some .int) (rmN 0) D cy [.ref (aB 0)] (bW cy aB e_B_laws e_B_told e_B_mentions e_B_claims SB) (fun _ : Unit => (bW cy aB e_B_laws e_B_told e_B_mentions e_B_claims SB)) (fun (r : Int32) (_ : Unit) => Q r) := by
  refine CtI.ofW (by decide) (Nat.le_of_ble_eq_true rfl) ?_
  intro p e s m args below meth c A ls hc hnm hw hl
  have hx := hc.1.1
  have hb := hc.1.2.1
  have hown := hc.1.2.2.2.1
  have hts := hc.1.2.2.2.2
  have hl : lv_has ls 1 [(0, .ref (aB 0))] := hl
  obtain ⟨H, hH⟩ : ∃ z, z = s.heap := ⟨_, rfl⟩
  obtain ⟨locs, hLc⟩ : ∃ z : List Loc, z = [] := ⟨_, rfl⟩
  have hw : wV D A s.heap (bW cy aB e_B_laws e_B_told e_B_mentions e_B_claims SB) H locs := by rw [hH, hLc]; exact hw
  have hgo : W p l e (rmN 0) s m args below meth c H locs 0 0 (MQ below (eI D cy A (fun _ : Unit => (bW cy aB e_B_laws e_B_told e_B_mentions e_B_claims SB)) (fun (r : Int32) (_ : Unit) => Q r)) args s (rmN 0).cells (rmN 0).slots A) (F0 m 0 ls []) := ?hgo
  · rw [hH, hLc] at hgo; exact hgo
  refine lv_iconst (v := 1) hx hb dX6_all_0 (by decide) ?_
  refine lv_aload_n hx hb dX6_all_1 rfl (lv_at hl 0 rfl) ?_
  refine gF (k := 4) hc hw inX6 rfl 0 rfl (by decide) (gm 211 (by decide +kernel) rfl) rfl dX6_all_2 ?_
  refine lv_ishl hx hb dX6_all_5 ?_
  refine lv_iconst (v := 1) hx hb dX6_all_6 (by decide) ?_
  refine lv_isub hx hb dX6_all_7 ?_
  exact retI (u := ()) hc hw hm dX6_all_8
set_option maxHeartbeats 4000000 in
set_option maxRecDepth 100000 in
theorem c_X6_toldSet {l : Launch} {D : va_G} {cy : Nat → ClassId} {aB : Nat → Nat} {atd : Nat → Nat} {e_B_laws : Nat} {e_B_mentions : Nat} {e_B_claims : Nat} {SB : Ob} {Std : Ob} {Q : Int32 → Prop} (hm : w_X6_toldSet SB Std Q) : CtI l yX6_toldSet cX6_toldSet 3 (some .int) (rmN 0) D cy [.ref (aB 0)] ((bW cy aB e_B_laws (atd 0) e_B_mentions e_B_claims SB) ++ (tW cy atd Std)) (fun _ : Unit => ((bW cy aB e_B_laws (atd 0) e_B_mentions e_B_claims SB) ++ (tW cy atd Std))) (fun (r : Int32) (_ : Unit) => Q r) := by
  refine CtI.ofW (by decide) (Nat.le_of_ble_eq_true rfl) ?_
  intro p e s m args below meth c A ls hc hnm hw hl
  have hx := hc.1.1
  have hb := hc.1.2.1
  have hown := hc.1.2.2.2.1
  have hts := hc.1.2.2.2.2
  have hl : lv_has ls 3 [(0, .ref (aB 0))] := hl
  obtain ⟨H, hH⟩ : ∃ z, z = s.heap := ⟨_, rfl⟩
  obtain ⟨locs, hLc⟩ : ∃ z : List Loc, z = [] := ⟨_, rfl⟩
  have hw : wV D A s.heap ((bW cy aB e_B_laws (atd 0) e_B_mentions e_B_claims SB) ++ (tW cy atd Std)) H locs := by rw [hH, hLc]; exact hw
  have hgo : W p l e (rmN 0) s m args below meth c H locs 0 0 (MQ below (eI D cy A (fun _ : Unit => ((bW cy aB e_B_laws (atd 0) e_B_mentions e_B_claims SB) ++ (tW cy atd Std))) (fun (r : Int32) (_ : Unit) => Q r)) args s (rmN 0).cells (rmN 0).slots A) (F0 m 0 ls []) := ?hgo
  · rw [hH, hLc] at hgo; exact hgo
  refine lv_iconst (v := 0) hx hb dX6_toldSet_0 (by decide) ?_
  refine lv_istore_n (lv' := [(1, .int 0), (0, .ref (aB 0))]) hx hb dX6_toldSet_1 rfl hl (by decide) rfl (fun ls hl => ?_)
  refine lv_iconst (v := 0) hx hb dX6_toldSet_2 (by decide) ?_
  refine lv_istore_n (lv' := [(2, .int 0), (1, .int 0), (0, .ref (aB 0))]) hx hb dX6_toldSet_3 rfl hl (by decide) rfl (fun ls hl => ?_)
  refine wl2_ind (G := fun (x2_1 : Int32) (x1_2 : Int32) => ∀ (H : Heap) (locs : List Loc) (ls : Array Slot), wV D A s.heap ((bW cy aB e_B_laws (atd 0) e_B_mentions e_B_claims SB) ++ (tW cy atd Std)) H locs → lv_has ls 3 [(2, .int x2_1), (1, .int x1_2), (0, .ref (aB 0))] → W p l e (rmN 0) s m args below meth c H locs 0 0 (MQ below (eI D cy A (fun _ : Unit => ((bW cy aB e_B_laws (atd 0) e_B_mentions e_B_claims SB) ++ (tW cy atd Std))) (fun (r : Int32) (_ : Unit) => Q r)) args s (rmN 0).cells (rmN 0).slots A) (F0 m 4 ls [])) ?_ _ _ hm H locs ls hw (lv_sub hl [0, 1, 2] rfl)
  intro L3 ih3 x2_1 x1_2 hm H locs ls hw hl
  refine lv_iload_n hx hb dX6_toldSet_4 rfl (lv_at hl 0 rfl) ?_
  refine lv_aload_n hx hb dX6_toldSet_5 rfl (lv_at hl 2 rfl) ?_
  refine gF (k := 9) hc hw inX6 rfl 0 rfl (by decide) (gm 225 (by decide +kernel) rfl) rfl dX6_toldSet_6 ?_
  refine gN (k := 3) (host := "OlderTale") hc hw inX7 rfl 6 rfl (by decide) (nmm 181 (by decide +kernel)) rfl dX6_toldSet_9 ?_
  refine lv_icmp_ge (tgt := 35) hx hb dX6_toldSet_12 (by decide) (fun c7 => ?_) (fun c7 => ?_)
  · have hm := hm.1 c7
    refine lv_iload_n hx hb dX6_toldSet_35 rfl (lv_at hl 1 rfl) ?_
    exact retI (u := ()) hc hw hm dX6_toldSet_36
  · have hm := hm.2 c7
    refine lv_iload_n hx hb dX6_toldSet_15 rfl (lv_at hl 1 rfl) ?_
    refine lv_iconst (v := 1) hx hb dX6_toldSet_16 (by decide) ?_
    refine lv_aload_n hx hb dX6_toldSet_17 rfl (lv_at hl 2 rfl) ?_
    refine gF (k := 9) hc hw inX6 rfl 0 rfl (by decide) (gm 225 (by decide +kernel) rfl) rfl dX6_toldSet_18 ?_
    refine gN (k := 0) (host := "OlderTale") hc hw inX7 rfl 6 rfl (by decide) (nmm 169 (by decide +kernel)) rfl dX6_toldSet_21 ?_
    refine lv_iload_n hx hb dX6_toldSet_24 rfl (lv_at hl 0 rfl) ?_
    obtain ⟨c4, hm⟩ := hm
    refine aI hc hw 7 rfl c4 rfl dX6_toldSet_25 ?_
    refine lv_ishl hx hb dX6_toldSet_26 ?_
    refine lv_ior hx hb dX6_toldSet_27 ?_
    refine lv_topi (fun v5 e_v5 => ?_)
    have hm := hm v5 e_v5
    refine lv_istore_n (lv' := [(1, .int v5), (2, .int x2_1), (0, .ref (aB 0))]) hx hb dX6_toldSet_28 rfl hl (by decide) rfl (fun ls hl => ?_)
    obtain ⟨v6, e_v6⟩ : ∃ z : Int32, z = x2_1 + 1 := ⟨_, rfl⟩
    have hm := hm v6 e_v6
    refine lv_iinc (v := v6) (lv' := [(2, .int v6), (1, .int v5), (0, .ref (aB 0))]) hx hb dX6_toldSet_29 hl (k := 1) rfl (by rw [e_v6]; rfl) (by decide) rfl (fun ls hl => ?_)
    refine lv_goto (tgt := 4) hx hb dX6_toldSet_32 (by decide) ?_
    exact ih3 _ _ hm _ _ _ hw (lv_sub hl [0, 1, 2] rfl)
set_option maxHeartbeats 4000000 in
set_option maxRecDepth 100000 in
theorem c_X6_untold {l : Launch} {D : va_G} {cy : Nat → ClassId} {aB : Nat → Nat} {atd : Nat → Nat} {e_B_laws : Nat} {e_B_mentions : Nat} {e_B_claims : Nat} {SB : Ob} {Std : Ob} {Q : Int32 → Prop} (hm : w_X6_untold SB Std Q) : CtI l yX6_untold cX6_untold 1 (some .int) (rmN 1) D cy [.ref (aB 0)] ((bW cy aB e_B_laws (atd 0) e_B_mentions e_B_claims SB) ++ (tW cy atd Std)) (fun _ : Unit => ((bW cy aB e_B_laws (atd 0) e_B_mentions e_B_claims SB) ++ (tW cy atd Std))) (fun (r : Int32) (_ : Unit) => Q r) := by
  refine CtI.ofW (by decide) (Nat.le_of_ble_eq_true rfl) ?_
  intro p e s m args below meth c A ls hc hnm hw hl
  have hx := hc.1.1
  have hb := hc.1.2.1
  have hown := hc.1.2.2.2.1
  have hts := hc.1.2.2.2.2
  have hl : lv_has ls 1 [(0, .ref (aB 0))] := hl
  obtain ⟨H, hH⟩ : ∃ z, z = s.heap := ⟨_, rfl⟩
  obtain ⟨locs, hLc⟩ : ∃ z : List Loc, z = [] := ⟨_, rfl⟩
  have hw : wV D A s.heap ((bW cy aB e_B_laws (atd 0) e_B_mentions e_B_claims SB) ++ (tW cy atd Std)) H locs := by rw [hH, hLc]; exact hw
  have hgo : W p l e (rmN 1) s m args below meth c H locs 0 0 (MQ below (eI D cy A (fun _ : Unit => ((bW cy aB e_B_laws (atd 0) e_B_mentions e_B_claims SB) ++ (tW cy atd Std))) (fun (r : Int32) (_ : Unit) => Q r)) args s (rmN 1).cells (rmN 1).slots A) (F0 m 0 ls []) := ?hgo
  · rw [hH, hLc] at hgo; exact hgo
  refine lv_aload_n hx hb dX6_untold_0 rfl (lv_at hl 0 rfl) ?_
  refine nV_I (As := []) (rest := []) (wc := (bW cy aB e_B_laws (atd 0) e_B_mentions e_B_claims SB)) (wr := (tW cy atd Std)) (isC := [0, 1, 2, 3, 4, 5]) (isR := [6, 7, 8, 9]) hc hw (c_X6_all hm) lk_X6_66 ⟨rfl, rfl, rfl, rfl, by decide⟩ rfl rfl ⟨Nat.le_of_ble_eq_true rfl, Nat.le_of_ble_eq_true rfl⟩ ⟨Nat.le_of_ble_eq_true rfl, Nat.le_of_ble_eq_true rfl⟩ hl.1 rfl (Nat.le_of_ble_eq_true rfl) rfl dX6_untold_1 (fun r1 _ H locs hm hw => ?_)
  have hw : wV D A s.heap ((bW cy aB e_B_laws (atd 0) e_B_mentions e_B_claims SB) ++ (tW cy atd Std)) H locs := hw.perm [4, 5, 6, 7, 8, 9, 0, 1, 2, 3] rfl rfl
  refine lv_aload_n hx hb dX6_untold_4 rfl (lv_at hl 0 rfl) ?_
  refine aV_I (As := []) (rest := [.int r1]) hc hw (c_X6_toldSet hm) lk_X6_70 rfl rfl ⟨Nat.le_of_ble_eq_true rfl, Nat.le_of_ble_eq_true rfl⟩ ⟨Nat.le_of_ble_eq_true rfl, Nat.le_of_ble_eq_true rfl⟩ hl.1 rfl (Nat.le_of_ble_eq_true rfl) rfl dX6_untold_5 (fun r3 _ H locs hm hw => ?_)
  have hw : wV D A s.heap ((bW cy aB e_B_laws (atd 0) e_B_mentions e_B_claims SB) ++ (tW cy atd Std)) H locs := hw
  refine lv_iconst (v := (-1)) hx hb dX6_untold_8 (by decide) ?_
  refine lv_ixor hx hb dX6_untold_9 ?_
  refine lv_iand hx hb dX6_untold_10 ?_
  exact retI (u := ()) hc hw hm dX6_untold_11
set_option maxHeartbeats 4000000 in
set_option maxRecDepth 100000 in
theorem c_X6_lastYear {l : Launch} {D : va_G} {cy : Nat → ClassId} {aB : Nat → Nat} {atd : Nat → Nat} {e_B_laws : Nat} {e_B_mentions : Nat} {e_B_claims : Nat} {SB : Ob} {Std : Ob} {Q : Int32 → Prop} (hm : w_X6_lastYear SB Std Q) : CtI l yX6_lastYear cX6_lastYear 1 (some .int) (rmN 0) D cy [.ref (aB 0)] ((bW cy aB e_B_laws (atd 0) e_B_mentions e_B_claims SB) ++ (tW cy atd Std)) (fun _ : Unit => ((bW cy aB e_B_laws (atd 0) e_B_mentions e_B_claims SB) ++ (tW cy atd Std))) (fun (r : Int32) (_ : Unit) => Q r) := by
  refine CtI.ofW (by decide) (Nat.le_of_ble_eq_true rfl) ?_
  intro p e s m args below meth c A ls hc hnm hw hl
  have hx := hc.1.1
  have hb := hc.1.2.1
  have hown := hc.1.2.2.2.1
  have hts := hc.1.2.2.2.2
  have hl : lv_has ls 1 [(0, .ref (aB 0))] := hl
  obtain ⟨H, hH⟩ : ∃ z, z = s.heap := ⟨_, rfl⟩
  obtain ⟨locs, hLc⟩ : ∃ z : List Loc, z = [] := ⟨_, rfl⟩
  have hw : wV D A s.heap ((bW cy aB e_B_laws (atd 0) e_B_mentions e_B_claims SB) ++ (tW cy atd Std)) H locs := by rw [hH, hLc]; exact hw
  have hgo : W p l e (rmN 0) s m args below meth c H locs 0 0 (MQ below (eI D cy A (fun _ : Unit => ((bW cy aB e_B_laws (atd 0) e_B_mentions e_B_claims SB) ++ (tW cy atd Std))) (fun (r : Int32) (_ : Unit) => Q r)) args s (rmN 0).cells (rmN 0).slots A) (F0 m 0 ls []) := ?hgo
  · rw [hH, hLc] at hgo; exact hgo
  refine lv_aload_n hx hb dX6_lastYear_0 rfl (lv_at hl 0 rfl) ?_
  refine gF (k := 9) hc hw inX6 rfl 0 rfl (by decide) (gm 225 (by decide +kernel) rfl) rfl dX6_lastYear_1 ?_
  refine gN (k := 3) (host := "OlderTale") hc hw inX7 rfl 6 rfl (by decide) (nmm 181 (by decide +kernel)) rfl dX6_lastYear_4 ?_
  refine lv_if_le (tgt := 30) hx hb dX6_lastYear_7 (by decide) (fun c2 => ?_) (fun c2 => ?_)
  · have hm := hm.1 c2
    refine lv_sipush (v := 10000) hx hb dX6_lastYear_30 (by decide) ?_
    exact retI (u := ()) hc hw hm dX6_lastYear_33
  · have hm := hm.2 c2
    refine lv_aload_n hx hb dX6_lastYear_10 rfl (lv_at hl 0 rfl) ?_
    refine gF (k := 9) hc hw inX6 rfl 0 rfl (by decide) (gm 225 (by decide +kernel) rfl) rfl dX6_lastYear_11 ?_
    refine gN (k := 1) (host := "OlderTale") hc hw inX7 rfl 6 rfl (by decide) (nmm 173 (by decide +kernel)) rfl dX6_lastYear_14 ?_
    refine lv_aload_n hx hb dX6_lastYear_17 rfl (lv_at hl 0 rfl) ?_
    refine gF (k := 9) hc hw inX6 rfl 0 rfl (by decide) (gm 225 (by decide +kernel) rfl) rfl dX6_lastYear_18 ?_
    refine gN (k := 3) (host := "OlderTale") hc hw inX7 rfl 6 rfl (by decide) (nmm 181 (by decide +kernel)) rfl dX6_lastYear_21 ?_
    refine lv_iconst (v := 1) hx hb dX6_lastYear_24 (by decide) ?_
    refine lv_isub hx hb dX6_lastYear_25 ?_
    obtain ⟨c1, hm⟩ := hm
    refine aI hc hw 8 rfl c1 rfl dX6_lastYear_26 ?_
    refine lv_goto (tgt := 33) hx hb dX6_lastYear_27 (by decide) ?_
    exact retI (u := ()) hc hw hm dX6_lastYear_33
set_option maxHeartbeats 4000000 in
set_option maxRecDepth 100000 in
theorem c_X6_lastTeller {l : Launch} {D : va_G} {cy : Nat → ClassId} {aB : Nat → Nat} {atd : Nat → Nat} {e_B_laws : Nat} {e_B_mentions : Nat} {e_B_claims : Nat} {SB : Ob} {Std : Ob} {Q : Int32 → Prop} (hm : w_X6_lastTeller SB Std Q) : CtI l yX6_lastTeller cX6_lastTeller 1 (some .int) (rmN 0) D cy [.ref (aB 0)] ((bW cy aB e_B_laws (atd 0) e_B_mentions e_B_claims SB) ++ (tW cy atd Std)) (fun _ : Unit => ((bW cy aB e_B_laws (atd 0) e_B_mentions e_B_claims SB) ++ (tW cy atd Std))) (fun (r : Int32) (_ : Unit) => Q r) := by
  refine CtI.ofW (by decide) (Nat.le_of_ble_eq_true rfl) ?_
  intro p e s m args below meth c A ls hc hnm hw hl
  have hx := hc.1.1
  have hb := hc.1.2.1
  have hown := hc.1.2.2.2.1
  have hts := hc.1.2.2.2.2
  have hl : lv_has ls 1 [(0, .ref (aB 0))] := hl
  obtain ⟨H, hH⟩ : ∃ z, z = s.heap := ⟨_, rfl⟩
  obtain ⟨locs, hLc⟩ : ∃ z : List Loc, z = [] := ⟨_, rfl⟩
  have hw : wV D A s.heap ((bW cy aB e_B_laws (atd 0) e_B_mentions e_B_claims SB) ++ (tW cy atd Std)) H locs := by rw [hH, hLc]; exact hw
  have hgo : W p l e (rmN 0) s m args below meth c H locs 0 0 (MQ below (eI D cy A (fun _ : Unit => ((bW cy aB e_B_laws (atd 0) e_B_mentions e_B_claims SB) ++ (tW cy atd Std))) (fun (r : Int32) (_ : Unit) => Q r)) args s (rmN 0).cells (rmN 0).slots A) (F0 m 0 ls []) := ?hgo
  · rw [hH, hLc] at hgo; exact hgo
  refine lv_aload_n hx hb dX6_lastTeller_0 rfl (lv_at hl 0 rfl) ?_
  refine gF (k := 9) hc hw inX6 rfl 0 rfl (by decide) (gm 225 (by decide +kernel) rfl) rfl dX6_lastTeller_1 ?_
  refine gN (k := 3) (host := "OlderTale") hc hw inX7 rfl 6 rfl (by decide) (nmm 181 (by decide +kernel)) rfl dX6_lastTeller_4 ?_
  refine lv_if_le (tgt := 30) hx hb dX6_lastTeller_7 (by decide) (fun c2 => ?_) (fun c2 => ?_)
  · have hm := hm.1 c2
    refine lv_iconst (v := 4) hx hb dX6_lastTeller_30 (by decide) ?_
    exact retI (u := ()) hc hw hm dX6_lastTeller_31
  · have hm := hm.2 c2
    refine lv_aload_n hx hb dX6_lastTeller_10 rfl (lv_at hl 0 rfl) ?_
    refine gF (k := 9) hc hw inX6 rfl 0 rfl (by decide) (gm 225 (by decide +kernel) rfl) rfl dX6_lastTeller_11 ?_
    refine gN (k := 2) (host := "OlderTale") hc hw inX7 rfl 6 rfl (by decide) (nmm 177 (by decide +kernel)) rfl dX6_lastTeller_14 ?_
    refine lv_aload_n hx hb dX6_lastTeller_17 rfl (lv_at hl 0 rfl) ?_
    refine gF (k := 9) hc hw inX6 rfl 0 rfl (by decide) (gm 225 (by decide +kernel) rfl) rfl dX6_lastTeller_18 ?_
    refine gN (k := 3) (host := "OlderTale") hc hw inX7 rfl 6 rfl (by decide) (nmm 181 (by decide +kernel)) rfl dX6_lastTeller_21 ?_
    refine lv_iconst (v := 1) hx hb dX6_lastTeller_24 (by decide) ?_
    refine lv_isub hx hb dX6_lastTeller_25 ?_
    obtain ⟨c1, hm⟩ := hm
    refine aI hc hw 9 rfl c1 rfl dX6_lastTeller_26 ?_
    refine lv_goto (tgt := 31) hx hb dX6_lastTeller_27 (by decide) ?_
    exact retI (u := ()) hc hw hm dX6_lastTeller_31
set_option maxHeartbeats 4000000 in
set_option maxRecDepth 100000 in
theorem c_X6_lawInForce {l : Launch} {D : va_G} {cy : Nat → ClassId} {aB : Nat → Nat} {als : Nat → Nat} {e_B_told : Nat} {e_B_mentions : Nat} {e_B_claims : Nat} {SB : Ob} {Sls : (Nat → Option Nat)} {Q : Option Nat → Prop} (hm : w_X6_lawInForce SB Sls Q) : CtQ l yX6_lawInForce cX6_lawInForce 1 (some (.object "OlderTale$Law")) (rmN 0) D cy [.ref (aB 0)] ((bW cy aB (als 0) e_B_told e_B_mentions e_B_claims SB) ++ (lsW cy als Sls)) (fun _ : Unit => ((bW cy aB (als 0) e_B_told e_B_mentions e_B_claims SB) ++ (lsW cy als Sls))) (fun (r : Option Nat) (_ : Unit) => Q r) := by
  refine CtQ.ofW (by decide) (Nat.le_of_ble_eq_true rfl) ?_
  intro p e s m args below meth c A ls hc hnm hw hl
  have hx := hc.1.1
  have hb := hc.1.2.1
  have hown := hc.1.2.2.2.1
  have hts := hc.1.2.2.2.2
  have hl : lv_has ls 1 [(0, .ref (aB 0))] := hl
  obtain ⟨H, hH⟩ : ∃ z, z = s.heap := ⟨_, rfl⟩
  obtain ⟨locs, hLc⟩ : ∃ z : List Loc, z = [] := ⟨_, rfl⟩
  have hw : wV D A s.heap ((bW cy aB (als 0) e_B_told e_B_mentions e_B_claims SB) ++ (lsW cy als Sls)) H locs := by rw [hH, hLc]; exact hw
  have hgo : W p l e (rmN 0) s m args below meth c H locs 0 0 (MQ below (eQ D cy A (fun _ : Unit => ((bW cy aB (als 0) e_B_told e_B_mentions e_B_claims SB) ++ (lsW cy als Sls))) (fun (r : Option Nat) (_ : Unit) => Q r)) args s (rmN 0).cells (rmN 0).slots A) (F0 m 0 ls []) := ?hgo
  · rw [hH, hLc] at hgo; exact hgo
  refine lv_aload_n hx hb dX6_lawInForce_0 rfl (lv_at hl 0 rfl) ?_
  refine gF (k := 8) hc hw inX6 rfl 0 rfl (by decide) (gm 223 (by decide +kernel) rfl) rfl dX6_lawInForce_1 ?_
  refine lv_if_lt (tgt := 30) hx hb dX6_lawInForce_4 (by decide) (fun c3 => ?_) (fun c3 => ?_)
  · have hm := hm.1 c3
    refine lv_null hx hb dX6_lawInForce_30 ?_
    exact retQ (r := none) (u := ()) hc hw hm rfl dX6_lawInForce_31
  · have hm := hm.2 c3
    refine lv_aload_n hx hb dX6_lawInForce_7 rfl (lv_at hl 0 rfl) ?_
    refine gF (k := 8) hc hw inX6 rfl 0 rfl (by decide) (gm 223 (by decide +kernel) rfl) rfl dX6_lawInForce_8 ?_
    refine lv_aload_n hx hb dX6_lawInForce_11 rfl (lv_at hl 0 rfl) ?_
    refine gF (k := 7) hc hw inX6 rfl 0 rfl (by decide) (gm 221 (by decide +kernel) rfl) rfl dX6_lawInForce_12 ?_
    refine lv_icmp_ge (tgt := 30) hx hb dX6_lawInForce_15 (by decide) (fun c2 => ?_) (fun c2 => ?_)
    · have hm := hm.1 c2
      refine lv_null hx hb dX6_lawInForce_30 ?_
      exact retQ (r := none) (u := ()) hc hw hm rfl dX6_lawInForce_31
    · have hm := hm.2 c2
      refine lv_aload_n hx hb dX6_lawInForce_18 rfl (lv_at hl 0 rfl) ?_
      refine gF (k := 6) hc hw inX6 rfl 0 rfl (by decide) (gm 219 (by decide +kernel) rfl) rfl dX6_lawInForce_19 ?_
      refine lv_aload_n hx hb dX6_lawInForce_22 rfl (lv_at hl 0 rfl) ?_
      refine gF (k := 8) hc hw inX6 rfl 0 rfl (by decide) (gm 223 (by decide +kernel) rfl) rfl dX6_lawInForce_23 ?_
      obtain ⟨c1, hm⟩ := hm
      refine aQ (t0 := 3) hc hw 6 rfl rfl c1 dX6_lawInForce_26 ?_
      refine lv_goto (tgt := 31) hx hb dX6_lawInForce_27 (by decide) ?_
      exact retQ (r := (Sls (Int32.toNatClampNeg (SB.1 8)))) (u := ()) hc hw hm rfl dX6_lawInForce_31
set_option maxHeartbeats 4000000 in
set_option maxRecDepth 100000 in
theorem c_X2_isOf {l : Launch} {D : va_G} {cy : Nat → ClassId} {aLw : Nat → Nat} {SLw : Lw} {x1 : Int32} {x2 : Int32} {Q : Int32 → Prop} (hm : w_X2_isOf SLw x1 x2 Q) : CtI l yX2_isOf cX2_isOf 3 (some .boolean) (rmN 0) D cy [.ref (aLw 0), .int x1, .int x2] (lwW cy aLw SLw) (fun _ : Unit => (lwW cy aLw SLw)) (fun (r : Int32) (_ : Unit) => Q r) := by
  refine CtI.ofW (by decide) (Nat.le_of_ble_eq_true rfl) ?_
  intro p e s m args below meth c A ls hc hnm hw hl
  have hx := hc.1.1
  have hb := hc.1.2.1
  have hown := hc.1.2.2.2.1
  have hts := hc.1.2.2.2.2
  have hl : lv_has ls 3 [(0, .ref (aLw 0)), (1, .int x1), (2, .int x2)] := hl
  obtain ⟨H, hH⟩ : ∃ z, z = s.heap := ⟨_, rfl⟩
  obtain ⟨locs, hLc⟩ : ∃ z : List Loc, z = [] := ⟨_, rfl⟩
  have hw : wV D A s.heap (lwW cy aLw SLw) H locs := by rw [hH, hLc]; exact hw
  have hgo : W p l e (rmN 0) s m args below meth c H locs 0 0 (MQ below (eI D cy A (fun _ : Unit => (lwW cy aLw SLw)) (fun (r : Int32) (_ : Unit) => Q r)) args s (rmN 0).cells (rmN 0).slots A) (F0 m 0 ls []) := ?hgo
  · rw [hH, hLc] at hgo; exact hgo
  refine lv_iload_n hx hb dX2_isOf_0 rfl (lv_at hl 1 rfl) ?_
  refine lv_if_lt (tgt := 27) hx hb dX2_isOf_1 (by decide) (fun c4 => ?_) (fun c4 => ?_)
  · have hm := hm.1 c4
    refine lv_iconst (v := 0) hx hb dX2_isOf_27 (by decide) ?_
    exact retZ (u := ()) hc hw rfl hm dX2_isOf_28
  · have hm := hm.2 c4
    refine lv_iload_n hx hb dX2_isOf_4 rfl (lv_at hl 1 rfl) ?_
    refine lv_aload_n hx hb dX2_isOf_5 rfl (lv_at hl 0 rfl) ?_
    refine gF (k := 0) hc hw inX2 rfl 0 rfl (by decide) (gm 743 (by decide +kernel) rfl) rfl dX2_isOf_6 ?_
    refine aLen (t0 := 0) (v := (Int32.ofNat (SLw.1 0))) hc hw 1 rfl rfl rfl dX2_isOf_9 ?_
    refine lv_icmp_ge (tgt := 27) hx hb dX2_isOf_10 (by decide) (fun c3 => ?_) (fun c3 => ?_)
    · have hm := hm.1 c3
      refine lv_iconst (v := 0) hx hb dX2_isOf_27 (by decide) ?_
      exact retZ (u := ()) hc hw rfl hm dX2_isOf_28
    · have hm := hm.2 c3
      refine lv_aload_n hx hb dX2_isOf_13 rfl (lv_at hl 0 rfl) ?_
      refine gF (k := 0) hc hw inX2 rfl 0 rfl (by decide) (gm 743 (by decide +kernel) rfl) rfl dX2_isOf_14 ?_
      refine lv_iload_n hx hb dX2_isOf_17 rfl (lv_at hl 1 rfl) ?_
      obtain ⟨c1, hm⟩ := hm
      refine aI hc hw 1 rfl c1 rfl dX2_isOf_18 ?_
      refine lv_iload_n hx hb dX2_isOf_19 rfl (lv_at hl 2 rfl) ?_
      refine lv_icmp_ne (tgt := 27) hx hb dX2_isOf_20 (by decide) (fun c2 => ?_) (fun c2 => ?_)
      · have hm := hm.1 c2
        refine lv_iconst (v := 0) hx hb dX2_isOf_27 (by decide) ?_
        exact retZ (u := ()) hc hw rfl hm dX2_isOf_28
      · have hm := hm.2 c2
        refine lv_iconst (v := 1) hx hb dX2_isOf_23 (by decide) ?_
        refine lv_goto (tgt := 28) hx hb dX2_isOf_24 (by decide) ?_
        exact retZ (u := ()) hc hw rfl hm dX2_isOf_28
set_option maxHeartbeats 4000000 in
set_option maxRecDepth 100000 in
theorem c_X1_look {l : Launch} {D : va_G} {cy : Nat → ClassId} {aJ : Nat → Nat} {aB : Nat → Nat} {e_B_laws : Nat} {e_B_told : Nat} {e_B_mentions : Nat} {e_B_claims : Nat} {SJ : Ob} {SB : Ob} {x2 : Int32} {Q : Ob → Prop} (hm : w_X1_look SJ SB x2 Q) : CtV l yX1_look cX1_look 4 none (rmN 1) D cy [.ref (aJ 0), .ref (aB 0), .int x2] ((jW cy aJ SJ) ++ (bW cy aB e_B_laws e_B_told e_B_mentions e_B_claims SB)) (fun u : Ob => ((jW cy aJ u) ++ (bW cy aB e_B_laws e_B_told e_B_mentions e_B_claims SB))) Q := by
  refine CtV.ofW (by decide) (Nat.le_of_ble_eq_true rfl) ?_
  intro p e s m args below meth c A ls hc hnm hw hl
  have hx := hc.1.1
  have hb := hc.1.2.1
  have hown := hc.1.2.2.2.1
  have hts := hc.1.2.2.2.2
  have hl : lv_has ls 4 [(0, .ref (aJ 0)), (1, .ref (aB 0)), (2, .int x2)] := hl
  obtain ⟨H, hH⟩ : ∃ z, z = s.heap := ⟨_, rfl⟩
  obtain ⟨locs, hLc⟩ : ∃ z : List Loc, z = [] := ⟨_, rfl⟩
  have hw : wV D A s.heap ((jW cy aJ SJ) ++ (bW cy aB e_B_laws e_B_told e_B_mentions e_B_claims SB)) H locs := by rw [hH, hLc]; exact hw
  have hgo : W p l e (rmN 1) s m args below meth c H locs 0 0 (MQ below (eV D cy A (fun u : Ob => ((jW cy aJ u) ++ (bW cy aB e_B_laws e_B_told e_B_mentions e_B_claims SB))) Q) args s (rmN 1).cells (rmN 1).slots A) (F0 m 0 ls []) := ?hgo
  · rw [hH, hLc] at hgo; exact hgo
  refine lv_iconst (v := 1) hx hb dX1_look_0 (by decide) ?_
  refine lv_aload_n hx hb dX1_look_1 rfl (lv_at hl 1 rfl) ?_
  refine gN (k := 5) (host := "OlderTale") hc hw inX6 rfl 3 rfl (by decide) (nmm 216 (by decide +kernel)) rfl dX1_look_2 ?_
  refine lv_iconst (v := 0) hx hb dX1_look_5 (by decide) ?_
  refine aI hc hw 8 rfl (vin (by decide)) (j := 0) (by decide) dX1_look_6 ?_
  refine lv_ishl hx hb dX1_look_7 ?_
  refine lv_iconst (v := 1) hx hb dX1_look_8 (by decide) ?_
  refine lv_isub hx hb dX1_look_9 ?_
  refine lv_topi (fun v1 e_v1 => ?_)
  have hm := hm v1 e_v1
  refine lv_istore_n (lv' := [(3, .int v1), (0, .ref (aJ 0)), (1, .ref (aB 0)), (2, .int x2)]) hx hb dX1_look_10 rfl hl (by decide) rfl (fun ls hl => ?_)
  refine lv_aload_n hx hb dX1_look_11 rfl (lv_at hl 1 rfl) ?_
  refine gF (k := 0) hc hw inX1 rfl 0 rfl (by decide) (gm 315 (by decide +kernel) rfl) rfl dX1_look_12 ?_
  refine lv_iconst (v := 0) hx hb dX1_look_15 (by decide) ?_
  refine lv_iload_n hx hb dX1_look_16 rfl (lv_at hl 3 rfl) ?_
  refine sI hc hw 1 rfl (vin (by decide)) (j := 0) (by decide) dX1_look_17 (fun H locs hw => ?_)
  obtain ⟨S2, e_S2⟩ : ∃ z : Ob, z = uA SJ 0 0 x2 := ⟨_, rfl⟩
  have hm := hm S2 e_S2
  have hw : wV D A s.heap ((jW cy aJ S2) ++ (bW cy aB e_B_laws e_B_told e_B_mentions e_B_claims SB)) H locs := by rw [e_S2]; exact hw
  refine lv_aload_n hx hb dX1_look_18 rfl (lv_at hl 1 rfl) ?_
  refine gF (k := 0) hc hw inX1 rfl 0 rfl (by decide) (gm 315 (by decide +kernel) rfl) rfl dX1_look_19 ?_
  refine lv_iconst (v := 1) hx hb dX1_look_22 (by decide) ?_
  refine lv_aload_n hx hb dX1_look_23 rfl (lv_at hl 2 rfl) ?_
  refine gN (k := 0) (host := "OlderTale") hc hw inX6 rfl 3 rfl (by decide) (nmm 196 (by decide +kernel)) rfl dX1_look_24 ?_
  refine lv_iload_n hx hb dX1_look_27 rfl (lv_at hl 3 rfl) ?_
  obtain ⟨c3, hm⟩ := hm
  refine aI hc hw 4 rfl c3 rfl dX1_look_28 ?_
  refine sI hc hw 1 rfl (vin (by decide)) (j := 1) (by decide) dX1_look_29 (fun H locs hw => ?_)
  obtain ⟨S4, e_S4⟩ : ∃ z : Ob, z = uA S2 0 1 (SB.2 0 (Int32.toNatClampNeg x2)) := ⟨_, rfl⟩
  have hm := hm S4 e_S4
  have hw : wV D A s.heap ((jW cy aJ S4) ++ (bW cy aB e_B_laws e_B_told e_B_mentions e_B_claims SB)) H locs := by rw [e_S4]; exact hw
  refine lv_aload_n hx hb dX1_look_30 rfl (lv_at hl 1 rfl) ?_
  refine gF (k := 0) hc hw inX1 rfl 0 rfl (by decide) (gm 315 (by decide +kernel) rfl) rfl dX1_look_31 ?_
  refine lv_iconst (v := 2) hx hb dX1_look_34 (by decide) ?_
  refine lv_aload_n hx hb dX1_look_35 rfl (lv_at hl 2 rfl) ?_
  refine gN (k := 1) (host := "OlderTale") hc hw inX6 rfl 3 rfl (by decide) (nmm 200 (by decide +kernel)) rfl dX1_look_36 ?_
  refine lv_iload_n hx hb dX1_look_39 rfl (lv_at hl 3 rfl) ?_
  obtain ⟨c5, hm⟩ := hm
  refine aI hc hw 5 rfl c5 rfl dX1_look_40 ?_
  refine sI hc hw 1 rfl (vin (by decide)) (j := 2) (by decide) dX1_look_41 (fun H locs hw => ?_)
  obtain ⟨S6, e_S6⟩ : ∃ z : Ob, z = uA S4 0 2 (SB.2 1 (Int32.toNatClampNeg x2)) := ⟨_, rfl⟩
  have hm := hm S6 e_S6
  have hw : wV D A s.heap ((jW cy aJ S6) ++ (bW cy aB e_B_laws e_B_told e_B_mentions e_B_claims SB)) H locs := by rw [e_S6]; exact hw
  refine lv_aload_n hx hb dX1_look_42 rfl (lv_at hl 1 rfl) ?_
  refine gF (k := 0) hc hw inX1 rfl 0 rfl (by decide) (gm 315 (by decide +kernel) rfl) rfl dX1_look_43 ?_
  refine lv_iconst (v := 3) hx hb dX1_look_46 (by decide) ?_
  refine lv_aload_n hx hb dX1_look_47 rfl (lv_at hl 2 rfl) ?_
  refine gN (k := 1) (host := "OlderTale") hc hw inX6 rfl 3 rfl (by decide) (nmm 200 (by decide +kernel)) rfl dX1_look_48 ?_
  refine lv_iload_n hx hb dX1_look_51 rfl (lv_at hl 3 rfl) ?_
  obtain ⟨c7, hm⟩ := hm
  refine aI hc hw 5 rfl c7 rfl dX1_look_52 ?_
  refine lv_aload_n hx hb dX1_look_53 rfl (lv_at hl 2 rfl) ?_
  refine gN (k := 0) (host := "OlderTale") hc hw inX6 rfl 3 rfl (by decide) (nmm 196 (by decide +kernel)) rfl dX1_look_54 ?_
  refine lv_iload_n hx hb dX1_look_57 rfl (lv_at hl 3 rfl) ?_
  obtain ⟨c8, hm⟩ := hm
  refine aI hc hw 4 rfl c8 rfl dX1_look_58 ?_
  refine lv_isub hx hb dX1_look_59 ?_
  refine sI hc hw 1 rfl (vin (by decide)) (j := 3) (by decide) dX1_look_60 (fun H locs hw => ?_)
  obtain ⟨S9, e_S9⟩ : ∃ z : Ob, z = uA S6 0 3 ((SB.2 1 (Int32.toNatClampNeg x2)) - (SB.2 0 (Int32.toNatClampNeg x2))) := ⟨_, rfl⟩
  have hm := hm S9 e_S9
  have hw : wV D A s.heap ((jW cy aJ S9) ++ (bW cy aB e_B_laws e_B_told e_B_mentions e_B_claims SB)) H locs := by rw [e_S9]; exact hw
  refine lv_aload_n hx hb dX1_look_61 rfl (lv_at hl 1 rfl) ?_
  refine gF (k := 0) hc hw inX1 rfl 0 rfl (by decide) (gm 315 (by decide +kernel) rfl) rfl dX1_look_62 ?_
  refine lv_iconst (v := 4) hx hb dX1_look_65 (by decide) ?_
  refine lv_aload_n hx hb dX1_look_66 rfl (lv_at hl 2 rfl) ?_
  refine gN (k := 2) (host := "OlderTale") hc hw inX6 rfl 3 rfl (by decide) (nmm 205 (by decide +kernel)) rfl dX1_look_67 ?_
  refine lv_iload_n hx hb dX1_look_70 rfl (lv_at hl 3 rfl) ?_
  obtain ⟨c10, hm⟩ := hm
  refine aI hc hw 6 rfl c10 rfl dX1_look_71 ?_
  refine sI hc hw 1 rfl (vin (by decide)) (j := 4) (by decide) dX1_look_72 (fun H locs hw => ?_)
  obtain ⟨S11, e_S11⟩ : ∃ z : Ob, z = uA S9 0 4 (SB.2 2 (Int32.toNatClampNeg x2)) := ⟨_, rfl⟩
  have hm := hm S11 e_S11
  have hw : wV D A s.heap ((jW cy aJ S11) ++ (bW cy aB e_B_laws e_B_told e_B_mentions e_B_claims SB)) H locs := by rw [e_S11]; exact hw
  refine lv_aload_n hx hb dX1_look_73 rfl (lv_at hl 1 rfl) ?_
  refine gF (k := 0) hc hw inX1 rfl 0 rfl (by decide) (gm 315 (by decide +kernel) rfl) rfl dX1_look_74 ?_
  refine lv_iconst (v := 5) hx hb dX1_look_77 (by decide) ?_
  refine lv_aload_n hx hb dX1_look_78 rfl (lv_at hl 2 rfl) ?_
  refine gN (k := 3) (host := "OlderTale") hc hw inX6 rfl 3 rfl (by decide) (nmm 208 (by decide +kernel)) rfl dX1_look_79 ?_
  refine lv_iload_n hx hb dX1_look_82 rfl (lv_at hl 3 rfl) ?_
  obtain ⟨c12, hm⟩ := hm
  refine aI hc hw 7 rfl c12 rfl dX1_look_83 ?_
  refine lv_iload_n hx hb dX1_look_84 rfl (lv_at hl 0 rfl) ?_
  refine lv_iand hx hb dX1_look_85 ?_
  refine zS_I (As := [.int ((SB.2 3 (Int32.toNatClampNeg x2)) &&& v1)]) (rest := [.int 5, .ref (aJ 1)]) hc hw (c_J6_bitCount_0f7a4 hm) lk_X1_39 ⟨Nat.le_of_ble_eq_true rfl, Nat.le_of_ble_eq_true rfl⟩ ⟨Nat.le_of_ble_eq_true rfl, Nat.le_of_ble_eq_true rfl⟩ hl.1 rfl (Nat.le_of_ble_eq_true rfl) rfl dX1_look_86 (fun r13 H locs hm hw => ?_)
  refine sI hc hw 1 rfl (vin (by decide)) (j := 5) (by decide) dX1_look_89 (fun H locs hw => ?_)
  obtain ⟨S15, e_S15⟩ : ∃ z : Ob, z = uA S11 0 5 r13 := ⟨_, rfl⟩
  have hm := hm S15 e_S15
  have hw : wV D A s.heap ((jW cy aJ S15) ++ (bW cy aB e_B_laws e_B_told e_B_mentions e_B_claims SB)) H locs := by rw [e_S15]; exact hw
  refine lv_aload_n hx hb dX1_look_90 rfl (lv_at hl 1 rfl) ?_
  refine gF (k := 0) hc hw inX1 rfl 0 rfl (by decide) (gm 315 (by decide +kernel) rfl) rfl dX1_look_91 ?_
  refine lv_bipush (v := 6) hx hb dX1_look_94 (by decide) ?_
  refine lv_aload_n hx hb dX1_look_96 rfl (lv_at hl 2 rfl) ?_
  refine gN (k := 5) (host := "OlderTale") hc hw inX6 rfl 3 rfl (by decide) (nmm 216 (by decide +kernel)) rfl dX1_look_97 ?_
  refine lv_iconst (v := 2) hx hb dX1_look_100 (by decide) ?_
  refine aI hc hw 8 rfl (vin (by decide)) (j := 2) (by decide) dX1_look_101 ?_
  refine sI hc hw 1 rfl (vin (by decide)) (j := 6) (by decide) dX1_look_102 (fun H locs hw => ?_)
  obtain ⟨S16, e_S16⟩ : ∃ z : Ob, z = uA S15 0 6 (SB.2 5 2) := ⟨_, rfl⟩
  have hm := hm S16 e_S16
  have hw : wV D A s.heap ((jW cy aJ S16) ++ (bW cy aB e_B_laws e_B_told e_B_mentions e_B_claims SB)) H locs := by rw [e_S16]; exact hw
  refine lv_aload_n hx hb dX1_look_103 rfl (lv_at hl 1 rfl) ?_
  refine gF (k := 0) hc hw inX1 rfl 0 rfl (by decide) (gm 315 (by decide +kernel) rfl) rfl dX1_look_104 ?_
  refine lv_bipush (v := 7) hx hb dX1_look_107 (by decide) ?_
  refine lv_iconst (v := (-1)) hx hb dX1_look_109 (by decide) ?_
  refine sI hc hw 1 rfl (vin (by decide)) (j := 7) (by decide) dX1_look_110 (fun H locs hw => ?_)
  obtain ⟨S17, e_S17⟩ : ∃ z : Ob, z = uA S16 0 7 (-1) := ⟨_, rfl⟩
  have hm := hm S17 e_S17
  have hw : wV D A s.heap ((jW cy aJ S17) ++ (bW cy aB e_B_laws e_B_told e_B_mentions e_B_claims SB)) H locs := by rw [e_S17]; exact hw
  exact retV (u := S17) hc hw hm dX1_look_111
set_option maxHeartbeats 4000000 in
set_option maxRecDepth 100000 in
theorem c_X1_push {l : Launch} {D : va_G} {cy : Nat → ClassId} {aJ : Nat → Nat} {SJ : Ob} {x1 : Int32} {Q : Ob → Prop} (hm : w_X1_push SJ x1 Q) : CtV l yX1_push cX1_push 2 none (rmN 0) D cy [.ref (aJ 0), .int x1] (jW cy aJ SJ) (fun u : Ob => (jW cy aJ u)) Q := by
  refine CtV.ofW (by decide) (Nat.le_of_ble_eq_true rfl) ?_
  intro p e s m args below meth c A ls hc hnm hw hl
  have hx := hc.1.1
  have hb := hc.1.2.1
  have hown := hc.1.2.2.2.1
  have hts := hc.1.2.2.2.2
  have hl : lv_has ls 2 [(0, .ref (aJ 0)), (1, .int x1)] := hl
  obtain ⟨H, hH⟩ : ∃ z, z = s.heap := ⟨_, rfl⟩
  obtain ⟨locs, hLc⟩ : ∃ z : List Loc, z = [] := ⟨_, rfl⟩
  have hw : wV D A s.heap (jW cy aJ SJ) H locs := by rw [hH, hLc]; exact hw
  have hgo : W p l e (rmN 0) s m args below meth c H locs 0 0 (MQ below (eV D cy A (fun u : Ob => (jW cy aJ u)) Q) args s (rmN 0).cells (rmN 0).slots A) (F0 m 0 ls []) := ?hgo
  · rw [hH, hLc] at hgo; exact hgo
  refine lv_aload_n hx hb dX1_push_0 rfl (lv_at hl 0 rfl) ?_
  refine gF (k := 2) hc hw inX1 rfl 0 rfl (by decide) (gm 317 (by decide +kernel) rfl) rfl dX1_push_1 ?_
  refine lv_if_lt (tgt := 36) hx hb dX1_push_4 (by decide) (fun c5 => ?_) (fun c5 => ?_)
  · have hm := hm.1 c5
    exact retV (u := SJ) hc hw hm dX1_push_36
  · have hm := hm.2 c5
    refine lv_aload_n hx hb dX1_push_7 rfl (lv_at hl 0 rfl) ?_
    refine gF (k := 2) hc hw inX1 rfl 0 rfl (by decide) (gm 317 (by decide +kernel) rfl) rfl dX1_push_8 ?_
    refine lv_bipush (v := 54) hx hb dX1_push_11 (by decide) ?_
    refine lv_icmp_ge (tgt := 36) hx hb dX1_push_13 (by decide) (fun c4 => ?_) (fun c4 => ?_)
    · have hm := hm.1 c4
      exact retV (u := SJ) hc hw hm dX1_push_36
    · have hm := hm.2 c4
      refine lv_aload_n hx hb dX1_push_16 rfl (lv_at hl 0 rfl) ?_
      refine gF (k := 1) hc hw inX1 rfl 0 rfl (by decide) (gm 316 (by decide +kernel) rfl) rfl dX1_push_17 ?_
      refine lv_aload_n hx hb dX1_push_20 rfl (lv_at hl 0 rfl) ?_
      refine gF (k := 2) hc hw inX1 rfl 0 rfl (by decide) (gm 317 (by decide +kernel) rfl) rfl dX1_push_21 ?_
      refine lv_iload_n hx hb dX1_push_24 rfl (lv_at hl 1 rfl) ?_
      obtain ⟨c1, hm⟩ := hm
      refine sI hc hw 2 rfl c1 rfl dX1_push_25 (fun H locs hw => ?_)
      obtain ⟨S2, e_S2⟩ : ∃ z : Ob, z = uA SJ 1 (Int32.toNatClampNeg (SJ.1 2)) x1 := ⟨_, rfl⟩
      have hm := hm S2 e_S2
      have hw : wV D A s.heap (jW cy aJ S2) H locs := by rw [e_S2]; exact hw
      refine lv_aload_n hx hb dX1_push_26 rfl (lv_at hl 0 rfl) ?_
      refine lv_dup hx hb dX1_push_27 rfl ?_
      refine gF (k := 2) hc hw inX1 rfl 0 rfl (by decide) (gm 317 (by decide +kernel) rfl) rfl dX1_push_28 ?_
      refine lv_iconst (v := 1) hx hb dX1_push_31 (by decide) ?_
      refine lv_iadd hx hb dX1_push_32 ?_
      refine pF (k := 2) (ty := .int) hc hw inX1 tyX1_ok nmX1 rfl 0 rfl (by decide) (gm 317 (by decide +kernel) rfl) rfl (by decide +kernel) rfl rfl (Nat.le_of_ble_eq_true rfl) dX1_push_33 (fun H locs hw => ?_)
      obtain ⟨S3, e_S3⟩ : ∃ z : Ob, z = uS S2 2 ((S2.1 2) + 1) := ⟨_, rfl⟩
      have hm := hm S3 e_S3
      have hw : wV D A s.heap (jW cy aJ S3) H locs := by rw [e_S3]; exact hw
      exact retV (u := S3) hc hw hm dX1_push_36
set_option maxHeartbeats 4000000 in
set_option maxRecDepth 100000 in
theorem c_X1_top {l : Launch} {D : va_G} {cy : Nat → ClassId} {aJ : Nat → Nat} {SJ : Ob} {Q : Int32 → Prop} (hm : w_X1_top SJ Q) : CtI l yX1_top cX1_top 1 (some .int) (rmN 0) D cy [.ref (aJ 0)] (jW cy aJ SJ) (fun _ : Unit => (jW cy aJ SJ)) (fun (r : Int32) (_ : Unit) => Q r) := by
  refine CtI.ofW (by decide) (Nat.le_of_ble_eq_true rfl) ?_
  intro p e s m args below meth c A ls hc hnm hw hl
  have hx := hc.1.1
  have hb := hc.1.2.1
  have hown := hc.1.2.2.2.1
  have hts := hc.1.2.2.2.2
  have hl : lv_has ls 1 [(0, .ref (aJ 0))] := hl
  obtain ⟨H, hH⟩ : ∃ z, z = s.heap := ⟨_, rfl⟩
  obtain ⟨locs, hLc⟩ : ∃ z : List Loc, z = [] := ⟨_, rfl⟩
  have hw : wV D A s.heap (jW cy aJ SJ) H locs := by rw [hH, hLc]; exact hw
  have hgo : W p l e (rmN 0) s m args below meth c H locs 0 0 (MQ below (eI D cy A (fun _ : Unit => (jW cy aJ SJ)) (fun (r : Int32) (_ : Unit) => Q r)) args s (rmN 0).cells (rmN 0).slots A) (F0 m 0 ls []) := ?hgo
  · rw [hH, hLc] at hgo; exact hgo
  refine lv_aload_n hx hb dX1_top_0 rfl (lv_at hl 0 rfl) ?_
  refine gF (k := 2) hc hw inX1 rfl 0 rfl (by decide) (gm 317 (by decide +kernel) rfl) rfl dX1_top_1 ?_
  refine lv_if_le (tgt := 30) hx hb dX1_top_4 (by decide) (fun c3 => ?_) (fun c3 => ?_)
  · have hm := hm.1 c3
    refine lv_iconst (v := 0) hx hb dX1_top_30 (by decide) ?_
    exact retI (u := ()) hc hw hm dX1_top_31
  · have hm := hm.2 c3
    refine lv_aload_n hx hb dX1_top_7 rfl (lv_at hl 0 rfl) ?_
    refine gF (k := 2) hc hw inX1 rfl 0 rfl (by decide) (gm 317 (by decide +kernel) rfl) rfl dX1_top_8 ?_
    refine lv_bipush (v := 54) hx hb dX1_top_11 (by decide) ?_
    refine lv_icmp_gt (tgt := 30) hx hb dX1_top_13 (by decide) (fun c2 => ?_) (fun c2 => ?_)
    · have hm := hm.1 c2
      refine lv_iconst (v := 0) hx hb dX1_top_30 (by decide) ?_
      exact retI (u := ()) hc hw hm dX1_top_31
    · have hm := hm.2 c2
      refine lv_aload_n hx hb dX1_top_16 rfl (lv_at hl 0 rfl) ?_
      refine gF (k := 1) hc hw inX1 rfl 0 rfl (by decide) (gm 316 (by decide +kernel) rfl) rfl dX1_top_17 ?_
      refine lv_aload_n hx hb dX1_top_20 rfl (lv_at hl 0 rfl) ?_
      refine gF (k := 2) hc hw inX1 rfl 0 rfl (by decide) (gm 317 (by decide +kernel) rfl) rfl dX1_top_21 ?_
      refine lv_iconst (v := 1) hx hb dX1_top_24 (by decide) ?_
      refine lv_isub hx hb dX1_top_25 ?_
      obtain ⟨c1, hm⟩ := hm
      refine aI hc hw 2 rfl c1 rfl dX1_top_26 ?_
      refine lv_goto (tgt := 31) hx hb dX1_top_27 (by decide) ?_
      exact retI (u := ()) hc hw hm dX1_top_31
set_option maxHeartbeats 4000000 in
set_option maxRecDepth 100000 in
theorem c_X1_joined {l : Launch} {D : va_G} {cy : Nat → ClassId} {x0 : Int32} {x1 : Int64} {x3 : Int64} {Q : Int64 → Prop} (hm : w_X1_joined x0 x1 x3 Q) : CtL l yX1_joined cX1_joined 5 (some .long) (rmN 0) D cy [.int x0, .long x1, .long x3] ([] : va_W) (fun _ : Unit => ([] : va_W)) (fun (r : Int64) (_ : Unit) => Q r) := by
  refine CtL.ofW (by decide) (Nat.le_of_ble_eq_true rfl) ?_
  intro p e s m args below meth c A ls hc hnm hw hl
  have hx := hc.1.1
  have hb := hc.1.2.1
  have hown := hc.1.2.2.2.1
  have hts := hc.1.2.2.2.2
  have hl : lv_has ls 5 [(0, .int x0), (1, .long x1), (3, .long x3)] := hl
  obtain ⟨H, hH⟩ : ∃ z, z = s.heap := ⟨_, rfl⟩
  obtain ⟨locs, hLc⟩ : ∃ z : List Loc, z = [] := ⟨_, rfl⟩
  have hw : wV D A s.heap ([] : va_W) H locs := by rw [hH, hLc]; exact hw
  have hgo : W p l e (rmN 0) s m args below meth c H locs 0 0 (MQ below (eL D cy A (fun _ : Unit => ([] : va_W)) (fun (r : Int64) (_ : Unit) => Q r)) args s (rmN 0).cells (rmN 0).slots A) (F0 m 0 ls []) := ?hgo
  · rw [hH, hLc] at hgo; exact hgo
  refine lv_iload_n hx hb dX1_joined_0 rfl (lv_at hl 0 rfl) ?_
  refine lv_topi (fun v1 e_v1 => ?_)
  have hm := hm v1 e_v1
  by_cases c2 : v1 = 42
  · have hm := hm.1 c2
    refine lv_lookup (off := 67) (tgt := 68) hx hb dX1_joined_1 (by decide) (by rw [c2]; rfl) (by decide) ?_
    refine lv_lload_n hx hb dX1_joined_68 rfl (lv_at hl 1 rfl) ?_
    refine lv_lload_n hx hb dX1_joined_69 rfl (lv_at hl 2 rfl) ?_
    refine lv_lmul hx hb dX1_joined_70 ?_
    exact retL (u := ()) hc hw hm dX1_joined_71
  by_cases c3 : v1 = 43
  · have hm := hm.2.1 c3
    refine lv_lookup (off := 59) (tgt := 60) hx hb dX1_joined_1 (by decide) (by rw [c3]; rfl) (by decide) ?_
    refine lv_lload_n hx hb dX1_joined_60 rfl (lv_at hl 1 rfl) ?_
    refine lv_lload_n hx hb dX1_joined_61 rfl (lv_at hl 2 rfl) ?_
    refine lv_ladd hx hb dX1_joined_62 ?_
    exact retL (u := ()) hc hw hm dX1_joined_63
  by_cases c4 : v1 = 45
  · have hm := hm.2.2.1 c4
    refine lv_lookup (off := 63) (tgt := 64) hx hb dX1_joined_1 (by decide) (by rw [c4]; rfl) (by decide) ?_
    refine lv_lload_n hx hb dX1_joined_64 rfl (lv_at hl 1 rfl) ?_
    refine lv_lload_n hx hb dX1_joined_65 rfl (lv_at hl 2 rfl) ?_
    refine lv_lsub hx hb dX1_joined_66 ?_
    exact retL (u := ()) hc hw hm dX1_joined_67
  by_cases c7 : v1 = 47
  · have hm := hm.2.2.2.1 c7
    refine lv_lookup (off := 71) (tgt := 72) hx hb dX1_joined_1 (by decide) (by rw [c7]; rfl) (by decide) ?_
    refine lv_lload_n hx hb dX1_joined_72 rfl (lv_at hl 2 rfl) ?_
    refine lv_lconst (v := 0) hx hb dX1_joined_73 (by decide) ?_
    refine W.lcmp hx hb dX1_joined_74 ?_
    refine lv_if_eq (tgt := 84) hx hb dX1_joined_75 (by decide) (fun c6 => ?_) (fun c6 => ?_)
    · have hm := hm.1 c6
      refine lv_lconst (v := 0) hx hb dX1_joined_84 (by decide) ?_
      exact retL (u := ()) hc hw hm dX1_joined_85
    · have hm := hm.2 c6
      refine lv_lload_n hx hb dX1_joined_78 rfl (lv_at hl 1 rfl) ?_
      refine lv_lload_n hx hb dX1_joined_79 rfl (lv_at hl 2 rfl) ?_
      obtain ⟨c5, hm⟩ := hm
      refine lv_ldiv hx hb dX1_joined_80 c5 ?_
      refine lv_goto (tgt := 85) hx hb dX1_joined_81 (by decide) ?_
      exact retL (u := ()) hc hw hm dX1_joined_85
  by_cases c9 : v1 = 60
  · have hm := hm.2.2.2.2.1 c9
    refine lv_lookup (off := 85) (tgt := 86) hx hb dX1_joined_1 (by decide) (by rw [c9]; rfl) (by decide) ?_
    refine lv_lload_n hx hb dX1_joined_86 rfl (lv_at hl 1 rfl) ?_
    refine lv_lload_n hx hb dX1_joined_87 rfl (lv_at hl 2 rfl) ?_
    refine W.lcmp hx hb dX1_joined_88 ?_
    refine lv_if_ge (tgt := 96) hx hb dX1_joined_89 (by decide) (fun c8 => ?_) (fun c8 => ?_)
    · have hm := hm.1 c8
      refine lv_lconst (v := 0) hx hb dX1_joined_96 (by decide) ?_
      exact retL (u := ()) hc hw hm dX1_joined_97
    · have hm := hm.2 c8
      refine lv_lconst (v := 1) hx hb dX1_joined_92 (by decide) ?_
      refine lv_goto (tgt := 97) hx hb dX1_joined_93 (by decide) ?_
      exact retL (u := ()) hc hw hm dX1_joined_97
  by_cases c11 : v1 = 62
  · have hm := hm.2.2.2.2.2.1 c11
    refine lv_lookup (off := 97) (tgt := 98) hx hb dX1_joined_1 (by decide) (by rw [c11]; rfl) (by decide) ?_
    refine lv_lload_n hx hb dX1_joined_98 rfl (lv_at hl 1 rfl) ?_
    refine lv_lload_n hx hb dX1_joined_99 rfl (lv_at hl 2 rfl) ?_
    refine W.lcmp hx hb dX1_joined_100 ?_
    refine lv_if_le (tgt := 108) hx hb dX1_joined_101 (by decide) (fun c10 => ?_) (fun c10 => ?_)
    · have hm := hm.1 c10
      refine lv_lconst (v := 0) hx hb dX1_joined_108 (by decide) ?_
      exact retL (u := ()) hc hw hm dX1_joined_109
    · have hm := hm.2 c10
      refine lv_lconst (v := 1) hx hb dX1_joined_104 (by decide) ?_
      refine lv_goto (tgt := 109) hx hb dX1_joined_105 (by decide) ?_
      exact retL (u := ()) hc hw hm dX1_joined_109
  have hm := hm.2.2.2.2.2.2 c2 c3 c4 c7 c9 c11
  refine lv_lookup (off := 109) (tgt := 110) hx hb dX1_joined_1 (by decide) (lko (List.forall_mem_cons.mpr ⟨nel 42 (by decide) c2, List.forall_mem_cons.mpr ⟨nel 43 (by decide) c3, List.forall_mem_cons.mpr ⟨nel 45 (by decide) c4, List.forall_mem_cons.mpr ⟨nel 47 (by decide) c7, List.forall_mem_cons.mpr ⟨nel 60 (by decide) c9, List.forall_mem_cons.mpr ⟨nel 62 (by decide) c11, fun _ h => by cases h⟩⟩⟩⟩⟩⟩)) (by decide) ?_
  refine lv_lload_n hx hb dX1_joined_110 rfl (lv_at hl 1 rfl) ?_
  refine lv_lload_n hx hb dX1_joined_111 rfl (lv_at hl 2 rfl) ?_
  refine W.lcmp hx hb dX1_joined_112 ?_
  refine lv_if_ne (tgt := 120) hx hb dX1_joined_113 (by decide) (fun c12 => ?_) (fun c12 => ?_)
  · have hm := hm.1 c12
    refine lv_lconst (v := 0) hx hb dX1_joined_120 (by decide) ?_
    exact retL (u := ()) hc hw hm dX1_joined_121
  · have hm := hm.2 c12
    refine lv_lconst (v := 1) hx hb dX1_joined_116 (by decide) ?_
    refine lv_goto (tgt := 121) hx hb dX1_joined_117 (by decide) ?_
    exact retL (u := ()) hc hw hm dX1_joined_121
set_option maxHeartbeats 4000000 in
set_option maxRecDepth 100000 in
theorem c_X1_joins {l : Launch} {D : va_G} {cy : Nat → ClassId} {aJ : Nat → Nat} {SJ : Ob} {x1 : Int32} {Q : Int32 → Ob → Prop} (hm : w_X1_joins SJ x1 Q) : CtI l yX1_joins cX1_joins 8 (some .boolean) (rmN 1) D cy [.ref (aJ 0), .int x1] (jW cy aJ SJ) (fun u : Ob => (jW cy aJ u)) Q := by
  refine CtI.ofW (by decide) (Nat.le_of_ble_eq_true rfl) ?_
  intro p e s m args below meth c A ls hc hnm hw hl
  have hx := hc.1.1
  have hb := hc.1.2.1
  have hown := hc.1.2.2.2.1
  have hts := hc.1.2.2.2.2
  have hl : lv_has ls 8 [(0, .ref (aJ 0)), (1, .int x1)] := hl
  obtain ⟨H, hH⟩ : ∃ z, z = s.heap := ⟨_, rfl⟩
  obtain ⟨locs, hLc⟩ : ∃ z : List Loc, z = [] := ⟨_, rfl⟩
  have hw : wV D A s.heap (jW cy aJ SJ) H locs := by rw [hH, hLc]; exact hw
  have hgo : W p l e (rmN 1) s m args below meth c H locs 0 0 (MQ below (eI D cy A (fun u : Ob => (jW cy aJ u)) Q) args s (rmN 1).cells (rmN 1).slots A) (F0 m 0 ls []) := ?hgo
  · rw [hH, hLc] at hgo; exact hgo
  refine lv_aload_n hx hb dX1_joins_0 rfl (lv_at hl 0 rfl) ?_
  refine gF (k := 2) hc hw inX1 rfl 0 rfl (by decide) (gm 317 (by decide +kernel) rfl) rfl dX1_joins_1 ?_
  refine lv_iconst (v := 2) hx hb dX1_joins_4 (by decide) ?_
  refine lv_icmp_lt (tgt := 17) hx hb dX1_joins_5 (by decide) (fun c17 => ?_) (fun c17 => ?_)
  · have hm := hm.1 c17
    refine lv_iconst (v := 0) hx hb dX1_joins_17 (by decide) ?_
    exact retZ (u := SJ) hc hw rfl hm dX1_joins_18
  · have hm := hm.2 c17
    refine lv_aload_n hx hb dX1_joins_8 rfl (lv_at hl 0 rfl) ?_
    refine gF (k := 2) hc hw inX1 rfl 0 rfl (by decide) (gm 317 (by decide +kernel) rfl) rfl dX1_joins_9 ?_
    refine lv_bipush (v := 54) hx hb dX1_joins_12 (by decide) ?_
    refine lv_icmp_le (tgt := 19) hx hb dX1_joins_14 (by decide) (fun c16 => ?_) (fun c16 => ?_)
    · have hm := hm.1 c16
      refine lv_aload_n hx hb dX1_joins_19 rfl (lv_at hl 0 rfl) ?_
      refine gF (k := 1) hc hw inX1 rfl 0 rfl (by decide) (gm 316 (by decide +kernel) rfl) rfl dX1_joins_20 ?_
      refine lv_aload_n hx hb dX1_joins_23 rfl (lv_at hl 0 rfl) ?_
      refine gF (k := 2) hc hw inX1 rfl 0 rfl (by decide) (gm 317 (by decide +kernel) rfl) rfl dX1_joins_24 ?_
      refine lv_iconst (v := 2) hx hb dX1_joins_27 (by decide) ?_
      refine lv_isub hx hb dX1_joins_28 ?_
      obtain ⟨c1, hm⟩ := hm
      refine aI hc hw 2 rfl c1 rfl dX1_joins_29 ?_
      refine lv_i2l hx hb dX1_joins_30 rfl ?_
      refine lv_topl (fun v2 e_v2 => ?_)
      have hm := hm v2 e_v2
      refine lv_lstore_n (lv' := [(2, .long v2), (0, .ref (aJ 0)), (1, .int x1)]) hx hb dX1_joins_31 rfl hl (by decide) rfl (fun ls hl => ?_)
      refine lv_aload_n hx hb dX1_joins_32 rfl (lv_at hl 1 rfl) ?_
      refine gF (k := 1) hc hw inX1 rfl 0 rfl (by decide) (gm 316 (by decide +kernel) rfl) rfl dX1_joins_33 ?_
      refine lv_aload_n hx hb dX1_joins_36 rfl (lv_at hl 1 rfl) ?_
      refine gF (k := 2) hc hw inX1 rfl 0 rfl (by decide) (gm 317 (by decide +kernel) rfl) rfl dX1_joins_37 ?_
      refine lv_iconst (v := 1) hx hb dX1_joins_40 (by decide) ?_
      refine lv_isub hx hb dX1_joins_41 ?_
      obtain ⟨c3, hm⟩ := hm
      refine aI hc hw 2 rfl c3 rfl dX1_joins_42 ?_
      refine lv_i2l hx hb dX1_joins_43 rfl ?_
      refine lv_topl (fun v4 e_v4 => ?_)
      have hm := hm v4 e_v4
      refine lv_lstore (lv' := [(4, .long v4), (2, .long v2), (0, .ref (aJ 0)), (1, .int x1)]) hx hb dX1_joins_44 hl (by decide) rfl (fun ls hl => ?_)
      refine lv_iload_n hx hb dX1_joins_46 rfl (lv_at hl 3 rfl) ?_
      refine lv_bipush (v := 47) hx hb dX1_joins_47 (by decide) ?_
      obtain ⟨J6, eJ6, hm⟩ := jn_e hm
      have hJ6 : ∀ (z5 : Unit) (_ : J6 z5) (H : Heap) (locs : List Loc) (ls : Array Slot), wV D A s.heap (jW cy aJ SJ) H locs → lv_has ls 8 [(0, .ref (aJ 0)), (1, .int x1), (2, .long v2), (4, .long v4)] → W p l e (rmN 1) s m args below meth c H locs 0 0 (MQ below (eI D cy A (fun u : Ob => (jW cy aJ u)) Q) args s (rmN 1).cells (rmN 1).slots A) (F0 m 61 ls []) := by
        intro z5 hm H locs ls hw hl
        rw [eJ6] at hm
        refine lv_iload_n hx hb dX1_joins_61 rfl (lv_at hl 1 rfl) ?_
        refine lv_lload_n hx hb dX1_joins_62 rfl (lv_at hl 2 rfl) ?_
        refine lv_lload hx hb dX1_joins_63 (lv_at hl 3 rfl) ?_
        refine zS_L (As := [.int x1, .long v2, .long v4]) (rest := []) hc hw (c_X1_joined hm) lk_X1_88 ⟨Nat.le_of_ble_eq_true rfl, Nat.le_of_ble_eq_true rfl⟩ ⟨Nat.le_of_ble_eq_true rfl, Nat.le_of_ble_eq_true rfl⟩ hl.1 rfl (Nat.le_of_ble_eq_true rfl) rfl dX1_joins_65 (fun r7 H locs hm hw => ?_)
        refine lv_lstore (lv' := [(6, .long r7), (0, .ref (aJ 0)), (1, .int x1), (2, .long v2), (4, .long v4)]) hx hb dX1_joins_68 hl (by decide) rfl (fun ls hl => ?_)
        refine lv_lload hx hb dX1_joins_70 (lv_at hl 0 rfl) ?_
        refine lv_ldc2 (v := 1000000000) hx hb hown (hts _ (gm 562 (by decide +kernel) rfl)) dX1_joins_72 ?_
        refine W.lcmp hx hb dX1_joins_75 ?_
        refine lv_if_gt (tgt := 88) hx hb dX1_joins_76 (by decide) (fun c13 => ?_) (fun c13 => ?_)
        · have hm := hm.1 c13
          refine lv_iconst (v := 0) hx hb dX1_joins_88 (by decide) ?_
          exact retZ (u := SJ) hc hw rfl hm dX1_joins_89
        · have hm := hm.2 c13
          refine lv_lload hx hb dX1_joins_79 (lv_at hl 0 rfl) ?_
          refine lv_ldc2 (v := (-1000000000)) hx hb hown (hts _ (gm 563 (by decide +kernel) rfl)) dX1_joins_81 ?_
          refine W.lcmp hx hb dX1_joins_84 ?_
          refine lv_if_ge (tgt := 90) hx hb dX1_joins_85 (by decide) (fun c12 => ?_) (fun c12 => ?_)
          · have hm := hm.1 c12
            refine lv_aload_n hx hb dX1_joins_90 rfl (lv_at hl 1 rfl) ?_
            refine lv_dup hx hb dX1_joins_91 rfl ?_
            refine gF (k := 2) hc hw inX1 rfl 0 rfl (by decide) (gm 317 (by decide +kernel) rfl) rfl dX1_joins_92 ?_
            refine lv_iconst (v := 2) hx hb dX1_joins_95 (by decide) ?_
            refine lv_isub hx hb dX1_joins_96 ?_
            refine pF (k := 2) (ty := .int) hc hw inX1 tyX1_ok nmX1 rfl 0 rfl (by decide) (gm 317 (by decide +kernel) rfl) rfl (by decide +kernel) rfl rfl (Nat.le_of_ble_eq_true rfl) dX1_joins_97 (fun H locs hw => ?_)
            obtain ⟨S9, e_S9⟩ : ∃ z : Ob, z = uS SJ 2 ((SJ.1 2) - 2) := ⟨_, rfl⟩
            have hm := hm S9 e_S9
            have hw : wV D A s.heap (jW cy aJ S9) H locs := by rw [e_S9]; exact hw
            refine lv_aload_n hx hb dX1_joins_100 rfl (lv_at hl 1 rfl) ?_
            refine lv_lload hx hb dX1_joins_101 (lv_at hl 0 rfl) ?_
            refine lv_l2i hx hb dX1_joins_103 rfl ?_
            refine aV_V (As := [.int (Int64.toInt32 r7)]) (rest := []) hc hw (c_X1_push hm) lk_X1_76 rfl rfl ⟨Nat.le_of_ble_eq_true rfl, Nat.le_of_ble_eq_true rfl⟩ ⟨Nat.le_of_ble_eq_true rfl, Nat.le_of_ble_eq_true rfl⟩ hl.1 rfl (Nat.le_of_ble_eq_true rfl) rfl dX1_joins_104 (fun S10 H locs hm hw => ?_)
            have hw : wV D A s.heap (jW cy aJ S10) H locs := hw
            refine lv_iconst (v := 1) hx hb dX1_joins_107 (by decide) ?_
            exact retZ (u := S10) hc hw rfl hm dX1_joins_108
          · have hm := hm.2 c12
            refine lv_iconst (v := 0) hx hb dX1_joins_88 (by decide) ?_
            exact retZ (u := SJ) hc hw rfl hm dX1_joins_89
      refine lv_icmp_ne (tgt := 61) hx hb dX1_joins_49 (by decide) (fun c15 => ?_) (fun c15 => ?_)
      · have hm := hm.1 c15
        exact hJ6 _ hm _ _ _ hw (lv_sub hl [2, 3, 1, 0] rfl)
      · have hm := hm.2 c15
        refine lv_lload hx hb dX1_joins_52 (lv_at hl 0 rfl) ?_
        refine lv_lconst (v := 0) hx hb dX1_joins_54 (by decide) ?_
        refine W.lcmp hx hb dX1_joins_55 ?_
        refine lv_if_ne (tgt := 61) hx hb dX1_joins_56 (by decide) (fun c14 => ?_) (fun c14 => ?_)
        · have hm := hm.1 c14
          exact hJ6 _ hm _ _ _ hw (lv_sub hl [2, 3, 1, 0] rfl)
        · have hm := hm.2 c14
          refine lv_iconst (v := 0) hx hb dX1_joins_59 (by decide) ?_
          exact retZ (u := SJ) hc hw rfl hm dX1_joins_60
    · have hm := hm.2 c16
      refine lv_iconst (v := 0) hx hb dX1_joins_17 (by decide) ?_
      exact retZ (u := SJ) hc hw rfl hm dX1_joins_18
set_option maxHeartbeats 4000000 in
set_option maxRecDepth 100000 in
theorem c_X1_holds {l : Launch} {D : va_G} {cy : Nat → ClassId} {aJ : Nat → Nat} {aLw : Nat → Nat} {SJ : Ob} {SLw : Lw} {x2 : Int32} {Q : Int32 → Ob → Prop} (hm : w_X1_holds SJ SLw x2 Q) : CtI l yX1_holds cX1_holds 9 (some .boolean) (rmN 2) D cy [.ref (aJ 0), .ref (aLw 0), .int x2] ((jW cy aJ SJ) ++ (lwW cy aLw SLw)) (fun u : Ob => ((jW cy aJ u) ++ (lwW cy aLw SLw))) Q := by
  refine CtI.ofW (by decide) (Nat.le_of_ble_eq_true rfl) ?_
  intro p e s m args below meth c A ls hc hnm hw hl
  have hx := hc.1.1
  have hb := hc.1.2.1
  have hown := hc.1.2.2.2.1
  have hts := hc.1.2.2.2.2
  have hl : lv_has ls 9 [(0, .ref (aJ 0)), (1, .ref (aLw 0)), (2, .int x2)] := hl
  obtain ⟨H, hH⟩ : ∃ z, z = s.heap := ⟨_, rfl⟩
  obtain ⟨locs, hLc⟩ : ∃ z : List Loc, z = [] := ⟨_, rfl⟩
  have hw : wV D A s.heap ((jW cy aJ SJ) ++ (lwW cy aLw SLw)) H locs := by rw [hH, hLc]; exact hw
  have hgo : W p l e (rmN 2) s m args below meth c H locs 0 0 (MQ below (eI D cy A (fun u : Ob => ((jW cy aJ u) ++ (lwW cy aLw SLw))) Q) args s (rmN 2).cells (rmN 2).slots A) (F0 m 0 ls []) := ?hgo
  · rw [hH, hLc] at hgo; exact hgo
  refine lv_iload_n hx hb dX1_holds_0 rfl (lv_at hl 2 rfl) ?_
  obtain ⟨J2, eJ2, hm⟩ := jn_e hm
  have hJ2 : ∀ (t1 : Int32) (_ : J2 t1) (H : Heap) (locs : List Loc) (ls : Array Slot), wV D A s.heap ((jW cy aJ SJ) ++ (lwW cy aLw SLw)) H locs → lv_has ls 9 [(0, .ref (aJ 0)), (1, .ref (aLw 0)), (2, .int x2)] → W p l e (rmN 2) s m args below meth c H locs 0 0 (MQ below (eI D cy A (fun u : Ob => ((jW cy aJ u) ++ (lwW cy aLw SLw))) Q) args s (rmN 2).cells (rmN 2).slots A) (F0 m 16 ls [.int t1]) := by
    intro t1 hm H locs ls hw hl
    rw [eJ2] at hm
    refine lv_istore_n (lv' := [(3, .int t1), (0, .ref (aJ 0)), (1, .ref (aLw 0)), (2, .int x2)]) hx hb dX1_holds_16 rfl hl (by decide) rfl (fun ls hl => ?_)
    refine lv_aload_n hx hb dX1_holds_17 rfl (lv_at hl 2 rfl) ?_
    refine gN (k := 1) (host := "OlderTale") hc hw inX2 rfl 3 rfl (by decide) (nmm 746 (by decide +kernel)) rfl dX1_holds_18 ?_
    refine lv_iload_n hx hb dX1_holds_21 rfl (lv_at hl 3 rfl) ?_
    obtain ⟨c3, hm⟩ := hm
    refine aI hc hw 5 rfl c3 rfl dX1_holds_22 ?_
    refine lv_aload_n hx hb dX1_holds_23 rfl (lv_at hl 2 rfl) ?_
    refine gN (k := 2) (host := "OlderTale") hc hw inX2 rfl 3 rfl (by decide) (nmm 748 (by decide +kernel)) rfl dX1_holds_24 ?_
    refine aLen (t0 := 0) (v := (Int32.ofNat (SLw.1 2))) hc hw 6 rfl rfl rfl dX1_holds_27 ?_
    refine m_min (rest := []) hc hl.1 (gm 541 (by decide +kernel) rfl) (Nat.le_of_ble_eq_true rfl) (Nat.le_of_ble_eq_true rfl) (Nat.le_of_ble_eq_true rfl) (Nat.le_of_ble_eq_true rfl) dX1_holds_28 ?_
    refine lv_topi (fun v4 e_v4 => ?_)
    have hm := hm v4 e_v4
    refine lv_istore (lv' := [(4, .int v4), (3, .int t1), (0, .ref (aJ 0)), (1, .ref (aLw 0)), (2, .int x2)]) hx hb dX1_holds_31 hl (by decide) rfl (fun ls hl => ?_)
    refine lv_aload_n hx hb dX1_holds_33 rfl (lv_at hl 2 rfl) ?_
    refine lv_iconst (v := 0) hx hb dX1_holds_34 (by decide) ?_
    refine pF (k := 2) (ty := .int) hc hw inX1 tyX1_ok nmX1 rfl 0 rfl (by decide) (gm 317 (by decide +kernel) rfl) rfl (by decide +kernel) rfl rfl (Nat.le_of_ble_eq_true rfl) dX1_holds_35 (fun H locs hw => ?_)
    obtain ⟨S5, e_S5⟩ : ∃ z : Ob, z = uS SJ 2 0 := ⟨_, rfl⟩
    have hm := hm S5 e_S5
    have hw : wV D A s.heap ((jW cy aJ S5) ++ (lwW cy aLw SLw)) H locs := by rw [e_S5]; exact hw
    refine lv_iconst (v := 0) hx hb dX1_holds_38 (by decide) ?_
    refine lv_istore (lv' := [(5, .int 0), (4, .int v4), (3, .int t1), (0, .ref (aJ 0)), (1, .ref (aLw 0)), (2, .int x2)]) hx hb dX1_holds_39 hl (by decide) rfl (fun ls hl => ?_)
    refine wl3_ind (G := fun (x5_6 : Int32) (x3_7 : Int32) (S8 : Ob) => ∀ (H : Heap) (locs : List Loc) (ls : Array Slot), wV D A s.heap ((jW cy aJ S8) ++ (lwW cy aLw SLw)) H locs → lv_has ls 9 [(5, .int x5_6), (4, .int v4), (3, .int x3_7), (0, .ref (aJ 0)), (1, .ref (aLw 0))] → W p l e (rmN 2) s m args below meth c H locs 0 0 (MQ below (eI D cy A (fun u : Ob => ((jW cy aJ u) ++ (lwW cy aLw SLw))) Q) args s (rmN 2).cells (rmN 2).slots A) (F0 m 41 ls [])) ?_ _ _ _ hm H locs ls hw (lv_sub hl [0, 1, 2, 3, 4] rfl)
    intro L9 ih9 x5_6 x3_7 S8 hm H locs ls hw hl
    refine lv_iload hx hb dX1_holds_41 (lv_at hl 0 rfl) ?_
    refine lv_sipush (v := 424) hx hb dX1_holds_43 (by decide) ?_
    obtain ⟨J11, eJ11, hm⟩ := jn_e hm
    have hJ11 : ∀ (z10 : Unit) (_ : J11 z10) (H : Heap) (locs : List Loc) (ls : Array Slot), wV D A s.heap ((jW cy aJ S8) ++ (lwW cy aLw SLw)) H locs → lv_has ls 9 [(0, .ref (aJ 0))] → W p l e (rmN 2) s m args below meth c H locs 0 0 (MQ below (eI D cy A (fun u : Ob => ((jW cy aJ u) ++ (lwW cy aLw SLw))) Q) args s (rmN 2).cells (rmN 2).slots A) (F0 m 260 ls []) := by
      intro z10 hm H locs ls hw hl
      rw [eJ11] at hm
      refine lv_aload_n hx hb dX1_holds_260 rfl (lv_at hl 0 rfl) ?_
      refine gF (k := 2) hc hw inX1 rfl 0 rfl (by decide) (gm 317 (by decide +kernel) rfl) rfl dX1_holds_261 ?_
      refine lv_iconst (v := 2) hx hb dX1_holds_264 (by decide) ?_
      refine lv_icmp_ne (tgt := 281) hx hb dX1_holds_265 (by decide) (fun c13 => ?_) (fun c13 => ?_)
      · have hm := hm.1 c13
        refine lv_iconst (v := 0) hx hb dX1_holds_281 (by decide) ?_
        exact retZ (u := S8) hc hw rfl hm dX1_holds_282
      · have hm := hm.2 c13
        refine lv_aload_n hx hb dX1_holds_268 rfl (lv_at hl 0 rfl) ?_
        refine gF (k := 1) hc hw inX1 rfl 0 rfl (by decide) (gm 316 (by decide +kernel) rfl) rfl dX1_holds_269 ?_
        refine lv_iconst (v := 1) hx hb dX1_holds_272 (by decide) ?_
        refine aI hc hw 2 rfl (vin (by decide)) (j := 1) (by decide) dX1_holds_273 ?_
        refine lv_if_eq (tgt := 281) hx hb dX1_holds_274 (by decide) (fun c12 => ?_) (fun c12 => ?_)
        · have hm := hm.1 c12
          refine lv_iconst (v := 0) hx hb dX1_holds_281 (by decide) ?_
          exact retZ (u := S8) hc hw rfl hm dX1_holds_282
        · have hm := hm.2 c12
          refine lv_iconst (v := 1) hx hb dX1_holds_277 (by decide) ?_
          refine lv_goto (tgt := 282) hx hb dX1_holds_278 (by decide) ?_
          exact retZ (u := S8) hc hw rfl hm dX1_holds_282
    refine lv_icmp_ge (tgt := 260) hx hb dX1_holds_46 (by decide) (fun c67 => ?_) (fun c67 => ?_)
    · have hm := hm.1 c67
      exact hJ11 _ hm _ _ _ hw (lv_sub hl [3] rfl)
    · have hm := hm.2 c67
      refine lv_iload_n hx hb dX1_holds_49 rfl (lv_at hl 2 rfl) ?_
      refine lv_iload hx hb dX1_holds_50 (lv_at hl 1 rfl) ?_
      refine lv_icmp_ge (tgt := 260) hx hb dX1_holds_52 (by decide) (fun c66 => ?_) (fun c66 => ?_)
      · have hm := hm.1 c66
        exact hJ11 _ hm _ _ _ hw (lv_sub hl [3] rfl)
      · have hm := hm.2 c66
        refine lv_aload_n hx hb dX1_holds_55 rfl (lv_at hl 4 rfl) ?_
        refine gN (k := 2) (host := "OlderTale") hc hw inX2 rfl 3 rfl (by decide) (nmm 748 (by decide +kernel)) rfl dX1_holds_56 ?_
        refine lv_iload_n hx hb dX1_holds_59 rfl (lv_at hl 2 rfl) ?_
        obtain ⟨c14, hm⟩ := hm
        refine aI hc hw 6 rfl c14 rfl dX1_holds_60 ?_
        refine lv_topi (fun v15 e_v15 => ?_)
        have hm := hm v15 e_v15
        refine lv_istore (lv' := [(6, .int v15), (5, .int x5_6), (4, .int v4), (3, .int x3_7), (0, .ref (aJ 0)), (1, .ref (aLw 0))]) hx hb dX1_holds_61 hl (by decide) rfl (fun ls hl => ?_)
        refine lv_aload_n hx hb dX1_holds_63 rfl (lv_at hl 5 rfl) ?_
        refine gN (k := 3) (host := "OlderTale") hc hw inX2 rfl 3 rfl (by decide) (nmm 750 (by decide +kernel)) rfl dX1_holds_64 ?_
        refine lv_iload_n hx hb dX1_holds_67 rfl (lv_at hl 3 rfl) ?_
        obtain ⟨c16, hm⟩ := hm
        refine aI hc hw 7 rfl c16 rfl dX1_holds_68 ?_
        refine lv_topi (fun v17 e_v17 => ?_)
        have hm := hm v17 e_v17
        refine lv_istore (lv' := [(7, .int v17), (6, .int v15), (5, .int x5_6), (4, .int v4), (3, .int x3_7), (0, .ref (aJ 0)), (1, .ref (aLw 0))]) hx hb dX1_holds_69 hl (by decide) rfl (fun ls hl => ?_)
        obtain ⟨v18, e_v18⟩ : ∃ z : Int32, z = x3_7 + 1 := ⟨_, rfl⟩
        have hm := hm v18 e_v18
        refine lv_iinc (v := v18) (lv' := [(3, .int v18), (7, .int v17), (6, .int v15), (5, .int x5_6), (4, .int v4), (0, .ref (aJ 0)), (1, .ref (aLw 0))]) hx hb dX1_holds_71 hl (k := 4) rfl (by rw [e_v18]; rfl) (by decide) rfl (fun ls hl => ?_)
        refine lv_iload hx hb dX1_holds_74 (lv_at hl 2 rfl) ?_
        refine lv_sipush (v := 281) hx hb dX1_holds_76 (by decide) ?_
        refine lv_icmp_ne (tgt := 91) hx hb dX1_holds_79 (by decide) (fun c65 => ?_) (fun c65 => ?_)
        · have hm := hm.1 c65
          refine lv_iload hx hb dX1_holds_91 (lv_at hl 2 rfl) ?_
          refine lv_sipush (v := 282) hx hb dX1_holds_93 (by decide) ?_
          refine lv_icmp_ne (tgt := 129) hx hb dX1_holds_96 (by decide) (fun c61 => ?_) (fun c61 => ?_)
          · have hm := hm.1 c61
            refine lv_iload hx hb dX1_holds_129 (lv_at hl 2 rfl) ?_
            refine lv_sipush (v := 261) hx hb dX1_holds_131 (by decide) ?_
            obtain ⟨J20, eJ20, hm⟩ := jn_e hm
            have hJ20 : ∀ (z19 : Unit) (_ : J20 z19) (H : Heap) (locs : List Loc) (ls : Array Slot), wV D A s.heap ((jW cy aJ S8) ++ (lwW cy aLw SLw)) H locs → lv_has ls 9 [(0, .ref (aJ 0)), (1, .ref (aLw 0)), (3, .int v18), (4, .int v4), (5, .int x5_6), (6, .int v15), (7, .int v17)] → W p l e (rmN 2) s m args below meth c H locs 0 0 (MQ below (eI D cy A (fun u : Ob => ((jW cy aJ u) ++ (lwW cy aLw SLw))) Q) args s (rmN 2).cells (rmN 2).slots A) (F0 m 145 ls []) := by
              intro z19 hm H locs ls hw hl
              rw [eJ20] at hm
              refine lv_aload_n hx hb dX1_holds_145 rfl (lv_at hl 0 rfl) ?_
              refine nV_I (As := []) (rest := []) (wc := (jW cy aJ S8)) (wr := (lwW cy aLw SLw)) (isC := [0, 1, 2]) (isR := [3, 4, 5, 6, 7]) hc hw (c_X1_top hm) lk_X1_80 ⟨rfl, rfl, rfl, rfl, by decide⟩ rfl rfl ⟨Nat.le_of_ble_eq_true rfl, Nat.le_of_ble_eq_true rfl⟩ ⟨Nat.le_of_ble_eq_true rfl, Nat.le_of_ble_eq_true rfl⟩ hl.1 rfl (Nat.le_of_ble_eq_true rfl) rfl dX1_holds_146 (fun r21 _ H locs hm hw => ?_)
              have hw : wV D A s.heap ((jW cy aJ S8) ++ (lwW cy aLw SLw)) H locs := hw.perm [5, 6, 7, 0, 1, 2, 3, 4] rfl rfl
              obtain ⟨J24, eJ24, hm⟩ := jn_e hm
              have hJ24 : ∀ (t23 : Int32) (_ : J24 t23) (H : Heap) (locs : List Loc) (ls : Array Slot), wV D A s.heap ((jW cy aJ S8) ++ (lwW cy aLw SLw)) H locs → lv_has ls 9 [(0, .ref (aJ 0)), (1, .ref (aLw 0)), (3, .int v18), (4, .int v4), (5, .int x5_6), (6, .int v15), (7, .int v17)] → W p l e (rmN 2) s m args below meth c H locs 0 0 (MQ below (eI D cy A (fun u : Ob => ((jW cy aJ u) ++ (lwW cy aLw SLw))) Q) args s (rmN 2).cells (rmN 2).slots A) (F0 m 157 ls [.int t23]) := by
                intro t23 hm H locs ls hw hl
                rw [eJ24] at hm
                refine lv_iload hx hb dX1_holds_157 (lv_at hl 5 rfl) ?_
                refine lv_sipush (v := 260) hx hb dX1_holds_159 (by decide) ?_
                obtain ⟨J26, eJ26, hm⟩ := jn_e hm
                have hJ26 : ∀ (t25 : Int32) (_ : J26 t25) (H : Heap) (locs : List Loc) (ls : Array Slot), wV D A s.heap ((jW cy aJ S8) ++ (lwW cy aLw SLw)) H locs → lv_has ls 9 [(0, .ref (aJ 0)), (1, .ref (aLw 0)), (3, .int v18), (4, .int v4), (5, .int x5_6), (7, .int v17)] → W p l e (rmN 2) s m args below meth c H locs 0 0 (MQ below (eI D cy A (fun u : Ob => ((jW cy aJ u) ++ (lwW cy aLw SLw))) Q) args s (rmN 2).cells (rmN 2).slots A) (F0 m 170 ls [.int t25, .int t23]) := by
                  intro t25 hm H locs ls hw hl
                  rw [eJ26] at hm
                  obtain ⟨J28, eJ28, hm⟩ := jn_e hm
                  have hJ28 : ∀ (t27 : Int32) (_ : J28 t27) (H : Heap) (locs : List Loc) (ls : Array Slot), wV D A s.heap ((jW cy aJ S8) ++ (lwW cy aLw SLw)) H locs → lv_has ls 9 [(0, .ref (aJ 0)), (1, .ref (aLw 0)), (3, .int v18), (4, .int v4), (5, .int x5_6), (7, .int v17)] → W p l e (rmN 2) s m args below meth c H locs 0 0 (MQ below (eI D cy A (fun u : Ob => ((jW cy aJ u) ++ (lwW cy aLw SLw))) Q) args s (rmN 2).cells (rmN 2).slots A) (F0 m 178 ls [.int t27]) := by
                    intro t27 hm H locs ls hw hl
                    rw [eJ28] at hm
                    refine lv_istore (lv' := [(8, .int t27), (0, .ref (aJ 0)), (1, .ref (aLw 0)), (3, .int v18), (4, .int v4), (5, .int x5_6), (7, .int v17)]) hx hb dX1_holds_178 hl (by decide) rfl (fun ls hl => ?_)
                    refine lv_iload hx hb dX1_holds_180 (lv_at hl 0 rfl) ?_
                    refine lv_if_eq (tgt := 195) hx hb dX1_holds_182 (by decide) (fun c33 => ?_) (fun c33 => ?_)
                    · have hm := hm.1 c33
                      refine lv_aload_n hx hb dX1_holds_195 rfl (lv_at hl 1 rfl) ?_
                      refine lv_dup hx hb dX1_holds_196 rfl ?_
                      refine gF (k := 2) hc hw inX1 rfl 0 rfl (by decide) (gm 317 (by decide +kernel) rfl) rfl dX1_holds_197 ?_
                      refine lv_iconst (v := 1) hx hb dX1_holds_200 (by decide) ?_
                      refine lv_isub hx hb dX1_holds_201 ?_
                      refine pF (k := 2) (ty := .int) hc hw inX1 tyX1_ok nmX1 rfl 0 rfl (by decide) (gm 317 (by decide +kernel) rfl) rfl (by decide +kernel) rfl rfl (Nat.le_of_ble_eq_true rfl) dX1_holds_202 (fun H locs hw => ?_)
                      obtain ⟨S29, e_S29⟩ : ∃ z : Ob, z = uS S8 2 ((S8.1 2) - 1) := ⟨_, rfl⟩
                      have hm := hm S29 e_S29
                      have hw : wV D A s.heap ((jW cy aJ S29) ++ (lwW cy aLw SLw)) H locs := by rw [e_S29]; exact hw
                      refine lv_goto (tgt := 254) hx hb dX1_holds_205 (by decide) ?_
                      obtain ⟨v30, e_v30⟩ : ∃ z : Int32, z = x5_6 + 1 := ⟨_, rfl⟩
                      have hm := hm v30 e_v30
                      refine lv_iinc (v := v30) (lv' := [(5, .int v30), (8, .int t27), (0, .ref (aJ 0)), (1, .ref (aLw 0)), (3, .int v18), (4, .int v4), (7, .int v17)]) hx hb dX1_holds_254 hl (k := 5) rfl (by rw [e_v30]; rfl) (by decide) rfl (fun ls hl => ?_)
                      refine lv_goto (tgt := 41) hx hb dX1_holds_257 (by decide) ?_
                      exact ih9 _ _ _ hm _ _ _ hw (lv_sub hl [0, 5, 4, 2, 3] rfl)
                    · have hm := hm.2 c33
                      refine lv_iload_n hx hb dX1_holds_185 rfl (lv_at hl 3 rfl) ?_
                      refine lv_iload hx hb dX1_holds_186 (lv_at hl 6 rfl) ?_
                      refine m_max (rest := []) hc hl.1 (gm 552 (by decide +kernel) rfl) (Nat.le_of_ble_eq_true rfl) (Nat.le_of_ble_eq_true rfl) (Nat.le_of_ble_eq_true rfl) (Nat.le_of_ble_eq_true rfl) dX1_holds_188 ?_
                      refine lv_topi (fun v31 e_v31 => ?_)
                      have hm := hm v31 e_v31
                      refine lv_istore_n (lv' := [(3, .int v31), (8, .int t27), (0, .ref (aJ 0)), (1, .ref (aLw 0)), (4, .int v4), (5, .int x5_6), (7, .int v17)]) hx hb dX1_holds_191 rfl hl (by decide) rfl (fun ls hl => ?_)
                      refine lv_goto (tgt := 205) hx hb dX1_holds_192 (by decide) ?_
                      refine lv_goto (tgt := 254) hx hb dX1_holds_205 (by decide) ?_
                      obtain ⟨v32, e_v32⟩ : ∃ z : Int32, z = x5_6 + 1 := ⟨_, rfl⟩
                      have hm := hm v32 e_v32
                      refine lv_iinc (v := v32) (lv' := [(5, .int v32), (3, .int v31), (8, .int t27), (0, .ref (aJ 0)), (1, .ref (aLw 0)), (4, .int v4), (7, .int v17)]) hx hb dX1_holds_254 hl (k := 5) rfl (by rw [e_v32]; rfl) (by decide) rfl (fun ls hl => ?_)
                      refine lv_goto (tgt := 41) hx hb dX1_holds_257 (by decide) ?_
                      exact ih9 _ _ _ hm _ _ _ hw (lv_sub hl [0, 5, 1, 3, 4] rfl)
                  refine lv_icmp_ne (tgt := 177) hx hb dX1_holds_170 (by decide) (fun c34 => ?_) (fun c34 => ?_)
                  · have hm := hm.1 c34
                    refine lv_iconst (v := 0) hx hb dX1_holds_177 (by decide) ?_
                    exact hJ28 _ hm _ _ _ hw (lv_sub hl [0, 1, 2, 3, 4, 5] rfl)
                  · have hm := hm.2 c34
                    refine lv_iconst (v := 1) hx hb dX1_holds_173 (by decide) ?_
                    refine lv_goto (tgt := 178) hx hb dX1_holds_174 (by decide) ?_
                    exact hJ28 _ hm _ _ _ hw (lv_sub hl [0, 1, 2, 3, 4, 5] rfl)
                refine lv_icmp_ne (tgt := 169) hx hb dX1_holds_162 (by decide) (fun c35 => ?_) (fun c35 => ?_)
                · have hm := hm.1 c35
                  refine lv_iconst (v := 0) hx hb dX1_holds_169 (by decide) ?_
                  exact hJ26 _ hm _ _ _ hw (lv_sub hl [0, 1, 2, 3, 4, 6] rfl)
                · have hm := hm.2 c35
                  refine lv_iconst (v := 1) hx hb dX1_holds_165 (by decide) ?_
                  refine lv_goto (tgt := 170) hx hb dX1_holds_166 (by decide) ?_
                  exact hJ26 _ hm _ _ _ hw (lv_sub hl [0, 1, 2, 3, 4, 6] rfl)
              refine lv_if_eq (tgt := 156) hx hb dX1_holds_149 (by decide) (fun c36 => ?_) (fun c36 => ?_)
              · have hm := hm.1 c36
                refine lv_iconst (v := 0) hx hb dX1_holds_156 (by decide) ?_
                exact hJ24 _ hm _ _ _ hw (lv_sub hl [0, 1, 2, 3, 4, 5, 6] rfl)
              · have hm := hm.2 c36
                refine lv_iconst (v := 1) hx hb dX1_holds_152 (by decide) ?_
                refine lv_goto (tgt := 157) hx hb dX1_holds_153 (by decide) ?_
                exact hJ24 _ hm _ _ _ hw (lv_sub hl [0, 1, 2, 3, 4, 5, 6] rfl)
            refine lv_icmp_eq (tgt := 145) hx hb dX1_holds_134 (by decide) (fun c50 => ?_) (fun c50 => ?_)
            · have hm := hm.1 c50
              exact hJ20 _ hm _ _ _ hw (lv_sub hl [5, 6, 0, 4, 3, 2, 1] rfl)
            · have hm := hm.2 c50
              refine lv_iload hx hb dX1_holds_137 (lv_at hl 2 rfl) ?_
              refine lv_sipush (v := 260) hx hb dX1_holds_139 (by decide) ?_
              refine lv_icmp_ne (tgt := 208) hx hb dX1_holds_142 (by decide) (fun c49 => ?_) (fun c49 => ?_)
              · have hm := hm.1 c49
                refine lv_iload hx hb dX1_holds_208 (lv_at hl 2 rfl) ?_
                refine lv_sipush (v := 262) hx hb dX1_holds_210 (by decide) ?_
                refine lv_icmp_ne (tgt := 243) hx hb dX1_holds_213 (by decide) (fun c48 => ?_) (fun c48 => ?_)
                · have hm := hm.1 c48
                  refine lv_aload_n hx hb dX1_holds_243 rfl (lv_at hl 5 rfl) ?_
                  refine lv_iload hx hb dX1_holds_244 (lv_at hl 2 rfl) ?_
                  refine nV_I (As := [.int v15]) (rest := []) (wc := (jW cy aJ S8)) (wr := (lwW cy aLw SLw)) (isC := [0, 1, 2]) (isR := [3, 4, 5, 6, 7]) hc hw (c_X1_joins hm) lk_X1_84 ⟨rfl, rfl, rfl, rfl, by decide⟩ rfl rfl ⟨Nat.le_of_ble_eq_true rfl, Nat.le_of_ble_eq_true rfl⟩ ⟨Nat.le_of_ble_eq_true rfl, Nat.le_of_ble_eq_true rfl⟩ hl.1 rfl (Nat.le_of_ble_eq_true rfl) rfl dX1_holds_246 (fun r37 S38 H locs hm hw => ?_)
                  have hw : wV D A s.heap ((jW cy aJ S38) ++ (lwW cy aLw SLw)) H locs := hw.perm [5, 6, 7, 0, 1, 2, 3, 4] rfl rfl
                  refine lv_if_ne (tgt := 254) hx hb dX1_holds_249 (by decide) (fun c41 => ?_) (fun c41 => ?_)
                  · have hm := hm.1 c41
                    obtain ⟨v40, e_v40⟩ : ∃ z : Int32, z = x5_6 + 1 := ⟨_, rfl⟩
                    have hm := hm v40 e_v40
                    refine lv_iinc (v := v40) (lv' := [(5, .int v40), (3, .int v18), (7, .int v17), (6, .int v15), (4, .int v4), (0, .ref (aJ 0)), (1, .ref (aLw 0))]) hx hb dX1_holds_254 hl (k := 3) rfl (by rw [e_v40]; rfl) (by decide) rfl (fun ls hl => ?_)
                    refine lv_goto (tgt := 41) hx hb dX1_holds_257 (by decide) ?_
                    exact ih9 _ _ _ hm _ _ _ hw (lv_sub hl [0, 4, 1, 5, 6] rfl)
                  · have hm := hm.2 c41
                    refine lv_iconst (v := 0) hx hb dX1_holds_252 (by decide) ?_
                    exact retZ (u := S38) hc hw rfl hm dX1_holds_253
                · have hm := hm.2 c48
                  refine lv_aload_n hx hb dX1_holds_216 rfl (lv_at hl 5 rfl) ?_
                  refine nV_I (As := []) (rest := []) (wc := (jW cy aJ S8)) (wr := (lwW cy aLw SLw)) (isC := [0, 1, 2]) (isR := [3, 4, 5, 6, 7]) hc hw (c_X1_top hm) lk_X1_80 ⟨rfl, rfl, rfl, rfl, by decide⟩ rfl rfl ⟨Nat.le_of_ble_eq_true rfl, Nat.le_of_ble_eq_true rfl⟩ ⟨Nat.le_of_ble_eq_true rfl, Nat.le_of_ble_eq_true rfl⟩ hl.1 rfl (Nat.le_of_ble_eq_true rfl) rfl dX1_holds_217 (fun r42 _ H locs hm hw => ?_)
                  have hw : wV D A s.heap ((jW cy aJ S8) ++ (lwW cy aLw SLw)) H locs := hw.perm [5, 6, 7, 0, 1, 2, 3, 4] rfl rfl
                  refine lv_istore (lv' := [(8, .int r42), (3, .int v18), (7, .int v17), (6, .int v15), (5, .int x5_6), (4, .int v4), (0, .ref (aJ 0)), (1, .ref (aLw 0))]) hx hb dX1_holds_220 hl (by decide) rfl (fun ls hl => ?_)
                  refine lv_aload_n hx hb dX1_holds_222 rfl (lv_at hl 6 rfl) ?_
                  refine lv_dup hx hb dX1_holds_223 rfl ?_
                  refine gF (k := 2) hc hw inX1 rfl 0 rfl (by decide) (gm 317 (by decide +kernel) rfl) rfl dX1_holds_224 ?_
                  refine lv_iconst (v := 1) hx hb dX1_holds_227 (by decide) ?_
                  refine lv_isub hx hb dX1_holds_228 ?_
                  refine pF (k := 2) (ty := .int) hc hw inX1 tyX1_ok nmX1 rfl 0 rfl (by decide) (gm 317 (by decide +kernel) rfl) rfl (by decide +kernel) rfl rfl (Nat.le_of_ble_eq_true rfl) dX1_holds_229 (fun H locs hw => ?_)
                  obtain ⟨S44, e_S44⟩ : ∃ z : Ob, z = uS S8 2 ((S8.1 2) - 1) := ⟨_, rfl⟩
                  have hm := hm S44 e_S44
                  have hw : wV D A s.heap ((jW cy aJ S44) ++ (lwW cy aLw SLw)) H locs := by rw [e_S44]; exact hw
                  refine lv_aload_n hx hb dX1_holds_232 rfl (lv_at hl 6 rfl) ?_
                  refine lv_iconst (v := 1) hx hb dX1_holds_233 (by decide) ?_
                  refine lv_iload hx hb dX1_holds_234 (lv_at hl 0 rfl) ?_
                  refine lv_isub hx hb dX1_holds_236 ?_
                  refine nV_V (As := [.int (1 - r42)]) (rest := []) (wc := (jW cy aJ S44)) (wr := (lwW cy aLw SLw)) (isC := [0, 1, 2]) (isR := [3, 4, 5, 6, 7]) hc hw (c_X1_push hm) lk_X1_76 ⟨rfl, rfl, rfl, rfl, by decide⟩ rfl rfl ⟨Nat.le_of_ble_eq_true rfl, Nat.le_of_ble_eq_true rfl⟩ ⟨Nat.le_of_ble_eq_true rfl, Nat.le_of_ble_eq_true rfl⟩ hl.1 rfl (Nat.le_of_ble_eq_true rfl) rfl dX1_holds_237 (fun S45 H locs hm hw => ?_)
                  have hw : wV D A s.heap ((jW cy aJ S45) ++ (lwW cy aLw SLw)) H locs := hw.perm [5, 6, 7, 0, 1, 2, 3, 4] rfl rfl
                  refine lv_goto (tgt := 254) hx hb dX1_holds_240 (by decide) ?_
                  obtain ⟨v47, e_v47⟩ : ∃ z : Int32, z = x5_6 + 1 := ⟨_, rfl⟩
                  have hm := hm v47 e_v47
                  refine lv_iinc (v := v47) (lv' := [(5, .int v47), (8, .int r42), (3, .int v18), (7, .int v17), (6, .int v15), (4, .int v4), (0, .ref (aJ 0)), (1, .ref (aLw 0))]) hx hb dX1_holds_254 hl (k := 4) rfl (by rw [e_v47]; rfl) (by decide) rfl (fun ls hl => ?_)
                  refine lv_goto (tgt := 41) hx hb dX1_holds_257 (by decide) ?_
                  exact ih9 _ _ _ hm _ _ _ hw (lv_sub hl [0, 5, 2, 6, 7] rfl)
              · have hm := hm.2 c49
                exact hJ20 _ hm _ _ _ hw (lv_sub hl [5, 6, 0, 4, 3, 2, 1] rfl)
          · have hm := hm.2 c61
            refine lv_aload_n hx hb dX1_holds_99 rfl (lv_at hl 5 rfl) ?_
            refine lv_iload hx hb dX1_holds_100 (lv_at hl 1 rfl) ?_
            obtain ⟨J52, eJ52, hm⟩ := jn_e hm
            have hJ52 : ∀ (t51 : Int32) (_ : J52 t51) (H : Heap) (locs : List Loc) (ls : Array Slot), wV D A s.heap ((jW cy aJ S8) ++ (lwW cy aLw SLw)) H locs → lv_has ls 9 [(0, .ref (aJ 0)), (1, .ref (aLw 0)), (3, .int v18), (4, .int v4), (5, .int x5_6)] → W p l e (rmN 2) s m args below meth c H locs 0 0 (MQ below (eI D cy A (fun u : Ob => ((jW cy aJ u) ++ (lwW cy aLw SLw))) Q) args s (rmN 2).cells (rmN 2).slots A) (F0 m 123 ls [.int t51, .ref (aJ 0)]) := by
              intro t51 hm H locs ls hw hl
              rw [eJ52] at hm
              refine nV_V (As := [.int t51]) (rest := []) (wc := (jW cy aJ S8)) (wr := (lwW cy aLw SLw)) (isC := [0, 1, 2]) (isR := [3, 4, 5, 6, 7]) hc hw (c_X1_push hm) lk_X1_76 ⟨rfl, rfl, rfl, rfl, by decide⟩ rfl rfl ⟨Nat.le_of_ble_eq_true rfl, Nat.le_of_ble_eq_true rfl⟩ ⟨Nat.le_of_ble_eq_true rfl, Nat.le_of_ble_eq_true rfl⟩ hl.1 rfl (Nat.le_of_ble_eq_true rfl) rfl dX1_holds_123 (fun S53 H locs hm hw => ?_)
              have hw : wV D A s.heap ((jW cy aJ S53) ++ (lwW cy aLw SLw)) H locs := hw.perm [5, 6, 7, 0, 1, 2, 3, 4] rfl rfl
              refine lv_goto (tgt := 254) hx hb dX1_holds_126 (by decide) ?_
              obtain ⟨v55, e_v55⟩ : ∃ z : Int32, z = x5_6 + 1 := ⟨_, rfl⟩
              have hm := hm v55 e_v55
              refine lv_iinc (v := v55) (lv' := [(5, .int v55), (0, .ref (aJ 0)), (1, .ref (aLw 0)), (3, .int v18), (4, .int v4)]) hx hb dX1_holds_254 hl (k := 4) rfl (by rw [e_v55]; rfl) (by decide) rfl (fun ls hl => ?_)
              refine lv_goto (tgt := 41) hx hb dX1_holds_257 (by decide) ?_
              exact ih9 _ _ _ hm _ _ _ hw (lv_sub hl [0, 4, 3, 1, 2] rfl)
            obtain ⟨J57, eJ57, hm⟩ := jn_e hm
            have hJ57 : ∀ (z56 : Unit) (_ : J57 z56) (H : Heap) (locs : List Loc) (ls : Array Slot), wV D A s.heap ((jW cy aJ S8) ++ (lwW cy aLw SLw)) H locs → lv_has ls 9 [(0, .ref (aJ 0)), (1, .ref (aLw 0)), (3, .int v18), (4, .int v4), (5, .int x5_6)] → W p l e (rmN 2) s m args below meth c H locs 0 0 (MQ below (eI D cy A (fun u : Ob => ((jW cy aJ u) ++ (lwW cy aLw SLw))) Q) args s (rmN 2).cells (rmN 2).slots A) (F0 m 122 ls [.ref (aJ 0)]) := by
              intro z56 hm H locs ls hw hl
              rw [eJ57] at hm
              refine lv_iconst (v := 0) hx hb dX1_holds_122 (by decide) ?_
              exact hJ52 _ hm _ _ _ hw (lv_sub hl [0, 1, 2, 3, 4] rfl)
            refine lv_if_lt (tgt := 122) hx hb dX1_holds_102 (by decide) (fun c60 => ?_) (fun c60 => ?_)
            · have hm := hm.1 c60
              exact hJ57 _ hm _ _ _ hw (lv_sub hl [5, 6, 0, 4, 3] rfl)
            · have hm := hm.2 c60
              refine lv_iload hx hb dX1_holds_105 (lv_at hl 1 rfl) ?_
              refine lv_bipush (v := 8) hx hb dX1_holds_107 (by decide) ?_
              refine lv_icmp_ge (tgt := 122) hx hb dX1_holds_109 (by decide) (fun c59 => ?_) (fun c59 => ?_)
              · have hm := hm.1 c59
                exact hJ57 _ hm _ _ _ hw (lv_sub hl [5, 6, 0, 4, 3] rfl)
              · have hm := hm.2 c59
                refine lv_aload_n hx hb dX1_holds_112 rfl (lv_at hl 5 rfl) ?_
                refine gF (k := 0) hc hw inX1 rfl 0 rfl (by decide) (gm 315 (by decide +kernel) rfl) rfl dX1_holds_113 ?_
                refine lv_iload hx hb dX1_holds_116 (lv_at hl 1 rfl) ?_
                obtain ⟨c58, hm⟩ := hm
                refine aI hc hw 1 rfl c58 rfl dX1_holds_118 ?_
                refine lv_goto (tgt := 123) hx hb dX1_holds_119 (by decide) ?_
                exact hJ52 _ hm _ _ _ hw (lv_sub hl [5, 6, 0, 4, 3] rfl)
        · have hm := hm.2 c65
          refine lv_aload_n hx hb dX1_holds_82 rfl (lv_at hl 5 rfl) ?_
          refine lv_iload hx hb dX1_holds_83 (lv_at hl 1 rfl) ?_
          refine nV_V (As := [.int v17]) (rest := []) (wc := (jW cy aJ S8)) (wr := (lwW cy aLw SLw)) (isC := [0, 1, 2]) (isR := [3, 4, 5, 6, 7]) hc hw (c_X1_push hm) lk_X1_76 ⟨rfl, rfl, rfl, rfl, by decide⟩ rfl rfl ⟨Nat.le_of_ble_eq_true rfl, Nat.le_of_ble_eq_true rfl⟩ ⟨Nat.le_of_ble_eq_true rfl, Nat.le_of_ble_eq_true rfl⟩ hl.1 rfl (Nat.le_of_ble_eq_true rfl) rfl dX1_holds_85 (fun S62 H locs hm hw => ?_)
          have hw : wV D A s.heap ((jW cy aJ S62) ++ (lwW cy aLw SLw)) H locs := hw.perm [5, 6, 7, 0, 1, 2, 3, 4] rfl rfl
          refine lv_goto (tgt := 254) hx hb dX1_holds_88 (by decide) ?_
          obtain ⟨v64, e_v64⟩ : ∃ z : Int32, z = x5_6 + 1 := ⟨_, rfl⟩
          have hm := hm v64 e_v64
          refine lv_iinc (v := v64) (lv' := [(5, .int v64), (3, .int v18), (7, .int v17), (6, .int v15), (4, .int v4), (0, .ref (aJ 0)), (1, .ref (aLw 0))]) hx hb dX1_holds_254 hl (k := 3) rfl (by rw [e_v64]; rfl) (by decide) rfl (fun ls hl => ?_)
          refine lv_goto (tgt := 41) hx hb dX1_holds_257 (by decide) ?_
          exact ih9 _ _ _ hm _ _ _ hw (lv_sub hl [0, 4, 1, 5, 6] rfl)
  refine lv_if_le (tgt := 15) hx hb dX1_holds_1 (by decide) (fun c69 => ?_) (fun c69 => ?_)
  · have hm := hm.1 c69
    refine lv_iconst (v := 0) hx hb dX1_holds_15 (by decide) ?_
    exact hJ2 _ hm _ _ _ hw (lv_sub hl [0, 1, 2] rfl)
  · have hm := hm.2 c69
    refine lv_aload_n hx hb dX1_holds_4 rfl (lv_at hl 1 rfl) ?_
    refine gN (k := 1) (host := "OlderTale") hc hw inX2 rfl 3 rfl (by decide) (nmm 746 (by decide +kernel)) rfl dX1_holds_5 ?_
    refine lv_iload_n hx hb dX1_holds_8 rfl (lv_at hl 2 rfl) ?_
    refine lv_iconst (v := 1) hx hb dX1_holds_9 (by decide) ?_
    refine lv_isub hx hb dX1_holds_10 ?_
    obtain ⟨c68, hm⟩ := hm
    refine aI hc hw 5 rfl c68 rfl dX1_holds_11 ?_
    refine lv_goto (tgt := 16) hx hb dX1_holds_12 (by decide) ?_
    exact hJ2 _ hm _ _ _ hw (lv_sub hl [0, 1, 2] rfl)
