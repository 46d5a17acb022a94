set_option maxHeartbeats 4000000 in
set_option maxRecDepth 100000 in
theorem c_M_lies {l : Launch} {D : va_G} {cy : Nat → ClassId} {x0 : Int32} {x1 : Int32} {x2 : Int32} {Q : Int32 → Prop} (hm : wM_lies x0 x1 x2 Q) : CtI l yX9_lies cX9_lies 3 (some .boolean) (rmN 0) D cy [.int x0, .int x1, .int x2] [] (fun _ : Unit => ([] : va_W)) (fun (r : Int32) (_ : Unit) => Q r) := by
  refine CtI.ofW (by decide) (Nat.le_of_ble_eq_true rfl) ?_
  intro p e s m args below meth c A ls hc hnm hw hl
  have hx := hc.1.1
  have hb := hc.1.2.1
  have hown := hc.1.2.2.2.1
  have hts := hc.1.2.2.2.2
  have hl : lv_has ls 3 [(0, .int x0), (1, .int x1), (2, .int x2)] := hl
  obtain ⟨H, hH⟩ : ∃ z, z = s.heap := ⟨_, rfl⟩
  obtain ⟨locs, hLc⟩ : ∃ z : List Loc, z = [] := ⟨_, rfl⟩
  have hw : wV D A s.heap ([] : va_W) H locs := by rw [hH, hLc]; exact hw
  have hgo : W p l e (rmN 0) s m args below meth c H locs 0 0 (MQ below (eI D cy A (fun _ : Unit => ([] : va_W)) (fun (r : Int32) (_ : Unit) => Q r)) args s (rmN 0).cells (rmN 0).slots A) (F0 m 0 ls []) := ?hgo
  · rw [hH, hLc] at hgo; exact hgo
  refine lv_iload_n hx hb dX9_lies_0 rfl (lv_at hl 0 rfl) ?_
  refine lv_iload_n hx hb dX9_lies_1 rfl (lv_at hl 1 rfl) ?_
  refine lv_icmp_lt (tgt := 14) hx hb dX9_lies_2 (by decide) (fun c2 => ?_) (fun c2 => ?_)
  · have hm := hm.1 c2
    refine lv_iconst (v := 0) hx hb dX9_lies_14 (by decide) ?_
    exact retZ (u := ()) hc hw rfl hm dX9_lies_15
  · have hm := hm.2 c2
    refine lv_iload_n hx hb dX9_lies_5 rfl (lv_at hl 0 rfl) ?_
    refine lv_iload_n hx hb dX9_lies_6 rfl (lv_at hl 2 rfl) ?_
    refine lv_icmp_gt (tgt := 14) hx hb dX9_lies_7 (by decide) (fun c1 => ?_) (fun c1 => ?_)
    · have hm := hm.1 c1
      refine lv_iconst (v := 0) hx hb dX9_lies_14 (by decide) ?_
      exact retZ (u := ()) hc hw rfl hm dX9_lies_15
    · have hm := hm.2 c1
      refine lv_iconst (v := 1) hx hb dX9_lies_10 (by decide) ?_
      refine lv_goto (tgt := 15) hx hb dX9_lies_11 (by decide) ?_
      exact retZ (u := ()) hc hw rfl hm dX9_lies_15
set_option maxHeartbeats 4000000 in
set_option maxRecDepth 100000 in
theorem c_M_refuses {l : Launch} {D : va_G} {cy : Nat → ClassId} {a : Nat → Nat} {S : Ob} {x1 : Int32} {Q : Int32 → Ob → Prop} (hm : wM_refuses S x1 Q) : CtI l yX9_refuses cX9_refuses 2 (some .int) (rmN 0) D cy [.ref (a 0), .int x1] (mW cy a S) (mW cy a) Q := by
  refine CtI.ofW (by decide) (Nat.le_of_ble_eq_true rfl) ?_
  intro p e s m args below meth c A ls hc hnm hw hl
  have hx := hc.1.1
  have hb := hc.1.2.1
  have hown := hc.1.2.2.2.1
  have hts := hc.1.2.2.2.2
  have hl : lv_has ls 2 [(0, .ref (a 0)), (1, .int x1)] := hl
  obtain ⟨H, hH⟩ : ∃ z, z = s.heap := ⟨_, rfl⟩
  obtain ⟨locs, hLc⟩ : ∃ z : List Loc, z = [] := ⟨_, rfl⟩
  have hw : wV D A s.heap (mW cy a S) H locs := by rw [hH, hLc]; exact hw
  have hgo : W p l e (rmN 0) s m args below meth c H locs 0 0 (MQ below (eI D cy A (mW cy a) Q) args s (rmN 0).cells (rmN 0).slots A) (F0 m 0 ls []) := ?hgo
  · rw [hH, hLc] at hgo; exact hgo
  refine lv_aload_n hx hb dX9_refuses_0 rfl (lv_at hl 0 rfl) ?_
  refine lv_iload_n hx hb dX9_refuses_1 rfl (lv_at hl 1 rfl) ?_
  refine pF (k := 0) (ty := .int) hc hw inX9 tyX9_ok nmX9 rfl 0 rfl (by decide) (gm 1059 (by decide +kernel) rfl) rfl (by decide +kernel) rfl rfl (Nat.le_of_ble_eq_true rfl) dX9_refuses_2 (fun H locs hw => ?_)
  obtain ⟨S1, e_S1⟩ : ∃ z : Ob, z = uS S 0 x1 := ⟨_, rfl⟩
  have hm := hm S1 e_S1
  have hw : wV D A s.heap (mW cy a S1) H locs := by rw [e_S1]; exact hw
  refine lv_aload_n hx hb dX9_refuses_5 rfl (lv_at hl 0 rfl) ?_
  refine gF (k := 2) hc hw inX9 rfl 0 rfl (by decide) (gm 1061 (by decide +kernel) rfl) rfl dX9_refuses_6 ?_
  refine lv_iload_n hx hb dX9_refuses_9 rfl (lv_at hl 1 rfl) ?_
  refine lv_ineg hx hb dX9_refuses_10 ?_
  refine lv_dup2_11 hx hb dX9_refuses_11 rfl rfl ?_
  obtain ⟨c2, hm⟩ := hm
  refine aI hc hw 1 rfl c2 rfl dX9_refuses_12 ?_
  refine lv_iconst (v := 1) hx hb dX9_refuses_13 (by decide) ?_
  refine lv_iadd hx hb dX9_refuses_14 ?_
  obtain ⟨c3, hm⟩ := hm
  refine sI hc hw 1 rfl c3 rfl dX9_refuses_15 (fun H locs hw => ?_)
  obtain ⟨S4, e_S4⟩ : ∃ z : Ob, z = uA S1 2 (Int32.toNatClampNeg (-x1)) ((S1.2 2 (Int32.toNatClampNeg (-x1))) + 1) := ⟨_, rfl⟩
  have hm := hm S4 e_S4
  have hw : wV D A s.heap (mW cy a S4) H locs := by rw [e_S4]; exact hw
  refine lv_iload_n hx hb dX9_refuses_16 rfl (lv_at hl 1 rfl) ?_
  exact retI (u := S4) hc hw hm dX9_refuses_17
set_option maxHeartbeats 4000000 in
set_option maxRecDepth 100000 in
theorem c_M_good {l : Launch} {D : va_G} {cy : Nat → ClassId} {a : Nat → Nat} {S : Ob} {x1 : Int32} {Q : Int32 → Ob → Prop} (hm : wM_good S x1 Q) : CtI l yX9_good cX9_good 2 (some .int) (rmN 0) D cy [.ref (a 0), .int x1] (mW cy a S) (mW cy a) Q := by
  refine CtI.ofW (by decide) (Nat.le_of_ble_eq_true rfl) ?_
  intro p e s m args below meth c A ls hc hnm hw hl
  have hx := hc.1.1
  have hb := hc.1.2.1
  have hown := hc.1.2.2.2.1
  have hts := hc.1.2.2.2.2
  have hl : lv_has ls 2 [(0, .ref (a 0)), (1, .int x1)] := hl
  obtain ⟨H, hH⟩ : ∃ z, z = s.heap := ⟨_, rfl⟩
  obtain ⟨locs, hLc⟩ : ∃ z : List Loc, z = [] := ⟨_, rfl⟩
  have hw : wV D A s.heap (mW cy a S) H locs := by rw [hH, hLc]; exact hw
  have hgo : W p l e (rmN 0) s m args below meth c H locs 0 0 (MQ below (eI D cy A (mW cy a) Q) args s (rmN 0).cells (rmN 0).slots A) (F0 m 0 ls []) := ?hgo
  · rw [hH, hLc] at hgo; exact hgo
  refine lv_aload_n hx hb dX9_good_0 rfl (lv_at hl 0 rfl) ?_
  refine lv_iconst (v := 0) hx hb dX9_good_1 (by decide) ?_
  refine pF (k := 0) (ty := .int) hc hw inX9 tyX9_ok nmX9 rfl 0 rfl (by decide) (gm 1059 (by decide +kernel) rfl) rfl (by decide +kernel) rfl rfl (Nat.le_of_ble_eq_true rfl) dX9_good_2 (fun H locs hw => ?_)
  obtain ⟨S1, e_S1⟩ : ∃ z : Ob, z = uS S 0 0 := ⟨_, rfl⟩
  have hm := hm S1 e_S1
  have hw : wV D A s.heap (mW cy a S1) H locs := by rw [e_S1]; exact hw
  refine lv_aload_n hx hb dX9_good_5 rfl (lv_at hl 0 rfl) ?_
  refine lv_dup hx hb dX9_good_6 rfl ?_
  refine gF (k := 1) hc hw inX9 rfl 0 rfl (by decide) (gm 1060 (by decide +kernel) rfl) rfl dX9_good_7 ?_
  refine lv_iconst (v := 1) hx hb dX9_good_10 (by decide) ?_
  refine lv_iadd hx hb dX9_good_11 ?_
  refine pF (k := 1) (ty := .int) hc hw inX9 tyX9_ok nmX9 rfl 0 rfl (by decide) (gm 1060 (by decide +kernel) rfl) rfl (by decide +kernel) rfl rfl (Nat.le_of_ble_eq_true rfl) dX9_good_12 (fun H locs hw => ?_)
  obtain ⟨S2, e_S2⟩ : ∃ z : Ob, z = uS S1 1 ((S1.1 1) + 1) := ⟨_, rfl⟩
  have hm := hm S2 e_S2
  have hw : wV D A s.heap (mW cy a S2) H locs := by rw [e_S2]; exact hw
  refine lv_iload_n hx hb dX9_good_15 rfl (lv_at hl 1 rfl) ?_
  exact retI (u := S2) hc hw hm dX9_good_16
set_option maxHeartbeats 4000000 in
set_option maxRecDepth 100000 in
theorem c_M_isIn {l : Launch} {D : va_G} {cy : Nat → ClassId} {x0 : Int32} {x1 : Int32} {Q : Int32 → Prop} (hm : wM_isIn x0 x1 Q) : CtI l yX9_isIn cX9_isIn 2 (some .boolean) (rmN 0) D cy [.int x0, .int x1] [] (fun _ : Unit => ([] : va_W)) (fun (r : Int32) (_ : Unit) => Q r) := by
  refine CtI.ofW (by decide) (Nat.le_of_ble_eq_true rfl) ?_
  intro p e s m args below meth c A ls hc hnm hw hl
  have hx := hc.1.1
  have hb := hc.1.2.1
  have hown := hc.1.2.2.2.1
  have hts := hc.1.2.2.2.2
  have hl : lv_has ls 2 [(0, .int x0), (1, .int x1)] := hl
  obtain ⟨H, hH⟩ : ∃ z, z = s.heap := ⟨_, rfl⟩
  obtain ⟨locs, hLc⟩ : ∃ z : List Loc, z = [] := ⟨_, rfl⟩
  have hw : wV D A s.heap ([] : va_W) H locs := by rw [hH, hLc]; exact hw
  have hgo : W p l e (rmN 0) s m args below meth c H locs 0 0 (MQ below (eI D cy A (fun _ : Unit => ([] : va_W)) (fun (r : Int32) (_ : Unit) => Q r)) args s (rmN 0).cells (rmN 0).slots A) (F0 m 0 ls []) := ?hgo
  · rw [hH, hLc] at hgo; exact hgo
  refine lv_iload_n hx hb dX9_isIn_0 rfl (lv_at hl 0 rfl) ?_
  refine lv_iload_n hx hb dX9_isIn_1 rfl (lv_at hl 1 rfl) ?_
  refine lv_ishr hx hb dX9_isIn_2 ?_
  refine lv_iconst (v := 1) hx hb dX9_isIn_3 (by decide) ?_
  refine lv_iand hx hb dX9_isIn_4 ?_
  refine lv_iconst (v := 1) hx hb dX9_isIn_5 (by decide) ?_
  refine lv_icmp_ne (tgt := 13) hx hb dX9_isIn_6 (by decide) (fun c1 => ?_) (fun c1 => ?_)
  · have hm := hm.1 c1
    refine lv_iconst (v := 0) hx hb dX9_isIn_13 (by decide) ?_
    exact retZ (u := ()) hc hw rfl hm dX9_isIn_14
  · have hm := hm.2 c1
    refine lv_iconst (v := 1) hx hb dX9_isIn_9 (by decide) ?_
    refine lv_goto (tgt := 14) hx hb dX9_isIn_10 (by decide) ?_
    exact retZ (u := ()) hc hw rfl hm dX9_isIn_14
set_option maxHeartbeats 4000000 in
set_option maxRecDepth 100000 in
theorem c_M_ones {l : Launch} {D : va_G} {cy : Nat → ClassId} {x0 : Int32} {Q : Int32 → Prop} (hm : wM_ones x0 Q) : CtI l yX9_ones cX9_ones 3 (some .int) (rmN 0) D cy [.int x0] [] (fun _ : Unit => ([] : va_W)) (fun (r : Int32) (_ : Unit) => Q r) := by
  refine CtI.ofW (by decide) (Nat.le_of_ble_eq_true rfl) ?_
  intro p e s m args below meth c A ls hc hnm hw hl
  have hx := hc.1.1
  have hb := hc.1.2.1
  have hown := hc.1.2.2.2.1
  have hts := hc.1.2.2.2.2
  have hl : lv_has ls 3 [(0, .int x0)] := hl
  obtain ⟨H, hH⟩ : ∃ z, z = s.heap := ⟨_, rfl⟩
  obtain ⟨locs, hLc⟩ : ∃ z : List Loc, z = [] := ⟨_, rfl⟩
  have hw : wV D A s.heap ([] : va_W) H locs := by rw [hH, hLc]; exact hw
  have hgo : W p l e (rmN 0) s m args below meth c H locs 0 0 (MQ below (eI D cy A (fun _ : Unit => ([] : va_W)) (fun (r : Int32) (_ : Unit) => Q r)) args s (rmN 0).cells (rmN 0).slots A) (F0 m 0 ls []) := ?hgo
  · rw [hH, hLc] at hgo; exact hgo
  refine lv_iconst (v := 0) hx hb dX9_ones_0 (by decide) ?_
  refine lv_istore_n (lv' := [(1, .int 0), (0, .int x0)]) hx hb dX9_ones_1 rfl hl (by decide) rfl (fun ls hl => ?_)
  refine lv_iconst (v := 0) hx hb dX9_ones_2 (by decide) ?_
  refine lv_istore_n (lv' := [(2, .int 0), (1, .int 0), (0, .int x0)]) hx hb dX9_ones_3 rfl hl (by decide) rfl (fun ls hl => ?_)
  refine wl2_ind (G := fun (x2_1 : Int32) (x1_2 : Int32) => ∀ (H : Heap) (locs : List Loc) (ls : Array Slot), wV D A s.heap ([] : va_W) H locs → lv_has ls 3 [(2, .int x2_1), (1, .int x1_2), (0, .int x0)] → W p l e (rmN 0) s m args below meth c H locs 0 0 (MQ below (eI D cy A (fun _ : Unit => ([] : va_W)) (fun (r : Int32) (_ : Unit) => Q r)) args s (rmN 0).cells (rmN 0).slots A) (F0 m 4 ls [])) ?_ _ _ hm H locs ls hw (lv_sub hl [0, 1, 2] rfl)
  intro L3 ih3 x2_1 x1_2 hm H locs ls hw hl
  refine lv_iload_n hx hb dX9_ones_4 rfl (lv_at hl 0 rfl) ?_
  refine lv_bipush (v := 10) hx hb dX9_ones_5 (by decide) ?_
  refine lv_icmp_ge (tgt := 24) hx hb dX9_ones_7 (by decide) (fun c6 => ?_) (fun c6 => ?_)
  · have hm := hm.1 c6
    refine lv_iload_n hx hb dX9_ones_24 rfl (lv_at hl 1 rfl) ?_
    exact retI (u := ()) hc hw hm dX9_ones_25
  · have hm := hm.2 c6
    refine lv_iload_n hx hb dX9_ones_10 rfl (lv_at hl 1 rfl) ?_
    refine lv_iload_n hx hb dX9_ones_11 rfl (lv_at hl 2 rfl) ?_
    refine lv_iload_n hx hb dX9_ones_12 rfl (lv_at hl 0 rfl) ?_
    refine lv_ishr hx hb dX9_ones_13 ?_
    refine lv_iconst (v := 1) hx hb dX9_ones_14 (by decide) ?_
    refine lv_iand hx hb dX9_ones_15 ?_
    refine lv_iadd hx hb dX9_ones_16 ?_
    refine lv_topi (fun v4 e_v4 => ?_)
    have hm := hm v4 e_v4
    refine lv_istore_n (lv' := [(1, .int v4), (2, .int x2_1), (0, .int x0)]) hx hb dX9_ones_17 rfl hl (by decide) rfl (fun ls hl => ?_)
    obtain ⟨v5, e_v5⟩ : ∃ z : Int32, z = x2_1 + 1 := ⟨_, rfl⟩
    have hm := hm v5 e_v5
    refine lv_iinc (v := v5) (lv' := [(2, .int v5), (1, .int v4), (0, .int x0)]) hx hb dX9_ones_18 hl (k := 1) rfl (by rw [e_v5]; rfl) (by decide) rfl (fun ls hl => ?_)
    refine lv_goto (tgt := 4) hx hb dX9_ones_21 (by decide) ?_
    exact ih3 _ _ hm _ _ _ hw (lv_sub hl [0, 1, 2] rfl)
set_option maxHeartbeats 4000000 in
set_option maxRecDepth 100000 in
theorem c_M_lesser {l : Launch} {D : va_G} {cy : Nat → ClassId} {x0 : Int32} {x1 : Int32} {Q : Int32 → Prop} (hm : wM_lesser x0 x1 Q) : CtI l yX9_lesser cX9_lesser 2 (some .int) (rmN 0) D cy [.int x0, .int x1] [] (fun _ : Unit => ([] : va_W)) (fun (r : Int32) (_ : Unit) => Q r) := by
  refine CtI.ofW (by decide) (Nat.le_of_ble_eq_true rfl) ?_
  intro p e s m args below meth c A ls hc hnm hw hl
  have hx := hc.1.1
  have hb := hc.1.2.1
  have hown := hc.1.2.2.2.1
  have hts := hc.1.2.2.2.2
  have hl : lv_has ls 2 [(0, .int x0), (1, .int x1)] := hl
  obtain ⟨H, hH⟩ : ∃ z, z = s.heap := ⟨_, rfl⟩
  obtain ⟨locs, hLc⟩ : ∃ z : List Loc, z = [] := ⟨_, rfl⟩
  have hw : wV D A s.heap ([] : va_W) H locs := by rw [hH, hLc]; exact hw
  have hgo : W p l e (rmN 0) s m args below meth c H locs 0 0 (MQ below (eI D cy A (fun _ : Unit => ([] : va_W)) (fun (r : Int32) (_ : Unit) => Q r)) args s (rmN 0).cells (rmN 0).slots A) (F0 m 0 ls []) := ?hgo
  · rw [hH, hLc] at hgo; exact hgo
  refine lv_iload_n hx hb dX9_lesser_0 rfl (lv_at hl 0 rfl) ?_
  refine lv_iload_n hx hb dX9_lesser_1 rfl (lv_at hl 1 rfl) ?_
  refine lv_icmp_ge (tgt := 9) hx hb dX9_lesser_2 (by decide) (fun c1 => ?_) (fun c1 => ?_)
  · have hm := hm.1 c1
    refine lv_iload_n hx hb dX9_lesser_9 rfl (lv_at hl 1 rfl) ?_
    exact retI (u := ()) hc hw hm dX9_lesser_10
  · have hm := hm.2 c1
    refine lv_iload_n hx hb dX9_lesser_5 rfl (lv_at hl 0 rfl) ?_
    refine lv_goto (tgt := 10) hx hb dX9_lesser_6 (by decide) ?_
    exact retI (u := ()) hc hw hm dX9_lesser_10
set_option maxHeartbeats 4000000 in
set_option maxRecDepth 100000 in
theorem c_M_greater {l : Launch} {D : va_G} {cy : Nat → ClassId} {x0 : Int32} {x1 : Int32} {Q : Int32 → Prop} (hm : wM_greater x0 x1 Q) : CtI l yX9_greater cX9_greater 2 (some .int) (rmN 0) D cy [.int x0, .int x1] [] (fun _ : Unit => ([] : va_W)) (fun (r : Int32) (_ : Unit) => Q r) := by
  refine CtI.ofW (by decide) (Nat.le_of_ble_eq_true rfl) ?_
  intro p e s m args below meth c A ls hc hnm hw hl
  have hx := hc.1.1
  have hb := hc.1.2.1
  have hown := hc.1.2.2.2.1
  have hts := hc.1.2.2.2.2
  have hl : lv_has ls 2 [(0, .int x0), (1, .int x1)] := hl
  obtain ⟨H, hH⟩ : ∃ z, z = s.heap := ⟨_, rfl⟩
  obtain ⟨locs, hLc⟩ : ∃ z : List Loc, z = [] := ⟨_, rfl⟩
  have hw : wV D A s.heap ([] : va_W) H locs := by rw [hH, hLc]; exact hw
  have hgo : W p l e (rmN 0) s m args below meth c H locs 0 0 (MQ below (eI D cy A (fun _ : Unit => ([] : va_W)) (fun (r : Int32) (_ : Unit) => Q r)) args s (rmN 0).cells (rmN 0).slots A) (F0 m 0 ls []) := ?hgo
  · rw [hH, hLc] at hgo; exact hgo
  refine lv_iload_n hx hb dX9_greater_0 rfl (lv_at hl 0 rfl) ?_
  refine lv_iload_n hx hb dX9_greater_1 rfl (lv_at hl 1 rfl) ?_
  refine lv_icmp_le (tgt := 9) hx hb dX9_greater_2 (by decide) (fun c1 => ?_) (fun c1 => ?_)
  · have hm := hm.1 c1
    refine lv_iload_n hx hb dX9_greater_9 rfl (lv_at hl 1 rfl) ?_
    exact retI (u := ()) hc hw hm dX9_greater_10
  · have hm := hm.2 c1
    refine lv_iload_n hx hb dX9_greater_5 rfl (lv_at hl 0 rfl) ?_
    refine lv_goto (tgt := 10) hx hb dX9_greater_6 (by decide) ?_
    exact retI (u := ()) hc hw hm dX9_greater_10
set_option maxHeartbeats 4000000 in
set_option maxRecDepth 100000 in
theorem c_M_image {l : Launch} {D : va_G} {cy : Nat → ClassId} {a : Nat → Nat} {S : Ob} {x1 : Int32} {Q : Int32 → Ob → Prop} (hm : wM_image S x1 Q) : CtI l yX9_image cX9_image 3 (some .int) (rmN 1) D cy [.ref (a 0), .int x1] (mW cy a S) (mW cy a) Q := by
  refine CtI.ofW (by decide) (Nat.le_of_ble_eq_true rfl) ?_
  intro p e s m args below meth c A ls hc hnm hw hl
  have hx := hc.1.1
  have hb := hc.1.2.1
  have hown := hc.1.2.2.2.1
  have hts := hc.1.2.2.2.2
  have hl : lv_has ls 3 [(0, .ref (a 0)), (1, .int x1)] := hl
  obtain ⟨H, hH⟩ : ∃ z, z = s.heap := ⟨_, rfl⟩
  obtain ⟨locs, hLc⟩ : ∃ z : List Loc, z = [] := ⟨_, rfl⟩
  have hw : wV D A s.heap (mW cy a S) H locs := by rw [hH, hLc]; exact hw
  have hgo : W p l e (rmN 1) s m args below meth c H locs 0 0 (MQ below (eI D cy A (mW cy a) Q) args s (rmN 1).cells (rmN 1).slots A) (F0 m 0 ls []) := ?hgo
  · rw [hH, hLc] at hgo; exact hgo
  refine lv_iload_n hx hb dX9_image_0 rfl (lv_at hl 1 rfl) ?_
  refine lv_iconst (v := 0) hx hb dX9_image_1 (by decide) ?_
  refine lv_iconst (v := 1) hx hb dX9_image_2 (by decide) ?_
  refine zS_I (As := [.int x1, .int 0, .int 1]) (rest := []) hc hw (c_M_lies hm) lk_X9_94 ⟨Nat.le_of_ble_eq_true rfl, Nat.le_of_ble_eq_true rfl⟩ ⟨Nat.le_of_ble_eq_true rfl, Nat.le_of_ble_eq_true rfl⟩ hl.1 rfl (Nat.le_of_ble_eq_true rfl) rfl dX9_image_3 (fun r1 H locs hm hw => ?_)
  refine lv_if_ne (tgt := 15) hx hb dX9_image_6 (by decide) (fun c19 => ?_) (fun c19 => ?_)
  · have hm := hm.1 c19
    refine lv_iconst (v := 0) hx hb dX9_image_15 (by decide) ?_
    refine lv_istore_n (lv' := [(2, .int 0), (0, .ref (a 0)), (1, .int x1)]) hx hb dX9_image_16 rfl hl (by decide) rfl (fun ls hl => ?_)
    refine wl2_ind (G := fun (x2_3 : Int32) (S4 : Ob) => ∀ (H : Heap) (locs : List Loc) (ls : Array Slot), wV D A s.heap (mW cy a S4) H locs → lv_has ls 3 [(2, .int x2_3), (0, .ref (a 0)), (1, .int x1)] → W p l e (rmN 1) s m args below meth c H locs 0 0 (MQ below (eI D cy A (mW cy a) Q) args s (rmN 1).cells (rmN 1).slots A) (F0 m 17 ls [])) ?_ _ _ hm H locs ls hw (lv_sub hl [0, 1, 2] rfl)
    intro L5 ih5 x2_3 S4 hm H locs ls hw hl
    refine lv_iload_n hx hb dX9_image_17 rfl (lv_at hl 0 rfl) ?_
    refine lv_sipush (v := 4945) hx hb dX9_image_18 (by decide) ?_
    refine lv_icmp_ge (tgt := 48) hx hb dX9_image_21 (by decide) (fun c15 => ?_) (fun c15 => ?_)
    · have hm := hm.1 c15
      refine lv_aload_n hx hb dX9_image_48 rfl (lv_at hl 1 rfl) ?_
      refine gF (k := 5) hc hw inX9 rfl 0 rfl (by decide) (gm 1064 (by decide +kernel) rfl) rfl dX9_image_49 ?_
      refine lv_iload_n hx hb dX9_image_52 rfl (lv_at hl 2 rfl) ?_
      refine lv_iconst (v := 1) hx hb dX9_image_53 (by decide) ?_
      obtain ⟨c6, hm⟩ := hm
      refine sZ hc hw 4 rfl c6 rfl dX9_image_54 (fun H locs hw => ?_)
      obtain ⟨S7, e_S7⟩ : ∃ z : Ob, z = uA S4 5 (Int32.toNatClampNeg x1) (vp_nar .boolean 1) := ⟨_, rfl⟩
      have hm := hm S7 e_S7
      have hw : wV D A s.heap (mW cy a S7) H locs := by rw [e_S7]; exact hw
      refine lv_aload_n hx hb dX9_image_55 rfl (lv_at hl 1 rfl) ?_
      refine lv_iconst (v := 0) hx hb dX9_image_56 (by decide) ?_
      refine aV_I (As := [.int 0]) (rest := []) hc hw (c_M_good hm) lk_X9_102 rfl rfl ⟨Nat.le_of_ble_eq_true rfl, Nat.le_of_ble_eq_true rfl⟩ ⟨Nat.le_of_ble_eq_true rfl, Nat.le_of_ble_eq_true rfl⟩ hl.1 rfl (Nat.le_of_ble_eq_true rfl) rfl dX9_image_57 (fun r8 S9 H locs hm hw => ?_)
      have hw : wV D A s.heap (mW cy a S9) H locs := hw
      exact retI (u := S9) hc hw hm dX9_image_60
    · have hm := hm.2 c15
      refine lv_aload_n hx hb dX9_image_24 rfl (lv_at hl 1 rfl) ?_
      refine gF (k := 4) hc hw inX9 rfl 0 rfl (by decide) (gm 1063 (by decide +kernel) rfl) rfl dX9_image_25 ?_
      refine lv_sipush (v := 4945) hx hb dX9_image_28 (by decide) ?_
      refine lv_iload_n hx hb dX9_image_31 rfl (lv_at hl 2 rfl) ?_
      refine lv_imul hx hb dX9_image_32 ?_
      refine lv_iload_n hx hb dX9_image_33 rfl (lv_at hl 0 rfl) ?_
      refine lv_iadd hx hb dX9_image_34 ?_
      refine lv_aload_n hx hb dX9_image_35 rfl (lv_at hl 1 rfl) ?_
      refine gF (k := 3) hc hw inX9 rfl 0 rfl (by decide) (gm 1062 (by decide +kernel) rfl) rfl dX9_image_36 ?_
      refine lv_iload_n hx hb dX9_image_39 rfl (lv_at hl 0 rfl) ?_
      obtain ⟨c11, hm⟩ := hm
      refine aI hc hw 2 rfl c11 rfl dX9_image_40 ?_
      obtain ⟨c12, hm⟩ := hm
      refine sI hc hw 3 rfl c12 rfl dX9_image_41 (fun H locs hw => ?_)
      obtain ⟨S13, e_S13⟩ : ∃ z : Ob, z = uA S4 4 (Int32.toNatClampNeg ((4945 * x1) + x2_3)) (S4.2 3 (Int32.toNatClampNeg x2_3)) := ⟨_, rfl⟩
      have hm := hm S13 e_S13
      have hw : wV D A s.heap (mW cy a S13) H locs := by rw [e_S13]; exact hw
      obtain ⟨v14, e_v14⟩ : ∃ z : Int32, z = x2_3 + 1 := ⟨_, rfl⟩
      have hm := hm v14 e_v14
      refine lv_iinc (v := v14) (lv' := [(2, .int v14), (0, .ref (a 0)), (1, .int x1)]) hx hb dX9_image_42 hl (k := 0) rfl (by rw [e_v14]; rfl) (by decide) rfl (fun ls hl => ?_)
      refine lv_goto (tgt := 17) hx hb dX9_image_45 (by decide) ?_
      exact ih5 _ _ hm _ _ _ hw (lv_sub hl [0, 1, 2] rfl)
  · have hm := hm.2 c19
    refine lv_aload_n hx hb dX9_image_9 rfl (lv_at hl 0 rfl) ?_
    refine lv_iconst (v := (-1)) hx hb dX9_image_10 (by decide) ?_
    refine aV_I (As := [.int (-1)]) (rest := []) hc hw (c_M_refuses hm) lk_X9_98 rfl rfl ⟨Nat.le_of_ble_eq_true rfl, Nat.le_of_ble_eq_true rfl⟩ ⟨Nat.le_of_ble_eq_true rfl, Nat.le_of_ble_eq_true rfl⟩ hl.1 rfl (Nat.le_of_ble_eq_true rfl) rfl dX9_image_11 (fun r16 S17 H locs hm hw => ?_)
    have hw : wV D A s.heap (mW cy a S17) H locs := hw
    exact retI (u := S17) hc hw hm dX9_image_14
set_option maxHeartbeats 4000000 in
set_option maxRecDepth 100000 in
theorem c_M_back {l : Launch} {D : va_G} {cy : Nat → ClassId} {a : Nat → Nat} {S : Ob} {x1 : Int32} {Q : Int32 → Ob → Prop} (hm : wM_back S x1 Q) : CtI l yX9_back cX9_back 3 (some .int) (rmN 1) D cy [.ref (a 0), .int x1] (mW cy a S) (mW cy a) Q := by
  refine CtI.ofW (by decide) (Nat.le_of_ble_eq_true rfl) ?_
  intro p e s m args below meth c A ls hc hnm hw hl
  have hx := hc.1.1
  have hb := hc.1.2.1
  have hown := hc.1.2.2.2.1
  have hts := hc.1.2.2.2.2
  have hl : lv_has ls 3 [(0, .ref (a 0)), (1, .int x1)] := hl
  obtain ⟨H, hH⟩ : ∃ z, z = s.heap := ⟨_, rfl⟩
  obtain ⟨locs, hLc⟩ : ∃ z : List Loc, z = [] := ⟨_, rfl⟩
  have hw : wV D A s.heap (mW cy a S) H locs := by rw [hH, hLc]; exact hw
  have hgo : W p l e (rmN 1) s m args below meth c H locs 0 0 (MQ below (eI D cy A (mW cy a) Q) args s (rmN 1).cells (rmN 1).slots A) (F0 m 0 ls []) := ?hgo
  · rw [hH, hLc] at hgo; exact hgo
  refine lv_iload_n hx hb dX9_back_0 rfl (lv_at hl 1 rfl) ?_
  refine lv_iconst (v := 0) hx hb dX9_back_1 (by decide) ?_
  refine lv_iconst (v := 1) hx hb dX9_back_2 (by decide) ?_
  refine zS_I (As := [.int x1, .int 0, .int 1]) (rest := []) hc hw (c_M_lies hm) lk_X9_94 ⟨Nat.le_of_ble_eq_true rfl, Nat.le_of_ble_eq_true rfl⟩ ⟨Nat.le_of_ble_eq_true rfl, Nat.le_of_ble_eq_true rfl⟩ hl.1 rfl (Nat.le_of_ble_eq_true rfl) rfl dX9_back_3 (fun r1 H locs hm hw => ?_)
  refine lv_if_ne (tgt := 15) hx hb dX9_back_6 (by decide) (fun c22 => ?_) (fun c22 => ?_)
  · have hm := hm.1 c22
    refine lv_aload_n hx hb dX9_back_15 rfl (lv_at hl 0 rfl) ?_
    refine gF (k := 5) hc hw inX9 rfl 0 rfl (by decide) (gm 1064 (by decide +kernel) rfl) rfl dX9_back_16 ?_
    refine lv_iload_n hx hb dX9_back_19 rfl (lv_at hl 1 rfl) ?_
    obtain ⟨c3, hm⟩ := hm
    refine aZ hc hw 4 rfl c3 rfl dX9_back_20 ?_
    refine lv_if_ne (tgt := 31) hx hb dX9_back_21 (by decide) (fun c18 => ?_) (fun c18 => ?_)
    · have hm := hm.1 c18
      refine lv_iconst (v := 0) hx hb dX9_back_31 (by decide) ?_
      refine lv_istore_n (lv' := [(2, .int 0), (0, .ref (a 0)), (1, .int x1)]) hx hb dX9_back_32 rfl hl (by decide) rfl (fun ls hl => ?_)
      refine wl2_ind (G := fun (x2_4 : Int32) (S5 : Ob) => ∀ (H : Heap) (locs : List Loc) (ls : Array Slot), wV D A s.heap (mW cy a S5) H locs → lv_has ls 3 [(2, .int x2_4), (0, .ref (a 0)), (1, .int x1)] → W p l e (rmN 1) s m args below meth c H locs 0 0 (MQ below (eI D cy A (mW cy a) Q) args s (rmN 1).cells (rmN 1).slots A) (F0 m 33 ls [])) ?_ _ _ hm H locs ls hw (lv_sub hl [0, 1, 2] rfl)
      intro L6 ih6 x2_4 S5 hm H locs ls hw hl
      refine lv_iload_n hx hb dX9_back_33 rfl (lv_at hl 0 rfl) ?_
      refine lv_sipush (v := 4945) hx hb dX9_back_34 (by decide) ?_
      refine lv_icmp_ge (tgt := 64) hx hb dX9_back_37 (by decide) (fun c14 => ?_) (fun c14 => ?_)
      · have hm := hm.1 c14
        refine lv_aload_n hx hb dX9_back_64 rfl (lv_at hl 1 rfl) ?_
        refine lv_iconst (v := 0) hx hb dX9_back_65 (by decide) ?_
        refine aV_I (As := [.int 0]) (rest := []) hc hw (c_M_good hm) lk_X9_102 rfl rfl ⟨Nat.le_of_ble_eq_true rfl, Nat.le_of_ble_eq_true rfl⟩ ⟨Nat.le_of_ble_eq_true rfl, Nat.le_of_ble_eq_true rfl⟩ hl.1 rfl (Nat.le_of_ble_eq_true rfl) rfl dX9_back_66 (fun r7 S8 H locs hm hw => ?_)
        have hw : wV D A s.heap (mW cy a S8) H locs := hw
        exact retI (u := S8) hc hw hm dX9_back_69
      · have hm := hm.2 c14
        refine lv_aload_n hx hb dX9_back_40 rfl (lv_at hl 1 rfl) ?_
        refine gF (k := 3) hc hw inX9 rfl 0 rfl (by decide) (gm 1062 (by decide +kernel) rfl) rfl dX9_back_41 ?_
        refine lv_iload_n hx hb dX9_back_44 rfl (lv_at hl 0 rfl) ?_
        refine lv_aload_n hx hb dX9_back_45 rfl (lv_at hl 1 rfl) ?_
        refine gF (k := 4) hc hw inX9 rfl 0 rfl (by decide) (gm 1063 (by decide +kernel) rfl) rfl dX9_back_46 ?_
        refine lv_sipush (v := 4945) hx hb dX9_back_49 (by decide) ?_
        refine lv_iload_n hx hb dX9_back_52 rfl (lv_at hl 2 rfl) ?_
        refine lv_imul hx hb dX9_back_53 ?_
        refine lv_iload_n hx hb dX9_back_54 rfl (lv_at hl 0 rfl) ?_
        refine lv_iadd hx hb dX9_back_55 ?_
        obtain ⟨c10, hm⟩ := hm
        refine aI hc hw 3 rfl c10 rfl dX9_back_56 ?_
        obtain ⟨c11, hm⟩ := hm
        refine sI hc hw 2 rfl c11 rfl dX9_back_57 (fun H locs hw => ?_)
        obtain ⟨S12, e_S12⟩ : ∃ z : Ob, z = uA S5 3 (Int32.toNatClampNeg x2_4) (S5.2 4 (Int32.toNatClampNeg ((4945 * x1) + x2_4))) := ⟨_, rfl⟩
        have hm := hm S12 e_S12
        have hw : wV D A s.heap (mW cy a S12) H locs := by rw [e_S12]; exact hw
        obtain ⟨v13, e_v13⟩ : ∃ z : Int32, z = x2_4 + 1 := ⟨_, rfl⟩
        have hm := hm v13 e_v13
        refine lv_iinc (v := v13) (lv' := [(2, .int v13), (0, .ref (a 0)), (1, .int x1)]) hx hb dX9_back_58 hl (k := 0) rfl (by rw [e_v13]; rfl) (by decide) rfl (fun ls hl => ?_)
        refine lv_goto (tgt := 33) hx hb dX9_back_61 (by decide) ?_
        exact ih6 _ _ hm _ _ _ hw (lv_sub hl [0, 1, 2] rfl)
    · have hm := hm.2 c18
      refine lv_aload_n hx hb dX9_back_24 rfl (lv_at hl 0 rfl) ?_
      refine lv_bipush (v := (-2)) hx hb dX9_back_25 (by decide) ?_
      refine aV_I (As := [.int (-2)]) (rest := []) hc hw (c_M_refuses hm) lk_X9_98 rfl rfl ⟨Nat.le_of_ble_eq_true rfl, Nat.le_of_ble_eq_true rfl⟩ ⟨Nat.le_of_ble_eq_true rfl, Nat.le_of_ble_eq_true rfl⟩ hl.1 rfl (Nat.le_of_ble_eq_true rfl) rfl dX9_back_27 (fun r15 S16 H locs hm hw => ?_)
      have hw : wV D A s.heap (mW cy a S16) H locs := hw
      exact retI (u := S16) hc hw hm dX9_back_30
  · have hm := hm.2 c22
    refine lv_aload_n hx hb dX9_back_9 rfl (lv_at hl 0 rfl) ?_
    refine lv_iconst (v := (-1)) hx hb dX9_back_10 (by decide) ?_
    refine aV_I (As := [.int (-1)]) (rest := []) hc hw (c_M_refuses hm) lk_X9_98 rfl rfl ⟨Nat.le_of_ble_eq_true rfl, Nat.le_of_ble_eq_true rfl⟩ ⟨Nat.le_of_ble_eq_true rfl, Nat.le_of_ble_eq_true rfl⟩ hl.1 rfl (Nat.le_of_ble_eq_true rfl) rfl dX9_back_11 (fun r19 S20 H locs hm hw => ?_)
    have hw : wV D A s.heap (mW cy a S20) H locs := hw
    exact retI (u := S20) hc hw hm dX9_back_14
set_option maxHeartbeats 4000000 in
set_option maxRecDepth 100000 in
theorem c_M_tales {l : Launch} {D : va_G} {cy : Nat → ClassId} {a : Nat → Nat} {S : Ob} {Q : Int32 → Prop} (hm : wM_tales S Q) : CtI l yX9_tales cX9_tales 1 (some .int) (rmN 0) D cy [.ref (a 0)] (mW cy a S) (fun _ : Unit => mW cy a S) (fun (r : Int32) (_ : Unit) => Q r) := by
  refine CtI.ofW (by decide) (Nat.le_of_ble_eq_true rfl) ?_
  intro p e s m args below meth c A ls hc hnm hw hl
  have hx := hc.1.1
  have hb := hc.1.2.1
  have hown := hc.1.2.2.2.1
  have hts := hc.1.2.2.2.2
  have hl : lv_has ls 1 [(0, .ref (a 0))] := hl
  obtain ⟨H, hH⟩ : ∃ z, z = s.heap := ⟨_, rfl⟩
  obtain ⟨locs, hLc⟩ : ∃ z : List Loc, z = [] := ⟨_, rfl⟩
  have hw : wV D A s.heap (mW cy a S) H locs := by rw [hH, hLc]; exact hw
  have hgo : W p l e (rmN 0) s m args below meth c H locs 0 0 (MQ below (eI D cy A (fun _ : Unit => mW cy a S) (fun (r : Int32) (_ : Unit) => Q r)) args s (rmN 0).cells (rmN 0).slots A) (F0 m 0 ls []) := ?hgo
  · rw [hH, hLc] at hgo; exact hgo
  refine lv_aload_n hx hb dX9_tales_0 rfl (lv_at hl 0 rfl) ?_
  refine gF (k := 3) hc hw inX9 rfl 0 rfl (by decide) (gm 1062 (by decide +kernel) rfl) rfl dX9_tales_1 ?_
  refine lv_sipush (v := 133) hx hb dX9_tales_4 (by decide) ?_
  refine aI hc hw 2 rfl (vin (by decide)) (j := 133) (by decide) dX9_tales_7 ?_
  exact retI (u := ()) hc hw hm dX9_tales_8
set_option maxHeartbeats 4000000 in
set_option maxRecDepth 100000 in
theorem c_M_isTale {l : Launch} {D : va_G} {cy : Nat → ClassId} {a : Nat → Nat} {S : Ob} {x1 : Int32} {Q : Int32 → Prop} (hm : wM_isTale S x1 Q) : CtI l yX9_isTale cX9_isTale 2 (some .boolean) (rmN 1) D cy [.ref (a 0), .int x1] (mW cy a S) (fun _ : Unit => mW cy a S) (fun (r : Int32) (_ : Unit) => Q r) := by
  refine CtI.ofW (by decide) (Nat.le_of_ble_eq_true rfl) ?_
  intro p e s m args below meth c A ls hc hnm hw hl
  have hx := hc.1.1
  have hb := hc.1.2.1
  have hown := hc.1.2.2.2.1
  have hts := hc.1.2.2.2.2
  have hl : lv_has ls 2 [(0, .ref (a 0)), (1, .int x1)] := hl
  obtain ⟨H, hH⟩ : ∃ z, z = s.heap := ⟨_, rfl⟩
  obtain ⟨locs, hLc⟩ : ∃ z : List Loc, z = [] := ⟨_, rfl⟩
  have hw : wV D A s.heap (mW cy a S) H locs := by rw [hH, hLc]; exact hw
  have hgo : W p l e (rmN 1) s m args below meth c H locs 0 0 (MQ below (eI D cy A (fun _ : Unit => mW cy a S) (fun (r : Int32) (_ : Unit) => Q r)) args s (rmN 1).cells (rmN 1).slots A) (F0 m 0 ls []) := ?hgo
  · rw [hH, hLc] at hgo; exact hgo
  refine lv_iload_n hx hb dX9_isTale_0 rfl (lv_at hl 1 rfl) ?_
  refine lv_iconst (v := 0) hx hb dX9_isTale_1 (by decide) ?_
  refine lv_aload_n hx hb dX9_isTale_2 rfl (lv_at hl 0 rfl) ?_
  refine aV_I (As := []) (rest := [.int 0, .int x1]) hc hw (c_M_tales hm) lk_X9_105 rfl rfl ⟨Nat.le_of_ble_eq_true rfl, Nat.le_of_ble_eq_true rfl⟩ ⟨Nat.le_of_ble_eq_true rfl, Nat.le_of_ble_eq_true rfl⟩ hl.1 rfl (Nat.le_of_ble_eq_true rfl) rfl dX9_isTale_3 (fun r1 _ H locs hm hw => ?_)
  have hw : wV D A s.heap (mW cy a S) H locs := hw
  refine lv_iconst (v := 1) hx hb dX9_isTale_6 (by decide) ?_
  refine lv_isub hx hb dX9_isTale_7 ?_
  refine zS_I (As := [.int x1, .int 0, .int (r1 - 1)]) (rest := []) hc hw (c_M_lies hm) lk_X9_94 ⟨Nat.le_of_ble_eq_true rfl, Nat.le_of_ble_eq_true rfl⟩ ⟨Nat.le_of_ble_eq_true rfl, Nat.le_of_ble_eq_true rfl⟩ hl.1 rfl (Nat.le_of_ble_eq_true rfl) rfl dX9_isTale_8 (fun r3 H locs hm hw => ?_)
  exact retZ (u := ()) hc hw hm.1 hm.2 dX9_isTale_11
set_option maxHeartbeats 4000000 in
set_option maxRecDepth 100000 in
theorem c_M_isTeller {l : Launch} {D : va_G} {cy : Nat → ClassId} {a : Nat → Nat} {S : Ob} {x1 : Int32} {Q : Int32 → Prop} (hm : wM_isTeller S x1 Q) : CtI l yX9_isTeller cX9_isTeller 2 (some .boolean) (rmN 1) D cy [.ref (a 0), .int x1] (mW cy a S) (fun _ : Unit => mW cy a S) (fun (r : Int32) (_ : Unit) => Q r) := by
  refine CtI.ofW (by decide) (Nat.le_of_ble_eq_true rfl) ?_
  intro p e s m args below meth c A ls hc hnm hw hl
  have hx := hc.1.1
  have hb := hc.1.2.1
  have hown := hc.1.2.2.2.1
  have hts := hc.1.2.2.2.2
  have hl : lv_has ls 2 [(0, .ref (a 0)), (1, .int x1)] := hl
  obtain ⟨H, hH⟩ : ∃ z, z = s.heap := ⟨_, rfl⟩
  obtain ⟨locs, hLc⟩ : ∃ z : List Loc, z = [] := ⟨_, rfl⟩
  have hw : wV D A s.heap (mW cy a S) H locs := by rw [hH, hLc]; exact hw
  have hgo : W p l e (rmN 1) s m args below meth c H locs 0 0 (MQ below (eI D cy A (fun _ : Unit => mW cy a S) (fun (r : Int32) (_ : Unit) => Q r)) args s (rmN 1).cells (rmN 1).slots A) (F0 m 0 ls []) := ?hgo
  · rw [hH, hLc] at hgo; exact hgo
  refine lv_iload_n hx hb dX9_isTeller_0 rfl (lv_at hl 1 rfl) ?_
  refine lv_iconst (v := 0) hx hb dX9_isTeller_1 (by decide) ?_
  refine lv_aload_n hx hb dX9_isTeller_2 rfl (lv_at hl 0 rfl) ?_
  refine gF (k := 3) hc hw inX9 rfl 0 rfl (by decide) (gm 1062 (by decide +kernel) rfl) rfl dX9_isTeller_3 ?_
  refine lv_bipush (v := 40) hx hb dX9_isTeller_6 (by decide) ?_
  refine aI hc hw 2 rfl (vin (by decide)) (j := 40) (by decide) dX9_isTeller_8 ?_
  refine lv_iconst (v := 1) hx hb dX9_isTeller_9 (by decide) ?_
  refine lv_isub hx hb dX9_isTeller_10 ?_
  refine zS_I (As := [.int x1, .int 0, .int ((S.2 3 40) - 1)]) (rest := []) hc hw (c_M_lies hm) lk_X9_94 ⟨Nat.le_of_ble_eq_true rfl, Nat.le_of_ble_eq_true rfl⟩ ⟨Nat.le_of_ble_eq_true rfl, Nat.le_of_ble_eq_true rfl⟩ hl.1 rfl (Nat.le_of_ble_eq_true rfl) rfl dX9_isTeller_11 (fun r1 H locs hm hw => ?_)
  exact retZ (u := ()) hc hw hm.1 hm.2 dX9_isTeller_14
set_option maxHeartbeats 4000000 in
set_option maxRecDepth 100000 in
theorem c_M_factOf {l : Launch} {D : va_G} {cy : Nat → ClassId} {a : Nat → Nat} {S : Ob} {x1 : Int32} {x2 : Int32} {Q : Int32 → Prop} (hm : wM_factOf S x1 x2 Q) : CtI l yX9_factOf cX9_factOf 3 (some .int) (rmN 0) D cy [.ref (a 0), .int x1, .int x2] (mW cy a S) (fun _ : Unit => mW cy a S) (fun (r : Int32) (_ : Unit) => Q r) := by
  refine CtI.ofW (by decide) (Nat.le_of_ble_eq_true rfl) ?_
  intro p e s m args below meth c A ls hc hnm hw hl
  have hx := hc.1.1
  have hb := hc.1.2.1
  have hown := hc.1.2.2.2.1
  have hts := hc.1.2.2.2.2
  have hl : lv_has ls 3 [(0, .ref (a 0)), (1, .int x1), (2, .int x2)] := hl
  obtain ⟨H, hH⟩ : ∃ z, z = s.heap := ⟨_, rfl⟩
  obtain ⟨locs, hLc⟩ : ∃ z : List Loc, z = [] := ⟨_, rfl⟩
  have hw : wV D A s.heap (mW cy a S) H locs := by rw [hH, hLc]; exact hw
  have hgo : W p l e (rmN 0) s m args below meth c H locs 0 0 (MQ below (eI D cy A (fun _ : Unit => mW cy a S) (fun (r : Int32) (_ : Unit) => Q r)) args s (rmN 0).cells (rmN 0).slots A) (F0 m 0 ls []) := ?hgo
  · rw [hH, hLc] at hgo; exact hgo
  refine lv_aload_n hx hb dX9_factOf_0 rfl (lv_at hl 0 rfl) ?_
  refine gF (k := 3) hc hw inX9 rfl 0 rfl (by decide) (gm 1062 (by decide +kernel) rfl) rfl dX9_factOf_1 ?_
  refine lv_iconst (v := 4) hx hb dX9_factOf_4 (by decide) ?_
  refine lv_iload_n hx hb dX9_factOf_5 rfl (lv_at hl 1 rfl) ?_
  refine lv_imul hx hb dX9_factOf_6 ?_
  refine lv_iload_n hx hb dX9_factOf_7 rfl (lv_at hl 2 rfl) ?_
  refine lv_iadd hx hb dX9_factOf_8 ?_
  obtain ⟨c1, hm⟩ := hm
  refine aI hc hw 2 rfl c1 rfl dX9_factOf_9 ?_
  exact retI (u := ()) hc hw hm dX9_factOf_10
set_option maxHeartbeats 4000000 in
set_option maxRecDepth 100000 in
theorem c_M_canBe {l : Launch} {D : va_G} {cy : Nat → ClassId} {x0 : Int32} {x1 : Int32} {x2 : Int32} {x3 : Int32} {Q : Int32 → Prop} (hm : wM_canBe x0 x1 x2 x3 Q) : CtI l yX9_canBe cX9_canBe 4 (some .boolean) (rmN 1) D cy [.int x0, .int x1, .int x2, .int x3] [] (fun _ : Unit => ([] : va_W)) (fun (r : Int32) (_ : Unit) => Q r) := by
  refine CtI.ofW (by decide) (Nat.le_of_ble_eq_true rfl) ?_
  intro p e s m args below meth c A ls hc hnm hw hl
  have hx := hc.1.1
  have hb := hc.1.2.1
  have hown := hc.1.2.2.2.1
  have hts := hc.1.2.2.2.2
  have hl : lv_has ls 4 [(0, .int x0), (1, .int x1), (2, .int x2), (3, .int x3)] := hl
  obtain ⟨H, hH⟩ : ∃ z, z = s.heap := ⟨_, rfl⟩
  obtain ⟨locs, hLc⟩ : ∃ z : List Loc, z = [] := ⟨_, rfl⟩
  have hw : wV D A s.heap ([] : va_W) H locs := by rw [hH, hLc]; exact hw
  have hgo : W p l e (rmN 1) s m args below meth c H locs 0 0 (MQ below (eI D cy A (fun _ : Unit => ([] : va_W)) (fun (r : Int32) (_ : Unit) => Q r)) args s (rmN 1).cells (rmN 1).slots A) (F0 m 0 ls []) := ?hgo
  · rw [hH, hLc] at hgo; exact hgo
  refine lv_iload_n hx hb dX9_canBe_0 rfl (lv_at hl 0 rfl) ?_
  refine lv_iconst (v := 0) hx hb dX9_canBe_1 (by decide) ?_
  refine lv_sipush (v := 2000) hx hb dX9_canBe_2 (by decide) ?_
  refine zS_I (As := [.int x0, .int 0, .int 2000]) (rest := []) hc hw (c_M_lies hm) lk_X9_94 ⟨Nat.le_of_ble_eq_true rfl, Nat.le_of_ble_eq_true rfl⟩ ⟨Nat.le_of_ble_eq_true rfl, Nat.le_of_ble_eq_true rfl⟩ hl.1 rfl (Nat.le_of_ble_eq_true rfl) rfl dX9_canBe_5 (fun r1 H locs hm hw => ?_)
  refine lv_if_eq (tgt := 46) hx hb dX9_canBe_8 (by decide) (fun c12 => ?_) (fun c12 => ?_)
  · have hm := hm.1 c12
    refine lv_iconst (v := 0) hx hb dX9_canBe_46 (by decide) ?_
    exact retZ (u := ()) hc hw rfl hm dX9_canBe_47
  · have hm := hm.2 c12
    refine lv_iload_n hx hb dX9_canBe_11 rfl (lv_at hl 1 rfl) ?_
    refine lv_iload_n hx hb dX9_canBe_12 rfl (lv_at hl 0 rfl) ?_
    refine lv_sipush (v := 2000) hx hb dX9_canBe_13 (by decide) ?_
    refine zS_I (As := [.int x1, .int x0, .int 2000]) (rest := []) hc hw (c_M_lies hm) lk_X9_94 ⟨Nat.le_of_ble_eq_true rfl, Nat.le_of_ble_eq_true rfl⟩ ⟨Nat.le_of_ble_eq_true rfl, Nat.le_of_ble_eq_true rfl⟩ hl.1 rfl (Nat.le_of_ble_eq_true rfl) rfl dX9_canBe_16 (fun r3 H locs hm hw => ?_)
    refine lv_if_eq (tgt := 46) hx hb dX9_canBe_19 (by decide) (fun c11 => ?_) (fun c11 => ?_)
    · have hm := hm.1 c11
      refine lv_iconst (v := 0) hx hb dX9_canBe_46 (by decide) ?_
      exact retZ (u := ()) hc hw rfl hm dX9_canBe_47
    · have hm := hm.2 c11
      refine lv_iload_n hx hb dX9_canBe_22 rfl (lv_at hl 2 rfl) ?_
      refine lv_iconst (v := 0) hx hb dX9_canBe_23 (by decide) ?_
      refine lv_bipush (v := 99) hx hb dX9_canBe_24 (by decide) ?_
      refine zS_I (As := [.int x2, .int 0, .int 99]) (rest := []) hc hw (c_M_lies hm) lk_X9_94 ⟨Nat.le_of_ble_eq_true rfl, Nat.le_of_ble_eq_true rfl⟩ ⟨Nat.le_of_ble_eq_true rfl, Nat.le_of_ble_eq_true rfl⟩ hl.1 rfl (Nat.le_of_ble_eq_true rfl) rfl dX9_canBe_26 (fun r5 H locs hm hw => ?_)
      refine lv_if_eq (tgt := 46) hx hb dX9_canBe_29 (by decide) (fun c10 => ?_) (fun c10 => ?_)
      · have hm := hm.1 c10
        refine lv_iconst (v := 0) hx hb dX9_canBe_46 (by decide) ?_
        exact retZ (u := ()) hc hw rfl hm dX9_canBe_47
      · have hm := hm.2 c10
        refine lv_iload_n hx hb dX9_canBe_32 rfl (lv_at hl 3 rfl) ?_
        refine lv_iconst (v := 0) hx hb dX9_canBe_33 (by decide) ?_
        refine lv_bipush (v := 15) hx hb dX9_canBe_34 (by decide) ?_
        refine zS_I (As := [.int x3, .int 0, .int 15]) (rest := []) hc hw (c_M_lies hm) lk_X9_94 ⟨Nat.le_of_ble_eq_true rfl, Nat.le_of_ble_eq_true rfl⟩ ⟨Nat.le_of_ble_eq_true rfl, Nat.le_of_ble_eq_true rfl⟩ hl.1 rfl (Nat.le_of_ble_eq_true rfl) rfl dX9_canBe_36 (fun r7 H locs hm hw => ?_)
        refine lv_if_eq (tgt := 46) hx hb dX9_canBe_39 (by decide) (fun c9 => ?_) (fun c9 => ?_)
        · have hm := hm.1 c9
          refine lv_iconst (v := 0) hx hb dX9_canBe_46 (by decide) ?_
          exact retZ (u := ()) hc hw rfl hm dX9_canBe_47
        · have hm := hm.2 c9
          refine lv_iconst (v := 1) hx hb dX9_canBe_42 (by decide) ?_
          refine lv_goto (tgt := 47) hx hb dX9_canBe_43 (by decide) ?_
          exact retZ (u := ()) hc hw rfl hm dX9_canBe_47
set_option maxHeartbeats 4000000 in
set_option maxRecDepth 100000 in
theorem c_M_adds {l : Launch} {D : va_G} {cy : Nat → ClassId} {a : Nat → Nat} {S : Ob} {x1 : Int32} {x2 : Int32} {x3 : Int32} {x4 : Int32} {Q : Int32 → Ob → Prop} (hm : wM_adds S x1 x2 x3 x4 Q) : CtI l yX9_adds cX9_adds 6 (some .int) (rmN 1) D cy [.ref (a 0), .int x1, .int x2, .int x3, .int x4] (mW cy a S) (mW cy a) Q := by
  refine CtI.ofW (by decide) (Nat.le_of_ble_eq_true rfl) ?_
  intro p e s m args below meth c A ls hc hnm hw hl
  have hx := hc.1.1
  have hb := hc.1.2.1
  have hown := hc.1.2.2.2.1
  have hts := hc.1.2.2.2.2
  have hl : lv_has ls 6 [(0, .ref (a 0)), (1, .int x1), (2, .int x2), (3, .int x3), (4, .int x4)] := hl
  obtain ⟨H, hH⟩ : ∃ z, z = s.heap := ⟨_, rfl⟩
  obtain ⟨locs, hLc⟩ : ∃ z : List Loc, z = [] := ⟨_, rfl⟩
  have hw : wV D A s.heap (mW cy a S) H locs := by rw [hH, hLc]; exact hw
  have hgo : W p l e (rmN 1) s m args below meth c H locs 0 0 (MQ below (eI D cy A (mW cy a) Q) args s (rmN 1).cells (rmN 1).slots A) (F0 m 0 ls []) := ?hgo
  · rw [hH, hLc] at hgo; exact hgo
  refine lv_iconst (v := 4) hx hb dX9_adds_0 (by decide) ?_
  refine lv_aload_n hx hb dX9_adds_1 rfl (lv_at hl 0 rfl) ?_
  refine aV_I (As := []) (rest := [.int 4]) hc hw (c_M_tales hm) lk_X9_105 rfl rfl ⟨Nat.le_of_ble_eq_true rfl, Nat.le_of_ble_eq_true rfl⟩ ⟨Nat.le_of_ble_eq_true rfl, Nat.le_of_ble_eq_true rfl⟩ hl.1 rfl (Nat.le_of_ble_eq_true rfl) rfl dX9_adds_2 (fun r1 _ H locs hm hw => ?_)
  have hw : wV D A s.heap (mW cy a S) H locs := hw
  refine lv_imul hx hb dX9_adds_5 ?_
  refine lv_topi (fun v3 e_v3 => ?_)
  have hm := hm v3 e_v3
  refine lv_istore (lv' := [(5, .int v3), (0, .ref (a 0)), (1, .int x1), (2, .int x2), (3, .int x3), (4, .int x4)]) hx hb dX9_adds_6 hl (by decide) rfl (fun ls hl => ?_)
  refine lv_aload_n hx hb dX9_adds_8 rfl (lv_at hl 1 rfl) ?_
  refine gF (k := 3) hc hw inX9 rfl 0 rfl (by decide) (gm 1062 (by decide +kernel) rfl) rfl dX9_adds_9 ?_
  refine lv_iload hx hb dX9_adds_12 (lv_at hl 0 rfl) ?_
  refine lv_iload_n hx hb dX9_adds_14 rfl (lv_at hl 2 rfl) ?_
  obtain ⟨c4, hm⟩ := hm
  refine sI hc hw 2 rfl c4 rfl dX9_adds_15 (fun H locs hw => ?_)
  obtain ⟨S5, e_S5⟩ : ∃ z : Ob, z = uA S 3 (Int32.toNatClampNeg v3) x1 := ⟨_, rfl⟩
  have hm := hm S5 e_S5
  have hw : wV D A s.heap (mW cy a S5) H locs := by rw [e_S5]; exact hw
  refine lv_aload_n hx hb dX9_adds_16 rfl (lv_at hl 1 rfl) ?_
  refine gF (k := 3) hc hw inX9 rfl 0 rfl (by decide) (gm 1062 (by decide +kernel) rfl) rfl dX9_adds_17 ?_
  refine lv_iload hx hb dX9_adds_20 (lv_at hl 0 rfl) ?_
  refine lv_iconst (v := 1) hx hb dX9_adds_22 (by decide) ?_
  refine lv_iadd hx hb dX9_adds_23 ?_
  refine lv_iload_n hx hb dX9_adds_24 rfl (lv_at hl 3 rfl) ?_
  obtain ⟨c6, hm⟩ := hm
  refine sI hc hw 2 rfl c6 rfl dX9_adds_25 (fun H locs hw => ?_)
  obtain ⟨S7, e_S7⟩ : ∃ z : Ob, z = uA S5 3 (Int32.toNatClampNeg (v3 + 1)) x2 := ⟨_, rfl⟩
  have hm := hm S7 e_S7
  have hw : wV D A s.heap (mW cy a S7) H locs := by rw [e_S7]; exact hw
  refine lv_aload_n hx hb dX9_adds_26 rfl (lv_at hl 1 rfl) ?_
  refine gF (k := 3) hc hw inX9 rfl 0 rfl (by decide) (gm 1062 (by decide +kernel) rfl) rfl dX9_adds_27 ?_
  refine lv_iload hx hb dX9_adds_30 (lv_at hl 0 rfl) ?_
  refine lv_iconst (v := 2) hx hb dX9_adds_32 (by decide) ?_
  refine lv_iadd hx hb dX9_adds_33 ?_
  refine lv_iload_n hx hb dX9_adds_34 rfl (lv_at hl 4 rfl) ?_
  obtain ⟨c8, hm⟩ := hm
  refine sI hc hw 2 rfl c8 rfl dX9_adds_35 (fun H locs hw => ?_)
  obtain ⟨S9, e_S9⟩ : ∃ z : Ob, z = uA S7 3 (Int32.toNatClampNeg (v3 + 2)) x3 := ⟨_, rfl⟩
  have hm := hm S9 e_S9
  have hw : wV D A s.heap (mW cy a S9) H locs := by rw [e_S9]; exact hw
  refine lv_aload_n hx hb dX9_adds_36 rfl (lv_at hl 1 rfl) ?_
  refine gF (k := 3) hc hw inX9 rfl 0 rfl (by decide) (gm 1062 (by decide +kernel) rfl) rfl dX9_adds_37 ?_
  refine lv_iload hx hb dX9_adds_40 (lv_at hl 0 rfl) ?_
  refine lv_iconst (v := 3) hx hb dX9_adds_42 (by decide) ?_
  refine lv_iadd hx hb dX9_adds_43 ?_
  refine lv_iload hx hb dX9_adds_44 (lv_at hl 5 rfl) ?_
  obtain ⟨c10, hm⟩ := hm
  refine sI hc hw 2 rfl c10 rfl dX9_adds_46 (fun H locs hw => ?_)
  obtain ⟨S11, e_S11⟩ : ∃ z : Ob, z = uA S9 3 (Int32.toNatClampNeg (v3 + 3)) x4 := ⟨_, rfl⟩
  have hm := hm S11 e_S11
  have hw : wV D A s.heap (mW cy a S11) H locs := by rw [e_S11]; exact hw
  refine lv_aload_n hx hb dX9_adds_47 rfl (lv_at hl 1 rfl) ?_
  refine gF (k := 3) hc hw inX9 rfl 0 rfl (by decide) (gm 1062 (by decide +kernel) rfl) rfl dX9_adds_48 ?_
  refine lv_sipush (v := 133) hx hb dX9_adds_51 (by decide) ?_
  refine lv_dup2_11 hx hb dX9_adds_54 rfl rfl ?_
  refine aI hc hw 2 rfl (vin (by decide)) (j := 133) (by decide) dX9_adds_55 ?_
  refine lv_iconst (v := 1) hx hb dX9_adds_56 (by decide) ?_
  refine lv_iadd hx hb dX9_adds_57 ?_
  refine sI hc hw 2 rfl (vin (by decide)) (j := 133) (by decide) dX9_adds_58 (fun H locs hw => ?_)
  obtain ⟨S12, e_S12⟩ : ∃ z : Ob, z = uA S11 3 133 ((S11.2 3 133) + 1) := ⟨_, rfl⟩
  have hm := hm S12 e_S12
  have hw : wV D A s.heap (mW cy a S12) H locs := by rw [e_S12]; exact hw
  refine lv_aload_n hx hb dX9_adds_59 rfl (lv_at hl 1 rfl) ?_
  refine aV_I (As := []) (rest := []) hc hw (c_M_tales hm) lk_X9_105 rfl rfl ⟨Nat.le_of_ble_eq_true rfl, Nat.le_of_ble_eq_true rfl⟩ ⟨Nat.le_of_ble_eq_true rfl, Nat.le_of_ble_eq_true rfl⟩ hl.1 rfl (Nat.le_of_ble_eq_true rfl) rfl dX9_adds_60 (fun r13 _ H locs hm hw => ?_)
  have hw : wV D A s.heap (mW cy a S12) H locs := hw
  refine lv_iconst (v := 1) hx hb dX9_adds_63 (by decide) ?_
  refine lv_isub hx hb dX9_adds_64 ?_
  exact retI (u := S12) hc hw hm dX9_adds_65
set_option maxHeartbeats 4000000 in
set_option maxRecDepth 100000 in
theorem c_M_tale {l : Launch} {D : va_G} {cy : Nat → ClassId} {a : Nat → Nat} {S : Ob} {x1 : Int32} {x2 : Int32} {x3 : Int32} {x4 : Int32} {Q : Int32 → Ob → Prop} (hm : wM_tale S x1 x2 x3 x4 Q) : CtI l yX9_tale cX9_tale 5 (some .int) (rmN 2) D cy [.ref (a 0), .int x1, .int x2, .int x3, .int x4] (mW cy a S) (mW cy a) Q := by
  refine CtI.ofW (by decide) (Nat.le_of_ble_eq_true rfl) ?_
  intro p e s m args below meth c A ls hc hnm hw hl
  have hx := hc.1.1
  have hb := hc.1.2.1
  have hown := hc.1.2.2.2.1
  have hts := hc.1.2.2.2.2
  have hl : lv_has ls 5 [(0, .ref (a 0)), (1, .int x1), (2, .int x2), (3, .int x3), (4, .int x4)] := hl
  obtain ⟨H, hH⟩ : ∃ z, z = s.heap := ⟨_, rfl⟩
  obtain ⟨locs, hLc⟩ : ∃ z : List Loc, z = [] := ⟨_, rfl⟩
  have hw : wV D A s.heap (mW cy a S) H locs := by rw [hH, hLc]; exact hw
  have hgo : W p l e (rmN 2) s m args below meth c H locs 0 0 (MQ below (eI D cy A (mW cy a) Q) args s (rmN 2).cells (rmN 2).slots A) (F0 m 0 ls []) := ?hgo
  · rw [hH, hLc] at hgo; exact hgo
  refine lv_iload_n hx hb dX9_tale_0 rfl (lv_at hl 1 rfl) ?_
  refine lv_iload_n hx hb dX9_tale_1 rfl (lv_at hl 2 rfl) ?_
  refine lv_iload_n hx hb dX9_tale_2 rfl (lv_at hl 3 rfl) ?_
  refine lv_iload hx hb dX9_tale_3 (lv_at hl 4 rfl) ?_
  refine zS_I (As := [.int x1, .int x2, .int x3, .int x4]) (rest := []) hc hw (c_M_canBe hm) lk_X9_109 ⟨Nat.le_of_ble_eq_true rfl, Nat.le_of_ble_eq_true rfl⟩ ⟨Nat.le_of_ble_eq_true rfl, Nat.le_of_ble_eq_true rfl⟩ hl.1 rfl (Nat.le_of_ble_eq_true rfl) rfl dX9_tale_5 (fun r1 H locs hm hw => ?_)
  refine lv_if_ne (tgt := 17) hx hb dX9_tale_8 (by decide) (fun c18 => ?_) (fun c18 => ?_)
  · have hm := hm.1 c18
    refine lv_aload_n hx hb dX9_tale_17 rfl (lv_at hl 0 rfl) ?_
    refine aV_I (As := []) (rest := []) hc hw (c_M_tales hm) lk_X9_105 rfl rfl ⟨Nat.le_of_ble_eq_true rfl, Nat.le_of_ble_eq_true rfl⟩ ⟨Nat.le_of_ble_eq_true rfl, Nat.le_of_ble_eq_true rfl⟩ hl.1 rfl (Nat.le_of_ble_eq_true rfl) rfl dX9_tale_18 (fun r3 _ H locs hm hw => ?_)
    have hw : wV D A s.heap (mW cy a S) H locs := hw
    refine lv_bipush (v := 10) hx hb dX9_tale_21 (by decide) ?_
    refine lv_icmp_ne (tgt := 33) hx hb dX9_tale_23 (by decide) (fun c14 => ?_) (fun c14 => ?_)
    · have hm := hm.1 c14
      refine lv_aload_n hx hb dX9_tale_33 rfl (lv_at hl 0 rfl) ?_
      refine lv_aload_n hx hb dX9_tale_34 rfl (lv_at hl 0 rfl) ?_
      refine lv_iload_n hx hb dX9_tale_35 rfl (lv_at hl 1 rfl) ?_
      refine lv_iload_n hx hb dX9_tale_36 rfl (lv_at hl 2 rfl) ?_
      refine lv_iload_n hx hb dX9_tale_37 rfl (lv_at hl 3 rfl) ?_
      refine lv_iload hx hb dX9_tale_38 (lv_at hl 4 rfl) ?_
      refine aV_I (As := [.int x1, .int x2, .int x3, .int x4]) (rest := [.ref (a 0)]) hc hw (c_M_adds hm) lk_X9_113 rfl rfl ⟨Nat.le_of_ble_eq_true rfl, Nat.le_of_ble_eq_true rfl⟩ ⟨Nat.le_of_ble_eq_true rfl, Nat.le_of_ble_eq_true rfl⟩ hl.1 rfl (Nat.le_of_ble_eq_true rfl) rfl dX9_tale_40 (fun r5 S6 H locs hm hw => ?_)
      have hw : wV D A s.heap (mW cy a S6) H locs := hw
      refine aV_I (As := [.int r5]) (rest := []) hc hw (c_M_good hm) lk_X9_102 rfl rfl ⟨Nat.le_of_ble_eq_true rfl, Nat.le_of_ble_eq_true rfl⟩ ⟨Nat.le_of_ble_eq_true rfl, Nat.le_of_ble_eq_true rfl⟩ hl.1 rfl (Nat.le_of_ble_eq_true rfl) rfl dX9_tale_43 (fun r8 S9 H locs hm hw => ?_)
      have hw : wV D A s.heap (mW cy a S9) H locs := hw
      exact retI (u := S9) hc hw hm dX9_tale_46
    · have hm := hm.2 c14
      refine lv_aload_n hx hb dX9_tale_26 rfl (lv_at hl 0 rfl) ?_
      refine lv_bipush (v := (-5)) hx hb dX9_tale_27 (by decide) ?_
      refine aV_I (As := [.int (-5)]) (rest := []) hc hw (c_M_refuses hm) lk_X9_98 rfl rfl ⟨Nat.le_of_ble_eq_true rfl, Nat.le_of_ble_eq_true rfl⟩ ⟨Nat.le_of_ble_eq_true rfl, Nat.le_of_ble_eq_true rfl⟩ hl.1 rfl (Nat.le_of_ble_eq_true rfl) rfl dX9_tale_29 (fun r11 S12 H locs hm hw => ?_)
      have hw : wV D A s.heap (mW cy a S12) H locs := hw
      exact retI (u := S12) hc hw hm dX9_tale_32
  · have hm := hm.2 c18
    refine lv_aload_n hx hb dX9_tale_11 rfl (lv_at hl 0 rfl) ?_
    refine lv_iconst (v := (-1)) hx hb dX9_tale_12 (by decide) ?_
    refine aV_I (As := [.int (-1)]) (rest := []) hc hw (c_M_refuses hm) lk_X9_98 rfl rfl ⟨Nat.le_of_ble_eq_true rfl, Nat.le_of_ble_eq_true rfl⟩ ⟨Nat.le_of_ble_eq_true rfl, Nat.le_of_ble_eq_true rfl⟩ hl.1 rfl (Nat.le_of_ble_eq_true rfl) rfl dX9_tale_13 (fun r15 S16 H locs hm hw => ?_)
    have hw : wV D A s.heap (mW cy a S16) H locs := hw
    exact retI (u := S16) hc hw hm dX9_tale_16
set_option maxHeartbeats 4000000 in
set_option maxRecDepth 100000 in
theorem c_M_put {l : Launch} {D : va_G} {cy : Nat → ClassId} {a : Nat → Nat} {S : Ob} {x1 : Int32} {x2 : Int32} {x3 : Int32} {Q : Int32 → Ob → Prop} (hm : wM_put S x1 x2 x3 Q) : CtI l yX9_put cX9_put 5 (some .int) (rmN 2) D cy [.ref (a 0), .int x1, .int x2, .int x3] (mW cy a S) (mW cy a) Q := by
  refine CtI.ofW (by decide) (Nat.le_of_ble_eq_true rfl) ?_
  intro p e s m args below meth c A ls hc hnm hw hl
  have hx := hc.1.1
  have hb := hc.1.2.1
  have hown := hc.1.2.2.2.1
  have hts := hc.1.2.2.2.2
  have hl : lv_has ls 5 [(0, .ref (a 0)), (1, .int x1), (2, .int x2), (3, .int x3)] := hl
  obtain ⟨H, hH⟩ : ∃ z, z = s.heap := ⟨_, rfl⟩
  obtain ⟨locs, hLc⟩ : ∃ z : List Loc, z = [] := ⟨_, rfl⟩
  have hw : wV D A s.heap (mW cy a S) H locs := by rw [hH, hLc]; exact hw
  have hgo : W p l e (rmN 2) s m args below meth c H locs 0 0 (MQ below (eI D cy A (mW cy a) Q) args s (rmN 2).cells (rmN 2).slots A) (F0 m 0 ls []) := ?hgo
  · rw [hH, hLc] at hgo; exact hgo
  refine lv_iload_n hx hb dX9_put_0 rfl (lv_at hl 2 rfl) ?_
  refine lv_iconst (v := 0) hx hb dX9_put_1 (by decide) ?_
  refine lv_iconst (v := 3) hx hb dX9_put_2 (by decide) ?_
  refine zS_I (As := [.int x2, .int 0, .int 3]) (rest := []) hc hw (c_M_lies hm) lk_X9_94 ⟨Nat.le_of_ble_eq_true rfl, Nat.le_of_ble_eq_true rfl⟩ ⟨Nat.le_of_ble_eq_true rfl, Nat.le_of_ble_eq_true rfl⟩ hl.1 rfl (Nat.le_of_ble_eq_true rfl) rfl dX9_put_3 (fun r1 H locs hm hw => ?_)
  obtain ⟨J4, eJ4, hm⟩ := jn_e hm
  have hJ4 : ∀ (z3 : Unit) (_ : J4 z3) (H : Heap) (locs : List Loc) (ls : Array Slot), wV D A s.heap (mW cy a S) H locs → lv_has ls 5 [(0, .ref (a 0))] → W p l e (rmN 2) s m args below meth c H locs 0 0 (MQ below (eI D cy A (mW cy a) Q) args s (rmN 2).cells (rmN 2).slots A) (F0 m 40 ls []) := by
    intro z3 hm H locs ls hw hl
    rw [eJ4] at hm
    refine lv_aload_n hx hb dX9_put_40 rfl (lv_at hl 0 rfl) ?_
    refine lv_iconst (v := (-1)) hx hb dX9_put_41 (by decide) ?_
    refine aV_I (As := [.int (-1)]) (rest := []) hc hw (c_M_refuses hm) lk_X9_98 rfl rfl ⟨Nat.le_of_ble_eq_true rfl, Nat.le_of_ble_eq_true rfl⟩ ⟨Nat.le_of_ble_eq_true rfl, Nat.le_of_ble_eq_true rfl⟩ hl.1 rfl (Nat.le_of_ble_eq_true rfl) rfl dX9_put_42 (fun r5 S6 H locs hm hw => ?_)
    have hw : wV D A s.heap (mW cy a S6) H locs := hw
    exact retI (u := S6) hc hw hm dX9_put_45
  refine lv_if_eq (tgt := 40) hx hb dX9_put_6 (by decide) (fun c45 => ?_) (fun c45 => ?_)
  · have hm := hm.1 c45
    exact hJ4 _ hm _ _ _ hw (lv_sub hl [0] rfl)
  · have hm := hm.2 c45
    refine lv_iload_n hx hb dX9_put_9 rfl (lv_at hl 3 rfl) ?_
    refine lv_iconst (v := 0) hx hb dX9_put_10 (by decide) ?_
    refine lv_iload_n hx hb dX9_put_11 rfl (lv_at hl 2 rfl) ?_
    refine lv_iconst (v := 2) hx hb dX9_put_12 (by decide) ?_
    obtain ⟨J9, eJ9, hm⟩ := jn_e hm
    have hJ9 : ∀ (t8 : Int32) (_ : J9 t8) (H : Heap) (locs : List Loc) (ls : Array Slot), wV D A s.heap (mW cy a S) H locs → lv_has ls 5 [(0, .ref (a 0)), (1, .int x1), (2, .int x2), (3, .int x3)] → W p l e (rmN 2) s m args below meth c H locs 0 0 (MQ below (eI D cy A (mW cy a) Q) args s (rmN 2).cells (rmN 2).slots A) (F0 m 34 ls [.int t8, .int 0, .int x3]) := by
      intro t8 hm H locs ls hw hl
      rw [eJ9] at hm
      refine zS_I (As := [.int x3, .int 0, .int t8]) (rest := []) hc hw (c_M_lies hm) lk_X9_94 ⟨Nat.le_of_ble_eq_true rfl, Nat.le_of_ble_eq_true rfl⟩ ⟨Nat.le_of_ble_eq_true rfl, Nat.le_of_ble_eq_true rfl⟩ hl.1 rfl (Nat.le_of_ble_eq_true rfl) rfl dX9_put_34 (fun r10 H locs hm hw => ?_)
      refine lv_if_ne (tgt := 46) hx hb dX9_put_37 (by decide) (fun c42 => ?_) (fun c42 => ?_)
      · have hm := hm.1 c42
        refine lv_aload_n hx hb dX9_put_46 rfl (lv_at hl 0 rfl) ?_
        refine lv_iload_n hx hb dX9_put_47 rfl (lv_at hl 1 rfl) ?_
        refine aV_I (As := [.int x1]) (rest := []) hc hw (c_M_isTale hm) lk_X9_117 rfl rfl ⟨Nat.le_of_ble_eq_true rfl, Nat.le_of_ble_eq_true rfl⟩ ⟨Nat.le_of_ble_eq_true rfl, Nat.le_of_ble_eq_true rfl⟩ hl.1 rfl (Nat.le_of_ble_eq_true rfl) rfl dX9_put_48 (fun r12 _ H locs hm hw => ?_)
        have hw : wV D A s.heap (mW cy a S) H locs := hw
        refine lv_if_ne (tgt := 61) hx hb dX9_put_51 (by decide) (fun c41 => ?_) (fun c41 => ?_)
        · have hm := hm.1 c41
          refine lv_iload_n hx hb dX9_put_61 rfl (lv_at hl 2 rfl) ?_
          obtain ⟨J15, eJ15, hm⟩ := jn_e hm
          have hJ15 : ∀ (z14 : Unit) (_ : J15 z14) (H : Heap) (locs : List Loc) (ls : Array Slot), wV D A s.heap (mW cy a S) H locs → lv_has ls 5 [(0, .ref (a 0))] → W p l e (rmN 2) s m args below meth c H locs 0 0 (MQ below (eI D cy A (mW cy a) Q) args s (rmN 2).cells (rmN 2).slots A) (F0 m 90 ls []) := by
            intro z14 hm H locs ls hw hl
            rw [eJ15] at hm
            refine lv_aload_n hx hb dX9_put_90 rfl (lv_at hl 0 rfl) ?_
            refine lv_iconst (v := (-1)) hx hb dX9_put_91 (by decide) ?_
            refine aV_I (As := [.int (-1)]) (rest := []) hc hw (c_M_refuses hm) lk_X9_98 rfl rfl ⟨Nat.le_of_ble_eq_true rfl, Nat.le_of_ble_eq_true rfl⟩ ⟨Nat.le_of_ble_eq_true rfl, Nat.le_of_ble_eq_true rfl⟩ hl.1 rfl (Nat.le_of_ble_eq_true rfl) rfl dX9_put_92 (fun r16 S17 H locs hm hw => ?_)
            have hw : wV D A s.heap (mW cy a S17) H locs := hw
            exact retI (u := S17) hc hw hm dX9_put_95
          obtain ⟨J20, eJ20, hm⟩ := jn_e hm
          have hJ20 : ∀ (z19 : Unit) (_ : J20 z19) (H : Heap) (locs : List Loc) (ls : Array Slot), wV D A s.heap (mW cy a S) H locs → lv_has ls 5 [(0, .ref (a 0)), (1, .int x1), (2, .int x2), (3, .int x3)] → W p l e (rmN 2) s m args below meth c H locs 0 0 (MQ below (eI D cy A (mW cy a) Q) args s (rmN 2).cells (rmN 2).slots A) (F0 m 75 ls []) := by
            intro z19 hm H locs ls hw hl
            rw [eJ20] at hm
            refine lv_iload_n hx hb dX9_put_75 rfl (lv_at hl 2 rfl) ?_
            refine lv_iconst (v := 1) hx hb dX9_put_76 (by decide) ?_
            obtain ⟨J22, eJ22, hm⟩ := jn_e hm
            have hJ22 : ∀ (z21 : Unit) (_ : J22 z21) (H : Heap) (locs : List Loc) (ls : Array Slot), wV D A s.heap (mW cy a S) H locs → lv_has ls 5 [(0, .ref (a 0)), (1, .int x1), (2, .int x2), (3, .int x3)] → W p l e (rmN 2) s m args below meth c H locs 0 0 (MQ below (eI D cy A (mW cy a) Q) args s (rmN 2).cells (rmN 2).slots A) (F0 m 96 ls []) := by
              intro z21 hm H locs ls hw hl
              rw [eJ22] at hm
              refine lv_aload_n hx hb dX9_put_96 rfl (lv_at hl 0 rfl) ?_
              refine lv_iload_n hx hb dX9_put_97 rfl (lv_at hl 1 rfl) ?_
              refine lv_iload_n hx hb dX9_put_98 rfl (lv_at hl 2 rfl) ?_
              refine aV_I (As := [.int x1, .int x2]) (rest := []) hc hw (c_M_factOf hm) lk_X9_121 rfl rfl ⟨Nat.le_of_ble_eq_true rfl, Nat.le_of_ble_eq_true rfl⟩ ⟨Nat.le_of_ble_eq_true rfl, Nat.le_of_ble_eq_true rfl⟩ hl.1 rfl (Nat.le_of_ble_eq_true rfl) rfl dX9_put_99 (fun r23 _ H locs hm hw => ?_)
              have hw : wV D A s.heap (mW cy a S) H locs := hw
              refine lv_istore (lv' := [(4, .int r23), (0, .ref (a 0)), (1, .int x1), (2, .int x2), (3, .int x3)]) hx hb dX9_put_102 hl (by decide) rfl (fun ls hl => ?_)
              refine lv_aload_n hx hb dX9_put_104 rfl (lv_at hl 1 rfl) ?_
              refine gF (k := 3) hc hw inX9 rfl 0 rfl (by decide) (gm 1062 (by decide +kernel) rfl) rfl dX9_put_105 ?_
              refine lv_iconst (v := 4) hx hb dX9_put_108 (by decide) ?_
              refine lv_iload_n hx hb dX9_put_109 rfl (lv_at hl 2 rfl) ?_
              refine lv_imul hx hb dX9_put_110 ?_
              refine lv_iload_n hx hb dX9_put_111 rfl (lv_at hl 3 rfl) ?_
              refine lv_iadd hx hb dX9_put_112 ?_
              refine lv_iload_n hx hb dX9_put_113 rfl (lv_at hl 4 rfl) ?_
              obtain ⟨c25, hm⟩ := hm
              refine sI hc hw 2 rfl c25 rfl dX9_put_114 (fun H locs hw => ?_)
              obtain ⟨S26, e_S26⟩ : ∃ z : Ob, z = uA S 3 (Int32.toNatClampNeg ((4 * x1) + x2)) x3 := ⟨_, rfl⟩
              have hm := hm S26 e_S26
              have hw : wV D A s.heap (mW cy a S26) H locs := by rw [e_S26]; exact hw
              refine lv_aload_n hx hb dX9_put_115 rfl (lv_at hl 1 rfl) ?_
              refine lv_iload hx hb dX9_put_116 (lv_at hl 0 rfl) ?_
              refine aV_I (As := [.int r23]) (rest := []) hc hw (c_M_good hm) lk_X9_102 rfl rfl ⟨Nat.le_of_ble_eq_true rfl, Nat.le_of_ble_eq_true rfl⟩ ⟨Nat.le_of_ble_eq_true rfl, Nat.le_of_ble_eq_true rfl⟩ hl.1 rfl (Nat.le_of_ble_eq_true rfl) rfl dX9_put_118 (fun r27 S28 H locs hm hw => ?_)
              have hw : wV D A s.heap (mW cy a S28) H locs := hw
              exact retI (u := S28) hc hw hm dX9_put_121
            refine lv_icmp_ne (tgt := 96) hx hb dX9_put_77 (by decide) (fun c33 => ?_) (fun c33 => ?_)
            · have hm := hm.1 c33
              exact hJ22 _ hm _ _ _ hw (lv_sub hl [0, 1, 2, 3] rfl)
            · have hm := hm.2 c33
              refine lv_iload_n hx hb dX9_put_80 rfl (lv_at hl 3 rfl) ?_
              refine lv_aload_n hx hb dX9_put_81 rfl (lv_at hl 0 rfl) ?_
              refine lv_iload_n hx hb dX9_put_82 rfl (lv_at hl 1 rfl) ?_
              refine lv_iconst (v := 0) hx hb dX9_put_83 (by decide) ?_
              refine aV_I (As := [.int x1, .int 0]) (rest := [.int x3]) hc hw (c_M_factOf hm) lk_X9_121 rfl rfl ⟨Nat.le_of_ble_eq_true rfl, Nat.le_of_ble_eq_true rfl⟩ ⟨Nat.le_of_ble_eq_true rfl, Nat.le_of_ble_eq_true rfl⟩ hl.1 rfl (Nat.le_of_ble_eq_true rfl) rfl dX9_put_84 (fun r30 _ H locs hm hw => ?_)
              have hw : wV D A s.heap (mW cy a S) H locs := hw
              refine lv_icmp_ge (tgt := 96) hx hb dX9_put_87 (by decide) (fun c32 => ?_) (fun c32 => ?_)
              · have hm := hm.1 c32
                exact hJ22 _ hm _ _ _ hw (lv_sub hl [0, 1, 2, 3] rfl)
              · have hm := hm.2 c32
                exact hJ15 _ hm _ _ _ hw (lv_sub hl [0] rfl)
          refine lv_if_ne (tgt := 75) hx hb dX9_put_62 (by decide) (fun c37 => ?_) (fun c37 => ?_)
          · have hm := hm.1 c37
            exact hJ20 _ hm _ _ _ hw (lv_sub hl [0, 1, 2, 3] rfl)
          · have hm := hm.2 c37
            refine lv_iload_n hx hb dX9_put_65 rfl (lv_at hl 3 rfl) ?_
            refine lv_aload_n hx hb dX9_put_66 rfl (lv_at hl 0 rfl) ?_
            refine lv_iload_n hx hb dX9_put_67 rfl (lv_at hl 1 rfl) ?_
            refine lv_iconst (v := 1) hx hb dX9_put_68 (by decide) ?_
            refine aV_I (As := [.int x1, .int 1]) (rest := [.int x3]) hc hw (c_M_factOf hm) lk_X9_121 rfl rfl ⟨Nat.le_of_ble_eq_true rfl, Nat.le_of_ble_eq_true rfl⟩ ⟨Nat.le_of_ble_eq_true rfl, Nat.le_of_ble_eq_true rfl⟩ hl.1 rfl (Nat.le_of_ble_eq_true rfl) rfl dX9_put_69 (fun r34 _ H locs hm hw => ?_)
            have hw : wV D A s.heap (mW cy a S) H locs := hw
            refine lv_icmp_gt (tgt := 90) hx hb dX9_put_72 (by decide) (fun c36 => ?_) (fun c36 => ?_)
            · have hm := hm.1 c36
              exact hJ15 _ hm _ _ _ hw (lv_sub hl [0] rfl)
            · have hm := hm.2 c36
              exact hJ20 _ hm _ _ _ hw (lv_sub hl [0, 1, 2, 3] rfl)
        · have hm := hm.2 c41
          refine lv_aload_n hx hb dX9_put_54 rfl (lv_at hl 0 rfl) ?_
          refine lv_bipush (v := (-2)) hx hb dX9_put_55 (by decide) ?_
          refine aV_I (As := [.int (-2)]) (rest := []) hc hw (c_M_refuses hm) lk_X9_98 rfl rfl ⟨Nat.le_of_ble_eq_true rfl, Nat.le_of_ble_eq_true rfl⟩ ⟨Nat.le_of_ble_eq_true rfl, Nat.le_of_ble_eq_true rfl⟩ hl.1 rfl (Nat.le_of_ble_eq_true rfl) rfl dX9_put_57 (fun r38 S39 H locs hm hw => ?_)
          have hw : wV D A s.heap (mW cy a S39) H locs := hw
          exact retI (u := S39) hc hw hm dX9_put_60
      · have hm := hm.2 c42
        exact hJ4 _ hm _ _ _ hw (lv_sub hl [0] rfl)
    refine lv_icmp_ge (tgt := 22) hx hb dX9_put_13 (by decide) (fun c44 => ?_) (fun c44 => ?_)
    · have hm := hm.1 c44
      refine lv_iload_n hx hb dX9_put_22 rfl (lv_at hl 2 rfl) ?_
      refine lv_iconst (v := 2) hx hb dX9_put_23 (by decide) ?_
      refine lv_icmp_ne (tgt := 32) hx hb dX9_put_24 (by decide) (fun c43 => ?_) (fun c43 => ?_)
      · have hm := hm.1 c43
        refine lv_bipush (v := 15) hx hb dX9_put_32 (by decide) ?_
        exact hJ9 _ hm _ _ _ hw (lv_sub hl [0, 1, 2, 3] rfl)
      · have hm := hm.2 c43
        refine lv_bipush (v := 99) hx hb dX9_put_27 (by decide) ?_
        refine lv_goto (tgt := 34) hx hb dX9_put_29 (by decide) ?_
        exact hJ9 _ hm _ _ _ hw (lv_sub hl [0, 1, 2, 3] rfl)
    · have hm := hm.2 c44
      refine lv_sipush (v := 2000) hx hb dX9_put_16 (by decide) ?_
      refine lv_goto (tgt := 34) hx hb dX9_put_19 (by decide) ?_
      exact hJ9 _ hm _ _ _ hw (lv_sub hl [0, 1, 2, 3] rfl)
set_option maxHeartbeats 4000000 in
set_option maxRecDepth 100000 in
theorem c_M_terms {l : Launch} {D : va_G} {cy : Nat → ClassId} {a : Nat → Nat} {S : Ob} {x1 : Int32} {x2 : Int32} {Q : Int32 → Ob → Prop} (hm : wM_terms S x1 x2 Q) : CtI l yX9_terms cX9_terms 4 (some .int) (rmN 1) D cy [.ref (a 0), .int x1, .int x2] (mW cy a S) (mW cy a) Q := by
  refine CtI.ofW (by decide) (Nat.le_of_ble_eq_true rfl) ?_
  intro p e s m args below meth c A ls hc hnm hw hl
  have hx := hc.1.1
  have hb := hc.1.2.1
  have hown := hc.1.2.2.2.1
  have hts := hc.1.2.2.2.2
  have hl : lv_has ls 4 [(0, .ref (a 0)), (1, .int x1), (2, .int x2)] := hl
  obtain ⟨H, hH⟩ : ∃ z, z = s.heap := ⟨_, rfl⟩
  obtain ⟨locs, hLc⟩ : ∃ z : List Loc, z = [] := ⟨_, rfl⟩
  have hw : wV D A s.heap (mW cy a S) H locs := by rw [hH, hLc]; exact hw
  have hgo : W p l e (rmN 1) s m args below meth c H locs 0 0 (MQ below (eI D cy A (mW cy a) Q) args s (rmN 1).cells (rmN 1).slots A) (F0 m 0 ls []) := ?hgo
  · rw [hH, hLc] at hgo; exact hgo
  refine lv_iload_n hx hb dX9_terms_0 rfl (lv_at hl 1 rfl) ?_
  refine lv_iconst (v := 0) hx hb dX9_terms_1 (by decide) ?_
  refine lv_iconst (v := 2) hx hb dX9_terms_2 (by decide) ?_
  refine zS_I (As := [.int x1, .int 0, .int 2]) (rest := []) hc hw (c_M_lies hm) lk_X9_94 ⟨Nat.le_of_ble_eq_true rfl, Nat.le_of_ble_eq_true rfl⟩ ⟨Nat.le_of_ble_eq_true rfl, Nat.le_of_ble_eq_true rfl⟩ hl.1 rfl (Nat.le_of_ble_eq_true rfl) rfl dX9_terms_3 (fun r1 H locs hm hw => ?_)
  obtain ⟨J4, eJ4, hm⟩ := jn_e hm
  have hJ4 : ∀ (z3 : Unit) (_ : J4 z3) (H : Heap) (locs : List Loc) (ls : Array Slot), wV D A s.heap (mW cy a S) H locs → lv_has ls 4 [(0, .ref (a 0))] → W p l e (rmN 1) s m args below meth c H locs 0 0 (MQ below (eI D cy A (mW cy a) Q) args s (rmN 1).cells (rmN 1).slots A) (F0 m 44 ls []) := by
    intro z3 hm H locs ls hw hl
    rw [eJ4] at hm
    refine lv_aload_n hx hb dX9_terms_44 rfl (lv_at hl 0 rfl) ?_
    refine lv_iconst (v := (-1)) hx hb dX9_terms_45 (by decide) ?_
    refine aV_I (As := [.int (-1)]) (rest := []) hc hw (c_M_refuses hm) lk_X9_98 rfl rfl ⟨Nat.le_of_ble_eq_true rfl, Nat.le_of_ble_eq_true rfl⟩ ⟨Nat.le_of_ble_eq_true rfl, Nat.le_of_ble_eq_true rfl⟩ hl.1 rfl (Nat.le_of_ble_eq_true rfl) rfl dX9_terms_46 (fun r5 S6 H locs hm hw => ?_)
    have hw : wV D A s.heap (mW cy a S6) H locs := hw
    exact retI (u := S6) hc hw hm dX9_terms_49
  refine lv_if_eq (tgt := 44) hx hb dX9_terms_6 (by decide) (fun c25 => ?_) (fun c25 => ?_)
  · have hm := hm.1 c25
    exact hJ4 _ hm _ _ _ hw (lv_sub hl [0] rfl)
  · have hm := hm.2 c25
    refine lv_iload_n hx hb dX9_terms_9 rfl (lv_at hl 2 rfl) ?_
    refine lv_iload_n hx hb dX9_terms_10 rfl (lv_at hl 1 rfl) ?_
    obtain ⟨J9, eJ9, hm⟩ := jn_e hm
    have hJ9 : ∀ (t8 : Int32) (_ : J9 t8) (H : Heap) (locs : List Loc) (ls : Array Slot), wV D A s.heap (mW cy a S) H locs → lv_has ls 4 [(0, .ref (a 0)), (1, .int x1), (2, .int x2)] → W p l e (rmN 1) s m args below meth c H locs 0 0 (MQ below (eI D cy A (mW cy a) Q) args s (rmN 1).cells (rmN 1).slots A) (F0 m 19 ls [.int t8, .int x2]) := by
      intro t8 hm H locs ls hw hl
      rw [eJ9] at hm
      refine lv_iload_n hx hb dX9_terms_19 rfl (lv_at hl 1 rfl) ?_
      obtain ⟨J11, eJ11, hm⟩ := jn_e hm
      have hJ11 : ∀ (t10 : Int32) (_ : J11 t10) (H : Heap) (locs : List Loc) (ls : Array Slot), wV D A s.heap (mW cy a S) H locs → lv_has ls 4 [(0, .ref (a 0)), (1, .int x1), (2, .int x2)] → W p l e (rmN 1) s m args below meth c H locs 0 0 (MQ below (eI D cy A (mW cy a) Q) args s (rmN 1).cells (rmN 1).slots A) (F0 m 38 ls [.int t10, .int t8, .int x2]) := by
        intro t10 hm H locs ls hw hl
        rw [eJ11] at hm
        refine zS_I (As := [.int x2, .int t8, .int t10]) (rest := []) hc hw (c_M_lies hm) lk_X9_94 ⟨Nat.le_of_ble_eq_true rfl, Nat.le_of_ble_eq_true rfl⟩ ⟨Nat.le_of_ble_eq_true rfl, Nat.le_of_ble_eq_true rfl⟩ hl.1 rfl (Nat.le_of_ble_eq_true rfl) rfl dX9_terms_38 (fun r12 H locs hm hw => ?_)
        refine lv_if_ne (tgt := 50) hx hb dX9_terms_41 (by decide) (fun c21 => ?_) (fun c21 => ?_)
        · have hm := hm.1 c21
          refine lv_aload_n hx hb dX9_terms_50 rfl (lv_at hl 0 rfl) ?_
          refine gF (k := 3) hc hw inX9 rfl 0 rfl (by decide) (gm 1062 (by decide +kernel) rfl) rfl dX9_terms_51 ?_
          refine lv_bipush (v := 40) hx hb dX9_terms_54 (by decide) ?_
          refine lv_iload_n hx hb dX9_terms_56 rfl (lv_at hl 1 rfl) ?_
          refine lv_iadd hx hb dX9_terms_57 ?_
          obtain ⟨c14, hm⟩ := hm
          refine aI hc hw 2 rfl c14 rfl dX9_terms_58 ?_
          refine lv_topi (fun v15 e_v15 => ?_)
          have hm := hm v15 e_v15
          refine lv_istore_n (lv' := [(3, .int v15), (0, .ref (a 0)), (1, .int x1), (2, .int x2)]) hx hb dX9_terms_59 rfl hl (by decide) rfl (fun ls hl => ?_)
          refine lv_aload_n hx hb dX9_terms_60 rfl (lv_at hl 1 rfl) ?_
          refine gF (k := 3) hc hw inX9 rfl 0 rfl (by decide) (gm 1062 (by decide +kernel) rfl) rfl dX9_terms_61 ?_
          refine lv_bipush (v := 40) hx hb dX9_terms_64 (by decide) ?_
          refine lv_iload_n hx hb dX9_terms_66 rfl (lv_at hl 2 rfl) ?_
          refine lv_iadd hx hb dX9_terms_67 ?_
          refine lv_iload_n hx hb dX9_terms_68 rfl (lv_at hl 3 rfl) ?_
          obtain ⟨c16, hm⟩ := hm
          refine sI hc hw 2 rfl c16 rfl dX9_terms_69 (fun H locs hw => ?_)
          obtain ⟨S17, e_S17⟩ : ∃ z : Ob, z = uA S 3 (Int32.toNatClampNeg (40 + x1)) x2 := ⟨_, rfl⟩
          have hm := hm S17 e_S17
          have hw : wV D A s.heap (mW cy a S17) H locs := by rw [e_S17]; exact hw
          refine lv_aload_n hx hb dX9_terms_70 rfl (lv_at hl 1 rfl) ?_
          refine lv_iload_n hx hb dX9_terms_71 rfl (lv_at hl 0 rfl) ?_
          refine aV_I (As := [.int v15]) (rest := []) hc hw (c_M_good hm) lk_X9_102 rfl rfl ⟨Nat.le_of_ble_eq_true rfl, Nat.le_of_ble_eq_true rfl⟩ ⟨Nat.le_of_ble_eq_true rfl, Nat.le_of_ble_eq_true rfl⟩ hl.1 rfl (Nat.le_of_ble_eq_true rfl) rfl dX9_terms_72 (fun r18 S19 H locs hm hw => ?_)
          have hw : wV D A s.heap (mW cy a S19) H locs := hw
          exact retI (u := S19) hc hw hm dX9_terms_75
        · have hm := hm.2 c21
          exact hJ4 _ hm _ _ _ hw (lv_sub hl [0] rfl)
      refine lv_if_ne (tgt := 27) hx hb dX9_terms_20 (by decide) (fun c23 => ?_) (fun c23 => ?_)
      · have hm := hm.1 c23
        refine lv_iload_n hx hb dX9_terms_27 rfl (lv_at hl 1 rfl) ?_
        refine lv_iconst (v := 1) hx hb dX9_terms_28 (by decide) ?_
        refine lv_icmp_ne (tgt := 36) hx hb dX9_terms_29 (by decide) (fun c22 => ?_) (fun c22 => ?_)
        · have hm := hm.1 c22
          refine lv_bipush (v := 9) hx hb dX9_terms_36 (by decide) ?_
          exact hJ11 _ hm _ _ _ hw (lv_sub hl [0, 1, 2] rfl)
        · have hm := hm.2 c22
          refine lv_iconst (v := 1) hx hb dX9_terms_32 (by decide) ?_
          refine lv_goto (tgt := 38) hx hb dX9_terms_33 (by decide) ?_
          exact hJ11 _ hm _ _ _ hw (lv_sub hl [0, 1, 2] rfl)
      · have hm := hm.2 c23
        refine lv_iconst (v := 4) hx hb dX9_terms_23 (by decide) ?_
        refine lv_goto (tgt := 38) hx hb dX9_terms_24 (by decide) ?_
        exact hJ11 _ hm _ _ _ hw (lv_sub hl [0, 1, 2] rfl)
    refine lv_if_ne (tgt := 18) hx hb dX9_terms_11 (by decide) (fun c24 => ?_) (fun c24 => ?_)
    · have hm := hm.1 c24
      refine lv_iconst (v := 0) hx hb dX9_terms_18 (by decide) ?_
      exact hJ9 _ hm _ _ _ hw (lv_sub hl [0, 1, 2] rfl)
    · have hm := hm.2 c24
      refine lv_iconst (v := 1) hx hb dX9_terms_14 (by decide) ?_
      refine lv_goto (tgt := 19) hx hb dX9_terms_15 (by decide) ?_
      exact hJ9 _ hm _ _ _ hw (lv_sub hl [0, 1, 2] rfl)
set_option maxHeartbeats 4000000 in
set_option maxRecDepth 100000 in
theorem c_M_pair {l : Launch} {D : va_G} {cy : Nat → ClassId} {a : Nat → Nat} {S : Ob} {x1 : Int32} {Q : Int32 → Prop} (hm : wM_pair S x1 Q) : CtI l yX9_pair cX9_pair 2 (some .int) (rmN 0) D cy [.ref (a 0), .int x1] (mW cy a S) (fun _ : Unit => mW cy a S) (fun (r : Int32) (_ : Unit) => Q r) := by
  refine CtI.ofW (by decide) (Nat.le_of_ble_eq_true rfl) ?_
  intro p e s m args below meth c A ls hc hnm hw hl
  have hx := hc.1.1
  have hb := hc.1.2.1
  have hown := hc.1.2.2.2.1
  have hts := hc.1.2.2.2.2
  have hl : lv_has ls 2 [(0, .ref (a 0)), (1, .int x1)] := hl
  obtain ⟨H, hH⟩ : ∃ z, z = s.heap := ⟨_, rfl⟩
  obtain ⟨locs, hLc⟩ : ∃ z : List Loc, z = [] := ⟨_, rfl⟩
  have hw : wV D A s.heap (mW cy a S) H locs := by rw [hH, hLc]; exact hw
  have hgo : W p l e (rmN 0) s m args below meth c H locs 0 0 (MQ below (eI D cy A (fun _ : Unit => mW cy a S) (fun (r : Int32) (_ : Unit) => Q r)) args s (rmN 0).cells (rmN 0).slots A) (F0 m 0 ls []) := ?hgo
  · rw [hH, hLc] at hgo; exact hgo
  refine lv_aload_n hx hb dX9_pair_0 rfl (lv_at hl 0 rfl) ?_
  refine gF (k := 8) hc hw inX9 rfl 0 rfl (by decide) (gm 1067 (by decide +kernel) rfl) rfl dX9_pair_1 ?_
  refine lv_iload_n hx hb dX9_pair_4 rfl (lv_at hl 1 rfl) ?_
  obtain ⟨c1, hm⟩ := hm
  refine aB hc hw 6 rfl c1 rfl dX9_pair_5 ?_
  refine lv_sipush (v := 255) hx hb dX9_pair_6 (by decide) ?_
  refine lv_iand hx hb dX9_pair_9 ?_
  refine lv_sipush (v := 256) hx hb dX9_pair_10 (by decide) ?_
  refine lv_imul hx hb dX9_pair_13 ?_
  refine lv_aload_n hx hb dX9_pair_14 rfl (lv_at hl 0 rfl) ?_
  refine gF (k := 8) hc hw inX9 rfl 0 rfl (by decide) (gm 1067 (by decide +kernel) rfl) rfl dX9_pair_15 ?_
  refine lv_iload_n hx hb dX9_pair_18 rfl (lv_at hl 1 rfl) ?_
  refine lv_iconst (v := 1) hx hb dX9_pair_19 (by decide) ?_
  refine lv_iadd hx hb dX9_pair_20 ?_
  obtain ⟨c2, hm⟩ := hm
  refine aB hc hw 6 rfl c2 rfl dX9_pair_21 ?_
  refine lv_sipush (v := 255) hx hb dX9_pair_22 (by decide) ?_
  refine lv_iand hx hb dX9_pair_25 ?_
  refine lv_iadd hx hb dX9_pair_26 ?_
  exact retI (u := ()) hc hw hm dX9_pair_27
set_option maxHeartbeats 4000000 in
set_option maxRecDepth 100000 in
theorem c_M_row {l : Launch} {D : va_G} {cy : Nat → ClassId} {a : Nat → Nat} {S : Ob} {Q : Int32 → Ob → Prop} (hm : wM_row S Q) : CtI l yX9_row cX9_row 5 (some .int) (rmN 2) D cy [.ref (a 0)] (mW cy a S) (mW cy a) Q := by
  refine CtI.ofW (by decide) (Nat.le_of_ble_eq_true rfl) ?_
  intro p e s m args below meth c A ls hc hnm hw hl
  have hx := hc.1.1
  have hb := hc.1.2.1
  have hown := hc.1.2.2.2.1
  have hts := hc.1.2.2.2.2
  have hl : lv_has ls 5 [(0, .ref (a 0))] := hl
  obtain ⟨H, hH⟩ : ∃ z, z = s.heap := ⟨_, rfl⟩
  obtain ⟨locs, hLc⟩ : ∃ z : List Loc, z = [] := ⟨_, rfl⟩
  have hw : wV D A s.heap (mW cy a S) H locs := by rw [hH, hLc]; exact hw
  have hgo : W p l e (rmN 2) s m args below meth c H locs 0 0 (MQ below (eI D cy A (mW cy a) Q) args s (rmN 2).cells (rmN 2).slots A) (F0 m 0 ls []) := ?hgo
  · rw [hH, hLc] at hgo; exact hgo
  refine lv_aload_n hx hb dX9_row_0 rfl (lv_at hl 0 rfl) ?_
  refine gF (k := 10) hc hw inX9 rfl 0 rfl (by decide) (gm 1069 (by decide +kernel) rfl) rfl dX9_row_1 ?_
  refine lv_topi (fun v1 e_v1 => ?_)
  have hm := hm v1 e_v1
  refine lv_istore_n (lv' := [(1, .int v1), (0, .ref (a 0))]) hx hb dX9_row_4 rfl hl (by decide) rfl (fun ls hl => ?_)
  refine lv_aload_n hx hb dX9_row_5 rfl (lv_at hl 1 rfl) ?_
  refine lv_iconst (v := 0) hx hb dX9_row_6 (by decide) ?_
  refine pF (k := 10) (ty := .int) hc hw inX9 tyX9_ok nmX9 rfl 0 rfl (by decide) (gm 1069 (by decide +kernel) rfl) rfl (by decide +kernel) rfl rfl (Nat.le_of_ble_eq_true rfl) dX9_row_7 (fun H locs hw => ?_)
  obtain ⟨S2, e_S2⟩ : ∃ z : Ob, z = uS S 10 0 := ⟨_, rfl⟩
  have hm := hm S2 e_S2
  have hw : wV D A s.heap (mW cy a S2) H locs := by rw [e_S2]; exact hw
  refine lv_iload_n hx hb dX9_row_10 rfl (lv_at hl 0 rfl) ?_
  refine lv_if_ne (tgt := 21) hx hb dX9_row_11 (by decide) (fun c55 => ?_) (fun c55 => ?_)
  · have hm := hm.1 c55
    refine lv_iconst (v := 0) hx hb dX9_row_21 (by decide) ?_
    refine lv_istore_n (lv' := [(2, .int 0), (1, .int v1), (0, .ref (a 0))]) hx hb dX9_row_22 rfl hl (by decide) rfl (fun ls hl => ?_)
    refine lv_aload_n hx hb dX9_row_23 rfl (lv_at hl 2 rfl) ?_
    refine lv_iload_n hx hb dX9_row_24 rfl (lv_at hl 1 rfl) ?_
    refine lv_bipush (v := 6) hx hb dX9_row_25 (by decide) ?_
    refine lv_irem hx hb dX9_row_27 (by decide) ?_
    obtain ⟨J4, eJ4, hm⟩ := jn_e hm
    have hJ4 : ∀ (t3 : Int32) (_ : J4 t3) (H : Heap) (locs : List Loc) (ls : Array Slot), wV D A s.heap (mW cy a S2) H locs → lv_has ls 5 [(0, .ref (a 0)), (1, .int v1), (2, .int 0)] → W p l e (rmN 2) s m args below meth c H locs 0 0 (MQ below (eI D cy A (mW cy a) Q) args s (rmN 2).cells (rmN 2).slots A) (F0 m 36 ls [.int t3, .ref (a 0)]) := by
      intro t3 hm H locs ls hw hl
      rw [eJ4] at hm
      refine pF (k := 6) (ty := .int) hc hw inX9 tyX9_ok nmX9 rfl 0 rfl (by decide) (gm 1065 (by decide +kernel) rfl) rfl (by decide +kernel) rfl rfl (Nat.le_of_ble_eq_true rfl) dX9_row_36 (fun H locs hw => ?_)
      obtain ⟨S5, e_S5⟩ : ∃ z : Ob, z = uS S2 6 t3 := ⟨_, rfl⟩
      have hm := hm S5 e_S5
      have hw : wV D A s.heap (mW cy a S5) H locs := by rw [e_S5]; exact hw
      refine lv_iconst (v := 0) hx hb dX9_row_39 (by decide) ?_
      refine lv_istore_n (lv' := [(3, .int 0), (0, .ref (a 0)), (1, .int v1), (2, .int 0)]) hx hb dX9_row_40 rfl hl (by decide) rfl (fun ls hl => ?_)
      refine wl3_ind (G := fun (x3_6 : Int32) (x2_7 : Int32) (S8 : Ob) => ∀ (H : Heap) (locs : List Loc) (ls : Array Slot), wV D A s.heap (mW cy a S8) H locs → lv_has ls 5 [(3, .int x3_6), (0, .ref (a 0)), (1, .int v1), (2, .int x2_7)] → W p l e (rmN 2) s m args below meth c H locs 0 0 (MQ below (eI D cy A (mW cy a) Q) args s (rmN 2).cells (rmN 2).slots A) (F0 m 41 ls [])) ?_ _ _ _ hm H locs ls hw (lv_sub hl [0, 1, 2, 3] rfl)
      intro L9 ih9 x3_6 x2_7 S8 hm H locs ls hw hl
      refine lv_iload_n hx hb dX9_row_41 rfl (lv_at hl 0 rfl) ?_
      refine lv_bipush (v := 6) hx hb dX9_row_42 (by decide) ?_
      refine lv_iadd hx hb dX9_row_44 ?_
      refine lv_iload_n hx hb dX9_row_45 rfl (lv_at hl 2 rfl) ?_
      refine lv_icmp_gt (tgt := 175) hx hb dX9_row_46 (by decide) (fun c50 => ?_) (fun c50 => ?_)
      · have hm := hm.1 c50
        refine lv_aload_n hx hb dX9_row_175 rfl (lv_at hl 1 rfl) ?_
        refine lv_iload_n hx hb dX9_row_176 rfl (lv_at hl 3 rfl) ?_
        refine aV_I (As := [.int x2_7]) (rest := []) hc hw (c_M_good hm) lk_X9_102 rfl rfl ⟨Nat.le_of_ble_eq_true rfl, Nat.le_of_ble_eq_true rfl⟩ ⟨Nat.le_of_ble_eq_true rfl, Nat.le_of_ble_eq_true rfl⟩ hl.1 rfl (Nat.le_of_ble_eq_true rfl) rfl dX9_row_177 (fun r10 S11 H locs hm hw => ?_)
        have hw : wV D A s.heap (mW cy a S11) H locs := hw
        exact retI (u := S11) hc hw hm dX9_row_180
      · have hm := hm.2 c50
        refine lv_aload_n hx hb dX9_row_49 rfl (lv_at hl 1 rfl) ?_
        refine aV_I (As := []) (rest := []) hc hw (c_M_tales hm) lk_X9_105 rfl rfl ⟨Nat.le_of_ble_eq_true rfl, Nat.le_of_ble_eq_true rfl⟩ ⟨Nat.le_of_ble_eq_true rfl, Nat.le_of_ble_eq_true rfl⟩ hl.1 rfl (Nat.le_of_ble_eq_true rfl) rfl dX9_row_50 (fun r13 _ H locs hm hw => ?_)
        have hw : wV D A s.heap (mW cy a S8) H locs := hw
        refine lv_bipush (v := 10) hx hb dX9_row_53 (by decide) ?_
        obtain ⟨J16, eJ16, hm⟩ := jn_e hm
        have hJ16 : ∀ (t15 : Int32) (_ : J16 t15) (H : Heap) (locs : List Loc) (ls : Array Slot), wV D A s.heap (mW cy a S8) H locs → lv_has ls 5 [(0, .ref (a 0)), (1, .int v1), (2, .int x2_7), (3, .int x3_6)] → W p l e (rmN 2) s m args below meth c H locs 0 0 (MQ below (eI D cy A (mW cy a) Q) args s (rmN 2).cells (rmN 2).slots A) (F0 m 97 ls [.int t15]) := by
          intro t15 hm H locs ls hw hl
          rw [eJ16] at hm
          refine lv_istore (lv' := [(4, .int t15), (0, .ref (a 0)), (1, .int v1), (2, .int x2_7), (3, .int x3_6)]) hx hb dX9_row_97 hl (by decide) rfl (fun ls hl => ?_)
          refine lv_iload hx hb dX9_row_99 (lv_at hl 0 rfl) ?_
          obtain ⟨J18, eJ18, hm⟩ := jn_e hm
          have hJ18 : ∀ (S17 : Ob) (_ : J18 S17) (H : Heap) (locs : List Loc) (ls : Array Slot), wV D A s.heap (mW cy a S17) H locs → lv_has ls 5 [(0, .ref (a 0)), (1, .int v1), (2, .int x2_7), (3, .int x3_6), (4, .int t15)] → W p l e (rmN 2) s m args below meth c H locs 0 0 (MQ below (eI D cy A (mW cy a) Q) args s (rmN 2).cells (rmN 2).slots A) (F0 m 137 ls []) := by
            intro S17 hm H locs ls hw hl
            rw [eJ18] at hm
            refine lv_iload_n hx hb dX9_row_137 rfl (lv_at hl 2 rfl) ?_
            refine lv_iload hx hb dX9_row_138 (lv_at hl 4 rfl) ?_
            obtain ⟨J20, eJ20, hm⟩ := jn_e hm
            have hJ20 : ∀ (t19 : Int32) (_ : J20 t19) (H : Heap) (locs : List Loc) (ls : Array Slot), wV D A s.heap (mW cy a S17) H locs → lv_has ls 5 [(0, .ref (a 0)), (1, .int v1), (3, .int x3_6), (4, .int t15)] → W p l e (rmN 2) s m args below meth c H locs 0 0 (MQ below (eI D cy A (mW cy a) Q) args s (rmN 2).cells (rmN 2).slots A) (F0 m 148 ls [.int t19, .int x2_7]) := by
              intro t19 hm H locs ls hw hl
              rw [eJ20] at hm
              refine lv_iadd hx hb dX9_row_148 ?_
              refine lv_topi (fun v21 e_v21 => ?_)
              have hm := hm v21 e_v21
              refine lv_istore_n (lv' := [(2, .int v21), (0, .ref (a 0)), (1, .int v1), (3, .int x3_6), (4, .int t15)]) hx hb dX9_row_149 rfl hl (by decide) rfl (fun ls hl => ?_)
              refine lv_aload_n hx hb dX9_row_150 rfl (lv_at hl 1 rfl) ?_
              refine lv_dup hx hb dX9_row_151 rfl ?_
              refine gF (k := 6) hc hw inX9 rfl 0 rfl (by decide) (gm 1065 (by decide +kernel) rfl) rfl dX9_row_152 ?_
              refine lv_iload hx hb dX9_row_155 (lv_at hl 4 rfl) ?_
              obtain ⟨J23, eJ23, hm⟩ := jn_e hm
              have hJ23 : ∀ (t22 : Int32) (_ : J23 t22) (H : Heap) (locs : List Loc) (ls : Array Slot), wV D A s.heap (mW cy a S17) H locs → lv_has ls 5 [(0, .ref (a 0)), (1, .int v1), (2, .int v21), (3, .int x3_6)] → W p l e (rmN 2) s m args below meth c H locs 0 0 (MQ below (eI D cy A (mW cy a) Q) args s (rmN 2).cells (rmN 2).slots A) (F0 m 165 ls [.int t22, .int (S17.1 6), .ref (a 0)]) := by
                intro t22 hm H locs ls hw hl
                rw [eJ23] at hm
                refine lv_iadd hx hb dX9_row_165 ?_
                refine pF (k := 6) (ty := .int) hc hw inX9 tyX9_ok nmX9 rfl 0 rfl (by decide) (gm 1065 (by decide +kernel) rfl) rfl (by decide +kernel) rfl rfl (Nat.le_of_ble_eq_true rfl) dX9_row_166 (fun H locs hw => ?_)
                obtain ⟨S24, e_S24⟩ : ∃ z : Ob, z = uS S17 6 ((S17.1 6) + t22) := ⟨_, rfl⟩
                have hm := hm S24 e_S24
                have hw : wV D A s.heap (mW cy a S24) H locs := by rw [e_S24]; exact hw
                obtain ⟨v25, e_v25⟩ : ∃ z : Int32, z = x3_6 + 6 := ⟨_, rfl⟩
                have hm := hm v25 e_v25
                refine lv_iinc (v := v25) (lv' := [(3, .int v25), (0, .ref (a 0)), (1, .int v1), (2, .int v21)]) hx hb dX9_row_169 hl (k := 3) rfl (by rw [e_v25]; rfl) (by decide) rfl (fun ls hl => ?_)
                refine lv_goto (tgt := 41) hx hb dX9_row_172 (by decide) ?_
                exact ih9 _ _ _ hm _ _ _ hw (lv_sub hl [0, 1, 2, 3] rfl)
              refine lv_if_eq (tgt := 164) hx hb dX9_row_157 (by decide) (fun c26 => ?_) (fun c26 => ?_)
              · have hm := hm.1 c26
                refine lv_iconst (v := 1) hx hb dX9_row_164 (by decide) ?_
                exact hJ23 _ hm _ _ _ hw (lv_sub hl [1, 2, 0, 3] rfl)
              · have hm := hm.2 c26
                refine lv_iconst (v := 0) hx hb dX9_row_160 (by decide) ?_
                refine lv_goto (tgt := 165) hx hb dX9_row_161 (by decide) ?_
                exact hJ23 _ hm _ _ _ hw (lv_sub hl [1, 2, 0, 3] rfl)
            refine lv_if_eq (tgt := 147) hx hb dX9_row_140 (by decide) (fun c27 => ?_) (fun c27 => ?_)
            · have hm := hm.1 c27
              refine lv_iconst (v := 0) hx hb dX9_row_147 (by decide) ?_
              exact hJ20 _ hm _ _ _ hw (lv_sub hl [0, 1, 3, 4] rfl)
            · have hm := hm.2 c27
              refine lv_iconst (v := 1) hx hb dX9_row_143 (by decide) ?_
              refine lv_goto (tgt := 148) hx hb dX9_row_144 (by decide) ?_
              exact hJ20 _ hm _ _ _ hw (lv_sub hl [0, 1, 3, 4] rfl)
          refine lv_if_eq (tgt := 137) hx hb dX9_row_101 (by decide) (fun c37 => ?_) (fun c37 => ?_)
          · have hm := hm.1 c37
            exact hJ18 _ hm _ _ _ hw (lv_sub hl [1, 2, 3, 4, 0] rfl)
          · have hm := hm.2 c37
            refine lv_aload_n hx hb dX9_row_104 rfl (lv_at hl 1 rfl) ?_
            refine lv_aload_n hx hb dX9_row_105 rfl (lv_at hl 1 rfl) ?_
            refine lv_iload_n hx hb dX9_row_106 rfl (lv_at hl 4 rfl) ?_
            refine aV_I (As := [.int x3_6]) (rest := [.ref (a 0)]) hc hw (c_M_pair hm) lk_X9_131 rfl rfl ⟨Nat.le_of_ble_eq_true rfl, Nat.le_of_ble_eq_true rfl⟩ ⟨Nat.le_of_ble_eq_true rfl, Nat.le_of_ble_eq_true rfl⟩ hl.1 rfl (Nat.le_of_ble_eq_true rfl) rfl dX9_row_107 (fun r28 _ H locs hm hw => ?_)
            have hw : wV D A s.heap (mW cy a S8) H locs := hw
            refine lv_aload_n hx hb dX9_row_110 rfl (lv_at hl 1 rfl) ?_
            refine lv_iload_n hx hb dX9_row_111 rfl (lv_at hl 4 rfl) ?_
            refine lv_iconst (v := 2) hx hb dX9_row_112 (by decide) ?_
            refine lv_iadd hx hb dX9_row_113 ?_
            refine aV_I (As := [.int (x3_6 + 2)]) (rest := [.int r28, .ref (a 0)]) hc hw (c_M_pair hm) lk_X9_131 rfl rfl ⟨Nat.le_of_ble_eq_true rfl, Nat.le_of_ble_eq_true rfl⟩ ⟨Nat.le_of_ble_eq_true rfl, Nat.le_of_ble_eq_true rfl⟩ hl.1 rfl (Nat.le_of_ble_eq_true rfl) rfl dX9_row_114 (fun r30 _ H locs hm hw => ?_)
            have hw : wV D A s.heap (mW cy a S8) H locs := hw
            refine lv_aload_n hx hb dX9_row_117 rfl (lv_at hl 1 rfl) ?_
            refine gF (k := 8) hc hw inX9 rfl 0 rfl (by decide) (gm 1067 (by decide +kernel) rfl) rfl dX9_row_118 ?_
            refine lv_iload_n hx hb dX9_row_121 rfl (lv_at hl 4 rfl) ?_
            refine lv_iconst (v := 4) hx hb dX9_row_122 (by decide) ?_
            refine lv_iadd hx hb dX9_row_123 ?_
            obtain ⟨c32, hm⟩ := hm
            refine aB hc hw 6 rfl c32 rfl dX9_row_124 ?_
            refine lv_aload_n hx hb dX9_row_125 rfl (lv_at hl 1 rfl) ?_
            refine gF (k := 8) hc hw inX9 rfl 0 rfl (by decide) (gm 1067 (by decide +kernel) rfl) rfl dX9_row_126 ?_
            refine lv_iload_n hx hb dX9_row_129 rfl (lv_at hl 4 rfl) ?_
            refine lv_iconst (v := 5) hx hb dX9_row_130 (by decide) ?_
            refine lv_iadd hx hb dX9_row_131 ?_
            obtain ⟨c33, hm⟩ := hm
            refine aB hc hw 6 rfl c33 rfl dX9_row_132 ?_
            refine aV_I (As := [.int r28, .int r30, .int (S8.2 8 (Int32.toNatClampNeg (x3_6 + 4))), .int (S8.2 8 (Int32.toNatClampNeg (x3_6 + 5)))]) (rest := []) hc hw (c_M_adds hm) lk_X9_113 rfl rfl ⟨Nat.le_of_ble_eq_true rfl, Nat.le_of_ble_eq_true rfl⟩ ⟨Nat.le_of_ble_eq_true rfl, Nat.le_of_ble_eq_true rfl⟩ hl.1 rfl (Nat.le_of_ble_eq_true rfl) rfl dX9_row_133 (fun r34 S35 H locs hm hw => ?_)
            have hw : wV D A s.heap (mW cy a S35) H locs := hw
            refine lv_pop hx hb dX9_row_136 rfl ?_
            exact hJ18 _ hm _ _ _ hw (lv_sub hl [1, 2, 3, 4, 0] rfl)
        obtain ⟨J39, eJ39, hm⟩ := jn_e hm
        have hJ39 : ∀ (z38 : Unit) (_ : J39 z38) (H : Heap) (locs : List Loc) (ls : Array Slot), wV D A s.heap (mW cy a S8) H locs → lv_has ls 5 [(0, .ref (a 0)), (1, .int v1), (2, .int x2_7), (3, .int x3_6)] → W p l e (rmN 2) s m args below meth c H locs 0 0 (MQ below (eI D cy A (mW cy a) Q) args s (rmN 2).cells (rmN 2).slots A) (F0 m 96 ls []) := by
          intro z38 hm H locs ls hw hl
          rw [eJ39] at hm
          refine lv_iconst (v := 0) hx hb dX9_row_96 (by decide) ?_
          exact hJ16 _ hm _ _ _ hw (lv_sub hl [0, 1, 2, 3] rfl)
        refine lv_icmp_ge (tgt := 96) hx hb dX9_row_55 (by decide) (fun c49 => ?_) (fun c49 => ?_)
        · have hm := hm.1 c49
          exact hJ39 _ hm _ _ _ hw (lv_sub hl [1, 2, 3, 0] rfl)
        · have hm := hm.2 c49
          refine lv_aload_n hx hb dX9_row_58 rfl (lv_at hl 1 rfl) ?_
          refine lv_iload_n hx hb dX9_row_59 rfl (lv_at hl 0 rfl) ?_
          refine aV_I (As := [.int x3_6]) (rest := []) hc hw (c_M_pair hm) lk_X9_131 rfl rfl ⟨Nat.le_of_ble_eq_true rfl, Nat.le_of_ble_eq_true rfl⟩ ⟨Nat.le_of_ble_eq_true rfl, Nat.le_of_ble_eq_true rfl⟩ hl.1 rfl (Nat.le_of_ble_eq_true rfl) rfl dX9_row_60 (fun r40 _ H locs hm hw => ?_)
          have hw : wV D A s.heap (mW cy a S8) H locs := hw
          refine lv_aload_n hx hb dX9_row_63 rfl (lv_at hl 1 rfl) ?_
          refine lv_iload_n hx hb dX9_row_64 rfl (lv_at hl 0 rfl) ?_
          refine lv_iconst (v := 2) hx hb dX9_row_65 (by decide) ?_
          refine lv_iadd hx hb dX9_row_66 ?_
          refine aV_I (As := [.int (x3_6 + 2)]) (rest := [.int r40]) hc hw (c_M_pair hm) lk_X9_131 rfl rfl ⟨Nat.le_of_ble_eq_true rfl, Nat.le_of_ble_eq_true rfl⟩ ⟨Nat.le_of_ble_eq_true rfl, Nat.le_of_ble_eq_true rfl⟩ hl.1 rfl (Nat.le_of_ble_eq_true rfl) rfl dX9_row_67 (fun r42 _ H locs hm hw => ?_)
          have hw : wV D A s.heap (mW cy a S8) H locs := hw
          refine lv_aload_n hx hb dX9_row_70 rfl (lv_at hl 1 rfl) ?_
          refine gF (k := 8) hc hw inX9 rfl 0 rfl (by decide) (gm 1067 (by decide +kernel) rfl) rfl dX9_row_71 ?_
          refine lv_iload_n hx hb dX9_row_74 rfl (lv_at hl 0 rfl) ?_
          refine lv_iconst (v := 4) hx hb dX9_row_75 (by decide) ?_
          refine lv_iadd hx hb dX9_row_76 ?_
          obtain ⟨c44, hm⟩ := hm
          refine aB hc hw 6 rfl c44 rfl dX9_row_77 ?_
          refine lv_aload_n hx hb dX9_row_78 rfl (lv_at hl 1 rfl) ?_
          refine gF (k := 8) hc hw inX9 rfl 0 rfl (by decide) (gm 1067 (by decide +kernel) rfl) rfl dX9_row_79 ?_
          refine lv_iload_n hx hb dX9_row_82 rfl (lv_at hl 0 rfl) ?_
          refine lv_iconst (v := 5) hx hb dX9_row_83 (by decide) ?_
          refine lv_iadd hx hb dX9_row_84 ?_
          obtain ⟨c45, hm⟩ := hm
          refine aB hc hw 6 rfl c45 rfl dX9_row_85 ?_
          refine zS_I (As := [.int r40, .int r42, .int (S8.2 8 (Int32.toNatClampNeg (x3_6 + 4))), .int (S8.2 8 (Int32.toNatClampNeg (x3_6 + 5)))]) (rest := []) hc hw (c_M_canBe hm) lk_X9_109 ⟨Nat.le_of_ble_eq_true rfl, Nat.le_of_ble_eq_true rfl⟩ ⟨Nat.le_of_ble_eq_true rfl, Nat.le_of_ble_eq_true rfl⟩ hl.1 rfl (Nat.le_of_ble_eq_true rfl) rfl dX9_row_86 (fun r46 H locs hm hw => ?_)
          refine lv_if_eq (tgt := 96) hx hb dX9_row_89 (by decide) (fun c48 => ?_) (fun c48 => ?_)
          · have hm := hm.1 c48
            exact hJ39 _ hm _ _ _ hw (lv_sub hl [1, 2, 3, 0] rfl)
          · have hm := hm.2 c48
            refine lv_iconst (v := 1) hx hb dX9_row_92 (by decide) ?_
            refine lv_goto (tgt := 97) hx hb dX9_row_93 (by decide) ?_
            exact hJ16 _ hm _ _ _ hw (lv_sub hl [1, 2, 3, 0] rfl)
    refine lv_if_ne (tgt := 35) hx hb dX9_row_28 (by decide) (fun c51 => ?_) (fun c51 => ?_)
    · have hm := hm.1 c51
      refine lv_iconst (v := 1) hx hb dX9_row_35 (by decide) ?_
      exact hJ4 _ hm _ _ _ hw (lv_sub hl [2, 1, 0] rfl)
    · have hm := hm.2 c51
      refine lv_iconst (v := 0) hx hb dX9_row_31 (by decide) ?_
      refine lv_goto (tgt := 36) hx hb dX9_row_32 (by decide) ?_
      exact hJ4 _ hm _ _ _ hw (lv_sub hl [2, 1, 0] rfl)
  · have hm := hm.2 c55
    refine lv_aload_n hx hb dX9_row_14 rfl (lv_at hl 1 rfl) ?_
    refine lv_bipush (v := (-6)) hx hb dX9_row_15 (by decide) ?_
    refine aV_I (As := [.int (-6)]) (rest := []) hc hw (c_M_refuses hm) lk_X9_98 rfl rfl ⟨Nat.le_of_ble_eq_true rfl, Nat.le_of_ble_eq_true rfl⟩ ⟨Nat.le_of_ble_eq_true rfl, Nat.le_of_ble_eq_true rfl⟩ hl.1 rfl (Nat.le_of_ble_eq_true rfl) rfl dX9_row_17 (fun r52 S53 H locs hm hw => ?_)
    have hw : wV D A s.heap (mW cy a S53) H locs := hw
    exact retI (u := S53) hc hw hm dX9_row_20
set_option maxHeartbeats 4000000 in
set_option maxRecDepth 100000 in
theorem c_M_mumbled {l : Launch} {D : va_G} {cy : Nat → ClassId} {a : Nat → Nat} {S : Ob} {Q : Int32 → Prop} (hm : wM_mumbled S Q) : CtI l yX9_mumbled cX9_mumbled 1 (some .int) (rmN 0) D cy [.ref (a 0)] (mW cy a S) (fun _ : Unit => mW cy a S) (fun (r : Int32) (_ : Unit) => Q r) := by
  refine CtI.ofW (by decide) (Nat.le_of_ble_eq_true rfl) ?_
  intro p e s m args below meth c A ls hc hnm hw hl
  have hx := hc.1.1
  have hb := hc.1.2.1
  have hown := hc.1.2.2.2.1
  have hts := hc.1.2.2.2.2
  have hl : lv_has ls 1 [(0, .ref (a 0))] := hl
  obtain ⟨H, hH⟩ : ∃ z, z = s.heap := ⟨_, rfl⟩
  obtain ⟨locs, hLc⟩ : ∃ z : List Loc, z = [] := ⟨_, rfl⟩
  have hw : wV D A s.heap (mW cy a S) H locs := by rw [hH, hLc]; exact hw
  have hgo : W p l e (rmN 0) s m args below meth c H locs 0 0 (MQ below (eI D cy A (fun _ : Unit => mW cy a S) (fun (r : Int32) (_ : Unit) => Q r)) args s (rmN 0).cells (rmN 0).slots A) (F0 m 0 ls []) := ?hgo
  · rw [hH, hLc] at hgo; exact hgo
  refine lv_aload_n hx hb dX9_mumbled_0 rfl (lv_at hl 0 rfl) ?_
  refine gF (k := 6) hc hw inX9 rfl 0 rfl (by decide) (gm 1065 (by decide +kernel) rfl) rfl dX9_mumbled_1 ?_
  exact retI (u := ()) hc hw hm dX9_mumbled_4
set_option maxHeartbeats 4000000 in
set_option maxRecDepth 100000 in
theorem c_M_feed {l : Launch} {D : va_G} {cy : Nat → ClassId} {a : Nat → Nat} {S : Ob} {x1 : Int32} {x2 : Int32} {x3 : Int32} {x4 : Int32} {x5 : Int32} {Q : Int32 → Ob → Prop} (hm : wM_feed S x1 x2 x3 x4 x5 Q) : CtI l yX9_feed cX9_feed 7 (some .int) (rmN 0) D cy [.ref (a 0), .int x1, .int x2, .int x3, .int x4, .int x5] (mW cy a S) (mW cy a) Q := by
  refine CtI.ofW (by decide) (Nat.le_of_ble_eq_true rfl) ?_
  intro p e s m args below meth c A ls hc hnm hw hl
  have hx := hc.1.1
  have hb := hc.1.2.1
  have hown := hc.1.2.2.2.1
  have hts := hc.1.2.2.2.2
  have hl : lv_has ls 7 [(0, .ref (a 0)), (1, .int x1), (2, .int x2), (3, .int x3), (4, .int x4), (5, .int x5)] := hl
  obtain ⟨H, hH⟩ : ∃ z, z = s.heap := ⟨_, rfl⟩
  obtain ⟨locs, hLc⟩ : ∃ z : List Loc, z = [] := ⟨_, rfl⟩
  have hw : wV D A s.heap (mW cy a S) H locs := by rw [hH, hLc]; exact hw
  have hgo : W p l e (rmN 0) s m args below meth c H locs 0 0 (MQ below (eI D cy A (mW cy a) Q) args s (rmN 0).cells (rmN 0).slots A) (F0 m 0 ls []) := ?hgo
  · rw [hH, hLc] at hgo; exact hgo
  refine lv_aload_n hx hb dX9_feed_0 rfl (lv_at hl 0 rfl) ?_
  refine gF (k := 10) hc hw inX9 rfl 0 rfl (by decide) (gm 1069 (by decide +kernel) rfl) rfl dX9_feed_1 ?_
  refine lv_bipush (v := 20) hx hb dX9_feed_4 (by decide) ?_
  refine lv_iadd hx hb dX9_feed_6 ?_
  refine lv_sipush (v := 400) hx hb dX9_feed_7 (by decide) ?_
  refine lv_icmp_le (tgt := 15) hx hb dX9_feed_10 (by decide) (fun c15 => ?_) (fun c15 => ?_)
  · have hm := hm.1 c15
    refine lv_aload_n hx hb dX9_feed_15 rfl (lv_at hl 0 rfl) ?_
    refine gF (k := 9) hc hw inX9 rfl 0 rfl (by decide) (gm 1068 (by decide +kernel) rfl) rfl dX9_feed_16 ?_
    refine lv_iconst (v := 0) hx hb dX9_feed_19 (by decide) ?_
    refine lv_iload_n hx hb dX9_feed_20 rfl (lv_at hl 1 rfl) ?_
    refine sI hc hw 7 rfl (vin (by decide)) (j := 0) (by decide) dX9_feed_21 (fun H locs hw => ?_)
    obtain ⟨S1, e_S1⟩ : ∃ z : Ob, z = uA S 9 0 x1 := ⟨_, rfl⟩
    have hm := hm S1 e_S1
    have hw : wV D A s.heap (mW cy a S1) H locs := by rw [e_S1]; exact hw
    refine lv_aload_n hx hb dX9_feed_22 rfl (lv_at hl 0 rfl) ?_
    refine gF (k := 9) hc hw inX9 rfl 0 rfl (by decide) (gm 1068 (by decide +kernel) rfl) rfl dX9_feed_23 ?_
    refine lv_iconst (v := 1) hx hb dX9_feed_26 (by decide) ?_
    refine lv_iload_n hx hb dX9_feed_27 rfl (lv_at hl 2 rfl) ?_
    refine sI hc hw 7 rfl (vin (by decide)) (j := 1) (by decide) dX9_feed_28 (fun H locs hw => ?_)
    obtain ⟨S2, e_S2⟩ : ∃ z : Ob, z = uA S1 9 1 x2 := ⟨_, rfl⟩
    have hm := hm S2 e_S2
    have hw : wV D A s.heap (mW cy a S2) H locs := by rw [e_S2]; exact hw
    refine lv_aload_n hx hb dX9_feed_29 rfl (lv_at hl 0 rfl) ?_
    refine gF (k := 9) hc hw inX9 rfl 0 rfl (by decide) (gm 1068 (by decide +kernel) rfl) rfl dX9_feed_30 ?_
    refine lv_iconst (v := 2) hx hb dX9_feed_33 (by decide) ?_
    refine lv_iload_n hx hb dX9_feed_34 rfl (lv_at hl 3 rfl) ?_
    refine sI hc hw 7 rfl (vin (by decide)) (j := 2) (by decide) dX9_feed_35 (fun H locs hw => ?_)
    obtain ⟨S3, e_S3⟩ : ∃ z : Ob, z = uA S2 9 2 x3 := ⟨_, rfl⟩
    have hm := hm S3 e_S3
    have hw : wV D A s.heap (mW cy a S3) H locs := by rw [e_S3]; exact hw
    refine lv_aload_n hx hb dX9_feed_36 rfl (lv_at hl 0 rfl) ?_
    refine gF (k := 9) hc hw inX9 rfl 0 rfl (by decide) (gm 1068 (by decide +kernel) rfl) rfl dX9_feed_37 ?_
    refine lv_iconst (v := 3) hx hb dX9_feed_40 (by decide) ?_
    refine lv_iload hx hb dX9_feed_41 (lv_at hl 4 rfl) ?_
    refine sI hc hw 7 rfl (vin (by decide)) (j := 3) (by decide) dX9_feed_43 (fun H locs hw => ?_)
    obtain ⟨S4, e_S4⟩ : ∃ z : Ob, z = uA S3 9 3 x4 := ⟨_, rfl⟩
    have hm := hm S4 e_S4
    have hw : wV D A s.heap (mW cy a S4) H locs := by rw [e_S4]; exact hw
    refine lv_aload_n hx hb dX9_feed_44 rfl (lv_at hl 0 rfl) ?_
    refine gF (k := 9) hc hw inX9 rfl 0 rfl (by decide) (gm 1068 (by decide +kernel) rfl) rfl dX9_feed_45 ?_
    refine lv_iconst (v := 4) hx hb dX9_feed_48 (by decide) ?_
    refine lv_iload hx hb dX9_feed_49 (lv_at hl 5 rfl) ?_
    refine sI hc hw 7 rfl (vin (by decide)) (j := 4) (by decide) dX9_feed_51 (fun H locs hw => ?_)
    obtain ⟨S5, e_S5⟩ : ∃ z : Ob, z = uA S4 9 4 x5 := ⟨_, rfl⟩
    have hm := hm S5 e_S5
    have hw : wV D A s.heap (mW cy a S5) H locs := by rw [e_S5]; exact hw
    refine lv_iconst (v := 0) hx hb dX9_feed_52 (by decide) ?_
    refine lv_istore (lv' := [(6, .int 0), (0, .ref (a 0)), (1, .int x1), (2, .int x2), (3, .int x3), (4, .int x4), (5, .int x5)]) hx hb dX9_feed_53 hl (by decide) rfl (fun ls hl => ?_)
    refine wl2_ind (G := fun (x6_6 : Int32) (S7 : Ob) => ∀ (H : Heap) (locs : List Loc) (ls : Array Slot), wV D A s.heap (mW cy a S7) H locs → lv_has ls 7 [(6, .int x6_6), (0, .ref (a 0))] → W p l e (rmN 0) s m args below meth c H locs 0 0 (MQ below (eI D cy A (mW cy a) Q) args s (rmN 0).cells (rmN 0).slots A) (F0 m 55 ls [])) ?_ _ _ hm H locs ls hw (lv_sub hl [0, 1] rfl)
    intro L8 ih8 x6_6 S7 hm H locs ls hw hl
    refine lv_iload hx hb dX9_feed_55 (lv_at hl 0 rfl) ?_
    refine lv_bipush (v := 20) hx hb dX9_feed_57 (by decide) ?_
    refine lv_icmp_ge (tgt := 101) hx hb dX9_feed_59 (by decide) (fun c14 => ?_) (fun c14 => ?_)
    · have hm := hm.1 c14
      refine lv_aload_n hx hb dX9_feed_101 rfl (lv_at hl 1 rfl) ?_
      refine lv_dup hx hb dX9_feed_102 rfl ?_
      refine gF (k := 10) hc hw inX9 rfl 0 rfl (by decide) (gm 1069 (by decide +kernel) rfl) rfl dX9_feed_103 ?_
      refine lv_bipush (v := 20) hx hb dX9_feed_106 (by decide) ?_
      refine lv_iadd hx hb dX9_feed_108 ?_
      refine pF (k := 10) (ty := .int) hc hw inX9 tyX9_ok nmX9 rfl 0 rfl (by decide) (gm 1069 (by decide +kernel) rfl) rfl (by decide +kernel) rfl rfl (Nat.le_of_ble_eq_true rfl) dX9_feed_109 (fun H locs hw => ?_)
      obtain ⟨S9, e_S9⟩ : ∃ z : Ob, z = uS S7 10 ((S7.1 10) + 20) := ⟨_, rfl⟩
      have hm := hm S9 e_S9
      have hw : wV D A s.heap (mW cy a S9) H locs := by rw [e_S9]; exact hw
      refine lv_aload_n hx hb dX9_feed_112 rfl (lv_at hl 1 rfl) ?_
      refine gF (k := 10) hc hw inX9 rfl 0 rfl (by decide) (gm 1069 (by decide +kernel) rfl) rfl dX9_feed_113 ?_
      exact retI (u := S9) hc hw hm dX9_feed_116
    · have hm := hm.2 c14
      refine lv_aload_n hx hb dX9_feed_62 rfl (lv_at hl 1 rfl) ?_
      refine gF (k := 8) hc hw inX9 rfl 0 rfl (by decide) (gm 1067 (by decide +kernel) rfl) rfl dX9_feed_63 ?_
      refine lv_aload_n hx hb dX9_feed_66 rfl (lv_at hl 1 rfl) ?_
      refine gF (k := 10) hc hw inX9 rfl 0 rfl (by decide) (gm 1069 (by decide +kernel) rfl) rfl dX9_feed_67 ?_
      refine lv_iload hx hb dX9_feed_70 (lv_at hl 0 rfl) ?_
      refine lv_iadd hx hb dX9_feed_72 ?_
      refine lv_aload_n hx hb dX9_feed_73 rfl (lv_at hl 1 rfl) ?_
      refine gF (k := 9) hc hw inX9 rfl 0 rfl (by decide) (gm 1068 (by decide +kernel) rfl) rfl dX9_feed_74 ?_
      refine lv_iload hx hb dX9_feed_77 (lv_at hl 0 rfl) ?_
      refine lv_iconst (v := 4) hx hb dX9_feed_79 (by decide) ?_
      refine lv_idiv hx hb dX9_feed_80 (by decide) ?_
      obtain ⟨c10, hm⟩ := hm
      refine aI hc hw 7 rfl c10 rfl dX9_feed_81 ?_
      refine lv_bipush (v := 24) hx hb dX9_feed_82 (by decide) ?_
      refine lv_bipush (v := 8) hx hb dX9_feed_84 (by decide) ?_
      refine lv_iload hx hb dX9_feed_86 (lv_at hl 0 rfl) ?_
      refine lv_iconst (v := 4) hx hb dX9_feed_88 (by decide) ?_
      refine lv_irem hx hb dX9_feed_89 (by decide) ?_
      refine lv_imul hx hb dX9_feed_90 ?_
      refine lv_isub hx hb dX9_feed_91 ?_
      refine lv_ishr hx hb dX9_feed_92 ?_
      refine lv_i2b hx hb dX9_feed_93 rfl ?_
      obtain ⟨c11, hm⟩ := hm
      refine sB hc hw 6 rfl c11 rfl dX9_feed_94 (fun H locs hw => ?_)
      obtain ⟨S12, e_S12⟩ : ∃ z : Ob, z = uA S7 8 (Int32.toNatClampNeg ((S7.1 10) + x6_6)) (vp_nar .byte (((S7.2 9 (Int32.toNatClampNeg (x6_6 / 4))) >>> ((24 - (8 * (x6_6 - x6_6 / 4 * 4))) &&& 31)).toInt8.toInt32)) := ⟨_, rfl⟩
      have hm := hm S12 e_S12
      have hw : wV D A s.heap (mW cy a S12) H locs := by rw [e_S12]; exact hw
      obtain ⟨v13, e_v13⟩ : ∃ z : Int32, z = x6_6 + 1 := ⟨_, rfl⟩
      have hm := hm v13 e_v13
      refine lv_iinc (v := v13) (lv' := [(6, .int v13), (0, .ref (a 0))]) hx hb dX9_feed_95 hl (k := 0) rfl (by rw [e_v13]; rfl) (by decide) rfl (fun ls hl => ?_)
      refine lv_goto (tgt := 55) hx hb dX9_feed_98 (by decide) ?_
      exact ih8 _ _ hm _ _ _ hw (lv_sub hl [0, 1] rfl)
  · have hm := hm.2 c15
    refine lv_iconst (v := (-1)) hx hb dX9_feed_13 (by decide) ?_
    exact retI (u := S) hc hw hm dX9_feed_14
