set_option maxHeartbeats 4000000 in
set_option maxRecDepth 100000 in
theorem c_X8_mumbled {l : Launch} {D : va_G} {cy : Nat → ClassId} {aO : Nat → Nat} {e_O_table : Nat} {e_O_images : Nat} {e_O_tape : Nat} {e_O_reader : Nat} {e_O_plan : Nat} {e_O_trial : Option Nat} {e_O_season : Option Nat} {e_O_dates : Nat} {e_O_line : Nat} {e_O_evening : Nat} {e_O_choices : Nat} {SO : Ob} {Q : Int32 → Prop} (hm : w_X8_mumbled SO Q) : CtI l yX8_mumbled cX8_mumbled 1 (some .int) (rmN 0) D cy [.ref (aO 0)] (oW cy aO e_O_table e_O_images e_O_tape e_O_reader e_O_plan e_O_trial e_O_season e_O_dates e_O_line e_O_evening e_O_choices SO) (fun _ : Unit => (oW cy aO e_O_table e_O_images e_O_tape e_O_reader e_O_plan e_O_trial e_O_season e_O_dates e_O_line e_O_evening e_O_choices SO)) (fun (r : Int32) (_ : Unit) => Q r) := by
  refine CtI.ofW (by decide) (Nat.le_of_ble_eq_true rfl) ?_
  intro p e s m args below meth c A ls hc hnm hw hl
  have hx := hc.1.1
  have hb := hc.1.2.1
  have hown := hc.1.2.2.2.1
  have hts := hc.1.2.2.2.2
  have hl : lv_has ls 1 [(0, .ref (aO 0))] := hl
  obtain ⟨H, hH⟩ : ∃ z, z = s.heap := ⟨_, rfl⟩
  obtain ⟨locs, hLc⟩ : ∃ z : List Loc, z = [] := ⟨_, rfl⟩
  have hw : wV D A s.heap (oW cy aO e_O_table e_O_images e_O_tape e_O_reader e_O_plan e_O_trial e_O_season e_O_dates e_O_line e_O_evening e_O_choices SO) H locs := by rw [hH, hLc]; exact hw
  have hgo : W p l e (rmN 0) s m args below meth c H locs 0 0 (MQ below (eI D cy A (fun _ : Unit => (oW cy aO e_O_table e_O_images e_O_tape e_O_reader e_O_plan e_O_trial e_O_season e_O_dates e_O_line e_O_evening e_O_choices SO)) (fun (r : Int32) (_ : Unit) => Q r)) args s (rmN 0).cells (rmN 0).slots A) (F0 m 0 ls []) := ?hgo
  · rw [hH, hLc] at hgo; exact hgo
  refine lv_aload_n hx hb dX8_mumbled_0 rfl (lv_at hl 0 rfl) ?_
  refine gF (k := 7) hc hw inX8 rfl 0 rfl (by decide) (gm 422 (by decide +kernel) rfl) rfl dX8_mumbled_1 ?_
  exact retI (u := ()) hc hw hm dX8_mumbled_4
set_option maxHeartbeats 4000000 in
set_option maxRecDepth 100000 in
theorem c_X8_fault {l : Launch} {D : va_G} {cy : Nat → ClassId} {aO : Nat → Nat} {e_O_table : Nat} {e_O_images : Nat} {e_O_tape : Nat} {e_O_reader : Nat} {e_O_plan : Nat} {e_O_trial : Option Nat} {e_O_season : Option Nat} {e_O_dates : Nat} {e_O_line : Nat} {e_O_evening : Nat} {e_O_choices : Nat} {SO : Ob} {Q : Int32 → Prop} (hm : w_X8_fault SO Q) : CtI l yX8_fault cX8_fault 1 (some .int) (rmN 0) D cy [.ref (aO 0)] (oW cy aO e_O_table e_O_images e_O_tape e_O_reader e_O_plan e_O_trial e_O_season e_O_dates e_O_line e_O_evening e_O_choices SO) (fun _ : Unit => (oW cy aO e_O_table e_O_images e_O_tape e_O_reader e_O_plan e_O_trial e_O_season e_O_dates e_O_line e_O_evening e_O_choices SO)) (fun (r : Int32) (_ : Unit) => Q r) := by
  refine CtI.ofW (by decide) (Nat.le_of_ble_eq_true rfl) ?_
  intro p e s m args below meth c A ls hc hnm hw hl
  have hx := hc.1.1
  have hb := hc.1.2.1
  have hown := hc.1.2.2.2.1
  have hts := hc.1.2.2.2.2
  have hl : lv_has ls 1 [(0, .ref (aO 0))] := hl
  obtain ⟨H, hH⟩ : ∃ z, z = s.heap := ⟨_, rfl⟩
  obtain ⟨locs, hLc⟩ : ∃ z : List Loc, z = [] := ⟨_, rfl⟩
  have hw : wV D A s.heap (oW cy aO e_O_table e_O_images e_O_tape e_O_reader e_O_plan e_O_trial e_O_season e_O_dates e_O_line e_O_evening e_O_choices SO) H locs := by rw [hH, hLc]; exact hw
  have hgo : W p l e (rmN 0) s m args below meth c H locs 0 0 (MQ below (eI D cy A (fun _ : Unit => (oW cy aO e_O_table e_O_images e_O_tape e_O_reader e_O_plan e_O_trial e_O_season e_O_dates e_O_line e_O_evening e_O_choices SO)) (fun (r : Int32) (_ : Unit) => Q r)) args s (rmN 0).cells (rmN 0).slots A) (F0 m 0 ls []) := ?hgo
  · rw [hH, hLc] at hgo; exact hgo
  refine lv_aload_n hx hb dX8_fault_0 rfl (lv_at hl 0 rfl) ?_
  refine gF (k := 6) hc hw inX8 rfl 0 rfl (by decide) (gm 421 (by decide +kernel) rfl) rfl dX8_fault_1 ?_
  exact retI (u := ()) hc hw hm dX8_fault_4
set_option maxHeartbeats 4000000 in
set_option maxRecDepth 100000 in
theorem c_X8_status {l : Launch} {D : va_G} {cy : Nat → ClassId} {aO : Nat → Nat} {e_O_table : Nat} {e_O_images : Nat} {e_O_tape : Nat} {e_O_reader : Nat} {e_O_plan : Nat} {e_O_trial : Option Nat} {e_O_season : Option Nat} {e_O_dates : Nat} {e_O_line : Nat} {e_O_evening : Nat} {e_O_choices : Nat} {SO : Ob} {Q : Int32 → Prop} (hm : w_X8_status SO Q) : CtI l yX8_status cX8_status 1 (some .int) (rmN 0) D cy [.ref (aO 0)] (oW cy aO e_O_table e_O_images e_O_tape e_O_reader e_O_plan e_O_trial e_O_season e_O_dates e_O_line e_O_evening e_O_choices SO) (fun _ : Unit => (oW cy aO e_O_table e_O_images e_O_tape e_O_reader e_O_plan e_O_trial e_O_season e_O_dates e_O_line e_O_evening e_O_choices SO)) (fun (r : Int32) (_ : Unit) => Q r) := by
  refine CtI.ofW (by decide) (Nat.le_of_ble_eq_true rfl) ?_
  intro p e s m args below meth c A ls hc hnm hw hl
  have hx := hc.1.1
  have hb := hc.1.2.1
  have hown := hc.1.2.2.2.1
  have hts := hc.1.2.2.2.2
  have hl : lv_has ls 1 [(0, .ref (aO 0))] := hl
  obtain ⟨H, hH⟩ : ∃ z, z = s.heap := ⟨_, rfl⟩
  obtain ⟨locs, hLc⟩ : ∃ z : List Loc, z = [] := ⟨_, rfl⟩
  have hw : wV D A s.heap (oW cy aO e_O_table e_O_images e_O_tape e_O_reader e_O_plan e_O_trial e_O_season e_O_dates e_O_line e_O_evening e_O_choices SO) H locs := by rw [hH, hLc]; exact hw
  have hgo : W p l e (rmN 0) s m args below meth c H locs 0 0 (MQ below (eI D cy A (fun _ : Unit => (oW cy aO e_O_table e_O_images e_O_tape e_O_reader e_O_plan e_O_trial e_O_season e_O_dates e_O_line e_O_evening e_O_choices SO)) (fun (r : Int32) (_ : Unit) => Q r)) args s (rmN 0).cells (rmN 0).slots A) (F0 m 0 ls []) := ?hgo
  · rw [hH, hLc] at hgo; exact hgo
  refine lv_aload_n hx hb dX8_status_0 rfl (lv_at hl 0 rfl) ?_
  refine gF (k := 16) hc hw inX8 rfl 0 rfl (by decide) (gm 431 (by decide +kernel) rfl) rfl dX8_status_1 ?_
  exact retI (u := ()) hc hw hm dX8_status_4
set_option maxHeartbeats 4000000 in
set_option maxRecDepth 100000 in
theorem c_X8_end {l : Launch} {D : va_G} {cy : Nat → ClassId} {aO : Nat → Nat} {e_O_table : Nat} {e_O_images : Nat} {e_O_tape : Nat} {e_O_reader : Nat} {e_O_plan : Nat} {e_O_trial : Option Nat} {e_O_season : Option Nat} {e_O_dates : Nat} {e_O_line : Nat} {e_O_evening : Nat} {e_O_choices : Nat} {SO : Ob} {x1 : Int32} {Q : Int32 → Ob → Prop} (hm : w_X8_end SO x1 Q) : CtI l yX8_end cX8_end 2 (some .int) (rmN 0) D cy [.ref (aO 0), .int x1] (oW cy aO e_O_table e_O_images e_O_tape e_O_reader e_O_plan e_O_trial e_O_season e_O_dates e_O_line e_O_evening e_O_choices SO) (fun u : Ob => (oW cy aO e_O_table e_O_images e_O_tape e_O_reader e_O_plan e_O_trial e_O_season e_O_dates e_O_line e_O_evening e_O_choices u)) Q := by
  refine CtI.ofW (by decide) (Nat.le_of_ble_eq_true rfl) ?_
  intro p e s m args below meth c A ls hc hnm hw hl
  have hx := hc.1.1
  have hb := hc.1.2.1
  have hown := hc.1.2.2.2.1
  have hts := hc.1.2.2.2.2
  have hl : lv_has ls 2 [(0, .ref (aO 0)), (1, .int x1)] := hl
  obtain ⟨H, hH⟩ : ∃ z, z = s.heap := ⟨_, rfl⟩
  obtain ⟨locs, hLc⟩ : ∃ z : List Loc, z = [] := ⟨_, rfl⟩
  have hw : wV D A s.heap (oW cy aO e_O_table e_O_images e_O_tape e_O_reader e_O_plan e_O_trial e_O_season e_O_dates e_O_line e_O_evening e_O_choices SO) H locs := by rw [hH, hLc]; exact hw
  have hgo : W p l e (rmN 0) s m args below meth c H locs 0 0 (MQ below (eI D cy A (fun u : Ob => (oW cy aO e_O_table e_O_images e_O_tape e_O_reader e_O_plan e_O_trial e_O_season e_O_dates e_O_line e_O_evening e_O_choices u)) Q) args s (rmN 0).cells (rmN 0).slots A) (F0 m 0 ls []) := ?hgo
  · rw [hH, hLc] at hgo; exact hgo
  refine lv_iload_n hx hb dX8_end_0 rfl (lv_at hl 1 rfl) ?_
  refine lv_if_lt (tgt := 12) hx hb dX8_end_1 (by decide) (fun c3 => ?_) (fun c3 => ?_)
  · have hm := hm.1 c3
    refine lv_iconst (v := (-1)) hx hb dX8_end_12 (by decide) ?_
    exact retI (u := SO) hc hw hm dX8_end_13
  · have hm := hm.2 c3
    refine lv_iload_n hx hb dX8_end_4 rfl (lv_at hl 1 rfl) ?_
    refine lv_aload_n hx hb dX8_end_5 rfl (lv_at hl 0 rfl) ?_
    refine gF (k := 4) hc hw inX8 rfl 0 rfl (by decide) (gm 419 (by decide +kernel) rfl) rfl dX8_end_6 ?_
    refine lv_icmp_le (tgt := 14) hx hb dX8_end_9 (by decide) (fun c2 => ?_) (fun c2 => ?_)
    · have hm := hm.1 c2
      refine lv_aload_n hx hb dX8_end_14 rfl (lv_at hl 0 rfl) ?_
      refine lv_iload_n hx hb dX8_end_15 rfl (lv_at hl 1 rfl) ?_
      refine pF (k := 4) (ty := .int) hc hw inX8 tyX8_ok nmX8 rfl 0 rfl (by decide) (gm 419 (by decide +kernel) rfl) rfl (by decide +kernel) rfl rfl (Nat.le_of_ble_eq_true rfl) dX8_end_16 (fun H locs hw => ?_)
      obtain ⟨S1, e_S1⟩ : ∃ z : Ob, z = uS SO 4 x1 := ⟨_, rfl⟩
      have hm := hm S1 e_S1
      have hw : wV D A s.heap (oW cy aO e_O_table e_O_images e_O_tape e_O_reader e_O_plan e_O_trial e_O_season e_O_dates e_O_line e_O_evening e_O_choices S1) H locs := by rw [e_S1]; exact hw
      refine lv_iload_n hx hb dX8_end_19 rfl (lv_at hl 1 rfl) ?_
      exact retI (u := S1) hc hw hm dX8_end_20
    · have hm := hm.2 c2
      refine lv_iconst (v := (-1)) hx hb dX8_end_12 (by decide) ?_
      exact retI (u := SO) hc hw hm dX8_end_13
set_option maxHeartbeats 4000000 in
set_option maxRecDepth 100000 in
theorem c_X8_lay {l : Launch} {D : va_G} {cy : Nat → ClassId} {aO : Nat → Nat} {atp : Nat → Nat} {e_O_table : Nat} {e_O_images : Nat} {e_O_reader : Nat} {e_O_plan : Nat} {e_O_trial : Option Nat} {e_O_season : Option Nat} {e_O_dates : Nat} {e_O_line : Nat} {e_O_evening : Nat} {e_O_choices : Nat} {SO : Ob} {Stp : (Nat → Int32)} {x1 : Int32} {Q : Ob → (Nat → Int32) → Prop} (hm : w_X8_lay SO Stp x1 Q) : CtV l yX8_lay cX8_lay 3 none (rmN 0) D cy [.ref (aO 0), .int x1] ((oW cy aO e_O_table e_O_images (atp 0) e_O_reader e_O_plan e_O_trial e_O_season e_O_dates e_O_line e_O_evening e_O_choices SO) ++ (tpW cy atp Stp)) (fun u : Ob × (Nat → Int32) => ((oW cy aO e_O_table e_O_images (atp 0) e_O_reader e_O_plan e_O_trial e_O_season e_O_dates e_O_line e_O_evening e_O_choices u.1) ++ (tpW cy atp u.2))) (fun (u : Ob × (Nat → Int32)) => Q u.1 u.2) := by
  refine CtV.ofW (by decide) (Nat.le_of_ble_eq_true rfl) ?_
  intro p e s m args below meth c A ls hc hnm hw hl
  have hx := hc.1.1
  have hb := hc.1.2.1
  have hown := hc.1.2.2.2.1
  have hts := hc.1.2.2.2.2
  have hl : lv_has ls 3 [(0, .ref (aO 0)), (1, .int x1)] := hl
  obtain ⟨H, hH⟩ : ∃ z, z = s.heap := ⟨_, rfl⟩
  obtain ⟨locs, hLc⟩ : ∃ z : List Loc, z = [] := ⟨_, rfl⟩
  have hw : wV D A s.heap ((oW cy aO e_O_table e_O_images (atp 0) e_O_reader e_O_plan e_O_trial e_O_season e_O_dates e_O_line e_O_evening e_O_choices SO) ++ (tpW cy atp Stp)) H locs := by rw [hH, hLc]; exact hw
  have hgo : W p l e (rmN 0) s m args below meth c H locs 0 0 (MQ below (eV D cy A (fun u : Ob × (Nat → Int32) => ((oW cy aO e_O_table e_O_images (atp 0) e_O_reader e_O_plan e_O_trial e_O_season e_O_dates e_O_line e_O_evening e_O_choices u.1) ++ (tpW cy atp u.2))) (fun (u : Ob × (Nat → Int32)) => Q u.1 u.2)) args s (rmN 0).cells (rmN 0).slots A) (F0 m 0 ls []) := ?hgo
  · rw [hH, hLc] at hgo; exact hgo
  refine lv_bipush (v := 24) hx hb dX8_lay_0 (by decide) ?_
  refine lv_istore_n (lv' := [(2, .int 24), (0, .ref (aO 0)), (1, .int x1)]) hx hb dX8_lay_2 rfl hl (by decide) rfl (fun ls hl => ?_)
  refine wl3_ind (G := fun (x2_1 : Int32) (S2 : Ob) (S3 : (Nat → Int32)) => ∀ (H : Heap) (locs : List Loc) (ls : Array Slot), wV D A s.heap ((oW cy aO e_O_table e_O_images (atp 0) e_O_reader e_O_plan e_O_trial e_O_season e_O_dates e_O_line e_O_evening e_O_choices S2) ++ (tpW cy atp S3)) H locs → lv_has ls 3 [(2, .int x2_1), (0, .ref (aO 0)), (1, .int x1)] → W p l e (rmN 0) s m args below meth c H locs 0 0 (MQ below (eV D cy A (fun u : Ob × (Nat → Int32) => ((oW cy aO e_O_table e_O_images (atp 0) e_O_reader e_O_plan e_O_trial e_O_season e_O_dates e_O_line e_O_evening e_O_choices u.1) ++ (tpW cy atp u.2))) (fun (u : Ob × (Nat → Int32)) => Q u.1 u.2)) args s (rmN 0).cells (rmN 0).slots A) (F0 m 3 ls [])) ?_ _ _ _ hm H locs ls hw (lv_sub hl [0, 1, 2] rfl)
  intro L4 ih4 x2_1 S2 S3 hm H locs ls hw hl
  refine lv_iload_n hx hb dX8_lay_3 rfl (lv_at hl 0 rfl) ?_
  refine lv_if_lt (tgt := 49) hx hb dX8_lay_4 (by decide) (fun c10 => ?_) (fun c10 => ?_)
  · have hm := hm.1 c10
    exact retV (u := (S2, S3)) hc hw hm dX8_lay_49
  · have hm := hm.2 c10
    refine lv_aload_n hx hb dX8_lay_7 rfl (lv_at hl 1 rfl) ?_
    refine gF (k := 4) hc hw inX8 rfl 0 rfl (by decide) (gm 419 (by decide +kernel) rfl) rfl dX8_lay_8 ?_
    refine lv_sipush (v := 400) hx hb dX8_lay_11 (by decide) ?_
    refine lv_icmp_ge (tgt := 49) hx hb dX8_lay_14 (by decide) (fun c9 => ?_) (fun c9 => ?_)
    · have hm := hm.1 c9
      exact retV (u := (S2, S3)) hc hw hm dX8_lay_49
    · have hm := hm.2 c9
      refine lv_aload_n hx hb dX8_lay_17 rfl (lv_at hl 1 rfl) ?_
      refine gF (k := 3) hc hw inX8 rfl 0 rfl (by decide) (gm 418 (by decide +kernel) rfl) rfl dX8_lay_18 ?_
      refine lv_aload_n hx hb dX8_lay_21 rfl (lv_at hl 1 rfl) ?_
      refine gF (k := 4) hc hw inX8 rfl 0 rfl (by decide) (gm 419 (by decide +kernel) rfl) rfl dX8_lay_22 ?_
      refine lv_iload_n hx hb dX8_lay_25 rfl (lv_at hl 2 rfl) ?_
      refine lv_iload_n hx hb dX8_lay_26 rfl (lv_at hl 0 rfl) ?_
      refine lv_ishr hx hb dX8_lay_27 ?_
      refine lv_sipush (v := 255) hx hb dX8_lay_28 (by decide) ?_
      refine lv_iand hx hb dX8_lay_31 ?_
      obtain ⟨c5, hm⟩ := hm
      refine sI hc hw 3 rfl c5 rfl dX8_lay_32 (fun H locs hw => ?_)
      obtain ⟨S6, e_S6⟩ : ∃ z : (Nat → Int32), z = upd S3 (Int32.toNatClampNeg (S2.1 4)) ((x1 >>> (x2_1 &&& 31)) &&& 255) := ⟨_, rfl⟩
      have hm := hm S6 e_S6
      have hw : wV D A s.heap ((oW cy aO e_O_table e_O_images (atp 0) e_O_reader e_O_plan e_O_trial e_O_season e_O_dates e_O_line e_O_evening e_O_choices S2) ++ (tpW cy atp S6)) H locs := by rw [e_S6]; exact hw
      refine lv_aload_n hx hb dX8_lay_33 rfl (lv_at hl 1 rfl) ?_
      refine lv_dup hx hb dX8_lay_34 rfl ?_
      refine gF (k := 4) hc hw inX8 rfl 0 rfl (by decide) (gm 419 (by decide +kernel) rfl) rfl dX8_lay_35 ?_
      refine lv_iconst (v := 1) hx hb dX8_lay_38 (by decide) ?_
      refine lv_iadd hx hb dX8_lay_39 ?_
      refine pF (k := 4) (ty := .int) hc hw inX8 tyX8_ok nmX8 rfl 0 rfl (by decide) (gm 419 (by decide +kernel) rfl) rfl (by decide +kernel) rfl rfl (Nat.le_of_ble_eq_true rfl) dX8_lay_40 (fun H locs hw => ?_)
      obtain ⟨S7, e_S7⟩ : ∃ z : Ob, z = uS S2 4 ((S2.1 4) + 1) := ⟨_, rfl⟩
      have hm := hm S7 e_S7
      have hw : wV D A s.heap ((oW cy aO e_O_table e_O_images (atp 0) e_O_reader e_O_plan e_O_trial e_O_season e_O_dates e_O_line e_O_evening e_O_choices S7) ++ (tpW cy atp S6)) H locs := by rw [e_S7]; exact hw
      obtain ⟨v8, e_v8⟩ : ∃ z : Int32, z = x2_1 + (-8) := ⟨_, rfl⟩
      have hm := hm v8 e_v8
      refine lv_iinc (v := v8) (lv' := [(2, .int v8), (0, .ref (aO 0)), (1, .int x1)]) hx hb dX8_lay_43 hl (k := 0) rfl (by rw [e_v8]; rfl) (by decide) rfl (fun ls hl => ?_)
      refine lv_goto (tgt := 3) hx hb dX8_lay_46 (by decide) ?_
      exact ih4 _ _ _ hm _ _ _ hw (lv_sub hl [0, 1, 2] rfl)
set_option maxHeartbeats 4000000 in
set_option maxRecDepth 100000 in
theorem c_X8_feed {l : Launch} {D : va_G} {cy : Nat → ClassId} {aO : Nat → Nat} {atp : Nat → Nat} {e_O_table : Nat} {e_O_images : Nat} {e_O_reader : Nat} {e_O_plan : Nat} {e_O_trial : Option Nat} {e_O_season : Option Nat} {e_O_dates : Nat} {e_O_line : Nat} {e_O_evening : Nat} {e_O_choices : Nat} {SO : Ob} {Stp : (Nat → Int32)} {x1 : Int32} {x2 : Int32} {x3 : Int32} {x4 : Int32} {x5 : Int32} {Q : Int32 → Ob → (Nat → Int32) → Prop} (hm : w_X8_feed SO Stp x1 x2 x3 x4 x5 Q) : CtI l yX8_feed cX8_feed 6 (some .int) (rmN 1) D cy [.ref (aO 0), .int x1, .int x2, .int x3, .int x4, .int x5] ((oW cy aO e_O_table e_O_images (atp 0) e_O_reader e_O_plan e_O_trial e_O_season e_O_dates e_O_line e_O_evening e_O_choices SO) ++ (tpW cy atp Stp)) (fun u : Ob × (Nat → Int32) => ((oW cy aO e_O_table e_O_images (atp 0) e_O_reader e_O_plan e_O_trial e_O_season e_O_dates e_O_line e_O_evening e_O_choices u.1) ++ (tpW cy atp u.2))) (fun (r : Int32) (u : Ob × (Nat → Int32)) => Q r u.1 u.2) := by
  refine CtI.ofW (by decide) (Nat.le_of_ble_eq_true rfl) ?_
  intro p e s m args below meth c A ls hc hnm hw hl
  have hx := hc.1.1
  have hb := hc.1.2.1
  have hown := hc.1.2.2.2.1
  have hts := hc.1.2.2.2.2
  have hl : lv_has ls 6 [(0, .ref (aO 0)), (1, .int x1), (2, .int x2), (3, .int x3), (4, .int x4), (5, .int x5)] := hl
  obtain ⟨H, hH⟩ : ∃ z, z = s.heap := ⟨_, rfl⟩
  obtain ⟨locs, hLc⟩ : ∃ z : List Loc, z = [] := ⟨_, rfl⟩
  have hw : wV D A s.heap ((oW cy aO e_O_table e_O_images (atp 0) e_O_reader e_O_plan e_O_trial e_O_season e_O_dates e_O_line e_O_evening e_O_choices SO) ++ (tpW cy atp Stp)) H locs := by rw [hH, hLc]; exact hw
  have hgo : W p l e (rmN 1) s m args below meth c H locs 0 0 (MQ below (eI D cy A (fun u : Ob × (Nat → Int32) => ((oW cy aO e_O_table e_O_images (atp 0) e_O_reader e_O_plan e_O_trial e_O_season e_O_dates e_O_line e_O_evening e_O_choices u.1) ++ (tpW cy atp u.2))) (fun (r : Int32) (u : Ob × (Nat → Int32)) => Q r u.1 u.2)) args s (rmN 1).cells (rmN 1).slots A) (F0 m 0 ls []) := ?hgo
  · rw [hH, hLc] at hgo; exact hgo
  refine lv_aload_n hx hb dX8_feed_0 rfl (lv_at hl 0 rfl) ?_
  refine gF (k := 4) hc hw inX8 rfl 0 rfl (by decide) (gm 419 (by decide +kernel) rfl) rfl dX8_feed_1 ?_
  refine lv_bipush (v := 20) hx hb dX8_feed_4 (by decide) ?_
  refine lv_iadd hx hb dX8_feed_6 ?_
  refine lv_sipush (v := 400) hx hb dX8_feed_7 (by decide) ?_
  refine lv_icmp_le (tgt := 15) hx hb dX8_feed_10 (by decide) (fun c16 => ?_) (fun c16 => ?_)
  · have hm := hm.1 c16
    refine lv_aload_n hx hb dX8_feed_15 rfl (lv_at hl 0 rfl) ?_
    refine lv_iload_n hx hb dX8_feed_16 rfl (lv_at hl 1 rfl) ?_
    refine aV_V (As := [.int x1]) (rest := []) hc hw (c_X8_lay hm) lk_X8_143 rfl rfl ⟨Nat.le_of_ble_eq_true rfl, Nat.le_of_ble_eq_true rfl⟩ ⟨Nat.le_of_ble_eq_true rfl, Nat.le_of_ble_eq_true rfl⟩ hl.1 rfl (Nat.le_of_ble_eq_true rfl) rfl dX8_feed_17 (fun u_2 H locs hm hw => ?_)
    obtain ⟨S1, S2⟩ := u_2
    have hw : wV D A s.heap ((oW cy aO e_O_table e_O_images (atp 0) e_O_reader e_O_plan e_O_trial e_O_season e_O_dates e_O_line e_O_evening e_O_choices S1) ++ (tpW cy atp S2)) H locs := hw
    refine lv_aload_n hx hb dX8_feed_20 rfl (lv_at hl 0 rfl) ?_
    refine lv_iload_n hx hb dX8_feed_21 rfl (lv_at hl 2 rfl) ?_
    refine aV_V (As := [.int x2]) (rest := []) hc hw (c_X8_lay hm) lk_X8_143 rfl rfl ⟨Nat.le_of_ble_eq_true rfl, Nat.le_of_ble_eq_true rfl⟩ ⟨Nat.le_of_ble_eq_true rfl, Nat.le_of_ble_eq_true rfl⟩ hl.1 rfl (Nat.le_of_ble_eq_true rfl) rfl dX8_feed_22 (fun u_5 H locs hm hw => ?_)
    obtain ⟨S4, S5⟩ := u_5
    have hw : wV D A s.heap ((oW cy aO e_O_table e_O_images (atp 0) e_O_reader e_O_plan e_O_trial e_O_season e_O_dates e_O_line e_O_evening e_O_choices S4) ++ (tpW cy atp S5)) H locs := hw
    refine lv_aload_n hx hb dX8_feed_25 rfl (lv_at hl 0 rfl) ?_
    refine lv_iload_n hx hb dX8_feed_26 rfl (lv_at hl 3 rfl) ?_
    refine aV_V (As := [.int x3]) (rest := []) hc hw (c_X8_lay hm) lk_X8_143 rfl rfl ⟨Nat.le_of_ble_eq_true rfl, Nat.le_of_ble_eq_true rfl⟩ ⟨Nat.le_of_ble_eq_true rfl, Nat.le_of_ble_eq_true rfl⟩ hl.1 rfl (Nat.le_of_ble_eq_true rfl) rfl dX8_feed_27 (fun u_8 H locs hm hw => ?_)
    obtain ⟨S7, S8⟩ := u_8
    have hw : wV D A s.heap ((oW cy aO e_O_table e_O_images (atp 0) e_O_reader e_O_plan e_O_trial e_O_season e_O_dates e_O_line e_O_evening e_O_choices S7) ++ (tpW cy atp S8)) H locs := hw
    refine lv_aload_n hx hb dX8_feed_30 rfl (lv_at hl 0 rfl) ?_
    refine lv_iload hx hb dX8_feed_31 (lv_at hl 4 rfl) ?_
    refine aV_V (As := [.int x4]) (rest := []) hc hw (c_X8_lay hm) lk_X8_143 rfl rfl ⟨Nat.le_of_ble_eq_true rfl, Nat.le_of_ble_eq_true rfl⟩ ⟨Nat.le_of_ble_eq_true rfl, Nat.le_of_ble_eq_true rfl⟩ hl.1 rfl (Nat.le_of_ble_eq_true rfl) rfl dX8_feed_33 (fun u_11 H locs hm hw => ?_)
    obtain ⟨S10, S11⟩ := u_11
    have hw : wV D A s.heap ((oW cy aO e_O_table e_O_images (atp 0) e_O_reader e_O_plan e_O_trial e_O_season e_O_dates e_O_line e_O_evening e_O_choices S10) ++ (tpW cy atp S11)) H locs := hw
    refine lv_aload_n hx hb dX8_feed_36 rfl (lv_at hl 0 rfl) ?_
    refine lv_iload hx hb dX8_feed_37 (lv_at hl 5 rfl) ?_
    refine aV_V (As := [.int x5]) (rest := []) hc hw (c_X8_lay hm) lk_X8_143 rfl rfl ⟨Nat.le_of_ble_eq_true rfl, Nat.le_of_ble_eq_true rfl⟩ ⟨Nat.le_of_ble_eq_true rfl, Nat.le_of_ble_eq_true rfl⟩ hl.1 rfl (Nat.le_of_ble_eq_true rfl) rfl dX8_feed_39 (fun u_14 H locs hm hw => ?_)
    obtain ⟨S13, S14⟩ := u_14
    have hw : wV D A s.heap ((oW cy aO e_O_table e_O_images (atp 0) e_O_reader e_O_plan e_O_trial e_O_season e_O_dates e_O_line e_O_evening e_O_choices S13) ++ (tpW cy atp S14)) H locs := hw
    refine lv_aload_n hx hb dX8_feed_42 rfl (lv_at hl 0 rfl) ?_
    refine gF (k := 4) hc hw inX8 rfl 0 rfl (by decide) (gm 419 (by decide +kernel) rfl) rfl dX8_feed_43 ?_
    exact retI (u := (S13, S14)) hc hw hm dX8_feed_46
  · have hm := hm.2 c16
    refine lv_iconst (v := (-1)) hx hb dX8_feed_13 (by decide) ?_
    exact retI (u := (SO, Stp)) hc hw hm dX8_feed_14
set_option maxHeartbeats 4000000 in
set_option maxRecDepth 100000 in
theorem c_X8_comesFrom {l : Launch} {D : va_G} {cy : Nat → ClassId} {aO : Nat → Nat} {atp : Nat → Nat} {aB : Nat → Nat} {e_O_images : Nat} {e_O_reader : Nat} {e_O_plan : Nat} {e_O_trial : Option Nat} {e_O_season : Option Nat} {e_O_dates : Nat} {e_O_line : Nat} {e_O_evening : Nat} {e_O_choices : Nat} {e_B_laws : Nat} {e_B_told : Nat} {e_B_mentions : Nat} {e_B_claims : Nat} {SO : Ob} {Stp : (Nat → Int32)} {SB : Ob} {x1 : Int32} {Q : Int32 → Ob → Prop} (hm : w_X8_comesFrom SO Stp SB x1 Q) : CtI l yX8_comesFrom cX8_comesFrom 6 (some .boolean) (rmN 2) D cy [.ref (aO 0), .int x1] ((oW cy aO (aB 0) e_O_images (atp 0) e_O_reader e_O_plan e_O_trial e_O_season e_O_dates e_O_line e_O_evening e_O_choices SO) ++ ((tpW cy atp Stp) ++ (bW cy aB e_B_laws e_B_told e_B_mentions e_B_claims SB))) (fun u : Ob => ((oW cy aO (aB 0) e_O_images (atp 0) e_O_reader e_O_plan e_O_trial e_O_season e_O_dates e_O_line e_O_evening e_O_choices SO) ++ ((tpW cy atp Stp) ++ (bW cy aB e_B_laws e_B_told e_B_mentions e_B_claims u)))) Q := by
  refine CtI.ofW (by decide) (Nat.le_of_ble_eq_true rfl) ?_
  intro p e s m args below meth c A ls hc hnm hw hl
  have hx := hc.1.1
  have hb := hc.1.2.1
  have hown := hc.1.2.2.2.1
  have hts := hc.1.2.2.2.2
  have hl : lv_has ls 6 [(0, .ref (aO 0)), (1, .int x1)] := hl
  obtain ⟨H, hH⟩ : ∃ z, z = s.heap := ⟨_, rfl⟩
  obtain ⟨locs, hLc⟩ : ∃ z : List Loc, z = [] := ⟨_, rfl⟩
  have hw : wV D A s.heap ((oW cy aO (aB 0) e_O_images (atp 0) e_O_reader e_O_plan e_O_trial e_O_season e_O_dates e_O_line e_O_evening e_O_choices SO) ++ ((tpW cy atp Stp) ++ (bW cy aB e_B_laws e_B_told e_B_mentions e_B_claims SB))) H locs := by rw [hH, hLc]; exact hw
  have hgo : W p l e (rmN 2) s m args below meth c H locs 0 0 (MQ below (eI D cy A (fun u : Ob => ((oW cy aO (aB 0) e_O_images (atp 0) e_O_reader e_O_plan e_O_trial e_O_season e_O_dates e_O_line e_O_evening e_O_choices SO) ++ ((tpW cy atp Stp) ++ (bW cy aB e_B_laws e_B_told e_B_mentions e_B_claims u)))) Q) args s (rmN 2).cells (rmN 2).slots A) (F0 m 0 ls []) := ?hgo
  · rw [hH, hLc] at hgo; exact hgo
  refine lv_iload_n hx hb dX8_comesFrom_0 rfl (lv_at hl 1 rfl) ?_
  refine lv_if_lt (tgt := 27) hx hb dX8_comesFrom_1 (by decide) (fun c18 => ?_) (fun c18 => ?_)
  · have hm := hm.1 c18
    refine lv_iconst (v := 0) hx hb dX8_comesFrom_27 (by decide) ?_
    exact retZ (u := SB) hc hw rfl hm dX8_comesFrom_28
  · have hm := hm.2 c18
    refine lv_iload_n hx hb dX8_comesFrom_4 rfl (lv_at hl 1 rfl) ?_
    refine lv_bipush (v := 6) hx hb dX8_comesFrom_5 (by decide) ?_
    refine lv_iadd hx hb dX8_comesFrom_7 ?_
    refine lv_aload_n hx hb dX8_comesFrom_8 rfl (lv_at hl 0 rfl) ?_
    refine gF (k := 4) hc hw inX8 rfl 0 rfl (by decide) (gm 419 (by decide +kernel) rfl) rfl dX8_comesFrom_9 ?_
    refine lv_icmp_gt (tgt := 27) hx hb dX8_comesFrom_12 (by decide) (fun c17 => ?_) (fun c17 => ?_)
    · have hm := hm.1 c17
      refine lv_iconst (v := 0) hx hb dX8_comesFrom_27 (by decide) ?_
      exact retZ (u := SB) hc hw rfl hm dX8_comesFrom_28
    · have hm := hm.2 c17
      refine lv_aload_n hx hb dX8_comesFrom_15 rfl (lv_at hl 0 rfl) ?_
      refine gF (k := 0) hc hw inX8 rfl 0 rfl (by decide) (gm 415 (by decide +kernel) rfl) rfl dX8_comesFrom_16 ?_
      refine gN (k := 4) (host := "OlderTale") hc hw inX6 rfl 4 rfl (by decide) (nmm 212 (by decide +kernel)) rfl dX8_comesFrom_19 ?_
      refine lv_bipush (v := 10) hx hb dX8_comesFrom_22 (by decide) ?_
      refine lv_icmp_lt (tgt := 29) hx hb dX8_comesFrom_24 (by decide) (fun c16 => ?_) (fun c16 => ?_)
      · have hm := hm.1 c16
        refine lv_aload_n hx hb dX8_comesFrom_29 rfl (lv_at hl 0 rfl) ?_
        refine gF (k := 3) hc hw inX8 rfl 0 rfl (by decide) (gm 418 (by decide +kernel) rfl) rfl dX8_comesFrom_30 ?_
        refine lv_iload_n hx hb dX8_comesFrom_33 rfl (lv_at hl 1 rfl) ?_
        obtain ⟨c1, hm⟩ := hm
        refine aI hc hw 3 rfl c1 rfl dX8_comesFrom_34 ?_
        refine lv_sipush (v := 256) hx hb dX8_comesFrom_35 (by decide) ?_
        refine lv_imul hx hb dX8_comesFrom_38 ?_
        refine lv_aload_n hx hb dX8_comesFrom_39 rfl (lv_at hl 0 rfl) ?_
        refine gF (k := 3) hc hw inX8 rfl 0 rfl (by decide) (gm 418 (by decide +kernel) rfl) rfl dX8_comesFrom_40 ?_
        refine lv_iload_n hx hb dX8_comesFrom_43 rfl (lv_at hl 1 rfl) ?_
        refine lv_iconst (v := 1) hx hb dX8_comesFrom_44 (by decide) ?_
        refine lv_iadd hx hb dX8_comesFrom_45 ?_
        obtain ⟨c2, hm⟩ := hm
        refine aI hc hw 3 rfl c2 rfl dX8_comesFrom_46 ?_
        refine lv_iadd hx hb dX8_comesFrom_47 ?_
        refine lv_topi (fun v3 e_v3 => ?_)
        have hm := hm v3 e_v3
        refine lv_istore_n (lv' := [(2, .int v3), (0, .ref (aO 0)), (1, .int x1)]) hx hb dX8_comesFrom_48 rfl hl (by decide) rfl (fun ls hl => ?_)
        refine lv_aload_n hx hb dX8_comesFrom_49 rfl (lv_at hl 1 rfl) ?_
        refine gF (k := 3) hc hw inX8 rfl 0 rfl (by decide) (gm 418 (by decide +kernel) rfl) rfl dX8_comesFrom_50 ?_
        refine lv_iload_n hx hb dX8_comesFrom_53 rfl (lv_at hl 2 rfl) ?_
        refine lv_iconst (v := 2) hx hb dX8_comesFrom_54 (by decide) ?_
        refine lv_iadd hx hb dX8_comesFrom_55 ?_
        obtain ⟨c4, hm⟩ := hm
        refine aI hc hw 3 rfl c4 rfl dX8_comesFrom_56 ?_
        refine lv_sipush (v := 256) hx hb dX8_comesFrom_57 (by decide) ?_
        refine lv_imul hx hb dX8_comesFrom_60 ?_
        refine lv_aload_n hx hb dX8_comesFrom_61 rfl (lv_at hl 1 rfl) ?_
        refine gF (k := 3) hc hw inX8 rfl 0 rfl (by decide) (gm 418 (by decide +kernel) rfl) rfl dX8_comesFrom_62 ?_
        refine lv_iload_n hx hb dX8_comesFrom_65 rfl (lv_at hl 2 rfl) ?_
        refine lv_iconst (v := 3) hx hb dX8_comesFrom_66 (by decide) ?_
        refine lv_iadd hx hb dX8_comesFrom_67 ?_
        obtain ⟨c5, hm⟩ := hm
        refine aI hc hw 3 rfl c5 rfl dX8_comesFrom_68 ?_
        refine lv_iadd hx hb dX8_comesFrom_69 ?_
        refine lv_topi (fun v6 e_v6 => ?_)
        have hm := hm v6 e_v6
        refine lv_istore_n (lv' := [(3, .int v6), (2, .int v3), (0, .ref (aO 0)), (1, .int x1)]) hx hb dX8_comesFrom_70 rfl hl (by decide) rfl (fun ls hl => ?_)
        refine lv_aload_n hx hb dX8_comesFrom_71 rfl (lv_at hl 2 rfl) ?_
        refine gF (k := 3) hc hw inX8 rfl 0 rfl (by decide) (gm 418 (by decide +kernel) rfl) rfl dX8_comesFrom_72 ?_
        refine lv_iload_n hx hb dX8_comesFrom_75 rfl (lv_at hl 3 rfl) ?_
        refine lv_iconst (v := 4) hx hb dX8_comesFrom_76 (by decide) ?_
        refine lv_iadd hx hb dX8_comesFrom_77 ?_
        obtain ⟨c7, hm⟩ := hm
        refine aI hc hw 3 rfl c7 rfl dX8_comesFrom_78 ?_
        refine lv_topi (fun v8 e_v8 => ?_)
        have hm := hm v8 e_v8
        refine lv_istore (lv' := [(4, .int v8), (3, .int v6), (2, .int v3), (0, .ref (aO 0)), (1, .int x1)]) hx hb dX8_comesFrom_79 hl (by decide) rfl (fun ls hl => ?_)
        refine lv_aload_n hx hb dX8_comesFrom_81 rfl (lv_at hl 3 rfl) ?_
        refine gF (k := 3) hc hw inX8 rfl 0 rfl (by decide) (gm 418 (by decide +kernel) rfl) rfl dX8_comesFrom_82 ?_
        refine lv_iload_n hx hb dX8_comesFrom_85 rfl (lv_at hl 4 rfl) ?_
        refine lv_iconst (v := 5) hx hb dX8_comesFrom_86 (by decide) ?_
        refine lv_iadd hx hb dX8_comesFrom_87 ?_
        obtain ⟨c9, hm⟩ := hm
        refine aI hc hw 3 rfl c9 rfl dX8_comesFrom_88 ?_
        refine lv_topi (fun v10 e_v10 => ?_)
        have hm := hm v10 e_v10
        refine lv_istore (lv' := [(5, .int v10), (4, .int v8), (3, .int v6), (2, .int v3), (0, .ref (aO 0)), (1, .int x1)]) hx hb dX8_comesFrom_89 hl (by decide) rfl (fun ls hl => ?_)
        refine lv_iload_n hx hb dX8_comesFrom_91 rfl (lv_at hl 3 rfl) ?_
        refine lv_iload_n hx hb dX8_comesFrom_92 rfl (lv_at hl 2 rfl) ?_
        refine lv_iload hx hb dX8_comesFrom_93 (lv_at hl 1 rfl) ?_
        refine lv_iload hx hb dX8_comesFrom_95 (lv_at hl 0 rfl) ?_
        refine zSN_I (As := [.int v3, .int v6, .int v8, .int v10]) (rest := []) hc hw (c_X6_canBe hm) lk_X8_85 ⟨Nat.le_of_ble_eq_true rfl, Nat.le_of_ble_eq_true rfl⟩ ⟨Nat.le_of_ble_eq_true rfl, Nat.le_of_ble_eq_true rfl⟩ hl.1 rfl (Nat.le_of_ble_eq_true rfl) rfl dX8_comesFrom_97 (fun r11 H locs hm hw => ?_)
        refine lv_if_ne (tgt := 105) hx hb dX8_comesFrom_100 (by decide) (fun c15 => ?_) (fun c15 => ?_)
        · have hm := hm.1 c15
          refine lv_aload_n hx hb dX8_comesFrom_105 rfl (lv_at hl 4 rfl) ?_
          refine gF (k := 0) hc hw inX8 rfl 0 rfl (by decide) (gm 415 (by decide +kernel) rfl) rfl dX8_comesFrom_106 ?_
          refine lv_iload_n hx hb dX8_comesFrom_109 rfl (lv_at hl 3 rfl) ?_
          refine lv_iload_n hx hb dX8_comesFrom_110 rfl (lv_at hl 2 rfl) ?_
          refine lv_iload hx hb dX8_comesFrom_111 (lv_at hl 1 rfl) ?_
          refine lv_iload hx hb dX8_comesFrom_113 (lv_at hl 0 rfl) ?_
          refine nVN_V (As := [.int v3, .int v6, .int v8, .int v10]) (rest := []) (wc := (bW cy aB e_B_laws e_B_told e_B_mentions e_B_claims SB)) (wr := ((oW cy aO (aB 0) e_O_images (atp 0) e_O_reader e_O_plan e_O_trial e_O_season e_O_dates e_O_line e_O_evening e_O_choices SO) ++ (tpW cy atp Stp))) (isC := [4, 5, 6, 7, 8, 9]) (isR := [0, 1, 2, 3]) hc hw (c_X6_add hm) lk_X8_96 ⟨rfl, rfl, rfl, rfl, by decide⟩ rfl rfl ⟨Nat.le_of_ble_eq_true rfl, Nat.le_of_ble_eq_true rfl⟩ ⟨Nat.le_of_ble_eq_true rfl, Nat.le_of_ble_eq_true rfl⟩ hl.1 rfl (Nat.le_of_ble_eq_true rfl) rfl dX8_comesFrom_115 (fun S13 H locs hm hw => ?_)
          have hw : wV D A s.heap ((oW cy aO (aB 0) e_O_images (atp 0) e_O_reader e_O_plan e_O_trial e_O_season e_O_dates e_O_line e_O_evening e_O_choices SO) ++ ((tpW cy atp Stp) ++ (bW cy aB e_B_laws e_B_told e_B_mentions e_B_claims S13))) H locs := hw.perm [0, 1, 2, 3, 4, 5, 6, 7, 8, 9] rfl rfl
          refine lv_iconst (v := 1) hx hb dX8_comesFrom_118 (by decide) ?_
          exact retZ (u := S13) hc hw rfl hm dX8_comesFrom_119
        · have hm := hm.2 c15
          refine lv_iconst (v := 0) hx hb dX8_comesFrom_103 (by decide) ?_
          exact retZ (u := SB) hc hw rfl hm dX8_comesFrom_104
      · have hm := hm.2 c16
        refine lv_iconst (v := 0) hx hb dX8_comesFrom_27 (by decide) ?_
        exact retZ (u := SB) hc hw rfl hm dX8_comesFrom_28
set_option maxHeartbeats 4000000 in
set_option maxRecDepth 100000 in
theorem c_X8_row {l : Launch} {D : va_G} {cy : Nat → ClassId} {aO : Nat → Nat} {atp : Nat → Nat} {aB : Nat → Nat} {aP : Nat → Nat} {e_O_images : Nat} {e_O_reader : Nat} {e_O_trial : Option Nat} {e_O_season : Option Nat} {e_O_dates : Nat} {e_O_line : Nat} {e_O_evening : Nat} {e_O_choices : Nat} {e_B_laws : Nat} {e_B_told : Nat} {e_B_mentions : Nat} {e_B_claims : Nat} {e_P_judge : Nat} {SO : Ob} {Stp : (Nat → Int32)} {SB : Ob} {SP : Ob} {Q : Int32 → Ob → Ob → Ob → Prop} (hm : w_X8_row SO Stp SB SP Q) : CtI l yX8_row cX8_row 4 (some .int) (rmN 3) D cy [.ref (aO 0)] ((oW cy aO (aB 0) e_O_images (atp 0) e_O_reader (aP 0) e_O_trial e_O_season e_O_dates e_O_line e_O_evening e_O_choices SO) ++ ((tpW cy atp Stp) ++ ((bW cy aB e_B_laws e_B_told e_B_mentions e_B_claims SB) ++ (pW cy aP e_P_judge SP)))) (fun u : Ob × Ob × Ob => ((oW cy aO (aB 0) e_O_images (atp 0) e_O_reader (aP 0) e_O_trial e_O_season e_O_dates e_O_line e_O_evening e_O_choices u.1) ++ ((tpW cy atp Stp) ++ ((bW cy aB e_B_laws e_B_told e_B_mentions e_B_claims u.2.1) ++ (pW cy aP e_P_judge u.2.2))))) (fun (r : Int32) (u : Ob × Ob × Ob) => Q r u.1 u.2.1 u.2.2) := by
  refine CtI.ofW (by decide) (Nat.le_of_ble_eq_true rfl) ?_
  intro p e s m args below meth c A ls hc hnm hw hl
  have hx := hc.1.1
  have hb := hc.1.2.1
  have hown := hc.1.2.2.2.1
  have hts := hc.1.2.2.2.2
  have hl : lv_has ls 4 [(0, .ref (aO 0))] := hl
  obtain ⟨H, hH⟩ : ∃ z, z = s.heap := ⟨_, rfl⟩
  obtain ⟨locs, hLc⟩ : ∃ z : List Loc, z = [] := ⟨_, rfl⟩
  have hw : wV D A s.heap ((oW cy aO (aB 0) e_O_images (atp 0) e_O_reader (aP 0) e_O_trial e_O_season e_O_dates e_O_line e_O_evening e_O_choices SO) ++ ((tpW cy atp Stp) ++ ((bW cy aB e_B_laws e_B_told e_B_mentions e_B_claims SB) ++ (pW cy aP e_P_judge SP)))) H locs := by rw [hH, hLc]; exact hw
  have hgo : W p l e (rmN 3) s m args below meth c H locs 0 0 (MQ below (eI D cy A (fun u : Ob × Ob × Ob => ((oW cy aO (aB 0) e_O_images (atp 0) e_O_reader (aP 0) e_O_trial e_O_season e_O_dates e_O_line e_O_evening e_O_choices u.1) ++ ((tpW cy atp Stp) ++ ((bW cy aB e_B_laws e_B_told e_B_mentions e_B_claims u.2.1) ++ (pW cy aP e_P_judge u.2.2))))) (fun (r : Int32) (u : Ob × Ob × Ob) => Q r u.1 u.2.1 u.2.2)) args s (rmN 3).cells (rmN 3).slots A) (F0 m 0 ls []) := ?hgo
  · rw [hH, hLc] at hgo; exact hgo
  refine lv_aload_n hx hb dX8_row_0 rfl (lv_at hl 0 rfl) ?_
  refine gF (k := 4) hc hw inX8 rfl 0 rfl (by decide) (gm 419 (by decide +kernel) rfl) rfl dX8_row_1 ?_
  refine lv_if_ne (tgt := 14) hx hb dX8_row_4 (by decide) (fun c25 => ?_) (fun c25 => ?_)
  · have hm := hm.1 c25
    refine lv_iconst (v := 0) hx hb dX8_row_14 (by decide) ?_
    refine lv_istore_n (lv' := [(1, .int 0), (0, .ref (aO 0))]) hx hb dX8_row_15 rfl hl (by decide) rfl (fun ls hl => ?_)
    refine lv_iconst (v := 0) hx hb dX8_row_16 (by decide) ?_
    refine lv_istore_n (lv' := [(2, .int 0), (1, .int 0), (0, .ref (aO 0))]) hx hb dX8_row_17 rfl hl (by decide) rfl (fun ls hl => ?_)
    refine lv_iconst (v := 0) hx hb dX8_row_18 (by decide) ?_
    refine lv_istore_n (lv' := [(3, .int 0), (2, .int 0), (1, .int 0), (0, .ref (aO 0))]) hx hb dX8_row_19 rfl hl (by decide) rfl (fun ls hl => ?_)
    refine wl4_ind (G := fun (x3_1 : Int32) (x2_2 : Int32) (x1_3 : Int32) (S4 : Ob) => ∀ (H : Heap) (locs : List Loc) (ls : Array Slot), wV D A s.heap ((oW cy aO (aB 0) e_O_images (atp 0) e_O_reader (aP 0) e_O_trial e_O_season e_O_dates e_O_line e_O_evening e_O_choices SO) ++ ((tpW cy atp Stp) ++ ((bW cy aB e_B_laws e_B_told e_B_mentions e_B_claims S4) ++ (pW cy aP e_P_judge SP)))) H locs → lv_has ls 4 [(3, .int x3_1), (2, .int x2_2), (1, .int x1_3), (0, .ref (aO 0))] → W p l e (rmN 3) s m args below meth c H locs 0 0 (MQ below (eI D cy A (fun u : Ob × Ob × Ob => ((oW cy aO (aB 0) e_O_images (atp 0) e_O_reader (aP 0) e_O_trial e_O_season e_O_dates e_O_line e_O_evening e_O_choices u.1) ++ ((tpW cy atp Stp) ++ ((bW cy aB e_B_laws e_B_told e_B_mentions e_B_claims u.2.1) ++ (pW cy aP e_P_judge u.2.2))))) (fun (r : Int32) (u : Ob × Ob × Ob) => Q r u.1 u.2.1 u.2.2)) args s (rmN 3).cells (rmN 3).slots A) (F0 m 20 ls [])) ?_ _ _ _ _ hm H locs ls hw (lv_sub hl [0, 1, 2, 3] rfl)
    intro L5 ih5 x3_1 x2_2 x1_3 S4 hm H locs ls hw hl
    refine lv_iload_n hx hb dX8_row_20 rfl (lv_at hl 0 rfl) ?_
    refine lv_aload_n hx hb dX8_row_21 rfl (lv_at hl 3 rfl) ?_
    refine gF (k := 4) hc hw inX8 rfl 0 rfl (by decide) (gm 419 (by decide +kernel) rfl) rfl dX8_row_22 ?_
    refine lv_icmp_ge (tgt := 51) hx hb dX8_row_25 (by decide) (fun c21 => ?_) (fun c21 => ?_)
    · have hm := hm.1 c21
      refine lv_aload_n hx hb dX8_row_51 rfl (lv_at hl 3 rfl) ?_
      refine lv_iconst (v := 0) hx hb dX8_row_52 (by decide) ?_
      refine pF (k := 4) (ty := .int) hc hw inX8 tyX8_ok nmX8 rfl 0 rfl (by decide) (gm 419 (by decide +kernel) rfl) rfl (by decide +kernel) rfl rfl (Nat.le_of_ble_eq_true rfl) dX8_row_53 (fun H locs hw => ?_)
      obtain ⟨S6, e_S6⟩ : ∃ z : Ob, z = uS SO 4 0 := ⟨_, rfl⟩
      have hm := hm S6 e_S6
      have hw : wV D A s.heap ((oW cy aO (aB 0) e_O_images (atp 0) e_O_reader (aP 0) e_O_trial e_O_season e_O_dates e_O_line e_O_evening e_O_choices S6) ++ ((tpW cy atp Stp) ++ ((bW cy aB e_B_laws e_B_told e_B_mentions e_B_claims S4) ++ (pW cy aP e_P_judge SP)))) H locs := by rw [e_S6]; exact hw
      refine lv_aload_n hx hb dX8_row_56 rfl (lv_at hl 3 rfl) ?_
      refine lv_iload_n hx hb dX8_row_57 rfl (lv_at hl 1 rfl) ?_
      refine pF (k := 7) (ty := .int) hc hw inX8 tyX8_ok nmX8 rfl 0 rfl (by decide) (gm 422 (by decide +kernel) rfl) rfl (by decide +kernel) rfl rfl (Nat.le_of_ble_eq_true rfl) dX8_row_58 (fun H locs hw => ?_)
      obtain ⟨S7, e_S7⟩ : ∃ z : Ob, z = uS S6 7 x2_2 := ⟨_, rfl⟩
      have hm := hm S7 e_S7
      have hw : wV D A s.heap ((oW cy aO (aB 0) e_O_images (atp 0) e_O_reader (aP 0) e_O_trial e_O_season e_O_dates e_O_line e_O_evening e_O_choices S7) ++ ((tpW cy atp Stp) ++ ((bW cy aB e_B_laws e_B_told e_B_mentions e_B_claims S4) ++ (pW cy aP e_P_judge SP)))) H locs := by rw [e_S7]; exact hw
      refine lv_aload_n hx hb dX8_row_61 rfl (lv_at hl 3 rfl) ?_
      refine gF (k := 8) hc hw inX8 rfl 0 rfl (by decide) (gm 423 (by decide +kernel) rfl) rfl dX8_row_62 ?_
      refine nVN_V (As := []) (rest := []) (wc := (pW cy aP e_P_judge SP)) (wr := ((oW cy aO (aB 0) e_O_images (atp 0) e_O_reader (aP 0) e_O_trial e_O_season e_O_dates e_O_line e_O_evening e_O_choices S7) ++ ((tpW cy atp Stp) ++ (bW cy aB e_B_laws e_B_told e_B_mentions e_B_claims S4)))) (isC := [10, 11, 12, 13, 14, 15, 16, 17, 18, 19, 20]) (isR := [0, 1, 2, 3, 4, 5, 6, 7, 8, 9]) hc hw (c_X3_spoil hm) lk_X8_100 ⟨rfl, rfl, rfl, rfl, by decide⟩ rfl rfl ⟨Nat.le_of_ble_eq_true rfl, Nat.le_of_ble_eq_true rfl⟩ ⟨Nat.le_of_ble_eq_true rfl, Nat.le_of_ble_eq_true rfl⟩ hl.1 rfl (Nat.le_of_ble_eq_true rfl) rfl dX8_row_65 (fun S8 H locs hm hw => ?_)
      have hw : wV D A s.heap ((oW cy aO (aB 0) e_O_images (atp 0) e_O_reader (aP 0) e_O_trial e_O_season e_O_dates e_O_line e_O_evening e_O_choices S7) ++ ((tpW cy atp Stp) ++ ((bW cy aB e_B_laws e_B_told e_B_mentions e_B_claims S4) ++ (pW cy aP e_P_judge S8)))) H locs := hw.perm [0, 1, 2, 3, 4, 5, 6, 7, 8, 9, 10, 11, 12, 13, 14, 15, 16, 17, 18, 19, 20] rfl rfl
      refine lv_aload_n hx hb dX8_row_68 rfl (lv_at hl 3 rfl) ?_
      refine lv_iload_n hx hb dX8_row_69 rfl (lv_at hl 2 rfl) ?_
      refine nV_I (As := [.int x1_3]) (rest := []) (wc := (oW cy aO (aB 0) e_O_images (atp 0) e_O_reader (aP 0) e_O_trial e_O_season e_O_dates e_O_line e_O_evening e_O_choices S7)) (wr := ((tpW cy atp Stp) ++ ((bW cy aB e_B_laws e_B_told e_B_mentions e_B_claims S4) ++ (pW cy aP e_P_judge S8)))) (isC := [0, 1, 2]) (isR := [3, 4, 5, 6, 7, 8, 9, 10, 11, 12, 13, 14, 15, 16, 17, 18, 19, 20]) hc hw (c_X8_accept hm) lk_X8_103 ⟨rfl, rfl, rfl, rfl, by decide⟩ rfl rfl ⟨Nat.le_of_ble_eq_true rfl, Nat.le_of_ble_eq_true rfl⟩ ⟨Nat.le_of_ble_eq_true rfl, Nat.le_of_ble_eq_true rfl⟩ hl.1 rfl (Nat.le_of_ble_eq_true rfl) rfl dX8_row_70 (fun r10 S11 H locs hm hw => ?_)
      have hw : wV D A s.heap ((oW cy aO (aB 0) e_O_images (atp 0) e_O_reader (aP 0) e_O_trial e_O_season e_O_dates e_O_line e_O_evening e_O_choices S11) ++ ((tpW cy atp Stp) ++ ((bW cy aB e_B_laws e_B_told e_B_mentions e_B_claims S4) ++ (pW cy aP e_P_judge S8)))) H locs := hw.perm [18, 19, 20, 0, 1, 2, 3, 4, 5, 6, 7, 8, 9, 10, 11, 12, 13, 14, 15, 16, 17] rfl rfl
      exact retI (u := (S11, S4, S8)) hc hw hm dX8_row_73
    · have hm := hm.2 c21
      refine lv_aload_n hx hb dX8_row_28 rfl (lv_at hl 3 rfl) ?_
      refine lv_iload_n hx hb dX8_row_29 rfl (lv_at hl 0 rfl) ?_
      refine nV_I (As := [.int x3_1]) (rest := []) (wc := ((oW cy aO (aB 0) e_O_images (atp 0) e_O_reader (aP 0) e_O_trial e_O_season e_O_dates e_O_line e_O_evening e_O_choices SO) ++ ((tpW cy atp Stp) ++ (bW cy aB e_B_laws e_B_told e_B_mentions e_B_claims S4)))) (wr := (pW cy aP e_P_judge SP)) (isC := [0, 1, 2, 3, 4, 5, 6, 7, 8, 9]) (isR := [10, 11, 12, 13, 14, 15, 16, 17, 18, 19, 20]) hc hw (c_X8_comesFrom hm) lk_X8_147 ⟨rfl, rfl, rfl, rfl, by decide⟩ rfl rfl ⟨Nat.le_of_ble_eq_true rfl, Nat.le_of_ble_eq_true rfl⟩ ⟨Nat.le_of_ble_eq_true rfl, Nat.le_of_ble_eq_true rfl⟩ hl.1 rfl (Nat.le_of_ble_eq_true rfl) rfl dX8_row_30 (fun r13 S14 H locs hm hw => ?_)
      have hw : wV D A s.heap ((oW cy aO (aB 0) e_O_images (atp 0) e_O_reader (aP 0) e_O_trial e_O_season e_O_dates e_O_line e_O_evening e_O_choices SO) ++ ((tpW cy atp Stp) ++ ((bW cy aB e_B_laws e_B_told e_B_mentions e_B_claims S14) ++ (pW cy aP e_P_judge SP)))) H locs := hw.perm [11, 12, 13, 14, 15, 16, 17, 18, 19, 20, 0, 1, 2, 3, 4, 5, 6, 7, 8, 9, 10] rfl rfl
      refine lv_if_eq (tgt := 42) hx hb dX8_row_33 (by decide) (fun c20 => ?_) (fun c20 => ?_)
      · have hm := hm.1 c20
        obtain ⟨v16, e_v16⟩ : ∃ z : Int32, z = x2_2 + 1 := ⟨_, rfl⟩
        have hm := hm v16 e_v16
        refine lv_iinc (v := v16) (lv' := [(2, .int v16), (3, .int x3_1), (1, .int x1_3), (0, .ref (aO 0))]) hx hb dX8_row_42 hl (k := 1) rfl (by rw [e_v16]; rfl) (by decide) rfl (fun ls hl => ?_)
        obtain ⟨v17, e_v17⟩ : ∃ z : Int32, z = x3_1 + 6 := ⟨_, rfl⟩
        have hm := hm v17 e_v17
        refine lv_iinc (v := v17) (lv' := [(3, .int v17), (2, .int v16), (1, .int x1_3), (0, .ref (aO 0))]) hx hb dX8_row_45 hl (k := 1) rfl (by rw [e_v17]; rfl) (by decide) rfl (fun ls hl => ?_)
        refine lv_goto (tgt := 20) hx hb dX8_row_48 (by decide) ?_
        exact ih5 _ _ _ _ hm _ _ _ hw (lv_sub hl [0, 1, 2, 3] rfl)
      · have hm := hm.2 c20
        obtain ⟨v18, e_v18⟩ : ∃ z : Int32, z = x1_3 + 1 := ⟨_, rfl⟩
        have hm := hm v18 e_v18
        refine lv_iinc (v := v18) (lv' := [(1, .int v18), (3, .int x3_1), (2, .int x2_2), (0, .ref (aO 0))]) hx hb dX8_row_36 hl (k := 2) rfl (by rw [e_v18]; rfl) (by decide) rfl (fun ls hl => ?_)
        refine lv_goto (tgt := 45) hx hb dX8_row_39 (by decide) ?_
        obtain ⟨v19, e_v19⟩ : ∃ z : Int32, z = x3_1 + 6 := ⟨_, rfl⟩
        have hm := hm v19 e_v19
        refine lv_iinc (v := v19) (lv' := [(3, .int v19), (1, .int v18), (2, .int x2_2), (0, .ref (aO 0))]) hx hb dX8_row_45 hl (k := 1) rfl (by rw [e_v19]; rfl) (by decide) rfl (fun ls hl => ?_)
        refine lv_goto (tgt := 20) hx hb dX8_row_48 (by decide) ?_
        exact ih5 _ _ _ _ hm _ _ _ hw (lv_sub hl [0, 2, 1, 3] rfl)
  · have hm := hm.2 c25
    refine lv_aload_n hx hb dX8_row_7 rfl (lv_at hl 0 rfl) ?_
    refine lv_bipush (v := (-6)) hx hb dX8_row_8 (by decide) ?_
    refine nV_I (As := [.int (-6)]) (rest := []) (wc := (oW cy aO (aB 0) e_O_images (atp 0) e_O_reader (aP 0) e_O_trial e_O_season e_O_dates e_O_line e_O_evening e_O_choices SO)) (wr := ((tpW cy atp Stp) ++ ((bW cy aB e_B_laws e_B_told e_B_mentions e_B_claims SB) ++ (pW cy aP e_P_judge SP)))) (isC := [0, 1, 2]) (isR := [3, 4, 5, 6, 7, 8, 9, 10, 11, 12, 13, 14, 15, 16, 17, 18, 19, 20]) hc hw (c_X8_refuse hm) lk_X8_89 ⟨rfl, rfl, rfl, rfl, by decide⟩ rfl rfl ⟨Nat.le_of_ble_eq_true rfl, Nat.le_of_ble_eq_true rfl⟩ ⟨Nat.le_of_ble_eq_true rfl, Nat.le_of_ble_eq_true rfl⟩ hl.1 rfl (Nat.le_of_ble_eq_true rfl) rfl dX8_row_10 (fun r22 S23 H locs hm hw => ?_)
    have hw : wV D A s.heap ((oW cy aO (aB 0) e_O_images (atp 0) e_O_reader (aP 0) e_O_trial e_O_season e_O_dates e_O_line e_O_evening e_O_choices S23) ++ ((tpW cy atp Stp) ++ ((bW cy aB e_B_laws e_B_told e_B_mentions e_B_claims SB) ++ (pW cy aP e_P_judge SP)))) H locs := hw.perm [18, 19, 20, 0, 1, 2, 3, 4, 5, 6, 7, 8, 9, 10, 11, 12, 13, 14, 15, 16, 17] rfl rfl
    exact retI (u := (S23, SB, SP)) hc hw hm dX8_row_13
set_option maxHeartbeats 4000000 in
set_option maxRecDepth 100000 in
theorem c_X8_tale {l : Launch} {D : va_G} {cy : Nat → ClassId} {aO : Nat → Nat} {aB : Nat → Nat} {aP : Nat → Nat} {e_O_images : Nat} {e_O_tape : Nat} {e_O_reader : Nat} {e_O_trial : Option Nat} {e_O_season : Option Nat} {e_O_dates : Nat} {e_O_line : Nat} {e_O_evening : Nat} {e_O_choices : Nat} {e_B_laws : Nat} {e_B_told : Nat} {e_B_mentions : Nat} {e_B_claims : Nat} {e_P_judge : Nat} {SO : Ob} {SB : Ob} {SP : Ob} {x1 : Int32} {x2 : Int32} {x3 : Int32} {x4 : Int32} {Q : Int32 → Ob → Ob → Ob → Prop} (hm : w_X8_tale SO SB SP x1 x2 x3 x4 Q) : CtI l yX8_tale cX8_tale 5 (some .int) (rmN 2) D cy [.ref (aO 0), .int x1, .int x2, .int x3, .int x4] ((oW cy aO (aB 0) e_O_images e_O_tape e_O_reader (aP 0) e_O_trial e_O_season e_O_dates e_O_line e_O_evening e_O_choices SO) ++ ((bW cy aB e_B_laws e_B_told e_B_mentions e_B_claims SB) ++ (pW cy aP e_P_judge SP))) (fun u : Ob × Ob × Ob => ((oW cy aO (aB 0) e_O_images e_O_tape e_O_reader (aP 0) e_O_trial e_O_season e_O_dates e_O_line e_O_evening e_O_choices u.1) ++ ((bW cy aB e_B_laws e_B_told e_B_mentions e_B_claims u.2.1) ++ (pW cy aP e_P_judge u.2.2)))) (fun (r : Int32) (u : Ob × Ob × Ob) => Q r u.1 u.2.1 u.2.2) := by
  refine CtI.ofW (by decide) (Nat.le_of_ble_eq_true rfl) ?_
  intro p e s m args below meth c A ls hc hnm hw hl
  have hx := hc.1.1
  have hb := hc.1.2.1
  have hown := hc.1.2.2.2.1
  have hts := hc.1.2.2.2.2
  have hl : lv_has ls 5 [(0, .ref (aO 0)), (1, .int x1), (2, .int x2), (3, .int x3), (4, .int x4)] := hl
  obtain ⟨H, hH⟩ : ∃ z, z = s.heap := ⟨_, rfl⟩
  obtain ⟨locs, hLc⟩ : ∃ z : List Loc, z = [] := ⟨_, rfl⟩
  have hw : wV D A s.heap ((oW cy aO (aB 0) e_O_images e_O_tape e_O_reader (aP 0) e_O_trial e_O_season e_O_dates e_O_line e_O_evening e_O_choices SO) ++ ((bW cy aB e_B_laws e_B_told e_B_mentions e_B_claims SB) ++ (pW cy aP e_P_judge SP))) H locs := by rw [hH, hLc]; exact hw
  have hgo : W p l e (rmN 2) s m args below meth c H locs 0 0 (MQ below (eI D cy A (fun u : Ob × Ob × Ob => ((oW cy aO (aB 0) e_O_images e_O_tape e_O_reader (aP 0) e_O_trial e_O_season e_O_dates e_O_line e_O_evening e_O_choices u.1) ++ ((bW cy aB e_B_laws e_B_told e_B_mentions e_B_claims u.2.1) ++ (pW cy aP e_P_judge u.2.2)))) (fun (r : Int32) (u : Ob × Ob × Ob) => Q r u.1 u.2.1 u.2.2)) args s (rmN 2).cells (rmN 2).slots A) (F0 m 0 ls []) := ?hgo
  · rw [hH, hLc] at hgo; exact hgo
  refine lv_iload_n hx hb dX8_tale_0 rfl (lv_at hl 1 rfl) ?_
  refine lv_iload_n hx hb dX8_tale_1 rfl (lv_at hl 2 rfl) ?_
  refine lv_iload_n hx hb dX8_tale_2 rfl (lv_at hl 3 rfl) ?_
  refine lv_iload hx hb dX8_tale_3 (lv_at hl 4 rfl) ?_
  refine zSN_I (As := [.int x1, .int x2, .int x3, .int x4]) (rest := []) hc hw (c_X6_canBe hm) lk_X8_85 ⟨Nat.le_of_ble_eq_true rfl, Nat.le_of_ble_eq_true rfl⟩ ⟨Nat.le_of_ble_eq_true rfl, Nat.le_of_ble_eq_true rfl⟩ hl.1 rfl (Nat.le_of_ble_eq_true rfl) rfl dX8_tale_5 (fun r1 H locs hm hw => ?_)
  refine lv_if_ne (tgt := 17) hx hb dX8_tale_8 (by decide) (fun c17 => ?_) (fun c17 => ?_)
  · have hm := hm.1 c17
    refine lv_aload_n hx hb dX8_tale_17 rfl (lv_at hl 0 rfl) ?_
    refine gF (k := 0) hc hw inX8 rfl 0 rfl (by decide) (gm 415 (by decide +kernel) rfl) rfl dX8_tale_18 ?_
    refine gN (k := 4) (host := "OlderTale") hc hw inX6 rfl 3 rfl (by decide) (nmm 212 (by decide +kernel)) rfl dX8_tale_21 ?_
    refine lv_bipush (v := 10) hx hb dX8_tale_24 (by decide) ?_
    refine lv_icmp_lt (tgt := 36) hx hb dX8_tale_26 (by decide) (fun c13 => ?_) (fun c13 => ?_)
    · have hm := hm.1 c13
      refine lv_aload_n hx hb dX8_tale_36 rfl (lv_at hl 0 rfl) ?_
      refine gF (k := 0) hc hw inX8 rfl 0 rfl (by decide) (gm 415 (by decide +kernel) rfl) rfl dX8_tale_37 ?_
      refine lv_iload_n hx hb dX8_tale_40 rfl (lv_at hl 1 rfl) ?_
      refine lv_iload_n hx hb dX8_tale_41 rfl (lv_at hl 2 rfl) ?_
      refine lv_iload_n hx hb dX8_tale_42 rfl (lv_at hl 3 rfl) ?_
      refine lv_iload hx hb dX8_tale_43 (lv_at hl 4 rfl) ?_
      refine nVN_V (As := [.int x1, .int x2, .int x3, .int x4]) (rest := []) (wc := (bW cy aB e_B_laws e_B_told e_B_mentions e_B_claims SB)) (wr := ((oW cy aO (aB 0) e_O_images e_O_tape e_O_reader (aP 0) e_O_trial e_O_season e_O_dates e_O_line e_O_evening e_O_choices SO) ++ (pW cy aP e_P_judge SP))) (isC := [3, 4, 5, 6, 7, 8]) (isR := [0, 1, 2, 9, 10, 11, 12, 13, 14, 15, 16, 17, 18, 19]) hc hw (c_X6_add hm) lk_X8_96 ⟨rfl, rfl, rfl, rfl, by decide⟩ rfl rfl ⟨Nat.le_of_ble_eq_true rfl, Nat.le_of_ble_eq_true rfl⟩ ⟨Nat.le_of_ble_eq_true rfl, Nat.le_of_ble_eq_true rfl⟩ hl.1 rfl (Nat.le_of_ble_eq_true rfl) rfl dX8_tale_45 (fun S3 H locs hm hw => ?_)
      have hw : wV D A s.heap ((oW cy aO (aB 0) e_O_images e_O_tape e_O_reader (aP 0) e_O_trial e_O_season e_O_dates e_O_line e_O_evening e_O_choices SO) ++ ((bW cy aB e_B_laws e_B_told e_B_mentions e_B_claims S3) ++ (pW cy aP e_P_judge SP))) H locs := hw.perm [0, 1, 2, 14, 15, 16, 17, 18, 19, 3, 4, 5, 6, 7, 8, 9, 10, 11, 12, 13] rfl rfl
      refine lv_aload_n hx hb dX8_tale_48 rfl (lv_at hl 0 rfl) ?_
      refine gF (k := 8) hc hw inX8 rfl 0 rfl (by decide) (gm 423 (by decide +kernel) rfl) rfl dX8_tale_49 ?_
      refine nVN_V (As := []) (rest := []) (wc := (pW cy aP e_P_judge SP)) (wr := ((oW cy aO (aB 0) e_O_images e_O_tape e_O_reader (aP 0) e_O_trial e_O_season e_O_dates e_O_line e_O_evening e_O_choices SO) ++ (bW cy aB e_B_laws e_B_told e_B_mentions e_B_claims S3))) (isC := [9, 10, 11, 12, 13, 14, 15, 16, 17, 18, 19]) (isR := [0, 1, 2, 3, 4, 5, 6, 7, 8]) hc hw (c_X3_spoil hm) lk_X8_100 ⟨rfl, rfl, rfl, rfl, by decide⟩ rfl rfl ⟨Nat.le_of_ble_eq_true rfl, Nat.le_of_ble_eq_true rfl⟩ ⟨Nat.le_of_ble_eq_true rfl, Nat.le_of_ble_eq_true rfl⟩ hl.1 rfl (Nat.le_of_ble_eq_true rfl) rfl dX8_tale_52 (fun S5 H locs hm hw => ?_)
      have hw : wV D A s.heap ((oW cy aO (aB 0) e_O_images e_O_tape e_O_reader (aP 0) e_O_trial e_O_season e_O_dates e_O_line e_O_evening e_O_choices SO) ++ ((bW cy aB e_B_laws e_B_told e_B_mentions e_B_claims S3) ++ (pW cy aP e_P_judge S5))) H locs := hw.perm [0, 1, 2, 3, 4, 5, 6, 7, 8, 9, 10, 11, 12, 13, 14, 15, 16, 17, 18, 19] rfl rfl
      refine lv_aload_n hx hb dX8_tale_55 rfl (lv_at hl 0 rfl) ?_
      refine lv_aload_n hx hb dX8_tale_56 rfl (lv_at hl 0 rfl) ?_
      refine gF (k := 0) hc hw inX8 rfl 0 rfl (by decide) (gm 415 (by decide +kernel) rfl) rfl dX8_tale_57 ?_
      refine gN (k := 4) (host := "OlderTale") hc hw inX6 rfl 3 rfl (by decide) (nmm 212 (by decide +kernel)) rfl dX8_tale_60 ?_
      refine lv_iconst (v := 1) hx hb dX8_tale_63 (by decide) ?_
      refine lv_isub hx hb dX8_tale_64 ?_
      refine nV_I (As := [.int ((S3.1 4) - 1)]) (rest := []) (wc := (oW cy aO (aB 0) e_O_images e_O_tape e_O_reader (aP 0) e_O_trial e_O_season e_O_dates e_O_line e_O_evening e_O_choices SO)) (wr := ((bW cy aB e_B_laws e_B_told e_B_mentions e_B_claims S3) ++ (pW cy aP e_P_judge S5))) (isC := [0, 1, 2]) (isR := [3, 4, 5, 6, 7, 8, 9, 10, 11, 12, 13, 14, 15, 16, 17, 18, 19]) hc hw (c_X8_accept hm) lk_X8_103 ⟨rfl, rfl, rfl, rfl, by decide⟩ rfl rfl ⟨Nat.le_of_ble_eq_true rfl, Nat.le_of_ble_eq_true rfl⟩ ⟨Nat.le_of_ble_eq_true rfl, Nat.le_of_ble_eq_true rfl⟩ hl.1 rfl (Nat.le_of_ble_eq_true rfl) rfl dX8_tale_65 (fun r7 S8 H locs hm hw => ?_)
      have hw : wV D A s.heap ((oW cy aO (aB 0) e_O_images e_O_tape e_O_reader (aP 0) e_O_trial e_O_season e_O_dates e_O_line e_O_evening e_O_choices S8) ++ ((bW cy aB e_B_laws e_B_told e_B_mentions e_B_claims S3) ++ (pW cy aP e_P_judge S5))) H locs := hw.perm [17, 18, 19, 0, 1, 2, 3, 4, 5, 6, 7, 8, 9, 10, 11, 12, 13, 14, 15, 16] rfl rfl
      exact retI (u := (S8, S3, S5)) hc hw hm dX8_tale_68
    · have hm := hm.2 c13
      refine lv_aload_n hx hb dX8_tale_29 rfl (lv_at hl 0 rfl) ?_
      refine lv_bipush (v := (-5)) hx hb dX8_tale_30 (by decide) ?_
      refine nV_I (As := [.int (-5)]) (rest := []) (wc := (oW cy aO (aB 0) e_O_images e_O_tape e_O_reader (aP 0) e_O_trial e_O_season e_O_dates e_O_line e_O_evening e_O_choices SO)) (wr := ((bW cy aB e_B_laws e_B_told e_B_mentions e_B_claims SB) ++ (pW cy aP e_P_judge SP))) (isC := [0, 1, 2]) (isR := [3, 4, 5, 6, 7, 8, 9, 10, 11, 12, 13, 14, 15, 16, 17, 18, 19]) hc hw (c_X8_refuse hm) lk_X8_89 ⟨rfl, rfl, rfl, rfl, by decide⟩ rfl rfl ⟨Nat.le_of_ble_eq_true rfl, Nat.le_of_ble_eq_true rfl⟩ ⟨Nat.le_of_ble_eq_true rfl, Nat.le_of_ble_eq_true rfl⟩ hl.1 rfl (Nat.le_of_ble_eq_true rfl) rfl dX8_tale_32 (fun r10 S11 H locs hm hw => ?_)
      have hw : wV D A s.heap ((oW cy aO (aB 0) e_O_images e_O_tape e_O_reader (aP 0) e_O_trial e_O_season e_O_dates e_O_line e_O_evening e_O_choices S11) ++ ((bW cy aB e_B_laws e_B_told e_B_mentions e_B_claims SB) ++ (pW cy aP e_P_judge SP))) H locs := hw.perm [17, 18, 19, 0, 1, 2, 3, 4, 5, 6, 7, 8, 9, 10, 11, 12, 13, 14, 15, 16] rfl rfl
      exact retI (u := (S11, SB, SP)) hc hw hm dX8_tale_35
  · have hm := hm.2 c17
    refine lv_aload_n hx hb dX8_tale_11 rfl (lv_at hl 0 rfl) ?_
    refine lv_iconst (v := (-1)) hx hb dX8_tale_12 (by decide) ?_
    refine nV_I (As := [.int (-1)]) (rest := []) (wc := (oW cy aO (aB 0) e_O_images e_O_tape e_O_reader (aP 0) e_O_trial e_O_season e_O_dates e_O_line e_O_evening e_O_choices SO)) (wr := ((bW cy aB e_B_laws e_B_told e_B_mentions e_B_claims SB) ++ (pW cy aP e_P_judge SP))) (isC := [0, 1, 2]) (isR := [3, 4, 5, 6, 7, 8, 9, 10, 11, 12, 13, 14, 15, 16, 17, 18, 19]) hc hw (c_X8_refuse hm) lk_X8_89 ⟨rfl, rfl, rfl, rfl, by decide⟩ rfl rfl ⟨Nat.le_of_ble_eq_true rfl, Nat.le_of_ble_eq_true rfl⟩ ⟨Nat.le_of_ble_eq_true rfl, Nat.le_of_ble_eq_true rfl⟩ hl.1 rfl (Nat.le_of_ble_eq_true rfl) rfl dX8_tale_13 (fun r14 S15 H locs hm hw => ?_)
    have hw : wV D A s.heap ((oW cy aO (aB 0) e_O_images e_O_tape e_O_reader (aP 0) e_O_trial e_O_season e_O_dates e_O_line e_O_evening e_O_choices S15) ++ ((bW cy aB e_B_laws e_B_told e_B_mentions e_B_claims SB) ++ (pW cy aP e_P_judge SP))) H locs := hw.perm [17, 18, 19, 0, 1, 2, 3, 4, 5, 6, 7, 8, 9, 10, 11, 12, 13, 14, 15, 16] rfl rfl
    exact retI (u := (S15, SB, SP)) hc hw hm dX8_tale_16
set_option maxHeartbeats 4000000 in
set_option maxRecDepth 100000 in
theorem c_X8_terms {l : Launch} {D : va_G} {cy : Nat → ClassId} {aO : Nat → Nat} {aB : Nat → Nat} {aP : Nat → Nat} {e_O_images : Nat} {e_O_tape : Nat} {e_O_reader : Nat} {e_O_trial : Option Nat} {e_O_season : Option Nat} {e_O_dates : Nat} {e_O_line : Nat} {e_O_evening : Nat} {e_O_choices : Nat} {e_B_laws : Nat} {e_B_told : Nat} {e_B_mentions : Nat} {e_B_claims : Nat} {e_P_judge : Nat} {SO : Ob} {SB : Ob} {SP : Ob} {x1 : Int32} {x2 : Int32} {Q : Int32 → Ob → Ob → Ob → Prop} (hm : w_X8_terms SO SB SP x1 x2 Q) : CtI l yX8_terms cX8_terms 5 (some .int) (rmN 1) D cy [.ref (aO 0), .int x1, .int x2] ((oW cy aO (aB 0) e_O_images e_O_tape e_O_reader (aP 0) e_O_trial e_O_season e_O_dates e_O_line e_O_evening e_O_choices SO) ++ ((bW cy aB e_B_laws e_B_told e_B_mentions e_B_claims SB) ++ (pW cy aP e_P_judge SP))) (fun u : Ob × Ob × Ob => ((oW cy aO (aB 0) e_O_images e_O_tape e_O_reader (aP 0) e_O_trial e_O_season e_O_dates e_O_line e_O_evening e_O_choices u.1) ++ ((bW cy aB e_B_laws e_B_told e_B_mentions e_B_claims u.2.1) ++ (pW cy aP e_P_judge u.2.2)))) (fun (r : Int32) (u : Ob × Ob × Ob) => Q r u.1 u.2.1 u.2.2) := by
  refine CtI.ofW (by decide) (Nat.le_of_ble_eq_true rfl) ?_
  intro p e s m args below meth c A ls hc hnm hw hl
  have hx := hc.1.1
  have hb := hc.1.2.1
  have hown := hc.1.2.2.2.1
  have hts := hc.1.2.2.2.2
  have hl : lv_has ls 5 [(0, .ref (aO 0)), (1, .int x1), (2, .int x2)] := hl
  obtain ⟨H, hH⟩ : ∃ z, z = s.heap := ⟨_, rfl⟩
  obtain ⟨locs, hLc⟩ : ∃ z : List Loc, z = [] := ⟨_, rfl⟩
  have hw : wV D A s.heap ((oW cy aO (aB 0) e_O_images e_O_tape e_O_reader (aP 0) e_O_trial e_O_season e_O_dates e_O_line e_O_evening e_O_choices SO) ++ ((bW cy aB e_B_laws e_B_told e_B_mentions e_B_claims SB) ++ (pW cy aP e_P_judge SP))) H locs := by rw [hH, hLc]; exact hw
  have hgo : W p l e (rmN 1) s m args below meth c H locs 0 0 (MQ below (eI D cy A (fun u : Ob × Ob × Ob => ((oW cy aO (aB 0) e_O_images e_O_tape e_O_reader (aP 0) e_O_trial e_O_season e_O_dates e_O_line e_O_evening e_O_choices u.1) ++ ((bW cy aB e_B_laws e_B_told e_B_mentions e_B_claims u.2.1) ++ (pW cy aP e_P_judge u.2.2)))) (fun (r : Int32) (u : Ob × Ob × Ob) => Q r u.1 u.2.1 u.2.2)) args s (rmN 1).cells (rmN 1).slots A) (F0 m 0 ls []) := ?hgo
  · rw [hH, hLc] at hgo; exact hgo
  refine lv_iload_n hx hb dX8_terms_0 rfl (lv_at hl 1 rfl) ?_
  obtain ⟨J2, eJ2, hm⟩ := jn_e hm
  have hJ2 : ∀ (t1 : Int32) (_ : J2 t1) (H : Heap) (locs : List Loc) (ls : Array Slot), wV D A s.heap ((oW cy aO (aB 0) e_O_images e_O_tape e_O_reader (aP 0) e_O_trial e_O_season e_O_dates e_O_line e_O_evening e_O_choices SO) ++ ((bW cy aB e_B_laws e_B_told e_B_mentions e_B_claims SB) ++ (pW cy aP e_P_judge SP))) H locs → lv_has ls 5 [(0, .ref (aO 0)), (1, .int x1), (2, .int x2)] → W p l e (rmN 1) s m args below meth c H locs 0 0 (MQ below (eI D cy A (fun u : Ob × Ob × Ob => ((oW cy aO (aB 0) e_O_images e_O_tape e_O_reader (aP 0) e_O_trial e_O_season e_O_dates e_O_line e_O_evening e_O_choices u.1) ++ ((bW cy aB e_B_laws e_B_told e_B_mentions e_B_claims u.2.1) ++ (pW cy aP e_P_judge u.2.2)))) (fun (r : Int32) (u : Ob × Ob × Ob) => Q r u.1 u.2.1 u.2.2)) args s (rmN 1).cells (rmN 1).slots A) (F0 m 48 ls [.int t1]) := by
    intro t1 hm H locs ls hw hl
    rw [eJ2] at hm
    refine lv_istore_n (lv' := [(3, .int t1), (0, .ref (aO 0)), (1, .int x1), (2, .int x2)]) hx hb dX8_terms_48 rfl hl (by decide) rfl (fun ls hl => ?_)
    refine lv_iload_n hx hb dX8_terms_49 rfl (lv_at hl 0 rfl) ?_
    refine lv_if_ne (tgt := 59) hx hb dX8_terms_50 (by decide) (fun c15 => ?_) (fun c15 => ?_)
    · have hm := hm.1 c15
      refine lv_aload_n hx hb dX8_terms_59 rfl (lv_at hl 1 rfl) ?_
      refine gF (k := 0) hc hw inX8 rfl 0 rfl (by decide) (gm 415 (by decide +kernel) rfl) rfl dX8_terms_60 ?_
      refine gN (k := 5) (host := "OlderTale") hc hw inX6 rfl 3 rfl (by decide) (nmm 218 (by decide +kernel)) rfl dX8_terms_63 ?_
      refine lv_iload_n hx hb dX8_terms_66 rfl (lv_at hl 2 rfl) ?_
      obtain ⟨c3, hm⟩ := hm
      refine aI hc hw 8 rfl c3 rfl dX8_terms_67 ?_
      refine lv_topi (fun v4 e_v4 => ?_)
      have hm := hm v4 e_v4
      refine lv_istore (lv' := [(4, .int v4), (3, .int t1), (0, .ref (aO 0)), (1, .int x1), (2, .int x2)]) hx hb dX8_terms_68 hl (by decide) rfl (fun ls hl => ?_)
      refine lv_aload_n hx hb dX8_terms_70 rfl (lv_at hl 2 rfl) ?_
      refine gF (k := 0) hc hw inX8 rfl 0 rfl (by decide) (gm 415 (by decide +kernel) rfl) rfl dX8_terms_71 ?_
      refine gN (k := 5) (host := "OlderTale") hc hw inX6 rfl 3 rfl (by decide) (nmm 218 (by decide +kernel)) rfl dX8_terms_74 ?_
      refine lv_iload_n hx hb dX8_terms_77 rfl (lv_at hl 3 rfl) ?_
      refine lv_iload_n hx hb dX8_terms_78 rfl (lv_at hl 4 rfl) ?_
      obtain ⟨c5, hm⟩ := hm
      refine sI hc hw 8 rfl c5 rfl dX8_terms_79 (fun H locs hw => ?_)
      obtain ⟨S6, e_S6⟩ : ∃ z : Ob, z = uA SB 5 (Int32.toNatClampNeg x1) x2 := ⟨_, rfl⟩
      have hm := hm S6 e_S6
      have hw : wV D A s.heap ((oW cy aO (aB 0) e_O_images e_O_tape e_O_reader (aP 0) e_O_trial e_O_season e_O_dates e_O_line e_O_evening e_O_choices SO) ++ ((bW cy aB e_B_laws e_B_told e_B_mentions e_B_claims S6) ++ (pW cy aP e_P_judge SP))) H locs := by rw [e_S6]; exact hw
      refine lv_aload_n hx hb dX8_terms_80 rfl (lv_at hl 2 rfl) ?_
      refine gF (k := 8) hc hw inX8 rfl 0 rfl (by decide) (gm 423 (by decide +kernel) rfl) rfl dX8_terms_81 ?_
      refine nVN_V (As := []) (rest := []) (wc := (pW cy aP e_P_judge SP)) (wr := ((oW cy aO (aB 0) e_O_images e_O_tape e_O_reader (aP 0) e_O_trial e_O_season e_O_dates e_O_line e_O_evening e_O_choices SO) ++ (bW cy aB e_B_laws e_B_told e_B_mentions e_B_claims S6))) (isC := [9, 10, 11, 12, 13, 14, 15, 16, 17, 18, 19]) (isR := [0, 1, 2, 3, 4, 5, 6, 7, 8]) hc hw (c_X3_spoil hm) lk_X8_100 ⟨rfl, rfl, rfl, rfl, by decide⟩ rfl rfl ⟨Nat.le_of_ble_eq_true rfl, Nat.le_of_ble_eq_true rfl⟩ ⟨Nat.le_of_ble_eq_true rfl, Nat.le_of_ble_eq_true rfl⟩ hl.1 rfl (Nat.le_of_ble_eq_true rfl) rfl dX8_terms_84 (fun S7 H locs hm hw => ?_)
      have hw : wV D A s.heap ((oW cy aO (aB 0) e_O_images e_O_tape e_O_reader (aP 0) e_O_trial e_O_season e_O_dates e_O_line e_O_evening e_O_choices SO) ++ ((bW cy aB e_B_laws e_B_told e_B_mentions e_B_claims S6) ++ (pW cy aP e_P_judge S7))) H locs := hw.perm [0, 1, 2, 3, 4, 5, 6, 7, 8, 9, 10, 11, 12, 13, 14, 15, 16, 17, 18, 19] rfl rfl
      refine lv_aload_n hx hb dX8_terms_87 rfl (lv_at hl 2 rfl) ?_
      refine lv_iload hx hb dX8_terms_88 (lv_at hl 0 rfl) ?_
      refine nV_I (As := [.int v4]) (rest := []) (wc := (oW cy aO (aB 0) e_O_images e_O_tape e_O_reader (aP 0) e_O_trial e_O_season e_O_dates e_O_line e_O_evening e_O_choices SO)) (wr := ((bW cy aB e_B_laws e_B_told e_B_mentions e_B_claims S6) ++ (pW cy aP e_P_judge S7))) (isC := [0, 1, 2]) (isR := [3, 4, 5, 6, 7, 8, 9, 10, 11, 12, 13, 14, 15, 16, 17, 18, 19]) hc hw (c_X8_accept hm) lk_X8_103 ⟨rfl, rfl, rfl, rfl, by decide⟩ rfl rfl ⟨Nat.le_of_ble_eq_true rfl, Nat.le_of_ble_eq_true rfl⟩ ⟨Nat.le_of_ble_eq_true rfl, Nat.le_of_ble_eq_true rfl⟩ hl.1 rfl (Nat.le_of_ble_eq_true rfl) rfl dX8_terms_90 (fun r9 S10 H locs hm hw => ?_)
      have hw : wV D A s.heap ((oW cy aO (aB 0) e_O_images e_O_tape e_O_reader (aP 0) e_O_trial e_O_season e_O_dates e_O_line e_O_evening e_O_choices S10) ++ ((bW cy aB e_B_laws e_B_told e_B_mentions e_B_claims S6) ++ (pW cy aP e_P_judge S7))) H locs := hw.perm [17, 18, 19, 0, 1, 2, 3, 4, 5, 6, 7, 8, 9, 10, 11, 12, 13, 14, 15, 16] rfl rfl
      exact retI (u := (S10, S6, S7)) hc hw hm dX8_terms_93
    · have hm := hm.2 c15
      refine lv_aload_n hx hb dX8_terms_53 rfl (lv_at hl 1 rfl) ?_
      refine lv_iconst (v := (-1)) hx hb dX8_terms_54 (by decide) ?_
      refine nV_I (As := [.int (-1)]) (rest := []) (wc := (oW cy aO (aB 0) e_O_images e_O_tape e_O_reader (aP 0) e_O_trial e_O_season e_O_dates e_O_line e_O_evening e_O_choices SO)) (wr := ((bW cy aB e_B_laws e_B_told e_B_mentions e_B_claims SB) ++ (pW cy aP e_P_judge SP))) (isC := [0, 1, 2]) (isR := [3, 4, 5, 6, 7, 8, 9, 10, 11, 12, 13, 14, 15, 16, 17, 18, 19]) hc hw (c_X8_refuse hm) lk_X8_89 ⟨rfl, rfl, rfl, rfl, by decide⟩ rfl rfl ⟨Nat.le_of_ble_eq_true rfl, Nat.le_of_ble_eq_true rfl⟩ ⟨Nat.le_of_ble_eq_true rfl, Nat.le_of_ble_eq_true rfl⟩ hl.1 rfl (Nat.le_of_ble_eq_true rfl) rfl dX8_terms_55 (fun r12 S13 H locs hm hw => ?_)
      have hw : wV D A s.heap ((oW cy aO (aB 0) e_O_images e_O_tape e_O_reader (aP 0) e_O_trial e_O_season e_O_dates e_O_line e_O_evening e_O_choices S13) ++ ((bW cy aB e_B_laws e_B_told e_B_mentions e_B_claims SB) ++ (pW cy aP e_P_judge SP))) H locs := hw.perm [17, 18, 19, 0, 1, 2, 3, 4, 5, 6, 7, 8, 9, 10, 11, 12, 13, 14, 15, 16] rfl rfl
      exact retI (u := (S13, SB, SP)) hc hw hm dX8_terms_58
  obtain ⟨J17, eJ17, hm⟩ := jn_e hm
  have hJ17 : ∀ (z16 : Unit) (_ : J17 z16) (H : Heap) (locs : List Loc) (ls : Array Slot), wV D A s.heap ((oW cy aO (aB 0) e_O_images e_O_tape e_O_reader (aP 0) e_O_trial e_O_season e_O_dates e_O_line e_O_evening e_O_choices SO) ++ ((bW cy aB e_B_laws e_B_told e_B_mentions e_B_claims SB) ++ (pW cy aP e_P_judge SP))) H locs → lv_has ls 5 [(0, .ref (aO 0)), (1, .int x1), (2, .int x2)] → W p l e (rmN 1) s m args below meth c H locs 0 0 (MQ below (eI D cy A (fun u : Ob × Ob × Ob => ((oW cy aO (aB 0) e_O_images e_O_tape e_O_reader (aP 0) e_O_trial e_O_season e_O_dates e_O_line e_O_evening e_O_choices u.1) ++ ((bW cy aB e_B_laws e_B_told e_B_mentions e_B_claims u.2.1) ++ (pW cy aP e_P_judge u.2.2)))) (fun (r : Int32) (u : Ob × Ob × Ob) => Q r u.1 u.2.1 u.2.2)) args s (rmN 1).cells (rmN 1).slots A) (F0 m 43 ls []) := by
    intro z16 hm H locs ls hw hl
    rw [eJ17] at hm
    refine lv_iconst (v := 1) hx hb dX8_terms_43 (by decide) ?_
    refine lv_goto (tgt := 48) hx hb dX8_terms_44 (by decide) ?_
    exact hJ2 _ hm _ _ _ hw (lv_sub hl [0, 1, 2] rfl)
  obtain ⟨J19, eJ19, hm⟩ := jn_e hm
  have hJ19 : ∀ (z18 : Unit) (_ : J19 z18) (H : Heap) (locs : List Loc) (ls : Array Slot), wV D A s.heap ((oW cy aO (aB 0) e_O_images e_O_tape e_O_reader (aP 0) e_O_trial e_O_season e_O_dates e_O_line e_O_evening e_O_choices SO) ++ ((bW cy aB e_B_laws e_B_told e_B_mentions e_B_claims SB) ++ (pW cy aP e_P_judge SP))) H locs → lv_has ls 5 [(0, .ref (aO 0)), (1, .int x1), (2, .int x2)] → W p l e (rmN 1) s m args below meth c H locs 0 0 (MQ below (eI D cy A (fun u : Ob × Ob × Ob => ((oW cy aO (aB 0) e_O_images e_O_tape e_O_reader (aP 0) e_O_trial e_O_season e_O_dates e_O_line e_O_evening e_O_choices u.1) ++ ((bW cy aB e_B_laws e_B_told e_B_mentions e_B_claims u.2.1) ++ (pW cy aP e_P_judge u.2.2)))) (fun (r : Int32) (u : Ob × Ob × Ob) => Q r u.1 u.2.1 u.2.2)) args s (rmN 1).cells (rmN 1).slots A) (F0 m 14 ls []) := by
    intro z18 hm H locs ls hw hl
    rw [eJ19] at hm
    refine lv_iload_n hx hb dX8_terms_14 rfl (lv_at hl 1 rfl) ?_
    refine lv_iconst (v := 1) hx hb dX8_terms_15 (by decide) ?_
    obtain ⟨J21, eJ21, hm⟩ := jn_e hm
    have hJ21 : ∀ (z20 : Unit) (_ : J21 z20) (H : Heap) (locs : List Loc) (ls : Array Slot), wV D A s.heap ((oW cy aO (aB 0) e_O_images e_O_tape e_O_reader (aP 0) e_O_trial e_O_season e_O_dates e_O_line e_O_evening e_O_choices SO) ++ ((bW cy aB e_B_laws e_B_told e_B_mentions e_B_claims SB) ++ (pW cy aP e_P_judge SP))) H locs → lv_has ls 5 [(0, .ref (aO 0)), (1, .int x1), (2, .int x2)] → W p l e (rmN 1) s m args below meth c H locs 0 0 (MQ below (eI D cy A (fun u : Ob × Ob × Ob => ((oW cy aO (aB 0) e_O_images e_O_tape e_O_reader (aP 0) e_O_trial e_O_season e_O_dates e_O_line e_O_evening e_O_choices u.1) ++ ((bW cy aB e_B_laws e_B_told e_B_mentions e_B_claims u.2.1) ++ (pW cy aP e_P_judge u.2.2)))) (fun (r : Int32) (u : Ob × Ob × Ob) => Q r u.1 u.2.1 u.2.2)) args s (rmN 1).cells (rmN 1).slots A) (F0 m 28 ls []) := by
      intro z20 hm H locs ls hw hl
      rw [eJ21] at hm
      refine lv_iload_n hx hb dX8_terms_28 rfl (lv_at hl 1 rfl) ?_
      refine lv_iconst (v := 2) hx hb dX8_terms_29 (by decide) ?_
      obtain ⟨J23, eJ23, hm⟩ := jn_e hm
      have hJ23 : ∀ (z22 : Unit) (_ : J23 z22) (H : Heap) (locs : List Loc) (ls : Array Slot), wV D A s.heap ((oW cy aO (aB 0) e_O_images e_O_tape e_O_reader (aP 0) e_O_trial e_O_season e_O_dates e_O_line e_O_evening e_O_choices SO) ++ ((bW cy aB e_B_laws e_B_told e_B_mentions e_B_claims SB) ++ (pW cy aP e_P_judge SP))) H locs → lv_has ls 5 [(0, .ref (aO 0)), (1, .int x1), (2, .int x2)] → W p l e (rmN 1) s m args below meth c H locs 0 0 (MQ below (eI D cy A (fun u : Ob × Ob × Ob => ((oW cy aO (aB 0) e_O_images e_O_tape e_O_reader (aP 0) e_O_trial e_O_season e_O_dates e_O_line e_O_evening e_O_choices u.1) ++ ((bW cy aB e_B_laws e_B_told e_B_mentions e_B_claims u.2.1) ++ (pW cy aP e_P_judge u.2.2)))) (fun (r : Int32) (u : Ob × Ob × Ob) => Q r u.1 u.2.1 u.2.2)) args s (rmN 1).cells (rmN 1).slots A) (F0 m 47 ls []) := by
        intro z22 hm H locs ls hw hl
        rw [eJ23] at hm
        refine lv_iconst (v := 0) hx hb dX8_terms_47 (by decide) ?_
        exact hJ2 _ hm _ _ _ hw (lv_sub hl [0, 1, 2] rfl)
      refine lv_icmp_ne (tgt := 47) hx hb dX8_terms_30 (by decide) (fun c26 => ?_) (fun c26 => ?_)
      · have hm := hm.1 c26
        exact hJ23 _ hm _ _ _ hw (lv_sub hl [0, 1, 2] rfl)
      · have hm := hm.2 c26
        refine lv_iload_n hx hb dX8_terms_33 rfl (lv_at hl 2 rfl) ?_
        refine lv_if_lt (tgt := 47) hx hb dX8_terms_34 (by decide) (fun c25 => ?_) (fun c25 => ?_)
        · have hm := hm.1 c25
          exact hJ23 _ hm _ _ _ hw (lv_sub hl [0, 1, 2] rfl)
        · have hm := hm.2 c25
          refine lv_iload_n hx hb dX8_terms_37 rfl (lv_at hl 2 rfl) ?_
          refine lv_bipush (v := 9) hx hb dX8_terms_38 (by decide) ?_
          refine lv_icmp_gt (tgt := 47) hx hb dX8_terms_40 (by decide) (fun c24 => ?_) (fun c24 => ?_)
          · have hm := hm.1 c24
            exact hJ23 _ hm _ _ _ hw (lv_sub hl [0, 1, 2] rfl)
          · have hm := hm.2 c24
            exact hJ17 _ hm _ _ _ hw (lv_sub hl [0, 1, 2] rfl)
    refine lv_icmp_ne (tgt := 28) hx hb dX8_terms_16 (by decide) (fun c29 => ?_) (fun c29 => ?_)
    · have hm := hm.1 c29
      exact hJ21 _ hm _ _ _ hw (lv_sub hl [0, 1, 2] rfl)
    · have hm := hm.2 c29
      refine lv_iload_n hx hb dX8_terms_19 rfl (lv_at hl 2 rfl) ?_
      refine lv_if_lt (tgt := 28) hx hb dX8_terms_20 (by decide) (fun c28 => ?_) (fun c28 => ?_)
      · have hm := hm.1 c28
        exact hJ21 _ hm _ _ _ hw (lv_sub hl [0, 1, 2] rfl)
      · have hm := hm.2 c28
        refine lv_iload_n hx hb dX8_terms_23 rfl (lv_at hl 2 rfl) ?_
        refine lv_iconst (v := 1) hx hb dX8_terms_24 (by decide) ?_
        refine lv_icmp_le (tgt := 43) hx hb dX8_terms_25 (by decide) (fun c27 => ?_) (fun c27 => ?_)
        · have hm := hm.1 c27
          exact hJ17 _ hm _ _ _ hw (lv_sub hl [0, 1, 2] rfl)
        · have hm := hm.2 c27
          exact hJ21 _ hm _ _ _ hw (lv_sub hl [0, 1, 2] rfl)
  refine lv_if_ne (tgt := 14) hx hb dX8_terms_1 (by decide) (fun c32 => ?_) (fun c32 => ?_)
  · have hm := hm.1 c32
    exact hJ19 _ hm _ _ _ hw (lv_sub hl [0, 1, 2] rfl)
  · have hm := hm.2 c32
    refine lv_iload_n hx hb dX8_terms_4 rfl (lv_at hl 2 rfl) ?_
    refine lv_iconst (v := 1) hx hb dX8_terms_5 (by decide) ?_
    refine lv_icmp_lt (tgt := 14) hx hb dX8_terms_6 (by decide) (fun c31 => ?_) (fun c31 => ?_)
    · have hm := hm.1 c31
      exact hJ19 _ hm _ _ _ hw (lv_sub hl [0, 1, 2] rfl)
    · have hm := hm.2 c31
      refine lv_iload_n hx hb dX8_terms_9 rfl (lv_at hl 2 rfl) ?_
      refine lv_iconst (v := 4) hx hb dX8_terms_10 (by decide) ?_
      refine lv_icmp_le (tgt := 43) hx hb dX8_terms_11 (by decide) (fun c30 => ?_) (fun c30 => ?_)
      · have hm := hm.1 c30
        exact hJ17 _ hm _ _ _ hw (lv_sub hl [0, 1, 2] rfl)
      · have hm := hm.2 c30
        exact hJ19 _ hm _ _ _ hw (lv_sub hl [0, 1, 2] rfl)
set_option maxHeartbeats 4000000 in
set_option maxRecDepth 100000 in
theorem c_X8_force {l : Launch} {D : va_G} {cy : Nat → ClassId} {aO : Nat → Nat} {aB : Nat → Nat} {aP : Nat → Nat} {e_O_images : Nat} {e_O_tape : Nat} {e_O_reader : Nat} {e_O_trial : Option Nat} {e_O_season : Option Nat} {e_O_dates : Nat} {e_O_line : Nat} {e_O_evening : Nat} {e_O_choices : Nat} {e_B_laws : Nat} {e_B_told : Nat} {e_B_mentions : Nat} {e_B_claims : Nat} {e_P_judge : Nat} {SO : Ob} {SB : Ob} {SP : Ob} {x1 : Int32} {Q : Int32 → Ob → Ob → Ob → Prop} (hm : w_X8_force SO SB SP x1 Q) : CtI l yX8_force cX8_force 3 (some .int) (rmN 1) D cy [.ref (aO 0), .int x1] ((oW cy aO (aB 0) e_O_images e_O_tape e_O_reader (aP 0) e_O_trial e_O_season e_O_dates e_O_line e_O_evening e_O_choices SO) ++ ((bW cy aB e_B_laws e_B_told e_B_mentions e_B_claims SB) ++ (pW cy aP e_P_judge SP))) (fun u : Ob × Ob × Ob => ((oW cy aO (aB 0) e_O_images e_O_tape e_O_reader (aP 0) e_O_trial e_O_season e_O_dates e_O_line e_O_evening e_O_choices u.1) ++ ((bW cy aB e_B_laws e_B_told e_B_mentions e_B_claims u.2.1) ++ (pW cy aP e_P_judge u.2.2)))) (fun (r : Int32) (u : Ob × Ob × Ob) => Q r u.1 u.2.1 u.2.2) := by
  refine CtI.ofW (by decide) (Nat.le_of_ble_eq_true rfl) ?_
  intro p e s m args below meth c A ls hc hnm hw hl
  have hx := hc.1.1
  have hb := hc.1.2.1
  have hown := hc.1.2.2.2.1
  have hts := hc.1.2.2.2.2
  have hl : lv_has ls 3 [(0, .ref (aO 0)), (1, .int x1)] := hl
  obtain ⟨H, hH⟩ : ∃ z, z = s.heap := ⟨_, rfl⟩
  obtain ⟨locs, hLc⟩ : ∃ z : List Loc, z = [] := ⟨_, rfl⟩
  have hw : wV D A s.heap ((oW cy aO (aB 0) e_O_images e_O_tape e_O_reader (aP 0) e_O_trial e_O_season e_O_dates e_O_line e_O_evening e_O_choices SO) ++ ((bW cy aB e_B_laws e_B_told e_B_mentions e_B_claims SB) ++ (pW cy aP e_P_judge SP))) H locs := by rw [hH, hLc]; exact hw
  have hgo : W p l e (rmN 1) s m args below meth c H locs 0 0 (MQ below (eI D cy A (fun u : Ob × Ob × Ob => ((oW cy aO (aB 0) e_O_images e_O_tape e_O_reader (aP 0) e_O_trial e_O_season e_O_dates e_O_line e_O_evening e_O_choices u.1) ++ ((bW cy aB e_B_laws e_B_told e_B_mentions e_B_claims u.2.1) ++ (pW cy aP e_P_judge u.2.2)))) (fun (r : Int32) (u : Ob × Ob × Ob) => Q r u.1 u.2.1 u.2.2)) args s (rmN 1).cells (rmN 1).slots A) (F0 m 0 ls []) := ?hgo
  · rw [hH, hLc] at hgo; exact hgo
  refine lv_iload_n hx hb dX8_force_0 rfl (lv_at hl 1 rfl) ?_
  refine lv_iconst (v := (-1)) hx hb dX8_force_1 (by decide) ?_
  obtain ⟨J2, eJ2, hm⟩ := jn_e hm
  have hJ2 : ∀ (z1 : Unit) (_ : J2 z1) (H : Heap) (locs : List Loc) (ls : Array Slot), wV D A s.heap ((oW cy aO (aB 0) e_O_images e_O_tape e_O_reader (aP 0) e_O_trial e_O_season e_O_dates e_O_line e_O_evening e_O_choices SO) ++ ((bW cy aB e_B_laws e_B_told e_B_mentions e_B_claims SB) ++ (pW cy aP e_P_judge SP))) H locs → lv_has ls 3 [(0, .ref (aO 0))] → W p l e (rmN 1) s m args below meth c H locs 0 0 (MQ below (eI D cy A (fun u : Ob × Ob × Ob => ((oW cy aO (aB 0) e_O_images e_O_tape e_O_reader (aP 0) e_O_trial e_O_season e_O_dates e_O_line e_O_evening e_O_choices u.1) ++ ((bW cy aB e_B_laws e_B_told e_B_mentions e_B_claims u.2.1) ++ (pW cy aP e_P_judge u.2.2)))) (fun (r : Int32) (u : Ob × Ob × Ob) => Q r u.1 u.2.1 u.2.2)) args s (rmN 1).cells (rmN 1).slots A) (F0 m 16 ls []) := by
    intro z1 hm H locs ls hw hl
    rw [eJ2] at hm
    refine lv_aload_n hx hb dX8_force_16 rfl (lv_at hl 0 rfl) ?_
    refine lv_bipush (v := (-2)) hx hb dX8_force_17 (by decide) ?_
    refine nV_I (As := [.int (-2)]) (rest := []) (wc := (oW cy aO (aB 0) e_O_images e_O_tape e_O_reader (aP 0) e_O_trial e_O_season e_O_dates e_O_line e_O_evening e_O_choices SO)) (wr := ((bW cy aB e_B_laws e_B_told e_B_mentions e_B_claims SB) ++ (pW cy aP e_P_judge SP))) (isC := [0, 1, 2]) (isR := [3, 4, 5, 6, 7, 8, 9, 10, 11, 12, 13, 14, 15, 16, 17, 18, 19]) hc hw (c_X8_refuse hm) lk_X8_89 ⟨rfl, rfl, rfl, rfl, by decide⟩ rfl rfl ⟨Nat.le_of_ble_eq_true rfl, Nat.le_of_ble_eq_true rfl⟩ ⟨Nat.le_of_ble_eq_true rfl, Nat.le_of_ble_eq_true rfl⟩ hl.1 rfl (Nat.le_of_ble_eq_true rfl) rfl dX8_force_19 (fun r3 S4 H locs hm hw => ?_)
    have hw : wV D A s.heap ((oW cy aO (aB 0) e_O_images e_O_tape e_O_reader (aP 0) e_O_trial e_O_season e_O_dates e_O_line e_O_evening e_O_choices S4) ++ ((bW cy aB e_B_laws e_B_told e_B_mentions e_B_claims SB) ++ (pW cy aP e_P_judge SP))) H locs := hw.perm [17, 18, 19, 0, 1, 2, 3, 4, 5, 6, 7, 8, 9, 10, 11, 12, 13, 14, 15, 16] rfl rfl
    exact retI (u := (S4, SB, SP)) hc hw hm dX8_force_22
  refine lv_icmp_lt (tgt := 16) hx hb dX8_force_2 (by decide) (fun c14 => ?_) (fun c14 => ?_)
  · have hm := hm.1 c14
    exact hJ2 _ hm _ _ _ hw (lv_sub hl [0] rfl)
  · have hm := hm.2 c14
    refine lv_iload_n hx hb dX8_force_5 rfl (lv_at hl 1 rfl) ?_
    refine lv_aload_n hx hb dX8_force_6 rfl (lv_at hl 0 rfl) ?_
    refine gF (k := 0) hc hw inX8 rfl 0 rfl (by decide) (gm 415 (by decide +kernel) rfl) rfl dX8_force_7 ?_
    refine gN (k := 7) (host := "OlderTale") hc hw inX6 rfl 3 rfl (by decide) (nmm 222 (by decide +kernel)) rfl dX8_force_10 ?_
    refine lv_icmp_lt (tgt := 23) hx hb dX8_force_13 (by decide) (fun c13 => ?_) (fun c13 => ?_)
    · have hm := hm.1 c13
      refine lv_aload_n hx hb dX8_force_23 rfl (lv_at hl 0 rfl) ?_
      refine gF (k := 0) hc hw inX8 rfl 0 rfl (by decide) (gm 415 (by decide +kernel) rfl) rfl dX8_force_24 ?_
      refine gN (k := 8) (host := "OlderTale") hc hw inX6 rfl 3 rfl (by decide) (nmm 224 (by decide +kernel)) rfl dX8_force_27 ?_
      refine lv_topi (fun v6 e_v6 => ?_)
      have hm := hm v6 e_v6
      refine lv_istore_n (lv' := [(2, .int v6), (0, .ref (aO 0)), (1, .int x1)]) hx hb dX8_force_30 rfl hl (by decide) rfl (fun ls hl => ?_)
      refine lv_aload_n hx hb dX8_force_31 rfl (lv_at hl 1 rfl) ?_
      refine gF (k := 0) hc hw inX8 rfl 0 rfl (by decide) (gm 415 (by decide +kernel) rfl) rfl dX8_force_32 ?_
      refine lv_iload_n hx hb dX8_force_35 rfl (lv_at hl 2 rfl) ?_
      refine pN (k := 8) (ty := .int) (host := "OlderTale") hc hw inX6 tyX6_ok nmX6 rfl 3 rfl (by decide) (nmm 224 (by decide +kernel)) rfl (by decide +kernel) rfl rfl (Nat.le_of_ble_eq_true rfl) dX8_force_36 (fun H locs hw => ?_)
      obtain ⟨S7, e_S7⟩ : ∃ z : Ob, z = uS SB 8 x1 := ⟨_, rfl⟩
      have hm := hm S7 e_S7
      have hw : wV D A s.heap ((oW cy aO (aB 0) e_O_images e_O_tape e_O_reader (aP 0) e_O_trial e_O_season e_O_dates e_O_line e_O_evening e_O_choices SO) ++ ((bW cy aB e_B_laws e_B_told e_B_mentions e_B_claims S7) ++ (pW cy aP e_P_judge SP))) H locs := by rw [e_S7]; exact hw
      refine lv_aload_n hx hb dX8_force_39 rfl (lv_at hl 1 rfl) ?_
      refine gF (k := 8) hc hw inX8 rfl 0 rfl (by decide) (gm 423 (by decide +kernel) rfl) rfl dX8_force_40 ?_
      refine nVN_V (As := []) (rest := []) (wc := (pW cy aP e_P_judge SP)) (wr := ((oW cy aO (aB 0) e_O_images e_O_tape e_O_reader (aP 0) e_O_trial e_O_season e_O_dates e_O_line e_O_evening e_O_choices SO) ++ (bW cy aB e_B_laws e_B_told e_B_mentions e_B_claims S7))) (isC := [9, 10, 11, 12, 13, 14, 15, 16, 17, 18, 19]) (isR := [0, 1, 2, 3, 4, 5, 6, 7, 8]) hc hw (c_X3_spoil hm) lk_X8_100 ⟨rfl, rfl, rfl, rfl, by decide⟩ rfl rfl ⟨Nat.le_of_ble_eq_true rfl, Nat.le_of_ble_eq_true rfl⟩ ⟨Nat.le_of_ble_eq_true rfl, Nat.le_of_ble_eq_true rfl⟩ hl.1 rfl (Nat.le_of_ble_eq_true rfl) rfl dX8_force_43 (fun S8 H locs hm hw => ?_)
      have hw : wV D A s.heap ((oW cy aO (aB 0) e_O_images e_O_tape e_O_reader (aP 0) e_O_trial e_O_season e_O_dates e_O_line e_O_evening e_O_choices SO) ++ ((bW cy aB e_B_laws e_B_told e_B_mentions e_B_claims S7) ++ (pW cy aP e_P_judge S8))) H locs := hw.perm [0, 1, 2, 3, 4, 5, 6, 7, 8, 9, 10, 11, 12, 13, 14, 15, 16, 17, 18, 19] rfl rfl
      refine lv_aload_n hx hb dX8_force_46 rfl (lv_at hl 1 rfl) ?_
      refine lv_iload_n hx hb dX8_force_47 rfl (lv_at hl 0 rfl) ?_
      refine nV_I (As := [.int v6]) (rest := []) (wc := (oW cy aO (aB 0) e_O_images e_O_tape e_O_reader (aP 0) e_O_trial e_O_season e_O_dates e_O_line e_O_evening e_O_choices SO)) (wr := ((bW cy aB e_B_laws e_B_told e_B_mentions e_B_claims S7) ++ (pW cy aP e_P_judge S8))) (isC := [0, 1, 2]) (isR := [3, 4, 5, 6, 7, 8, 9, 10, 11, 12, 13, 14, 15, 16, 17, 18, 19]) hc hw (c_X8_accept hm) lk_X8_103 ⟨rfl, rfl, rfl, rfl, by decide⟩ rfl rfl ⟨Nat.le_of_ble_eq_true rfl, Nat.le_of_ble_eq_true rfl⟩ ⟨Nat.le_of_ble_eq_true rfl, Nat.le_of_ble_eq_true rfl⟩ hl.1 rfl (Nat.le_of_ble_eq_true rfl) rfl dX8_force_48 (fun r10 S11 H locs hm hw => ?_)
      have hw : wV D A s.heap ((oW cy aO (aB 0) e_O_images e_O_tape e_O_reader (aP 0) e_O_trial e_O_season e_O_dates e_O_line e_O_evening e_O_choices S11) ++ ((bW cy aB e_B_laws e_B_told e_B_mentions e_B_claims S7) ++ (pW cy aP e_P_judge S8))) H locs := hw.perm [17, 18, 19, 0, 1, 2, 3, 4, 5, 6, 7, 8, 9, 10, 11, 12, 13, 14, 15, 16] rfl rfl
      exact retI (u := (S11, S7, S8)) hc hw hm dX8_force_51
    · have hm := hm.2 c13
      exact hJ2 _ hm _ _ _ hw (lv_sub hl [0] rfl)
set_option maxHeartbeats 4000000 in
set_option maxRecDepth 100000 in
theorem c_X8_put {l : Launch} {D : va_G} {cy : Nat → ClassId} {aO : Nat → Nat} {aB : Nat → Nat} {aP : Nat → Nat} {e_O_images : Nat} {e_O_tape : Nat} {e_O_reader : Nat} {e_O_trial : Option Nat} {e_O_season : Option Nat} {e_O_dates : Nat} {e_O_line : Nat} {e_O_evening : Nat} {e_O_choices : Nat} {e_B_laws : Nat} {e_B_told : Nat} {e_B_mentions : Nat} {e_B_claims : Nat} {e_P_judge : Nat} {SO : Ob} {SB : Ob} {SP : Ob} {x1 : Int32} {x2 : Int32} {x3 : Int32} {Q : Int32 → Ob → Ob → Ob → Prop} (hm : w_X8_put aB SO SB SP x1 x2 x3 Q) : CtI l yX8_put cX8_put 6 (some .int) (rmN 1) D cy [.ref (aO 0), .int x1, .int x2, .int x3] ((oW cy aO (aB 0) e_O_images e_O_tape e_O_reader (aP 0) e_O_trial e_O_season e_O_dates e_O_line e_O_evening e_O_choices SO) ++ ((bW cy aB e_B_laws e_B_told e_B_mentions e_B_claims SB) ++ (pW cy aP e_P_judge SP))) (fun u : Ob × Ob × Ob => ((oW cy aO (aB 0) e_O_images e_O_tape e_O_reader (aP 0) e_O_trial e_O_season e_O_dates e_O_line e_O_evening e_O_choices u.1) ++ ((bW cy aB e_B_laws e_B_told e_B_mentions e_B_claims u.2.1) ++ (pW cy aP e_P_judge u.2.2)))) (fun (r : Int32) (u : Ob × Ob × Ob) => Q r u.1 u.2.1 u.2.2) := by
  refine CtI.ofW (by decide) (Nat.le_of_ble_eq_true rfl) ?_
  intro p e s m args below meth c A ls hc hnm hw hl
  have hx := hc.1.1
  have hb := hc.1.2.1
  have hown := hc.1.2.2.2.1
  have hts := hc.1.2.2.2.2
  have hl : lv_has ls 6 [(0, .ref (aO 0)), (1, .int x1), (2, .int x2), (3, .int x3)] := hl
  obtain ⟨H, hH⟩ : ∃ z, z = s.heap := ⟨_, rfl⟩
  obtain ⟨locs, hLc⟩ : ∃ z : List Loc, z = [] := ⟨_, rfl⟩
  have hw : wV D A s.heap ((oW cy aO (aB 0) e_O_images e_O_tape e_O_reader (aP 0) e_O_trial e_O_season e_O_dates e_O_line e_O_evening e_O_choices SO) ++ ((bW cy aB e_B_laws e_B_told e_B_mentions e_B_claims SB) ++ (pW cy aP e_P_judge SP))) H locs := by rw [hH, hLc]; exact hw
  have hgo : W p l e (rmN 1) s m args below meth c H locs 0 0 (MQ below (eI D cy A (fun u : Ob × Ob × Ob => ((oW cy aO (aB 0) e_O_images e_O_tape e_O_reader (aP 0) e_O_trial e_O_season e_O_dates e_O_line e_O_evening e_O_choices u.1) ++ ((bW cy aB e_B_laws e_B_told e_B_mentions e_B_claims u.2.1) ++ (pW cy aP e_P_judge u.2.2)))) (fun (r : Int32) (u : Ob × Ob × Ob) => Q r u.1 u.2.1 u.2.2)) args s (rmN 1).cells (rmN 1).slots A) (F0 m 0 ls []) := ?hgo
  · rw [hH, hLc] at hgo; exact hgo
  refine lv_iload_n hx hb dX8_put_0 rfl (lv_at hl 2 rfl) ?_
  refine lv_iload_n hx hb dX8_put_1 rfl (lv_at hl 3 rfl) ?_
  refine zSN_I (As := [.int x2, .int x3]) (rest := []) hc hw (c_X6_canPut hm) lk_X8_106 ⟨Nat.le_of_ble_eq_true rfl, Nat.le_of_ble_eq_true rfl⟩ ⟨Nat.le_of_ble_eq_true rfl, Nat.le_of_ble_eq_true rfl⟩ hl.1 rfl (Nat.le_of_ble_eq_true rfl) rfl dX8_put_2 (fun r1 H locs hm hw => ?_)
  refine lv_if_ne (tgt := 14) hx hb dX8_put_5 (by decide) (fun c66 => ?_) (fun c66 => ?_)
  · have hm := hm.1 c66
    refine lv_aload_n hx hb dX8_put_14 rfl (lv_at hl 0 rfl) ?_
    refine gF (k := 0) hc hw inX8 rfl 0 rfl (by decide) (gm 415 (by decide +kernel) rfl) rfl dX8_put_15 ?_
    refine lv_iload_n hx hb dX8_put_18 rfl (lv_at hl 1 rfl) ?_
    refine nVN_I (As := [.int x1]) (rest := []) (wc := (bW cy aB e_B_laws e_B_told e_B_mentions e_B_claims SB)) (wr := ((oW cy aO (aB 0) e_O_images e_O_tape e_O_reader (aP 0) e_O_trial e_O_season e_O_dates e_O_line e_O_evening e_O_choices SO) ++ (pW cy aP e_P_judge SP))) (isC := [3, 4, 5, 6, 7, 8]) (isR := [0, 1, 2, 9, 10, 11, 12, 13, 14, 15, 16, 17, 18, 19]) hc hw (c_X6_has hm) lk_X8_110 ⟨rfl, rfl, rfl, rfl, by decide⟩ rfl rfl ⟨Nat.le_of_ble_eq_true rfl, Nat.le_of_ble_eq_true rfl⟩ ⟨Nat.le_of_ble_eq_true rfl, Nat.le_of_ble_eq_true rfl⟩ hl.1 rfl (Nat.le_of_ble_eq_true rfl) rfl dX8_put_19 (fun r3 _ H locs hm hw => ?_)
    have hw : wV D A s.heap ((oW cy aO (aB 0) e_O_images e_O_tape e_O_reader (aP 0) e_O_trial e_O_season e_O_dates e_O_line e_O_evening e_O_choices SO) ++ ((bW cy aB e_B_laws e_B_told e_B_mentions e_B_claims SB) ++ (pW cy aP e_P_judge SP))) H locs := hw.perm [0, 1, 2, 14, 15, 16, 17, 18, 19, 3, 4, 5, 6, 7, 8, 9, 10, 11, 12, 13] rfl rfl
    refine lv_if_ne (tgt := 32) hx hb dX8_put_22 (by decide) (fun c62 => ?_) (fun c62 => ?_)
    · have hm := hm.1 c62
      refine lv_iload_n hx hb dX8_put_32 rfl (lv_at hl 2 rfl) ?_
      obtain ⟨J6, eJ6, hm⟩ := jn_e hm
      have hJ6 : ∀ (z5 : Unit) (_ : J6 z5) (H : Heap) (locs : List Loc) (ls : Array Slot), wV D A s.heap ((oW cy aO (aB 0) e_O_images e_O_tape e_O_reader (aP 0) e_O_trial e_O_season e_O_dates e_O_line e_O_evening e_O_choices SO) ++ ((bW cy aB e_B_laws e_B_told e_B_mentions e_B_claims SB) ++ (pW cy aP e_P_judge SP))) H locs → lv_has ls 6 [(0, .ref (aO 0))] → W p l e (rmN 1) s m args below meth c H locs 0 0 (MQ below (eI D cy A (fun u : Ob × Ob × Ob => ((oW cy aO (aB 0) e_O_images e_O_tape e_O_reader (aP 0) e_O_trial e_O_season e_O_dates e_O_line e_O_evening e_O_choices u.1) ++ ((bW cy aB e_B_laws e_B_told e_B_mentions e_B_claims u.2.1) ++ (pW cy aP e_P_judge u.2.2)))) (fun (r : Int32) (u : Ob × Ob × Ob) => Q r u.1 u.2.1 u.2.2)) args s (rmN 1).cells (rmN 1).slots A) (F0 m 67 ls []) := by
        intro z5 hm H locs ls hw hl
        rw [eJ6] at hm
        refine lv_aload_n hx hb dX8_put_67 rfl (lv_at hl 0 rfl) ?_
        refine lv_iconst (v := (-1)) hx hb dX8_put_68 (by decide) ?_
        refine nV_I (As := [.int (-1)]) (rest := []) (wc := (oW cy aO (aB 0) e_O_images e_O_tape e_O_reader (aP 0) e_O_trial e_O_season e_O_dates e_O_line e_O_evening e_O_choices SO)) (wr := ((bW cy aB e_B_laws e_B_told e_B_mentions e_B_claims SB) ++ (pW cy aP e_P_judge SP))) (isC := [0, 1, 2]) (isR := [3, 4, 5, 6, 7, 8, 9, 10, 11, 12, 13, 14, 15, 16, 17, 18, 19]) hc hw (c_X8_refuse hm) lk_X8_89 ⟨rfl, rfl, rfl, rfl, by decide⟩ rfl rfl ⟨Nat.le_of_ble_eq_true rfl, Nat.le_of_ble_eq_true rfl⟩ ⟨Nat.le_of_ble_eq_true rfl, Nat.le_of_ble_eq_true rfl⟩ hl.1 rfl (Nat.le_of_ble_eq_true rfl) rfl dX8_put_69 (fun r7 S8 H locs hm hw => ?_)
        have hw : wV D A s.heap ((oW cy aO (aB 0) e_O_images e_O_tape e_O_reader (aP 0) e_O_trial e_O_season e_O_dates e_O_line e_O_evening e_O_choices S8) ++ ((bW cy aB e_B_laws e_B_told e_B_mentions e_B_claims SB) ++ (pW cy aP e_P_judge SP))) H locs := hw.perm [17, 18, 19, 0, 1, 2, 3, 4, 5, 6, 7, 8, 9, 10, 11, 12, 13, 14, 15, 16] rfl rfl
        exact retI (u := (S8, SB, SP)) hc hw hm dX8_put_72
      obtain ⟨J11, eJ11, hm⟩ := jn_e hm
      have hJ11 : ∀ (z10 : Unit) (_ : J11 z10) (H : Heap) (locs : List Loc) (ls : Array Slot), wV D A s.heap ((oW cy aO (aB 0) e_O_images e_O_tape e_O_reader (aP 0) e_O_trial e_O_season e_O_dates e_O_line e_O_evening e_O_choices SO) ++ ((bW cy aB e_B_laws e_B_told e_B_mentions e_B_claims SB) ++ (pW cy aP e_P_judge SP))) H locs → lv_has ls 6 [(0, .ref (aO 0)), (1, .int x1), (2, .int x2), (3, .int x3)] → W p l e (rmN 1) s m args below meth c H locs 0 0 (MQ below (eI D cy A (fun u : Ob × Ob × Ob => ((oW cy aO (aB 0) e_O_images e_O_tape e_O_reader (aP 0) e_O_trial e_O_season e_O_dates e_O_line e_O_evening e_O_choices u.1) ++ ((bW cy aB e_B_laws e_B_told e_B_mentions e_B_claims u.2.1) ++ (pW cy aP e_P_judge u.2.2)))) (fun (r : Int32) (u : Ob × Ob × Ob) => Q r u.1 u.2.1 u.2.2)) args s (rmN 1).cells (rmN 1).slots A) (F0 m 49 ls []) := by
        intro z10 hm H locs ls hw hl
        rw [eJ11] at hm
        refine lv_iload_n hx hb dX8_put_49 rfl (lv_at hl 2 rfl) ?_
        refine lv_iconst (v := 1) hx hb dX8_put_50 (by decide) ?_
        obtain ⟨J13, eJ13, hm⟩ := jn_e hm
        have hJ13 : ∀ (z12 : Unit) (_ : J13 z12) (H : Heap) (locs : List Loc) (ls : Array Slot), wV D A s.heap ((oW cy aO (aB 0) e_O_images e_O_tape e_O_reader (aP 0) e_O_trial e_O_season e_O_dates e_O_line e_O_evening e_O_choices SO) ++ ((bW cy aB e_B_laws e_B_told e_B_mentions e_B_claims SB) ++ (pW cy aP e_P_judge SP))) H locs → lv_has ls 6 [(0, .ref (aO 0)), (1, .int x1), (2, .int x2), (3, .int x3)] → W p l e (rmN 1) s m args below meth c H locs 0 0 (MQ below (eI D cy A (fun u : Ob × Ob × Ob => ((oW cy aO (aB 0) e_O_images e_O_tape e_O_reader (aP 0) e_O_trial e_O_season e_O_dates e_O_line e_O_evening e_O_choices u.1) ++ ((bW cy aB e_B_laws e_B_told e_B_mentions e_B_claims u.2.1) ++ (pW cy aP e_P_judge u.2.2)))) (fun (r : Int32) (u : Ob × Ob × Ob) => Q r u.1 u.2.1 u.2.2)) args s (rmN 1).cells (rmN 1).slots A) (F0 m 73 ls []) := by
          intro z12 hm H locs ls hw hl
          rw [eJ13] at hm
          refine lv_aload_n hx hb dX8_put_73 rfl (lv_at hl 0 rfl) ?_
          refine gF (k := 0) hc hw inX8 rfl 0 rfl (by decide) (gm 415 (by decide +kernel) rfl) rfl dX8_put_74 ?_
          refine lv_iload_n hx hb dX8_put_77 rfl (lv_at hl 2 rfl) ?_
          refine nVN_Q (As := [.int x2]) (rest := []) (wc := (bW cy aB e_B_laws e_B_told e_B_mentions e_B_claims SB)) (wr := ((oW cy aO (aB 0) e_O_images e_O_tape e_O_reader (aP 0) e_O_trial e_O_season e_O_dates e_O_line e_O_evening e_O_choices SO) ++ (pW cy aP e_P_judge SP))) (isC := [3, 4, 5, 6, 7, 8]) (isR := [0, 1, 2, 9, 10, 11, 12, 13, 14, 15, 16, 17, 18, 19]) hc hw (c_X6_column hm) lk_X8_120 ⟨rfl, rfl, rfl, rfl, by decide⟩ rfl rfl ⟨Nat.le_of_ble_eq_true rfl, Nat.le_of_ble_eq_true rfl⟩ ⟨Nat.le_of_ble_eq_true rfl, Nat.le_of_ble_eq_true rfl⟩ hl.1 rfl (Nat.le_of_ble_eq_true rfl) rfl dX8_put_78 (fun r14 _ H locs hm hw => ?_)
          have hw : wV D A s.heap ((oW cy aO (aB 0) e_O_images e_O_tape e_O_reader (aP 0) e_O_trial e_O_season e_O_dates e_O_line e_O_evening e_O_choices SO) ++ ((bW cy aB e_B_laws e_B_told e_B_mentions e_B_claims SB) ++ (pW cy aP e_P_judge SP))) H locs := hw.perm [0, 1, 2, 14, 15, 16, 17, 18, 19, 3, 4, 5, 6, 7, 8, 9, 10, 11, 12, 13] rfl rfl
          obtain ⟨c16, hm⟩ := hm
          rcases c16 with c16 | c16 | c16 | c16
          · have hm := hm.1 c16
            rw [c16]
            refine W.eq (g2 := F0 _ _ _ (.ref (aB 1) :: _)) rfl ?_
            refine lv_astore (lv' := [(4, .ref (aB 1)), (0, .ref (aO 0)), (1, .int x1), (2, .int x2), (3, .int x3)]) hx hb dX8_put_81 hl (by decide) rfl (fun ls hl => ?_)
            refine lv_aload hx hb dX8_put_83 (lv_at hl 0 rfl) ?_
            refine lv_iload_n hx hb dX8_put_85 rfl (lv_at hl 2 rfl) ?_
            obtain ⟨c17, hm⟩ := hm
            refine aI hc hw 4 rfl c17 rfl dX8_put_86 ?_
            refine lv_topi (fun v18 e_v18 => ?_)
            have hm := hm v18 e_v18
            refine lv_istore (lv' := [(5, .int v18), (4, .ref (aB 1)), (0, .ref (aO 0)), (1, .int x1), (2, .int x2), (3, .int x3)]) hx hb dX8_put_87 hl (by decide) rfl (fun ls hl => ?_)
            refine lv_aload hx hb dX8_put_89 (lv_at hl 1 rfl) ?_
            refine lv_iload_n hx hb dX8_put_91 rfl (lv_at hl 3 rfl) ?_
            refine lv_iload_n hx hb dX8_put_92 rfl (lv_at hl 5 rfl) ?_
            obtain ⟨c19, hm⟩ := hm
            refine sI hc hw 4 rfl c19 rfl dX8_put_93 (fun H locs hw => ?_)
            obtain ⟨S20, e_S20⟩ : ∃ z : Ob, z = uA SB 0 (Int32.toNatClampNeg x1) x3 := ⟨_, rfl⟩
            have hm := hm S20 e_S20
            have hw : wV D A s.heap ((oW cy aO (aB 0) e_O_images e_O_tape e_O_reader (aP 0) e_O_trial e_O_season e_O_dates e_O_line e_O_evening e_O_choices SO) ++ ((bW cy aB e_B_laws e_B_told e_B_mentions e_B_claims S20) ++ (pW cy aP e_P_judge SP))) H locs := by rw [e_S20]; exact hw
            refine lv_aload_n hx hb dX8_put_94 rfl (lv_at hl 2 rfl) ?_
            refine gF (k := 8) hc hw inX8 rfl 0 rfl (by decide) (gm 423 (by decide +kernel) rfl) rfl dX8_put_95 ?_
            refine nVN_V (As := []) (rest := []) (wc := (pW cy aP e_P_judge SP)) (wr := ((oW cy aO (aB 0) e_O_images e_O_tape e_O_reader (aP 0) e_O_trial e_O_season e_O_dates e_O_line e_O_evening e_O_choices SO) ++ (bW cy aB e_B_laws e_B_told e_B_mentions e_B_claims S20))) (isC := [9, 10, 11, 12, 13, 14, 15, 16, 17, 18, 19]) (isR := [0, 1, 2, 3, 4, 5, 6, 7, 8]) hc hw (c_X3_spoil hm) lk_X8_100 ⟨rfl, rfl, rfl, rfl, by decide⟩ rfl rfl ⟨Nat.le_of_ble_eq_true rfl, Nat.le_of_ble_eq_true rfl⟩ ⟨Nat.le_of_ble_eq_true rfl, Nat.le_of_ble_eq_true rfl⟩ hl.1 rfl (Nat.le_of_ble_eq_true rfl) rfl dX8_put_98 (fun S21 H locs hm hw => ?_)
            have hw : wV D A s.heap ((oW cy aO (aB 0) e_O_images e_O_tape e_O_reader (aP 0) e_O_trial e_O_season e_O_dates e_O_line e_O_evening e_O_choices SO) ++ ((bW cy aB e_B_laws e_B_told e_B_mentions e_B_claims S20) ++ (pW cy aP e_P_judge S21))) H locs := hw.perm [0, 1, 2, 3, 4, 5, 6, 7, 8, 9, 10, 11, 12, 13, 14, 15, 16, 17, 18, 19] rfl rfl
            refine lv_aload_n hx hb dX8_put_101 rfl (lv_at hl 2 rfl) ?_
            refine lv_iload hx hb dX8_put_102 (lv_at hl 0 rfl) ?_
            refine nV_I (As := [.int v18]) (rest := []) (wc := (oW cy aO (aB 0) e_O_images e_O_tape e_O_reader (aP 0) e_O_trial e_O_season e_O_dates e_O_line e_O_evening e_O_choices SO)) (wr := ((bW cy aB e_B_laws e_B_told e_B_mentions e_B_claims S20) ++ (pW cy aP e_P_judge S21))) (isC := [0, 1, 2]) (isR := [3, 4, 5, 6, 7, 8, 9, 10, 11, 12, 13, 14, 15, 16, 17, 18, 19]) hc hw (c_X8_accept hm) lk_X8_103 ⟨rfl, rfl, rfl, rfl, by decide⟩ rfl rfl ⟨Nat.le_of_ble_eq_true rfl, Nat.le_of_ble_eq_true rfl⟩ ⟨Nat.le_of_ble_eq_true rfl, Nat.le_of_ble_eq_true rfl⟩ hl.1 rfl (Nat.le_of_ble_eq_true rfl) rfl dX8_put_104 (fun r23 S24 H locs hm hw => ?_)
            have hw : wV D A s.heap ((oW cy aO (aB 0) e_O_images e_O_tape e_O_reader (aP 0) e_O_trial e_O_season e_O_dates e_O_line e_O_evening e_O_choices S24) ++ ((bW cy aB e_B_laws e_B_told e_B_mentions e_B_claims S20) ++ (pW cy aP e_P_judge S21))) H locs := hw.perm [17, 18, 19, 0, 1, 2, 3, 4, 5, 6, 7, 8, 9, 10, 11, 12, 13, 14, 15, 16] rfl rfl
            exact retI (u := (S24, S20, S21)) hc hw hm dX8_put_107
          · have hm := hm.2.1 c16
            rw [c16]
            refine W.eq (g2 := F0 _ _ _ (.ref (aB 2) :: _)) rfl ?_
            refine lv_astore (lv' := [(4, .ref (aB 2)), (0, .ref (aO 0)), (1, .int x1), (2, .int x2), (3, .int x3)]) hx hb dX8_put_81 hl (by decide) rfl (fun ls hl => ?_)
            refine lv_aload hx hb dX8_put_83 (lv_at hl 0 rfl) ?_
            refine lv_iload_n hx hb dX8_put_85 rfl (lv_at hl 2 rfl) ?_
            obtain ⟨c26, hm⟩ := hm
            refine aI hc hw 5 rfl c26 rfl dX8_put_86 ?_
            refine lv_topi (fun v27 e_v27 => ?_)
            have hm := hm v27 e_v27
            refine lv_istore (lv' := [(5, .int v27), (4, .ref (aB 2)), (0, .ref (aO 0)), (1, .int x1), (2, .int x2), (3, .int x3)]) hx hb dX8_put_87 hl (by decide) rfl (fun ls hl => ?_)
            refine lv_aload hx hb dX8_put_89 (lv_at hl 1 rfl) ?_
            refine lv_iload_n hx hb dX8_put_91 rfl (lv_at hl 3 rfl) ?_
            refine lv_iload_n hx hb dX8_put_92 rfl (lv_at hl 5 rfl) ?_
            obtain ⟨c28, hm⟩ := hm
            refine sI hc hw 5 rfl c28 rfl dX8_put_93 (fun H locs hw => ?_)
            obtain ⟨S29, e_S29⟩ : ∃ z : Ob, z = uA SB 1 (Int32.toNatClampNeg x1) x3 := ⟨_, rfl⟩
            have hm := hm S29 e_S29
            have hw : wV D A s.heap ((oW cy aO (aB 0) e_O_images e_O_tape e_O_reader (aP 0) e_O_trial e_O_season e_O_dates e_O_line e_O_evening e_O_choices SO) ++ ((bW cy aB e_B_laws e_B_told e_B_mentions e_B_claims S29) ++ (pW cy aP e_P_judge SP))) H locs := by rw [e_S29]; exact hw
            refine lv_aload_n hx hb dX8_put_94 rfl (lv_at hl 2 rfl) ?_
            refine gF (k := 8) hc hw inX8 rfl 0 rfl (by decide) (gm 423 (by decide +kernel) rfl) rfl dX8_put_95 ?_
            refine nVN_V (As := []) (rest := []) (wc := (pW cy aP e_P_judge SP)) (wr := ((oW cy aO (aB 0) e_O_images e_O_tape e_O_reader (aP 0) e_O_trial e_O_season e_O_dates e_O_line e_O_evening e_O_choices SO) ++ (bW cy aB e_B_laws e_B_told e_B_mentions e_B_claims S29))) (isC := [9, 10, 11, 12, 13, 14, 15, 16, 17, 18, 19]) (isR := [0, 1, 2, 3, 4, 5, 6, 7, 8]) hc hw (c_X3_spoil hm) lk_X8_100 ⟨rfl, rfl, rfl, rfl, by decide⟩ rfl rfl ⟨Nat.le_of_ble_eq_true rfl, Nat.le_of_ble_eq_true rfl⟩ ⟨Nat.le_of_ble_eq_true rfl, Nat.le_of_ble_eq_true rfl⟩ hl.1 rfl (Nat.le_of_ble_eq_true rfl) rfl dX8_put_98 (fun S30 H locs hm hw => ?_)
            have hw : wV D A s.heap ((oW cy aO (aB 0) e_O_images e_O_tape e_O_reader (aP 0) e_O_trial e_O_season e_O_dates e_O_line e_O_evening e_O_choices SO) ++ ((bW cy aB e_B_laws e_B_told e_B_mentions e_B_claims S29) ++ (pW cy aP e_P_judge S30))) H locs := hw.perm [0, 1, 2, 3, 4, 5, 6, 7, 8, 9, 10, 11, 12, 13, 14, 15, 16, 17, 18, 19] rfl rfl
            refine lv_aload_n hx hb dX8_put_101 rfl (lv_at hl 2 rfl) ?_
            refine lv_iload hx hb dX8_put_102 (lv_at hl 0 rfl) ?_
            refine nV_I (As := [.int v27]) (rest := []) (wc := (oW cy aO (aB 0) e_O_images e_O_tape e_O_reader (aP 0) e_O_trial e_O_season e_O_dates e_O_line e_O_evening e_O_choices SO)) (wr := ((bW cy aB e_B_laws e_B_told e_B_mentions e_B_claims S29) ++ (pW cy aP e_P_judge S30))) (isC := [0, 1, 2]) (isR := [3, 4, 5, 6, 7, 8, 9, 10, 11, 12, 13, 14, 15, 16, 17, 18, 19]) hc hw (c_X8_accept hm) lk_X8_103 ⟨rfl, rfl, rfl, rfl, by decide⟩ rfl rfl ⟨Nat.le_of_ble_eq_true rfl, Nat.le_of_ble_eq_true rfl⟩ ⟨Nat.le_of_ble_eq_true rfl, Nat.le_of_ble_eq_true rfl⟩ hl.1 rfl (Nat.le_of_ble_eq_true rfl) rfl dX8_put_104 (fun r32 S33 H locs hm hw => ?_)
            have hw : wV D A s.heap ((oW cy aO (aB 0) e_O_images e_O_tape e_O_reader (aP 0) e_O_trial e_O_season e_O_dates e_O_line e_O_evening e_O_choices S33) ++ ((bW cy aB e_B_laws e_B_told e_B_mentions e_B_claims S29) ++ (pW cy aP e_P_judge S30))) H locs := hw.perm [17, 18, 19, 0, 1, 2, 3, 4, 5, 6, 7, 8, 9, 10, 11, 12, 13, 14, 15, 16] rfl rfl
            exact retI (u := (S33, S29, S30)) hc hw hm dX8_put_107
          · have hm := hm.2.2.1 c16
            rw [c16]
            refine W.eq (g2 := F0 _ _ _ (.ref (aB 3) :: _)) rfl ?_
            refine lv_astore (lv' := [(4, .ref (aB 3)), (0, .ref (aO 0)), (1, .int x1), (2, .int x2), (3, .int x3)]) hx hb dX8_put_81 hl (by decide) rfl (fun ls hl => ?_)
            refine lv_aload hx hb dX8_put_83 (lv_at hl 0 rfl) ?_
            refine lv_iload_n hx hb dX8_put_85 rfl (lv_at hl 2 rfl) ?_
            obtain ⟨c35, hm⟩ := hm
            refine aI hc hw 6 rfl c35 rfl dX8_put_86 ?_
            refine lv_topi (fun v36 e_v36 => ?_)
            have hm := hm v36 e_v36
            refine lv_istore (lv' := [(5, .int v36), (4, .ref (aB 3)), (0, .ref (aO 0)), (1, .int x1), (2, .int x2), (3, .int x3)]) hx hb dX8_put_87 hl (by decide) rfl (fun ls hl => ?_)
            refine lv_aload hx hb dX8_put_89 (lv_at hl 1 rfl) ?_
            refine lv_iload_n hx hb dX8_put_91 rfl (lv_at hl 3 rfl) ?_
            refine lv_iload_n hx hb dX8_put_92 rfl (lv_at hl 5 rfl) ?_
            obtain ⟨c37, hm⟩ := hm
            refine sI hc hw 6 rfl c37 rfl dX8_put_93 (fun H locs hw => ?_)
            obtain ⟨S38, e_S38⟩ : ∃ z : Ob, z = uA SB 2 (Int32.toNatClampNeg x1) x3 := ⟨_, rfl⟩
            have hm := hm S38 e_S38
            have hw : wV D A s.heap ((oW cy aO (aB 0) e_O_images e_O_tape e_O_reader (aP 0) e_O_trial e_O_season e_O_dates e_O_line e_O_evening e_O_choices SO) ++ ((bW cy aB e_B_laws e_B_told e_B_mentions e_B_claims S38) ++ (pW cy aP e_P_judge SP))) H locs := by rw [e_S38]; exact hw
            refine lv_aload_n hx hb dX8_put_94 rfl (lv_at hl 2 rfl) ?_
            refine gF (k := 8) hc hw inX8 rfl 0 rfl (by decide) (gm 423 (by decide +kernel) rfl) rfl dX8_put_95 ?_
            refine nVN_V (As := []) (rest := []) (wc := (pW cy aP e_P_judge SP)) (wr := ((oW cy aO (aB 0) e_O_images e_O_tape e_O_reader (aP 0) e_O_trial e_O_season e_O_dates e_O_line e_O_evening e_O_choices SO) ++ (bW cy aB e_B_laws e_B_told e_B_mentions e_B_claims S38))) (isC := [9, 10, 11, 12, 13, 14, 15, 16, 17, 18, 19]) (isR := [0, 1, 2, 3, 4, 5, 6, 7, 8]) hc hw (c_X3_spoil hm) lk_X8_100 ⟨rfl, rfl, rfl, rfl, by decide⟩ rfl rfl ⟨Nat.le_of_ble_eq_true rfl, Nat.le_of_ble_eq_true rfl⟩ ⟨Nat.le_of_ble_eq_true rfl, Nat.le_of_ble_eq_true rfl⟩ hl.1 rfl (Nat.le_of_ble_eq_true rfl) rfl dX8_put_98 (fun S39 H locs hm hw => ?_)
            have hw : wV D A s.heap ((oW cy aO (aB 0) e_O_images e_O_tape e_O_reader (aP 0) e_O_trial e_O_season e_O_dates e_O_line e_O_evening e_O_choices SO) ++ ((bW cy aB e_B_laws e_B_told e_B_mentions e_B_claims S38) ++ (pW cy aP e_P_judge S39))) H locs := hw.perm [0, 1, 2, 3, 4, 5, 6, 7, 8, 9, 10, 11, 12, 13, 14, 15, 16, 17, 18, 19] rfl rfl
            refine lv_aload_n hx hb dX8_put_101 rfl (lv_at hl 2 rfl) ?_
            refine lv_iload hx hb dX8_put_102 (lv_at hl 0 rfl) ?_
            refine nV_I (As := [.int v36]) (rest := []) (wc := (oW cy aO (aB 0) e_O_images e_O_tape e_O_reader (aP 0) e_O_trial e_O_season e_O_dates e_O_line e_O_evening e_O_choices SO)) (wr := ((bW cy aB e_B_laws e_B_told e_B_mentions e_B_claims S38) ++ (pW cy aP e_P_judge S39))) (isC := [0, 1, 2]) (isR := [3, 4, 5, 6, 7, 8, 9, 10, 11, 12, 13, 14, 15, 16, 17, 18, 19]) hc hw (c_X8_accept hm) lk_X8_103 ⟨rfl, rfl, rfl, rfl, by decide⟩ rfl rfl ⟨Nat.le_of_ble_eq_true rfl, Nat.le_of_ble_eq_true rfl⟩ ⟨Nat.le_of_ble_eq_true rfl, Nat.le_of_ble_eq_true rfl⟩ hl.1 rfl (Nat.le_of_ble_eq_true rfl) rfl dX8_put_104 (fun r41 S42 H locs hm hw => ?_)
            have hw : wV D A s.heap ((oW cy aO (aB 0) e_O_images e_O_tape e_O_reader (aP 0) e_O_trial e_O_season e_O_dates e_O_line e_O_evening e_O_choices S42) ++ ((bW cy aB e_B_laws e_B_told e_B_mentions e_B_claims S38) ++ (pW cy aP e_P_judge S39))) H locs := hw.perm [17, 18, 19, 0, 1, 2, 3, 4, 5, 6, 7, 8, 9, 10, 11, 12, 13, 14, 15, 16] rfl rfl
            exact retI (u := (S42, S38, S39)) hc hw hm dX8_put_107
          · have hm := hm.2.2.2 c16
            rw [c16]
            refine W.eq (g2 := F0 _ _ _ (.ref (aB 4) :: _)) rfl ?_
            refine lv_astore (lv' := [(4, .ref (aB 4)), (0, .ref (aO 0)), (1, .int x1), (2, .int x2), (3, .int x3)]) hx hb dX8_put_81 hl (by decide) rfl (fun ls hl => ?_)
            refine lv_aload hx hb dX8_put_83 (lv_at hl 0 rfl) ?_
            refine lv_iload_n hx hb dX8_put_85 rfl (lv_at hl 2 rfl) ?_
            obtain ⟨c44, hm⟩ := hm
            refine aI hc hw 7 rfl c44 rfl dX8_put_86 ?_
            refine lv_topi (fun v45 e_v45 => ?_)
            have hm := hm v45 e_v45
            refine lv_istore (lv' := [(5, .int v45), (4, .ref (aB 4)), (0, .ref (aO 0)), (1, .int x1), (2, .int x2), (3, .int x3)]) hx hb dX8_put_87 hl (by decide) rfl (fun ls hl => ?_)
            refine lv_aload hx hb dX8_put_89 (lv_at hl 1 rfl) ?_
            refine lv_iload_n hx hb dX8_put_91 rfl (lv_at hl 3 rfl) ?_
            refine lv_iload_n hx hb dX8_put_92 rfl (lv_at hl 5 rfl) ?_
            obtain ⟨c46, hm⟩ := hm
            refine sI hc hw 7 rfl c46 rfl dX8_put_93 (fun H locs hw => ?_)
            obtain ⟨S47, e_S47⟩ : ∃ z : Ob, z = uA SB 3 (Int32.toNatClampNeg x1) x3 := ⟨_, rfl⟩
            have hm := hm S47 e_S47
            have hw : wV D A s.heap ((oW cy aO (aB 0) e_O_images e_O_tape e_O_reader (aP 0) e_O_trial e_O_season e_O_dates e_O_line e_O_evening e_O_choices SO) ++ ((bW cy aB e_B_laws e_B_told e_B_mentions e_B_claims S47) ++ (pW cy aP e_P_judge SP))) H locs := by rw [e_S47]; exact hw
            refine lv_aload_n hx hb dX8_put_94 rfl (lv_at hl 2 rfl) ?_
            refine gF (k := 8) hc hw inX8 rfl 0 rfl (by decide) (gm 423 (by decide +kernel) rfl) rfl dX8_put_95 ?_
            refine nVN_V (As := []) (rest := []) (wc := (pW cy aP e_P_judge SP)) (wr := ((oW cy aO (aB 0) e_O_images e_O_tape e_O_reader (aP 0) e_O_trial e_O_season e_O_dates e_O_line e_O_evening e_O_choices SO) ++ (bW cy aB e_B_laws e_B_told e_B_mentions e_B_claims S47))) (isC := [9, 10, 11, 12, 13, 14, 15, 16, 17, 18, 19]) (isR := [0, 1, 2, 3, 4, 5, 6, 7, 8]) hc hw (c_X3_spoil hm) lk_X8_100 ⟨rfl, rfl, rfl, rfl, by decide⟩ rfl rfl ⟨Nat.le_of_ble_eq_true rfl, Nat.le_of_ble_eq_true rfl⟩ ⟨Nat.le_of_ble_eq_true rfl, Nat.le_of_ble_eq_true rfl⟩ hl.1 rfl (Nat.le_of_ble_eq_true rfl) rfl dX8_put_98 (fun S48 H locs hm hw => ?_)
            have hw : wV D A s.heap ((oW cy aO (aB 0) e_O_images e_O_tape e_O_reader (aP 0) e_O_trial e_O_season e_O_dates e_O_line e_O_evening e_O_choices SO) ++ ((bW cy aB e_B_laws e_B_told e_B_mentions e_B_claims S47) ++ (pW cy aP e_P_judge S48))) H locs := hw.perm [0, 1, 2, 3, 4, 5, 6, 7, 8, 9, 10, 11, 12, 13, 14, 15, 16, 17, 18, 19] rfl rfl
            refine lv_aload_n hx hb dX8_put_101 rfl (lv_at hl 2 rfl) ?_
            refine lv_iload hx hb dX8_put_102 (lv_at hl 0 rfl) ?_
            refine nV_I (As := [.int v45]) (rest := []) (wc := (oW cy aO (aB 0) e_O_images e_O_tape e_O_reader (aP 0) e_O_trial e_O_season e_O_dates e_O_line e_O_evening e_O_choices SO)) (wr := ((bW cy aB e_B_laws e_B_told e_B_mentions e_B_claims S47) ++ (pW cy aP e_P_judge S48))) (isC := [0, 1, 2]) (isR := [3, 4, 5, 6, 7, 8, 9, 10, 11, 12, 13, 14, 15, 16, 17, 18, 19]) hc hw (c_X8_accept hm) lk_X8_103 ⟨rfl, rfl, rfl, rfl, by decide⟩ rfl rfl ⟨Nat.le_of_ble_eq_true rfl, Nat.le_of_ble_eq_true rfl⟩ ⟨Nat.le_of_ble_eq_true rfl, Nat.le_of_ble_eq_true rfl⟩ hl.1 rfl (Nat.le_of_ble_eq_true rfl) rfl dX8_put_104 (fun r50 S51 H locs hm hw => ?_)
            have hw : wV D A s.heap ((oW cy aO (aB 0) e_O_images e_O_tape e_O_reader (aP 0) e_O_trial e_O_season e_O_dates e_O_line e_O_evening e_O_choices S51) ++ ((bW cy aB e_B_laws e_B_told e_B_mentions e_B_claims S47) ++ (pW cy aP e_P_judge S48))) H locs := hw.perm [17, 18, 19, 0, 1, 2, 3, 4, 5, 6, 7, 8, 9, 10, 11, 12, 13, 14, 15, 16] rfl rfl
            exact retI (u := (S51, S47, S48)) hc hw hm dX8_put_107
        refine lv_icmp_ne (tgt := 73) hx hb dX8_put_51 (by decide) (fun c55 => ?_) (fun c55 => ?_)
        · have hm := hm.1 c55
          exact hJ13 _ hm _ _ _ hw (lv_sub hl [0, 1, 2, 3] rfl)
        · have hm := hm.2 c55
          refine lv_iload_n hx hb dX8_put_54 rfl (lv_at hl 3 rfl) ?_
          refine lv_aload_n hx hb dX8_put_55 rfl (lv_at hl 0 rfl) ?_
          refine gF (k := 0) hc hw inX8 rfl 0 rfl (by decide) (gm 415 (by decide +kernel) rfl) rfl dX8_put_56 ?_
          refine gN (k := 0) (host := "OlderTale") hc hw inX6 rfl 3 rfl (by decide) (nmm 197 (by decide +kernel)) rfl dX8_put_59 ?_
          refine lv_iload_n hx hb dX8_put_62 rfl (lv_at hl 1 rfl) ?_
          obtain ⟨c53, hm⟩ := hm
          refine aI hc hw 4 rfl c53 rfl dX8_put_63 ?_
          refine lv_icmp_ge (tgt := 73) hx hb dX8_put_64 (by decide) (fun c54 => ?_) (fun c54 => ?_)
          · have hm := hm.1 c54
            exact hJ13 _ hm _ _ _ hw (lv_sub hl [0, 1, 2, 3] rfl)
          · have hm := hm.2 c54
            exact hJ6 _ hm _ _ _ hw (lv_sub hl [0] rfl)
      refine lv_if_ne (tgt := 49) hx hb dX8_put_33 (by decide) (fun c58 => ?_) (fun c58 => ?_)
      · have hm := hm.1 c58
        exact hJ11 _ hm _ _ _ hw (lv_sub hl [0, 1, 2, 3] rfl)
      · have hm := hm.2 c58
        refine lv_iload_n hx hb dX8_put_36 rfl (lv_at hl 3 rfl) ?_
        refine lv_aload_n hx hb dX8_put_37 rfl (lv_at hl 0 rfl) ?_
        refine gF (k := 0) hc hw inX8 rfl 0 rfl (by decide) (gm 415 (by decide +kernel) rfl) rfl dX8_put_38 ?_
        refine gN (k := 1) (host := "OlderTale") hc hw inX6 rfl 3 rfl (by decide) (nmm 202 (by decide +kernel)) rfl dX8_put_41 ?_
        refine lv_iload_n hx hb dX8_put_44 rfl (lv_at hl 1 rfl) ?_
        obtain ⟨c56, hm⟩ := hm
        refine aI hc hw 5 rfl c56 rfl dX8_put_45 ?_
        refine lv_icmp_gt (tgt := 67) hx hb dX8_put_46 (by decide) (fun c57 => ?_) (fun c57 => ?_)
        · have hm := hm.1 c57
          exact hJ6 _ hm _ _ _ hw (lv_sub hl [0] rfl)
        · have hm := hm.2 c57
          exact hJ11 _ hm _ _ _ hw (lv_sub hl [0, 1, 2, 3] rfl)
    · have hm := hm.2 c62
      refine lv_aload_n hx hb dX8_put_25 rfl (lv_at hl 0 rfl) ?_
      refine lv_bipush (v := (-2)) hx hb dX8_put_26 (by decide) ?_
      refine nV_I (As := [.int (-2)]) (rest := []) (wc := (oW cy aO (aB 0) e_O_images e_O_tape e_O_reader (aP 0) e_O_trial e_O_season e_O_dates e_O_line e_O_evening e_O_choices SO)) (wr := ((bW cy aB e_B_laws e_B_told e_B_mentions e_B_claims SB) ++ (pW cy aP e_P_judge SP))) (isC := [0, 1, 2]) (isR := [3, 4, 5, 6, 7, 8, 9, 10, 11, 12, 13, 14, 15, 16, 17, 18, 19]) hc hw (c_X8_refuse hm) lk_X8_89 ⟨rfl, rfl, rfl, rfl, by decide⟩ rfl rfl ⟨Nat.le_of_ble_eq_true rfl, Nat.le_of_ble_eq_true rfl⟩ ⟨Nat.le_of_ble_eq_true rfl, Nat.le_of_ble_eq_true rfl⟩ hl.1 rfl (Nat.le_of_ble_eq_true rfl) rfl dX8_put_28 (fun r59 S60 H locs hm hw => ?_)
      have hw : wV D A s.heap ((oW cy aO (aB 0) e_O_images e_O_tape e_O_reader (aP 0) e_O_trial e_O_season e_O_dates e_O_line e_O_evening e_O_choices S60) ++ ((bW cy aB e_B_laws e_B_told e_B_mentions e_B_claims SB) ++ (pW cy aP e_P_judge SP))) H locs := hw.perm [17, 18, 19, 0, 1, 2, 3, 4, 5, 6, 7, 8, 9, 10, 11, 12, 13, 14, 15, 16] rfl rfl
      exact retI (u := (S60, SB, SP)) hc hw hm dX8_put_31
  · have hm := hm.2 c66
    refine lv_aload_n hx hb dX8_put_8 rfl (lv_at hl 0 rfl) ?_
    refine lv_iconst (v := (-1)) hx hb dX8_put_9 (by decide) ?_
    refine nV_I (As := [.int (-1)]) (rest := []) (wc := (oW cy aO (aB 0) e_O_images e_O_tape e_O_reader (aP 0) e_O_trial e_O_season e_O_dates e_O_line e_O_evening e_O_choices SO)) (wr := ((bW cy aB e_B_laws e_B_told e_B_mentions e_B_claims SB) ++ (pW cy aP e_P_judge SP))) (isC := [0, 1, 2]) (isR := [3, 4, 5, 6, 7, 8, 9, 10, 11, 12, 13, 14, 15, 16, 17, 18, 19]) hc hw (c_X8_refuse hm) lk_X8_89 ⟨rfl, rfl, rfl, rfl, by decide⟩ rfl rfl ⟨Nat.le_of_ble_eq_true rfl, Nat.le_of_ble_eq_true rfl⟩ ⟨Nat.le_of_ble_eq_true rfl, Nat.le_of_ble_eq_true rfl⟩ hl.1 rfl (Nat.le_of_ble_eq_true rfl) rfl dX8_put_10 (fun r63 S64 H locs hm hw => ?_)
    have hw : wV D A s.heap ((oW cy aO (aB 0) e_O_images e_O_tape e_O_reader (aP 0) e_O_trial e_O_season e_O_dates e_O_line e_O_evening e_O_choices S64) ++ ((bW cy aB e_B_laws e_B_told e_B_mentions e_B_claims SB) ++ (pW cy aP e_P_judge SP))) H locs := hw.perm [17, 18, 19, 0, 1, 2, 3, 4, 5, 6, 7, 8, 9, 10, 11, 12, 13, 14, 15, 16] rfl rfl
    exact retI (u := (S64, SB, SP)) hc hw hm dX8_put_13
set_option maxHeartbeats 4000000 in
set_option maxRecDepth 100000 in
theorem c_X8_hush {l : Launch} {D : va_G} {cy : Nat → ClassId} {aO : Nat → Nat} {aB : Nat → Nat} {atd : Nat → Nat} {e_O_images : Nat} {e_O_tape : Nat} {e_O_reader : Nat} {e_O_plan : Nat} {e_O_trial : Option Nat} {e_O_season : Option Nat} {e_O_dates : Nat} {e_O_line : Nat} {e_O_evening : Nat} {e_O_choices : Nat} {e_B_laws : Nat} {e_B_mentions : Nat} {e_B_claims : Nat} {SO : Ob} {SB : Ob} {Std : Ob} {Q : Int32 → Ob → Prop} (hm : w_X8_hush SO SB Std Q) : CtI l yX8_hush cX8_hush 1 (some .int) (rmN 1) D cy [.ref (aO 0)] ((oW cy aO (aB 0) e_O_images e_O_tape e_O_reader e_O_plan e_O_trial e_O_season e_O_dates e_O_line e_O_evening e_O_choices SO) ++ ((bW cy aB e_B_laws (atd 0) e_B_mentions e_B_claims SB) ++ (tW cy atd Std))) (fun u : Ob => ((oW cy aO (aB 0) e_O_images e_O_tape e_O_reader e_O_plan e_O_trial e_O_season e_O_dates e_O_line e_O_evening e_O_choices SO) ++ ((bW cy aB e_B_laws (atd 0) e_B_mentions e_B_claims SB) ++ (tW cy atd u)))) Q := by
  refine CtI.ofW (by decide) (Nat.le_of_ble_eq_true rfl) ?_
  intro p e s m args below meth c A ls hc hnm hw hl
  have hx := hc.1.1
  have hb := hc.1.2.1
  have hown := hc.1.2.2.2.1
  have hts := hc.1.2.2.2.2
  have hl : lv_has ls 1 [(0, .ref (aO 0))] := hl
  obtain ⟨H, hH⟩ : ∃ z, z = s.heap := ⟨_, rfl⟩
  obtain ⟨locs, hLc⟩ : ∃ z : List Loc, z = [] := ⟨_, rfl⟩
  have hw : wV D A s.heap ((oW cy aO (aB 0) e_O_images e_O_tape e_O_reader e_O_plan e_O_trial e_O_season e_O_dates e_O_line e_O_evening e_O_choices SO) ++ ((bW cy aB e_B_laws (atd 0) e_B_mentions e_B_claims SB) ++ (tW cy atd Std))) H locs := by rw [hH, hLc]; exact hw
  have hgo : W p l e (rmN 1) s m args below meth c H locs 0 0 (MQ below (eI D cy A (fun u : Ob => ((oW cy aO (aB 0) e_O_images e_O_tape e_O_reader e_O_plan e_O_trial e_O_season e_O_dates e_O_line e_O_evening e_O_choices SO) ++ ((bW cy aB e_B_laws (atd 0) e_B_mentions e_B_claims SB) ++ (tW cy atd u)))) Q) args s (rmN 1).cells (rmN 1).slots A) (F0 m 0 ls []) := ?hgo
  · rw [hH, hLc] at hgo; exact hgo
  refine lv_aload_n hx hb dX8_hush_0 rfl (lv_at hl 0 rfl) ?_
  refine gF (k := 0) hc hw inX8 rfl 0 rfl (by decide) (gm 415 (by decide +kernel) rfl) rfl dX8_hush_1 ?_
  refine gN (k := 9) (host := "OlderTale") hc hw inX6 rfl 3 rfl (by decide) (nmm 226 (by decide +kernel)) rfl dX8_hush_4 ?_
  refine nVN_I (As := []) (rest := []) (wc := (tW cy atd Std)) (wr := ((oW cy aO (aB 0) e_O_images e_O_tape e_O_reader e_O_plan e_O_trial e_O_season e_O_dates e_O_line e_O_evening e_O_choices SO) ++ (bW cy aB e_B_laws (atd 0) e_B_mentions e_B_claims SB))) (isC := [9, 10, 11, 12]) (isR := [0, 1, 2, 3, 4, 5, 6, 7, 8]) hc hw (c_X7_drop hm) lk_X8_188 ⟨rfl, rfl, rfl, rfl, by decide⟩ rfl rfl ⟨Nat.le_of_ble_eq_true rfl, Nat.le_of_ble_eq_true rfl⟩ ⟨Nat.le_of_ble_eq_true rfl, Nat.le_of_ble_eq_true rfl⟩ hl.1 rfl (Nat.le_of_ble_eq_true rfl) rfl dX8_hush_7 (fun r1 S2 H locs hm hw => ?_)
  have hw : wV D A s.heap ((oW cy aO (aB 0) e_O_images e_O_tape e_O_reader e_O_plan e_O_trial e_O_season e_O_dates e_O_line e_O_evening e_O_choices SO) ++ ((bW cy aB e_B_laws (atd 0) e_B_mentions e_B_claims SB) ++ (tW cy atd S2))) H locs := hw.perm [0, 1, 2, 3, 4, 5, 6, 7, 8, 9, 10, 11, 12] rfl rfl
  exact retI (u := S2) hc hw hm dX8_hush_10
set_option maxHeartbeats 4000000 in
set_option maxRecDepth 100000 in
theorem c_X8_heard {l : Launch} {D : va_G} {cy : Nat → ClassId} {aO : Nat → Nat} {aB : Nat → Nat} {atd : Nat → Nat} {e_O_images : Nat} {e_O_tape : Nat} {e_O_reader : Nat} {e_O_plan : Nat} {e_O_trial : Option Nat} {e_O_season : Option Nat} {e_O_dates : Nat} {e_O_line : Nat} {e_O_evening : Nat} {e_O_choices : Nat} {e_B_laws : Nat} {e_B_mentions : Nat} {e_B_claims : Nat} {SO : Ob} {SB : Ob} {Std : Ob} {x1 : Int32} {x2 : Int32} {Q : Int32 → Prop} (hm : w_X8_heard SO SB Std x1 x2 Q) : CtI l yX8_heard cX8_heard 3 (some .int) (rmN 1) D cy [.ref (aO 0), .int x1, .int x2] ((oW cy aO (aB 0) e_O_images e_O_tape e_O_reader e_O_plan e_O_trial e_O_season e_O_dates e_O_line e_O_evening e_O_choices SO) ++ ((bW cy aB e_B_laws (atd 0) e_B_mentions e_B_claims SB) ++ (tW cy atd Std))) (fun _ : Unit => ((oW cy aO (aB 0) e_O_images e_O_tape e_O_reader e_O_plan e_O_trial e_O_season e_O_dates e_O_line e_O_evening e_O_choices SO) ++ ((bW cy aB e_B_laws (atd 0) e_B_mentions e_B_claims SB) ++ (tW cy atd Std)))) (fun (r : Int32) (_ : Unit) => Q r) := by
  refine CtI.ofW (by decide) (Nat.le_of_ble_eq_true rfl) ?_
  intro p e s m args below meth c A ls hc hnm hw hl
  have hx := hc.1.1
  have hb := hc.1.2.1
  have hown := hc.1.2.2.2.1
  have hts := hc.1.2.2.2.2
  have hl : lv_has ls 3 [(0, .ref (aO 0)), (1, .int x1), (2, .int x2)] := hl
  obtain ⟨H, hH⟩ : ∃ z, z = s.heap := ⟨_, rfl⟩
  obtain ⟨locs, hLc⟩ : ∃ z : List Loc, z = [] := ⟨_, rfl⟩
  have hw : wV D A s.heap ((oW cy aO (aB 0) e_O_images e_O_tape e_O_reader e_O_plan e_O_trial e_O_season e_O_dates e_O_line e_O_evening e_O_choices SO) ++ ((bW cy aB e_B_laws (atd 0) e_B_mentions e_B_claims SB) ++ (tW cy atd Std))) H locs := by rw [hH, hLc]; exact hw
  have hgo : W p l e (rmN 1) s m args below meth c H locs 0 0 (MQ below (eI D cy A (fun _ : Unit => ((oW cy aO (aB 0) e_O_images e_O_tape e_O_reader e_O_plan e_O_trial e_O_season e_O_dates e_O_line e_O_evening e_O_choices SO) ++ ((bW cy aB e_B_laws (atd 0) e_B_mentions e_B_claims SB) ++ (tW cy atd Std)))) (fun (r : Int32) (_ : Unit) => Q r)) args s (rmN 1).cells (rmN 1).slots A) (F0 m 0 ls []) := ?hgo
  · rw [hH, hLc] at hgo; exact hgo
  refine lv_aload_n hx hb dX8_heard_0 rfl (lv_at hl 0 rfl) ?_
  refine gF (k := 0) hc hw inX8 rfl 0 rfl (by decide) (gm 415 (by decide +kernel) rfl) rfl dX8_heard_1 ?_
  refine gN (k := 9) (host := "OlderTale") hc hw inX6 rfl 3 rfl (by decide) (nmm 226 (by decide +kernel)) rfl dX8_heard_4 ?_
  refine lv_iload_n hx hb dX8_heard_7 rfl (lv_at hl 1 rfl) ?_
  refine lv_iload_n hx hb dX8_heard_8 rfl (lv_at hl 2 rfl) ?_
  refine nVN_I (As := [.int x1, .int x2]) (rest := []) (wc := (tW cy atd Std)) (wr := ((oW cy aO (aB 0) e_O_images e_O_tape e_O_reader e_O_plan e_O_trial e_O_season e_O_dates e_O_line e_O_evening e_O_choices SO) ++ (bW cy aB e_B_laws (atd 0) e_B_mentions e_B_claims SB))) (isC := [9, 10, 11, 12]) (isR := [0, 1, 2, 3, 4, 5, 6, 7, 8]) hc hw (c_X7_at hm) lk_X8_191 ⟨rfl, rfl, rfl, rfl, by decide⟩ rfl rfl ⟨Nat.le_of_ble_eq_true rfl, Nat.le_of_ble_eq_true rfl⟩ ⟨Nat.le_of_ble_eq_true rfl, Nat.le_of_ble_eq_true rfl⟩ hl.1 rfl (Nat.le_of_ble_eq_true rfl) rfl dX8_heard_9 (fun r1 _ H locs hm hw => ?_)
  have hw : wV D A s.heap ((oW cy aO (aB 0) e_O_images e_O_tape e_O_reader e_O_plan e_O_trial e_O_season e_O_dates e_O_line e_O_evening e_O_choices SO) ++ ((bW cy aB e_B_laws (atd 0) e_B_mentions e_B_claims SB) ++ (tW cy atd Std))) H locs := hw.perm [0, 1, 2, 3, 4, 5, 6, 7, 8, 9, 10, 11, 12] rfl rfl
  exact retI (u := ()) hc hw hm dX8_heard_12
set_option maxHeartbeats 4000000 in
set_option maxRecDepth 100000 in
theorem c_X8_mention {l : Launch} {D : va_G} {cy : Nat → ClassId} {aO : Nat → Nat} {aB : Nat → Nat} {ame : Nat → Nat} {e_O_images : Nat} {e_O_tape : Nat} {e_O_reader : Nat} {e_O_plan : Nat} {e_O_trial : Option Nat} {e_O_season : Option Nat} {e_O_dates : Nat} {e_O_line : Nat} {e_O_evening : Nat} {e_O_choices : Nat} {e_B_laws : Nat} {e_B_told : Nat} {e_B_claims : Nat} {SO : Ob} {SB : Ob} {Sme : Ob} {x1 : Int32} {x2 : Int32} {x3 : Int32} {Q : Int32 → Ob → Ob → Prop} (hm : w_X8_mention SO SB Sme x1 x2 x3 Q) : CtI l yX8_mention cX8_mention 4 (some .int) (rmN 1) D cy [.ref (aO 0), .int x1, .int x2, .int x3] ((oW cy aO (aB 0) e_O_images e_O_tape e_O_reader e_O_plan e_O_trial e_O_season e_O_dates e_O_line e_O_evening e_O_choices SO) ++ ((bW cy aB e_B_laws e_B_told (ame 0) e_B_claims SB) ++ (tW cy ame Sme))) (fun u : Ob × Ob => ((oW cy aO (aB 0) e_O_images e_O_tape e_O_reader e_O_plan e_O_trial e_O_season e_O_dates e_O_line e_O_evening e_O_choices u.1) ++ ((bW cy aB e_B_laws e_B_told (ame 0) e_B_claims SB) ++ (tW cy ame u.2)))) (fun (r : Int32) (u : Ob × Ob) => Q r u.1 u.2) := by
  refine CtI.ofW (by decide) (Nat.le_of_ble_eq_true rfl) ?_
  intro p e s m args below meth c A ls hc hnm hw hl
  have hx := hc.1.1
  have hb := hc.1.2.1
  have hown := hc.1.2.2.2.1
  have hts := hc.1.2.2.2.2
  have hl : lv_has ls 4 [(0, .ref (aO 0)), (1, .int x1), (2, .int x2), (3, .int x3)] := hl
  obtain ⟨H, hH⟩ : ∃ z, z = s.heap := ⟨_, rfl⟩
  obtain ⟨locs, hLc⟩ : ∃ z : List Loc, z = [] := ⟨_, rfl⟩
  have hw : wV D A s.heap ((oW cy aO (aB 0) e_O_images e_O_tape e_O_reader e_O_plan e_O_trial e_O_season e_O_dates e_O_line e_O_evening e_O_choices SO) ++ ((bW cy aB e_B_laws e_B_told (ame 0) e_B_claims SB) ++ (tW cy ame Sme))) H locs := by rw [hH, hLc]; exact hw
  have hgo : W p l e (rmN 1) s m args below meth c H locs 0 0 (MQ below (eI D cy A (fun u : Ob × Ob => ((oW cy aO (aB 0) e_O_images e_O_tape e_O_reader e_O_plan e_O_trial e_O_season e_O_dates e_O_line e_O_evening e_O_choices u.1) ++ ((bW cy aB e_B_laws e_B_told (ame 0) e_B_claims SB) ++ (tW cy ame u.2)))) (fun (r : Int32) (u : Ob × Ob) => Q r u.1 u.2)) args s (rmN 1).cells (rmN 1).slots A) (F0 m 0 ls []) := ?hgo
  · rw [hH, hLc] at hgo; exact hgo
  refine lv_iload_n hx hb dX8_mention_0 rfl (lv_at hl 3 rfl) ?_
  obtain ⟨J2, eJ2, hm⟩ := jn_e hm
  have hJ2 : ∀ (z1 : Unit) (_ : J2 z1) (H : Heap) (locs : List Loc) (ls : Array Slot), wV D A s.heap ((oW cy aO (aB 0) e_O_images e_O_tape e_O_reader e_O_plan e_O_trial e_O_season e_O_dates e_O_line e_O_evening e_O_choices SO) ++ ((bW cy aB e_B_laws e_B_told (ame 0) e_B_claims SB) ++ (tW cy ame Sme))) H locs → lv_has ls 4 [(0, .ref (aO 0))] → W p l e (rmN 1) s m args below meth c H locs 0 0 (MQ below (eI D cy A (fun u : Ob × Ob => ((oW cy aO (aB 0) e_O_images e_O_tape e_O_reader e_O_plan e_O_trial e_O_season e_O_dates e_O_line e_O_evening e_O_choices u.1) ++ ((bW cy aB e_B_laws e_B_told (ame 0) e_B_claims SB) ++ (tW cy ame u.2)))) (fun (r : Int32) (u : Ob × Ob) => Q r u.1 u.2)) args s (rmN 1).cells (rmN 1).slots A) (F0 m 11 ls []) := by
    intro z1 hm H locs ls hw hl
    rw [eJ2] at hm
    refine lv_aload_n hx hb dX8_mention_11 rfl (lv_at hl 0 rfl) ?_
    refine lv_iconst (v := (-1)) hx hb dX8_mention_12 (by decide) ?_
    refine nV_I (As := [.int (-1)]) (rest := []) (wc := (oW cy aO (aB 0) e_O_images e_O_tape e_O_reader e_O_plan e_O_trial e_O_season e_O_dates e_O_line e_O_evening e_O_choices SO)) (wr := ((bW cy aB e_B_laws e_B_told (ame 0) e_B_claims SB) ++ (tW cy ame Sme))) (isC := [0, 1, 2]) (isR := [3, 4, 5, 6, 7, 8, 9, 10, 11, 12]) hc hw (c_X8_refuse hm) lk_X8_89 ⟨rfl, rfl, rfl, rfl, by decide⟩ rfl rfl ⟨Nat.le_of_ble_eq_true rfl, Nat.le_of_ble_eq_true rfl⟩ ⟨Nat.le_of_ble_eq_true rfl, Nat.le_of_ble_eq_true rfl⟩ hl.1 rfl (Nat.le_of_ble_eq_true rfl) rfl dX8_mention_13 (fun r3 S4 H locs hm hw => ?_)
    have hw : wV D A s.heap ((oW cy aO (aB 0) e_O_images e_O_tape e_O_reader e_O_plan e_O_trial e_O_season e_O_dates e_O_line e_O_evening e_O_choices S4) ++ ((bW cy aB e_B_laws e_B_told (ame 0) e_B_claims SB) ++ (tW cy ame Sme))) H locs := hw.perm [10, 11, 12, 0, 1, 2, 3, 4, 5, 6, 7, 8, 9] rfl rfl
    exact retI (u := (S4, Sme)) hc hw hm dX8_mention_16
  refine lv_if_lt (tgt := 11) hx hb dX8_mention_1 (by decide) (fun c33 => ?_) (fun c33 => ?_)
  · have hm := hm.1 c33
    exact hJ2 _ hm _ _ _ hw (lv_sub hl [0] rfl)
  · have hm := hm.2 c33
    refine lv_iload_n hx hb dX8_mention_4 rfl (lv_at hl 3 rfl) ?_
    refine lv_sipush (v := 500) hx hb dX8_mention_5 (by decide) ?_
    refine lv_icmp_le (tgt := 17) hx hb dX8_mention_8 (by decide) (fun c32 => ?_) (fun c32 => ?_)
    · have hm := hm.1 c32
      refine lv_aload_n hx hb dX8_mention_17 rfl (lv_at hl 0 rfl) ?_
      refine gF (k := 0) hc hw inX8 rfl 0 rfl (by decide) (gm 415 (by decide +kernel) rfl) rfl dX8_mention_18 ?_
      refine lv_iload_n hx hb dX8_mention_21 rfl (lv_at hl 1 rfl) ?_
      refine nVN_I (As := [.int x1]) (rest := []) (wc := (bW cy aB e_B_laws e_B_told (ame 0) e_B_claims SB)) (wr := ((oW cy aO (aB 0) e_O_images e_O_tape e_O_reader e_O_plan e_O_trial e_O_season e_O_dates e_O_line e_O_evening e_O_choices SO) ++ (tW cy ame Sme))) (isC := [3, 4, 5, 6, 7, 8]) (isR := [0, 1, 2, 9, 10, 11, 12]) hc hw (c_X6_has hm) lk_X8_110 ⟨rfl, rfl, rfl, rfl, by decide⟩ rfl rfl ⟨Nat.le_of_ble_eq_true rfl, Nat.le_of_ble_eq_true rfl⟩ ⟨Nat.le_of_ble_eq_true rfl, Nat.le_of_ble_eq_true rfl⟩ hl.1 rfl (Nat.le_of_ble_eq_true rfl) rfl dX8_mention_22 (fun r6 _ H locs hm hw => ?_)
      have hw : wV D A s.heap ((oW cy aO (aB 0) e_O_images e_O_tape e_O_reader e_O_plan e_O_trial e_O_season e_O_dates e_O_line e_O_evening e_O_choices SO) ++ ((bW cy aB e_B_laws e_B_told (ame 0) e_B_claims SB) ++ (tW cy ame Sme))) H locs := hw.perm [0, 1, 2, 7, 8, 9, 10, 11, 12, 3, 4, 5, 6] rfl rfl
      obtain ⟨J9, eJ9, hm⟩ := jn_e hm
      have hJ9 : ∀ (z8 : Unit) (_ : J9 z8) (H : Heap) (locs : List Loc) (ls : Array Slot), wV D A s.heap ((oW cy aO (aB 0) e_O_images e_O_tape e_O_reader e_O_plan e_O_trial e_O_season e_O_dates e_O_line e_O_evening e_O_choices SO) ++ ((bW cy aB e_B_laws e_B_told (ame 0) e_B_claims SB) ++ (tW cy ame Sme))) H locs → lv_has ls 4 [(0, .ref (aO 0))] → W p l e (rmN 1) s m args below meth c H locs 0 0 (MQ below (eI D cy A (fun u : Ob × Ob => ((oW cy aO (aB 0) e_O_images e_O_tape e_O_reader e_O_plan e_O_trial e_O_season e_O_dates e_O_line e_O_evening e_O_choices u.1) ++ ((bW cy aB e_B_laws e_B_told (ame 0) e_B_claims SB) ++ (tW cy ame u.2)))) (fun (r : Int32) (u : Ob × Ob) => Q r u.1 u.2)) args s (rmN 1).cells (rmN 1).slots A) (F0 m 39 ls []) := by
        intro z8 hm H locs ls hw hl
        rw [eJ9] at hm
        refine lv_aload_n hx hb dX8_mention_39 rfl (lv_at hl 0 rfl) ?_
        refine lv_bipush (v := (-2)) hx hb dX8_mention_40 (by decide) ?_
        refine nV_I (As := [.int (-2)]) (rest := []) (wc := (oW cy aO (aB 0) e_O_images e_O_tape e_O_reader e_O_plan e_O_trial e_O_season e_O_dates e_O_line e_O_evening e_O_choices SO)) (wr := ((bW cy aB e_B_laws e_B_told (ame 0) e_B_claims SB) ++ (tW cy ame Sme))) (isC := [0, 1, 2]) (isR := [3, 4, 5, 6, 7, 8, 9, 10, 11, 12]) hc hw (c_X8_refuse hm) lk_X8_89 ⟨rfl, rfl, rfl, rfl, by decide⟩ rfl rfl ⟨Nat.le_of_ble_eq_true rfl, Nat.le_of_ble_eq_true rfl⟩ ⟨Nat.le_of_ble_eq_true rfl, Nat.le_of_ble_eq_true rfl⟩ hl.1 rfl (Nat.le_of_ble_eq_true rfl) rfl dX8_mention_42 (fun r10 S11 H locs hm hw => ?_)
        have hw : wV D A s.heap ((oW cy aO (aB 0) e_O_images e_O_tape e_O_reader e_O_plan e_O_trial e_O_season e_O_dates e_O_line e_O_evening e_O_choices S11) ++ ((bW cy aB e_B_laws e_B_told (ame 0) e_B_claims SB) ++ (tW cy ame Sme))) H locs := hw.perm [10, 11, 12, 0, 1, 2, 3, 4, 5, 6, 7, 8, 9] rfl rfl
        exact retI (u := (S11, Sme)) hc hw hm dX8_mention_45
      refine lv_if_eq (tgt := 39) hx hb dX8_mention_25 (by decide) (fun c31 => ?_) (fun c31 => ?_)
      · have hm := hm.1 c31
        exact hJ9 _ hm _ _ _ hw (lv_sub hl [0] rfl)
      · have hm := hm.2 c31
        refine lv_aload_n hx hb dX8_mention_28 rfl (lv_at hl 0 rfl) ?_
        refine gF (k := 0) hc hw inX8 rfl 0 rfl (by decide) (gm 415 (by decide +kernel) rfl) rfl dX8_mention_29 ?_
        refine lv_iload_n hx hb dX8_mention_32 rfl (lv_at hl 2 rfl) ?_
        refine nVN_I (As := [.int x2]) (rest := []) (wc := (bW cy aB e_B_laws e_B_told (ame 0) e_B_claims SB)) (wr := ((oW cy aO (aB 0) e_O_images e_O_tape e_O_reader e_O_plan e_O_trial e_O_season e_O_dates e_O_line e_O_evening e_O_choices SO) ++ (tW cy ame Sme))) (isC := [3, 4, 5, 6, 7, 8]) (isR := [0, 1, 2, 9, 10, 11, 12]) hc hw (c_X6_has hm) lk_X8_110 ⟨rfl, rfl, rfl, rfl, by decide⟩ rfl rfl ⟨Nat.le_of_ble_eq_true rfl, Nat.le_of_ble_eq_true rfl⟩ ⟨Nat.le_of_ble_eq_true rfl, Nat.le_of_ble_eq_true rfl⟩ hl.1 rfl (Nat.le_of_ble_eq_true rfl) rfl dX8_mention_33 (fun r13 _ H locs hm hw => ?_)
        have hw : wV D A s.heap ((oW cy aO (aB 0) e_O_images e_O_tape e_O_reader e_O_plan e_O_trial e_O_season e_O_dates e_O_line e_O_evening e_O_choices SO) ++ ((bW cy aB e_B_laws e_B_told (ame 0) e_B_claims SB) ++ (tW cy ame Sme))) H locs := hw.perm [0, 1, 2, 7, 8, 9, 10, 11, 12, 3, 4, 5, 6] rfl rfl
        refine lv_if_ne (tgt := 46) hx hb dX8_mention_36 (by decide) (fun c30 => ?_) (fun c30 => ?_)
        · have hm := hm.1 c30
          refine lv_iload_n hx hb dX8_mention_46 rfl (lv_at hl 1 rfl) ?_
          refine lv_iload_n hx hb dX8_mention_47 rfl (lv_at hl 2 rfl) ?_
          refine lv_icmp_ne (tgt := 58) hx hb dX8_mention_48 (by decide) (fun c29 => ?_) (fun c29 => ?_)
          · have hm := hm.1 c29
            refine lv_aload_n hx hb dX8_mention_58 rfl (lv_at hl 0 rfl) ?_
            refine gF (k := 0) hc hw inX8 rfl 0 rfl (by decide) (gm 415 (by decide +kernel) rfl) rfl dX8_mention_59 ?_
            refine gN (k := 10) (host := "OlderTale") hc hw inX6 rfl 3 rfl (by decide) (nmm 229 (by decide +kernel)) rfl dX8_mention_62 ?_
            refine nVN_I (As := []) (rest := []) (wc := (tW cy ame Sme)) (wr := ((oW cy aO (aB 0) e_O_images e_O_tape e_O_reader e_O_plan e_O_trial e_O_season e_O_dates e_O_line e_O_evening e_O_choices SO) ++ (bW cy aB e_B_laws e_B_told (ame 0) e_B_claims SB))) (isC := [9, 10, 11, 12]) (isR := [0, 1, 2, 3, 4, 5, 6, 7, 8]) hc hw (c_X7_isFull hm) lk_X8_258 ⟨rfl, rfl, rfl, rfl, by decide⟩ rfl rfl ⟨Nat.le_of_ble_eq_true rfl, Nat.le_of_ble_eq_true rfl⟩ ⟨Nat.le_of_ble_eq_true rfl, Nat.le_of_ble_eq_true rfl⟩ hl.1 rfl (Nat.le_of_ble_eq_true rfl) rfl dX8_mention_65 (fun r15 _ H locs hm hw => ?_)
            have hw : wV D A s.heap ((oW cy aO (aB 0) e_O_images e_O_tape e_O_reader e_O_plan e_O_trial e_O_season e_O_dates e_O_line e_O_evening e_O_choices SO) ++ ((bW cy aB e_B_laws e_B_told (ame 0) e_B_claims SB) ++ (tW cy ame Sme))) H locs := hw.perm [0, 1, 2, 3, 4, 5, 6, 7, 8, 9, 10, 11, 12] rfl rfl
            refine lv_if_eq (tgt := 78) hx hb dX8_mention_68 (by decide) (fun c25 => ?_) (fun c25 => ?_)
            · have hm := hm.1 c25
              refine lv_aload_n hx hb dX8_mention_78 rfl (lv_at hl 0 rfl) ?_
              refine gF (k := 0) hc hw inX8 rfl 0 rfl (by decide) (gm 415 (by decide +kernel) rfl) rfl dX8_mention_79 ?_
              refine gN (k := 10) (host := "OlderTale") hc hw inX6 rfl 3 rfl (by decide) (nmm 229 (by decide +kernel)) rfl dX8_mention_82 ?_
              refine lv_iload_n hx hb dX8_mention_85 rfl (lv_at hl 1 rfl) ?_
              refine lv_iload_n hx hb dX8_mention_86 rfl (lv_at hl 2 rfl) ?_
              refine lv_iload_n hx hb dX8_mention_87 rfl (lv_at hl 3 rfl) ?_
              refine nVN_V (As := [.int x1, .int x2, .int x3]) (rest := []) (wc := (tW cy ame Sme)) (wr := ((oW cy aO (aB 0) e_O_images e_O_tape e_O_reader e_O_plan e_O_trial e_O_season e_O_dates e_O_line e_O_evening e_O_choices SO) ++ (bW cy aB e_B_laws e_B_told (ame 0) e_B_claims SB))) (isC := [9, 10, 11, 12]) (isR := [0, 1, 2, 3, 4, 5, 6, 7, 8]) hc hw (c_X7_add hm) lk_X8_185 ⟨rfl, rfl, rfl, rfl, by decide⟩ rfl rfl ⟨Nat.le_of_ble_eq_true rfl, Nat.le_of_ble_eq_true rfl⟩ ⟨Nat.le_of_ble_eq_true rfl, Nat.le_of_ble_eq_true rfl⟩ hl.1 rfl (Nat.le_of_ble_eq_true rfl) rfl dX8_mention_88 (fun S17 H locs hm hw => ?_)
              have hw : wV D A s.heap ((oW cy aO (aB 0) e_O_images e_O_tape e_O_reader e_O_plan e_O_trial e_O_season e_O_dates e_O_line e_O_evening e_O_choices SO) ++ ((bW cy aB e_B_laws e_B_told (ame 0) e_B_claims SB) ++ (tW cy ame S17))) H locs := hw.perm [0, 1, 2, 3, 4, 5, 6, 7, 8, 9, 10, 11, 12] rfl rfl
              refine lv_aload_n hx hb dX8_mention_91 rfl (lv_at hl 0 rfl) ?_
              refine lv_aload_n hx hb dX8_mention_92 rfl (lv_at hl 0 rfl) ?_
              refine gF (k := 0) hc hw inX8 rfl 0 rfl (by decide) (gm 415 (by decide +kernel) rfl) rfl dX8_mention_93 ?_
              refine gN (k := 10) (host := "OlderTale") hc hw inX6 rfl 3 rfl (by decide) (nmm 229 (by decide +kernel)) rfl dX8_mention_96 ?_
              refine gN (k := 3) (host := "OlderTale") hc hw inX7 rfl 9 rfl (by decide) (nmm 183 (by decide +kernel)) rfl dX8_mention_99 ?_
              refine nV_I (As := [.int (S17.1 3)]) (rest := []) (wc := (oW cy aO (aB 0) e_O_images e_O_tape e_O_reader e_O_plan e_O_trial e_O_season e_O_dates e_O_line e_O_evening e_O_choices SO)) (wr := ((bW cy aB e_B_laws e_B_told (ame 0) e_B_claims SB) ++ (tW cy ame S17))) (isC := [0, 1, 2]) (isR := [3, 4, 5, 6, 7, 8, 9, 10, 11, 12]) hc hw (c_X8_accept hm) lk_X8_103 ⟨rfl, rfl, rfl, rfl, by decide⟩ rfl rfl ⟨Nat.le_of_ble_eq_true rfl, Nat.le_of_ble_eq_true rfl⟩ ⟨Nat.le_of_ble_eq_true rfl, Nat.le_of_ble_eq_true rfl⟩ hl.1 rfl (Nat.le_of_ble_eq_true rfl) rfl dX8_mention_102 (fun r19 S20 H locs hm hw => ?_)
              have hw : wV D A s.heap ((oW cy aO (aB 0) e_O_images e_O_tape e_O_reader e_O_plan e_O_trial e_O_season e_O_dates e_O_line e_O_evening e_O_choices S20) ++ ((bW cy aB e_B_laws e_B_told (ame 0) e_B_claims SB) ++ (tW cy ame S17))) H locs := hw.perm [10, 11, 12, 0, 1, 2, 3, 4, 5, 6, 7, 8, 9] rfl rfl
              exact retI (u := (S20, S17)) hc hw hm dX8_mention_105
            · have hm := hm.2 c25
              refine lv_aload_n hx hb dX8_mention_71 rfl (lv_at hl 0 rfl) ?_
              refine lv_bipush (v := (-5)) hx hb dX8_mention_72 (by decide) ?_
              refine nV_I (As := [.int (-5)]) (rest := []) (wc := (oW cy aO (aB 0) e_O_images e_O_tape e_O_reader e_O_plan e_O_trial e_O_season e_O_dates e_O_line e_O_evening e_O_choices SO)) (wr := ((bW cy aB e_B_laws e_B_told (ame 0) e_B_claims SB) ++ (tW cy ame Sme))) (isC := [0, 1, 2]) (isR := [3, 4, 5, 6, 7, 8, 9, 10, 11, 12]) hc hw (c_X8_refuse hm) lk_X8_89 ⟨rfl, rfl, rfl, rfl, by decide⟩ rfl rfl ⟨Nat.le_of_ble_eq_true rfl, Nat.le_of_ble_eq_true rfl⟩ ⟨Nat.le_of_ble_eq_true rfl, Nat.le_of_ble_eq_true rfl⟩ hl.1 rfl (Nat.le_of_ble_eq_true rfl) rfl dX8_mention_74 (fun r22 S23 H locs hm hw => ?_)
              have hw : wV D A s.heap ((oW cy aO (aB 0) e_O_images e_O_tape e_O_reader e_O_plan e_O_trial e_O_season e_O_dates e_O_line e_O_evening e_O_choices S23) ++ ((bW cy aB e_B_laws e_B_told (ame 0) e_B_claims SB) ++ (tW cy ame Sme))) H locs := hw.perm [10, 11, 12, 0, 1, 2, 3, 4, 5, 6, 7, 8, 9] rfl rfl
              exact retI (u := (S23, Sme)) hc hw hm dX8_mention_77
          · have hm := hm.2 c29
            refine lv_aload_n hx hb dX8_mention_51 rfl (lv_at hl 0 rfl) ?_
            refine lv_bipush (v := (-3)) hx hb dX8_mention_52 (by decide) ?_
            refine nV_I (As := [.int (-3)]) (rest := []) (wc := (oW cy aO (aB 0) e_O_images e_O_tape e_O_reader e_O_plan e_O_trial e_O_season e_O_dates e_O_line e_O_evening e_O_choices SO)) (wr := ((bW cy aB e_B_laws e_B_told (ame 0) e_B_claims SB) ++ (tW cy ame Sme))) (isC := [0, 1, 2]) (isR := [3, 4, 5, 6, 7, 8, 9, 10, 11, 12]) hc hw (c_X8_refuse hm) lk_X8_89 ⟨rfl, rfl, rfl, rfl, by decide⟩ rfl rfl ⟨Nat.le_of_ble_eq_true rfl, Nat.le_of_ble_eq_true rfl⟩ ⟨Nat.le_of_ble_eq_true rfl, Nat.le_of_ble_eq_true rfl⟩ hl.1 rfl (Nat.le_of_ble_eq_true rfl) rfl dX8_mention_54 (fun r26 S27 H locs hm hw => ?_)
            have hw : wV D A s.heap ((oW cy aO (aB 0) e_O_images e_O_tape e_O_reader e_O_plan e_O_trial e_O_season e_O_dates e_O_line e_O_evening e_O_choices S27) ++ ((bW cy aB e_B_laws e_B_told (ame 0) e_B_claims SB) ++ (tW cy ame Sme))) H locs := hw.perm [10, 11, 12, 0, 1, 2, 3, 4, 5, 6, 7, 8, 9] rfl rfl
            exact retI (u := (S27, Sme)) hc hw hm dX8_mention_57
        · have hm := hm.2 c30
          exact hJ9 _ hm _ _ _ hw (lv_sub hl [0] rfl)
    · have hm := hm.2 c32
      exact hJ2 _ hm _ _ _ hw (lv_sub hl [0] rfl)
set_option maxHeartbeats 4000000 in
set_option maxRecDepth 100000 in
theorem c_X8_forget {l : Launch} {D : va_G} {cy : Nat → ClassId} {aO : Nat → Nat} {aB : Nat → Nat} {ame : Nat → Nat} {e_O_images : Nat} {e_O_tape : Nat} {e_O_reader : Nat} {e_O_plan : Nat} {e_O_trial : Option Nat} {e_O_season : Option Nat} {e_O_dates : Nat} {e_O_line : Nat} {e_O_evening : Nat} {e_O_choices : Nat} {e_B_laws : Nat} {e_B_told : Nat} {e_B_claims : Nat} {SO : Ob} {SB : Ob} {Sme : Ob} {Q : Int32 → Ob → Prop} (hm : w_X8_forget SO SB Sme Q) : CtI l yX8_forget cX8_forget 1 (some .int) (rmN 1) D cy [.ref (aO 0)] ((oW cy aO (aB 0) e_O_images e_O_tape e_O_reader e_O_plan e_O_trial e_O_season e_O_dates e_O_line e_O_evening e_O_choices SO) ++ ((bW cy aB e_B_laws e_B_told (ame 0) e_B_claims SB) ++ (tW cy ame Sme))) (fun u : Ob => ((oW cy aO (aB 0) e_O_images e_O_tape e_O_reader e_O_plan e_O_trial e_O_season e_O_dates e_O_line e_O_evening e_O_choices SO) ++ ((bW cy aB e_B_laws e_B_told (ame 0) e_B_claims SB) ++ (tW cy ame u)))) Q := by
  refine CtI.ofW (by decide) (Nat.le_of_ble_eq_true rfl) ?_
  intro p e s m args below meth c A ls hc hnm hw hl
  have hx := hc.1.1
  have hb := hc.1.2.1
  have hown := hc.1.2.2.2.1
  have hts := hc.1.2.2.2.2
  have hl : lv_has ls 1 [(0, .ref (aO 0))] := hl
  obtain ⟨H, hH⟩ : ∃ z, z = s.heap := ⟨_, rfl⟩
  obtain ⟨locs, hLc⟩ : ∃ z : List Loc, z = [] := ⟨_, rfl⟩
  have hw : wV D A s.heap ((oW cy aO (aB 0) e_O_images e_O_tape e_O_reader e_O_plan e_O_trial e_O_season e_O_dates e_O_line e_O_evening e_O_choices SO) ++ ((bW cy aB e_B_laws e_B_told (ame 0) e_B_claims SB) ++ (tW cy ame Sme))) H locs := by rw [hH, hLc]; exact hw
  have hgo : W p l e (rmN 1) s m args below meth c H locs 0 0 (MQ below (eI D cy A (fun u : Ob => ((oW cy aO (aB 0) e_O_images e_O_tape e_O_reader e_O_plan e_O_trial e_O_season e_O_dates e_O_line e_O_evening e_O_choices SO) ++ ((bW cy aB e_B_laws e_B_told (ame 0) e_B_claims SB) ++ (tW cy ame u)))) Q) args s (rmN 1).cells (rmN 1).slots A) (F0 m 0 ls []) := ?hgo
  · rw [hH, hLc] at hgo; exact hgo
  refine lv_aload_n hx hb dX8_forget_0 rfl (lv_at hl 0 rfl) ?_
  refine gF (k := 0) hc hw inX8 rfl 0 rfl (by decide) (gm 415 (by decide +kernel) rfl) rfl dX8_forget_1 ?_
  refine gN (k := 10) (host := "OlderTale") hc hw inX6 rfl 3 rfl (by decide) (nmm 229 (by decide +kernel)) rfl dX8_forget_4 ?_
  refine nVN_I (As := []) (rest := []) (wc := (tW cy ame Sme)) (wr := ((oW cy aO (aB 0) e_O_images e_O_tape e_O_reader e_O_plan e_O_trial e_O_season e_O_dates e_O_line e_O_evening e_O_choices SO) ++ (bW cy aB e_B_laws e_B_told (ame 0) e_B_claims SB))) (isC := [9, 10, 11, 12]) (isR := [0, 1, 2, 3, 4, 5, 6, 7, 8]) hc hw (c_X7_drop hm) lk_X8_188 ⟨rfl, rfl, rfl, rfl, by decide⟩ rfl rfl ⟨Nat.le_of_ble_eq_true rfl, Nat.le_of_ble_eq_true rfl⟩ ⟨Nat.le_of_ble_eq_true rfl, Nat.le_of_ble_eq_true rfl⟩ hl.1 rfl (Nat.le_of_ble_eq_true rfl) rfl dX8_forget_7 (fun r1 S2 H locs hm hw => ?_)
  have hw : wV D A s.heap ((oW cy aO (aB 0) e_O_images e_O_tape e_O_reader e_O_plan e_O_trial e_O_season e_O_dates e_O_line e_O_evening e_O_choices SO) ++ ((bW cy aB e_B_laws e_B_told (ame 0) e_B_claims SB) ++ (tW cy ame S2))) H locs := hw.perm [0, 1, 2, 3, 4, 5, 6, 7, 8, 9, 10, 11, 12] rfl rfl
  exact retI (u := S2) hc hw hm dX8_forget_10
set_option maxHeartbeats 4000000 in
set_option maxRecDepth 100000 in
theorem c_X8_claim {l : Launch} {D : va_G} {cy : Nat → ClassId} {aO : Nat → Nat} {aB : Nat → Nat} {acl : Nat → Nat} {e_O_images : Nat} {e_O_tape : Nat} {e_O_reader : Nat} {e_O_plan : Nat} {e_O_trial : Option Nat} {e_O_season : Option Nat} {e_O_dates : Nat} {e_O_line : Nat} {e_O_evening : Nat} {e_O_choices : Nat} {e_B_laws : Nat} {e_B_told : Nat} {e_B_mentions : Nat} {SO : Ob} {SB : Ob} {Scl : Ob} {x1 : Int32} {x2 : Int32} {x3 : Int32} {Q : Int32 → Ob → Ob → Prop} (hm : w_X8_claim SO SB Scl x1 x2 x3 Q) : CtI l yX8_claim cX8_claim 4 (some .int) (rmN 1) D cy [.ref (aO 0), .int x1, .int x2, .int x3] ((oW cy aO (aB 0) e_O_images e_O_tape e_O_reader e_O_plan e_O_trial e_O_season e_O_dates e_O_line e_O_evening e_O_choices SO) ++ ((bW cy aB e_B_laws e_B_told e_B_mentions (acl 0) SB) ++ (tW cy acl Scl))) (fun u : Ob × Ob => ((oW cy aO (aB 0) e_O_images e_O_tape e_O_reader e_O_plan e_O_trial e_O_season e_O_dates e_O_line e_O_evening e_O_choices u.1) ++ ((bW cy aB e_B_laws e_B_told e_B_mentions (acl 0) SB) ++ (tW cy acl u.2)))) (fun (r : Int32) (u : Ob × Ob) => Q r u.1 u.2) := by
  refine CtI.ofW (by decide) (Nat.le_of_ble_eq_true rfl) ?_
  intro p e s m args below meth c A ls hc hnm hw hl
  have hx := hc.1.1
  have hb := hc.1.2.1
  have hown := hc.1.2.2.2.1
  have hts := hc.1.2.2.2.2
  have hl : lv_has ls 4 [(0, .ref (aO 0)), (1, .int x1), (2, .int x2), (3, .int x3)] := hl
  obtain ⟨H, hH⟩ : ∃ z, z = s.heap := ⟨_, rfl⟩
  obtain ⟨locs, hLc⟩ : ∃ z : List Loc, z = [] := ⟨_, rfl⟩
  have hw : wV D A s.heap ((oW cy aO (aB 0) e_O_images e_O_tape e_O_reader e_O_plan e_O_trial e_O_season e_O_dates e_O_line e_O_evening e_O_choices SO) ++ ((bW cy aB e_B_laws e_B_told e_B_mentions (acl 0) SB) ++ (tW cy acl Scl))) H locs := by rw [hH, hLc]; exact hw
  have hgo : W p l e (rmN 1) s m args below meth c H locs 0 0 (MQ below (eI D cy A (fun u : Ob × Ob => ((oW cy aO (aB 0) e_O_images e_O_tape e_O_reader e_O_plan e_O_trial e_O_season e_O_dates e_O_line e_O_evening e_O_choices u.1) ++ ((bW cy aB e_B_laws e_B_told e_B_mentions (acl 0) SB) ++ (tW cy acl u.2)))) (fun (r : Int32) (u : Ob × Ob) => Q r u.1 u.2)) args s (rmN 1).cells (rmN 1).slots A) (F0 m 0 ls []) := ?hgo
  · rw [hH, hLc] at hgo; exact hgo
  refine lv_iload_n hx hb dX8_claim_0 rfl (lv_at hl 2 rfl) ?_
  obtain ⟨J2, eJ2, hm⟩ := jn_e hm
  have hJ2 : ∀ (z1 : Unit) (_ : J2 z1) (H : Heap) (locs : List Loc) (ls : Array Slot), wV D A s.heap ((oW cy aO (aB 0) e_O_images e_O_tape e_O_reader e_O_plan e_O_trial e_O_season e_O_dates e_O_line e_O_evening e_O_choices SO) ++ ((bW cy aB e_B_laws e_B_told e_B_mentions (acl 0) SB) ++ (tW cy acl Scl))) H locs → lv_has ls 4 [(0, .ref (aO 0))] → W p l e (rmN 1) s m args below meth c H locs 0 0 (MQ below (eI D cy A (fun u : Ob × Ob => ((oW cy aO (aB 0) e_O_images e_O_tape e_O_reader e_O_plan e_O_trial e_O_season e_O_dates e_O_line e_O_evening e_O_choices u.1) ++ ((bW cy aB e_B_laws e_B_told e_B_mentions (acl 0) SB) ++ (tW cy acl u.2)))) (fun (r : Int32) (u : Ob × Ob) => Q r u.1 u.2)) args s (rmN 1).cells (rmN 1).slots A) (F0 m 20 ls []) := by
    intro z1 hm H locs ls hw hl
    rw [eJ2] at hm
    refine lv_aload_n hx hb dX8_claim_20 rfl (lv_at hl 0 rfl) ?_
    refine lv_iconst (v := (-1)) hx hb dX8_claim_21 (by decide) ?_
    refine nV_I (As := [.int (-1)]) (rest := []) (wc := (oW cy aO (aB 0) e_O_images e_O_tape e_O_reader e_O_plan e_O_trial e_O_season e_O_dates e_O_line e_O_evening e_O_choices SO)) (wr := ((bW cy aB e_B_laws e_B_told e_B_mentions (acl 0) SB) ++ (tW cy acl Scl))) (isC := [0, 1, 2]) (isR := [3, 4, 5, 6, 7, 8, 9, 10, 11, 12]) hc hw (c_X8_refuse hm) lk_X8_89 ⟨rfl, rfl, rfl, rfl, by decide⟩ rfl rfl ⟨Nat.le_of_ble_eq_true rfl, Nat.le_of_ble_eq_true rfl⟩ ⟨Nat.le_of_ble_eq_true rfl, Nat.le_of_ble_eq_true rfl⟩ hl.1 rfl (Nat.le_of_ble_eq_true rfl) rfl dX8_claim_22 (fun r3 S4 H locs hm hw => ?_)
    have hw : wV D A s.heap ((oW cy aO (aB 0) e_O_images e_O_tape e_O_reader e_O_plan e_O_trial e_O_season e_O_dates e_O_line e_O_evening e_O_choices S4) ++ ((bW cy aB e_B_laws e_B_told e_B_mentions (acl 0) SB) ++ (tW cy acl Scl))) H locs := hw.perm [10, 11, 12, 0, 1, 2, 3, 4, 5, 6, 7, 8, 9] rfl rfl
    exact retI (u := (S4, Scl)) hc hw hm dX8_claim_25
  refine lv_if_lt (tgt := 20) hx hb dX8_claim_1 (by decide) (fun c26 => ?_) (fun c26 => ?_)
  · have hm := hm.1 c26
    exact hJ2 _ hm _ _ _ hw (lv_sub hl [0] rfl)
  · have hm := hm.2 c26
    refine lv_iload_n hx hb dX8_claim_4 rfl (lv_at hl 2 rfl) ?_
    refine lv_sipush (v := 2000) hx hb dX8_claim_5 (by decide) ?_
    refine lv_icmp_gt (tgt := 20) hx hb dX8_claim_8 (by decide) (fun c25 => ?_) (fun c25 => ?_)
    · have hm := hm.1 c25
      exact hJ2 _ hm _ _ _ hw (lv_sub hl [0] rfl)
    · have hm := hm.2 c25
      refine lv_iload_n hx hb dX8_claim_11 rfl (lv_at hl 3 rfl) ?_
      refine lv_if_lt (tgt := 20) hx hb dX8_claim_12 (by decide) (fun c24 => ?_) (fun c24 => ?_)
      · have hm := hm.1 c24
        exact hJ2 _ hm _ _ _ hw (lv_sub hl [0] rfl)
      · have hm := hm.2 c24
        refine lv_iload_n hx hb dX8_claim_15 rfl (lv_at hl 3 rfl) ?_
        refine lv_iconst (v := 4) hx hb dX8_claim_16 (by decide) ?_
        refine lv_icmp_lt (tgt := 26) hx hb dX8_claim_17 (by decide) (fun c23 => ?_) (fun c23 => ?_)
        · have hm := hm.1 c23
          refine lv_aload_n hx hb dX8_claim_26 rfl (lv_at hl 0 rfl) ?_
          refine gF (k := 0) hc hw inX8 rfl 0 rfl (by decide) (gm 415 (by decide +kernel) rfl) rfl dX8_claim_27 ?_
          refine lv_iload_n hx hb dX8_claim_30 rfl (lv_at hl 1 rfl) ?_
          refine nVN_I (As := [.int x1]) (rest := []) (wc := (bW cy aB e_B_laws e_B_told e_B_mentions (acl 0) SB)) (wr := ((oW cy aO (aB 0) e_O_images e_O_tape e_O_reader e_O_plan e_O_trial e_O_season e_O_dates e_O_line e_O_evening e_O_choices SO) ++ (tW cy acl Scl))) (isC := [3, 4, 5, 6, 7, 8]) (isR := [0, 1, 2, 9, 10, 11, 12]) hc hw (c_X6_has hm) lk_X8_110 ⟨rfl, rfl, rfl, rfl, by decide⟩ rfl rfl ⟨Nat.le_of_ble_eq_true rfl, Nat.le_of_ble_eq_true rfl⟩ ⟨Nat.le_of_ble_eq_true rfl, Nat.le_of_ble_eq_true rfl⟩ hl.1 rfl (Nat.le_of_ble_eq_true rfl) rfl dX8_claim_31 (fun r6 _ H locs hm hw => ?_)
          have hw : wV D A s.heap ((oW cy aO (aB 0) e_O_images e_O_tape e_O_reader e_O_plan e_O_trial e_O_season e_O_dates e_O_line e_O_evening e_O_choices SO) ++ ((bW cy aB e_B_laws e_B_told e_B_mentions (acl 0) SB) ++ (tW cy acl Scl))) H locs := hw.perm [0, 1, 2, 7, 8, 9, 10, 11, 12, 3, 4, 5, 6] rfl rfl
          refine lv_if_ne (tgt := 44) hx hb dX8_claim_34 (by decide) (fun c22 => ?_) (fun c22 => ?_)
          · have hm := hm.1 c22
            refine lv_aload_n hx hb dX8_claim_44 rfl (lv_at hl 0 rfl) ?_
            refine gF (k := 0) hc hw inX8 rfl 0 rfl (by decide) (gm 415 (by decide +kernel) rfl) rfl dX8_claim_45 ?_
            refine gN (k := 11) (host := "OlderTale") hc hw inX6 rfl 3 rfl (by decide) (nmm 231 (by decide +kernel)) rfl dX8_claim_48 ?_
            refine nVN_I (As := []) (rest := []) (wc := (tW cy acl Scl)) (wr := ((oW cy aO (aB 0) e_O_images e_O_tape e_O_reader e_O_plan e_O_trial e_O_season e_O_dates e_O_line e_O_evening e_O_choices SO) ++ (bW cy aB e_B_laws e_B_told e_B_mentions (acl 0) SB))) (isC := [9, 10, 11, 12]) (isR := [0, 1, 2, 3, 4, 5, 6, 7, 8]) hc hw (c_X7_isFull hm) lk_X8_258 ⟨rfl, rfl, rfl, rfl, by decide⟩ rfl rfl ⟨Nat.le_of_ble_eq_true rfl, Nat.le_of_ble_eq_true rfl⟩ ⟨Nat.le_of_ble_eq_true rfl, Nat.le_of_ble_eq_true rfl⟩ hl.1 rfl (Nat.le_of_ble_eq_true rfl) rfl dX8_claim_51 (fun r8 _ H locs hm hw => ?_)
            have hw : wV D A s.heap ((oW cy aO (aB 0) e_O_images e_O_tape e_O_reader e_O_plan e_O_trial e_O_season e_O_dates e_O_line e_O_evening e_O_choices SO) ++ ((bW cy aB e_B_laws e_B_told e_B_mentions (acl 0) SB) ++ (tW cy acl Scl))) H locs := hw.perm [0, 1, 2, 3, 4, 5, 6, 7, 8, 9, 10, 11, 12] rfl rfl
            refine lv_if_eq (tgt := 64) hx hb dX8_claim_54 (by decide) (fun c18 => ?_) (fun c18 => ?_)
            · have hm := hm.1 c18
              refine lv_aload_n hx hb dX8_claim_64 rfl (lv_at hl 0 rfl) ?_
              refine gF (k := 0) hc hw inX8 rfl 0 rfl (by decide) (gm 415 (by decide +kernel) rfl) rfl dX8_claim_65 ?_
              refine gN (k := 11) (host := "OlderTale") hc hw inX6 rfl 3 rfl (by decide) (nmm 231 (by decide +kernel)) rfl dX8_claim_68 ?_
              refine lv_iload_n hx hb dX8_claim_71 rfl (lv_at hl 1 rfl) ?_
              refine lv_iload_n hx hb dX8_claim_72 rfl (lv_at hl 2 rfl) ?_
              refine lv_iload_n hx hb dX8_claim_73 rfl (lv_at hl 3 rfl) ?_
              refine nVN_V (As := [.int x1, .int x2, .int x3]) (rest := []) (wc := (tW cy acl Scl)) (wr := ((oW cy aO (aB 0) e_O_images e_O_tape e_O_reader e_O_plan e_O_trial e_O_season e_O_dates e_O_line e_O_evening e_O_choices SO) ++ (bW cy aB e_B_laws e_B_told e_B_mentions (acl 0) SB))) (isC := [9, 10, 11, 12]) (isR := [0, 1, 2, 3, 4, 5, 6, 7, 8]) hc hw (c_X7_add hm) lk_X8_185 ⟨rfl, rfl, rfl, rfl, by decide⟩ rfl rfl ⟨Nat.le_of_ble_eq_true rfl, Nat.le_of_ble_eq_true rfl⟩ ⟨Nat.le_of_ble_eq_true rfl, Nat.le_of_ble_eq_true rfl⟩ hl.1 rfl (Nat.le_of_ble_eq_true rfl) rfl dX8_claim_74 (fun S10 H locs hm hw => ?_)
              have hw : wV D A s.heap ((oW cy aO (aB 0) e_O_images e_O_tape e_O_reader e_O_plan e_O_trial e_O_season e_O_dates e_O_line e_O_evening e_O_choices SO) ++ ((bW cy aB e_B_laws e_B_told e_B_mentions (acl 0) SB) ++ (tW cy acl S10))) H locs := hw.perm [0, 1, 2, 3, 4, 5, 6, 7, 8, 9, 10, 11, 12] rfl rfl
              refine lv_aload_n hx hb dX8_claim_77 rfl (lv_at hl 0 rfl) ?_
              refine lv_aload_n hx hb dX8_claim_78 rfl (lv_at hl 0 rfl) ?_
              refine gF (k := 0) hc hw inX8 rfl 0 rfl (by decide) (gm 415 (by decide +kernel) rfl) rfl dX8_claim_79 ?_
              refine gN (k := 11) (host := "OlderTale") hc hw inX6 rfl 3 rfl (by decide) (nmm 231 (by decide +kernel)) rfl dX8_claim_82 ?_
              refine gN (k := 3) (host := "OlderTale") hc hw inX7 rfl 9 rfl (by decide) (nmm 183 (by decide +kernel)) rfl dX8_claim_85 ?_
              refine nV_I (As := [.int (S10.1 3)]) (rest := []) (wc := (oW cy aO (aB 0) e_O_images e_O_tape e_O_reader e_O_plan e_O_trial e_O_season e_O_dates e_O_line e_O_evening e_O_choices SO)) (wr := ((bW cy aB e_B_laws e_B_told e_B_mentions (acl 0) SB) ++ (tW cy acl S10))) (isC := [0, 1, 2]) (isR := [3, 4, 5, 6, 7, 8, 9, 10, 11, 12]) hc hw (c_X8_accept hm) lk_X8_103 ⟨rfl, rfl, rfl, rfl, by decide⟩ rfl rfl ⟨Nat.le_of_ble_eq_true rfl, Nat.le_of_ble_eq_true rfl⟩ ⟨Nat.le_of_ble_eq_true rfl, Nat.le_of_ble_eq_true rfl⟩ hl.1 rfl (Nat.le_of_ble_eq_true rfl) rfl dX8_claim_88 (fun r12 S13 H locs hm hw => ?_)
              have hw : wV D A s.heap ((oW cy aO (aB 0) e_O_images e_O_tape e_O_reader e_O_plan e_O_trial e_O_season e_O_dates e_O_line e_O_evening e_O_choices S13) ++ ((bW cy aB e_B_laws e_B_told e_B_mentions (acl 0) SB) ++ (tW cy acl S10))) H locs := hw.perm [10, 11, 12, 0, 1, 2, 3, 4, 5, 6, 7, 8, 9] rfl rfl
              exact retI (u := (S13, S10)) hc hw hm dX8_claim_91
            · have hm := hm.2 c18
              refine lv_aload_n hx hb dX8_claim_57 rfl (lv_at hl 0 rfl) ?_
              refine lv_bipush (v := (-5)) hx hb dX8_claim_58 (by decide) ?_
              refine nV_I (As := [.int (-5)]) (rest := []) (wc := (oW cy aO (aB 0) e_O_images e_O_tape e_O_reader e_O_plan e_O_trial e_O_season e_O_dates e_O_line e_O_evening e_O_choices SO)) (wr := ((bW cy aB e_B_laws e_B_told e_B_mentions (acl 0) SB) ++ (tW cy acl Scl))) (isC := [0, 1, 2]) (isR := [3, 4, 5, 6, 7, 8, 9, 10, 11, 12]) hc hw (c_X8_refuse hm) lk_X8_89 ⟨rfl, rfl, rfl, rfl, by decide⟩ rfl rfl ⟨Nat.le_of_ble_eq_true rfl, Nat.le_of_ble_eq_true rfl⟩ ⟨Nat.le_of_ble_eq_true rfl, Nat.le_of_ble_eq_true rfl⟩ hl.1 rfl (Nat.le_of_ble_eq_true rfl) rfl dX8_claim_60 (fun r15 S16 H locs hm hw => ?_)
              have hw : wV D A s.heap ((oW cy aO (aB 0) e_O_images e_O_tape e_O_reader e_O_plan e_O_trial e_O_season e_O_dates e_O_line e_O_evening e_O_choices S16) ++ ((bW cy aB e_B_laws e_B_told e_B_mentions (acl 0) SB) ++ (tW cy acl Scl))) H locs := hw.perm [10, 11, 12, 0, 1, 2, 3, 4, 5, 6, 7, 8, 9] rfl rfl
              exact retI (u := (S16, Scl)) hc hw hm dX8_claim_63
          · have hm := hm.2 c22
            refine lv_aload_n hx hb dX8_claim_37 rfl (lv_at hl 0 rfl) ?_
            refine lv_bipush (v := (-2)) hx hb dX8_claim_38 (by decide) ?_
            refine nV_I (As := [.int (-2)]) (rest := []) (wc := (oW cy aO (aB 0) e_O_images e_O_tape e_O_reader e_O_plan e_O_trial e_O_season e_O_dates e_O_line e_O_evening e_O_choices SO)) (wr := ((bW cy aB e_B_laws e_B_told e_B_mentions (acl 0) SB) ++ (tW cy acl Scl))) (isC := [0, 1, 2]) (isR := [3, 4, 5, 6, 7, 8, 9, 10, 11, 12]) hc hw (c_X8_refuse hm) lk_X8_89 ⟨rfl, rfl, rfl, rfl, by decide⟩ rfl rfl ⟨Nat.le_of_ble_eq_true rfl, Nat.le_of_ble_eq_true rfl⟩ ⟨Nat.le_of_ble_eq_true rfl, Nat.le_of_ble_eq_true rfl⟩ hl.1 rfl (Nat.le_of_ble_eq_true rfl) rfl dX8_claim_40 (fun r19 S20 H locs hm hw => ?_)
            have hw : wV D A s.heap ((oW cy aO (aB 0) e_O_images e_O_tape e_O_reader e_O_plan e_O_trial e_O_season e_O_dates e_O_line e_O_evening e_O_choices S20) ++ ((bW cy aB e_B_laws e_B_told e_B_mentions (acl 0) SB) ++ (tW cy acl Scl))) H locs := hw.perm [10, 11, 12, 0, 1, 2, 3, 4, 5, 6, 7, 8, 9] rfl rfl
            exact retI (u := (S20, Scl)) hc hw hm dX8_claim_43
        · have hm := hm.2 c23
          exact hJ2 _ hm _ _ _ hw (lv_sub hl [0] rfl)
set_option maxHeartbeats 4000000 in
set_option maxRecDepth 100000 in
theorem c_X8_clear {l : Launch} {D : va_G} {cy : Nat → ClassId} {aO : Nat → Nat} {aB : Nat → Nat} {acl : Nat → Nat} {e_O_images : Nat} {e_O_tape : Nat} {e_O_reader : Nat} {e_O_plan : Nat} {e_O_trial : Option Nat} {e_O_season : Option Nat} {e_O_dates : Nat} {e_O_line : Nat} {e_O_evening : Nat} {e_O_choices : Nat} {e_B_laws : Nat} {e_B_told : Nat} {e_B_mentions : Nat} {SO : Ob} {SB : Ob} {Scl : Ob} {Q : Int32 → Ob → Prop} (hm : w_X8_clear SO SB Scl Q) : CtI l yX8_clear cX8_clear 1 (some .int) (rmN 1) D cy [.ref (aO 0)] ((oW cy aO (aB 0) e_O_images e_O_tape e_O_reader e_O_plan e_O_trial e_O_season e_O_dates e_O_line e_O_evening e_O_choices SO) ++ ((bW cy aB e_B_laws e_B_told e_B_mentions (acl 0) SB) ++ (tW cy acl Scl))) (fun u : Ob => ((oW cy aO (aB 0) e_O_images e_O_tape e_O_reader e_O_plan e_O_trial e_O_season e_O_dates e_O_line e_O_evening e_O_choices SO) ++ ((bW cy aB e_B_laws e_B_told e_B_mentions (acl 0) SB) ++ (tW cy acl u)))) Q := by
  refine CtI.ofW (by decide) (Nat.le_of_ble_eq_true rfl) ?_
  intro p e s m args below meth c A ls hc hnm hw hl
  have hx := hc.1.1
  have hb := hc.1.2.1
  have hown := hc.1.2.2.2.1
  have hts := hc.1.2.2.2.2
  have hl : lv_has ls 1 [(0, .ref (aO 0))] := hl
  obtain ⟨H, hH⟩ : ∃ z, z = s.heap := ⟨_, rfl⟩
  obtain ⟨locs, hLc⟩ : ∃ z : List Loc, z = [] := ⟨_, rfl⟩
  have hw : wV D A s.heap ((oW cy aO (aB 0) e_O_images e_O_tape e_O_reader e_O_plan e_O_trial e_O_season e_O_dates e_O_line e_O_evening e_O_choices SO) ++ ((bW cy aB e_B_laws e_B_told e_B_mentions (acl 0) SB) ++ (tW cy acl Scl))) H locs := by rw [hH, hLc]; exact hw
  have hgo : W p l e (rmN 1) s m args below meth c H locs 0 0 (MQ below (eI D cy A (fun u : Ob => ((oW cy aO (aB 0) e_O_images e_O_tape e_O_reader e_O_plan e_O_trial e_O_season e_O_dates e_O_line e_O_evening e_O_choices SO) ++ ((bW cy aB e_B_laws e_B_told e_B_mentions (acl 0) SB) ++ (tW cy acl u)))) Q) args s (rmN 1).cells (rmN 1).slots A) (F0 m 0 ls []) := ?hgo
  · rw [hH, hLc] at hgo; exact hgo
  refine lv_aload_n hx hb dX8_clear_0 rfl (lv_at hl 0 rfl) ?_
  refine gF (k := 0) hc hw inX8 rfl 0 rfl (by decide) (gm 415 (by decide +kernel) rfl) rfl dX8_clear_1 ?_
  refine gN (k := 11) (host := "OlderTale") hc hw inX6 rfl 3 rfl (by decide) (nmm 231 (by decide +kernel)) rfl dX8_clear_4 ?_
  refine nVN_I (As := []) (rest := []) (wc := (tW cy acl Scl)) (wr := ((oW cy aO (aB 0) e_O_images e_O_tape e_O_reader e_O_plan e_O_trial e_O_season e_O_dates e_O_line e_O_evening e_O_choices SO) ++ (bW cy aB e_B_laws e_B_told e_B_mentions (acl 0) SB))) (isC := [9, 10, 11, 12]) (isR := [0, 1, 2, 3, 4, 5, 6, 7, 8]) hc hw (c_X7_drop hm) lk_X8_188 ⟨rfl, rfl, rfl, rfl, by decide⟩ rfl rfl ⟨Nat.le_of_ble_eq_true rfl, Nat.le_of_ble_eq_true rfl⟩ ⟨Nat.le_of_ble_eq_true rfl, Nat.le_of_ble_eq_true rfl⟩ hl.1 rfl (Nat.le_of_ble_eq_true rfl) rfl dX8_clear_7 (fun r1 S2 H locs hm hw => ?_)
  have hw : wV D A s.heap ((oW cy aO (aB 0) e_O_images e_O_tape e_O_reader e_O_plan e_O_trial e_O_season e_O_dates e_O_line e_O_evening e_O_choices SO) ++ ((bW cy aB e_B_laws e_B_told e_B_mentions (acl 0) SB) ++ (tW cy acl S2))) H locs := hw.perm [0, 1, 2, 3, 4, 5, 6, 7, 8, 9, 10, 11, 12] rfl rfl
  exact retI (u := S2) hc hw hm dX8_clear_10
set_option maxHeartbeats 4000000 in
set_option maxRecDepth 100000 in
theorem c_X8_drawn {l : Launch} {D : va_G} {cy : Nat → ClassId} {aO : Nat → Nat} {aev : Nat → Nat} {e_O_table : Nat} {e_O_images : Nat} {e_O_tape : Nat} {e_O_reader : Nat} {e_O_plan : Nat} {e_O_trial : Option Nat} {e_O_season : Option Nat} {e_O_dates : Nat} {e_O_line : Nat} {e_O_choices : Nat} {SO : Ob} {Sev : Ob} {x1 : Int32} {x2 : Int32} {Q : Int32 → Prop} (hm : w_X8_drawn SO Sev x1 x2 Q) : CtI l yX8_drawn cX8_drawn 3 (some .int) (rmN 1) D cy [.ref (aO 0), .int x1, .int x2] ((oW cy aO e_O_table e_O_images e_O_tape e_O_reader e_O_plan e_O_trial e_O_season e_O_dates e_O_line (aev 0) e_O_choices SO) ++ (tW cy aev Sev)) (fun _ : Unit => ((oW cy aO e_O_table e_O_images e_O_tape e_O_reader e_O_plan e_O_trial e_O_season e_O_dates e_O_line (aev 0) e_O_choices SO) ++ (tW cy aev Sev))) (fun (r : Int32) (_ : Unit) => Q r) := by
  refine CtI.ofW (by decide) (Nat.le_of_ble_eq_true rfl) ?_
  intro p e s m args below meth c A ls hc hnm hw hl
  have hx := hc.1.1
  have hb := hc.1.2.1
  have hown := hc.1.2.2.2.1
  have hts := hc.1.2.2.2.2
  have hl : lv_has ls 3 [(0, .ref (aO 0)), (1, .int x1), (2, .int x2)] := hl
  obtain ⟨H, hH⟩ : ∃ z, z = s.heap := ⟨_, rfl⟩
  obtain ⟨locs, hLc⟩ : ∃ z : List Loc, z = [] := ⟨_, rfl⟩
  have hw : wV D A s.heap ((oW cy aO e_O_table e_O_images e_O_tape e_O_reader e_O_plan e_O_trial e_O_season e_O_dates e_O_line (aev 0) e_O_choices SO) ++ (tW cy aev Sev)) H locs := by rw [hH, hLc]; exact hw
  have hgo : W p l e (rmN 1) s m args below meth c H locs 0 0 (MQ below (eI D cy A (fun _ : Unit => ((oW cy aO e_O_table e_O_images e_O_tape e_O_reader e_O_plan e_O_trial e_O_season e_O_dates e_O_line (aev 0) e_O_choices SO) ++ (tW cy aev Sev))) (fun (r : Int32) (_ : Unit) => Q r)) args s (rmN 1).cells (rmN 1).slots A) (F0 m 0 ls []) := ?hgo
  · rw [hH, hLc] at hgo; exact hgo
  refine lv_aload_n hx hb dX8_drawn_0 rfl (lv_at hl 0 rfl) ?_
  refine gF (k := 13) hc hw inX8 rfl 0 rfl (by decide) (gm 428 (by decide +kernel) rfl) rfl dX8_drawn_1 ?_
  refine lv_iload_n hx hb dX8_drawn_4 rfl (lv_at hl 1 rfl) ?_
  refine lv_iload_n hx hb dX8_drawn_5 rfl (lv_at hl 2 rfl) ?_
  refine nVN_I (As := [.int x1, .int x2]) (rest := []) (wc := (tW cy aev Sev)) (wr := (oW cy aO e_O_table e_O_images e_O_tape e_O_reader e_O_plan e_O_trial e_O_season e_O_dates e_O_line (aev 0) e_O_choices SO)) (isC := [3, 4, 5, 6]) (isR := [0, 1, 2]) hc hw (c_X7_at hm) lk_X8_191 ⟨rfl, rfl, rfl, rfl, by decide⟩ rfl rfl ⟨Nat.le_of_ble_eq_true rfl, Nat.le_of_ble_eq_true rfl⟩ ⟨Nat.le_of_ble_eq_true rfl, Nat.le_of_ble_eq_true rfl⟩ hl.1 rfl (Nat.le_of_ble_eq_true rfl) rfl dX8_drawn_6 (fun r1 _ H locs hm hw => ?_)
  have hw : wV D A s.heap ((oW cy aO e_O_table e_O_images e_O_tape e_O_reader e_O_plan e_O_trial e_O_season e_O_dates e_O_line (aev 0) e_O_choices SO) ++ (tW cy aev Sev)) H locs := hw.perm [0, 1, 2, 3, 4, 5, 6] rfl rfl
  exact retI (u := ()) hc hw hm dX8_drawn_9
set_option maxHeartbeats 4000000 in
set_option maxRecDepth 100000 in
theorem c_X8_count {l : Launch} {D : va_G} {cy : Nat → ClassId} {aO : Nat → Nat} {aB : Nat → Nat} {atd : Nat → Nat} {ame : Nat → Nat} {acl : Nat → Nat} {e_O_images : Nat} {e_O_tape : Nat} {e_O_reader : Nat} {e_O_plan : Nat} {e_O_trial : Option Nat} {e_O_season : Option Nat} {e_O_dates : Nat} {e_O_line : Nat} {e_O_evening : Nat} {e_O_choices : Nat} {e_B_laws : Nat} {SO : Ob} {SB : Ob} {Std : Ob} {Sme : Ob} {Scl : Ob} {x1 : Int32} {Q : Int32 → Prop} (hm : w_X8_count SO SB Std Sme Scl x1 Q) : CtI l yX8_count cX8_count 2 (some .int) (rmN 0) D cy [.ref (aO 0), .int x1] ((oW cy aO (aB 0) e_O_images e_O_tape e_O_reader e_O_plan e_O_trial e_O_season e_O_dates e_O_line e_O_evening e_O_choices SO) ++ ((bW cy aB e_B_laws (atd 0) (ame 0) (acl 0) SB) ++ ((tW cy atd Std) ++ ((tW cy ame Sme) ++ (tW cy acl Scl))))) (fun _ : Unit => ((oW cy aO (aB 0) e_O_images e_O_tape e_O_reader e_O_plan e_O_trial e_O_season e_O_dates e_O_line e_O_evening e_O_choices SO) ++ ((bW cy aB e_B_laws (atd 0) (ame 0) (acl 0) SB) ++ ((tW cy atd Std) ++ ((tW cy ame Sme) ++ (tW cy acl Scl)))))) (fun (r : Int32) (_ : Unit) => Q r) := by
  refine CtI.ofW (by decide) (Nat.le_of_ble_eq_true rfl) ?_
  intro p e s m args below meth c A ls hc hnm hw hl
  have hx := hc.1.1
  have hb := hc.1.2.1
  have hown := hc.1.2.2.2.1
  have hts := hc.1.2.2.2.2
  have hl : lv_has ls 2 [(0, .ref (aO 0)), (1, .int x1)] := hl
  obtain ⟨H, hH⟩ : ∃ z, z = s.heap := ⟨_, rfl⟩
  obtain ⟨locs, hLc⟩ : ∃ z : List Loc, z = [] := ⟨_, rfl⟩
  have hw : wV D A s.heap ((oW cy aO (aB 0) e_O_images e_O_tape e_O_reader e_O_plan e_O_trial e_O_season e_O_dates e_O_line e_O_evening e_O_choices SO) ++ ((bW cy aB e_B_laws (atd 0) (ame 0) (acl 0) SB) ++ ((tW cy atd Std) ++ ((tW cy ame Sme) ++ (tW cy acl Scl))))) H locs := by rw [hH, hLc]; exact hw
  have hgo : W p l e (rmN 0) s m args below meth c H locs 0 0 (MQ below (eI D cy A (fun _ : Unit => ((oW cy aO (aB 0) e_O_images e_O_tape e_O_reader e_O_plan e_O_trial e_O_season e_O_dates e_O_line e_O_evening e_O_choices SO) ++ ((bW cy aB e_B_laws (atd 0) (ame 0) (acl 0) SB) ++ ((tW cy atd Std) ++ ((tW cy ame Sme) ++ (tW cy acl Scl)))))) (fun (r : Int32) (_ : Unit) => Q r)) args s (rmN 0).cells (rmN 0).slots A) (F0 m 0 ls []) := ?hgo
  · rw [hH, hLc] at hgo; exact hgo
  refine lv_iload_n hx hb dX8_count_0 rfl (lv_at hl 1 rfl) ?_
  refine lv_topi (fun v1 e_v1 => ?_)
  have hm := hm v1 e_v1
  by_cases c2 : v1 = 0
  · have hm := hm.1 c2
    refine lv_tableIn (off := 75) (tgt := 76) hx hb dX8_count_1 (by rw [c2]; decide) (by rw [c2]; decide) (by rw [c2]; rfl) (by decide) ?_
    refine lv_aload_n hx hb dX8_count_76 rfl (lv_at hl 0 rfl) ?_
    refine gF (k := 0) hc hw inX8 rfl 0 rfl (by decide) (gm 415 (by decide +kernel) rfl) rfl dX8_count_77 ?_
    refine gN (k := 4) (host := "OlderTale") hc hw inX6 rfl 3 rfl (by decide) (nmm 212 (by decide +kernel)) rfl dX8_count_80 ?_
    exact retI (u := ()) hc hw hm dX8_count_83
  by_cases c3 : v1 = 1
  · have hm := hm.2.1 c3
    refine lv_tableIn (off := 83) (tgt := 84) hx hb dX8_count_1 (by rw [c3]; decide) (by rw [c3]; decide) (by rw [c3]; rfl) (by decide) ?_
    refine lv_aload_n hx hb dX8_count_84 rfl (lv_at hl 0 rfl) ?_
    refine gF (k := 0) hc hw inX8 rfl 0 rfl (by decide) (gm 415 (by decide +kernel) rfl) rfl dX8_count_85 ?_
    refine gN (k := 7) (host := "OlderTale") hc hw inX6 rfl 3 rfl (by decide) (nmm 222 (by decide +kernel)) rfl dX8_count_88 ?_
    exact retI (u := ()) hc hw hm dX8_count_91
  by_cases c4 : v1 = 2
  · have hm := hm.2.2.1 c4
    refine lv_tableIn (off := 91) (tgt := 92) hx hb dX8_count_1 (by rw [c4]; decide) (by rw [c4]; decide) (by rw [c4]; rfl) (by decide) ?_
    refine lv_aload_n hx hb dX8_count_92 rfl (lv_at hl 0 rfl) ?_
    refine gF (k := 0) hc hw inX8 rfl 0 rfl (by decide) (gm 415 (by decide +kernel) rfl) rfl dX8_count_93 ?_
    refine gN (k := 9) (host := "OlderTale") hc hw inX6 rfl 3 rfl (by decide) (nmm 226 (by decide +kernel)) rfl dX8_count_96 ?_
    refine gN (k := 3) (host := "OlderTale") hc hw inX7 rfl 9 rfl (by decide) (nmm 183 (by decide +kernel)) rfl dX8_count_99 ?_
    exact retI (u := ()) hc hw hm dX8_count_102
  by_cases c5 : v1 = 3
  · have hm := hm.2.2.2.1 c5
    refine lv_tableIn (off := 102) (tgt := 103) hx hb dX8_count_1 (by rw [c5]; decide) (by rw [c5]; decide) (by rw [c5]; rfl) (by decide) ?_
    refine lv_aload_n hx hb dX8_count_103 rfl (lv_at hl 0 rfl) ?_
    refine gF (k := 0) hc hw inX8 rfl 0 rfl (by decide) (gm 415 (by decide +kernel) rfl) rfl dX8_count_104 ?_
    refine gN (k := 10) (host := "OlderTale") hc hw inX6 rfl 3 rfl (by decide) (nmm 229 (by decide +kernel)) rfl dX8_count_107 ?_
    refine gN (k := 3) (host := "OlderTale") hc hw inX7 rfl 13 rfl (by decide) (nmm 183 (by decide +kernel)) rfl dX8_count_110 ?_
    exact retI (u := ()) hc hw hm dX8_count_113
  by_cases c6 : v1 = 4
  · have hm := hm.2.2.2.2.1 c6
    refine lv_tableIn (off := 113) (tgt := 114) hx hb dX8_count_1 (by rw [c6]; decide) (by rw [c6]; decide) (by rw [c6]; rfl) (by decide) ?_
    refine lv_aload_n hx hb dX8_count_114 rfl (lv_at hl 0 rfl) ?_
    refine gF (k := 0) hc hw inX8 rfl 0 rfl (by decide) (gm 415 (by decide +kernel) rfl) rfl dX8_count_115 ?_
    refine gN (k := 11) (host := "OlderTale") hc hw inX6 rfl 3 rfl (by decide) (nmm 231 (by decide +kernel)) rfl dX8_count_118 ?_
    refine gN (k := 3) (host := "OlderTale") hc hw inX7 rfl 17 rfl (by decide) (nmm 183 (by decide +kernel)) rfl dX8_count_121 ?_
    exact retI (u := ()) hc hw hm dX8_count_124
  by_cases c7 : v1 = 5
  · have hm := hm.2.2.2.2.2.1 c7
    refine lv_tableIn (off := 124) (tgt := 125) hx hb dX8_count_1 (by rw [c7]; decide) (by rw [c7]; decide) (by rw [c7]; rfl) (by decide) ?_
    refine lv_aload_n hx hb dX8_count_125 rfl (lv_at hl 0 rfl) ?_
    refine gF (k := 4) hc hw inX8 rfl 0 rfl (by decide) (gm 419 (by decide +kernel) rfl) rfl dX8_count_126 ?_
    exact retI (u := ()) hc hw hm dX8_count_129
  by_cases c8 : v1 = 6
  · have hm := hm.2.2.2.2.2.2.1 c8
    refine lv_tableIn (off := 129) (tgt := 130) hx hb dX8_count_1 (by rw [c8]; decide) (by rw [c8]; decide) (by rw [c8]; rfl) (by decide) ?_
    refine lv_aload_n hx hb dX8_count_130 rfl (lv_at hl 0 rfl) ?_
    refine gF (k := 15) hc hw inX8 rfl 0 rfl (by decide) (gm 430 (by decide +kernel) rfl) rfl dX8_count_131 ?_
    refine lv_iconst (v := 1) hx hb dX8_count_134 (by decide) ?_
    refine aI hc hw 2 rfl (vin (by decide)) (j := 1) (by decide) dX8_count_135 ?_
    exact retI (u := ()) hc hw hm dX8_count_136
  by_cases c9 : v1 = 7
  · have hm := hm.2.2.2.2.2.2.2.1 c9
    refine lv_tableIn (off := 136) (tgt := 137) hx hb dX8_count_1 (by rw [c9]; decide) (by rw [c9]; decide) (by rw [c9]; rfl) (by decide) ?_
    refine lv_aload_n hx hb dX8_count_137 rfl (lv_at hl 0 rfl) ?_
    refine gF (k := 15) hc hw inX8 rfl 0 rfl (by decide) (gm 430 (by decide +kernel) rfl) rfl dX8_count_138 ?_
    refine lv_iconst (v := 2) hx hb dX8_count_141 (by decide) ?_
    refine aI hc hw 2 rfl (vin (by decide)) (j := 2) (by decide) dX8_count_142 ?_
    exact retI (u := ()) hc hw hm dX8_count_143
  by_cases c10 : v1 = 8
  · have hm := hm.2.2.2.2.2.2.2.2.1 c10
    refine lv_tableIn (off := 143) (tgt := 144) hx hb dX8_count_1 (by rw [c10]; decide) (by rw [c10]; decide) (by rw [c10]; rfl) (by decide) ?_
    refine lv_aload_n hx hb dX8_count_144 rfl (lv_at hl 0 rfl) ?_
    refine gF (k := 15) hc hw inX8 rfl 0 rfl (by decide) (gm 430 (by decide +kernel) rfl) rfl dX8_count_145 ?_
    refine lv_iconst (v := 3) hx hb dX8_count_148 (by decide) ?_
    refine aI hc hw 2 rfl (vin (by decide)) (j := 3) (by decide) dX8_count_149 ?_
    exact retI (u := ()) hc hw hm dX8_count_150
  by_cases c11 : v1 = 9
  · have hm := hm.2.2.2.2.2.2.2.2.2.1 c11
    refine lv_tableIn (off := 150) (tgt := 151) hx hb dX8_count_1 (by rw [c11]; decide) (by rw [c11]; decide) (by rw [c11]; rfl) (by decide) ?_
    refine lv_aload_n hx hb dX8_count_151 rfl (lv_at hl 0 rfl) ?_
    refine gF (k := 15) hc hw inX8 rfl 0 rfl (by decide) (gm 430 (by decide +kernel) rfl) rfl dX8_count_152 ?_
    refine lv_iconst (v := 5) hx hb dX8_count_155 (by decide) ?_
    refine aI hc hw 2 rfl (vin (by decide)) (j := 5) (by decide) dX8_count_156 ?_
    exact retI (u := ()) hc hw hm dX8_count_157
  by_cases c12 : v1 = 10
  · have hm := hm.2.2.2.2.2.2.2.2.2.2.1 c12
    refine lv_tableIn (off := 157) (tgt := 158) hx hb dX8_count_1 (by rw [c12]; decide) (by rw [c12]; decide) (by rw [c12]; rfl) (by decide) ?_
    refine lv_aload_n hx hb dX8_count_158 rfl (lv_at hl 0 rfl) ?_
    refine gF (k := 15) hc hw inX8 rfl 0 rfl (by decide) (gm 430 (by decide +kernel) rfl) rfl dX8_count_159 ?_
    refine lv_bipush (v := 6) hx hb dX8_count_162 (by decide) ?_
    refine aI hc hw 2 rfl (vin (by decide)) (j := 6) (by decide) dX8_count_164 ?_
    exact retI (u := ()) hc hw hm dX8_count_165
  by_cases c13 : v1 = 11
  · have hm := hm.2.2.2.2.2.2.2.2.2.2.2.1 c13
    refine lv_tableIn (off := 165) (tgt := 166) hx hb dX8_count_1 (by rw [c13]; decide) (by rw [c13]; decide) (by rw [c13]; rfl) (by decide) ?_
    refine lv_aload_n hx hb dX8_count_166 rfl (lv_at hl 0 rfl) ?_
    refine gF (k := 0) hc hw inX8 rfl 0 rfl (by decide) (gm 415 (by decide +kernel) rfl) rfl dX8_count_167 ?_
    refine gN (k := 8) (host := "OlderTale") hc hw inX6 rfl 3 rfl (by decide) (nmm 224 (by decide +kernel)) rfl dX8_count_170 ?_
    exact retI (u := ()) hc hw hm dX8_count_173
  by_cases c14 : v1 = 12
  · have hm := hm.2.2.2.2.2.2.2.2.2.2.2.2.1 c14
    refine lv_tableIn (off := 173) (tgt := 174) hx hb dX8_count_1 (by rw [c14]; decide) (by rw [c14]; decide) (by rw [c14]; rfl) (by decide) ?_
    refine lv_aload_n hx hb dX8_count_174 rfl (lv_at hl 0 rfl) ?_
    refine gF (k := 0) hc hw inX8 rfl 0 rfl (by decide) (gm 415 (by decide +kernel) rfl) rfl dX8_count_175 ?_
    refine gN (k := 5) (host := "OlderTale") hc hw inX6 rfl 3 rfl (by decide) (nmm 218 (by decide +kernel)) rfl dX8_count_178 ?_
    refine lv_iconst (v := 0) hx hb dX8_count_181 (by decide) ?_
    refine aI hc hw 8 rfl (vin (by decide)) (j := 0) (by decide) dX8_count_182 ?_
    exact retI (u := ()) hc hw hm dX8_count_183
  by_cases c15 : v1 = 13
  · have hm := hm.2.2.2.2.2.2.2.2.2.2.2.2.2.1 c15
    refine lv_tableIn (off := 183) (tgt := 184) hx hb dX8_count_1 (by rw [c15]; decide) (by rw [c15]; decide) (by rw [c15]; rfl) (by decide) ?_
    refine lv_aload_n hx hb dX8_count_184 rfl (lv_at hl 0 rfl) ?_
    refine gF (k := 0) hc hw inX8 rfl 0 rfl (by decide) (gm 415 (by decide +kernel) rfl) rfl dX8_count_185 ?_
    refine gN (k := 5) (host := "OlderTale") hc hw inX6 rfl 3 rfl (by decide) (nmm 218 (by decide +kernel)) rfl dX8_count_188 ?_
    refine lv_iconst (v := 1) hx hb dX8_count_191 (by decide) ?_
    refine aI hc hw 8 rfl (vin (by decide)) (j := 1) (by decide) dX8_count_192 ?_
    exact retI (u := ()) hc hw hm dX8_count_193
  by_cases c16 : v1 = 14
  · have hm := hm.2.2.2.2.2.2.2.2.2.2.2.2.2.2.1 c16
    refine lv_tableIn (off := 193) (tgt := 194) hx hb dX8_count_1 (by rw [c16]; decide) (by rw [c16]; decide) (by rw [c16]; rfl) (by decide) ?_
    refine lv_aload_n hx hb dX8_count_194 rfl (lv_at hl 0 rfl) ?_
    refine gF (k := 0) hc hw inX8 rfl 0 rfl (by decide) (gm 415 (by decide +kernel) rfl) rfl dX8_count_195 ?_
    refine gN (k := 5) (host := "OlderTale") hc hw inX6 rfl 3 rfl (by decide) (nmm 218 (by decide +kernel)) rfl dX8_count_198 ?_
    refine lv_iconst (v := 2) hx hb dX8_count_201 (by decide) ?_
    refine aI hc hw 8 rfl (vin (by decide)) (j := 2) (by decide) dX8_count_202 ?_
    exact retI (u := ()) hc hw hm dX8_count_203
  have hm := hm.2.2.2.2.2.2.2.2.2.2.2.2.2.2.2 c2 c3 c4 c5 c6 c7 c8 c9 c10 c11 c12 c13 c14 c15 c16
  refine lv_tableOut (tgt := 204) hx hb dX8_count_1 (sw_out 14 (fun k hk => by rcases (show k = 0 ∨ k = 1 ∨ k = 2 ∨ k = 3 ∨ k = 4 ∨ k = 5 ∨ k = 6 ∨ k = 7 ∨ k = 8 ∨ k = 9 ∨ k = 10 ∨ k = 11 ∨ k = 12 ∨ k = 13 ∨ k = 14 by omega) with rfl | rfl | rfl | rfl | rfl | rfl | rfl | rfl | rfl | rfl | rfl | rfl | rfl | rfl | rfl <;> assumption)) (by decide) ?_
  refine lv_iconst (v := (-1)) hx hb dX8_count_204 (by decide) ?_
  exact retI (u := ()) hc hw hm dX8_count_205
set_option maxHeartbeats 4000000 in
set_option maxRecDepth 100000 in
theorem c_X8_dated {l : Launch} {D : va_G} {cy : Nat → ClassId} {aO : Nat → Nat} {aDt : Nat → Nat} {aB : Nat → Nat} {ame : Nat → Nat} {e_O_images : Nat} {e_O_tape : Nat} {e_O_reader : Nat} {e_O_plan : Nat} {e_O_trial : Option Nat} {e_O_season : Option Nat} {e_O_line : Nat} {e_O_evening : Nat} {e_O_choices : Nat} {e_B_laws : Nat} {e_B_told : Nat} {e_B_claims : Nat} {SO : Ob} {SDt : Ob} {SB : Ob} {Sme : Ob} {x1 : Int32} {x2 : Int32} {Q : Int32 → Ob → Prop} (hm : w_X8_dated SO SDt SB Sme x1 x2 Q) : CtI l yX8_dated cX8_dated 4 (some .int) (rmN 3) D cy [.ref (aO 0), .int x1, .int x2] ((oW cy aO (aB 0) e_O_images e_O_tape e_O_reader e_O_plan e_O_trial e_O_season (aDt 0) e_O_line e_O_evening e_O_choices SO) ++ ((dW cy aDt SDt) ++ ((bW cy aB e_B_laws e_B_told (ame 0) e_B_claims SB) ++ (tW cy ame Sme)))) (fun u : Ob => ((oW cy aO (aB 0) e_O_images e_O_tape e_O_reader e_O_plan e_O_trial e_O_season (aDt 0) e_O_line e_O_evening e_O_choices SO) ++ ((dW cy aDt u) ++ ((bW cy aB e_B_laws e_B_told (ame 0) e_B_claims SB) ++ (tW cy ame Sme))))) Q := by
  refine CtI.ofW (by decide) (Nat.le_of_ble_eq_true rfl) ?_
  intro p e s m args below meth c A ls hc hnm hw hl
  have hx := hc.1.1
  have hb := hc.1.2.1
  have hown := hc.1.2.2.2.1
  have hts := hc.1.2.2.2.2
  have hl : lv_has ls 4 [(0, .ref (aO 0)), (1, .int x1), (2, .int x2)] := hl
  obtain ⟨H, hH⟩ : ∃ z, z = s.heap := ⟨_, rfl⟩
  obtain ⟨locs, hLc⟩ : ∃ z : List Loc, z = [] := ⟨_, rfl⟩
  have hw : wV D A s.heap ((oW cy aO (aB 0) e_O_images e_O_tape e_O_reader e_O_plan e_O_trial e_O_season (aDt 0) e_O_line e_O_evening e_O_choices SO) ++ ((dW cy aDt SDt) ++ ((bW cy aB e_B_laws e_B_told (ame 0) e_B_claims SB) ++ (tW cy ame Sme)))) H locs := by rw [hH, hLc]; exact hw
  have hgo : W p l e (rmN 3) s m args below meth c H locs 0 0 (MQ below (eI D cy A (fun u : Ob => ((oW cy aO (aB 0) e_O_images e_O_tape e_O_reader e_O_plan e_O_trial e_O_season (aDt 0) e_O_line e_O_evening e_O_choices SO) ++ ((dW cy aDt u) ++ ((bW cy aB e_B_laws e_B_told (ame 0) e_B_claims SB) ++ (tW cy ame Sme))))) Q) args s (rmN 3).cells (rmN 3).slots A) (F0 m 0 ls []) := ?hgo
  · rw [hH, hLc] at hgo; exact hgo
  refine lv_aload_n hx hb dX8_dated_0 rfl (lv_at hl 0 rfl) ?_
  refine gF (k := 0) hc hw inX8 rfl 0 rfl (by decide) (gm 415 (by decide +kernel) rfl) rfl dX8_dated_1 ?_
  refine lv_iload_n hx hb dX8_dated_4 rfl (lv_at hl 1 rfl) ?_
  refine nVN_I (As := [.int x1]) (rest := []) (wc := (bW cy aB e_B_laws e_B_told (ame 0) e_B_claims SB)) (wr := ((oW cy aO (aB 0) e_O_images e_O_tape e_O_reader e_O_plan e_O_trial e_O_season (aDt 0) e_O_line e_O_evening e_O_choices SO) ++ ((dW cy aDt SDt) ++ (tW cy ame Sme)))) (isC := [6, 7, 8, 9, 10, 11]) (isR := [0, 1, 2, 3, 4, 5, 12, 13, 14, 15]) hc hw (c_X6_has hm) lk_X8_110 ⟨rfl, rfl, rfl, rfl, by decide⟩ rfl rfl ⟨Nat.le_of_ble_eq_true rfl, Nat.le_of_ble_eq_true rfl⟩ ⟨Nat.le_of_ble_eq_true rfl, Nat.le_of_ble_eq_true rfl⟩ hl.1 rfl (Nat.le_of_ble_eq_true rfl) rfl dX8_dated_5 (fun r1 _ H locs hm hw => ?_)
  have hw : wV D A s.heap ((oW cy aO (aB 0) e_O_images e_O_tape e_O_reader e_O_plan e_O_trial e_O_season (aDt 0) e_O_line e_O_evening e_O_choices SO) ++ ((dW cy aDt SDt) ++ ((bW cy aB e_B_laws e_B_told (ame 0) e_B_claims SB) ++ (tW cy ame Sme)))) H locs := hw.perm [0, 1, 2, 3, 4, 5, 10, 11, 12, 13, 14, 15, 6, 7, 8, 9] rfl rfl
  refine lv_if_eq (tgt := 20) hx hb dX8_dated_8 (by decide) (fun c15 => ?_) (fun c15 => ?_)
  · have hm := hm.1 c15
    refine lv_iconst (v := (-1)) hx hb dX8_dated_20 (by decide) ?_
    exact retI (u := SDt) hc hw hm dX8_dated_21
  · have hm := hm.2 c15
    refine lv_iload_n hx hb dX8_dated_11 rfl (lv_at hl 2 rfl) ?_
    refine lv_if_lt (tgt := 20) hx hb dX8_dated_12 (by decide) (fun c14 => ?_) (fun c14 => ?_)
    · have hm := hm.1 c14
      refine lv_iconst (v := (-1)) hx hb dX8_dated_20 (by decide) ?_
      exact retI (u := SDt) hc hw hm dX8_dated_21
    · have hm := hm.2 c14
      refine lv_iload_n hx hb dX8_dated_15 rfl (lv_at hl 2 rfl) ?_
      refine lv_iconst (v := 1) hx hb dX8_dated_16 (by decide) ?_
      refine lv_icmp_le (tgt := 22) hx hb dX8_dated_17 (by decide) (fun c13 => ?_) (fun c13 => ?_)
      · have hm := hm.1 c13
        refine lv_iconst (v := 1) hx hb dX8_dated_22 (by decide) ?_
        refine lv_aload_n hx hb dX8_dated_23 rfl (lv_at hl 0 rfl) ?_
        refine gF (k := 0) hc hw inX8 rfl 0 rfl (by decide) (gm 415 (by decide +kernel) rfl) rfl dX8_dated_24 ?_
        refine gN (k := 10) (host := "OlderTale") hc hw inX6 rfl 6 rfl (by decide) (nmm 229 (by decide +kernel)) rfl dX8_dated_27 ?_
        refine gN (k := 3) (host := "OlderTale") hc hw inX7 rfl 12 rfl (by decide) (nmm 183 (by decide +kernel)) rfl dX8_dated_30 ?_
        refine lv_ishl hx hb dX8_dated_33 ?_
        refine lv_iconst (v := 1) hx hb dX8_dated_34 (by decide) ?_
        refine lv_isub hx hb dX8_dated_35 ?_
        refine lv_topi (fun v3 e_v3 => ?_)
        have hm := hm v3 e_v3
        refine lv_istore_n (lv' := [(3, .int v3), (0, .ref (aO 0)), (1, .int x1), (2, .int x2)]) hx hb dX8_dated_36 rfl hl (by decide) rfl (fun ls hl => ?_)
        refine lv_aload_n hx hb dX8_dated_37 rfl (lv_at hl 1 rfl) ?_
        refine gF (k := 11) hc hw inX8 rfl 0 rfl (by decide) (gm 426 (by decide +kernel) rfl) rfl dX8_dated_38 ?_
        refine lv_aload_n hx hb dX8_dated_41 rfl (lv_at hl 1 rfl) ?_
        refine gF (k := 0) hc hw inX8 rfl 0 rfl (by decide) (gm 415 (by decide +kernel) rfl) rfl dX8_dated_42 ?_
        refine lv_iload_n hx hb dX8_dated_45 rfl (lv_at hl 0 rfl) ?_
        refine nVN_I (As := [.ref (aB 0), .int v3]) (rest := []) (wc := ((dW cy aDt SDt) ++ ((bW cy aB e_B_laws e_B_told (ame 0) e_B_claims SB) ++ (tW cy ame Sme)))) (wr := (oW cy aO (aB 0) e_O_images e_O_tape e_O_reader e_O_plan e_O_trial e_O_season (aDt 0) e_O_line e_O_evening e_O_choices SO)) (isC := [3, 4, 5, 6, 7, 8, 9, 10, 11, 12, 13, 14, 15]) (isR := [0, 1, 2]) hc hw (c_X0_agree hm) lk_X8_265 ⟨rfl, rfl, rfl, rfl, by decide⟩ rfl rfl ⟨Nat.le_of_ble_eq_true rfl, Nat.le_of_ble_eq_true rfl⟩ ⟨Nat.le_of_ble_eq_true rfl, Nat.le_of_ble_eq_true rfl⟩ hl.1 rfl (Nat.le_of_ble_eq_true rfl) rfl dX8_dated_46 (fun r4 S5 H locs hm hw => ?_)
        have hw : wV D A s.heap ((oW cy aO (aB 0) e_O_images e_O_tape e_O_reader e_O_plan e_O_trial e_O_season (aDt 0) e_O_line e_O_evening e_O_choices SO) ++ ((dW cy aDt S5) ++ ((bW cy aB e_B_laws e_B_told (ame 0) e_B_claims SB) ++ (tW cy ame Sme)))) H locs := hw.perm [0, 1, 2, 3, 4, 5, 6, 7, 8, 9, 10, 11, 12, 13, 14, 15] rfl rfl
        refine lv_if_ne (tgt := 54) hx hb dX8_dated_49 (by decide) (fun c12 => ?_) (fun c12 => ?_)
        · have hm := hm.1 c12
          refine lv_iload_n hx hb dX8_dated_54 rfl (lv_at hl 3 rfl) ?_
          refine lv_if_ne (tgt := 68) hx hb dX8_dated_55 (by decide) (fun c11 => ?_) (fun c11 => ?_)
          · have hm := hm.1 c11
            refine lv_aload_n hx hb dX8_dated_68 rfl (lv_at hl 1 rfl) ?_
            refine gF (k := 11) hc hw inX8 rfl 0 rfl (by decide) (gm 426 (by decide +kernel) rfl) rfl dX8_dated_69 ?_
            refine lv_aload_n hx hb dX8_dated_72 rfl (lv_at hl 1 rfl) ?_
            refine gF (k := 0) hc hw inX8 rfl 0 rfl (by decide) (gm 415 (by decide +kernel) rfl) rfl dX8_dated_73 ?_
            refine nVN_V (As := [.ref (aB 0)]) (rest := []) (wc := ((dW cy aDt S5) ++ ((bW cy aB e_B_laws e_B_told (ame 0) e_B_claims SB) ++ (tW cy ame Sme)))) (wr := (oW cy aO (aB 0) e_O_images e_O_tape e_O_reader e_O_plan e_O_trial e_O_season (aDt 0) e_O_line e_O_evening e_O_choices SO)) (isC := [3, 4, 5, 6, 7, 8, 9, 10, 11, 12, 13, 14, 15]) (isR := [0, 1, 2]) hc hw (c_X0_reckonLate hm) lk_X8_272 ⟨rfl, rfl, rfl, rfl, by decide⟩ rfl rfl ⟨Nat.le_of_ble_eq_true rfl, Nat.le_of_ble_eq_true rfl⟩ ⟨Nat.le_of_ble_eq_true rfl, Nat.le_of_ble_eq_true rfl⟩ hl.1 rfl (Nat.le_of_ble_eq_true rfl) rfl dX8_dated_76 (fun S7 H locs hm hw => ?_)
            have hw : wV D A s.heap ((oW cy aO (aB 0) e_O_images e_O_tape e_O_reader e_O_plan e_O_trial e_O_season (aDt 0) e_O_line e_O_evening e_O_choices SO) ++ ((dW cy aDt S7) ++ ((bW cy aB e_B_laws e_B_told (ame 0) e_B_claims SB) ++ (tW cy ame Sme)))) H locs := hw.perm [0, 1, 2, 3, 4, 5, 6, 7, 8, 9, 10, 11, 12, 13, 14, 15] rfl rfl
            refine lv_aload_n hx hb dX8_dated_79 rfl (lv_at hl 1 rfl) ?_
            refine gF (k := 11) hc hw inX8 rfl 0 rfl (by decide) (gm 426 (by decide +kernel) rfl) rfl dX8_dated_80 ?_
            refine gN (k := 1) (host := "OlderTale") hc hw inX0 rfl 3 rfl (by decide) (nmm 399 (by decide +kernel)) rfl dX8_dated_83 ?_
            refine lv_iload_n hx hb dX8_dated_86 rfl (lv_at hl 2 rfl) ?_
            obtain ⟨c9, hm⟩ := hm
            refine aI hc hw 5 rfl c9 rfl dX8_dated_87 ?_
            exact retI (u := S7) hc hw hm dX8_dated_88
          · have hm := hm.2 c11
            refine lv_aload_n hx hb dX8_dated_58 rfl (lv_at hl 1 rfl) ?_
            refine gF (k := 11) hc hw inX8 rfl 0 rfl (by decide) (gm 426 (by decide +kernel) rfl) rfl dX8_dated_59 ?_
            refine gN (k := 0) (host := "OlderTale") hc hw inX0 rfl 3 rfl (by decide) (nmm 397 (by decide +kernel)) rfl dX8_dated_62 ?_
            refine lv_iload_n hx hb dX8_dated_65 rfl (lv_at hl 2 rfl) ?_
            obtain ⟨c10, hm⟩ := hm
            refine aI hc hw 4 rfl c10 rfl dX8_dated_66 ?_
            exact retI (u := S5) hc hw hm dX8_dated_67
        · have hm := hm.2 c12
          refine lv_iconst (v := (-1)) hx hb dX8_dated_52 (by decide) ?_
          exact retI (u := S5) hc hw hm dX8_dated_53
      · have hm := hm.2 c13
        refine lv_iconst (v := (-1)) hx hb dX8_dated_20 (by decide) ?_
        exact retI (u := SDt) hc hw hm dX8_dated_21
set_option maxHeartbeats 4000000 in
set_option maxRecDepth 100000 in
theorem c_X8_doubt {l : Launch} {D : va_G} {cy : Nat → ClassId} {aO : Nat → Nat} {aDt : Nat → Nat} {aB : Nat → Nat} {ame : Nat → Nat} {e_O_images : Nat} {e_O_tape : Nat} {e_O_reader : Nat} {e_O_plan : Nat} {e_O_trial : Option Nat} {e_O_season : Option Nat} {e_O_line : Nat} {e_O_evening : Nat} {e_O_choices : Nat} {e_B_laws : Nat} {e_B_told : Nat} {e_B_claims : Nat} {SO : Ob} {SDt : Ob} {SB : Ob} {Sme : Ob} {x1 : Int32} {Q : Int32 → Ob → Prop} (hm : w_X8_doubt SO SDt SB Sme x1 Q) : CtI l yX8_doubt cX8_doubt 2 (some .int) (rmN 4) D cy [.ref (aO 0), .int x1] ((oW cy aO (aB 0) e_O_images e_O_tape e_O_reader e_O_plan e_O_trial e_O_season (aDt 0) e_O_line e_O_evening e_O_choices SO) ++ ((dW cy aDt SDt) ++ ((bW cy aB e_B_laws e_B_told (ame 0) e_B_claims SB) ++ (tW cy ame Sme)))) (fun u : Ob => ((oW cy aO (aB 0) e_O_images e_O_tape e_O_reader e_O_plan e_O_trial e_O_season (aDt 0) e_O_line e_O_evening e_O_choices SO) ++ ((dW cy aDt u) ++ ((bW cy aB e_B_laws e_B_told (ame 0) e_B_claims SB) ++ (tW cy ame Sme))))) Q := by
  refine CtI.ofW (by decide) (Nat.le_of_ble_eq_true rfl) ?_
  intro p e s m args below meth c A ls hc hnm hw hl
  have hx := hc.1.1
  have hb := hc.1.2.1
  have hown := hc.1.2.2.2.1
  have hts := hc.1.2.2.2.2
  have hl : lv_has ls 2 [(0, .ref (aO 0)), (1, .int x1)] := hl
  obtain ⟨H, hH⟩ : ∃ z, z = s.heap := ⟨_, rfl⟩
  obtain ⟨locs, hLc⟩ : ∃ z : List Loc, z = [] := ⟨_, rfl⟩
  have hw : wV D A s.heap ((oW cy aO (aB 0) e_O_images e_O_tape e_O_reader e_O_plan e_O_trial e_O_season (aDt 0) e_O_line e_O_evening e_O_choices SO) ++ ((dW cy aDt SDt) ++ ((bW cy aB e_B_laws e_B_told (ame 0) e_B_claims SB) ++ (tW cy ame Sme)))) H locs := by rw [hH, hLc]; exact hw
  have hgo : W p l e (rmN 4) s m args below meth c H locs 0 0 (MQ below (eI D cy A (fun u : Ob => ((oW cy aO (aB 0) e_O_images e_O_tape e_O_reader e_O_plan e_O_trial e_O_season (aDt 0) e_O_line e_O_evening e_O_choices SO) ++ ((dW cy aDt u) ++ ((bW cy aB e_B_laws e_B_told (ame 0) e_B_claims SB) ++ (tW cy ame Sme))))) Q) args s (rmN 4).cells (rmN 4).slots A) (F0 m 0 ls []) := ?hgo
  · rw [hH, hLc] at hgo; exact hgo
  refine lv_iload_n hx hb dX8_doubt_0 rfl (lv_at hl 1 rfl) ?_
  refine lv_if_lt (tgt := 9) hx hb dX8_doubt_1 (by decide) (fun c8 => ?_) (fun c8 => ?_)
  · have hm := hm.1 c8
    refine lv_iconst (v := (-1)) hx hb dX8_doubt_9 (by decide) ?_
    exact retI (u := SDt) hc hw hm dX8_doubt_10
  · have hm := hm.2 c8
    refine lv_iload_n hx hb dX8_doubt_4 rfl (lv_at hl 1 rfl) ?_
    refine lv_iconst (v := 2) hx hb dX8_doubt_5 (by decide) ?_
    refine lv_icmp_le (tgt := 11) hx hb dX8_doubt_6 (by decide) (fun c7 => ?_) (fun c7 => ?_)
    · have hm := hm.1 c7
      refine lv_aload_n hx hb dX8_doubt_11 rfl (lv_at hl 0 rfl) ?_
      refine gF (k := 11) hc hw inX8 rfl 0 rfl (by decide) (gm 426 (by decide +kernel) rfl) rfl dX8_doubt_12 ?_
      refine lv_aload_n hx hb dX8_doubt_15 rfl (lv_at hl 0 rfl) ?_
      refine gF (k := 0) hc hw inX8 rfl 0 rfl (by decide) (gm 415 (by decide +kernel) rfl) rfl dX8_doubt_16 ?_
      refine nVN_V (As := [.ref (aB 0)]) (rest := []) (wc := ((dW cy aDt SDt) ++ ((bW cy aB e_B_laws e_B_told (ame 0) e_B_claims SB) ++ (tW cy ame Sme)))) (wr := (oW cy aO (aB 0) e_O_images e_O_tape e_O_reader e_O_plan e_O_trial e_O_season (aDt 0) e_O_line e_O_evening e_O_choices SO)) (isC := [3, 4, 5, 6, 7, 8, 9, 10, 11, 12, 13, 14, 15]) (isR := [0, 1, 2]) hc hw (c_X0_leaveOut hm) lk_X8_278 ⟨rfl, rfl, rfl, rfl, by decide⟩ rfl rfl ⟨Nat.le_of_ble_eq_true rfl, Nat.le_of_ble_eq_true rfl⟩ ⟨Nat.le_of_ble_eq_true rfl, Nat.le_of_ble_eq_true rfl⟩ hl.1 rfl (Nat.le_of_ble_eq_true rfl) rfl dX8_doubt_19 (fun S1 H locs hm hw => ?_)
      have hw : wV D A s.heap ((oW cy aO (aB 0) e_O_images e_O_tape e_O_reader e_O_plan e_O_trial e_O_season (aDt 0) e_O_line e_O_evening e_O_choices SO) ++ ((dW cy aDt S1) ++ ((bW cy aB e_B_laws e_B_told (ame 0) e_B_claims SB) ++ (tW cy ame Sme)))) H locs := hw.perm [0, 1, 2, 3, 4, 5, 6, 7, 8, 9, 10, 11, 12, 13, 14, 15] rfl rfl
      refine lv_iload_n hx hb dX8_doubt_22 rfl (lv_at hl 1 rfl) ?_
      refine lv_if_ne (tgt := 37) hx hb dX8_doubt_23 (by decide) (fun c6 => ?_) (fun c6 => ?_)
      · have hm := hm.1 c6
        refine lv_iload_n hx hb dX8_doubt_37 rfl (lv_at hl 1 rfl) ?_
        refine lv_iconst (v := 1) hx hb dX8_doubt_38 (by decide) ?_
        refine lv_icmp_ne (tgt := 52) hx hb dX8_doubt_39 (by decide) (fun c3 => ?_) (fun c3 => ?_)
        · have hm := hm.1 c3
          refine lv_aload_n hx hb dX8_doubt_52 rfl (lv_at hl 0 rfl) ?_
          refine gF (k := 11) hc hw inX8 rfl 0 rfl (by decide) (gm 426 (by decide +kernel) rfl) rfl dX8_doubt_53 ?_
          refine gN (k := 3) (host := "OlderTale") hc hw inX0 rfl 3 rfl (by decide) (nmm 403 (by decide +kernel)) rfl dX8_doubt_56 ?_
          exact retI (u := S1) hc hw hm dX8_doubt_59
        · have hm := hm.2 c3
          refine lv_aload_n hx hb dX8_doubt_42 rfl (lv_at hl 0 rfl) ?_
          refine gF (k := 11) hc hw inX8 rfl 0 rfl (by decide) (gm 426 (by decide +kernel) rfl) rfl dX8_doubt_43 ?_
          refine gN (k := 2) (host := "OlderTale") hc hw inX0 rfl 3 rfl (by decide) (nmm 401 (by decide +kernel)) rfl dX8_doubt_46 ?_
          refine lv_goto (tgt := 59) hx hb dX8_doubt_49 (by decide) ?_
          exact retI (u := S1) hc hw hm dX8_doubt_59
      · have hm := hm.2 c6
        refine lv_aload_n hx hb dX8_doubt_26 rfl (lv_at hl 0 rfl) ?_
        refine gF (k := 11) hc hw inX8 rfl 0 rfl (by decide) (gm 426 (by decide +kernel) rfl) rfl dX8_doubt_27 ?_
        refine gN (k := 2) (host := "OlderTale") hc hw inX0 rfl 3 rfl (by decide) (nmm 401 (by decide +kernel)) rfl dX8_doubt_30 ?_
        refine zS_I (As := [.int (S1.1 2)]) (rest := []) hc hw (c_J6_bitCount_0f7a4 hm) lk_X8_214 ⟨Nat.le_of_ble_eq_true rfl, Nat.le_of_ble_eq_true rfl⟩ ⟨Nat.le_of_ble_eq_true rfl, Nat.le_of_ble_eq_true rfl⟩ hl.1 rfl (Nat.le_of_ble_eq_true rfl) rfl dX8_doubt_33 (fun r4 H locs hm hw => ?_)
        exact retI (u := S1) hc hw hm dX8_doubt_36
    · have hm := hm.2 c7
      refine lv_iconst (v := (-1)) hx hb dX8_doubt_9 (by decide) ?_
      exact retI (u := SDt) hc hw hm dX8_doubt_10
set_option maxHeartbeats 4000000 in
set_option maxRecDepth 100000 in
theorem c_X8_of {l : Launch} {D : va_G} {cy : Nat → ClassId} {aO : Nat → Nat} {aB : Nat → Nat} {als : Nat → Nat} {aP : Nat → Nat} {aJ : Nat → Nat} {aLw : Nat → Nat} {e_O_images : Nat} {e_O_tape : Nat} {e_O_reader : Nat} {e_O_trial : Option Nat} {e_O_season : Option Nat} {e_O_dates : Nat} {e_O_line : Nat} {e_O_evening : Nat} {e_O_choices : Nat} {e_B_told : Nat} {e_B_mentions : Nat} {e_B_claims : Nat} {SO : Ob} {SB : Ob} {Sls : (Nat → Option Nat)} {SP : Ob} {SJ : Ob} {SLw : Lw} {x1 : Int32} {x2 : Int32} {Q : Int32 → Ob → Ob → Prop} (hm : w_X8_of aB aLw SO SB Sls SP SJ SLw x1 x2 Q) : CtI l yX8_of cX8_of 3 (some .int) (rmN 5) D cy [.ref (aO 0), .int x1, .int x2] ((oW cy aO (aB 0) e_O_images e_O_tape e_O_reader (aP 0) e_O_trial e_O_season e_O_dates e_O_line e_O_evening e_O_choices SO) ++ ((bW cy aB (als 0) e_B_told e_B_mentions e_B_claims SB) ++ ((lsW cy als Sls) ++ ((pW cy aP (aJ 0) SP) ++ ((jW cy aJ SJ) ++ (lwW cy aLw SLw)))))) (fun u : Ob × Ob => ((oW cy aO (aB 0) e_O_images e_O_tape e_O_reader (aP 0) e_O_trial e_O_season e_O_dates e_O_line e_O_evening e_O_choices SO) ++ ((bW cy aB (als 0) e_B_told e_B_mentions e_B_claims SB) ++ ((lsW cy als Sls) ++ ((pW cy aP (aJ 0) u.1) ++ ((jW cy aJ u.2) ++ (lwW cy aLw SLw))))))) (fun (r : Int32) (u : Ob × Ob) => Q r u.1 u.2) := by
  refine CtI.ofW (by decide) (Nat.le_of_ble_eq_true rfl) ?_
  intro p e s m args below meth c A ls hc hnm hw hl
  have hx := hc.1.1
  have hb := hc.1.2.1
  have hown := hc.1.2.2.2.1
  have hts := hc.1.2.2.2.2
  have hl : lv_has ls 3 [(0, .ref (aO 0)), (1, .int x1), (2, .int x2)] := hl
  obtain ⟨H, hH⟩ : ∃ z, z = s.heap := ⟨_, rfl⟩
  obtain ⟨locs, hLc⟩ : ∃ z : List Loc, z = [] := ⟨_, rfl⟩
  have hw : wV D A s.heap ((oW cy aO (aB 0) e_O_images e_O_tape e_O_reader (aP 0) e_O_trial e_O_season e_O_dates e_O_line e_O_evening e_O_choices SO) ++ ((bW cy aB (als 0) e_B_told e_B_mentions e_B_claims SB) ++ ((lsW cy als Sls) ++ ((pW cy aP (aJ 0) SP) ++ ((jW cy aJ SJ) ++ (lwW cy aLw SLw)))))) H locs := by rw [hH, hLc]; exact hw
  have hgo : W p l e (rmN 5) s m args below meth c H locs 0 0 (MQ below (eI D cy A (fun u : Ob × Ob => ((oW cy aO (aB 0) e_O_images e_O_tape e_O_reader (aP 0) e_O_trial e_O_season e_O_dates e_O_line e_O_evening e_O_choices SO) ++ ((bW cy aB (als 0) e_B_told e_B_mentions e_B_claims SB) ++ ((lsW cy als Sls) ++ ((pW cy aP (aJ 0) u.1) ++ ((jW cy aJ u.2) ++ (lwW cy aLw SLw))))))) (fun (r : Int32) (u : Ob × Ob) => Q r u.1 u.2)) args s (rmN 5).cells (rmN 5).slots A) (F0 m 0 ls []) := ?hgo
  · rw [hH, hLc] at hgo; exact hgo
  refine lv_aload_n hx hb dX8_of_0 rfl (lv_at hl 0 rfl) ?_
  refine gF (k := 0) hc hw inX8 rfl 0 rfl (by decide) (gm 415 (by decide +kernel) rfl) rfl dX8_of_1 ?_
  refine lv_iload_n hx hb dX8_of_4 rfl (lv_at hl 1 rfl) ?_
  refine nVN_I (As := [.int x1]) (rest := []) (wc := (bW cy aB (als 0) e_B_told e_B_mentions e_B_claims SB)) (wr := ((oW cy aO (aB 0) e_O_images e_O_tape e_O_reader (aP 0) e_O_trial e_O_season e_O_dates e_O_line e_O_evening e_O_choices SO) ++ ((lsW cy als Sls) ++ ((pW cy aP (aJ 0) SP) ++ ((jW cy aJ SJ) ++ (lwW cy aLw SLw)))))) (isC := [3, 4, 5, 6, 7, 8]) (isR := [0, 1, 2, 9, 10, 11, 12, 13, 14, 15, 16, 17, 18, 19, 20, 21, 22, 23, 24, 25, 26, 27, 28]) hc hw (c_X6_has hm) lk_X8_110 ⟨rfl, rfl, rfl, rfl, by decide⟩ rfl rfl ⟨Nat.le_of_ble_eq_true rfl, Nat.le_of_ble_eq_true rfl⟩ ⟨Nat.le_of_ble_eq_true rfl, Nat.le_of_ble_eq_true rfl⟩ hl.1 rfl (Nat.le_of_ble_eq_true rfl) rfl dX8_of_5 (fun r1 _ H locs hm hw => ?_)
  have hw : wV D A s.heap ((oW cy aO (aB 0) e_O_images e_O_tape e_O_reader (aP 0) e_O_trial e_O_season e_O_dates e_O_line e_O_evening e_O_choices SO) ++ ((bW cy aB (als 0) e_B_told e_B_mentions e_B_claims SB) ++ ((lsW cy als Sls) ++ ((pW cy aP (aJ 0) SP) ++ ((jW cy aJ SJ) ++ (lwW cy aLw SLw)))))) H locs := hw.perm [0, 1, 2, 23, 24, 25, 26, 27, 28, 3, 4, 5, 6, 7, 8, 9, 10, 11, 12, 13, 14, 15, 16, 17, 18, 19, 20, 21, 22] rfl rfl
  refine lv_if_eq (tgt := 20) hx hb dX8_of_8 (by decide) (fun c19 => ?_) (fun c19 => ?_)
  · have hm := hm.1 c19
    refine lv_iconst (v := (-1)) hx hb dX8_of_20 (by decide) ?_
    exact retI (u := (SP, SJ)) hc hw hm dX8_of_21
  · have hm := hm.2 c19
    refine lv_iload_n hx hb dX8_of_11 rfl (lv_at hl 2 rfl) ?_
    refine lv_if_lt (tgt := 20) hx hb dX8_of_12 (by decide) (fun c18 => ?_) (fun c18 => ?_)
    · have hm := hm.1 c18
      refine lv_iconst (v := (-1)) hx hb dX8_of_20 (by decide) ?_
      exact retI (u := (SP, SJ)) hc hw hm dX8_of_21
    · have hm := hm.2 c18
      refine lv_iload_n hx hb dX8_of_15 rfl (lv_at hl 2 rfl) ?_
      refine lv_iconst (v := 5) hx hb dX8_of_16 (by decide) ?_
      refine lv_icmp_le (tgt := 22) hx hb dX8_of_17 (by decide) (fun c17 => ?_) (fun c17 => ?_)
      · have hm := hm.1 c17
        refine lv_iload_n hx hb dX8_of_22 rfl (lv_at hl 2 rfl) ?_
        refine lv_iconst (v := 4) hx hb dX8_of_23 (by decide) ?_
        refine lv_icmp_ge (tgt := 38) hx hb dX8_of_24 (by decide) (fun c16 => ?_) (fun c16 => ?_)
        · have hm := hm.1 c16
          refine lv_aload_n hx hb dX8_of_38 rfl (lv_at hl 0 rfl) ?_
          refine gF (k := 8) hc hw inX8 rfl 0 rfl (by decide) (gm 423 (by decide +kernel) rfl) rfl dX8_of_39 ?_
          refine lv_aload_n hx hb dX8_of_42 rfl (lv_at hl 0 rfl) ?_
          refine gF (k := 0) hc hw inX8 rfl 0 rfl (by decide) (gm 415 (by decide +kernel) rfl) rfl dX8_of_43 ?_
          refine nVN_V (As := [.ref (aB 0)]) (rest := []) (wc := ((pW cy aP (aJ 0) SP) ++ ((jW cy aJ SJ) ++ ((bW cy aB (als 0) e_B_told e_B_mentions e_B_claims SB) ++ ((lsW cy als Sls) ++ (lwW cy aLw SLw)))))) (wr := (oW cy aO (aB 0) e_O_images e_O_tape e_O_reader (aP 0) e_O_trial e_O_season e_O_dates e_O_line e_O_evening e_O_choices SO)) (isC := [10, 11, 12, 13, 14, 15, 16, 17, 18, 19, 20, 21, 22, 23, 3, 4, 5, 6, 7, 8, 9, 24, 25, 26, 27, 28]) (isR := [0, 1, 2]) hc hw (c_X3_weigh hm) lk_X8_124 ⟨rfl, rfl, rfl, rfl, by decide⟩ rfl rfl ⟨Nat.le_of_ble_eq_true rfl, Nat.le_of_ble_eq_true rfl⟩ ⟨Nat.le_of_ble_eq_true rfl, Nat.le_of_ble_eq_true rfl⟩ hl.1 rfl (Nat.le_of_ble_eq_true rfl) rfl dX8_of_46 (fun u_4 H locs hm hw => ?_)
          obtain ⟨S3, S4⟩ := u_4
          have hw : wV D A s.heap ((oW cy aO (aB 0) e_O_images e_O_tape e_O_reader (aP 0) e_O_trial e_O_season e_O_dates e_O_line e_O_evening e_O_choices SO) ++ ((bW cy aB (als 0) e_B_told e_B_mentions e_B_claims SB) ++ ((lsW cy als Sls) ++ ((pW cy aP (aJ 0) S3) ++ ((jW cy aJ S4) ++ (lwW cy aLw SLw)))))) H locs := hw.perm [0, 1, 2, 17, 18, 19, 20, 21, 22, 23, 3, 4, 5, 6, 7, 8, 9, 10, 11, 12, 13, 14, 15, 16, 24, 25, 26, 27, 28] rfl rfl
          refine lv_iload_n hx hb dX8_of_49 rfl (lv_at hl 2 rfl) ?_
          refine lv_iconst (v := 4) hx hb dX8_of_50 (by decide) ?_
          refine lv_icmp_ne (tgt := 66) hx hb dX8_of_51 (by decide) (fun c8 => ?_) (fun c8 => ?_)
          · have hm := hm.1 c8
            refine lv_aload_n hx hb dX8_of_66 rfl (lv_at hl 0 rfl) ?_
            refine gF (k := 8) hc hw inX8 rfl 0 rfl (by decide) (gm 423 (by decide +kernel) rfl) rfl dX8_of_67 ?_
            refine gN (k := 4) (host := "OlderTale") hc hw inX3 rfl 10 rfl (by decide) (nmm 331 (by decide +kernel)) rfl dX8_of_70 ?_
            refine lv_iload_n hx hb dX8_of_73 rfl (lv_at hl 1 rfl) ?_
            obtain ⟨c6, hm⟩ := hm
            refine aI hc hw 14 rfl c6 rfl dX8_of_74 ?_
            exact retI (u := (S3, S4)) hc hw hm dX8_of_75
          · have hm := hm.2 c8
            refine lv_aload_n hx hb dX8_of_54 rfl (lv_at hl 0 rfl) ?_
            refine gF (k := 8) hc hw inX8 rfl 0 rfl (by decide) (gm 423 (by decide +kernel) rfl) rfl dX8_of_55 ?_
            refine gN (k := 3) (host := "OlderTale") hc hw inX3 rfl 10 rfl (by decide) (nmm 329 (by decide +kernel)) rfl dX8_of_58 ?_
            refine lv_iload_n hx hb dX8_of_61 rfl (lv_at hl 1 rfl) ?_
            obtain ⟨c7, hm⟩ := hm
            refine aI hc hw 13 rfl c7 rfl dX8_of_62 ?_
            refine lv_goto (tgt := 75) hx hb dX8_of_63 (by decide) ?_
            exact retI (u := (S3, S4)) hc hw hm dX8_of_75
        · have hm := hm.2 c16
          refine lv_aload_n hx hb dX8_of_27 rfl (lv_at hl 0 rfl) ?_
          refine gF (k := 0) hc hw inX8 rfl 0 rfl (by decide) (gm 415 (by decide +kernel) rfl) rfl dX8_of_28 ?_
          refine lv_iload_n hx hb dX8_of_31 rfl (lv_at hl 2 rfl) ?_
          refine nVN_Q (As := [.int x2]) (rest := []) (wc := (bW cy aB (als 0) e_B_told e_B_mentions e_B_claims SB)) (wr := ((oW cy aO (aB 0) e_O_images e_O_tape e_O_reader (aP 0) e_O_trial e_O_season e_O_dates e_O_line e_O_evening e_O_choices SO) ++ ((lsW cy als Sls) ++ ((pW cy aP (aJ 0) SP) ++ ((jW cy aJ SJ) ++ (lwW cy aLw SLw)))))) (isC := [3, 4, 5, 6, 7, 8]) (isR := [0, 1, 2, 9, 10, 11, 12, 13, 14, 15, 16, 17, 18, 19, 20, 21, 22, 23, 24, 25, 26, 27, 28]) hc hw (c_X6_column hm) lk_X8_120 ⟨rfl, rfl, rfl, rfl, by decide⟩ rfl rfl ⟨Nat.le_of_ble_eq_true rfl, Nat.le_of_ble_eq_true rfl⟩ ⟨Nat.le_of_ble_eq_true rfl, Nat.le_of_ble_eq_true rfl⟩ hl.1 rfl (Nat.le_of_ble_eq_true rfl) rfl dX8_of_32 (fun r9 _ H locs hm hw => ?_)
          have hw : wV D A s.heap ((oW cy aO (aB 0) e_O_images e_O_tape e_O_reader (aP 0) e_O_trial e_O_season e_O_dates e_O_line e_O_evening e_O_choices SO) ++ ((bW cy aB (als 0) e_B_told e_B_mentions e_B_claims SB) ++ ((lsW cy als Sls) ++ ((pW cy aP (aJ 0) SP) ++ ((jW cy aJ SJ) ++ (lwW cy aLw SLw)))))) H locs := hw.perm [0, 1, 2, 23, 24, 25, 26, 27, 28, 3, 4, 5, 6, 7, 8, 9, 10, 11, 12, 13, 14, 15, 16, 17, 18, 19, 20, 21, 22] rfl rfl
          obtain ⟨c11, hm⟩ := hm
          rcases c11 with c11 | c11 | c11 | c11
          · have hm := hm.1 c11
            rw [c11]
            refine W.eq (g2 := F0 _ _ _ (.ref (aB 1) :: _)) rfl ?_
            refine lv_iload_n hx hb dX8_of_35 rfl (lv_at hl 1 rfl) ?_
            obtain ⟨c12, hm⟩ := hm
            refine aI hc hw 4 rfl c12 rfl dX8_of_36 ?_
            exact retI (u := (SP, SJ)) hc hw hm dX8_of_37
          · have hm := hm.2.1 c11
            rw [c11]
            refine W.eq (g2 := F0 _ _ _ (.ref (aB 2) :: _)) rfl ?_
            refine lv_iload_n hx hb dX8_of_35 rfl (lv_at hl 1 rfl) ?_
            obtain ⟨c13, hm⟩ := hm
            refine aI hc hw 5 rfl c13 rfl dX8_of_36 ?_
            exact retI (u := (SP, SJ)) hc hw hm dX8_of_37
          · have hm := hm.2.2.1 c11
            rw [c11]
            refine W.eq (g2 := F0 _ _ _ (.ref (aB 3) :: _)) rfl ?_
            refine lv_iload_n hx hb dX8_of_35 rfl (lv_at hl 1 rfl) ?_
            obtain ⟨c14, hm⟩ := hm
            refine aI hc hw 6 rfl c14 rfl dX8_of_36 ?_
            exact retI (u := (SP, SJ)) hc hw hm dX8_of_37
          · have hm := hm.2.2.2 c11
            rw [c11]
            refine W.eq (g2 := F0 _ _ _ (.ref (aB 4) :: _)) rfl ?_
            refine lv_iload_n hx hb dX8_of_35 rfl (lv_at hl 1 rfl) ?_
            obtain ⟨c15, hm⟩ := hm
            refine aI hc hw 7 rfl c15 rfl dX8_of_36 ?_
            exact retI (u := (SP, SJ)) hc hw hm dX8_of_37
      · have hm := hm.2 c17
        refine lv_iconst (v := (-1)) hx hb dX8_of_20 (by decide) ?_
        exact retI (u := (SP, SJ)) hc hw hm dX8_of_21
set_option maxHeartbeats 4000000 in
set_option maxRecDepth 100000 in
theorem c_X8_ofN {l : Launch} {D : va_G} {cy : Nat → ClassId} {aO : Nat → Nat} {aB : Nat → Nat} {als : Nat → Nat} {aP : Nat → Nat} {aJ : Nat → Nat} {e_O_images : Nat} {e_O_tape : Nat} {e_O_reader : Nat} {e_O_trial : Option Nat} {e_O_season : Option Nat} {e_O_dates : Nat} {e_O_line : Nat} {e_O_evening : Nat} {e_O_choices : Nat} {e_B_told : Nat} {e_B_mentions : Nat} {e_B_claims : Nat} {SO : Ob} {SB : Ob} {Sls : (Nat → Option Nat)} {SP : Ob} {SJ : Ob} {x1 : Int32} {x2 : Int32} {Q : Int32 → Ob → Ob → Prop} (hm : w_X8_ofN aB SO SB Sls SP SJ x1 x2 Q) : CtI l yX8_of cX8_of 3 (some .int) (rmN 5) D cy [.ref (aO 0), .int x1, .int x2] ((oW cy aO (aB 0) e_O_images e_O_tape e_O_reader (aP 0) e_O_trial e_O_season e_O_dates e_O_line e_O_evening e_O_choices SO) ++ ((bW cy aB (als 0) e_B_told e_B_mentions e_B_claims SB) ++ ((lsW cy als Sls) ++ ((pW cy aP (aJ 0) SP) ++ (jW cy aJ SJ))))) (fun u : Ob × Ob => ((oW cy aO (aB 0) e_O_images e_O_tape e_O_reader (aP 0) e_O_trial e_O_season e_O_dates e_O_line e_O_evening e_O_choices SO) ++ ((bW cy aB (als 0) e_B_told e_B_mentions e_B_claims SB) ++ ((lsW cy als Sls) ++ ((pW cy aP (aJ 0) u.1) ++ (jW cy aJ u.2)))))) (fun (r : Int32) (u : Ob × Ob) => Q r u.1 u.2) := by
  refine CtI.ofW (by decide) (Nat.le_of_ble_eq_true rfl) ?_
  intro p e s m args below meth c A ls hc hnm hw hl
  have hx := hc.1.1
  have hb := hc.1.2.1
  have hown := hc.1.2.2.2.1
  have hts := hc.1.2.2.2.2
  have hl : lv_has ls 3 [(0, .ref (aO 0)), (1, .int x1), (2, .int x2)] := hl
  obtain ⟨H, hH⟩ : ∃ z, z = s.heap := ⟨_, rfl⟩
  obtain ⟨locs, hLc⟩ : ∃ z : List Loc, z = [] := ⟨_, rfl⟩
  have hw : wV D A s.heap ((oW cy aO (aB 0) e_O_images e_O_tape e_O_reader (aP 0) e_O_trial e_O_season e_O_dates e_O_line e_O_evening e_O_choices SO) ++ ((bW cy aB (als 0) e_B_told e_B_mentions e_B_claims SB) ++ ((lsW cy als Sls) ++ ((pW cy aP (aJ 0) SP) ++ (jW cy aJ SJ))))) H locs := by rw [hH, hLc]; exact hw
  have hgo : W p l e (rmN 5) s m args below meth c H locs 0 0 (MQ below (eI D cy A (fun u : Ob × Ob => ((oW cy aO (aB 0) e_O_images e_O_tape e_O_reader (aP 0) e_O_trial e_O_season e_O_dates e_O_line e_O_evening e_O_choices SO) ++ ((bW cy aB (als 0) e_B_told e_B_mentions e_B_claims SB) ++ ((lsW cy als Sls) ++ ((pW cy aP (aJ 0) u.1) ++ (jW cy aJ u.2)))))) (fun (r : Int32) (u : Ob × Ob) => Q r u.1 u.2)) args s (rmN 5).cells (rmN 5).slots A) (F0 m 0 ls []) := ?hgo
  · rw [hH, hLc] at hgo; exact hgo
  refine lv_aload_n hx hb dX8_of_0 rfl (lv_at hl 0 rfl) ?_
  refine gF (k := 0) hc hw inX8 rfl 0 rfl (by decide) (gm 415 (by decide +kernel) rfl) rfl dX8_of_1 ?_
  refine lv_iload_n hx hb dX8_of_4 rfl (lv_at hl 1 rfl) ?_
  refine nVN_I (As := [.int x1]) (rest := []) (wc := (bW cy aB (als 0) e_B_told e_B_mentions e_B_claims SB)) (wr := ((oW cy aO (aB 0) e_O_images e_O_tape e_O_reader (aP 0) e_O_trial e_O_season e_O_dates e_O_line e_O_evening e_O_choices SO) ++ ((lsW cy als Sls) ++ ((pW cy aP (aJ 0) SP) ++ (jW cy aJ SJ))))) (isC := [3, 4, 5, 6, 7, 8]) (isR := [0, 1, 2, 9, 10, 11, 12, 13, 14, 15, 16, 17, 18, 19, 20, 21, 22, 23]) hc hw (c_X6_has hm) lk_X8_110 ⟨rfl, rfl, rfl, rfl, by decide⟩ rfl rfl ⟨Nat.le_of_ble_eq_true rfl, Nat.le_of_ble_eq_true rfl⟩ ⟨Nat.le_of_ble_eq_true rfl, Nat.le_of_ble_eq_true rfl⟩ hl.1 rfl (Nat.le_of_ble_eq_true rfl) rfl dX8_of_5 (fun r1 _ H locs hm hw => ?_)
  have hw : wV D A s.heap ((oW cy aO (aB 0) e_O_images e_O_tape e_O_reader (aP 0) e_O_trial e_O_season e_O_dates e_O_line e_O_evening e_O_choices SO) ++ ((bW cy aB (als 0) e_B_told e_B_mentions e_B_claims SB) ++ ((lsW cy als Sls) ++ ((pW cy aP (aJ 0) SP) ++ (jW cy aJ SJ))))) H locs := hw.perm [0, 1, 2, 18, 19, 20, 21, 22, 23, 3, 4, 5, 6, 7, 8, 9, 10, 11, 12, 13, 14, 15, 16, 17] rfl rfl
  refine lv_if_eq (tgt := 20) hx hb dX8_of_8 (by decide) (fun c19 => ?_) (fun c19 => ?_)
  · have hm := hm.1 c19
    refine lv_iconst (v := (-1)) hx hb dX8_of_20 (by decide) ?_
    exact retI (u := (SP, SJ)) hc hw hm dX8_of_21
  · have hm := hm.2 c19
    refine lv_iload_n hx hb dX8_of_11 rfl (lv_at hl 2 rfl) ?_
    refine lv_if_lt (tgt := 20) hx hb dX8_of_12 (by decide) (fun c18 => ?_) (fun c18 => ?_)
    · have hm := hm.1 c18
      refine lv_iconst (v := (-1)) hx hb dX8_of_20 (by decide) ?_
      exact retI (u := (SP, SJ)) hc hw hm dX8_of_21
    · have hm := hm.2 c18
      refine lv_iload_n hx hb dX8_of_15 rfl (lv_at hl 2 rfl) ?_
      refine lv_iconst (v := 5) hx hb dX8_of_16 (by decide) ?_
      refine lv_icmp_le (tgt := 22) hx hb dX8_of_17 (by decide) (fun c17 => ?_) (fun c17 => ?_)
      · have hm := hm.1 c17
        refine lv_iload_n hx hb dX8_of_22 rfl (lv_at hl 2 rfl) ?_
        refine lv_iconst (v := 4) hx hb dX8_of_23 (by decide) ?_
        refine lv_icmp_ge (tgt := 38) hx hb dX8_of_24 (by decide) (fun c16 => ?_) (fun c16 => ?_)
        · have hm := hm.1 c16
          refine lv_aload_n hx hb dX8_of_38 rfl (lv_at hl 0 rfl) ?_
          refine gF (k := 8) hc hw inX8 rfl 0 rfl (by decide) (gm 423 (by decide +kernel) rfl) rfl dX8_of_39 ?_
          refine lv_aload_n hx hb dX8_of_42 rfl (lv_at hl 0 rfl) ?_
          refine gF (k := 0) hc hw inX8 rfl 0 rfl (by decide) (gm 415 (by decide +kernel) rfl) rfl dX8_of_43 ?_
          refine nVN_V (As := [.ref (aB 0)]) (rest := []) (wc := ((pW cy aP (aJ 0) SP) ++ ((jW cy aJ SJ) ++ ((bW cy aB (als 0) e_B_told e_B_mentions e_B_claims SB) ++ (lsW cy als Sls))))) (wr := (oW cy aO (aB 0) e_O_images e_O_tape e_O_reader (aP 0) e_O_trial e_O_season e_O_dates e_O_line e_O_evening e_O_choices SO)) (isC := [10, 11, 12, 13, 14, 15, 16, 17, 18, 19, 20, 21, 22, 23, 3, 4, 5, 6, 7, 8, 9]) (isR := [0, 1, 2]) hc hw (c_X3_weighN hm) lk_X8_124 ⟨rfl, rfl, rfl, rfl, by decide⟩ rfl rfl ⟨Nat.le_of_ble_eq_true rfl, Nat.le_of_ble_eq_true rfl⟩ ⟨Nat.le_of_ble_eq_true rfl, Nat.le_of_ble_eq_true rfl⟩ hl.1 rfl (Nat.le_of_ble_eq_true rfl) rfl dX8_of_46 (fun u_4 H locs hm hw => ?_)
          obtain ⟨S3, S4⟩ := u_4
          have hw : wV D A s.heap ((oW cy aO (aB 0) e_O_images e_O_tape e_O_reader (aP 0) e_O_trial e_O_season e_O_dates e_O_line e_O_evening e_O_choices SO) ++ ((bW cy aB (als 0) e_B_told e_B_mentions e_B_claims SB) ++ ((lsW cy als Sls) ++ ((pW cy aP (aJ 0) S3) ++ (jW cy aJ S4))))) H locs := hw.perm [0, 1, 2, 17, 18, 19, 20, 21, 22, 23, 3, 4, 5, 6, 7, 8, 9, 10, 11, 12, 13, 14, 15, 16] rfl rfl
          refine lv_iload_n hx hb dX8_of_49 rfl (lv_at hl 2 rfl) ?_
          refine lv_iconst (v := 4) hx hb dX8_of_50 (by decide) ?_
          refine lv_icmp_ne (tgt := 66) hx hb dX8_of_51 (by decide) (fun c8 => ?_) (fun c8 => ?_)
          · have hm := hm.1 c8
            refine lv_aload_n hx hb dX8_of_66 rfl (lv_at hl 0 rfl) ?_
            refine gF (k := 8) hc hw inX8 rfl 0 rfl (by decide) (gm 423 (by decide +kernel) rfl) rfl dX8_of_67 ?_
            refine gN (k := 4) (host := "OlderTale") hc hw inX3 rfl 10 rfl (by decide) (nmm 331 (by decide +kernel)) rfl dX8_of_70 ?_
            refine lv_iload_n hx hb dX8_of_73 rfl (lv_at hl 1 rfl) ?_
            obtain ⟨c6, hm⟩ := hm
            refine aI hc hw 14 rfl c6 rfl dX8_of_74 ?_
            exact retI (u := (S3, S4)) hc hw hm dX8_of_75
          · have hm := hm.2 c8
            refine lv_aload_n hx hb dX8_of_54 rfl (lv_at hl 0 rfl) ?_
            refine gF (k := 8) hc hw inX8 rfl 0 rfl (by decide) (gm 423 (by decide +kernel) rfl) rfl dX8_of_55 ?_
            refine gN (k := 3) (host := "OlderTale") hc hw inX3 rfl 10 rfl (by decide) (nmm 329 (by decide +kernel)) rfl dX8_of_58 ?_
            refine lv_iload_n hx hb dX8_of_61 rfl (lv_at hl 1 rfl) ?_
            obtain ⟨c7, hm⟩ := hm
            refine aI hc hw 13 rfl c7 rfl dX8_of_62 ?_
            refine lv_goto (tgt := 75) hx hb dX8_of_63 (by decide) ?_
            exact retI (u := (S3, S4)) hc hw hm dX8_of_75
        · have hm := hm.2 c16
          refine lv_aload_n hx hb dX8_of_27 rfl (lv_at hl 0 rfl) ?_
          refine gF (k := 0) hc hw inX8 rfl 0 rfl (by decide) (gm 415 (by decide +kernel) rfl) rfl dX8_of_28 ?_
          refine lv_iload_n hx hb dX8_of_31 rfl (lv_at hl 2 rfl) ?_
          refine nVN_Q (As := [.int x2]) (rest := []) (wc := (bW cy aB (als 0) e_B_told e_B_mentions e_B_claims SB)) (wr := ((oW cy aO (aB 0) e_O_images e_O_tape e_O_reader (aP 0) e_O_trial e_O_season e_O_dates e_O_line e_O_evening e_O_choices SO) ++ ((lsW cy als Sls) ++ ((pW cy aP (aJ 0) SP) ++ (jW cy aJ SJ))))) (isC := [3, 4, 5, 6, 7, 8]) (isR := [0, 1, 2, 9, 10, 11, 12, 13, 14, 15, 16, 17, 18, 19, 20, 21, 22, 23]) hc hw (c_X6_column hm) lk_X8_120 ⟨rfl, rfl, rfl, rfl, by decide⟩ rfl rfl ⟨Nat.le_of_ble_eq_true rfl, Nat.le_of_ble_eq_true rfl⟩ ⟨Nat.le_of_ble_eq_true rfl, Nat.le_of_ble_eq_true rfl⟩ hl.1 rfl (Nat.le_of_ble_eq_true rfl) rfl dX8_of_32 (fun r9 _ H locs hm hw => ?_)
          have hw : wV D A s.heap ((oW cy aO (aB 0) e_O_images e_O_tape e_O_reader (aP 0) e_O_trial e_O_season e_O_dates e_O_line e_O_evening e_O_choices SO) ++ ((bW cy aB (als 0) e_B_told e_B_mentions e_B_claims SB) ++ ((lsW cy als Sls) ++ ((pW cy aP (aJ 0) SP) ++ (jW cy aJ SJ))))) H locs := hw.perm [0, 1, 2, 18, 19, 20, 21, 22, 23, 3, 4, 5, 6, 7, 8, 9, 10, 11, 12, 13, 14, 15, 16, 17] rfl rfl
          obtain ⟨c11, hm⟩ := hm
          rcases c11 with c11 | c11 | c11 | c11
          · have hm := hm.1 c11
            rw [c11]
            refine W.eq (g2 := F0 _ _ _ (.ref (aB 1) :: _)) rfl ?_
            refine lv_iload_n hx hb dX8_of_35 rfl (lv_at hl 1 rfl) ?_
            obtain ⟨c12, hm⟩ := hm
            refine aI hc hw 4 rfl c12 rfl dX8_of_36 ?_
            exact retI (u := (SP, SJ)) hc hw hm dX8_of_37
          · have hm := hm.2.1 c11
            rw [c11]
            refine W.eq (g2 := F0 _ _ _ (.ref (aB 2) :: _)) rfl ?_
            refine lv_iload_n hx hb dX8_of_35 rfl (lv_at hl 1 rfl) ?_
            obtain ⟨c13, hm⟩ := hm
            refine aI hc hw 5 rfl c13 rfl dX8_of_36 ?_
            exact retI (u := (SP, SJ)) hc hw hm dX8_of_37
          · have hm := hm.2.2.1 c11
            rw [c11]
            refine W.eq (g2 := F0 _ _ _ (.ref (aB 3) :: _)) rfl ?_
            refine lv_iload_n hx hb dX8_of_35 rfl (lv_at hl 1 rfl) ?_
            obtain ⟨c14, hm⟩ := hm
            refine aI hc hw 6 rfl c14 rfl dX8_of_36 ?_
            exact retI (u := (SP, SJ)) hc hw hm dX8_of_37
          · have hm := hm.2.2.2 c11
            rw [c11]
            refine W.eq (g2 := F0 _ _ _ (.ref (aB 4) :: _)) rfl ?_
            refine lv_iload_n hx hb dX8_of_35 rfl (lv_at hl 1 rfl) ?_
            obtain ⟨c15, hm⟩ := hm
            refine aI hc hw 7 rfl c15 rfl dX8_of_36 ?_
            exact retI (u := (SP, SJ)) hc hw hm dX8_of_37
      · have hm := hm.2 c17
        refine lv_iconst (v := (-1)) hx hb dX8_of_20 (by decide) ?_
        exact retI (u := (SP, SJ)) hc hw hm dX8_of_21
