def i_X7 : Ob := (fun k => 0, fun k => fun _ => 0)
def i_X1 : Ob := (fun k => 0, fun k => fun _ => 0)
def i_X0 : Ob := (fun k => 0, fun k => fun _ => 0)
def i_X4 : Ob := (fun k => if k = 11 then (-1) else 0, fun k => fun _ => 0)
def i_X6 : Ob := (fun k => if k = 8 then (-1) else 0, fun k => if k = 5 then (upd (upd (upd (fun _ => 0) 0 2) 1 1) 2 0) else fun _ => 0)
def i_X3 : Ob := (fun k => if k = 7 then 1 else 0, fun k => fun _ => 0)
def i_X8 : Ob := (fun k => if k = 6 then (-1) else 0, fun k => fun _ => 0)
def i_X9 (w : Nat → Int32) : Ob := (fun k => if k = 11 then (-1) else if k = 29 then (-1) else 0, fun k => if k = 3 then (upd (upd (upd (fun _ => 0) 40 2) 41 1) 138 (-1)) else if k = 7 then w else fun _ => 0)
theorem lk_X3_11 : lkIN RX3 11 yX1_init cX1_init 1 none 0 := ⟨nmm 311 (by decide +kernel), gm 313 (by decide +kernel) rfl, gm 132 (by decide +kernel) rfl, gm 312 (by decide +kernel) rfl, rfl, ⟨by decide, by decide, by decide +kernel⟩⟩
theorem lk_X6_45 : lkIN RX6 45 yX7_init cX7_init 1 none 0 := ⟨nmm 163 (by decide +kernel), gm 165 (by decide +kernel) rfl, gm 129 (by decide +kernel) rfl, gm 164 (by decide +kernel) rfl, rfl, ⟨by decide, by decide, by decide +kernel⟩⟩
theorem lk_X8_11 : lkIN RX8 11 yX6_init cX6_init 1 none 0 := ⟨nmm 155 (by decide +kernel), gm 157 (by decide +kernel) rfl, gm 128 (by decide +kernel) rfl, gm 156 (by decide +kernel) rfl, rfl, ⟨by decide, by decide, by decide +kernel⟩⟩
theorem lk_X8_34 : lkIN RX8 34 yX4_init cX4_init 1 none 0 := ⟨nmm 260 (by decide +kernel), gm 262 (by decide +kernel) rfl, gm 130 (by decide +kernel) rfl, gm 261 (by decide +kernel) rfl, rfl, ⟨by decide, by decide, by decide +kernel⟩⟩
theorem lk_X8_47 : lkIN RX8 47 yX3_init cX3_init 1 none 0 := ⟨nmm 305 (by decide +kernel), gm 307 (by decide +kernel) rfl, gm 131 (by decide +kernel) rfl, gm 306 (by decide +kernel) rfl, rfl, ⟨by decide, by decide, by decide +kernel⟩⟩
theorem lk_X8_61 : lkIN RX8 61 yX0_init cX0_init 1 none 0 := ⟨nmm 392 (by decide +kernel), gm 394 (by decide +kernel) rfl, gm 133 (by decide +kernel) rfl, gm 393 (by decide +kernel) rfl, rfl, ⟨by decide, by decide, by decide +kernel⟩⟩
theorem lk_X8_68 : lkIN RX8 68 yX7_init cX7_init 1 none 0 := ⟨nmm 414 (by decide +kernel), gm 165 (by decide +kernel) rfl, gm 129 (by decide +kernel) rfl, gm 164 (by decide +kernel) rfl, rfl, ⟨by decide, by decide, by decide +kernel⟩⟩
set_option maxHeartbeats 4000000 in
set_option maxRecDepth 100000 in
theorem c_X7_init {l : Launch} {D : va_G} {cy : Nat → ClassId} {a0 : Nat} : CtV l yX7_init cX7_init 1 none (rmA 1 3 30) D cy [.ref a0] [(a0, .inr (7, [.null, .null, .null, .int 0]))] (fun u : Nat → Nat → Nat => (tW cy (u 0) i_X7)) (fun u : Nat → Nat → Nat => u 0 0 = a0) := by
  refine CtV.ofW (by decide) (Nat.le_of_ble_eq_true rfl) ?_
  intro p e s m args below meth c A ls hc hnm hw hl
  have hx := hc.1.1
  have hb := hc.1.2.1
  have hl : lv_has ls 1 [(0, .ref a0)] := hl
  obtain ⟨H, hH⟩ : ∃ z, z = s.heap := ⟨_, rfl⟩
  obtain ⟨locs, hLc⟩ : ∃ z : List Loc, z = [] := ⟨_, rfl⟩
  have hw : wV D A s.heap [(a0, .inr (7, [.null, .null, .null, .int 0]))] H locs := by rw [hH, hLc]; exact hw
  have hgo : W p l e (rmA 1 3 30) s m args below meth c H locs 0 0 (MQ below (eV D cy A (fun u : Nat → Nat → Nat => (tW cy (u 0) i_X7)) (fun u : Nat → Nat → Nat => u 0 0 = a0)) args s (rmA 1 3 30).cells (rmA 1 3 30).slots A) (F0 m 0 ls []) := ?hgo
  · rw [hH, hLc] at hgo; exact hgo
  refine lv_aload_n hx hb dX7_init_0 rfl (lv_at hl 0 rfl) ?_
  refine oIn hc (gm 166 (by decide +kernel) rfl) hl.1 (Nat.le_of_ble_eq_true rfl) (Nat.le_of_ble_eq_true rfl) dX7_init_1 ?_
  refine lv_aload_n hx hb dX7_init_4 rfl (lv_at hl 0 rfl) ?_
  refine lv_bipush (v := 10) hx hb dX7_init_5 (by decide) ?_
  refine nwI (N := 10) hc hw (by decide) (by decide) (by decide) (by decide) (by decide) dX7_init_7 (fun q1 H hw => ?_)
  refine W.widen (k := 1) (n := 10) (by decide) (by decide) ?_
  replace hw : wV D A s.heap [(a0, .inr (7, [.null, .null, .null, .int 0])), (q1, .inl (cy 0, 10, .inl (fun _ => 0)))] H locs := hw
  refine pFF (k := 0) hc hw inX7 tyX7_ok nmX7 rfl 0 rfl (by decide) (gm 167 (by decide +kernel) rfl) rfl (hnm rfl) rfl rfl rfl (Nat.le_of_ble_eq_true rfl) dX7_init_9 (fun H locs hw => ?_)
  replace hw : wV D A s.heap [(a0, .inr (7, [.ref q1, .null, .null, .int 0])), (q1, .inl (cy 0, 10, .inl (fun _ => 0)))] H locs := hw
  refine lv_aload_n hx hb dX7_init_12 rfl (lv_at hl 0 rfl) ?_
  refine lv_bipush (v := 10) hx hb dX7_init_13 (by decide) ?_
  refine nwI (N := 10) hc hw (by decide) (by decide) (by decide) (by decide) (by decide) dX7_init_15 (fun q2 H hw => ?_)
  refine W.widen (k := 2) (n := 20) (by decide) (by decide) ?_
  replace hw : wV D A s.heap [(a0, .inr (7, [.ref q1, .null, .null, .int 0])), (q1, .inl (cy 0, 10, .inl (fun _ => 0))), (q2, .inl (cy 0, 10, .inl (fun _ => 0)))] H locs := hw
  refine pFF (k := 1) hc hw inX7 tyX7_ok nmX7 rfl 0 rfl (by decide) (gm 171 (by decide +kernel) rfl) rfl (hnm rfl) rfl rfl rfl (Nat.le_of_ble_eq_true rfl) dX7_init_17 (fun H locs hw => ?_)
  replace hw : wV D A s.heap [(a0, .inr (7, [.ref q1, .ref q2, .null, .int 0])), (q1, .inl (cy 0, 10, .inl (fun _ => 0))), (q2, .inl (cy 0, 10, .inl (fun _ => 0)))] H locs := hw
  refine lv_aload_n hx hb dX7_init_20 rfl (lv_at hl 0 rfl) ?_
  refine lv_bipush (v := 10) hx hb dX7_init_21 (by decide) ?_
  refine nwI (N := 10) hc hw (by decide) (by decide) (by decide) (by decide) (by decide) dX7_init_23 (fun q3 H hw => ?_)
  refine W.widen (k := 3) (n := 30) (by decide) (by decide) ?_
  replace hw : wV D A s.heap [(a0, .inr (7, [.ref q1, .ref q2, .null, .int 0])), (q1, .inl (cy 0, 10, .inl (fun _ => 0))), (q2, .inl (cy 0, 10, .inl (fun _ => 0))), (q3, .inl (cy 0, 10, .inl (fun _ => 0)))] H locs := hw
  refine pFF (k := 2) hc hw inX7 tyX7_ok nmX7 rfl 0 rfl (by decide) (gm 175 (by decide +kernel) rfl) rfl (hnm rfl) rfl rfl rfl (Nat.le_of_ble_eq_true rfl) dX7_init_25 (fun H locs hw => ?_)
  replace hw : wV D A s.heap [(a0, .inr (7, [.ref q1, .ref q2, .ref q3, .int 0])), (q1, .inl (cy 0, 10, .inl (fun _ => 0))), (q2, .inl (cy 0, 10, .inl (fun _ => 0))), (q3, .inl (cy 0, 10, .inl (fun _ => 0)))] H locs := hw
  refine lv_aload_n hx hb dX7_init_28 rfl (lv_at hl 0 rfl) ?_
  refine lv_iconst (v := 0) hx hb dX7_init_29 (by decide) ?_
  refine pFr (k := 3) hc hw inX7 tyX7_ok nmX7 rfl 0 rfl (by decide) (gm 179 (by decide +kernel) rfl) rfl rfl rfl (Nat.le_of_ble_eq_true rfl) dX7_init_30 (fun H locs hw => ?_)
  replace hw : wV D A s.heap [(a0, .inr (7, [.ref q1, .ref q2, .ref q3, .int 0])), (q1, .inl (cy 0, 10, .inl (fun _ => 0))), (q2, .inl (cy 0, 10, .inl (fun _ => 0))), (q3, .inl (cy 0, 10, .inl (fun _ => 0)))] H locs := hw
  have hw : wV D A s.heap ((fun u : Nat → Nat → Nat => (tW cy (u 0) i_X7)) (fun k => [(fun i => [a0, q1, q2, q3].getD i 0)].getD k (fun _ => 0))) H locs := hw.perm [0, 1, 2, 3] rfl rfl
  exact retV (u := fun k => [(fun i => [a0, q1, q2, q3].getD i 0)].getD k (fun _ => 0)) hc hw rfl dX7_init_33

set_option maxHeartbeats 4000000 in
set_option maxRecDepth 100000 in
theorem c_X1_init {l : Launch} {D : va_G} {cy : Nat → ClassId} {a0 : Nat} : CtV l yX1_init cX1_init 1 none (rmA 1 2 62) D cy [.ref a0] [(a0, .inr (1, [.null, .null, .int 0]))] (fun u : Nat → Nat → Nat => (jW cy (u 0) i_X1)) (fun u : Nat → Nat → Nat => u 0 0 = a0) := by
  refine CtV.ofW (by decide) (Nat.le_of_ble_eq_true rfl) ?_
  intro p e s m args below meth c A ls hc hnm hw hl
  have hx := hc.1.1
  have hb := hc.1.2.1
  have hl : lv_has ls 1 [(0, .ref a0)] := hl
  obtain ⟨H, hH⟩ : ∃ z, z = s.heap := ⟨_, rfl⟩
  obtain ⟨locs, hLc⟩ : ∃ z : List Loc, z = [] := ⟨_, rfl⟩
  have hw : wV D A s.heap [(a0, .inr (1, [.null, .null, .int 0]))] H locs := by rw [hH, hLc]; exact hw
  have hgo : W p l e (rmA 1 2 62) s m args below meth c H locs 0 0 (MQ below (eV D cy A (fun u : Nat → Nat → Nat => (jW cy (u 0) i_X1)) (fun u : Nat → Nat → Nat => u 0 0 = a0)) args s (rmA 1 2 62).cells (rmA 1 2 62).slots A) (F0 m 0 ls []) := ?hgo
  · rw [hH, hLc] at hgo; exact hgo
  refine lv_aload_n hx hb dX1_init_0 rfl (lv_at hl 0 rfl) ?_
  refine oIn hc (gm 314 (by decide +kernel) rfl) hl.1 (Nat.le_of_ble_eq_true rfl) (Nat.le_of_ble_eq_true rfl) dX1_init_1 ?_
  refine lv_aload_n hx hb dX1_init_4 rfl (lv_at hl 0 rfl) ?_
  refine lv_bipush (v := 8) hx hb dX1_init_5 (by decide) ?_
  refine nwI (N := 8) hc hw (by decide) (by decide) (by decide) (by decide) (by decide) dX1_init_7 (fun q1 H hw => ?_)
  refine W.widen (k := 1) (n := 8) (by decide) (by decide) ?_
  replace hw : wV D A s.heap [(a0, .inr (1, [.null, .null, .int 0])), (q1, .inl (cy 0, 8, .inl (fun _ => 0)))] H locs := hw
  refine pFF (k := 0) hc hw inX1 tyX1_ok nmX1 rfl 0 rfl (by decide) (gm 315 (by decide +kernel) rfl) rfl (hnm rfl) rfl rfl rfl (Nat.le_of_ble_eq_true rfl) dX1_init_9 (fun H locs hw => ?_)
  replace hw : wV D A s.heap [(a0, .inr (1, [.ref q1, .null, .int 0])), (q1, .inl (cy 0, 8, .inl (fun _ => 0)))] H locs := hw
  refine lv_aload_n hx hb dX1_init_12 rfl (lv_at hl 0 rfl) ?_
  refine lv_bipush (v := 54) hx hb dX1_init_13 (by decide) ?_
  refine nwI (N := 54) hc hw (by decide) (by decide) (by decide) (by decide) (by decide) dX1_init_15 (fun q2 H hw => ?_)
  refine W.widen (k := 2) (n := 62) (by decide) (by decide) ?_
  replace hw : wV D A s.heap [(a0, .inr (1, [.ref q1, .null, .int 0])), (q1, .inl (cy 0, 8, .inl (fun _ => 0))), (q2, .inl (cy 0, 54, .inl (fun _ => 0)))] H locs := hw
  refine pFF (k := 1) hc hw inX1 tyX1_ok nmX1 rfl 0 rfl (by decide) (gm 316 (by decide +kernel) rfl) rfl (hnm rfl) rfl rfl rfl (Nat.le_of_ble_eq_true rfl) dX1_init_17 (fun H locs hw => ?_)
  replace hw : wV D A s.heap [(a0, .inr (1, [.ref q1, .ref q2, .int 0])), (q1, .inl (cy 0, 8, .inl (fun _ => 0))), (q2, .inl (cy 0, 54, .inl (fun _ => 0)))] H locs := hw
  refine lv_aload_n hx hb dX1_init_20 rfl (lv_at hl 0 rfl) ?_
  refine lv_iconst (v := 0) hx hb dX1_init_21 (by decide) ?_
  refine pFr (k := 2) hc hw inX1 tyX1_ok nmX1 rfl 0 rfl (by decide) (gm 317 (by decide +kernel) rfl) rfl rfl rfl (Nat.le_of_ble_eq_true rfl) dX1_init_22 (fun H locs hw => ?_)
  replace hw : wV D A s.heap [(a0, .inr (1, [.ref q1, .ref q2, .int 0])), (q1, .inl (cy 0, 8, .inl (fun _ => 0))), (q2, .inl (cy 0, 54, .inl (fun _ => 0)))] H locs := hw
  have hw : wV D A s.heap ((fun u : Nat → Nat → Nat => (jW cy (u 0) i_X1)) (fun k => [(fun i => [a0, q1, q2].getD i 0)].getD k (fun _ => 0))) H locs := hw.perm [0, 1, 2] rfl rfl
  exact retV (u := fun k => [(fun i => [a0, q1, q2].getD i 0)].getD k (fun _ => 0)) hc hw rfl dX1_init_25

set_option maxHeartbeats 4000000 in
set_option maxRecDepth 100000 in
theorem c_X0_init {l : Launch} {D : va_G} {cy : Nat → ClassId} {a0 : Nat} : CtV l yX0_init cX0_init 1 none (rmA 1 2 20) D cy [.ref a0] [(a0, .inr (0, [.null, .null, .int 0, .int 0]))] (fun u : Nat → Nat → Nat => (dW cy (u 0) i_X0)) (fun u : Nat → Nat → Nat => u 0 0 = a0) := by
  refine CtV.ofW (by decide) (Nat.le_of_ble_eq_true rfl) ?_
  intro p e s m args below meth c A ls hc hnm hw hl
  have hx := hc.1.1
  have hb := hc.1.2.1
  have hl : lv_has ls 1 [(0, .ref a0)] := hl
  obtain ⟨H, hH⟩ : ∃ z, z = s.heap := ⟨_, rfl⟩
  obtain ⟨locs, hLc⟩ : ∃ z : List Loc, z = [] := ⟨_, rfl⟩
  have hw : wV D A s.heap [(a0, .inr (0, [.null, .null, .int 0, .int 0]))] H locs := by rw [hH, hLc]; exact hw
  have hgo : W p l e (rmA 1 2 20) s m args below meth c H locs 0 0 (MQ below (eV D cy A (fun u : Nat → Nat → Nat => (dW cy (u 0) i_X0)) (fun u : Nat → Nat → Nat => u 0 0 = a0)) args s (rmA 1 2 20).cells (rmA 1 2 20).slots A) (F0 m 0 ls []) := ?hgo
  · rw [hH, hLc] at hgo; exact hgo
  refine lv_aload_n hx hb dX0_init_0 rfl (lv_at hl 0 rfl) ?_
  refine oIn hc (gm 395 (by decide +kernel) rfl) hl.1 (Nat.le_of_ble_eq_true rfl) (Nat.le_of_ble_eq_true rfl) dX0_init_1 ?_
  refine lv_aload_n hx hb dX0_init_4 rfl (lv_at hl 0 rfl) ?_
  refine lv_bipush (v := 10) hx hb dX0_init_5 (by decide) ?_
  refine nwI (N := 10) hc hw (by decide) (by decide) (by decide) (by decide) (by decide) dX0_init_7 (fun q1 H hw => ?_)
  refine W.widen (k := 1) (n := 10) (by decide) (by decide) ?_
  replace hw : wV D A s.heap [(a0, .inr (0, [.null, .null, .int 0, .int 0])), (q1, .inl (cy 0, 10, .inl (fun _ => 0)))] H locs := hw
  refine pFF (k := 0) hc hw inX0 tyX0_ok nmX0 rfl 0 rfl (by decide) (gm 396 (by decide +kernel) rfl) rfl (hnm rfl) rfl rfl rfl (Nat.le_of_ble_eq_true rfl) dX0_init_9 (fun H locs hw => ?_)
  replace hw : wV D A s.heap [(a0, .inr (0, [.ref q1, .null, .int 0, .int 0])), (q1, .inl (cy 0, 10, .inl (fun _ => 0)))] H locs := hw
  refine lv_aload_n hx hb dX0_init_12 rfl (lv_at hl 0 rfl) ?_
  refine lv_bipush (v := 10) hx hb dX0_init_13 (by decide) ?_
  refine nwI (N := 10) hc hw (by decide) (by decide) (by decide) (by decide) (by decide) dX0_init_15 (fun q2 H hw => ?_)
  refine W.widen (k := 2) (n := 20) (by decide) (by decide) ?_
  replace hw : wV D A s.heap [(a0, .inr (0, [.ref q1, .null, .int 0, .int 0])), (q1, .inl (cy 0, 10, .inl (fun _ => 0))), (q2, .inl (cy 0, 10, .inl (fun _ => 0)))] H locs := hw
  refine pFF (k := 1) hc hw inX0 tyX0_ok nmX0 rfl 0 rfl (by decide) (gm 398 (by decide +kernel) rfl) rfl (hnm rfl) rfl rfl rfl (Nat.le_of_ble_eq_true rfl) dX0_init_17 (fun H locs hw => ?_)
  replace hw : wV D A s.heap [(a0, .inr (0, [.ref q1, .ref q2, .int 0, .int 0])), (q1, .inl (cy 0, 10, .inl (fun _ => 0))), (q2, .inl (cy 0, 10, .inl (fun _ => 0)))] H locs := hw
  refine lv_aload_n hx hb dX0_init_20 rfl (lv_at hl 0 rfl) ?_
  refine lv_iconst (v := 0) hx hb dX0_init_21 (by decide) ?_
  refine pFr (k := 2) hc hw inX0 tyX0_ok nmX0 rfl 0 rfl (by decide) (gm 400 (by decide +kernel) rfl) rfl rfl rfl (Nat.le_of_ble_eq_true rfl) dX0_init_22 (fun H locs hw => ?_)
  replace hw : wV D A s.heap [(a0, .inr (0, [.ref q1, .ref q2, .int 0, .int 0])), (q1, .inl (cy 0, 10, .inl (fun _ => 0))), (q2, .inl (cy 0, 10, .inl (fun _ => 0)))] H locs := hw
  refine lv_aload_n hx hb dX0_init_25 rfl (lv_at hl 0 rfl) ?_
  refine lv_iconst (v := 0) hx hb dX0_init_26 (by decide) ?_
  refine pFr (k := 3) hc hw inX0 tyX0_ok nmX0 rfl 0 rfl (by decide) (gm 402 (by decide +kernel) rfl) rfl rfl rfl (Nat.le_of_ble_eq_true rfl) dX0_init_27 (fun H locs hw => ?_)
  replace hw : wV D A s.heap [(a0, .inr (0, [.ref q1, .ref q2, .int 0, .int 0])), (q1, .inl (cy 0, 10, .inl (fun _ => 0))), (q2, .inl (cy 0, 10, .inl (fun _ => 0)))] H locs := hw
  have hw : wV D A s.heap ((fun u : Nat → Nat → Nat => (dW cy (u 0) i_X0)) (fun k => [(fun i => [a0, q1, q2].getD i 0)].getD k (fun _ => 0))) H locs := hw.perm [0, 1, 2] rfl rfl
  exact retV (u := fun k => [(fun i => [a0, q1, q2].getD i 0)].getD k (fun _ => 0)) hc hw rfl dX0_init_30

set_option maxHeartbeats 4000000 in
set_option maxRecDepth 100000 in
theorem c_X4_init {l : Launch} {D : va_G} {cy : Nat → ClassId} {a0 : Nat} : CtV l yX4_init cX4_init 1 none (rmA 1 7 2075) D cy [.ref a0] [(a0, .inr (4, [.null, .null, .null, .int 0, .null, .null, .int 0, .null, .null, .int 0, .int 0, .int 0]))] (fun u : Nat → Nat → Nat => (rW cy (u 0) i_X4)) (fun u : Nat → Nat → Nat => u 0 0 = a0) := by
  refine CtV.ofW (by decide) (Nat.le_of_ble_eq_true rfl) ?_
  intro p e s m args below meth c A ls hc hnm hw hl
  have hx := hc.1.1
  have hb := hc.1.2.1
  have hl : lv_has ls 1 [(0, .ref a0)] := hl
  obtain ⟨H, hH⟩ : ∃ z, z = s.heap := ⟨_, rfl⟩
  obtain ⟨locs, hLc⟩ : ∃ z : List Loc, z = [] := ⟨_, rfl⟩
  have hw : wV D A s.heap [(a0, .inr (4, [.null, .null, .null, .int 0, .null, .null, .int 0, .null, .null, .int 0, .int 0, .int 0]))] H locs := by rw [hH, hLc]; exact hw
  have hgo : W p l e (rmA 1 7 2075) s m args below meth c H locs 0 0 (MQ below (eV D cy A (fun u : Nat → Nat → Nat => (rW cy (u 0) i_X4)) (fun u : Nat → Nat → Nat => u 0 0 = a0)) args s (rmA 1 7 2075).cells (rmA 1 7 2075).slots A) (F0 m 0 ls []) := ?hgo
  · rw [hH, hLc] at hgo; exact hgo
  refine lv_aload_n hx hb dX4_init_0 rfl (lv_at hl 0 rfl) ?_
  refine oIn hc (gm 263 (by decide +kernel) rfl) hl.1 (Nat.le_of_ble_eq_true rfl) (Nat.le_of_ble_eq_true rfl) dX4_init_1 ?_
  refine lv_aload_n hx hb dX4_init_4 rfl (lv_at hl 0 rfl) ?_
  refine lv_sipush (v := 401) hx hb dX4_init_5 (by decide) ?_
  refine nwI (N := 401) hc hw (by decide) (by decide) (by decide) (by decide) (by decide) dX4_init_8 (fun q1 H hw => ?_)
  refine W.widen (k := 1) (n := 401) (by decide) (by decide) ?_
  replace hw : wV D A s.heap [(a0, .inr (4, [.null, .null, .null, .int 0, .null, .null, .int 0, .null, .null, .int 0, .int 0, .int 0])), (q1, .inl (cy 0, 401, .inl (fun _ => 0)))] H locs := hw
  refine pFF (k := 0) hc hw inX4 tyX4_ok nmX4 rfl 0 rfl (by decide) (gm 264 (by decide +kernel) rfl) rfl (hnm rfl) rfl rfl rfl (Nat.le_of_ble_eq_true rfl) dX4_init_10 (fun H locs hw => ?_)
  replace hw : wV D A s.heap [(a0, .inr (4, [.ref q1, .null, .null, .int 0, .null, .null, .int 0, .null, .null, .int 0, .int 0, .int 0])), (q1, .inl (cy 0, 401, .inl (fun _ => 0)))] H locs := hw
  refine lv_aload_n hx hb dX4_init_13 rfl (lv_at hl 0 rfl) ?_
  refine lv_sipush (v := 401) hx hb dX4_init_14 (by decide) ?_
  refine nwI (N := 401) hc hw (by decide) (by decide) (by decide) (by decide) (by decide) dX4_init_17 (fun q2 H hw => ?_)
  refine W.widen (k := 2) (n := 802) (by decide) (by decide) ?_
  replace hw : wV D A s.heap [(a0, .inr (4, [.ref q1, .null, .null, .int 0, .null, .null, .int 0, .null, .null, .int 0, .int 0, .int 0])), (q1, .inl (cy 0, 401, .inl (fun _ => 0))), (q2, .inl (cy 0, 401, .inl (fun _ => 0)))] H locs := hw
  refine pFF (k := 1) hc hw inX4 tyX4_ok nmX4 rfl 0 rfl (by decide) (gm 265 (by decide +kernel) rfl) rfl (hnm rfl) rfl rfl rfl (Nat.le_of_ble_eq_true rfl) dX4_init_19 (fun H locs hw => ?_)
  replace hw : wV D A s.heap [(a0, .inr (4, [.ref q1, .ref q2, .null, .int 0, .null, .null, .int 0, .null, .null, .int 0, .int 0, .int 0])), (q1, .inl (cy 0, 401, .inl (fun _ => 0))), (q2, .inl (cy 0, 401, .inl (fun _ => 0)))] H locs := hw
  refine lv_aload_n hx hb dX4_init_22 rfl (lv_at hl 0 rfl) ?_
  refine lv_sipush (v := 401) hx hb dX4_init_23 (by decide) ?_
  refine nwI (N := 401) hc hw (by decide) (by decide) (by decide) (by decide) (by decide) dX4_init_26 (fun q3 H hw => ?_)
  refine W.widen (k := 3) (n := 1203) (by decide) (by decide) ?_
  replace hw : wV D A s.heap [(a0, .inr (4, [.ref q1, .ref q2, .null, .int 0, .null, .null, .int 0, .null, .null, .int 0, .int 0, .int 0])), (q1, .inl (cy 0, 401, .inl (fun _ => 0))), (q2, .inl (cy 0, 401, .inl (fun _ => 0))), (q3, .inl (cy 0, 401, .inl (fun _ => 0)))] H locs := hw
  refine pFF (k := 2) hc hw inX4 tyX4_ok nmX4 rfl 0 rfl (by decide) (gm 266 (by decide +kernel) rfl) rfl (hnm rfl) rfl rfl rfl (Nat.le_of_ble_eq_true rfl) dX4_init_28 (fun H locs hw => ?_)
  replace hw : wV D A s.heap [(a0, .inr (4, [.ref q1, .ref q2, .ref q3, .int 0, .null, .null, .int 0, .null, .null, .int 0, .int 0, .int 0])), (q1, .inl (cy 0, 401, .inl (fun _ => 0))), (q2, .inl (cy 0, 401, .inl (fun _ => 0))), (q3, .inl (cy 0, 401, .inl (fun _ => 0)))] H locs := hw
  refine lv_aload_n hx hb dX4_init_31 rfl (lv_at hl 0 rfl) ?_
  refine lv_iconst (v := 0) hx hb dX4_init_32 (by decide) ?_
  refine pFr (k := 3) hc hw inX4 tyX4_ok nmX4 rfl 0 rfl (by decide) (gm 267 (by decide +kernel) rfl) rfl rfl rfl (Nat.le_of_ble_eq_true rfl) dX4_init_33 (fun H locs hw => ?_)
  replace hw : wV D A s.heap [(a0, .inr (4, [.ref q1, .ref q2, .ref q3, .int 0, .null, .null, .int 0, .null, .null, .int 0, .int 0, .int 0])), (q1, .inl (cy 0, 401, .inl (fun _ => 0))), (q2, .inl (cy 0, 401, .inl (fun _ => 0))), (q3, .inl (cy 0, 401, .inl (fun _ => 0)))] H locs := hw
  refine lv_aload_n hx hb dX4_init_36 rfl (lv_at hl 0 rfl) ?_
  refine lv_bipush (v := 12) hx hb dX4_init_37 (by decide) ?_
  refine nwI (N := 12) hc hw (by decide) (by decide) (by decide) (by decide) (by decide) dX4_init_39 (fun q4 H hw => ?_)
  refine W.widen (k := 4) (n := 1215) (by decide) (by decide) ?_
  replace hw : wV D A s.heap [(a0, .inr (4, [.ref q1, .ref q2, .ref q3, .int 0, .null, .null, .int 0, .null, .null, .int 0, .int 0, .int 0])), (q1, .inl (cy 0, 401, .inl (fun _ => 0))), (q2, .inl (cy 0, 401, .inl (fun _ => 0))), (q3, .inl (cy 0, 401, .inl (fun _ => 0))), (q4, .inl (cy 0, 12, .inl (fun _ => 0)))] H locs := hw
  refine pFF (k := 4) hc hw inX4 tyX4_ok nmX4 rfl 0 rfl (by decide) (gm 268 (by decide +kernel) rfl) rfl (hnm rfl) rfl rfl rfl (Nat.le_of_ble_eq_true rfl) dX4_init_41 (fun H locs hw => ?_)
  replace hw : wV D A s.heap [(a0, .inr (4, [.ref q1, .ref q2, .ref q3, .int 0, .ref q4, .null, .int 0, .null, .null, .int 0, .int 0, .int 0])), (q1, .inl (cy 0, 401, .inl (fun _ => 0))), (q2, .inl (cy 0, 401, .inl (fun _ => 0))), (q3, .inl (cy 0, 401, .inl (fun _ => 0))), (q4, .inl (cy 0, 12, .inl (fun _ => 0)))] H locs := hw
  refine lv_aload_n hx hb dX4_init_44 rfl (lv_at hl 0 rfl) ?_
  refine lv_bipush (v := 12) hx hb dX4_init_45 (by decide) ?_
  refine nwI (N := 12) hc hw (by decide) (by decide) (by decide) (by decide) (by decide) dX4_init_47 (fun q5 H hw => ?_)
  refine W.widen (k := 5) (n := 1227) (by decide) (by decide) ?_
  replace hw : wV D A s.heap [(a0, .inr (4, [.ref q1, .ref q2, .ref q3, .int 0, .ref q4, .null, .int 0, .null, .null, .int 0, .int 0, .int 0])), (q1, .inl (cy 0, 401, .inl (fun _ => 0))), (q2, .inl (cy 0, 401, .inl (fun _ => 0))), (q3, .inl (cy 0, 401, .inl (fun _ => 0))), (q4, .inl (cy 0, 12, .inl (fun _ => 0))), (q5, .inl (cy 0, 12, .inl (fun _ => 0)))] H locs := hw
  refine pFF (k := 5) hc hw inX4 tyX4_ok nmX4 rfl 0 rfl (by decide) (gm 269 (by decide +kernel) rfl) rfl (hnm rfl) rfl rfl rfl (Nat.le_of_ble_eq_true rfl) dX4_init_49 (fun H locs hw => ?_)
  replace hw : wV D A s.heap [(a0, .inr (4, [.ref q1, .ref q2, .ref q3, .int 0, .ref q4, .ref q5, .int 0, .null, .null, .int 0, .int 0, .int 0])), (q1, .inl (cy 0, 401, .inl (fun _ => 0))), (q2, .inl (cy 0, 401, .inl (fun _ => 0))), (q3, .inl (cy 0, 401, .inl (fun _ => 0))), (q4, .inl (cy 0, 12, .inl (fun _ => 0))), (q5, .inl (cy 0, 12, .inl (fun _ => 0)))] H locs := hw
  refine lv_aload_n hx hb dX4_init_52 rfl (lv_at hl 0 rfl) ?_
  refine lv_iconst (v := 0) hx hb dX4_init_53 (by decide) ?_
  refine pFr (k := 6) hc hw inX4 tyX4_ok nmX4 rfl 0 rfl (by decide) (gm 270 (by decide +kernel) rfl) rfl rfl rfl (Nat.le_of_ble_eq_true rfl) dX4_init_54 (fun H locs hw => ?_)
  replace hw : wV D A s.heap [(a0, .inr (4, [.ref q1, .ref q2, .ref q3, .int 0, .ref q4, .ref q5, .int 0, .null, .null, .int 0, .int 0, .int 0])), (q1, .inl (cy 0, 401, .inl (fun _ => 0))), (q2, .inl (cy 0, 401, .inl (fun _ => 0))), (q3, .inl (cy 0, 401, .inl (fun _ => 0))), (q4, .inl (cy 0, 12, .inl (fun _ => 0))), (q5, .inl (cy 0, 12, .inl (fun _ => 0)))] H locs := hw
  refine lv_aload_n hx hb dX4_init_57 rfl (lv_at hl 0 rfl) ?_
  refine lv_sipush (v := 424) hx hb dX4_init_58 (by decide) ?_
  refine nwI (N := 424) hc hw (by decide) (by decide) (by decide) (by decide) (by decide) dX4_init_61 (fun q6 H hw => ?_)
  refine W.widen (k := 6) (n := 1651) (by decide) (by decide) ?_
  replace hw : wV D A s.heap [(a0, .inr (4, [.ref q1, .ref q2, .ref q3, .int 0, .ref q4, .ref q5, .int 0, .null, .null, .int 0, .int 0, .int 0])), (q1, .inl (cy 0, 401, .inl (fun _ => 0))), (q2, .inl (cy 0, 401, .inl (fun _ => 0))), (q3, .inl (cy 0, 401, .inl (fun _ => 0))), (q4, .inl (cy 0, 12, .inl (fun _ => 0))), (q5, .inl (cy 0, 12, .inl (fun _ => 0))), (q6, .inl (cy 0, 424, .inl (fun _ => 0)))] H locs := hw
  refine pFF (k := 7) hc hw inX4 tyX4_ok nmX4 rfl 0 rfl (by decide) (gm 271 (by decide +kernel) rfl) rfl (hnm rfl) rfl rfl rfl (Nat.le_of_ble_eq_true rfl) dX4_init_63 (fun H locs hw => ?_)
  replace hw : wV D A s.heap [(a0, .inr (4, [.ref q1, .ref q2, .ref q3, .int 0, .ref q4, .ref q5, .int 0, .ref q6, .null, .int 0, .int 0, .int 0])), (q1, .inl (cy 0, 401, .inl (fun _ => 0))), (q2, .inl (cy 0, 401, .inl (fun _ => 0))), (q3, .inl (cy 0, 401, .inl (fun _ => 0))), (q4, .inl (cy 0, 12, .inl (fun _ => 0))), (q5, .inl (cy 0, 12, .inl (fun _ => 0))), (q6, .inl (cy 0, 424, .inl (fun _ => 0)))] H locs := hw
  refine lv_aload_n hx hb dX4_init_66 rfl (lv_at hl 0 rfl) ?_
  refine lv_sipush (v := 424) hx hb dX4_init_67 (by decide) ?_
  refine nwI (N := 424) hc hw (by decide) (by decide) (by decide) (by decide) (by decide) dX4_init_70 (fun q7 H hw => ?_)
  refine W.widen (k := 7) (n := 2075) (by decide) (by decide) ?_
  replace hw : wV D A s.heap [(a0, .inr (4, [.ref q1, .ref q2, .ref q3, .int 0, .ref q4, .ref q5, .int 0, .ref q6, .null, .int 0, .int 0, .int 0])), (q1, .inl (cy 0, 401, .inl (fun _ => 0))), (q2, .inl (cy 0, 401, .inl (fun _ => 0))), (q3, .inl (cy 0, 401, .inl (fun _ => 0))), (q4, .inl (cy 0, 12, .inl (fun _ => 0))), (q5, .inl (cy 0, 12, .inl (fun _ => 0))), (q6, .inl (cy 0, 424, .inl (fun _ => 0))), (q7, .inl (cy 0, 424, .inl (fun _ => 0)))] H locs := hw
  refine pFF (k := 8) hc hw inX4 tyX4_ok nmX4 rfl 0 rfl (by decide) (gm 272 (by decide +kernel) rfl) rfl (hnm rfl) rfl rfl rfl (Nat.le_of_ble_eq_true rfl) dX4_init_72 (fun H locs hw => ?_)
  replace hw : wV D A s.heap [(a0, .inr (4, [.ref q1, .ref q2, .ref q3, .int 0, .ref q4, .ref q5, .int 0, .ref q6, .ref q7, .int 0, .int 0, .int 0])), (q1, .inl (cy 0, 401, .inl (fun _ => 0))), (q2, .inl (cy 0, 401, .inl (fun _ => 0))), (q3, .inl (cy 0, 401, .inl (fun _ => 0))), (q4, .inl (cy 0, 12, .inl (fun _ => 0))), (q5, .inl (cy 0, 12, .inl (fun _ => 0))), (q6, .inl (cy 0, 424, .inl (fun _ => 0))), (q7, .inl (cy 0, 424, .inl (fun _ => 0)))] H locs := hw
  refine lv_aload_n hx hb dX4_init_75 rfl (lv_at hl 0 rfl) ?_
  refine lv_iconst (v := 0) hx hb dX4_init_76 (by decide) ?_
  refine pFr (k := 9) hc hw inX4 tyX4_ok nmX4 rfl 0 rfl (by decide) (gm 273 (by decide +kernel) rfl) rfl rfl rfl (Nat.le_of_ble_eq_true rfl) dX4_init_77 (fun H locs hw => ?_)
  replace hw : wV D A s.heap [(a0, .inr (4, [.ref q1, .ref q2, .ref q3, .int 0, .ref q4, .ref q5, .int 0, .ref q6, .ref q7, .int 0, .int 0, .int 0])), (q1, .inl (cy 0, 401, .inl (fun _ => 0))), (q2, .inl (cy 0, 401, .inl (fun _ => 0))), (q3, .inl (cy 0, 401, .inl (fun _ => 0))), (q4, .inl (cy 0, 12, .inl (fun _ => 0))), (q5, .inl (cy 0, 12, .inl (fun _ => 0))), (q6, .inl (cy 0, 424, .inl (fun _ => 0))), (q7, .inl (cy 0, 424, .inl (fun _ => 0)))] H locs := hw
  refine lv_aload_n hx hb dX4_init_80 rfl (lv_at hl 0 rfl) ?_
  refine lv_iconst (v := 0) hx hb dX4_init_81 (by decide) ?_
  refine pFr (k := 10) hc hw inX4 tyX4_ok nmX4 rfl 0 rfl (by decide) (gm 274 (by decide +kernel) rfl) rfl rfl rfl (Nat.le_of_ble_eq_true rfl) dX4_init_82 (fun H locs hw => ?_)
  replace hw : wV D A s.heap [(a0, .inr (4, [.ref q1, .ref q2, .ref q3, .int 0, .ref q4, .ref q5, .int 0, .ref q6, .ref q7, .int 0, .int 0, .int 0])), (q1, .inl (cy 0, 401, .inl (fun _ => 0))), (q2, .inl (cy 0, 401, .inl (fun _ => 0))), (q3, .inl (cy 0, 401, .inl (fun _ => 0))), (q4, .inl (cy 0, 12, .inl (fun _ => 0))), (q5, .inl (cy 0, 12, .inl (fun _ => 0))), (q6, .inl (cy 0, 424, .inl (fun _ => 0))), (q7, .inl (cy 0, 424, .inl (fun _ => 0)))] H locs := hw
  refine lv_aload_n hx hb dX4_init_85 rfl (lv_at hl 0 rfl) ?_
  refine lv_iconst (v := (-1)) hx hb dX4_init_86 (by decide) ?_
  refine pFr (k := 11) hc hw inX4 tyX4_ok nmX4 rfl 0 rfl (by decide) (gm 275 (by decide +kernel) rfl) rfl rfl rfl (Nat.le_of_ble_eq_true rfl) dX4_init_87 (fun H locs hw => ?_)
  replace hw : wV D A s.heap [(a0, .inr (4, [.ref q1, .ref q2, .ref q3, .int 0, .ref q4, .ref q5, .int 0, .ref q6, .ref q7, .int 0, .int 0, .int (-1)])), (q1, .inl (cy 0, 401, .inl (fun _ => 0))), (q2, .inl (cy 0, 401, .inl (fun _ => 0))), (q3, .inl (cy 0, 401, .inl (fun _ => 0))), (q4, .inl (cy 0, 12, .inl (fun _ => 0))), (q5, .inl (cy 0, 12, .inl (fun _ => 0))), (q6, .inl (cy 0, 424, .inl (fun _ => 0))), (q7, .inl (cy 0, 424, .inl (fun _ => 0)))] H locs := hw
  have hw : wV D A s.heap ((fun u : Nat → Nat → Nat => (rW cy (u 0) i_X4)) (fun k => [(fun i => [a0, q1, q2, q3, q4, q5, q6, q7].getD i 0)].getD k (fun _ => 0))) H locs := hw.perm [0, 1, 2, 3, 4, 5, 6, 7] rfl rfl
  exact retV (u := fun k => [(fun i => [a0, q1, q2, q3, q4, q5, q6, q7].getD i 0)].getD k (fun _ => 0)) hc hw rfl dX4_init_90

set_option maxHeartbeats 4000000 in
set_option maxRecDepth 100000 in
theorem c_X6_init {l : Launch} {D : va_G} {cy : Nat → ClassId} {a0 : Nat} : CtV l yX6_init cX6_init 1 none (rmA 2 18 151) D cy [.ref a0] [(a0, .inr (6, [.null, .null, .null, .null, .int 0, .null, .null, .int 0, .int 0, .null, .null, .null]))] (fun u : Nat → Nat → Nat => ((bW cy (u 0) ((u 1) 0) ((u 2) 0) ((u 3) 0) ((u 4) 0) i_X6) ++ ((lsW cy (u 1) (fun _ => none)) ++ ((tW cy (u 2) i_X7) ++ ((tW cy (u 3) i_X7) ++ (tW cy (u 4) i_X7)))))) (fun u : Nat → Nat → Nat => u 0 0 = a0) := by
  refine CtV.ofW (by decide) (Nat.le_of_ble_eq_true rfl) ?_
  intro p e s m args below meth c A ls hc hnm hw hl
  have hx := hc.1.1
  have hb := hc.1.2.1
  have hl : lv_has ls 1 [(0, .ref a0)] := hl
  obtain ⟨H, hH⟩ : ∃ z, z = s.heap := ⟨_, rfl⟩
  obtain ⟨locs, hLc⟩ : ∃ z : List Loc, z = [] := ⟨_, rfl⟩
  have hw : wV D A s.heap [(a0, .inr (6, [.null, .null, .null, .null, .int 0, .null, .null, .int 0, .int 0, .null, .null, .null]))] H locs := by rw [hH, hLc]; exact hw
  have hgo : W p l e (rmA 2 18 151) s m args below meth c H locs 0 0 (MQ below (eV D cy A (fun u : Nat → Nat → Nat => ((bW cy (u 0) ((u 1) 0) ((u 2) 0) ((u 3) 0) ((u 4) 0) i_X6) ++ ((lsW cy (u 1) (fun _ => none)) ++ ((tW cy (u 2) i_X7) ++ ((tW cy (u 3) i_X7) ++ (tW cy (u 4) i_X7)))))) (fun u : Nat → Nat → Nat => u 0 0 = a0)) args s (rmA 2 18 151).cells (rmA 2 18 151).slots A) (F0 m 0 ls []) := ?hgo
  · rw [hH, hLc] at hgo; exact hgo
  refine lv_aload_n hx hb dX6_init_0 rfl (lv_at hl 0 rfl) ?_
  refine oIn hc (gm 158 (by decide +kernel) rfl) hl.1 (Nat.le_of_ble_eq_true rfl) (Nat.le_of_ble_eq_true rfl) dX6_init_1 ?_
  refine lv_aload_n hx hb dX6_init_4 rfl (lv_at hl 0 rfl) ?_
  refine lv_bipush (v := 10) hx hb dX6_init_5 (by decide) ?_
  refine nwI (N := 10) hc hw (by decide) (by decide) (by decide) (by decide) (by decide) dX6_init_7 (fun q1 H hw => ?_)
  refine W.widen (k := 1) (n := 10) (by decide) (by decide) ?_
  replace hw : wV D A s.heap [(a0, .inr (6, [.null, .null, .null, .null, .int 0, .null, .null, .int 0, .int 0, .null, .null, .null])), (q1, .inl (cy 0, 10, .inl (fun _ => 0)))] H locs := hw
  refine pFF (k := 0) hc hw inX6 tyX6_ok nmX6 rfl 0 rfl (by decide) (gm 194 (by decide +kernel) rfl) rfl (hnm rfl) rfl rfl rfl (Nat.le_of_ble_eq_true rfl) dX6_init_9 (fun H locs hw => ?_)
  replace hw : wV D A s.heap [(a0, .inr (6, [.ref q1, .null, .null, .null, .int 0, .null, .null, .int 0, .int 0, .null, .null, .null])), (q1, .inl (cy 0, 10, .inl (fun _ => 0)))] H locs := hw
  refine lv_aload_n hx hb dX6_init_12 rfl (lv_at hl 0 rfl) ?_
  refine lv_bipush (v := 10) hx hb dX6_init_13 (by decide) ?_
  refine nwI (N := 10) hc hw (by decide) (by decide) (by decide) (by decide) (by decide) dX6_init_15 (fun q2 H hw => ?_)
  refine W.widen (k := 2) (n := 20) (by decide) (by decide) ?_
  replace hw : wV D A s.heap [(a0, .inr (6, [.ref q1, .null, .null, .null, .int 0, .null, .null, .int 0, .int 0, .null, .null, .null])), (q1, .inl (cy 0, 10, .inl (fun _ => 0))), (q2, .inl (cy 0, 10, .inl (fun _ => 0)))] H locs := hw
  refine pFF (k := 1) hc hw inX6 tyX6_ok nmX6 rfl 0 rfl (by decide) (gm 199 (by decide +kernel) rfl) rfl (hnm rfl) rfl rfl rfl (Nat.le_of_ble_eq_true rfl) dX6_init_17 (fun H locs hw => ?_)
  replace hw : wV D A s.heap [(a0, .inr (6, [.ref q1, .ref q2, .null, .null, .int 0, .null, .null, .int 0, .int 0, .null, .null, .null])), (q1, .inl (cy 0, 10, .inl (fun _ => 0))), (q2, .inl (cy 0, 10, .inl (fun _ => 0)))] H locs := hw
  refine lv_aload_n hx hb dX6_init_20 rfl (lv_at hl 0 rfl) ?_
  refine lv_bipush (v := 10) hx hb dX6_init_21 (by decide) ?_
  refine nwI (N := 10) hc hw (by decide) (by decide) (by decide) (by decide) (by decide) dX6_init_23 (fun q3 H hw => ?_)
  refine W.widen (k := 3) (n := 30) (by decide) (by decide) ?_
  replace hw : wV D A s.heap [(a0, .inr (6, [.ref q1, .ref q2, .null, .null, .int 0, .null, .null, .int 0, .int 0, .null, .null, .null])), (q1, .inl (cy 0, 10, .inl (fun _ => 0))), (q2, .inl (cy 0, 10, .inl (fun _ => 0))), (q3, .inl (cy 0, 10, .inl (fun _ => 0)))] H locs := hw
  refine pFF (k := 2) hc hw inX6 tyX6_ok nmX6 rfl 0 rfl (by decide) (gm 204 (by decide +kernel) rfl) rfl (hnm rfl) rfl rfl rfl (Nat.le_of_ble_eq_true rfl) dX6_init_25 (fun H locs hw => ?_)
  replace hw : wV D A s.heap [(a0, .inr (6, [.ref q1, .ref q2, .ref q3, .null, .int 0, .null, .null, .int 0, .int 0, .null, .null, .null])), (q1, .inl (cy 0, 10, .inl (fun _ => 0))), (q2, .inl (cy 0, 10, .inl (fun _ => 0))), (q3, .inl (cy 0, 10, .inl (fun _ => 0)))] H locs := hw
  refine lv_aload_n hx hb dX6_init_28 rfl (lv_at hl 0 rfl) ?_
  refine lv_bipush (v := 10) hx hb dX6_init_29 (by decide) ?_
  refine nwI (N := 10) hc hw (by decide) (by decide) (by decide) (by decide) (by decide) dX6_init_31 (fun q4 H hw => ?_)
  refine W.widen (k := 4) (n := 40) (by decide) (by decide) ?_
  replace hw : wV D A s.heap [(a0, .inr (6, [.ref q1, .ref q2, .ref q3, .null, .int 0, .null, .null, .int 0, .int 0, .null, .null, .null])), (q1, .inl (cy 0, 10, .inl (fun _ => 0))), (q2, .inl (cy 0, 10, .inl (fun _ => 0))), (q3, .inl (cy 0, 10, .inl (fun _ => 0))), (q4, .inl (cy 0, 10, .inl (fun _ => 0)))] H locs := hw
  refine pFF (k := 3) hc hw inX6 tyX6_ok nmX6 rfl 0 rfl (by decide) (gm 207 (by decide +kernel) rfl) rfl (hnm rfl) rfl rfl rfl (Nat.le_of_ble_eq_true rfl) dX6_init_33 (fun H locs hw => ?_)
  replace hw : wV D A s.heap [(a0, .inr (6, [.ref q1, .ref q2, .ref q3, .ref q4, .int 0, .null, .null, .int 0, .int 0, .null, .null, .null])), (q1, .inl (cy 0, 10, .inl (fun _ => 0))), (q2, .inl (cy 0, 10, .inl (fun _ => 0))), (q3, .inl (cy 0, 10, .inl (fun _ => 0))), (q4, .inl (cy 0, 10, .inl (fun _ => 0)))] H locs := hw
  refine lv_aload_n hx hb dX6_init_36 rfl (lv_at hl 0 rfl) ?_
  refine lv_iconst (v := 0) hx hb dX6_init_37 (by decide) ?_
  refine pFr (k := 4) hc hw inX6 tyX6_ok nmX6 rfl 0 rfl (by decide) (gm 211 (by decide +kernel) rfl) rfl rfl rfl (Nat.le_of_ble_eq_true rfl) dX6_init_38 (fun H locs hw => ?_)
  replace hw : wV D A s.heap [(a0, .inr (6, [.ref q1, .ref q2, .ref q3, .ref q4, .int 0, .null, .null, .int 0, .int 0, .null, .null, .null])), (q1, .inl (cy 0, 10, .inl (fun _ => 0))), (q2, .inl (cy 0, 10, .inl (fun _ => 0))), (q3, .inl (cy 0, 10, .inl (fun _ => 0))), (q4, .inl (cy 0, 10, .inl (fun _ => 0)))] H locs := hw
  refine lv_aload_n hx hb dX6_init_41 rfl (lv_at hl 0 rfl) ?_
  refine lv_iconst (v := 3) hx hb dX6_init_42 (by decide) ?_
  refine nwI (N := 3) hc hw (by decide) (by decide) (by decide) (by decide) (by decide) dX6_init_43 (fun q5 H hw => ?_)
  refine W.widen (k := 5) (n := 43) (by decide) (by decide) ?_
  replace hw : wV D A s.heap [(a0, .inr (6, [.ref q1, .ref q2, .ref q3, .ref q4, .int 0, .null, .null, .int 0, .int 0, .null, .null, .null])), (q1, .inl (cy 0, 10, .inl (fun _ => 0))), (q2, .inl (cy 0, 10, .inl (fun _ => 0))), (q3, .inl (cy 0, 10, .inl (fun _ => 0))), (q4, .inl (cy 0, 10, .inl (fun _ => 0))), (q5, .inl (cy 0, 3, .inl (fun _ => 0)))] H locs := hw
  refine lv_dup hx hb dX6_init_45 rfl ?_
  refine lv_iconst (v := 0) hx hb dX6_init_46 (by decide) ?_
  refine lv_iconst (v := 2) hx hb dX6_init_47 (by decide) ?_
  refine sI hc hw 5 rfl (vin (by decide)) (j := 0) (by decide) dX6_init_48 (fun H locs hw => ?_)
  obtain ⟨f6, e_f6⟩ : ∃ z : Nat → Int32, z = upd (fun _ => 0) 0 2 := ⟨_, rfl⟩
  replace hw : wV D A s.heap [(a0, .inr (6, [.ref q1, .ref q2, .ref q3, .ref q4, .int 0, .null, .null, .int 0, .int 0, .null, .null, .null])), (q1, .inl (cy 0, 10, .inl (fun _ => 0))), (q2, .inl (cy 0, 10, .inl (fun _ => 0))), (q3, .inl (cy 0, 10, .inl (fun _ => 0))), (q4, .inl (cy 0, 10, .inl (fun _ => 0))), (q5, .inl (cy 0, 3, .inl f6))] H locs := by rw [e_f6]; exact hw
  refine lv_dup hx hb dX6_init_49 rfl ?_
  refine lv_iconst (v := 1) hx hb dX6_init_50 (by decide) ?_
  refine lv_iconst (v := 1) hx hb dX6_init_51 (by decide) ?_
  refine sI hc hw 5 rfl (vin (by decide)) (j := 1) (by decide) dX6_init_52 (fun H locs hw => ?_)
  obtain ⟨f7, e_f7⟩ : ∃ z : Nat → Int32, z = upd f6 1 1 := ⟨_, rfl⟩
  replace hw : wV D A s.heap [(a0, .inr (6, [.ref q1, .ref q2, .ref q3, .ref q4, .int 0, .null, .null, .int 0, .int 0, .null, .null, .null])), (q1, .inl (cy 0, 10, .inl (fun _ => 0))), (q2, .inl (cy 0, 10, .inl (fun _ => 0))), (q3, .inl (cy 0, 10, .inl (fun _ => 0))), (q4, .inl (cy 0, 10, .inl (fun _ => 0))), (q5, .inl (cy 0, 3, .inl f7))] H locs := by rw [e_f7]; exact hw
  refine lv_dup hx hb dX6_init_53 rfl ?_
  refine lv_iconst (v := 2) hx hb dX6_init_54 (by decide) ?_
  refine lv_iconst (v := 0) hx hb dX6_init_55 (by decide) ?_
  refine sI hc hw 5 rfl (vin (by decide)) (j := 2) (by decide) dX6_init_56 (fun H locs hw => ?_)
  obtain ⟨f8, e_f8⟩ : ∃ z : Nat → Int32, z = upd f7 2 0 := ⟨_, rfl⟩
  replace hw : wV D A s.heap [(a0, .inr (6, [.ref q1, .ref q2, .ref q3, .ref q4, .int 0, .null, .null, .int 0, .int 0, .null, .null, .null])), (q1, .inl (cy 0, 10, .inl (fun _ => 0))), (q2, .inl (cy 0, 10, .inl (fun _ => 0))), (q3, .inl (cy 0, 10, .inl (fun _ => 0))), (q4, .inl (cy 0, 10, .inl (fun _ => 0))), (q5, .inl (cy 0, 3, .inl f8))] H locs := by rw [e_f8]; exact hw
  refine pFF (k := 5) hc hw inX6 tyX6_ok nmX6 rfl 0 rfl (by decide) (gm 215 (by decide +kernel) rfl) rfl (hnm rfl) rfl rfl rfl (Nat.le_of_ble_eq_true rfl) dX6_init_57 (fun H locs hw => ?_)
  replace hw : wV D A s.heap [(a0, .inr (6, [.ref q1, .ref q2, .ref q3, .ref q4, .int 0, .ref q5, .null, .int 0, .int 0, .null, .null, .null])), (q1, .inl (cy 0, 10, .inl (fun _ => 0))), (q2, .inl (cy 0, 10, .inl (fun _ => 0))), (q3, .inl (cy 0, 10, .inl (fun _ => 0))), (q4, .inl (cy 0, 10, .inl (fun _ => 0))), (q5, .inl (cy 0, 3, .inl f8))] H locs := hw
  refine lv_aload_n hx hb dX6_init_60 rfl (lv_at hl 0 rfl) ?_
  refine lv_bipush (v := 6) hx hb dX6_init_61 (by decide) ?_
  refine nwQ (N := 6) 3 hc hw rfl hc.2.2.2.2.2.1.2.1 (gm 159 (by decide +kernel) rfl) (by decide) (by decide) (by decide) (by decide) (by decide) dX6_init_63 (fun q9 H hw => ?_)
  refine W.widen (k := 6) (n := 49) (by decide) (by decide) ?_
  replace hw : wV D A s.heap [(a0, .inr (6, [.ref q1, .ref q2, .ref q3, .ref q4, .int 0, .ref q5, .null, .int 0, .int 0, .null, .null, .null])), (q1, .inl (cy 0, 10, .inl (fun _ => 0))), (q2, .inl (cy 0, 10, .inl (fun _ => 0))), (q3, .inl (cy 0, 10, .inl (fun _ => 0))), (q4, .inl (cy 0, 10, .inl (fun _ => 0))), (q5, .inl (cy 0, 3, .inl f8)), (q9, .inl (cy 3, 6, .inr (.inr (.inr (.inr (fun _ => none))))))] H locs := hw
  refine pFF (k := 6) hc hw inX6 tyX6_ok nmX6 rfl 0 rfl (by decide) (gm 219 (by decide +kernel) rfl) rfl (hnm rfl) rfl rfl rfl (Nat.le_of_ble_eq_true rfl) dX6_init_66 (fun H locs hw => ?_)
  replace hw : wV D A s.heap [(a0, .inr (6, [.ref q1, .ref q2, .ref q3, .ref q4, .int 0, .ref q5, .ref q9, .int 0, .int 0, .null, .null, .null])), (q1, .inl (cy 0, 10, .inl (fun _ => 0))), (q2, .inl (cy 0, 10, .inl (fun _ => 0))), (q3, .inl (cy 0, 10, .inl (fun _ => 0))), (q4, .inl (cy 0, 10, .inl (fun _ => 0))), (q5, .inl (cy 0, 3, .inl f8)), (q9, .inl (cy 3, 6, .inr (.inr (.inr (.inr (fun _ => none))))))] H locs := hw
  refine lv_aload_n hx hb dX6_init_69 rfl (lv_at hl 0 rfl) ?_
  refine lv_iconst (v := 0) hx hb dX6_init_70 (by decide) ?_
  refine pFr (k := 7) hc hw inX6 tyX6_ok nmX6 rfl 0 rfl (by decide) (gm 221 (by decide +kernel) rfl) rfl rfl rfl (Nat.le_of_ble_eq_true rfl) dX6_init_71 (fun H locs hw => ?_)
  replace hw : wV D A s.heap [(a0, .inr (6, [.ref q1, .ref q2, .ref q3, .ref q4, .int 0, .ref q5, .ref q9, .int 0, .int 0, .null, .null, .null])), (q1, .inl (cy 0, 10, .inl (fun _ => 0))), (q2, .inl (cy 0, 10, .inl (fun _ => 0))), (q3, .inl (cy 0, 10, .inl (fun _ => 0))), (q4, .inl (cy 0, 10, .inl (fun _ => 0))), (q5, .inl (cy 0, 3, .inl f8)), (q9, .inl (cy 3, 6, .inr (.inr (.inr (.inr (fun _ => none))))))] H locs := hw
  refine lv_aload_n hx hb dX6_init_74 rfl (lv_at hl 0 rfl) ?_
  refine lv_iconst (v := (-1)) hx hb dX6_init_75 (by decide) ?_
  refine pFr (k := 8) hc hw inX6 tyX6_ok nmX6 rfl 0 rfl (by decide) (gm 223 (by decide +kernel) rfl) rfl rfl rfl (Nat.le_of_ble_eq_true rfl) dX6_init_76 (fun H locs hw => ?_)
  replace hw : wV D A s.heap [(a0, .inr (6, [.ref q1, .ref q2, .ref q3, .ref q4, .int 0, .ref q5, .ref q9, .int 0, .int (-1), .null, .null, .null])), (q1, .inl (cy 0, 10, .inl (fun _ => 0))), (q2, .inl (cy 0, 10, .inl (fun _ => 0))), (q3, .inl (cy 0, 10, .inl (fun _ => 0))), (q4, .inl (cy 0, 10, .inl (fun _ => 0))), (q5, .inl (cy 0, 3, .inl f8)), (q9, .inl (cy 3, 6, .inr (.inr (.inr (.inr (fun _ => none))))))] H locs := hw
  refine lv_aload_n hx hb dX6_init_79 rfl (lv_at hl 0 rfl) ?_
  refine nwO (ci := 7) (fs := [.null, .null, .null, .int 0]) hc hw inX7 tyX7_ok rfl (gm 161 (by decide +kernel) rfl) (gm 162 (by decide +kernel) rfl) (gm 129 (by decide +kernel) rfl) (fun j hj => by rcases (show j = 0 ∨ j = 1 ∨ j = 2 ∨ j = 3 by omega) with rfl | rfl | rfl | rfl <;> rfl) (by decide) (by decide) dX6_init_80 (fun q10 H hw => ?_)
  refine W.widen (k := 7) (n := 53) (by decide) (by decide) ?_
  replace hw : wV D A s.heap [(a0, .inr (6, [.ref q1, .ref q2, .ref q3, .ref q4, .int 0, .ref q5, .ref q9, .int 0, .int (-1), .null, .null, .null])), (q1, .inl (cy 0, 10, .inl (fun _ => 0))), (q2, .inl (cy 0, 10, .inl (fun _ => 0))), (q3, .inl (cy 0, 10, .inl (fun _ => 0))), (q4, .inl (cy 0, 10, .inl (fun _ => 0))), (q5, .inl (cy 0, 3, .inl f8)), (q9, .inl (cy 3, 6, .inr (.inr (.inr (.inr (fun _ => none)))))), (q10, .inr (7, [.null, .null, .null, .int 0]))] H locs := hw
  refine lv_dup hx hb dX6_init_83 rfl ?_
  refine kIN_V (As := []) (rest := [.ref q10, .ref a0]) (wc := [(q10, .inr (7, [.null, .null, .null, .int 0]))]) (wr := [(a0, .inr (6, [.ref q1, .ref q2, .ref q3, .ref q4, .int 0, .ref q5, .ref q9, .int 0, .int (-1), .null, .null, .null])), (q1, .inl (cy 0, 10, .inl (fun _ => 0))), (q2, .inl (cy 0, 10, .inl (fun _ => 0))), (q3, .inl (cy 0, 10, .inl (fun _ => 0))), (q4, .inl (cy 0, 10, .inl (fun _ => 0))), (q5, .inl (cy 0, 3, .inl f8)), (q9, .inl (cy 3, 6, .inr (.inr (.inr (.inr (fun _ => none))))))]) (isC := [7]) (isR := [0, 1, 2, 3, 4, 5, 6]) hc hw (c_X7_init) lk_X6_45 ⟨rfl, rfl, rfl, rfl, by decide⟩ ⟨by decide, by decide⟩ ⟨by decide, by decide⟩ hl.1 rfl (Nat.le_of_ble_eq_true rfl) rfl dX6_init_84 (fun u11 H locs hq hw2 => ?_)
  have hq : u11 0 0 = q10 := hq
  clear hw
  subst hq
  refine W.widen (k := 10) (n := 83) (by decide) (by decide) ?_
  have hw : wV D A s.heap ([(a0, .inr (6, [.ref q1, .ref q2, .ref q3, .ref q4, .int 0, .ref q5, .ref q9, .int 0, .int (-1), .null, .null, .null])), (q1, .inl (cy 0, 10, .inl (fun _ => 0))), (q2, .inl (cy 0, 10, .inl (fun _ => 0))), (q3, .inl (cy 0, 10, .inl (fun _ => 0))), (q4, .inl (cy 0, 10, .inl (fun _ => 0))), (q5, .inl (cy 0, 3, .inl f8)), (q9, .inl (cy 3, 6, .inr (.inr (.inr (.inr (fun _ => none))))))] ++ (tW cy (u11 0) i_X7)) H locs := hw2
  refine pFF (k := 9) hc hw inX6 tyX6_ok nmX6 rfl 0 rfl (by decide) (gm 225 (by decide +kernel) rfl) rfl (hnm rfl) rfl rfl rfl (Nat.le_of_ble_eq_true rfl) dX6_init_87 (fun H locs hw => ?_)
  replace hw : wV D A s.heap ([(a0, .inr (6, [.ref q1, .ref q2, .ref q3, .ref q4, .int 0, .ref q5, .ref q9, .int 0, .int (-1), .ref (u11 0 0), .null, .null])), (q1, .inl (cy 0, 10, .inl (fun _ => 0))), (q2, .inl (cy 0, 10, .inl (fun _ => 0))), (q3, .inl (cy 0, 10, .inl (fun _ => 0))), (q4, .inl (cy 0, 10, .inl (fun _ => 0))), (q5, .inl (cy 0, 3, .inl f8)), (q9, .inl (cy 3, 6, .inr (.inr (.inr (.inr (fun _ => none))))))] ++ (tW cy (u11 0) i_X7)) H locs := hw
  refine lv_aload_n hx hb dX6_init_90 rfl (lv_at hl 0 rfl) ?_
  refine nwO (ci := 7) (fs := [.null, .null, .null, .int 0]) hc hw inX7 tyX7_ok rfl (gm 161 (by decide +kernel) rfl) (gm 162 (by decide +kernel) rfl) (gm 129 (by decide +kernel) rfl) (fun j hj => by rcases (show j = 0 ∨ j = 1 ∨ j = 2 ∨ j = 3 by omega) with rfl | rfl | rfl | rfl <;> rfl) (by decide) (by decide) dX6_init_91 (fun q12 H hw => ?_)
  refine W.widen (k := 11) (n := 87) (by decide) (by decide) ?_
  replace hw : wV D A s.heap ([(a0, .inr (6, [.ref q1, .ref q2, .ref q3, .ref q4, .int 0, .ref q5, .ref q9, .int 0, .int (-1), .ref (u11 0 0), .null, .null])), (q1, .inl (cy 0, 10, .inl (fun _ => 0))), (q2, .inl (cy 0, 10, .inl (fun _ => 0))), (q3, .inl (cy 0, 10, .inl (fun _ => 0))), (q4, .inl (cy 0, 10, .inl (fun _ => 0))), (q5, .inl (cy 0, 3, .inl f8)), (q9, .inl (cy 3, 6, .inr (.inr (.inr (.inr (fun _ => none))))))] ++ ((tW cy (u11 0) i_X7) ++ [(q12, .inr (7, [.null, .null, .null, .int 0]))])) H locs := hw
  refine lv_dup hx hb dX6_init_94 rfl ?_
  refine kIN_V (As := []) (rest := [.ref q12, .ref a0]) (wc := [(q12, .inr (7, [.null, .null, .null, .int 0]))]) (wr := ([(a0, .inr (6, [.ref q1, .ref q2, .ref q3, .ref q4, .int 0, .ref q5, .ref q9, .int 0, .int (-1), .ref (u11 0 0), .null, .null])), (q1, .inl (cy 0, 10, .inl (fun _ => 0))), (q2, .inl (cy 0, 10, .inl (fun _ => 0))), (q3, .inl (cy 0, 10, .inl (fun _ => 0))), (q4, .inl (cy 0, 10, .inl (fun _ => 0))), (q5, .inl (cy 0, 3, .inl f8)), (q9, .inl (cy 3, 6, .inr (.inr (.inr (.inr (fun _ => none))))))] ++ (tW cy (u11 0) i_X7))) (isC := [11]) (isR := [0, 1, 2, 3, 4, 5, 6, 7, 8, 9, 10]) hc hw (c_X7_init) lk_X6_45 ⟨rfl, rfl, rfl, rfl, by decide⟩ ⟨by decide, by decide⟩ ⟨by decide, by decide⟩ hl.1 rfl (Nat.le_of_ble_eq_true rfl) rfl dX6_init_95 (fun u13 H locs hq hw2 => ?_)
  have hq : u13 0 0 = q12 := hq
  clear hw
  subst hq
  refine W.widen (k := 14) (n := 117) (by decide) (by decide) ?_
  have hw : wV D A s.heap ([(a0, .inr (6, [.ref q1, .ref q2, .ref q3, .ref q4, .int 0, .ref q5, .ref q9, .int 0, .int (-1), .ref (u11 0 0), .null, .null])), (q1, .inl (cy 0, 10, .inl (fun _ => 0))), (q2, .inl (cy 0, 10, .inl (fun _ => 0))), (q3, .inl (cy 0, 10, .inl (fun _ => 0))), (q4, .inl (cy 0, 10, .inl (fun _ => 0))), (q5, .inl (cy 0, 3, .inl f8)), (q9, .inl (cy 3, 6, .inr (.inr (.inr (.inr (fun _ => none))))))] ++ ((tW cy (u11 0) i_X7) ++ (tW cy (u13 0) i_X7))) H locs := hw2
  refine pFF (k := 10) hc hw inX6 tyX6_ok nmX6 rfl 0 rfl (by decide) (gm 227 (by decide +kernel) rfl) rfl (hnm rfl) rfl rfl rfl (Nat.le_of_ble_eq_true rfl) dX6_init_98 (fun H locs hw => ?_)
  replace hw : wV D A s.heap ([(a0, .inr (6, [.ref q1, .ref q2, .ref q3, .ref q4, .int 0, .ref q5, .ref q9, .int 0, .int (-1), .ref (u11 0 0), .ref (u13 0 0), .null])), (q1, .inl (cy 0, 10, .inl (fun _ => 0))), (q2, .inl (cy 0, 10, .inl (fun _ => 0))), (q3, .inl (cy 0, 10, .inl (fun _ => 0))), (q4, .inl (cy 0, 10, .inl (fun _ => 0))), (q5, .inl (cy 0, 3, .inl f8)), (q9, .inl (cy 3, 6, .inr (.inr (.inr (.inr (fun _ => none))))))] ++ ((tW cy (u11 0) i_X7) ++ (tW cy (u13 0) i_X7))) H locs := hw
  refine lv_aload_n hx hb dX6_init_101 rfl (lv_at hl 0 rfl) ?_
  refine nwO (ci := 7) (fs := [.null, .null, .null, .int 0]) hc hw inX7 tyX7_ok rfl (gm 161 (by decide +kernel) rfl) (gm 162 (by decide +kernel) rfl) (gm 129 (by decide +kernel) rfl) (fun j hj => by rcases (show j = 0 ∨ j = 1 ∨ j = 2 ∨ j = 3 by omega) with rfl | rfl | rfl | rfl <;> rfl) (by decide) (by decide) dX6_init_102 (fun q14 H hw => ?_)
  refine W.widen (k := 15) (n := 121) (by decide) (by decide) ?_
  replace hw : wV D A s.heap ([(a0, .inr (6, [.ref q1, .ref q2, .ref q3, .ref q4, .int 0, .ref q5, .ref q9, .int 0, .int (-1), .ref (u11 0 0), .ref (u13 0 0), .null])), (q1, .inl (cy 0, 10, .inl (fun _ => 0))), (q2, .inl (cy 0, 10, .inl (fun _ => 0))), (q3, .inl (cy 0, 10, .inl (fun _ => 0))), (q4, .inl (cy 0, 10, .inl (fun _ => 0))), (q5, .inl (cy 0, 3, .inl f8)), (q9, .inl (cy 3, 6, .inr (.inr (.inr (.inr (fun _ => none))))))] ++ ((tW cy (u11 0) i_X7) ++ ((tW cy (u13 0) i_X7) ++ [(q14, .inr (7, [.null, .null, .null, .int 0]))]))) H locs := hw
  refine lv_dup hx hb dX6_init_105 rfl ?_
  refine kIN_V (As := []) (rest := [.ref q14, .ref a0]) (wc := [(q14, .inr (7, [.null, .null, .null, .int 0]))]) (wr := ([(a0, .inr (6, [.ref q1, .ref q2, .ref q3, .ref q4, .int 0, .ref q5, .ref q9, .int 0, .int (-1), .ref (u11 0 0), .ref (u13 0 0), .null])), (q1, .inl (cy 0, 10, .inl (fun _ => 0))), (q2, .inl (cy 0, 10, .inl (fun _ => 0))), (q3, .inl (cy 0, 10, .inl (fun _ => 0))), (q4, .inl (cy 0, 10, .inl (fun _ => 0))), (q5, .inl (cy 0, 3, .inl f8)), (q9, .inl (cy 3, 6, .inr (.inr (.inr (.inr (fun _ => none))))))] ++ ((tW cy (u11 0) i_X7) ++ (tW cy (u13 0) i_X7)))) (isC := [15]) (isR := [0, 1, 2, 3, 4, 5, 6, 7, 8, 9, 10, 11, 12, 13, 14]) hc hw (c_X7_init) lk_X6_45 ⟨rfl, rfl, rfl, rfl, by decide⟩ ⟨by decide, by decide⟩ ⟨by decide, by decide⟩ hl.1 rfl (Nat.le_of_ble_eq_true rfl) rfl dX6_init_106 (fun u15 H locs hq hw2 => ?_)
  have hq : u15 0 0 = q14 := hq
  clear hw
  subst hq
  refine W.widen (k := 18) (n := 151) (by decide) (by decide) ?_
  have hw : wV D A s.heap ([(a0, .inr (6, [.ref q1, .ref q2, .ref q3, .ref q4, .int 0, .ref q5, .ref q9, .int 0, .int (-1), .ref (u11 0 0), .ref (u13 0 0), .null])), (q1, .inl (cy 0, 10, .inl (fun _ => 0))), (q2, .inl (cy 0, 10, .inl (fun _ => 0))), (q3, .inl (cy 0, 10, .inl (fun _ => 0))), (q4, .inl (cy 0, 10, .inl (fun _ => 0))), (q5, .inl (cy 0, 3, .inl f8)), (q9, .inl (cy 3, 6, .inr (.inr (.inr (.inr (fun _ => none))))))] ++ ((tW cy (u11 0) i_X7) ++ ((tW cy (u13 0) i_X7) ++ (tW cy (u15 0) i_X7)))) H locs := hw2
  refine pFF (k := 11) hc hw inX6 tyX6_ok nmX6 rfl 0 rfl (by decide) (gm 230 (by decide +kernel) rfl) rfl (hnm rfl) rfl rfl rfl (Nat.le_of_ble_eq_true rfl) dX6_init_109 (fun H locs hw => ?_)
  replace hw : wV D A s.heap ([(a0, .inr (6, [.ref q1, .ref q2, .ref q3, .ref q4, .int 0, .ref q5, .ref q9, .int 0, .int (-1), .ref (u11 0 0), .ref (u13 0 0), .ref (u15 0 0)])), (q1, .inl (cy 0, 10, .inl (fun _ => 0))), (q2, .inl (cy 0, 10, .inl (fun _ => 0))), (q3, .inl (cy 0, 10, .inl (fun _ => 0))), (q4, .inl (cy 0, 10, .inl (fun _ => 0))), (q5, .inl (cy 0, 3, .inl f8)), (q9, .inl (cy 3, 6, .inr (.inr (.inr (.inr (fun _ => none))))))] ++ ((tW cy (u11 0) i_X7) ++ ((tW cy (u13 0) i_X7) ++ (tW cy (u15 0) i_X7)))) H locs := hw
  subst e_f8
  subst e_f7
  subst e_f6
  have hw : wV D A s.heap ((fun u : Nat → Nat → Nat => ((bW cy (u 0) ((u 1) 0) ((u 2) 0) ((u 3) 0) ((u 4) 0) i_X6) ++ ((lsW cy (u 1) (fun _ => none)) ++ ((tW cy (u 2) i_X7) ++ ((tW cy (u 3) i_X7) ++ (tW cy (u 4) i_X7)))))) (fun k => [(fun i => [a0, q1, q2, q3, q4, q5].getD i 0), (fun i => [q9].getD i 0), (u11 0), (u13 0), (u15 0)].getD k (fun _ => 0))) H locs := hw.perm [0, 1, 2, 3, 4, 5, 6, 7, 8, 9, 10, 11, 12, 13, 14, 15, 16, 17, 18] rfl rfl
  exact retV (u := fun k => [(fun i => [a0, q1, q2, q3, q4, q5].getD i 0), (fun i => [q9].getD i 0), (u11 0), (u13 0), (u15 0)].getD k (fun _ => 0)) hc hw rfl dX6_init_112

set_option maxHeartbeats 4000000 in
set_option maxRecDepth 100000 in
theorem c_X3_init {l : Launch} {D : va_G} {cy : Nat → ClassId} {a0 : Nat} : CtV l yX3_init cX3_init 1 none (rmA 2 13 4221) D cy [.ref a0] [(a0, .inr (3, [.null, .null, .null, .null, .null, .null, .int 0, .int 0, .int 0, .int 0, .null, .null, .null, .null, .null, .int 0, .int 0, .int 0]))] (fun u : Nat → Nat → Nat => ((pW cy (u 0) ((u 1) 0) i_X3) ++ (jW cy (u 1) i_X1))) (fun u : Nat → Nat → Nat => u 0 0 = a0) := by
  refine CtV.ofW (by decide) (Nat.le_of_ble_eq_true rfl) ?_
  intro p e s m args below meth c A ls hc hnm hw hl
  have hx := hc.1.1
  have hb := hc.1.2.1
  have hl : lv_has ls 1 [(0, .ref a0)] := hl
  obtain ⟨H, hH⟩ : ∃ z, z = s.heap := ⟨_, rfl⟩
  obtain ⟨locs, hLc⟩ : ∃ z : List Loc, z = [] := ⟨_, rfl⟩
  have hw : wV D A s.heap [(a0, .inr (3, [.null, .null, .null, .null, .null, .null, .int 0, .int 0, .int 0, .int 0, .null, .null, .null, .null, .null, .int 0, .int 0, .int 0]))] H locs := by rw [hH, hLc]; exact hw
  have hgo : W p l e (rmA 2 13 4221) s m args below meth c H locs 0 0 (MQ below (eV D cy A (fun u : Nat → Nat → Nat => ((pW cy (u 0) ((u 1) 0) i_X3) ++ (jW cy (u 1) i_X1))) (fun u : Nat → Nat → Nat => u 0 0 = a0)) args s (rmA 2 13 4221).cells (rmA 2 13 4221).slots A) (F0 m 0 ls []) := ?hgo
  · rw [hH, hLc] at hgo; exact hgo
  refine lv_aload_n hx hb dX3_init_0 rfl (lv_at hl 0 rfl) ?_
  refine oIn hc (gm 308 (by decide +kernel) rfl) hl.1 (Nat.le_of_ble_eq_true rfl) (Nat.le_of_ble_eq_true rfl) dX3_init_1 ?_
  refine lv_aload_n hx hb dX3_init_4 rfl (lv_at hl 0 rfl) ?_
  refine nwO (ci := 1) (fs := [.null, .null, .int 0]) hc hw inX1 tyX1_ok rfl (gm 309 (by decide +kernel) rfl) (gm 310 (by decide +kernel) rfl) (gm 132 (by decide +kernel) rfl) (fun j hj => by rcases (show j = 0 ∨ j = 1 ∨ j = 2 by omega) with rfl | rfl | rfl <;> rfl) (by decide) (by decide) dX3_init_5 (fun q1 H hw => ?_)
  refine W.widen (k := 1) (n := 3) (by decide) (by decide) ?_
  replace hw : wV D A s.heap [(a0, .inr (3, [.null, .null, .null, .null, .null, .null, .int 0, .int 0, .int 0, .int 0, .null, .null, .null, .null, .null, .int 0, .int 0, .int 0])), (q1, .inr (1, [.null, .null, .int 0]))] H locs := hw
  refine lv_dup hx hb dX3_init_8 rfl ?_
  refine kIN_V (As := []) (rest := [.ref q1, .ref a0]) (wc := [(q1, .inr (1, [.null, .null, .int 0]))]) (wr := [(a0, .inr (3, [.null, .null, .null, .null, .null, .null, .int 0, .int 0, .int 0, .int 0, .null, .null, .null, .null, .null, .int 0, .int 0, .int 0]))]) (isC := [1]) (isR := [0]) hc hw (c_X1_init) lk_X3_11 ⟨rfl, rfl, rfl, rfl, by decide⟩ ⟨by decide, by decide⟩ ⟨by decide, by decide⟩ hl.1 rfl (Nat.le_of_ble_eq_true rfl) rfl dX3_init_9 (fun u2 H locs hq hw2 => ?_)
  have hq : u2 0 0 = q1 := hq
  clear hw
  subst hq
  refine W.widen (k := 3) (n := 65) (by decide) (by decide) ?_
  have hw : wV D A s.heap ([(a0, .inr (3, [.null, .null, .null, .null, .null, .null, .int 0, .int 0, .int 0, .int 0, .null, .null, .null, .null, .null, .int 0, .int 0, .int 0]))] ++ (jW cy (u2 0) i_X1)) H locs := hw2
  refine pFF (k := 0) hc hw inX3 tyX3_ok nmX3 rfl 0 rfl (by decide) (gm 325 (by decide +kernel) rfl) rfl (hnm rfl) rfl rfl rfl (Nat.le_of_ble_eq_true rfl) dX3_init_12 (fun H locs hw => ?_)
  replace hw : wV D A s.heap ([(a0, .inr (3, [.ref (u2 0 0), .null, .null, .null, .null, .null, .int 0, .int 0, .int 0, .int 0, .null, .null, .null, .null, .null, .int 0, .int 0, .int 0]))] ++ (jW cy (u2 0) i_X1)) H locs := hw
  refine lv_aload_n hx hb dX3_init_15 rfl (lv_at hl 0 rfl) ?_
  refine lv_bipush (v := 10) hx hb dX3_init_16 (by decide) ?_
  refine nwI (N := 10) hc hw (by decide) (by decide) (by decide) (by decide) (by decide) dX3_init_18 (fun q3 H hw => ?_)
  refine W.widen (k := 4) (n := 75) (by decide) (by decide) ?_
  replace hw : wV D A s.heap ([(a0, .inr (3, [.ref (u2 0 0), .null, .null, .null, .null, .null, .int 0, .int 0, .int 0, .int 0, .null, .null, .null, .null, .null, .int 0, .int 0, .int 0]))] ++ ((jW cy (u2 0) i_X1) ++ [(q3, .inl (cy 0, 10, .inl (fun _ => 0)))])) H locs := hw
  refine pFF (k := 1) hc hw inX3 tyX3_ok nmX3 rfl 0 rfl (by decide) (gm 326 (by decide +kernel) rfl) rfl (hnm rfl) rfl rfl rfl (Nat.le_of_ble_eq_true rfl) dX3_init_20 (fun H locs hw => ?_)
  replace hw : wV D A s.heap ([(a0, .inr (3, [.ref (u2 0 0), .ref q3, .null, .null, .null, .null, .int 0, .int 0, .int 0, .int 0, .null, .null, .null, .null, .null, .int 0, .int 0, .int 0]))] ++ ((jW cy (u2 0) i_X1) ++ [(q3, .inl (cy 0, 10, .inl (fun _ => 0)))])) H locs := hw
  refine lv_aload_n hx hb dX3_init_23 rfl (lv_at hl 0 rfl) ?_
  refine lv_bipush (v := 10) hx hb dX3_init_24 (by decide) ?_
  refine nwI (N := 10) hc hw (by decide) (by decide) (by decide) (by decide) (by decide) dX3_init_26 (fun q4 H hw => ?_)
  refine W.widen (k := 5) (n := 85) (by decide) (by decide) ?_
  replace hw : wV D A s.heap ([(a0, .inr (3, [.ref (u2 0 0), .ref q3, .null, .null, .null, .null, .int 0, .int 0, .int 0, .int 0, .null, .null, .null, .null, .null, .int 0, .int 0, .int 0]))] ++ ((jW cy (u2 0) i_X1) ++ [(q3, .inl (cy 0, 10, .inl (fun _ => 0))), (q4, .inl (cy 0, 10, .inl (fun _ => 0)))])) H locs := hw
  refine pFF (k := 2) hc hw inX3 tyX3_ok nmX3 rfl 0 rfl (by decide) (gm 327 (by decide +kernel) rfl) rfl (hnm rfl) rfl rfl rfl (Nat.le_of_ble_eq_true rfl) dX3_init_28 (fun H locs hw => ?_)
  replace hw : wV D A s.heap ([(a0, .inr (3, [.ref (u2 0 0), .ref q3, .ref q4, .null, .null, .null, .int 0, .int 0, .int 0, .int 0, .null, .null, .null, .null, .null, .int 0, .int 0, .int 0]))] ++ ((jW cy (u2 0) i_X1) ++ [(q3, .inl (cy 0, 10, .inl (fun _ => 0))), (q4, .inl (cy 0, 10, .inl (fun _ => 0)))])) H locs := hw
  refine lv_aload_n hx hb dX3_init_31 rfl (lv_at hl 0 rfl) ?_
  refine lv_bipush (v := 10) hx hb dX3_init_32 (by decide) ?_
  refine nwI (N := 10) hc hw (by decide) (by decide) (by decide) (by decide) (by decide) dX3_init_34 (fun q5 H hw => ?_)
  refine W.widen (k := 6) (n := 95) (by decide) (by decide) ?_
  replace hw : wV D A s.heap ([(a0, .inr (3, [.ref (u2 0 0), .ref q3, .ref q4, .null, .null, .null, .int 0, .int 0, .int 0, .int 0, .null, .null, .null, .null, .null, .int 0, .int 0, .int 0]))] ++ ((jW cy (u2 0) i_X1) ++ [(q3, .inl (cy 0, 10, .inl (fun _ => 0))), (q4, .inl (cy 0, 10, .inl (fun _ => 0))), (q5, .inl (cy 0, 10, .inl (fun _ => 0)))])) H locs := hw
  refine pFF (k := 3) hc hw inX3 tyX3_ok nmX3 rfl 0 rfl (by decide) (gm 328 (by decide +kernel) rfl) rfl (hnm rfl) rfl rfl rfl (Nat.le_of_ble_eq_true rfl) dX3_init_36 (fun H locs hw => ?_)
  replace hw : wV D A s.heap ([(a0, .inr (3, [.ref (u2 0 0), .ref q3, .ref q4, .ref q5, .null, .null, .int 0, .int 0, .int 0, .int 0, .null, .null, .null, .null, .null, .int 0, .int 0, .int 0]))] ++ ((jW cy (u2 0) i_X1) ++ [(q3, .inl (cy 0, 10, .inl (fun _ => 0))), (q4, .inl (cy 0, 10, .inl (fun _ => 0))), (q5, .inl (cy 0, 10, .inl (fun _ => 0)))])) H locs := hw
  refine lv_aload_n hx hb dX3_init_39 rfl (lv_at hl 0 rfl) ?_
  refine lv_bipush (v := 10) hx hb dX3_init_40 (by decide) ?_
  refine nwI (N := 10) hc hw (by decide) (by decide) (by decide) (by decide) (by decide) dX3_init_42 (fun q6 H hw => ?_)
  refine W.widen (k := 7) (n := 105) (by decide) (by decide) ?_
  replace hw : wV D A s.heap ([(a0, .inr (3, [.ref (u2 0 0), .ref q3, .ref q4, .ref q5, .null, .null, .int 0, .int 0, .int 0, .int 0, .null, .null, .null, .null, .null, .int 0, .int 0, .int 0]))] ++ ((jW cy (u2 0) i_X1) ++ [(q3, .inl (cy 0, 10, .inl (fun _ => 0))), (q4, .inl (cy 0, 10, .inl (fun _ => 0))), (q5, .inl (cy 0, 10, .inl (fun _ => 0))), (q6, .inl (cy 0, 10, .inl (fun _ => 0)))])) H locs := hw
  refine pFF (k := 4) hc hw inX3 tyX3_ok nmX3 rfl 0 rfl (by decide) (gm 330 (by decide +kernel) rfl) rfl (hnm rfl) rfl rfl rfl (Nat.le_of_ble_eq_true rfl) dX3_init_44 (fun H locs hw => ?_)
  replace hw : wV D A s.heap ([(a0, .inr (3, [.ref (u2 0 0), .ref q3, .ref q4, .ref q5, .ref q6, .null, .int 0, .int 0, .int 0, .int 0, .null, .null, .null, .null, .null, .int 0, .int 0, .int 0]))] ++ ((jW cy (u2 0) i_X1) ++ [(q3, .inl (cy 0, 10, .inl (fun _ => 0))), (q4, .inl (cy 0, 10, .inl (fun _ => 0))), (q5, .inl (cy 0, 10, .inl (fun _ => 0))), (q6, .inl (cy 0, 10, .inl (fun _ => 0)))])) H locs := hw
  refine lv_aload_n hx hb dX3_init_47 rfl (lv_at hl 0 rfl) ?_
  refine lv_bipush (v := 10) hx hb dX3_init_48 (by decide) ?_
  refine nwI (N := 10) hc hw (by decide) (by decide) (by decide) (by decide) (by decide) dX3_init_50 (fun q7 H hw => ?_)
  refine W.widen (k := 8) (n := 115) (by decide) (by decide) ?_
  replace hw : wV D A s.heap ([(a0, .inr (3, [.ref (u2 0 0), .ref q3, .ref q4, .ref q5, .ref q6, .null, .int 0, .int 0, .int 0, .int 0, .null, .null, .null, .null, .null, .int 0, .int 0, .int 0]))] ++ ((jW cy (u2 0) i_X1) ++ [(q3, .inl (cy 0, 10, .inl (fun _ => 0))), (q4, .inl (cy 0, 10, .inl (fun _ => 0))), (q5, .inl (cy 0, 10, .inl (fun _ => 0))), (q6, .inl (cy 0, 10, .inl (fun _ => 0))), (q7, .inl (cy 0, 10, .inl (fun _ => 0)))])) H locs := hw
  refine pFF (k := 5) hc hw inX3 tyX3_ok nmX3 rfl 0 rfl (by decide) (gm 332 (by decide +kernel) rfl) rfl (hnm rfl) rfl rfl rfl (Nat.le_of_ble_eq_true rfl) dX3_init_52 (fun H locs hw => ?_)
  replace hw : wV D A s.heap ([(a0, .inr (3, [.ref (u2 0 0), .ref q3, .ref q4, .ref q5, .ref q6, .ref q7, .int 0, .int 0, .int 0, .int 0, .null, .null, .null, .null, .null, .int 0, .int 0, .int 0]))] ++ ((jW cy (u2 0) i_X1) ++ [(q3, .inl (cy 0, 10, .inl (fun _ => 0))), (q4, .inl (cy 0, 10, .inl (fun _ => 0))), (q5, .inl (cy 0, 10, .inl (fun _ => 0))), (q6, .inl (cy 0, 10, .inl (fun _ => 0))), (q7, .inl (cy 0, 10, .inl (fun _ => 0)))])) H locs := hw
  refine lv_aload_n hx hb dX3_init_55 rfl (lv_at hl 0 rfl) ?_
  refine lv_iconst (v := 0) hx hb dX3_init_56 (by decide) ?_
  refine pFr (k := 6) hc hw inX3 tyX3_ok nmX3 rfl 0 rfl (by decide) (gm 334 (by decide +kernel) rfl) rfl rfl rfl (Nat.le_of_ble_eq_true rfl) dX3_init_57 (fun H locs hw => ?_)
  replace hw : wV D A s.heap ([(a0, .inr (3, [.ref (u2 0 0), .ref q3, .ref q4, .ref q5, .ref q6, .ref q7, .int 0, .int 0, .int 0, .int 0, .null, .null, .null, .null, .null, .int 0, .int 0, .int 0]))] ++ ((jW cy (u2 0) i_X1) ++ [(q3, .inl (cy 0, 10, .inl (fun _ => 0))), (q4, .inl (cy 0, 10, .inl (fun _ => 0))), (q5, .inl (cy 0, 10, .inl (fun _ => 0))), (q6, .inl (cy 0, 10, .inl (fun _ => 0))), (q7, .inl (cy 0, 10, .inl (fun _ => 0)))])) H locs := hw
  refine lv_aload_n hx hb dX3_init_60 rfl (lv_at hl 0 rfl) ?_
  refine lv_iconst (v := 1) hx hb dX3_init_61 (by decide) ?_
  refine pFr (k := 7) hc hw inX3 tyX3_ok nmX3 rfl 0 rfl (by decide) (gm 336 (by decide +kernel) rfl) rfl rfl rfl (Nat.le_of_ble_eq_true rfl) dX3_init_62 (fun H locs hw => ?_)
  replace hw : wV D A s.heap ([(a0, .inr (3, [.ref (u2 0 0), .ref q3, .ref q4, .ref q5, .ref q6, .ref q7, .int 0, .int 1, .int 0, .int 0, .null, .null, .null, .null, .null, .int 0, .int 0, .int 0]))] ++ ((jW cy (u2 0) i_X1) ++ [(q3, .inl (cy 0, 10, .inl (fun _ => 0))), (q4, .inl (cy 0, 10, .inl (fun _ => 0))), (q5, .inl (cy 0, 10, .inl (fun _ => 0))), (q6, .inl (cy 0, 10, .inl (fun _ => 0))), (q7, .inl (cy 0, 10, .inl (fun _ => 0)))])) H locs := hw
  refine lv_aload_n hx hb dX3_init_65 rfl (lv_at hl 0 rfl) ?_
  refine lv_iconst (v := 0) hx hb dX3_init_66 (by decide) ?_
  refine pFr (k := 8) hc hw inX3 tyX3_ok nmX3 rfl 0 rfl (by decide) (gm 337 (by decide +kernel) rfl) rfl rfl rfl (Nat.le_of_ble_eq_true rfl) dX3_init_67 (fun H locs hw => ?_)
  replace hw : wV D A s.heap ([(a0, .inr (3, [.ref (u2 0 0), .ref q3, .ref q4, .ref q5, .ref q6, .ref q7, .int 0, .int 1, .int 0, .int 0, .null, .null, .null, .null, .null, .int 0, .int 0, .int 0]))] ++ ((jW cy (u2 0) i_X1) ++ [(q3, .inl (cy 0, 10, .inl (fun _ => 0))), (q4, .inl (cy 0, 10, .inl (fun _ => 0))), (q5, .inl (cy 0, 10, .inl (fun _ => 0))), (q6, .inl (cy 0, 10, .inl (fun _ => 0))), (q7, .inl (cy 0, 10, .inl (fun _ => 0)))])) H locs := hw
  refine lv_aload_n hx hb dX3_init_70 rfl (lv_at hl 0 rfl) ?_
  refine lv_iconst (v := 0) hx hb dX3_init_71 (by decide) ?_
  refine pFr (k := 9) hc hw inX3 tyX3_ok nmX3 rfl 0 rfl (by decide) (gm 338 (by decide +kernel) rfl) rfl rfl rfl (Nat.le_of_ble_eq_true rfl) dX3_init_72 (fun H locs hw => ?_)
  replace hw : wV D A s.heap ([(a0, .inr (3, [.ref (u2 0 0), .ref q3, .ref q4, .ref q5, .ref q6, .ref q7, .int 0, .int 1, .int 0, .int 0, .null, .null, .null, .null, .null, .int 0, .int 0, .int 0]))] ++ ((jW cy (u2 0) i_X1) ++ [(q3, .inl (cy 0, 10, .inl (fun _ => 0))), (q4, .inl (cy 0, 10, .inl (fun _ => 0))), (q5, .inl (cy 0, 10, .inl (fun _ => 0))), (q6, .inl (cy 0, 10, .inl (fun _ => 0))), (q7, .inl (cy 0, 10, .inl (fun _ => 0)))])) H locs := hw
  refine lv_aload_n hx hb dX3_init_75 rfl (lv_at hl 0 rfl) ?_
  refine lv_sipush (v := 1024) hx hb dX3_init_76 (by decide) ?_
  refine nwI (N := 1024) hc hw (by decide) (by decide) (by decide) (by decide) (by decide) dX3_init_79 (fun q8 H hw => ?_)
  refine W.widen (k := 9) (n := 1139) (by decide) (by decide) ?_
  replace hw : wV D A s.heap ([(a0, .inr (3, [.ref (u2 0 0), .ref q3, .ref q4, .ref q5, .ref q6, .ref q7, .int 0, .int 1, .int 0, .int 0, .null, .null, .null, .null, .null, .int 0, .int 0, .int 0]))] ++ ((jW cy (u2 0) i_X1) ++ [(q3, .inl (cy 0, 10, .inl (fun _ => 0))), (q4, .inl (cy 0, 10, .inl (fun _ => 0))), (q5, .inl (cy 0, 10, .inl (fun _ => 0))), (q6, .inl (cy 0, 10, .inl (fun _ => 0))), (q7, .inl (cy 0, 10, .inl (fun _ => 0))), (q8, .inl (cy 0, 1024, .inl (fun _ => 0)))])) H locs := hw
  refine pFF (k := 10) hc hw inX3 tyX3_ok nmX3 rfl 0 rfl (by decide) (gm 339 (by decide +kernel) rfl) rfl (hnm rfl) rfl rfl rfl (Nat.le_of_ble_eq_true rfl) dX3_init_81 (fun H locs hw => ?_)
  replace hw : wV D A s.heap ([(a0, .inr (3, [.ref (u2 0 0), .ref q3, .ref q4, .ref q5, .ref q6, .ref q7, .int 0, .int 1, .int 0, .int 0, .ref q8, .null, .null, .null, .null, .int 0, .int 0, .int 0]))] ++ ((jW cy (u2 0) i_X1) ++ [(q3, .inl (cy 0, 10, .inl (fun _ => 0))), (q4, .inl (cy 0, 10, .inl (fun _ => 0))), (q5, .inl (cy 0, 10, .inl (fun _ => 0))), (q6, .inl (cy 0, 10, .inl (fun _ => 0))), (q7, .inl (cy 0, 10, .inl (fun _ => 0))), (q8, .inl (cy 0, 1024, .inl (fun _ => 0)))])) H locs := hw
  refine lv_aload_n hx hb dX3_init_84 rfl (lv_at hl 0 rfl) ?_
  refine lv_sipush (v := 1024) hx hb dX3_init_85 (by decide) ?_
  refine nwI (N := 1024) hc hw (by decide) (by decide) (by decide) (by decide) (by decide) dX3_init_88 (fun q9 H hw => ?_)
  refine W.widen (k := 10) (n := 2163) (by decide) (by decide) ?_
  replace hw : wV D A s.heap ([(a0, .inr (3, [.ref (u2 0 0), .ref q3, .ref q4, .ref q5, .ref q6, .ref q7, .int 0, .int 1, .int 0, .int 0, .ref q8, .null, .null, .null, .null, .int 0, .int 0, .int 0]))] ++ ((jW cy (u2 0) i_X1) ++ [(q3, .inl (cy 0, 10, .inl (fun _ => 0))), (q4, .inl (cy 0, 10, .inl (fun _ => 0))), (q5, .inl (cy 0, 10, .inl (fun _ => 0))), (q6, .inl (cy 0, 10, .inl (fun _ => 0))), (q7, .inl (cy 0, 10, .inl (fun _ => 0))), (q8, .inl (cy 0, 1024, .inl (fun _ => 0))), (q9, .inl (cy 0, 1024, .inl (fun _ => 0)))])) H locs := hw
  refine pFF (k := 11) hc hw inX3 tyX3_ok nmX3 rfl 0 rfl (by decide) (gm 342 (by decide +kernel) rfl) rfl (hnm rfl) rfl rfl rfl (Nat.le_of_ble_eq_true rfl) dX3_init_90 (fun H locs hw => ?_)
  replace hw : wV D A s.heap ([(a0, .inr (3, [.ref (u2 0 0), .ref q3, .ref q4, .ref q5, .ref q6, .ref q7, .int 0, .int 1, .int 0, .int 0, .ref q8, .ref q9, .null, .null, .null, .int 0, .int 0, .int 0]))] ++ ((jW cy (u2 0) i_X1) ++ [(q3, .inl (cy 0, 10, .inl (fun _ => 0))), (q4, .inl (cy 0, 10, .inl (fun _ => 0))), (q5, .inl (cy 0, 10, .inl (fun _ => 0))), (q6, .inl (cy 0, 10, .inl (fun _ => 0))), (q7, .inl (cy 0, 10, .inl (fun _ => 0))), (q8, .inl (cy 0, 1024, .inl (fun _ => 0))), (q9, .inl (cy 0, 1024, .inl (fun _ => 0)))])) H locs := hw
  refine lv_aload_n hx hb dX3_init_93 rfl (lv_at hl 0 rfl) ?_
  refine lv_sipush (v := 1024) hx hb dX3_init_94 (by decide) ?_
  refine nwI (N := 1024) hc hw (by decide) (by decide) (by decide) (by decide) (by decide) dX3_init_97 (fun q10 H hw => ?_)
  refine W.widen (k := 11) (n := 3187) (by decide) (by decide) ?_
  replace hw : wV D A s.heap ([(a0, .inr (3, [.ref (u2 0 0), .ref q3, .ref q4, .ref q5, .ref q6, .ref q7, .int 0, .int 1, .int 0, .int 0, .ref q8, .ref q9, .null, .null, .null, .int 0, .int 0, .int 0]))] ++ ((jW cy (u2 0) i_X1) ++ [(q3, .inl (cy 0, 10, .inl (fun _ => 0))), (q4, .inl (cy 0, 10, .inl (fun _ => 0))), (q5, .inl (cy 0, 10, .inl (fun _ => 0))), (q6, .inl (cy 0, 10, .inl (fun _ => 0))), (q7, .inl (cy 0, 10, .inl (fun _ => 0))), (q8, .inl (cy 0, 1024, .inl (fun _ => 0))), (q9, .inl (cy 0, 1024, .inl (fun _ => 0))), (q10, .inl (cy 0, 1024, .inl (fun _ => 0)))])) H locs := hw
  refine pFF (k := 12) hc hw inX3 tyX3_ok nmX3 rfl 0 rfl (by decide) (gm 344 (by decide +kernel) rfl) rfl (hnm rfl) rfl rfl rfl (Nat.le_of_ble_eq_true rfl) dX3_init_99 (fun H locs hw => ?_)
  replace hw : wV D A s.heap ([(a0, .inr (3, [.ref (u2 0 0), .ref q3, .ref q4, .ref q5, .ref q6, .ref q7, .int 0, .int 1, .int 0, .int 0, .ref q8, .ref q9, .ref q10, .null, .null, .int 0, .int 0, .int 0]))] ++ ((jW cy (u2 0) i_X1) ++ [(q3, .inl (cy 0, 10, .inl (fun _ => 0))), (q4, .inl (cy 0, 10, .inl (fun _ => 0))), (q5, .inl (cy 0, 10, .inl (fun _ => 0))), (q6, .inl (cy 0, 10, .inl (fun _ => 0))), (q7, .inl (cy 0, 10, .inl (fun _ => 0))), (q8, .inl (cy 0, 1024, .inl (fun _ => 0))), (q9, .inl (cy 0, 1024, .inl (fun _ => 0))), (q10, .inl (cy 0, 1024, .inl (fun _ => 0)))])) H locs := hw
  refine lv_aload_n hx hb dX3_init_102 rfl (lv_at hl 0 rfl) ?_
  refine lv_sipush (v := 1024) hx hb dX3_init_103 (by decide) ?_
  refine nwI (N := 1024) hc hw (by decide) (by decide) (by decide) (by decide) (by decide) dX3_init_106 (fun q11 H hw => ?_)
  refine W.widen (k := 12) (n := 4211) (by decide) (by decide) ?_
  replace hw : wV D A s.heap ([(a0, .inr (3, [.ref (u2 0 0), .ref q3, .ref q4, .ref q5, .ref q6, .ref q7, .int 0, .int 1, .int 0, .int 0, .ref q8, .ref q9, .ref q10, .null, .null, .int 0, .int 0, .int 0]))] ++ ((jW cy (u2 0) i_X1) ++ [(q3, .inl (cy 0, 10, .inl (fun _ => 0))), (q4, .inl (cy 0, 10, .inl (fun _ => 0))), (q5, .inl (cy 0, 10, .inl (fun _ => 0))), (q6, .inl (cy 0, 10, .inl (fun _ => 0))), (q7, .inl (cy 0, 10, .inl (fun _ => 0))), (q8, .inl (cy 0, 1024, .inl (fun _ => 0))), (q9, .inl (cy 0, 1024, .inl (fun _ => 0))), (q10, .inl (cy 0, 1024, .inl (fun _ => 0))), (q11, .inl (cy 0, 1024, .inl (fun _ => 0)))])) H locs := hw
  refine pFF (k := 13) hc hw inX3 tyX3_ok nmX3 rfl 0 rfl (by decide) (gm 345 (by decide +kernel) rfl) rfl (hnm rfl) rfl rfl rfl (Nat.le_of_ble_eq_true rfl) dX3_init_108 (fun H locs hw => ?_)
  replace hw : wV D A s.heap ([(a0, .inr (3, [.ref (u2 0 0), .ref q3, .ref q4, .ref q5, .ref q6, .ref q7, .int 0, .int 1, .int 0, .int 0, .ref q8, .ref q9, .ref q10, .ref q11, .null, .int 0, .int 0, .int 0]))] ++ ((jW cy (u2 0) i_X1) ++ [(q3, .inl (cy 0, 10, .inl (fun _ => 0))), (q4, .inl (cy 0, 10, .inl (fun _ => 0))), (q5, .inl (cy 0, 10, .inl (fun _ => 0))), (q6, .inl (cy 0, 10, .inl (fun _ => 0))), (q7, .inl (cy 0, 10, .inl (fun _ => 0))), (q8, .inl (cy 0, 1024, .inl (fun _ => 0))), (q9, .inl (cy 0, 1024, .inl (fun _ => 0))), (q10, .inl (cy 0, 1024, .inl (fun _ => 0))), (q11, .inl (cy 0, 1024, .inl (fun _ => 0)))])) H locs := hw
  refine lv_aload_n hx hb dX3_init_111 rfl (lv_at hl 0 rfl) ?_
  refine lv_bipush (v := 10) hx hb dX3_init_112 (by decide) ?_
  refine nwI (N := 10) hc hw (by decide) (by decide) (by decide) (by decide) (by decide) dX3_init_114 (fun q12 H hw => ?_)
  refine W.widen (k := 13) (n := 4221) (by decide) (by decide) ?_
  replace hw : wV D A s.heap ([(a0, .inr (3, [.ref (u2 0 0), .ref q3, .ref q4, .ref q5, .ref q6, .ref q7, .int 0, .int 1, .int 0, .int 0, .ref q8, .ref q9, .ref q10, .ref q11, .null, .int 0, .int 0, .int 0]))] ++ ((jW cy (u2 0) i_X1) ++ [(q3, .inl (cy 0, 10, .inl (fun _ => 0))), (q4, .inl (cy 0, 10, .inl (fun _ => 0))), (q5, .inl (cy 0, 10, .inl (fun _ => 0))), (q6, .inl (cy 0, 10, .inl (fun _ => 0))), (q7, .inl (cy 0, 10, .inl (fun _ => 0))), (q8, .inl (cy 0, 1024, .inl (fun _ => 0))), (q9, .inl (cy 0, 1024, .inl (fun _ => 0))), (q10, .inl (cy 0, 1024, .inl (fun _ => 0))), (q11, .inl (cy 0, 1024, .inl (fun _ => 0))), (q12, .inl (cy 0, 10, .inl (fun _ => 0)))])) H locs := hw
  refine pFF (k := 14) hc hw inX3 tyX3_ok nmX3 rfl 0 rfl (by decide) (gm 346 (by decide +kernel) rfl) rfl (hnm rfl) rfl rfl rfl (Nat.le_of_ble_eq_true rfl) dX3_init_116 (fun H locs hw => ?_)
  replace hw : wV D A s.heap ([(a0, .inr (3, [.ref (u2 0 0), .ref q3, .ref q4, .ref q5, .ref q6, .ref q7, .int 0, .int 1, .int 0, .int 0, .ref q8, .ref q9, .ref q10, .ref q11, .ref q12, .int 0, .int 0, .int 0]))] ++ ((jW cy (u2 0) i_X1) ++ [(q3, .inl (cy 0, 10, .inl (fun _ => 0))), (q4, .inl (cy 0, 10, .inl (fun _ => 0))), (q5, .inl (cy 0, 10, .inl (fun _ => 0))), (q6, .inl (cy 0, 10, .inl (fun _ => 0))), (q7, .inl (cy 0, 10, .inl (fun _ => 0))), (q8, .inl (cy 0, 1024, .inl (fun _ => 0))), (q9, .inl (cy 0, 1024, .inl (fun _ => 0))), (q10, .inl (cy 0, 1024, .inl (fun _ => 0))), (q11, .inl (cy 0, 1024, .inl (fun _ => 0))), (q12, .inl (cy 0, 10, .inl (fun _ => 0)))])) H locs := hw
  refine lv_aload_n hx hb dX3_init_119 rfl (lv_at hl 0 rfl) ?_
  refine lv_iconst (v := 0) hx hb dX3_init_120 (by decide) ?_
  refine pFr (k := 15) hc hw inX3 tyX3_ok nmX3 rfl 0 rfl (by decide) (gm 347 (by decide +kernel) rfl) rfl rfl rfl (Nat.le_of_ble_eq_true rfl) dX3_init_121 (fun H locs hw => ?_)
  replace hw : wV D A s.heap ([(a0, .inr (3, [.ref (u2 0 0), .ref q3, .ref q4, .ref q5, .ref q6, .ref q7, .int 0, .int 1, .int 0, .int 0, .ref q8, .ref q9, .ref q10, .ref q11, .ref q12, .int 0, .int 0, .int 0]))] ++ ((jW cy (u2 0) i_X1) ++ [(q3, .inl (cy 0, 10, .inl (fun _ => 0))), (q4, .inl (cy 0, 10, .inl (fun _ => 0))), (q5, .inl (cy 0, 10, .inl (fun _ => 0))), (q6, .inl (cy 0, 10, .inl (fun _ => 0))), (q7, .inl (cy 0, 10, .inl (fun _ => 0))), (q8, .inl (cy 0, 1024, .inl (fun _ => 0))), (q9, .inl (cy 0, 1024, .inl (fun _ => 0))), (q10, .inl (cy 0, 1024, .inl (fun _ => 0))), (q11, .inl (cy 0, 1024, .inl (fun _ => 0))), (q12, .inl (cy 0, 10, .inl (fun _ => 0)))])) H locs := hw
  refine lv_aload_n hx hb dX3_init_124 rfl (lv_at hl 0 rfl) ?_
  refine lv_iconst (v := 0) hx hb dX3_init_125 (by decide) ?_
  refine pFr (k := 16) hc hw inX3 tyX3_ok nmX3 rfl 0 rfl (by decide) (gm 349 (by decide +kernel) rfl) rfl rfl rfl (Nat.le_of_ble_eq_true rfl) dX3_init_126 (fun H locs hw => ?_)
  replace hw : wV D A s.heap ([(a0, .inr (3, [.ref (u2 0 0), .ref q3, .ref q4, .ref q5, .ref q6, .ref q7, .int 0, .int 1, .int 0, .int 0, .ref q8, .ref q9, .ref q10, .ref q11, .ref q12, .int 0, .int 0, .int 0]))] ++ ((jW cy (u2 0) i_X1) ++ [(q3, .inl (cy 0, 10, .inl (fun _ => 0))), (q4, .inl (cy 0, 10, .inl (fun _ => 0))), (q5, .inl (cy 0, 10, .inl (fun _ => 0))), (q6, .inl (cy 0, 10, .inl (fun _ => 0))), (q7, .inl (cy 0, 10, .inl (fun _ => 0))), (q8, .inl (cy 0, 1024, .inl (fun _ => 0))), (q9, .inl (cy 0, 1024, .inl (fun _ => 0))), (q10, .inl (cy 0, 1024, .inl (fun _ => 0))), (q11, .inl (cy 0, 1024, .inl (fun _ => 0))), (q12, .inl (cy 0, 10, .inl (fun _ => 0)))])) H locs := hw
  refine lv_aload_n hx hb dX3_init_129 rfl (lv_at hl 0 rfl) ?_
  refine lv_iconst (v := 0) hx hb dX3_init_130 (by decide) ?_
  refine pFr (k := 17) hc hw inX3 tyX3_ok nmX3 rfl 0 rfl (by decide) (gm 351 (by decide +kernel) rfl) rfl rfl rfl (Nat.le_of_ble_eq_true rfl) dX3_init_131 (fun H locs hw => ?_)
  replace hw : wV D A s.heap ([(a0, .inr (3, [.ref (u2 0 0), .ref q3, .ref q4, .ref q5, .ref q6, .ref q7, .int 0, .int 1, .int 0, .int 0, .ref q8, .ref q9, .ref q10, .ref q11, .ref q12, .int 0, .int 0, .int 0]))] ++ ((jW cy (u2 0) i_X1) ++ [(q3, .inl (cy 0, 10, .inl (fun _ => 0))), (q4, .inl (cy 0, 10, .inl (fun _ => 0))), (q5, .inl (cy 0, 10, .inl (fun _ => 0))), (q6, .inl (cy 0, 10, .inl (fun _ => 0))), (q7, .inl (cy 0, 10, .inl (fun _ => 0))), (q8, .inl (cy 0, 1024, .inl (fun _ => 0))), (q9, .inl (cy 0, 1024, .inl (fun _ => 0))), (q10, .inl (cy 0, 1024, .inl (fun _ => 0))), (q11, .inl (cy 0, 1024, .inl (fun _ => 0))), (q12, .inl (cy 0, 10, .inl (fun _ => 0)))])) H locs := hw
  have hw : wV D A s.heap ((fun u : Nat → Nat → Nat => ((pW cy (u 0) ((u 1) 0) i_X3) ++ (jW cy (u 1) i_X1))) (fun k => [(fun i => [a0, q3, q4, q5, q6, q7, q8, q9, q10, q11, q12].getD i 0), (u2 0)].getD k (fun _ => 0))) H locs := hw.perm [0, 4, 5, 6, 7, 8, 9, 10, 11, 12, 13, 1, 2, 3] rfl rfl
  exact retV (u := fun k => [(fun i => [a0, q3, q4, q5, q6, q7, q8, q9, q10, q11, q12].getD i 0), (u2 0)].getD k (fun _ => 0)) hc hw rfl dX3_init_134

