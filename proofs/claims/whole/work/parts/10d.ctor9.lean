theorem upd_s {f : Nat → Int32} {l : List Int32} {k : Nat} {v : Int32} (h : ∀ j : Nat, j < k → f j = l.getD j 0) (hv : v = l.getD k 0) : ∀ j : Nat, j < k + 1 → upd f k v j = l.getD j 0 := by
  intro j hj
  by_cases e : j = k
  · subst e; rw [pk_us]; exact hv
  · rw [pk_un e]; exact h j (by omega)
set_option maxHeartbeats 4000000 in
set_option maxRecDepth 100000 in
theorem c_X9_init {l : Launch} {D : va_G} {cy : Nat → ClassId} {a0 : Nat} : CtV l yX9_init cX9_init 1 none (rmA 1 23 26891) D cy [.ref a0] [(a0, .inr (9, [.int 0, .int 0, .null, .null, .null, .null, .int 0, .null, .null, .null, .int 0, .int 0, .null, .null, .null, .int 0, .int 0, .int 0, .int 0, .int 0, .int 0, .int 0, .null, .int 0, .int 0, .int 0, .null, .null, .null, .int 0, .null, .int 0, .null, .null, .null, .null, .int 0, .null, .null, .null, .null, .int 0, .int 0]))] (fun u : (Nat → Nat → Nat) × (Nat → Int32) => (mW cy (u.1 0) (i_X9 u.2))) (fun u : (Nat → Nat → Nat) × (Nat → Int32) => u.1 0 0 = a0 ∧ ∀ j : Nat, j < 70 → u.2 j = wordsB.getD j 0) := by
  refine CtV.ofW (by decide) (Nat.le_of_ble_eq_true rfl) ?_
  intro p e s m args below meth c A ls hc hnm hw hl
  have hx := hc.1.1
  have hb := hc.1.2.1
  have hl : lv_has ls 1 [(0, .ref a0)] := hl
  obtain ⟨H, hH⟩ : ∃ z, z = s.heap := ⟨_, rfl⟩
  obtain ⟨locs, hLc⟩ : ∃ z : List Loc, z = [] := ⟨_, rfl⟩
  have hw : wV D A s.heap [(a0, .inr (9, [.int 0, .int 0, .null, .null, .null, .null, .int 0, .null, .null, .null, .int 0, .int 0, .null, .null, .null, .int 0, .int 0, .int 0, .int 0, .int 0, .int 0, .int 0, .null, .int 0, .int 0, .int 0, .null, .null, .null, .int 0, .null, .int 0, .null, .null, .null, .null, .int 0, .null, .null, .null, .null, .int 0, .int 0]))] H locs := by rw [hH, hLc]; exact hw
  have hgo : W p l e (rmA 1 23 26891) s m args below meth c H locs 0 0 (MQ below (eV D cy A (fun u : (Nat → Nat → Nat) × (Nat → Int32) => (mW cy (u.1 0) (i_X9 u.2))) (fun u : (Nat → Nat → Nat) × (Nat → Int32) => u.1 0 0 = a0 ∧ ∀ j : Nat, j < 70 → u.2 j = wordsB.getD j 0)) args s (rmA 1 23 26891).cells (rmA 1 23 26891).slots A) (F0 m 0 ls []) := ?hgo
  · rw [hH, hLc] at hgo; exact hgo
  refine lv_aload_n hx hb dX9_init_0 rfl (lv_at hl 0 rfl) ?_
  refine oIn hc (gm 1058 (by decide +kernel) rfl) hl.1 (Nat.le_of_ble_eq_true rfl) (Nat.le_of_ble_eq_true rfl) dX9_init_1 ?_
  refine lv_aload_n hx hb dX9_init_4 rfl (lv_at hl 0 rfl) ?_
  refine lv_bipush (v := 7) hx hb dX9_init_5 (by decide) ?_
  refine nwI (N := 7) hc hw (by decide) (by decide) (by decide) (by decide) (by decide) dX9_init_7 (fun q1 H hw => ?_)
  refine W.widen (k := 1) (n := 7) (by decide) (by decide) ?_
  replace hw : wV D A s.heap [(a0, .inr (9, [.int 0, .int 0, .null, .null, .null, .null, .int 0, .null, .null, .null, .int 0, .int 0, .null, .null, .null, .int 0, .int 0, .int 0, .int 0, .int 0, .int 0, .int 0, .null, .int 0, .int 0, .int 0, .null, .null, .null, .int 0, .null, .int 0, .null, .null, .null, .null, .int 0, .null, .null, .null, .null, .int 0, .int 0])), (q1, .inl (cy 0, 7, .inl (fun _ => 0)))] H locs := hw
  refine pFF (k := 2) hc hw inX9 tyX9_ok nmX9 rfl 0 rfl (by decide) (gm 1061 (by decide +kernel) rfl) rfl (hnm rfl) rfl rfl rfl (Nat.le_of_ble_eq_true rfl) dX9_init_9 (fun H locs hw => ?_)
  replace hw : wV D A s.heap [(a0, .inr (9, [.int 0, .int 0, .ref q1, .null, .null, .null, .int 0, .null, .null, .null, .int 0, .int 0, .null, .null, .null, .int 0, .int 0, .int 0, .int 0, .int 0, .int 0, .int 0, .null, .int 0, .int 0, .int 0, .null, .null, .null, .int 0, .null, .int 0, .null, .null, .null, .null, .int 0, .null, .null, .null, .null, .int 0, .int 0])), (q1, .inl (cy 0, 7, .inl (fun _ => 0)))] H locs := hw
  refine lv_aload_n hx hb dX9_init_12 rfl (lv_at hl 0 rfl) ?_
  refine lv_sipush (v := 4945) hx hb dX9_init_13 (by decide) ?_
  refine nwI (N := 4945) hc hw (by decide) (by decide) (by decide) (by decide) (by decide) dX9_init_16 (fun q2 H hw => ?_)
  refine W.widen (k := 2) (n := 4952) (by decide) (by decide) ?_
  replace hw : wV D A s.heap [(a0, .inr (9, [.int 0, .int 0, .ref q1, .null, .null, .null, .int 0, .null, .null, .null, .int 0, .int 0, .null, .null, .null, .int 0, .int 0, .int 0, .int 0, .int 0, .int 0, .int 0, .null, .int 0, .int 0, .int 0, .null, .null, .null, .int 0, .null, .int 0, .null, .null, .null, .null, .int 0, .null, .null, .null, .null, .int 0, .int 0])), (q1, .inl (cy 0, 7, .inl (fun _ => 0))), (q2, .inl (cy 0, 4945, .inl (fun _ => 0)))] H locs := hw
  refine pFF (k := 3) hc hw inX9 tyX9_ok nmX9 rfl 0 rfl (by decide) (gm 1062 (by decide +kernel) rfl) rfl (hnm rfl) rfl rfl rfl (Nat.le_of_ble_eq_true rfl) dX9_init_18 (fun H locs hw => ?_)
  replace hw : wV D A s.heap [(a0, .inr (9, [.int 0, .int 0, .ref q1, .ref q2, .null, .null, .int 0, .null, .null, .null, .int 0, .int 0, .null, .null, .null, .int 0, .int 0, .int 0, .int 0, .int 0, .int 0, .int 0, .null, .int 0, .int 0, .int 0, .null, .null, .null, .int 0, .null, .int 0, .null, .null, .null, .null, .int 0, .null, .null, .null, .null, .int 0, .int 0])), (q1, .inl (cy 0, 7, .inl (fun _ => 0))), (q2, .inl (cy 0, 4945, .inl (fun _ => 0)))] H locs := hw
  refine lv_aload_n hx hb dX9_init_21 rfl (lv_at hl 0 rfl) ?_
  refine lv_sipush (v := 9890) hx hb dX9_init_22 (by decide) ?_
  refine nwI (N := 9890) hc hw (by decide) (by decide) (by decide) (by decide) (by decide) dX9_init_25 (fun q3 H hw => ?_)
  refine W.widen (k := 3) (n := 14842) (by decide) (by decide) ?_
  replace hw : wV D A s.heap [(a0, .inr (9, [.int 0, .int 0, .ref q1, .ref q2, .null, .null, .int 0, .null, .null, .null, .int 0, .int 0, .null, .null, .null, .int 0, .int 0, .int 0, .int 0, .int 0, .int 0, .int 0, .null, .int 0, .int 0, .int 0, .null, .null, .null, .int 0, .null, .int 0, .null, .null, .null, .null, .int 0, .null, .null, .null, .null, .int 0, .int 0])), (q1, .inl (cy 0, 7, .inl (fun _ => 0))), (q2, .inl (cy 0, 4945, .inl (fun _ => 0))), (q3, .inl (cy 0, 9890, .inl (fun _ => 0)))] H locs := hw
  refine pFF (k := 4) hc hw inX9 tyX9_ok nmX9 rfl 0 rfl (by decide) (gm 1063 (by decide +kernel) rfl) rfl (hnm rfl) rfl rfl rfl (Nat.le_of_ble_eq_true rfl) dX9_init_27 (fun H locs hw => ?_)
  replace hw : wV D A s.heap [(a0, .inr (9, [.int 0, .int 0, .ref q1, .ref q2, .ref q3, .null, .int 0, .null, .null, .null, .int 0, .int 0, .null, .null, .null, .int 0, .int 0, .int 0, .int 0, .int 0, .int 0, .int 0, .null, .int 0, .int 0, .int 0, .null, .null, .null, .int 0, .null, .int 0, .null, .null, .null, .null, .int 0, .null, .null, .null, .null, .int 0, .int 0])), (q1, .inl (cy 0, 7, .inl (fun _ => 0))), (q2, .inl (cy 0, 4945, .inl (fun _ => 0))), (q3, .inl (cy 0, 9890, .inl (fun _ => 0)))] H locs := hw
  refine lv_aload_n hx hb dX9_init_30 rfl (lv_at hl 0 rfl) ?_
  refine lv_iconst (v := 2) hx hb dX9_init_31 (by decide) ?_
  refine nwZ (N := 2) hc hw (by decide) (by decide) (by decide) (by decide) (by decide) dX9_init_32 (fun q4 H hw => ?_)
  refine W.widen (k := 4) (n := 14844) (by decide) (by decide) ?_
  replace hw : wV D A s.heap [(a0, .inr (9, [.int 0, .int 0, .ref q1, .ref q2, .ref q3, .null, .int 0, .null, .null, .null, .int 0, .int 0, .null, .null, .null, .int 0, .int 0, .int 0, .int 0, .int 0, .int 0, .int 0, .null, .int 0, .int 0, .int 0, .null, .null, .null, .int 0, .null, .int 0, .null, .null, .null, .null, .int 0, .null, .null, .null, .null, .int 0, .int 0])), (q1, .inl (cy 0, 7, .inl (fun _ => 0))), (q2, .inl (cy 0, 4945, .inl (fun _ => 0))), (q3, .inl (cy 0, 9890, .inl (fun _ => 0))), (q4, .inl (cy 2, 2, .inl (fun _ => 0)))] H locs := hw
  refine pFF (k := 5) hc hw inX9 tyX9_ok nmX9 rfl 0 rfl (by decide) (gm 1064 (by decide +kernel) rfl) rfl (hnm rfl) rfl rfl rfl (Nat.le_of_ble_eq_true rfl) dX9_init_34 (fun H locs hw => ?_)
  replace hw : wV D A s.heap [(a0, .inr (9, [.int 0, .int 0, .ref q1, .ref q2, .ref q3, .ref q4, .int 0, .null, .null, .null, .int 0, .int 0, .null, .null, .null, .int 0, .int 0, .int 0, .int 0, .int 0, .int 0, .int 0, .null, .int 0, .int 0, .int 0, .null, .null, .null, .int 0, .null, .int 0, .null, .null, .null, .null, .int 0, .null, .null, .null, .null, .int 0, .int 0])), (q1, .inl (cy 0, 7, .inl (fun _ => 0))), (q2, .inl (cy 0, 4945, .inl (fun _ => 0))), (q3, .inl (cy 0, 9890, .inl (fun _ => 0))), (q4, .inl (cy 2, 2, .inl (fun _ => 0)))] H locs := hw
  refine lv_aload_n hx hb dX9_init_37 rfl (lv_at hl 0 rfl) ?_
  refine lv_bipush (v := 70) hx hb dX9_init_38 (by decide) ?_
  refine nwB (N := 70) hc hw (by decide) (by decide) (by decide) (by decide) (by decide) dX9_init_40 (fun q5 H hw => ?_)
  refine W.widen (k := 5) (n := 14914) (by decide) (by decide) ?_
  replace hw : wV D A s.heap [(a0, .inr (9, [.int 0, .int 0, .ref q1, .ref q2, .ref q3, .ref q4, .int 0, .null, .null, .null, .int 0, .int 0, .null, .null, .null, .int 0, .int 0, .int 0, .int 0, .int 0, .int 0, .int 0, .null, .int 0, .int 0, .int 0, .null, .null, .null, .int 0, .null, .int 0, .null, .null, .null, .null, .int 0, .null, .null, .null, .null, .int 0, .int 0])), (q1, .inl (cy 0, 7, .inl (fun _ => 0))), (q2, .inl (cy 0, 4945, .inl (fun _ => 0))), (q3, .inl (cy 0, 9890, .inl (fun _ => 0))), (q4, .inl (cy 2, 2, .inl (fun _ => 0))), (q5, .inl (cy 1, 70, .inl (fun _ => 0)))] H locs := hw
  refine lv_dup hx hb dX9_init_42 rfl ?_
  refine lv_iconst (v := 0) hx hb dX9_init_43 (by decide) ?_
  refine lv_bipush (v := 119) hx hb dX9_init_44 (by decide) ?_
  refine sB hc hw 5 rfl (vin (by decide)) (j := 0) (by decide) dX9_init_46 (fun H locs hw => ?_)
  obtain ⟨f6, e_f6⟩ : ∃ z : Nat → Int32, z = upd (fun _ => 0) 0 (vp_nar .byte 119) := ⟨_, rfl⟩
  replace hw : wV D A s.heap [(a0, .inr (9, [.int 0, .int 0, .ref q1, .ref q2, .ref q3, .ref q4, .int 0, .null, .null, .null, .int 0, .int 0, .null, .null, .null, .int 0, .int 0, .int 0, .int 0, .int 0, .int 0, .int 0, .null, .int 0, .int 0, .int 0, .null, .null, .null, .int 0, .null, .int 0, .null, .null, .null, .null, .int 0, .null, .null, .null, .null, .int 0, .int 0])), (q1, .inl (cy 0, 7, .inl (fun _ => 0))), (q2, .inl (cy 0, 4945, .inl (fun _ => 0))), (q3, .inl (cy 0, 9890, .inl (fun _ => 0))), (q4, .inl (cy 2, 2, .inl (fun _ => 0))), (q5, .inl (cy 1, 70, .inl f6))] H locs := by rw [e_f6]; exact hw
  have hj : ∀ j : Nat, j < 1 → f6 j = wordsB.getD j 0 := by rw [e_f6]; exact upd_s (fun j h => absurd h (Nat.not_lt_zero j)) (by decide)
  clear e_f6
  refine lv_dup hx hb dX9_init_47 rfl ?_
  refine lv_iconst (v := 1) hx hb dX9_init_48 (by decide) ?_
  refine lv_bipush (v := 111) hx hb dX9_init_49 (by decide) ?_
  refine sB hc hw 5 rfl (vin (by decide)) (j := 1) (by decide) dX9_init_51 (fun H locs hw => ?_)
  obtain ⟨f7, e_f7⟩ : ∃ z : Nat → Int32, z = upd f6 1 (vp_nar .byte 111) := ⟨_, rfl⟩
  replace hw : wV D A s.heap [(a0, .inr (9, [.int 0, .int 0, .ref q1, .ref q2, .ref q3, .ref q4, .int 0, .null, .null, .null, .int 0, .int 0, .null, .null, .null, .int 0, .int 0, .int 0, .int 0, .int 0, .int 0, .int 0, .null, .int 0, .int 0, .int 0, .null, .null, .null, .int 0, .null, .int 0, .null, .null, .null, .null, .int 0, .null, .null, .null, .null, .int 0, .int 0])), (q1, .inl (cy 0, 7, .inl (fun _ => 0))), (q2, .inl (cy 0, 4945, .inl (fun _ => 0))), (q3, .inl (cy 0, 9890, .inl (fun _ => 0))), (q4, .inl (cy 2, 2, .inl (fun _ => 0))), (q5, .inl (cy 1, 70, .inl f7))] H locs := by rw [e_f7]; exact hw
  have hj : ∀ j : Nat, j < 2 → f7 j = wordsB.getD j 0 := by rw [e_f7]; exact upd_s hj (by decide)
  clear e_f7
  refine lv_dup hx hb dX9_init_52 rfl ?_
  refine lv_iconst (v := 2) hx hb dX9_init_53 (by decide) ?_
  refine lv_bipush (v := 114) hx hb dX9_init_54 (by decide) ?_
  refine sB hc hw 5 rfl (vin (by decide)) (j := 2) (by decide) dX9_init_56 (fun H locs hw => ?_)
  obtain ⟨f8, e_f8⟩ : ∃ z : Nat → Int32, z = upd f7 2 (vp_nar .byte 114) := ⟨_, rfl⟩
  replace hw : wV D A s.heap [(a0, .inr (9, [.int 0, .int 0, .ref q1, .ref q2, .ref q3, .ref q4, .int 0, .null, .null, .null, .int 0, .int 0, .null, .null, .null, .int 0, .int 0, .int 0, .int 0, .int 0, .int 0, .int 0, .null, .int 0, .int 0, .int 0, .null, .null, .null, .int 0, .null, .int 0, .null, .null, .null, .null, .int 0, .null, .null, .null, .null, .int 0, .int 0])), (q1, .inl (cy 0, 7, .inl (fun _ => 0))), (q2, .inl (cy 0, 4945, .inl (fun _ => 0))), (q3, .inl (cy 0, 9890, .inl (fun _ => 0))), (q4, .inl (cy 2, 2, .inl (fun _ => 0))), (q5, .inl (cy 1, 70, .inl f8))] H locs := by rw [e_f8]; exact hw
  have hj : ∀ j : Nat, j < 3 → f8 j = wordsB.getD j 0 := by rw [e_f8]; exact upd_s hj (by decide)
  clear e_f8
  refine lv_dup hx hb dX9_init_57 rfl ?_
  refine lv_iconst (v := 3) hx hb dX9_init_58 (by decide) ?_
  refine lv_bipush (v := 116) hx hb dX9_init_59 (by decide) ?_
  refine sB hc hw 5 rfl (vin (by decide)) (j := 3) (by decide) dX9_init_61 (fun H locs hw => ?_)
  obtain ⟨f9, e_f9⟩ : ∃ z : Nat → Int32, z = upd f8 3 (vp_nar .byte 116) := ⟨_, rfl⟩
  replace hw : wV D A s.heap [(a0, .inr (9, [.int 0, .int 0, .ref q1, .ref q2, .ref q3, .ref q4, .int 0, .null, .null, .null, .int 0, .int 0, .null, .null, .null, .int 0, .int 0, .int 0, .int 0, .int 0, .int 0, .int 0, .null, .int 0, .int 0, .int 0, .null, .null, .null, .int 0, .null, .int 0, .null, .null, .null, .null, .int 0, .null, .null, .null, .null, .int 0, .int 0])), (q1, .inl (cy 0, 7, .inl (fun _ => 0))), (q2, .inl (cy 0, 4945, .inl (fun _ => 0))), (q3, .inl (cy 0, 9890, .inl (fun _ => 0))), (q4, .inl (cy 2, 2, .inl (fun _ => 0))), (q5, .inl (cy 1, 70, .inl f9))] H locs := by rw [e_f9]; exact hw
  have hj : ∀ j : Nat, j < 4 → f9 j = wordsB.getD j 0 := by rw [e_f9]; exact upd_s hj (by decide)
  clear e_f9
  refine lv_dup hx hb dX9_init_62 rfl ?_
  refine lv_iconst (v := 4) hx hb dX9_init_63 (by decide) ?_
  refine lv_bipush (v := 104) hx hb dX9_init_64 (by decide) ?_
  refine sB hc hw 5 rfl (vin (by decide)) (j := 4) (by decide) dX9_init_66 (fun H locs hw => ?_)
  obtain ⟨f10, e_f10⟩ : ∃ z : Nat → Int32, z = upd f9 4 (vp_nar .byte 104) := ⟨_, rfl⟩
  replace hw : wV D A s.heap [(a0, .inr (9, [.int 0, .int 0, .ref q1, .ref q2, .ref q3, .ref q4, .int 0, .null, .null, .null, .int 0, .int 0, .null, .null, .null, .int 0, .int 0, .int 0, .int 0, .int 0, .int 0, .int 0, .null, .int 0, .int 0, .int 0, .null, .null, .null, .int 0, .null, .int 0, .null, .null, .null, .null, .int 0, .null, .null, .null, .null, .int 0, .int 0])), (q1, .inl (cy 0, 7, .inl (fun _ => 0))), (q2, .inl (cy 0, 4945, .inl (fun _ => 0))), (q3, .inl (cy 0, 9890, .inl (fun _ => 0))), (q4, .inl (cy 2, 2, .inl (fun _ => 0))), (q5, .inl (cy 1, 70, .inl f10))] H locs := by rw [e_f10]; exact hw
  have hj : ∀ j : Nat, j < 5 → f10 j = wordsB.getD j 0 := by rw [e_f10]; exact upd_s hj (by decide)
  clear e_f10
  refine lv_dup hx hb dX9_init_67 rfl ?_
  refine lv_iconst (v := 5) hx hb dX9_init_68 (by decide) ?_
  refine lv_bipush (v := 32) hx hb dX9_init_69 (by decide) ?_
  refine sB hc hw 5 rfl (vin (by decide)) (j := 5) (by decide) dX9_init_71 (fun H locs hw => ?_)
  obtain ⟨f11, e_f11⟩ : ∃ z : Nat → Int32, z = upd f10 5 (vp_nar .byte 32) := ⟨_, rfl⟩
  replace hw : wV D A s.heap [(a0, .inr (9, [.int 0, .int 0, .ref q1, .ref q2, .ref q3, .ref q4, .int 0, .null, .null, .null, .int 0, .int 0, .null, .null, .null, .int 0, .int 0, .int 0, .int 0, .int 0, .int 0, .int 0, .null, .int 0, .int 0, .int 0, .null, .null, .null, .int 0, .null, .int 0, .null, .null, .null, .null, .int 0, .null, .null, .null, .null, .int 0, .int 0])), (q1, .inl (cy 0, 7, .inl (fun _ => 0))), (q2, .inl (cy 0, 4945, .inl (fun _ => 0))), (q3, .inl (cy 0, 9890, .inl (fun _ => 0))), (q4, .inl (cy 2, 2, .inl (fun _ => 0))), (q5, .inl (cy 1, 70, .inl f11))] H locs := by rw [e_f11]; exact hw
  have hj : ∀ j : Nat, j < 6 → f11 j = wordsB.getD j 0 := by rw [e_f11]; exact upd_s hj (by decide)
  clear e_f11
  refine lv_dup hx hb dX9_init_72 rfl ?_
  refine lv_bipush (v := 6) hx hb dX9_init_73 (by decide) ?_
  refine lv_bipush (v := 103) hx hb dX9_init_75 (by decide) ?_
  refine sB hc hw 5 rfl (vin (by decide)) (j := 6) (by decide) dX9_init_77 (fun H locs hw => ?_)
  obtain ⟨f12, e_f12⟩ : ∃ z : Nat → Int32, z = upd f11 6 (vp_nar .byte 103) := ⟨_, rfl⟩
  replace hw : wV D A s.heap [(a0, .inr (9, [.int 0, .int 0, .ref q1, .ref q2, .ref q3, .ref q4, .int 0, .null, .null, .null, .int 0, .int 0, .null, .null, .null, .int 0, .int 0, .int 0, .int 0, .int 0, .int 0, .int 0, .null, .int 0, .int 0, .int 0, .null, .null, .null, .int 0, .null, .int 0, .null, .null, .null, .null, .int 0, .null, .null, .null, .null, .int 0, .int 0])), (q1, .inl (cy 0, 7, .inl (fun _ => 0))), (q2, .inl (cy 0, 4945, .inl (fun _ => 0))), (q3, .inl (cy 0, 9890, .inl (fun _ => 0))), (q4, .inl (cy 2, 2, .inl (fun _ => 0))), (q5, .inl (cy 1, 70, .inl f12))] H locs := by rw [e_f12]; exact hw
  have hj : ∀ j : Nat, j < 7 → f12 j = wordsB.getD j 0 := by rw [e_f12]; exact upd_s hj (by decide)
  clear e_f12
  refine lv_dup hx hb dX9_init_78 rfl ?_
  refine lv_bipush (v := 7) hx hb dX9_init_79 (by decide) ?_
  refine lv_bipush (v := 97) hx hb dX9_init_81 (by decide) ?_
  refine sB hc hw 5 rfl (vin (by decide)) (j := 7) (by decide) dX9_init_83 (fun H locs hw => ?_)
  obtain ⟨f13, e_f13⟩ : ∃ z : Nat → Int32, z = upd f12 7 (vp_nar .byte 97) := ⟨_, rfl⟩
  replace hw : wV D A s.heap [(a0, .inr (9, [.int 0, .int 0, .ref q1, .ref q2, .ref q3, .ref q4, .int 0, .null, .null, .null, .int 0, .int 0, .null, .null, .null, .int 0, .int 0, .int 0, .int 0, .int 0, .int 0, .int 0, .null, .int 0, .int 0, .int 0, .null, .null, .null, .int 0, .null, .int 0, .null, .null, .null, .null, .int 0, .null, .null, .null, .null, .int 0, .int 0])), (q1, .inl (cy 0, 7, .inl (fun _ => 0))), (q2, .inl (cy 0, 4945, .inl (fun _ => 0))), (q3, .inl (cy 0, 9890, .inl (fun _ => 0))), (q4, .inl (cy 2, 2, .inl (fun _ => 0))), (q5, .inl (cy 1, 70, .inl f13))] H locs := by rw [e_f13]; exact hw
  have hj : ∀ j : Nat, j < 8 → f13 j = wordsB.getD j 0 := by rw [e_f13]; exact upd_s hj (by decide)
  clear e_f13
  refine lv_dup hx hb dX9_init_84 rfl ?_
  refine lv_bipush (v := 8) hx hb dX9_init_85 (by decide) ?_
  refine lv_bipush (v := 112) hx hb dX9_init_87 (by decide) ?_
  refine sB hc hw 5 rfl (vin (by decide)) (j := 8) (by decide) dX9_init_89 (fun H locs hw => ?_)
  obtain ⟨f14, e_f14⟩ : ∃ z : Nat → Int32, z = upd f13 8 (vp_nar .byte 112) := ⟨_, rfl⟩
  replace hw : wV D A s.heap [(a0, .inr (9, [.int 0, .int 0, .ref q1, .ref q2, .ref q3, .ref q4, .int 0, .null, .null, .null, .int 0, .int 0, .null, .null, .null, .int 0, .int 0, .int 0, .int 0, .int 0, .int 0, .int 0, .null, .int 0, .int 0, .int 0, .null, .null, .null, .int 0, .null, .int 0, .null, .null, .null, .null, .int 0, .null, .null, .null, .null, .int 0, .int 0])), (q1, .inl (cy 0, 7, .inl (fun _ => 0))), (q2, .inl (cy 0, 4945, .inl (fun _ => 0))), (q3, .inl (cy 0, 9890, .inl (fun _ => 0))), (q4, .inl (cy 2, 2, .inl (fun _ => 0))), (q5, .inl (cy 1, 70, .inl f14))] H locs := by rw [e_f14]; exact hw
  have hj : ∀ j : Nat, j < 9 → f14 j = wordsB.getD j 0 := by rw [e_f14]; exact upd_s hj (by decide)
  clear e_f14
  refine lv_dup hx hb dX9_init_90 rfl ?_
  refine lv_bipush (v := 9) hx hb dX9_init_91 (by decide) ?_
  refine lv_bipush (v := 32) hx hb dX9_init_93 (by decide) ?_
  refine sB hc hw 5 rfl (vin (by decide)) (j := 9) (by decide) dX9_init_95 (fun H locs hw => ?_)
  obtain ⟨f15, e_f15⟩ : ∃ z : Nat → Int32, z = upd f14 9 (vp_nar .byte 32) := ⟨_, rfl⟩
  replace hw : wV D A s.heap [(a0, .inr (9, [.int 0, .int 0, .ref q1, .ref q2, .ref q3, .ref q4, .int 0, .null, .null, .null, .int 0, .int 0, .null, .null, .null, .int 0, .int 0, .int 0, .int 0, .int 0, .int 0, .int 0, .null, .int 0, .int 0, .int 0, .null, .null, .null, .int 0, .null, .int 0, .null, .null, .null, .null, .int 0, .null, .null, .null, .null, .int 0, .int 0])), (q1, .inl (cy 0, 7, .inl (fun _ => 0))), (q2, .inl (cy 0, 4945, .inl (fun _ => 0))), (q3, .inl (cy 0, 9890, .inl (fun _ => 0))), (q4, .inl (cy 2, 2, .inl (fun _ => 0))), (q5, .inl (cy 1, 70, .inl f15))] H locs := by rw [e_f15]; exact hw
  have hj : ∀ j : Nat, j < 10 → f15 j = wordsB.getD j 0 := by rw [e_f15]; exact upd_s hj (by decide)
  clear e_f15
  refine lv_dup hx hb dX9_init_96 rfl ?_
  refine lv_bipush (v := 10) hx hb dX9_init_97 (by decide) ?_
  refine lv_bipush (v := 98) hx hb dX9_init_99 (by decide) ?_
  refine sB hc hw 5 rfl (vin (by decide)) (j := 10) (by decide) dX9_init_101 (fun H locs hw => ?_)
  obtain ⟨f16, e_f16⟩ : ∃ z : Nat → Int32, z = upd f15 10 (vp_nar .byte 98) := ⟨_, rfl⟩
  replace hw : wV D A s.heap [(a0, .inr (9, [.int 0, .int 0, .ref q1, .ref q2, .ref q3, .ref q4, .int 0, .null, .null, .null, .int 0, .int 0, .null, .null, .null, .int 0, .int 0, .int 0, .int 0, .int 0, .int 0, .int 0, .null, .int 0, .int 0, .int 0, .null, .null, .null, .int 0, .null, .int 0, .null, .null, .null, .null, .int 0, .null, .null, .null, .null, .int 0, .int 0])), (q1, .inl (cy 0, 7, .inl (fun _ => 0))), (q2, .inl (cy 0, 4945, .inl (fun _ => 0))), (q3, .inl (cy 0, 9890, .inl (fun _ => 0))), (q4, .inl (cy 2, 2, .inl (fun _ => 0))), (q5, .inl (cy 1, 70, .inl f16))] H locs := by rw [e_f16]; exact hw
  have hj : ∀ j : Nat, j < 11 → f16 j = wordsB.getD j 0 := by rw [e_f16]; exact upd_s hj (by decide)
  clear e_f16
  refine lv_dup hx hb dX9_init_102 rfl ?_
  refine lv_bipush (v := 11) hx hb dX9_init_103 (by decide) ?_
  refine lv_bipush (v := 97) hx hb dX9_init_105 (by decide) ?_
  refine sB hc hw 5 rfl (vin (by decide)) (j := 11) (by decide) dX9_init_107 (fun H locs hw => ?_)
  obtain ⟨f17, e_f17⟩ : ∃ z : Nat → Int32, z = upd f16 11 (vp_nar .byte 97) := ⟨_, rfl⟩
  replace hw : wV D A s.heap [(a0, .inr (9, [.int 0, .int 0, .ref q1, .ref q2, .ref q3, .ref q4, .int 0, .null, .null, .null, .int 0, .int 0, .null, .null, .null, .int 0, .int 0, .int 0, .int 0, .int 0, .int 0, .int 0, .null, .int 0, .int 0, .int 0, .null, .null, .null, .int 0, .null, .int 0, .null, .null, .null, .null, .int 0, .null, .null, .null, .null, .int 0, .int 0])), (q1, .inl (cy 0, 7, .inl (fun _ => 0))), (q2, .inl (cy 0, 4945, .inl (fun _ => 0))), (q3, .inl (cy 0, 9890, .inl (fun _ => 0))), (q4, .inl (cy 2, 2, .inl (fun _ => 0))), (q5, .inl (cy 1, 70, .inl f17))] H locs := by rw [e_f17]; exact hw
  have hj : ∀ j : Nat, j < 12 → f17 j = wordsB.getD j 0 := by rw [e_f17]; exact upd_s hj (by decide)
  clear e_f17
  refine lv_dup hx hb dX9_init_108 rfl ?_
  refine lv_bipush (v := 12) hx hb dX9_init_109 (by decide) ?_
  refine lv_bipush (v := 114) hx hb dX9_init_111 (by decide) ?_
  refine sB hc hw 5 rfl (vin (by decide)) (j := 12) (by decide) dX9_init_113 (fun H locs hw => ?_)
  obtain ⟨f18, e_f18⟩ : ∃ z : Nat → Int32, z = upd f17 12 (vp_nar .byte 114) := ⟨_, rfl⟩
  replace hw : wV D A s.heap [(a0, .inr (9, [.int 0, .int 0, .ref q1, .ref q2, .ref q3, .ref q4, .int 0, .null, .null, .null, .int 0, .int 0, .null, .null, .null, .int 0, .int 0, .int 0, .int 0, .int 0, .int 0, .int 0, .null, .int 0, .int 0, .int 0, .null, .null, .null, .int 0, .null, .int 0, .null, .null, .null, .null, .int 0, .null, .null, .null, .null, .int 0, .int 0])), (q1, .inl (cy 0, 7, .inl (fun _ => 0))), (q2, .inl (cy 0, 4945, .inl (fun _ => 0))), (q3, .inl (cy 0, 9890, .inl (fun _ => 0))), (q4, .inl (cy 2, 2, .inl (fun _ => 0))), (q5, .inl (cy 1, 70, .inl f18))] H locs := by rw [e_f18]; exact hw
  have hj : ∀ j : Nat, j < 13 → f18 j = wordsB.getD j 0 := by rw [e_f18]; exact upd_s hj (by decide)
  clear e_f18
  refine lv_dup hx hb dX9_init_114 rfl ?_
  refine lv_bipush (v := 13) hx hb dX9_init_115 (by decide) ?_
  refine lv_bipush (v := 115) hx hb dX9_init_117 (by decide) ?_
  refine sB hc hw 5 rfl (vin (by decide)) (j := 13) (by decide) dX9_init_119 (fun H locs hw => ?_)
  obtain ⟨f19, e_f19⟩ : ∃ z : Nat → Int32, z = upd f18 13 (vp_nar .byte 115) := ⟨_, rfl⟩
  replace hw : wV D A s.heap [(a0, .inr (9, [.int 0, .int 0, .ref q1, .ref q2, .ref q3, .ref q4, .int 0, .null, .null, .null, .int 0, .int 0, .null, .null, .null, .int 0, .int 0, .int 0, .int 0, .int 0, .int 0, .int 0, .null, .int 0, .int 0, .int 0, .null, .null, .null, .int 0, .null, .int 0, .null, .null, .null, .null, .int 0, .null, .null, .null, .null, .int 0, .int 0])), (q1, .inl (cy 0, 7, .inl (fun _ => 0))), (q2, .inl (cy 0, 4945, .inl (fun _ => 0))), (q3, .inl (cy 0, 9890, .inl (fun _ => 0))), (q4, .inl (cy 2, 2, .inl (fun _ => 0))), (q5, .inl (cy 1, 70, .inl f19))] H locs := by rw [e_f19]; exact hw
  have hj : ∀ j : Nat, j < 14 → f19 j = wordsB.getD j 0 := by rw [e_f19]; exact upd_s hj (by decide)
  clear e_f19
  refine lv_dup hx hb dX9_init_120 rfl ?_
  refine lv_bipush (v := 14) hx hb dX9_init_121 (by decide) ?_
  refine lv_bipush (v := 32) hx hb dX9_init_123 (by decide) ?_
  refine sB hc hw 5 rfl (vin (by decide)) (j := 14) (by decide) dX9_init_125 (fun H locs hw => ?_)
  obtain ⟨f20, e_f20⟩ : ∃ z : Nat → Int32, z = upd f19 14 (vp_nar .byte 32) := ⟨_, rfl⟩
  replace hw : wV D A s.heap [(a0, .inr (9, [.int 0, .int 0, .ref q1, .ref q2, .ref q3, .ref q4, .int 0, .null, .null, .null, .int 0, .int 0, .null, .null, .null, .int 0, .int 0, .int 0, .int 0, .int 0, .int 0, .int 0, .null, .int 0, .int 0, .int 0, .null, .null, .null, .int 0, .null, .int 0, .null, .null, .null, .null, .int 0, .null, .null, .null, .null, .int 0, .int 0])), (q1, .inl (cy 0, 7, .inl (fun _ => 0))), (q2, .inl (cy 0, 4945, .inl (fun _ => 0))), (q3, .inl (cy 0, 9890, .inl (fun _ => 0))), (q4, .inl (cy 2, 2, .inl (fun _ => 0))), (q5, .inl (cy 1, 70, .inl f20))] H locs := by rw [e_f20]; exact hw
  have hj : ∀ j : Nat, j < 15 → f20 j = wordsB.getD j 0 := by rw [e_f20]; exact upd_s hj (by decide)
  clear e_f20
  refine lv_dup hx hb dX9_init_126 rfl ?_
  refine lv_bipush (v := 15) hx hb dX9_init_127 (by decide) ?_
  refine lv_bipush (v := 105) hx hb dX9_init_129 (by decide) ?_
  refine sB hc hw 5 rfl (vin (by decide)) (j := 15) (by decide) dX9_init_131 (fun H locs hw => ?_)
  obtain ⟨f21, e_f21⟩ : ∃ z : Nat → Int32, z = upd f20 15 (vp_nar .byte 105) := ⟨_, rfl⟩
  replace hw : wV D A s.heap [(a0, .inr (9, [.int 0, .int 0, .ref q1, .ref q2, .ref q3, .ref q4, .int 0, .null, .null, .null, .int 0, .int 0, .null, .null, .null, .int 0, .int 0, .int 0, .int 0, .int 0, .int 0, .int 0, .null, .int 0, .int 0, .int 0, .null, .null, .null, .int 0, .null, .int 0, .null, .null, .null, .null, .int 0, .null, .null, .null, .null, .int 0, .int 0])), (q1, .inl (cy 0, 7, .inl (fun _ => 0))), (q2, .inl (cy 0, 4945, .inl (fun _ => 0))), (q3, .inl (cy 0, 9890, .inl (fun _ => 0))), (q4, .inl (cy 2, 2, .inl (fun _ => 0))), (q5, .inl (cy 1, 70, .inl f21))] H locs := by rw [e_f21]; exact hw
  have hj : ∀ j : Nat, j < 16 → f21 j = wordsB.getD j 0 := by rw [e_f21]; exact upd_s hj (by decide)
  clear e_f21
  refine lv_dup hx hb dX9_init_132 rfl ?_
  refine lv_bipush (v := 16) hx hb dX9_init_133 (by decide) ?_
  refine lv_bipush (v := 102) hx hb dX9_init_135 (by decide) ?_
  refine sB hc hw 5 rfl (vin (by decide)) (j := 16) (by decide) dX9_init_137 (fun H locs hw => ?_)
  obtain ⟨f22, e_f22⟩ : ∃ z : Nat → Int32, z = upd f21 16 (vp_nar .byte 102) := ⟨_, rfl⟩
  replace hw : wV D A s.heap [(a0, .inr (9, [.int 0, .int 0, .ref q1, .ref q2, .ref q3, .ref q4, .int 0, .null, .null, .null, .int 0, .int 0, .null, .null, .null, .int 0, .int 0, .int 0, .int 0, .int 0, .int 0, .int 0, .null, .int 0, .int 0, .int 0, .null, .null, .null, .int 0, .null, .int 0, .null, .null, .null, .null, .int 0, .null, .null, .null, .null, .int 0, .int 0])), (q1, .inl (cy 0, 7, .inl (fun _ => 0))), (q2, .inl (cy 0, 4945, .inl (fun _ => 0))), (q3, .inl (cy 0, 9890, .inl (fun _ => 0))), (q4, .inl (cy 2, 2, .inl (fun _ => 0))), (q5, .inl (cy 1, 70, .inl f22))] H locs := by rw [e_f22]; exact hw
  have hj : ∀ j : Nat, j < 17 → f22 j = wordsB.getD j 0 := by rw [e_f22]; exact upd_s hj (by decide)
  clear e_f22
  refine lv_dup hx hb dX9_init_138 rfl ?_
  refine lv_bipush (v := 17) hx hb dX9_init_139 (by decide) ?_
  refine lv_bipush (v := 32) hx hb dX9_init_141 (by decide) ?_
  refine sB hc hw 5 rfl (vin (by decide)) (j := 17) (by decide) dX9_init_143 (fun H locs hw => ?_)
  obtain ⟨f23, e_f23⟩ : ∃ z : Nat → Int32, z = upd f22 17 (vp_nar .byte 32) := ⟨_, rfl⟩
  replace hw : wV D A s.heap [(a0, .inr (9, [.int 0, .int 0, .ref q1, .ref q2, .ref q3, .ref q4, .int 0, .null, .null, .null, .int 0, .int 0, .null, .null, .null, .int 0, .int 0, .int 0, .int 0, .int 0, .int 0, .int 0, .null, .int 0, .int 0, .int 0, .null, .null, .null, .int 0, .null, .int 0, .null, .null, .null, .null, .int 0, .null, .null, .null, .null, .int 0, .int 0])), (q1, .inl (cy 0, 7, .inl (fun _ => 0))), (q2, .inl (cy 0, 4945, .inl (fun _ => 0))), (q3, .inl (cy 0, 9890, .inl (fun _ => 0))), (q4, .inl (cy 2, 2, .inl (fun _ => 0))), (q5, .inl (cy 1, 70, .inl f23))] H locs := by rw [e_f23]; exact hw
  have hj : ∀ j : Nat, j < 18 → f23 j = wordsB.getD j 0 := by rw [e_f23]; exact upd_s hj (by decide)
  clear e_f23
  refine lv_dup hx hb dX9_init_144 rfl ?_
  refine lv_bipush (v := 18) hx hb dX9_init_145 (by decide) ?_
  refine lv_bipush (v := 111) hx hb dX9_init_147 (by decide) ?_
  refine sB hc hw 5 rfl (vin (by decide)) (j := 18) (by decide) dX9_init_149 (fun H locs hw => ?_)
  obtain ⟨f24, e_f24⟩ : ∃ z : Nat → Int32, z = upd f23 18 (vp_nar .byte 111) := ⟨_, rfl⟩
  replace hw : wV D A s.heap [(a0, .inr (9, [.int 0, .int 0, .ref q1, .ref q2, .ref q3, .ref q4, .int 0, .null, .null, .null, .int 0, .int 0, .null, .null, .null, .int 0, .int 0, .int 0, .int 0, .int 0, .int 0, .int 0, .null, .int 0, .int 0, .int 0, .null, .null, .null, .int 0, .null, .int 0, .null, .null, .null, .null, .int 0, .null, .null, .null, .null, .int 0, .int 0])), (q1, .inl (cy 0, 7, .inl (fun _ => 0))), (q2, .inl (cy 0, 4945, .inl (fun _ => 0))), (q3, .inl (cy 0, 9890, .inl (fun _ => 0))), (q4, .inl (cy 2, 2, .inl (fun _ => 0))), (q5, .inl (cy 1, 70, .inl f24))] H locs := by rw [e_f24]; exact hw
  have hj : ∀ j : Nat, j < 19 → f24 j = wordsB.getD j 0 := by rw [e_f24]; exact upd_s hj (by decide)
  clear e_f24
  refine lv_dup hx hb dX9_init_150 rfl ?_
  refine lv_bipush (v := 19) hx hb dX9_init_151 (by decide) ?_
  refine lv_bipush (v := 114) hx hb dX9_init_153 (by decide) ?_
  refine sB hc hw 5 rfl (vin (by decide)) (j := 19) (by decide) dX9_init_155 (fun H locs hw => ?_)
  obtain ⟨f25, e_f25⟩ : ∃ z : Nat → Int32, z = upd f24 19 (vp_nar .byte 114) := ⟨_, rfl⟩
  replace hw : wV D A s.heap [(a0, .inr (9, [.int 0, .int 0, .ref q1, .ref q2, .ref q3, .ref q4, .int 0, .null, .null, .null, .int 0, .int 0, .null, .null, .null, .int 0, .int 0, .int 0, .int 0, .int 0, .int 0, .int 0, .null, .int 0, .int 0, .int 0, .null, .null, .null, .int 0, .null, .int 0, .null, .null, .null, .null, .int 0, .null, .null, .null, .null, .int 0, .int 0])), (q1, .inl (cy 0, 7, .inl (fun _ => 0))), (q2, .inl (cy 0, 4945, .inl (fun _ => 0))), (q3, .inl (cy 0, 9890, .inl (fun _ => 0))), (q4, .inl (cy 2, 2, .inl (fun _ => 0))), (q5, .inl (cy 1, 70, .inl f25))] H locs := by rw [e_f25]; exact hw
  have hj : ∀ j : Nat, j < 20 → f25 j = wordsB.getD j 0 := by rw [e_f25]; exact upd_s hj (by decide)
  clear e_f25
  refine lv_dup hx hb dX9_init_156 rfl ?_
  refine lv_bipush (v := 20) hx hb dX9_init_157 (by decide) ?_
  refine lv_bipush (v := 32) hx hb dX9_init_159 (by decide) ?_
  refine sB hc hw 5 rfl (vin (by decide)) (j := 20) (by decide) dX9_init_161 (fun H locs hw => ?_)
  obtain ⟨f26, e_f26⟩ : ∃ z : Nat → Int32, z = upd f25 20 (vp_nar .byte 32) := ⟨_, rfl⟩
  replace hw : wV D A s.heap [(a0, .inr (9, [.int 0, .int 0, .ref q1, .ref q2, .ref q3, .ref q4, .int 0, .null, .null, .null, .int 0, .int 0, .null, .null, .null, .int 0, .int 0, .int 0, .int 0, .int 0, .int 0, .int 0, .null, .int 0, .int 0, .int 0, .null, .null, .null, .int 0, .null, .int 0, .null, .null, .null, .null, .int 0, .null, .null, .null, .null, .int 0, .int 0])), (q1, .inl (cy 0, 7, .inl (fun _ => 0))), (q2, .inl (cy 0, 4945, .inl (fun _ => 0))), (q3, .inl (cy 0, 9890, .inl (fun _ => 0))), (q4, .inl (cy 2, 2, .inl (fun _ => 0))), (q5, .inl (cy 1, 70, .inl f26))] H locs := by rw [e_f26]; exact hw
  have hj : ∀ j : Nat, j < 21 → f26 j = wordsB.getD j 0 := by rw [e_f26]; exact upd_s hj (by decide)
  clear e_f26
  refine lv_dup hx hb dX9_init_162 rfl ?_
  refine lv_bipush (v := 21) hx hb dX9_init_163 (by decide) ?_
  refine lv_bipush (v := 97) hx hb dX9_init_165 (by decide) ?_
  refine sB hc hw 5 rfl (vin (by decide)) (j := 21) (by decide) dX9_init_167 (fun H locs hw => ?_)
  obtain ⟨f27, e_f27⟩ : ∃ z : Nat → Int32, z = upd f26 21 (vp_nar .byte 97) := ⟨_, rfl⟩
  replace hw : wV D A s.heap [(a0, .inr (9, [.int 0, .int 0, .ref q1, .ref q2, .ref q3, .ref q4, .int 0, .null, .null, .null, .int 0, .int 0, .null, .null, .null, .int 0, .int 0, .int 0, .int 0, .int 0, .int 0, .int 0, .null, .int 0, .int 0, .int 0, .null, .null, .null, .int 0, .null, .int 0, .null, .null, .null, .null, .int 0, .null, .null, .null, .null, .int 0, .int 0])), (q1, .inl (cy 0, 7, .inl (fun _ => 0))), (q2, .inl (cy 0, 4945, .inl (fun _ => 0))), (q3, .inl (cy 0, 9890, .inl (fun _ => 0))), (q4, .inl (cy 2, 2, .inl (fun _ => 0))), (q5, .inl (cy 1, 70, .inl f27))] H locs := by rw [e_f27]; exact hw
  have hj : ∀ j : Nat, j < 22 → f27 j = wordsB.getD j 0 := by rw [e_f27]; exact upd_s hj (by decide)
  clear e_f27
  refine lv_dup hx hb dX9_init_168 rfl ?_
  refine lv_bipush (v := 22) hx hb dX9_init_169 (by decide) ?_
  refine lv_bipush (v := 110) hx hb dX9_init_171 (by decide) ?_
  refine sB hc hw 5 rfl (vin (by decide)) (j := 22) (by decide) dX9_init_173 (fun H locs hw => ?_)
  obtain ⟨f28, e_f28⟩ : ∃ z : Nat → Int32, z = upd f27 22 (vp_nar .byte 110) := ⟨_, rfl⟩
  replace hw : wV D A s.heap [(a0, .inr (9, [.int 0, .int 0, .ref q1, .ref q2, .ref q3, .ref q4, .int 0, .null, .null, .null, .int 0, .int 0, .null, .null, .null, .int 0, .int 0, .int 0, .int 0, .int 0, .int 0, .int 0, .null, .int 0, .int 0, .int 0, .null, .null, .null, .int 0, .null, .int 0, .null, .null, .null, .null, .int 0, .null, .null, .null, .null, .int 0, .int 0])), (q1, .inl (cy 0, 7, .inl (fun _ => 0))), (q2, .inl (cy 0, 4945, .inl (fun _ => 0))), (q3, .inl (cy 0, 9890, .inl (fun _ => 0))), (q4, .inl (cy 2, 2, .inl (fun _ => 0))), (q5, .inl (cy 1, 70, .inl f28))] H locs := by rw [e_f28]; exact hw
  have hj : ∀ j : Nat, j < 23 → f28 j = wordsB.getD j 0 := by rw [e_f28]; exact upd_s hj (by decide)
  clear e_f28
  refine lv_dup hx hb dX9_init_174 rfl ?_
  refine lv_bipush (v := 23) hx hb dX9_init_175 (by decide) ?_
  refine lv_bipush (v := 100) hx hb dX9_init_177 (by decide) ?_
  refine sB hc hw 5 rfl (vin (by decide)) (j := 23) (by decide) dX9_init_179 (fun H locs hw => ?_)
  obtain ⟨f29, e_f29⟩ : ∃ z : Nat → Int32, z = upd f28 23 (vp_nar .byte 100) := ⟨_, rfl⟩
  replace hw : wV D A s.heap [(a0, .inr (9, [.int 0, .int 0, .ref q1, .ref q2, .ref q3, .ref q4, .int 0, .null, .null, .null, .int 0, .int 0, .null, .null, .null, .int 0, .int 0, .int 0, .int 0, .int 0, .int 0, .int 0, .null, .int 0, .int 0, .int 0, .null, .null, .null, .int 0, .null, .int 0, .null, .null, .null, .null, .int 0, .null, .null, .null, .null, .int 0, .int 0])), (q1, .inl (cy 0, 7, .inl (fun _ => 0))), (q2, .inl (cy 0, 4945, .inl (fun _ => 0))), (q3, .inl (cy 0, 9890, .inl (fun _ => 0))), (q4, .inl (cy 2, 2, .inl (fun _ => 0))), (q5, .inl (cy 1, 70, .inl f29))] H locs := by rw [e_f29]; exact hw
  have hj : ∀ j : Nat, j < 24 → f29 j = wordsB.getD j 0 := by rw [e_f29]; exact upd_s hj (by decide)
  clear e_f29
  refine lv_dup hx hb dX9_init_180 rfl ?_
  refine lv_bipush (v := 24) hx hb dX9_init_181 (by decide) ?_
  refine lv_bipush (v := 32) hx hb dX9_init_183 (by decide) ?_
  refine sB hc hw 5 rfl (vin (by decide)) (j := 24) (by decide) dX9_init_185 (fun H locs hw => ?_)
  obtain ⟨f30, e_f30⟩ : ∃ z : Nat → Int32, z = upd f29 24 (vp_nar .byte 32) := ⟨_, rfl⟩
  replace hw : wV D A s.heap [(a0, .inr (9, [.int 0, .int 0, .ref q1, .ref q2, .ref q3, .ref q4, .int 0, .null, .null, .null, .int 0, .int 0, .null, .null, .null, .int 0, .int 0, .int 0, .int 0, .int 0, .int 0, .int 0, .null, .int 0, .int 0, .int 0, .null, .null, .null, .int 0, .null, .int 0, .null, .null, .null, .null, .int 0, .null, .null, .null, .null, .int 0, .int 0])), (q1, .inl (cy 0, 7, .inl (fun _ => 0))), (q2, .inl (cy 0, 4945, .inl (fun _ => 0))), (q3, .inl (cy 0, 9890, .inl (fun _ => 0))), (q4, .inl (cy 2, 2, .inl (fun _ => 0))), (q5, .inl (cy 1, 70, .inl f30))] H locs := by rw [e_f30]; exact hw
  have hj : ∀ j : Nat, j < 25 → f30 j = wordsB.getD j 0 := by rw [e_f30]; exact upd_s hj (by decide)
  clear e_f30
  refine lv_dup hx hb dX9_init_186 rfl ?_
  refine lv_bipush (v := 25) hx hb dX9_init_187 (by decide) ?_
  refine lv_bipush (v := 110) hx hb dX9_init_189 (by decide) ?_
  refine sB hc hw 5 rfl (vin (by decide)) (j := 25) (by decide) dX9_init_191 (fun H locs hw => ?_)
  obtain ⟨f31, e_f31⟩ : ∃ z : Nat → Int32, z = upd f30 25 (vp_nar .byte 110) := ⟨_, rfl⟩
  replace hw : wV D A s.heap [(a0, .inr (9, [.int 0, .int 0, .ref q1, .ref q2, .ref q3, .ref q4, .int 0, .null, .null, .null, .int 0, .int 0, .null, .null, .null, .int 0, .int 0, .int 0, .int 0, .int 0, .int 0, .int 0, .null, .int 0, .int 0, .int 0, .null, .null, .null, .int 0, .null, .int 0, .null, .null, .null, .null, .int 0, .null, .null, .null, .null, .int 0, .int 0])), (q1, .inl (cy 0, 7, .inl (fun _ => 0))), (q2, .inl (cy 0, 4945, .inl (fun _ => 0))), (q3, .inl (cy 0, 9890, .inl (fun _ => 0))), (q4, .inl (cy 2, 2, .inl (fun _ => 0))), (q5, .inl (cy 1, 70, .inl f31))] H locs := by rw [e_f31]; exact hw
  have hj : ∀ j : Nat, j < 26 → f31 j = wordsB.getD j 0 := by rw [e_f31]; exact upd_s hj (by decide)
  clear e_f31
  refine lv_dup hx hb dX9_init_192 rfl ?_
  refine lv_bipush (v := 26) hx hb dX9_init_193 (by decide) ?_
  refine lv_bipush (v := 111) hx hb dX9_init_195 (by decide) ?_
  refine sB hc hw 5 rfl (vin (by decide)) (j := 26) (by decide) dX9_init_197 (fun H locs hw => ?_)
  obtain ⟨f32, e_f32⟩ : ∃ z : Nat → Int32, z = upd f31 26 (vp_nar .byte 111) := ⟨_, rfl⟩
  replace hw : wV D A s.heap [(a0, .inr (9, [.int 0, .int 0, .ref q1, .ref q2, .ref q3, .ref q4, .int 0, .null, .null, .null, .int 0, .int 0, .null, .null, .null, .int 0, .int 0, .int 0, .int 0, .int 0, .int 0, .int 0, .null, .int 0, .int 0, .int 0, .null, .null, .null, .int 0, .null, .int 0, .null, .null, .null, .null, .int 0, .null, .null, .null, .null, .int 0, .int 0])), (q1, .inl (cy 0, 7, .inl (fun _ => 0))), (q2, .inl (cy 0, 4945, .inl (fun _ => 0))), (q3, .inl (cy 0, 9890, .inl (fun _ => 0))), (q4, .inl (cy 2, 2, .inl (fun _ => 0))), (q5, .inl (cy 1, 70, .inl f32))] H locs := by rw [e_f32]; exact hw
  have hj : ∀ j : Nat, j < 27 → f32 j = wordsB.getD j 0 := by rw [e_f32]; exact upd_s hj (by decide)
  clear e_f32
  refine lv_dup hx hb dX9_init_198 rfl ?_
  refine lv_bipush (v := 27) hx hb dX9_init_199 (by decide) ?_
  refine lv_bipush (v := 116) hx hb dX9_init_201 (by decide) ?_
  refine sB hc hw 5 rfl (vin (by decide)) (j := 27) (by decide) dX9_init_203 (fun H locs hw => ?_)
  obtain ⟨f33, e_f33⟩ : ∃ z : Nat → Int32, z = upd f32 27 (vp_nar .byte 116) := ⟨_, rfl⟩
  replace hw : wV D A s.heap [(a0, .inr (9, [.int 0, .int 0, .ref q1, .ref q2, .ref q3, .ref q4, .int 0, .null, .null, .null, .int 0, .int 0, .null, .null, .null, .int 0, .int 0, .int 0, .int 0, .int 0, .int 0, .int 0, .null, .int 0, .int 0, .int 0, .null, .null, .null, .int 0, .null, .int 0, .null, .null, .null, .null, .int 0, .null, .null, .null, .null, .int 0, .int 0])), (q1, .inl (cy 0, 7, .inl (fun _ => 0))), (q2, .inl (cy 0, 4945, .inl (fun _ => 0))), (q3, .inl (cy 0, 9890, .inl (fun _ => 0))), (q4, .inl (cy 2, 2, .inl (fun _ => 0))), (q5, .inl (cy 1, 70, .inl f33))] H locs := by rw [e_f33]; exact hw
  have hj : ∀ j : Nat, j < 28 → f33 j = wordsB.getD j 0 := by rw [e_f33]; exact upd_s hj (by decide)
  clear e_f33
  refine lv_dup hx hb dX9_init_204 rfl ?_
  refine lv_bipush (v := 28) hx hb dX9_init_205 (by decide) ?_
  refine lv_bipush (v := 32) hx hb dX9_init_207 (by decide) ?_
  refine sB hc hw 5 rfl (vin (by decide)) (j := 28) (by decide) dX9_init_209 (fun H locs hw => ?_)
  obtain ⟨f34, e_f34⟩ : ∃ z : Nat → Int32, z = upd f33 28 (vp_nar .byte 32) := ⟨_, rfl⟩
  replace hw : wV D A s.heap [(a0, .inr (9, [.int 0, .int 0, .ref q1, .ref q2, .ref q3, .ref q4, .int 0, .null, .null, .null, .int 0, .int 0, .null, .null, .null, .int 0, .int 0, .int 0, .int 0, .int 0, .int 0, .int 0, .null, .int 0, .int 0, .int 0, .null, .null, .null, .int 0, .null, .int 0, .null, .null, .null, .null, .int 0, .null, .null, .null, .null, .int 0, .int 0])), (q1, .inl (cy 0, 7, .inl (fun _ => 0))), (q2, .inl (cy 0, 4945, .inl (fun _ => 0))), (q3, .inl (cy 0, 9890, .inl (fun _ => 0))), (q4, .inl (cy 2, 2, .inl (fun _ => 0))), (q5, .inl (cy 1, 70, .inl f34))] H locs := by rw [e_f34]; exact hw
  have hj : ∀ j : Nat, j < 29 → f34 j = wordsB.getD j 0 := by rw [e_f34]; exact upd_s hj (by decide)
  clear e_f34
  refine lv_dup hx hb dX9_init_210 rfl ?_
  refine lv_bipush (v := 29) hx hb dX9_init_211 (by decide) ?_
  refine lv_bipush (v := 116) hx hb dX9_init_213 (by decide) ?_
  refine sB hc hw 5 rfl (vin (by decide)) (j := 29) (by decide) dX9_init_215 (fun H locs hw => ?_)
  obtain ⟨f35, e_f35⟩ : ∃ z : Nat → Int32, z = upd f34 29 (vp_nar .byte 116) := ⟨_, rfl⟩
  replace hw : wV D A s.heap [(a0, .inr (9, [.int 0, .int 0, .ref q1, .ref q2, .ref q3, .ref q4, .int 0, .null, .null, .null, .int 0, .int 0, .null, .null, .null, .int 0, .int 0, .int 0, .int 0, .int 0, .int 0, .int 0, .null, .int 0, .int 0, .int 0, .null, .null, .null, .int 0, .null, .int 0, .null, .null, .null, .null, .int 0, .null, .null, .null, .null, .int 0, .int 0])), (q1, .inl (cy 0, 7, .inl (fun _ => 0))), (q2, .inl (cy 0, 4945, .inl (fun _ => 0))), (q3, .inl (cy 0, 9890, .inl (fun _ => 0))), (q4, .inl (cy 2, 2, .inl (fun _ => 0))), (q5, .inl (cy 1, 70, .inl f35))] H locs := by rw [e_f35]; exact hw
  have hj : ∀ j : Nat, j < 30 → f35 j = wordsB.getD j 0 := by rw [e_f35]; exact upd_s hj (by decide)
  clear e_f35
  refine lv_dup hx hb dX9_init_216 rfl ?_
  refine lv_bipush (v := 30) hx hb dX9_init_217 (by decide) ?_
  refine lv_bipush (v := 97) hx hb dX9_init_219 (by decide) ?_
  refine sB hc hw 5 rfl (vin (by decide)) (j := 30) (by decide) dX9_init_221 (fun H locs hw => ?_)
  obtain ⟨f36, e_f36⟩ : ∃ z : Nat → Int32, z = upd f35 30 (vp_nar .byte 97) := ⟨_, rfl⟩
  replace hw : wV D A s.heap [(a0, .inr (9, [.int 0, .int 0, .ref q1, .ref q2, .ref q3, .ref q4, .int 0, .null, .null, .null, .int 0, .int 0, .null, .null, .null, .int 0, .int 0, .int 0, .int 0, .int 0, .int 0, .int 0, .null, .int 0, .int 0, .int 0, .null, .null, .null, .int 0, .null, .int 0, .null, .null, .null, .null, .int 0, .null, .null, .null, .null, .int 0, .int 0])), (q1, .inl (cy 0, 7, .inl (fun _ => 0))), (q2, .inl (cy 0, 4945, .inl (fun _ => 0))), (q3, .inl (cy 0, 9890, .inl (fun _ => 0))), (q4, .inl (cy 2, 2, .inl (fun _ => 0))), (q5, .inl (cy 1, 70, .inl f36))] H locs := by rw [e_f36]; exact hw
  have hj : ∀ j : Nat, j < 31 → f36 j = wordsB.getD j 0 := by rw [e_f36]; exact upd_s hj (by decide)
  clear e_f36
  refine lv_dup hx hb dX9_init_222 rfl ?_
  refine lv_bipush (v := 31) hx hb dX9_init_223 (by decide) ?_
  refine lv_bipush (v := 108) hx hb dX9_init_225 (by decide) ?_
  refine sB hc hw 5 rfl (vin (by decide)) (j := 31) (by decide) dX9_init_227 (fun H locs hw => ?_)
  obtain ⟨f37, e_f37⟩ : ∃ z : Nat → Int32, z = upd f36 31 (vp_nar .byte 108) := ⟨_, rfl⟩
  replace hw : wV D A s.heap [(a0, .inr (9, [.int 0, .int 0, .ref q1, .ref q2, .ref q3, .ref q4, .int 0, .null, .null, .null, .int 0, .int 0, .null, .null, .null, .int 0, .int 0, .int 0, .int 0, .int 0, .int 0, .int 0, .null, .int 0, .int 0, .int 0, .null, .null, .null, .int 0, .null, .int 0, .null, .null, .null, .null, .int 0, .null, .null, .null, .null, .int 0, .int 0])), (q1, .inl (cy 0, 7, .inl (fun _ => 0))), (q2, .inl (cy 0, 4945, .inl (fun _ => 0))), (q3, .inl (cy 0, 9890, .inl (fun _ => 0))), (q4, .inl (cy 2, 2, .inl (fun _ => 0))), (q5, .inl (cy 1, 70, .inl f37))] H locs := by rw [e_f37]; exact hw
  have hj : ∀ j : Nat, j < 32 → f37 j = wordsB.getD j 0 := by rw [e_f37]; exact upd_s hj (by decide)
  clear e_f37
  refine lv_dup hx hb dX9_init_228 rfl ?_
  refine lv_bipush (v := 32) hx hb dX9_init_229 (by decide) ?_
  refine lv_bipush (v := 101) hx hb dX9_init_231 (by decide) ?_
  refine sB hc hw 5 rfl (vin (by decide)) (j := 32) (by decide) dX9_init_233 (fun H locs hw => ?_)
  obtain ⟨f38, e_f38⟩ : ∃ z : Nat → Int32, z = upd f37 32 (vp_nar .byte 101) := ⟨_, rfl⟩
  replace hw : wV D A s.heap [(a0, .inr (9, [.int 0, .int 0, .ref q1, .ref q2, .ref q3, .ref q4, .int 0, .null, .null, .null, .int 0, .int 0, .null, .null, .null, .int 0, .int 0, .int 0, .int 0, .int 0, .int 0, .int 0, .null, .int 0, .int 0, .int 0, .null, .null, .null, .int 0, .null, .int 0, .null, .null, .null, .null, .int 0, .null, .null, .null, .null, .int 0, .int 0])), (q1, .inl (cy 0, 7, .inl (fun _ => 0))), (q2, .inl (cy 0, 4945, .inl (fun _ => 0))), (q3, .inl (cy 0, 9890, .inl (fun _ => 0))), (q4, .inl (cy 2, 2, .inl (fun _ => 0))), (q5, .inl (cy 1, 70, .inl f38))] H locs := by rw [e_f38]; exact hw
  have hj : ∀ j : Nat, j < 33 → f38 j = wordsB.getD j 0 := by rw [e_f38]; exact upd_s hj (by decide)
  clear e_f38
  refine lv_dup hx hb dX9_init_234 rfl ?_
  refine lv_bipush (v := 33) hx hb dX9_init_235 (by decide) ?_
  refine lv_bipush (v := 32) hx hb dX9_init_237 (by decide) ?_
  refine sB hc hw 5 rfl (vin (by decide)) (j := 33) (by decide) dX9_init_239 (fun H locs hw => ?_)
  obtain ⟨f39, e_f39⟩ : ∃ z : Nat → Int32, z = upd f38 33 (vp_nar .byte 32) := ⟨_, rfl⟩
  replace hw : wV D A s.heap [(a0, .inr (9, [.int 0, .int 0, .ref q1, .ref q2, .ref q3, .ref q4, .int 0, .null, .null, .null, .int 0, .int 0, .null, .null, .null, .int 0, .int 0, .int 0, .int 0, .int 0, .int 0, .int 0, .null, .int 0, .int 0, .int 0, .null, .null, .null, .int 0, .null, .int 0, .null, .null, .null, .null, .int 0, .null, .null, .null, .null, .int 0, .int 0])), (q1, .inl (cy 0, 7, .inl (fun _ => 0))), (q2, .inl (cy 0, 4945, .inl (fun _ => 0))), (q3, .inl (cy 0, 9890, .inl (fun _ => 0))), (q4, .inl (cy 2, 2, .inl (fun _ => 0))), (q5, .inl (cy 1, 70, .inl f39))] H locs := by rw [e_f39]; exact hw
  have hj : ∀ j : Nat, j < 34 → f39 j = wordsB.getD j 0 := by rw [e_f39]; exact upd_s hj (by decide)
  clear e_f39
  refine lv_dup hx hb dX9_init_240 rfl ?_
  refine lv_bipush (v := 34) hx hb dX9_init_241 (by decide) ?_
  refine lv_bipush (v := 102) hx hb dX9_init_243 (by decide) ?_
  refine sB hc hw 5 rfl (vin (by decide)) (j := 34) (by decide) dX9_init_245 (fun H locs hw => ?_)
  obtain ⟨f40, e_f40⟩ : ∃ z : Nat → Int32, z = upd f39 34 (vp_nar .byte 102) := ⟨_, rfl⟩
  replace hw : wV D A s.heap [(a0, .inr (9, [.int 0, .int 0, .ref q1, .ref q2, .ref q3, .ref q4, .int 0, .null, .null, .null, .int 0, .int 0, .null, .null, .null, .int 0, .int 0, .int 0, .int 0, .int 0, .int 0, .int 0, .null, .int 0, .int 0, .int 0, .null, .null, .null, .int 0, .null, .int 0, .null, .null, .null, .null, .int 0, .null, .null, .null, .null, .int 0, .int 0])), (q1, .inl (cy 0, 7, .inl (fun _ => 0))), (q2, .inl (cy 0, 4945, .inl (fun _ => 0))), (q3, .inl (cy 0, 9890, .inl (fun _ => 0))), (q4, .inl (cy 2, 2, .inl (fun _ => 0))), (q5, .inl (cy 1, 70, .inl f40))] H locs := by rw [e_f40]; exact hw
  have hj : ∀ j : Nat, j < 35 → f40 j = wordsB.getD j 0 := by rw [e_f40]; exact upd_s hj (by decide)
  clear e_f40
  refine lv_dup hx hb dX9_init_246 rfl ?_
  refine lv_bipush (v := 35) hx hb dX9_init_247 (by decide) ?_
  refine lv_bipush (v := 114) hx hb dX9_init_249 (by decide) ?_
  refine sB hc hw 5 rfl (vin (by decide)) (j := 35) (by decide) dX9_init_251 (fun H locs hw => ?_)
  obtain ⟨f41, e_f41⟩ : ∃ z : Nat → Int32, z = upd f40 35 (vp_nar .byte 114) := ⟨_, rfl⟩
  replace hw : wV D A s.heap [(a0, .inr (9, [.int 0, .int 0, .ref q1, .ref q2, .ref q3, .ref q4, .int 0, .null, .null, .null, .int 0, .int 0, .null, .null, .null, .int 0, .int 0, .int 0, .int 0, .int 0, .int 0, .int 0, .null, .int 0, .int 0, .int 0, .null, .null, .null, .int 0, .null, .int 0, .null, .null, .null, .null, .int 0, .null, .null, .null, .null, .int 0, .int 0])), (q1, .inl (cy 0, 7, .inl (fun _ => 0))), (q2, .inl (cy 0, 4945, .inl (fun _ => 0))), (q3, .inl (cy 0, 9890, .inl (fun _ => 0))), (q4, .inl (cy 2, 2, .inl (fun _ => 0))), (q5, .inl (cy 1, 70, .inl f41))] H locs := by rw [e_f41]; exact hw
  have hj : ∀ j : Nat, j < 36 → f41 j = wordsB.getD j 0 := by rw [e_f41]; exact upd_s hj (by decide)
  clear e_f41
  refine lv_dup hx hb dX9_init_252 rfl ?_
  refine lv_bipush (v := 36) hx hb dX9_init_253 (by decide) ?_
  refine lv_bipush (v := 111) hx hb dX9_init_255 (by decide) ?_
  refine sB hc hw 5 rfl (vin (by decide)) (j := 36) (by decide) dX9_init_257 (fun H locs hw => ?_)
  obtain ⟨f42, e_f42⟩ : ∃ z : Nat → Int32, z = upd f41 36 (vp_nar .byte 111) := ⟨_, rfl⟩
  replace hw : wV D A s.heap [(a0, .inr (9, [.int 0, .int 0, .ref q1, .ref q2, .ref q3, .ref q4, .int 0, .null, .null, .null, .int 0, .int 0, .null, .null, .null, .int 0, .int 0, .int 0, .int 0, .int 0, .int 0, .int 0, .null, .int 0, .int 0, .int 0, .null, .null, .null, .int 0, .null, .int 0, .null, .null, .null, .null, .int 0, .null, .null, .null, .null, .int 0, .int 0])), (q1, .inl (cy 0, 7, .inl (fun _ => 0))), (q2, .inl (cy 0, 4945, .inl (fun _ => 0))), (q3, .inl (cy 0, 9890, .inl (fun _ => 0))), (q4, .inl (cy 2, 2, .inl (fun _ => 0))), (q5, .inl (cy 1, 70, .inl f42))] H locs := by rw [e_f42]; exact hw
  have hj : ∀ j : Nat, j < 37 → f42 j = wordsB.getD j 0 := by rw [e_f42]; exact upd_s hj (by decide)
  clear e_f42
  refine lv_dup hx hb dX9_init_258 rfl ?_
  refine lv_bipush (v := 37) hx hb dX9_init_259 (by decide) ?_
  refine lv_bipush (v := 109) hx hb dX9_init_261 (by decide) ?_
  refine sB hc hw 5 rfl (vin (by decide)) (j := 37) (by decide) dX9_init_263 (fun H locs hw => ?_)
  obtain ⟨f43, e_f43⟩ : ∃ z : Nat → Int32, z = upd f42 37 (vp_nar .byte 109) := ⟨_, rfl⟩
  replace hw : wV D A s.heap [(a0, .inr (9, [.int 0, .int 0, .ref q1, .ref q2, .ref q3, .ref q4, .int 0, .null, .null, .null, .int 0, .int 0, .null, .null, .null, .int 0, .int 0, .int 0, .int 0, .int 0, .int 0, .int 0, .null, .int 0, .int 0, .int 0, .null, .null, .null, .int 0, .null, .int 0, .null, .null, .null, .null, .int 0, .null, .null, .null, .null, .int 0, .int 0])), (q1, .inl (cy 0, 7, .inl (fun _ => 0))), (q2, .inl (cy 0, 4945, .inl (fun _ => 0))), (q3, .inl (cy 0, 9890, .inl (fun _ => 0))), (q4, .inl (cy 2, 2, .inl (fun _ => 0))), (q5, .inl (cy 1, 70, .inl f43))] H locs := by rw [e_f43]; exact hw
  have hj : ∀ j : Nat, j < 38 → f43 j = wordsB.getD j 0 := by rw [e_f43]; exact upd_s hj (by decide)
  clear e_f43
  refine lv_dup hx hb dX9_init_264 rfl ?_
  refine lv_bipush (v := 38) hx hb dX9_init_265 (by decide) ?_
  refine lv_bipush (v := 32) hx hb dX9_init_267 (by decide) ?_
  refine sB hc hw 5 rfl (vin (by decide)) (j := 38) (by decide) dX9_init_269 (fun H locs hw => ?_)
  obtain ⟨f44, e_f44⟩ : ∃ z : Nat → Int32, z = upd f43 38 (vp_nar .byte 32) := ⟨_, rfl⟩
  replace hw : wV D A s.heap [(a0, .inr (9, [.int 0, .int 0, .ref q1, .ref q2, .ref q3, .ref q4, .int 0, .null, .null, .null, .int 0, .int 0, .null, .null, .null, .int 0, .int 0, .int 0, .int 0, .int 0, .int 0, .int 0, .null, .int 0, .int 0, .int 0, .null, .null, .null, .int 0, .null, .int 0, .null, .null, .null, .null, .int 0, .null, .null, .null, .null, .int 0, .int 0])), (q1, .inl (cy 0, 7, .inl (fun _ => 0))), (q2, .inl (cy 0, 4945, .inl (fun _ => 0))), (q3, .inl (cy 0, 9890, .inl (fun _ => 0))), (q4, .inl (cy 2, 2, .inl (fun _ => 0))), (q5, .inl (cy 1, 70, .inl f44))] H locs := by rw [e_f44]; exact hw
  have hj : ∀ j : Nat, j < 39 → f44 j = wordsB.getD j 0 := by rw [e_f44]; exact upd_s hj (by decide)
  clear e_f44
  refine lv_dup hx hb dX9_init_270 rfl ?_
  refine lv_bipush (v := 39) hx hb dX9_init_271 (by decide) ?_
  refine lv_bipush (v := 116) hx hb dX9_init_273 (by decide) ?_
  refine sB hc hw 5 rfl (vin (by decide)) (j := 39) (by decide) dX9_init_275 (fun H locs hw => ?_)
  obtain ⟨f45, e_f45⟩ : ∃ z : Nat → Int32, z = upd f44 39 (vp_nar .byte 116) := ⟨_, rfl⟩
  replace hw : wV D A s.heap [(a0, .inr (9, [.int 0, .int 0, .ref q1, .ref q2, .ref q3, .ref q4, .int 0, .null, .null, .null, .int 0, .int 0, .null, .null, .null, .int 0, .int 0, .int 0, .int 0, .int 0, .int 0, .int 0, .null, .int 0, .int 0, .int 0, .null, .null, .null, .int 0, .null, .int 0, .null, .null, .null, .null, .int 0, .null, .null, .null, .null, .int 0, .int 0])), (q1, .inl (cy 0, 7, .inl (fun _ => 0))), (q2, .inl (cy 0, 4945, .inl (fun _ => 0))), (q3, .inl (cy 0, 9890, .inl (fun _ => 0))), (q4, .inl (cy 2, 2, .inl (fun _ => 0))), (q5, .inl (cy 1, 70, .inl f45))] H locs := by rw [e_f45]; exact hw
  have hj : ∀ j : Nat, j < 40 → f45 j = wordsB.getD j 0 := by rw [e_f45]; exact upd_s hj (by decide)
  clear e_f45
  refine lv_dup hx hb dX9_init_276 rfl ?_
  refine lv_bipush (v := 40) hx hb dX9_init_277 (by decide) ?_
  refine lv_bipush (v := 111) hx hb dX9_init_279 (by decide) ?_
  refine sB hc hw 5 rfl (vin (by decide)) (j := 40) (by decide) dX9_init_281 (fun H locs hw => ?_)
  obtain ⟨f46, e_f46⟩ : ∃ z : Nat → Int32, z = upd f45 40 (vp_nar .byte 111) := ⟨_, rfl⟩
  replace hw : wV D A s.heap [(a0, .inr (9, [.int 0, .int 0, .ref q1, .ref q2, .ref q3, .ref q4, .int 0, .null, .null, .null, .int 0, .int 0, .null, .null, .null, .int 0, .int 0, .int 0, .int 0, .int 0, .int 0, .int 0, .null, .int 0, .int 0, .int 0, .null, .null, .null, .int 0, .null, .int 0, .null, .null, .null, .null, .int 0, .null, .null, .null, .null, .int 0, .int 0])), (q1, .inl (cy 0, 7, .inl (fun _ => 0))), (q2, .inl (cy 0, 4945, .inl (fun _ => 0))), (q3, .inl (cy 0, 9890, .inl (fun _ => 0))), (q4, .inl (cy 2, 2, .inl (fun _ => 0))), (q5, .inl (cy 1, 70, .inl f46))] H locs := by rw [e_f46]; exact hw
  have hj : ∀ j : Nat, j < 41 → f46 j = wordsB.getD j 0 := by rw [e_f46]; exact upd_s hj (by decide)
  clear e_f46
  refine lv_dup hx hb dX9_init_282 rfl ?_
  refine lv_bipush (v := 41) hx hb dX9_init_283 (by decide) ?_
  refine lv_bipush (v := 32) hx hb dX9_init_285 (by decide) ?_
  refine sB hc hw 5 rfl (vin (by decide)) (j := 41) (by decide) dX9_init_287 (fun H locs hw => ?_)
  obtain ⟨f47, e_f47⟩ : ∃ z : Nat → Int32, z = upd f46 41 (vp_nar .byte 32) := ⟨_, rfl⟩
  replace hw : wV D A s.heap [(a0, .inr (9, [.int 0, .int 0, .ref q1, .ref q2, .ref q3, .ref q4, .int 0, .null, .null, .null, .int 0, .int 0, .null, .null, .null, .int 0, .int 0, .int 0, .int 0, .int 0, .int 0, .int 0, .null, .int 0, .int 0, .int 0, .null, .null, .null, .int 0, .null, .int 0, .null, .null, .null, .null, .int 0, .null, .null, .null, .null, .int 0, .int 0])), (q1, .inl (cy 0, 7, .inl (fun _ => 0))), (q2, .inl (cy 0, 4945, .inl (fun _ => 0))), (q3, .inl (cy 0, 9890, .inl (fun _ => 0))), (q4, .inl (cy 2, 2, .inl (fun _ => 0))), (q5, .inl (cy 1, 70, .inl f47))] H locs := by rw [e_f47]; exact hw
  have hj : ∀ j : Nat, j < 42 → f47 j = wordsB.getD j 0 := by rw [e_f47]; exact upd_s hj (by decide)
  clear e_f47
  refine lv_dup hx hb dX9_init_288 rfl ?_
  refine lv_bipush (v := 42) hx hb dX9_init_289 (by decide) ?_
  refine lv_bipush (v := 115) hx hb dX9_init_291 (by decide) ?_
  refine sB hc hw 5 rfl (vin (by decide)) (j := 42) (by decide) dX9_init_293 (fun H locs hw => ?_)
  obtain ⟨f48, e_f48⟩ : ∃ z : Nat → Int32, z = upd f47 42 (vp_nar .byte 115) := ⟨_, rfl⟩
  replace hw : wV D A s.heap [(a0, .inr (9, [.int 0, .int 0, .ref q1, .ref q2, .ref q3, .ref q4, .int 0, .null, .null, .null, .int 0, .int 0, .null, .null, .null, .int 0, .int 0, .int 0, .int 0, .int 0, .int 0, .int 0, .null, .int 0, .int 0, .int 0, .null, .null, .null, .int 0, .null, .int 0, .null, .null, .null, .null, .int 0, .null, .null, .null, .null, .int 0, .int 0])), (q1, .inl (cy 0, 7, .inl (fun _ => 0))), (q2, .inl (cy 0, 4945, .inl (fun _ => 0))), (q3, .inl (cy 0, 9890, .inl (fun _ => 0))), (q4, .inl (cy 2, 2, .inl (fun _ => 0))), (q5, .inl (cy 1, 70, .inl f48))] H locs := by rw [e_f48]; exact hw
  have hj : ∀ j : Nat, j < 43 → f48 j = wordsB.getD j 0 := by rw [e_f48]; exact upd_s hj (by decide)
  clear e_f48
  refine lv_dup hx hb dX9_init_294 rfl ?_
  refine lv_bipush (v := 43) hx hb dX9_init_295 (by decide) ?_
  refine lv_bipush (v := 112) hx hb dX9_init_297 (by decide) ?_
  refine sB hc hw 5 rfl (vin (by decide)) (j := 43) (by decide) dX9_init_299 (fun H locs hw => ?_)
  obtain ⟨f49, e_f49⟩ : ∃ z : Nat → Int32, z = upd f48 43 (vp_nar .byte 112) := ⟨_, rfl⟩
  replace hw : wV D A s.heap [(a0, .inr (9, [.int 0, .int 0, .ref q1, .ref q2, .ref q3, .ref q4, .int 0, .null, .null, .null, .int 0, .int 0, .null, .null, .null, .int 0, .int 0, .int 0, .int 0, .int 0, .int 0, .int 0, .null, .int 0, .int 0, .int 0, .null, .null, .null, .int 0, .null, .int 0, .null, .null, .null, .null, .int 0, .null, .null, .null, .null, .int 0, .int 0])), (q1, .inl (cy 0, 7, .inl (fun _ => 0))), (q2, .inl (cy 0, 4945, .inl (fun _ => 0))), (q3, .inl (cy 0, 9890, .inl (fun _ => 0))), (q4, .inl (cy 2, 2, .inl (fun _ => 0))), (q5, .inl (cy 1, 70, .inl f49))] H locs := by rw [e_f49]; exact hw
  have hj : ∀ j : Nat, j < 44 → f49 j = wordsB.getD j 0 := by rw [e_f49]; exact upd_s hj (by decide)
  clear e_f49
  refine lv_dup hx hb dX9_init_300 rfl ?_
  refine lv_bipush (v := 44) hx hb dX9_init_301 (by decide) ?_
  refine lv_bipush (v := 97) hx hb dX9_init_303 (by decide) ?_
  refine sB hc hw 5 rfl (vin (by decide)) (j := 44) (by decide) dX9_init_305 (fun H locs hw => ?_)
  obtain ⟨f50, e_f50⟩ : ∃ z : Nat → Int32, z = upd f49 44 (vp_nar .byte 97) := ⟨_, rfl⟩
  replace hw : wV D A s.heap [(a0, .inr (9, [.int 0, .int 0, .ref q1, .ref q2, .ref q3, .ref q4, .int 0, .null, .null, .null, .int 0, .int 0, .null, .null, .null, .int 0, .int 0, .int 0, .int 0, .int 0, .int 0, .int 0, .null, .int 0, .int 0, .int 0, .null, .null, .null, .int 0, .null, .int 0, .null, .null, .null, .null, .int 0, .null, .null, .null, .null, .int 0, .int 0])), (q1, .inl (cy 0, 7, .inl (fun _ => 0))), (q2, .inl (cy 0, 4945, .inl (fun _ => 0))), (q3, .inl (cy 0, 9890, .inl (fun _ => 0))), (q4, .inl (cy 2, 2, .inl (fun _ => 0))), (q5, .inl (cy 1, 70, .inl f50))] H locs := by rw [e_f50]; exact hw
  have hj : ∀ j : Nat, j < 45 → f50 j = wordsB.getD j 0 := by rw [e_f50]; exact upd_s hj (by decide)
  clear e_f50
  refine lv_dup hx hb dX9_init_306 rfl ?_
  refine lv_bipush (v := 45) hx hb dX9_init_307 (by decide) ?_
  refine lv_bipush (v := 110) hx hb dX9_init_309 (by decide) ?_
  refine sB hc hw 5 rfl (vin (by decide)) (j := 45) (by decide) dX9_init_311 (fun H locs hw => ?_)
  obtain ⟨f51, e_f51⟩ : ∃ z : Nat → Int32, z = upd f50 45 (vp_nar .byte 110) := ⟨_, rfl⟩
  replace hw : wV D A s.heap [(a0, .inr (9, [.int 0, .int 0, .ref q1, .ref q2, .ref q3, .ref q4, .int 0, .null, .null, .null, .int 0, .int 0, .null, .null, .null, .int 0, .int 0, .int 0, .int 0, .int 0, .int 0, .int 0, .null, .int 0, .int 0, .int 0, .null, .null, .null, .int 0, .null, .int 0, .null, .null, .null, .null, .int 0, .null, .null, .null, .null, .int 0, .int 0])), (q1, .inl (cy 0, 7, .inl (fun _ => 0))), (q2, .inl (cy 0, 4945, .inl (fun _ => 0))), (q3, .inl (cy 0, 9890, .inl (fun _ => 0))), (q4, .inl (cy 2, 2, .inl (fun _ => 0))), (q5, .inl (cy 1, 70, .inl f51))] H locs := by rw [e_f51]; exact hw
  have hj : ∀ j : Nat, j < 46 → f51 j = wordsB.getD j 0 := by rw [e_f51]; exact upd_s hj (by decide)
  clear e_f51
  refine lv_dup hx hb dX9_init_312 rfl ?_
  refine lv_bipush (v := 46) hx hb dX9_init_313 (by decide) ?_
  refine lv_bipush (v := 32) hx hb dX9_init_315 (by decide) ?_
  refine sB hc hw 5 rfl (vin (by decide)) (j := 46) (by decide) dX9_init_317 (fun H locs hw => ?_)
  obtain ⟨f52, e_f52⟩ : ∃ z : Nat → Int32, z = upd f51 46 (vp_nar .byte 32) := ⟨_, rfl⟩
  replace hw : wV D A s.heap [(a0, .inr (9, [.int 0, .int 0, .ref q1, .ref q2, .ref q3, .ref q4, .int 0, .null, .null, .null, .int 0, .int 0, .null, .null, .null, .int 0, .int 0, .int 0, .int 0, .int 0, .int 0, .int 0, .null, .int 0, .int 0, .int 0, .null, .null, .null, .int 0, .null, .int 0, .null, .null, .null, .null, .int 0, .null, .null, .null, .null, .int 0, .int 0])), (q1, .inl (cy 0, 7, .inl (fun _ => 0))), (q2, .inl (cy 0, 4945, .inl (fun _ => 0))), (q3, .inl (cy 0, 9890, .inl (fun _ => 0))), (q4, .inl (cy 2, 2, .inl (fun _ => 0))), (q5, .inl (cy 1, 70, .inl f52))] H locs := by rw [e_f52]; exact hw
  have hj : ∀ j : Nat, j < 47 → f52 j = wordsB.getD j 0 := by rw [e_f52]; exact upd_s hj (by decide)
  clear e_f52
  refine lv_dup hx hb dX9_init_318 rfl ?_
  refine lv_bipush (v := 47) hx hb dX9_init_319 (by decide) ?_
  refine lv_bipush (v := 98) hx hb dX9_init_321 (by decide) ?_
  refine sB hc hw 5 rfl (vin (by decide)) (j := 47) (by decide) dX9_init_323 (fun H locs hw => ?_)
  obtain ⟨f53, e_f53⟩ : ∃ z : Nat → Int32, z = upd f52 47 (vp_nar .byte 98) := ⟨_, rfl⟩
  replace hw : wV D A s.heap [(a0, .inr (9, [.int 0, .int 0, .ref q1, .ref q2, .ref q3, .ref q4, .int 0, .null, .null, .null, .int 0, .int 0, .null, .null, .null, .int 0, .int 0, .int 0, .int 0, .int 0, .int 0, .int 0, .null, .int 0, .int 0, .int 0, .null, .null, .null, .int 0, .null, .int 0, .null, .null, .null, .null, .int 0, .null, .null, .null, .null, .int 0, .int 0])), (q1, .inl (cy 0, 7, .inl (fun _ => 0))), (q2, .inl (cy 0, 4945, .inl (fun _ => 0))), (q3, .inl (cy 0, 9890, .inl (fun _ => 0))), (q4, .inl (cy 2, 2, .inl (fun _ => 0))), (q5, .inl (cy 1, 70, .inl f53))] H locs := by rw [e_f53]; exact hw
  have hj : ∀ j : Nat, j < 48 → f53 j = wordsB.getD j 0 := by rw [e_f53]; exact upd_s hj (by decide)
  clear e_f53
  refine lv_dup hx hb dX9_init_324 rfl ?_
  refine lv_bipush (v := 48) hx hb dX9_init_325 (by decide) ?_
  refine lv_bipush (v := 97) hx hb dX9_init_327 (by decide) ?_
  refine sB hc hw 5 rfl (vin (by decide)) (j := 48) (by decide) dX9_init_329 (fun H locs hw => ?_)
  obtain ⟨f54, e_f54⟩ : ∃ z : Nat → Int32, z = upd f53 48 (vp_nar .byte 97) := ⟨_, rfl⟩
  replace hw : wV D A s.heap [(a0, .inr (9, [.int 0, .int 0, .ref q1, .ref q2, .ref q3, .ref q4, .int 0, .null, .null, .null, .int 0, .int 0, .null, .null, .null, .int 0, .int 0, .int 0, .int 0, .int 0, .int 0, .int 0, .null, .int 0, .int 0, .int 0, .null, .null, .null, .int 0, .null, .int 0, .null, .null, .null, .null, .int 0, .null, .null, .null, .null, .int 0, .int 0])), (q1, .inl (cy 0, 7, .inl (fun _ => 0))), (q2, .inl (cy 0, 4945, .inl (fun _ => 0))), (q3, .inl (cy 0, 9890, .inl (fun _ => 0))), (q4, .inl (cy 2, 2, .inl (fun _ => 0))), (q5, .inl (cy 1, 70, .inl f54))] H locs := by rw [e_f54]; exact hw
  have hj : ∀ j : Nat, j < 49 → f54 j = wordsB.getD j 0 := by rw [e_f54]; exact upd_s hj (by decide)
  clear e_f54
  refine lv_dup hx hb dX9_init_330 rfl ?_
  refine lv_bipush (v := 49) hx hb dX9_init_331 (by decide) ?_
  refine lv_bipush (v := 115) hx hb dX9_init_333 (by decide) ?_
  refine sB hc hw 5 rfl (vin (by decide)) (j := 49) (by decide) dX9_init_335 (fun H locs hw => ?_)
  obtain ⟨f55, e_f55⟩ : ∃ z : Nat → Int32, z = upd f54 49 (vp_nar .byte 115) := ⟨_, rfl⟩
  replace hw : wV D A s.heap [(a0, .inr (9, [.int 0, .int 0, .ref q1, .ref q2, .ref q3, .ref q4, .int 0, .null, .null, .null, .int 0, .int 0, .null, .null, .null, .int 0, .int 0, .int 0, .int 0, .int 0, .int 0, .int 0, .null, .int 0, .int 0, .int 0, .null, .null, .null, .int 0, .null, .int 0, .null, .null, .null, .null, .int 0, .null, .null, .null, .null, .int 0, .int 0])), (q1, .inl (cy 0, 7, .inl (fun _ => 0))), (q2, .inl (cy 0, 4945, .inl (fun _ => 0))), (q3, .inl (cy 0, 9890, .inl (fun _ => 0))), (q4, .inl (cy 2, 2, .inl (fun _ => 0))), (q5, .inl (cy 1, 70, .inl f55))] H locs := by rw [e_f55]; exact hw
  have hj : ∀ j : Nat, j < 50 → f55 j = wordsB.getD j 0 := by rw [e_f55]; exact upd_s hj (by decide)
  clear e_f55
  refine lv_dup hx hb dX9_init_336 rfl ?_
  refine lv_bipush (v := 50) hx hb dX9_init_337 (by decide) ?_
  refine lv_bipush (v := 101) hx hb dX9_init_339 (by decide) ?_
  refine sB hc hw 5 rfl (vin (by decide)) (j := 50) (by decide) dX9_init_341 (fun H locs hw => ?_)
  obtain ⟨f56, e_f56⟩ : ∃ z : Nat → Int32, z = upd f55 50 (vp_nar .byte 101) := ⟨_, rfl⟩
  replace hw : wV D A s.heap [(a0, .inr (9, [.int 0, .int 0, .ref q1, .ref q2, .ref q3, .ref q4, .int 0, .null, .null, .null, .int 0, .int 0, .null, .null, .null, .int 0, .int 0, .int 0, .int 0, .int 0, .int 0, .int 0, .null, .int 0, .int 0, .int 0, .null, .null, .null, .int 0, .null, .int 0, .null, .null, .null, .null, .int 0, .null, .null, .null, .null, .int 0, .int 0])), (q1, .inl (cy 0, 7, .inl (fun _ => 0))), (q2, .inl (cy 0, 4945, .inl (fun _ => 0))), (q3, .inl (cy 0, 9890, .inl (fun _ => 0))), (q4, .inl (cy 2, 2, .inl (fun _ => 0))), (q5, .inl (cy 1, 70, .inl f56))] H locs := by rw [e_f56]; exact hw
  have hj : ∀ j : Nat, j < 51 → f56 j = wordsB.getD j 0 := by rw [e_f56]; exact upd_s hj (by decide)
  clear e_f56
  refine lv_dup hx hb dX9_init_342 rfl ?_
  refine lv_bipush (v := 51) hx hb dX9_init_343 (by decide) ?_
  refine lv_bipush (v := 32) hx hb dX9_init_345 (by decide) ?_
  refine sB hc hw 5 rfl (vin (by decide)) (j := 51) (by decide) dX9_init_347 (fun H locs hw => ?_)
  obtain ⟨f57, e_f57⟩ : ∃ z : Nat → Int32, z = upd f56 51 (vp_nar .byte 32) := ⟨_, rfl⟩
  replace hw : wV D A s.heap [(a0, .inr (9, [.int 0, .int 0, .ref q1, .ref q2, .ref q3, .ref q4, .int 0, .null, .null, .null, .int 0, .int 0, .null, .null, .null, .int 0, .int 0, .int 0, .int 0, .int 0, .int 0, .int 0, .null, .int 0, .int 0, .int 0, .null, .null, .null, .int 0, .null, .int 0, .null, .null, .null, .null, .int 0, .null, .null, .null, .null, .int 0, .int 0])), (q1, .inl (cy 0, 7, .inl (fun _ => 0))), (q2, .inl (cy 0, 4945, .inl (fun _ => 0))), (q3, .inl (cy 0, 9890, .inl (fun _ => 0))), (q4, .inl (cy 2, 2, .inl (fun _ => 0))), (q5, .inl (cy 1, 70, .inl f57))] H locs := by rw [e_f57]; exact hw
  have hj : ∀ j : Nat, j < 52 → f57 j = wordsB.getD j 0 := by rw [e_f57]; exact upd_s hj (by decide)
  clear e_f57
  refine lv_dup hx hb dX9_init_348 rfl ?_
  refine lv_bipush (v := 52) hx hb dX9_init_349 (by decide) ?_
  refine lv_bipush (v := 107) hx hb dX9_init_351 (by decide) ?_
  refine sB hc hw 5 rfl (vin (by decide)) (j := 52) (by decide) dX9_init_353 (fun H locs hw => ?_)
  obtain ⟨f58, e_f58⟩ : ∃ z : Nat → Int32, z = upd f57 52 (vp_nar .byte 107) := ⟨_, rfl⟩
  replace hw : wV D A s.heap [(a0, .inr (9, [.int 0, .int 0, .ref q1, .ref q2, .ref q3, .ref q4, .int 0, .null, .null, .null, .int 0, .int 0, .null, .null, .null, .int 0, .int 0, .int 0, .int 0, .int 0, .int 0, .int 0, .null, .int 0, .int 0, .int 0, .null, .null, .null, .int 0, .null, .int 0, .null, .null, .null, .null, .int 0, .null, .null, .null, .null, .int 0, .int 0])), (q1, .inl (cy 0, 7, .inl (fun _ => 0))), (q2, .inl (cy 0, 4945, .inl (fun _ => 0))), (q3, .inl (cy 0, 9890, .inl (fun _ => 0))), (q4, .inl (cy 2, 2, .inl (fun _ => 0))), (q5, .inl (cy 1, 70, .inl f58))] H locs := by rw [e_f58]; exact hw
  have hj : ∀ j : Nat, j < 53 → f58 j = wordsB.getD j 0 := by rw [e_f58]; exact upd_s hj (by decide)
  clear e_f58
  refine lv_dup hx hb dX9_init_354 rfl ?_
  refine lv_bipush (v := 53) hx hb dX9_init_355 (by decide) ?_
  refine lv_bipush (v := 110) hx hb dX9_init_357 (by decide) ?_
  refine sB hc hw 5 rfl (vin (by decide)) (j := 53) (by decide) dX9_init_359 (fun H locs hw => ?_)
  obtain ⟨f59, e_f59⟩ : ∃ z : Nat → Int32, z = upd f58 53 (vp_nar .byte 110) := ⟨_, rfl⟩
  replace hw : wV D A s.heap [(a0, .inr (9, [.int 0, .int 0, .ref q1, .ref q2, .ref q3, .ref q4, .int 0, .null, .null, .null, .int 0, .int 0, .null, .null, .null, .int 0, .int 0, .int 0, .int 0, .int 0, .int 0, .int 0, .null, .int 0, .int 0, .int 0, .null, .null, .null, .int 0, .null, .int 0, .null, .null, .null, .null, .int 0, .null, .null, .null, .null, .int 0, .int 0])), (q1, .inl (cy 0, 7, .inl (fun _ => 0))), (q2, .inl (cy 0, 4945, .inl (fun _ => 0))), (q3, .inl (cy 0, 9890, .inl (fun _ => 0))), (q4, .inl (cy 2, 2, .inl (fun _ => 0))), (q5, .inl (cy 1, 70, .inl f59))] H locs := by rw [e_f59]; exact hw
  have hj : ∀ j : Nat, j < 54 → f59 j = wordsB.getD j 0 := by rw [e_f59]; exact upd_s hj (by decide)
  clear e_f59
  refine lv_dup hx hb dX9_init_360 rfl ?_
  refine lv_bipush (v := 54) hx hb dX9_init_361 (by decide) ?_
  refine lv_bipush (v := 111) hx hb dX9_init_363 (by decide) ?_
  refine sB hc hw 5 rfl (vin (by decide)) (j := 54) (by decide) dX9_init_365 (fun H locs hw => ?_)
  obtain ⟨f60, e_f60⟩ : ∃ z : Nat → Int32, z = upd f59 54 (vp_nar .byte 111) := ⟨_, rfl⟩
  replace hw : wV D A s.heap [(a0, .inr (9, [.int 0, .int 0, .ref q1, .ref q2, .ref q3, .ref q4, .int 0, .null, .null, .null, .int 0, .int 0, .null, .null, .null, .int 0, .int 0, .int 0, .int 0, .int 0, .int 0, .int 0, .null, .int 0, .int 0, .int 0, .null, .null, .null, .int 0, .null, .int 0, .null, .null, .null, .null, .int 0, .null, .null, .null, .null, .int 0, .int 0])), (q1, .inl (cy 0, 7, .inl (fun _ => 0))), (q2, .inl (cy 0, 4945, .inl (fun _ => 0))), (q3, .inl (cy 0, 9890, .inl (fun _ => 0))), (q4, .inl (cy 2, 2, .inl (fun _ => 0))), (q5, .inl (cy 1, 70, .inl f60))] H locs := by rw [e_f60]; exact hw
  have hj : ∀ j : Nat, j < 55 → f60 j = wordsB.getD j 0 := by rw [e_f60]; exact upd_s hj (by decide)
  clear e_f60
  refine lv_dup hx hb dX9_init_366 rfl ?_
  refine lv_bipush (v := 55) hx hb dX9_init_367 (by decide) ?_
  refine lv_bipush (v := 119) hx hb dX9_init_369 (by decide) ?_
  refine sB hc hw 5 rfl (vin (by decide)) (j := 55) (by decide) dX9_init_371 (fun H locs hw => ?_)
  obtain ⟨f61, e_f61⟩ : ∃ z : Nat → Int32, z = upd f60 55 (vp_nar .byte 119) := ⟨_, rfl⟩
  replace hw : wV D A s.heap [(a0, .inr (9, [.int 0, .int 0, .ref q1, .ref q2, .ref q3, .ref q4, .int 0, .null, .null, .null, .int 0, .int 0, .null, .null, .null, .int 0, .int 0, .int 0, .int 0, .int 0, .int 0, .int 0, .null, .int 0, .int 0, .int 0, .null, .null, .null, .int 0, .null, .int 0, .null, .null, .null, .null, .int 0, .null, .null, .null, .null, .int 0, .int 0])), (q1, .inl (cy 0, 7, .inl (fun _ => 0))), (q2, .inl (cy 0, 4945, .inl (fun _ => 0))), (q3, .inl (cy 0, 9890, .inl (fun _ => 0))), (q4, .inl (cy 2, 2, .inl (fun _ => 0))), (q5, .inl (cy 1, 70, .inl f61))] H locs := by rw [e_f61]; exact hw
  have hj : ∀ j : Nat, j < 56 → f61 j = wordsB.getD j 0 := by rw [e_f61]; exact upd_s hj (by decide)
  clear e_f61
  refine lv_dup hx hb dX9_init_372 rfl ?_
  refine lv_bipush (v := 56) hx hb dX9_init_373 (by decide) ?_
  refine lv_bipush (v := 110) hx hb dX9_init_375 (by decide) ?_
  refine sB hc hw 5 rfl (vin (by decide)) (j := 56) (by decide) dX9_init_377 (fun H locs hw => ?_)
  obtain ⟨f62, e_f62⟩ : ∃ z : Nat → Int32, z = upd f61 56 (vp_nar .byte 110) := ⟨_, rfl⟩
  replace hw : wV D A s.heap [(a0, .inr (9, [.int 0, .int 0, .ref q1, .ref q2, .ref q3, .ref q4, .int 0, .null, .null, .null, .int 0, .int 0, .null, .null, .null, .int 0, .int 0, .int 0, .int 0, .int 0, .int 0, .int 0, .null, .int 0, .int 0, .int 0, .null, .null, .null, .int 0, .null, .int 0, .null, .null, .null, .null, .int 0, .null, .null, .null, .null, .int 0, .int 0])), (q1, .inl (cy 0, 7, .inl (fun _ => 0))), (q2, .inl (cy 0, 4945, .inl (fun _ => 0))), (q3, .inl (cy 0, 9890, .inl (fun _ => 0))), (q4, .inl (cy 2, 2, .inl (fun _ => 0))), (q5, .inl (cy 1, 70, .inl f62))] H locs := by rw [e_f62]; exact hw
  have hj : ∀ j : Nat, j < 57 → f62 j = wordsB.getD j 0 := by rw [e_f62]; exact upd_s hj (by decide)
  clear e_f62
  refine lv_dup hx hb dX9_init_378 rfl ?_
  refine lv_bipush (v := 57) hx hb dX9_init_379 (by decide) ?_
  refine lv_bipush (v := 32) hx hb dX9_init_381 (by decide) ?_
  refine sB hc hw 5 rfl (vin (by decide)) (j := 57) (by decide) dX9_init_383 (fun H locs hw => ?_)
  obtain ⟨f63, e_f63⟩ : ∃ z : Nat → Int32, z = upd f62 57 (vp_nar .byte 32) := ⟨_, rfl⟩
  replace hw : wV D A s.heap [(a0, .inr (9, [.int 0, .int 0, .ref q1, .ref q2, .ref q3, .ref q4, .int 0, .null, .null, .null, .int 0, .int 0, .null, .null, .null, .int 0, .int 0, .int 0, .int 0, .int 0, .int 0, .int 0, .null, .int 0, .int 0, .int 0, .null, .null, .null, .int 0, .null, .int 0, .null, .null, .null, .null, .int 0, .null, .null, .null, .null, .int 0, .int 0])), (q1, .inl (cy 0, 7, .inl (fun _ => 0))), (q2, .inl (cy 0, 4945, .inl (fun _ => 0))), (q3, .inl (cy 0, 9890, .inl (fun _ => 0))), (q4, .inl (cy 2, 2, .inl (fun _ => 0))), (q5, .inl (cy 1, 70, .inl f63))] H locs := by rw [e_f63]; exact hw
  have hj : ∀ j : Nat, j < 58 → f63 j = wordsB.getD j 0 := by rw [e_f63]; exact upd_s hj (by decide)
  clear e_f63
  refine lv_dup hx hb dX9_init_384 rfl ?_
  refine lv_bipush (v := 58) hx hb dX9_init_385 (by decide) ?_
  refine lv_bipush (v := 109) hx hb dX9_init_387 (by decide) ?_
  refine sB hc hw 5 rfl (vin (by decide)) (j := 58) (by decide) dX9_init_389 (fun H locs hw => ?_)
  obtain ⟨f64, e_f64⟩ : ∃ z : Nat → Int32, z = upd f63 58 (vp_nar .byte 109) := ⟨_, rfl⟩
  replace hw : wV D A s.heap [(a0, .inr (9, [.int 0, .int 0, .ref q1, .ref q2, .ref q3, .ref q4, .int 0, .null, .null, .null, .int 0, .int 0, .null, .null, .null, .int 0, .int 0, .int 0, .int 0, .int 0, .int 0, .int 0, .null, .int 0, .int 0, .int 0, .null, .null, .null, .int 0, .null, .int 0, .null, .null, .null, .null, .int 0, .null, .null, .null, .null, .int 0, .int 0])), (q1, .inl (cy 0, 7, .inl (fun _ => 0))), (q2, .inl (cy 0, 4945, .inl (fun _ => 0))), (q3, .inl (cy 0, 9890, .inl (fun _ => 0))), (q4, .inl (cy 2, 2, .inl (fun _ => 0))), (q5, .inl (cy 1, 70, .inl f64))] H locs := by rw [e_f64]; exact hw
  have hj : ∀ j : Nat, j < 59 → f64 j = wordsB.getD j 0 := by rw [e_f64]; exact upd_s hj (by decide)
  clear e_f64
  refine lv_dup hx hb dX9_init_390 rfl ?_
  refine lv_bipush (v := 59) hx hb dX9_init_391 (by decide) ?_
  refine lv_bipush (v := 111) hx hb dX9_init_393 (by decide) ?_
  refine sB hc hw 5 rfl (vin (by decide)) (j := 59) (by decide) dX9_init_395 (fun H locs hw => ?_)
  obtain ⟨f65, e_f65⟩ : ∃ z : Nat → Int32, z = upd f64 59 (vp_nar .byte 111) := ⟨_, rfl⟩
  replace hw : wV D A s.heap [(a0, .inr (9, [.int 0, .int 0, .ref q1, .ref q2, .ref q3, .ref q4, .int 0, .null, .null, .null, .int 0, .int 0, .null, .null, .null, .int 0, .int 0, .int 0, .int 0, .int 0, .int 0, .int 0, .null, .int 0, .int 0, .int 0, .null, .null, .null, .int 0, .null, .int 0, .null, .null, .null, .null, .int 0, .null, .null, .null, .null, .int 0, .int 0])), (q1, .inl (cy 0, 7, .inl (fun _ => 0))), (q2, .inl (cy 0, 4945, .inl (fun _ => 0))), (q3, .inl (cy 0, 9890, .inl (fun _ => 0))), (q4, .inl (cy 2, 2, .inl (fun _ => 0))), (q5, .inl (cy 1, 70, .inl f65))] H locs := by rw [e_f65]; exact hw
  have hj : ∀ j : Nat, j < 60 → f65 j = wordsB.getD j 0 := by rw [e_f65]; exact upd_s hj (by decide)
  clear e_f65
  refine lv_dup hx hb dX9_init_396 rfl ?_
  refine lv_bipush (v := 60) hx hb dX9_init_397 (by decide) ?_
  refine lv_bipush (v := 111) hx hb dX9_init_399 (by decide) ?_
  refine sB hc hw 5 rfl (vin (by decide)) (j := 60) (by decide) dX9_init_401 (fun H locs hw => ?_)
  obtain ⟨f66, e_f66⟩ : ∃ z : Nat → Int32, z = upd f65 60 (vp_nar .byte 111) := ⟨_, rfl⟩
  replace hw : wV D A s.heap [(a0, .inr (9, [.int 0, .int 0, .ref q1, .ref q2, .ref q3, .ref q4, .int 0, .null, .null, .null, .int 0, .int 0, .null, .null, .null, .int 0, .int 0, .int 0, .int 0, .int 0, .int 0, .int 0, .null, .int 0, .int 0, .int 0, .null, .null, .null, .int 0, .null, .int 0, .null, .null, .null, .null, .int 0, .null, .null, .null, .null, .int 0, .int 0])), (q1, .inl (cy 0, 7, .inl (fun _ => 0))), (q2, .inl (cy 0, 4945, .inl (fun _ => 0))), (q3, .inl (cy 0, 9890, .inl (fun _ => 0))), (q4, .inl (cy 2, 2, .inl (fun _ => 0))), (q5, .inl (cy 1, 70, .inl f66))] H locs := by rw [e_f66]; exact hw
  have hj : ∀ j : Nat, j < 61 → f66 j = wordsB.getD j 0 := by rw [e_f66]; exact upd_s hj (by decide)
  clear e_f66
  refine lv_dup hx hb dX9_init_402 rfl ?_
  refine lv_bipush (v := 61) hx hb dX9_init_403 (by decide) ?_
  refine lv_bipush (v := 100) hx hb dX9_init_405 (by decide) ?_
  refine sB hc hw 5 rfl (vin (by decide)) (j := 61) (by decide) dX9_init_407 (fun H locs hw => ?_)
  obtain ⟨f67, e_f67⟩ : ∃ z : Nat → Int32, z = upd f66 61 (vp_nar .byte 100) := ⟨_, rfl⟩
  replace hw : wV D A s.heap [(a0, .inr (9, [.int 0, .int 0, .ref q1, .ref q2, .ref q3, .ref q4, .int 0, .null, .null, .null, .int 0, .int 0, .null, .null, .null, .int 0, .int 0, .int 0, .int 0, .int 0, .int 0, .int 0, .null, .int 0, .int 0, .int 0, .null, .null, .null, .int 0, .null, .int 0, .null, .null, .null, .null, .int 0, .null, .null, .null, .null, .int 0, .int 0])), (q1, .inl (cy 0, 7, .inl (fun _ => 0))), (q2, .inl (cy 0, 4945, .inl (fun _ => 0))), (q3, .inl (cy 0, 9890, .inl (fun _ => 0))), (q4, .inl (cy 2, 2, .inl (fun _ => 0))), (q5, .inl (cy 1, 70, .inl f67))] H locs := by rw [e_f67]; exact hw
  have hj : ∀ j : Nat, j < 62 → f67 j = wordsB.getD j 0 := by rw [e_f67]; exact upd_s hj (by decide)
  clear e_f67
  refine lv_dup hx hb dX9_init_408 rfl ?_
  refine lv_bipush (v := 62) hx hb dX9_init_409 (by decide) ?_
  refine lv_bipush (v := 32) hx hb dX9_init_411 (by decide) ?_
  refine sB hc hw 5 rfl (vin (by decide)) (j := 62) (by decide) dX9_init_413 (fun H locs hw => ?_)
  obtain ⟨f68, e_f68⟩ : ∃ z : Nat → Int32, z = upd f67 62 (vp_nar .byte 32) := ⟨_, rfl⟩
  replace hw : wV D A s.heap [(a0, .inr (9, [.int 0, .int 0, .ref q1, .ref q2, .ref q3, .ref q4, .int 0, .null, .null, .null, .int 0, .int 0, .null, .null, .null, .int 0, .int 0, .int 0, .int 0, .int 0, .int 0, .int 0, .null, .int 0, .int 0, .int 0, .null, .null, .null, .int 0, .null, .int 0, .null, .null, .null, .null, .int 0, .null, .null, .null, .null, .int 0, .int 0])), (q1, .inl (cy 0, 7, .inl (fun _ => 0))), (q2, .inl (cy 0, 4945, .inl (fun _ => 0))), (q3, .inl (cy 0, 9890, .inl (fun _ => 0))), (q4, .inl (cy 2, 2, .inl (fun _ => 0))), (q5, .inl (cy 1, 70, .inl f68))] H locs := by rw [e_f68]; exact hw
  have hj : ∀ j : Nat, j < 63 → f68 j = wordsB.getD j 0 := by rw [e_f68]; exact upd_s hj (by decide)
  clear e_f68
  refine lv_dup hx hb dX9_init_414 rfl ?_
  refine lv_bipush (v := 63) hx hb dX9_init_415 (by decide) ?_
  refine lv_bipush (v := 116) hx hb dX9_init_417 (by decide) ?_
  refine sB hc hw 5 rfl (vin (by decide)) (j := 63) (by decide) dX9_init_419 (fun H locs hw => ?_)
  obtain ⟨f69, e_f69⟩ : ∃ z : Nat → Int32, z = upd f68 63 (vp_nar .byte 116) := ⟨_, rfl⟩
  replace hw : wV D A s.heap [(a0, .inr (9, [.int 0, .int 0, .ref q1, .ref q2, .ref q3, .ref q4, .int 0, .null, .null, .null, .int 0, .int 0, .null, .null, .null, .int 0, .int 0, .int 0, .int 0, .int 0, .int 0, .int 0, .null, .int 0, .int 0, .int 0, .null, .null, .null, .int 0, .null, .int 0, .null, .null, .null, .null, .int 0, .null, .null, .null, .null, .int 0, .int 0])), (q1, .inl (cy 0, 7, .inl (fun _ => 0))), (q2, .inl (cy 0, 4945, .inl (fun _ => 0))), (q3, .inl (cy 0, 9890, .inl (fun _ => 0))), (q4, .inl (cy 2, 2, .inl (fun _ => 0))), (q5, .inl (cy 1, 70, .inl f69))] H locs := by rw [e_f69]; exact hw
  have hj : ∀ j : Nat, j < 64 → f69 j = wordsB.getD j 0 := by rw [e_f69]; exact upd_s hj (by decide)
  clear e_f69
  refine lv_dup hx hb dX9_init_420 rfl ?_
  refine lv_bipush (v := 64) hx hb dX9_init_421 (by decide) ?_
  refine lv_bipush (v := 101) hx hb dX9_init_423 (by decide) ?_
  refine sB hc hw 5 rfl (vin (by decide)) (j := 64) (by decide) dX9_init_425 (fun H locs hw => ?_)
  obtain ⟨f70, e_f70⟩ : ∃ z : Nat → Int32, z = upd f69 64 (vp_nar .byte 101) := ⟨_, rfl⟩
  replace hw : wV D A s.heap [(a0, .inr (9, [.int 0, .int 0, .ref q1, .ref q2, .ref q3, .ref q4, .int 0, .null, .null, .null, .int 0, .int 0, .null, .null, .null, .int 0, .int 0, .int 0, .int 0, .int 0, .int 0, .int 0, .null, .int 0, .int 0, .int 0, .null, .null, .null, .int 0, .null, .int 0, .null, .null, .null, .null, .int 0, .null, .null, .null, .null, .int 0, .int 0])), (q1, .inl (cy 0, 7, .inl (fun _ => 0))), (q2, .inl (cy 0, 4945, .inl (fun _ => 0))), (q3, .inl (cy 0, 9890, .inl (fun _ => 0))), (q4, .inl (cy 2, 2, .inl (fun _ => 0))), (q5, .inl (cy 1, 70, .inl f70))] H locs := by rw [e_f70]; exact hw
  have hj : ∀ j : Nat, j < 65 → f70 j = wordsB.getD j 0 := by rw [e_f70]; exact upd_s hj (by decide)
  clear e_f70
  refine lv_dup hx hb dX9_init_426 rfl ?_
  refine lv_bipush (v := 65) hx hb dX9_init_427 (by decide) ?_
  refine lv_bipush (v := 108) hx hb dX9_init_429 (by decide) ?_
  refine sB hc hw 5 rfl (vin (by decide)) (j := 65) (by decide) dX9_init_431 (fun H locs hw => ?_)
  obtain ⟨f71, e_f71⟩ : ∃ z : Nat → Int32, z = upd f70 65 (vp_nar .byte 108) := ⟨_, rfl⟩
  replace hw : wV D A s.heap [(a0, .inr (9, [.int 0, .int 0, .ref q1, .ref q2, .ref q3, .ref q4, .int 0, .null, .null, .null, .int 0, .int 0, .null, .null, .null, .int 0, .int 0, .int 0, .int 0, .int 0, .int 0, .int 0, .null, .int 0, .int 0, .int 0, .null, .null, .null, .int 0, .null, .int 0, .null, .null, .null, .null, .int 0, .null, .null, .null, .null, .int 0, .int 0])), (q1, .inl (cy 0, 7, .inl (fun _ => 0))), (q2, .inl (cy 0, 4945, .inl (fun _ => 0))), (q3, .inl (cy 0, 9890, .inl (fun _ => 0))), (q4, .inl (cy 2, 2, .inl (fun _ => 0))), (q5, .inl (cy 1, 70, .inl f71))] H locs := by rw [e_f71]; exact hw
  have hj : ∀ j : Nat, j < 66 → f71 j = wordsB.getD j 0 := by rw [e_f71]; exact upd_s hj (by decide)
  clear e_f71
  refine lv_dup hx hb dX9_init_432 rfl ?_
  refine lv_bipush (v := 66) hx hb dX9_init_433 (by decide) ?_
  refine lv_bipush (v := 108) hx hb dX9_init_435 (by decide) ?_
  refine sB hc hw 5 rfl (vin (by decide)) (j := 66) (by decide) dX9_init_437 (fun H locs hw => ?_)
  obtain ⟨f72, e_f72⟩ : ∃ z : Nat → Int32, z = upd f71 66 (vp_nar .byte 108) := ⟨_, rfl⟩
  replace hw : wV D A s.heap [(a0, .inr (9, [.int 0, .int 0, .ref q1, .ref q2, .ref q3, .ref q4, .int 0, .null, .null, .null, .int 0, .int 0, .null, .null, .null, .int 0, .int 0, .int 0, .int 0, .int 0, .int 0, .int 0, .null, .int 0, .int 0, .int 0, .null, .null, .null, .int 0, .null, .int 0, .null, .null, .null, .null, .int 0, .null, .null, .null, .null, .int 0, .int 0])), (q1, .inl (cy 0, 7, .inl (fun _ => 0))), (q2, .inl (cy 0, 4945, .inl (fun _ => 0))), (q3, .inl (cy 0, 9890, .inl (fun _ => 0))), (q4, .inl (cy 2, 2, .inl (fun _ => 0))), (q5, .inl (cy 1, 70, .inl f72))] H locs := by rw [e_f72]; exact hw
  have hj : ∀ j : Nat, j < 67 → f72 j = wordsB.getD j 0 := by rw [e_f72]; exact upd_s hj (by decide)
  clear e_f72
  refine lv_dup hx hb dX9_init_438 rfl ?_
  refine lv_bipush (v := 67) hx hb dX9_init_439 (by decide) ?_
  refine lv_bipush (v := 101) hx hb dX9_init_441 (by decide) ?_
  refine sB hc hw 5 rfl (vin (by decide)) (j := 67) (by decide) dX9_init_443 (fun H locs hw => ?_)
  obtain ⟨f73, e_f73⟩ : ∃ z : Nat → Int32, z = upd f72 67 (vp_nar .byte 101) := ⟨_, rfl⟩
  replace hw : wV D A s.heap [(a0, .inr (9, [.int 0, .int 0, .ref q1, .ref q2, .ref q3, .ref q4, .int 0, .null, .null, .null, .int 0, .int 0, .null, .null, .null, .int 0, .int 0, .int 0, .int 0, .int 0, .int 0, .int 0, .null, .int 0, .int 0, .int 0, .null, .null, .null, .int 0, .null, .int 0, .null, .null, .null, .null, .int 0, .null, .null, .null, .null, .int 0, .int 0])), (q1, .inl (cy 0, 7, .inl (fun _ => 0))), (q2, .inl (cy 0, 4945, .inl (fun _ => 0))), (q3, .inl (cy 0, 9890, .inl (fun _ => 0))), (q4, .inl (cy 2, 2, .inl (fun _ => 0))), (q5, .inl (cy 1, 70, .inl f73))] H locs := by rw [e_f73]; exact hw
  have hj : ∀ j : Nat, j < 68 → f73 j = wordsB.getD j 0 := by rw [e_f73]; exact upd_s hj (by decide)
  clear e_f73
  refine lv_dup hx hb dX9_init_444 rfl ?_
  refine lv_bipush (v := 68) hx hb dX9_init_445 (by decide) ?_
  refine lv_bipush (v := 114) hx hb dX9_init_447 (by decide) ?_
  refine sB hc hw 5 rfl (vin (by decide)) (j := 68) (by decide) dX9_init_449 (fun H locs hw => ?_)
  obtain ⟨f74, e_f74⟩ : ∃ z : Nat → Int32, z = upd f73 68 (vp_nar .byte 114) := ⟨_, rfl⟩
  replace hw : wV D A s.heap [(a0, .inr (9, [.int 0, .int 0, .ref q1, .ref q2, .ref q3, .ref q4, .int 0, .null, .null, .null, .int 0, .int 0, .null, .null, .null, .int 0, .int 0, .int 0, .int 0, .int 0, .int 0, .int 0, .null, .int 0, .int 0, .int 0, .null, .null, .null, .int 0, .null, .int 0, .null, .null, .null, .null, .int 0, .null, .null, .null, .null, .int 0, .int 0])), (q1, .inl (cy 0, 7, .inl (fun _ => 0))), (q2, .inl (cy 0, 4945, .inl (fun _ => 0))), (q3, .inl (cy 0, 9890, .inl (fun _ => 0))), (q4, .inl (cy 2, 2, .inl (fun _ => 0))), (q5, .inl (cy 1, 70, .inl f74))] H locs := by rw [e_f74]; exact hw
  have hj : ∀ j : Nat, j < 69 → f74 j = wordsB.getD j 0 := by rw [e_f74]; exact upd_s hj (by decide)
  clear e_f74
  refine lv_dup hx hb dX9_init_450 rfl ?_
  refine lv_bipush (v := 69) hx hb dX9_init_451 (by decide) ?_
  refine lv_bipush (v := 32) hx hb dX9_init_453 (by decide) ?_
  refine sB hc hw 5 rfl (vin (by decide)) (j := 69) (by decide) dX9_init_455 (fun H locs hw => ?_)
  obtain ⟨f75, e_f75⟩ : ∃ z : Nat → Int32, z = upd f74 69 (vp_nar .byte 32) := ⟨_, rfl⟩
  replace hw : wV D A s.heap [(a0, .inr (9, [.int 0, .int 0, .ref q1, .ref q2, .ref q3, .ref q4, .int 0, .null, .null, .null, .int 0, .int 0, .null, .null, .null, .int 0, .int 0, .int 0, .int 0, .int 0, .int 0, .int 0, .null, .int 0, .int 0, .int 0, .null, .null, .null, .int 0, .null, .int 0, .null, .null, .null, .null, .int 0, .null, .null, .null, .null, .int 0, .int 0])), (q1, .inl (cy 0, 7, .inl (fun _ => 0))), (q2, .inl (cy 0, 4945, .inl (fun _ => 0))), (q3, .inl (cy 0, 9890, .inl (fun _ => 0))), (q4, .inl (cy 2, 2, .inl (fun _ => 0))), (q5, .inl (cy 1, 70, .inl f75))] H locs := by rw [e_f75]; exact hw
  have hj : ∀ j : Nat, j < 70 → f75 j = wordsB.getD j 0 := by rw [e_f75]; exact upd_s hj (by decide)
  clear e_f75
  refine pFF (k := 7) hc hw inX9 tyX9_ok nmX9 rfl 0 rfl (by decide) (gm 1066 (by decide +kernel) rfl) rfl (hnm rfl) rfl rfl rfl (Nat.le_of_ble_eq_true rfl) dX9_init_456 (fun H locs hw => ?_)
  replace hw : wV D A s.heap [(a0, .inr (9, [.int 0, .int 0, .ref q1, .ref q2, .ref q3, .ref q4, .int 0, .ref q5, .null, .null, .int 0, .int 0, .null, .null, .null, .int 0, .int 0, .int 0, .int 0, .int 0, .int 0, .int 0, .null, .int 0, .int 0, .int 0, .null, .null, .null, .int 0, .null, .int 0, .null, .null, .null, .null, .int 0, .null, .null, .null, .null, .int 0, .int 0])), (q1, .inl (cy 0, 7, .inl (fun _ => 0))), (q2, .inl (cy 0, 4945, .inl (fun _ => 0))), (q3, .inl (cy 0, 9890, .inl (fun _ => 0))), (q4, .inl (cy 2, 2, .inl (fun _ => 0))), (q5, .inl (cy 1, 70, .inl f75))] H locs := hw
  refine lv_aload_n hx hb dX9_init_459 rfl (lv_at hl 0 rfl) ?_
  refine lv_sipush (v := 400) hx hb dX9_init_460 (by decide) ?_
  refine nwB (N := 400) hc hw (by decide) (by decide) (by decide) (by decide) (by decide) dX9_init_463 (fun q76 H hw => ?_)
  refine W.widen (k := 6) (n := 15314) (by decide) (by decide) ?_
  replace hw : wV D A s.heap [(a0, .inr (9, [.int 0, .int 0, .ref q1, .ref q2, .ref q3, .ref q4, .int 0, .ref q5, .null, .null, .int 0, .int 0, .null, .null, .null, .int 0, .int 0, .int 0, .int 0, .int 0, .int 0, .int 0, .null, .int 0, .int 0, .int 0, .null, .null, .null, .int 0, .null, .int 0, .null, .null, .null, .null, .int 0, .null, .null, .null, .null, .int 0, .int 0])), (q1, .inl (cy 0, 7, .inl (fun _ => 0))), (q2, .inl (cy 0, 4945, .inl (fun _ => 0))), (q3, .inl (cy 0, 9890, .inl (fun _ => 0))), (q4, .inl (cy 2, 2, .inl (fun _ => 0))), (q5, .inl (cy 1, 70, .inl f75)), (q76, .inl (cy 1, 400, .inl (fun _ => 0)))] H locs := hw
  refine pFF (k := 8) hc hw inX9 tyX9_ok nmX9 rfl 0 rfl (by decide) (gm 1067 (by decide +kernel) rfl) rfl (hnm rfl) rfl rfl rfl (Nat.le_of_ble_eq_true rfl) dX9_init_465 (fun H locs hw => ?_)
  replace hw : wV D A s.heap [(a0, .inr (9, [.int 0, .int 0, .ref q1, .ref q2, .ref q3, .ref q4, .int 0, .ref q5, .ref q76, .null, .int 0, .int 0, .null, .null, .null, .int 0, .int 0, .int 0, .int 0, .int 0, .int 0, .int 0, .null, .int 0, .int 0, .int 0, .null, .null, .null, .int 0, .null, .int 0, .null, .null, .null, .null, .int 0, .null, .null, .null, .null, .int 0, .int 0])), (q1, .inl (cy 0, 7, .inl (fun _ => 0))), (q2, .inl (cy 0, 4945, .inl (fun _ => 0))), (q3, .inl (cy 0, 9890, .inl (fun _ => 0))), (q4, .inl (cy 2, 2, .inl (fun _ => 0))), (q5, .inl (cy 1, 70, .inl f75)), (q76, .inl (cy 1, 400, .inl (fun _ => 0)))] H locs := hw
  refine lv_aload_n hx hb dX9_init_468 rfl (lv_at hl 0 rfl) ?_
  refine lv_iconst (v := 5) hx hb dX9_init_469 (by decide) ?_
  refine nwI (N := 5) hc hw (by decide) (by decide) (by decide) (by decide) (by decide) dX9_init_470 (fun q77 H hw => ?_)
  refine W.widen (k := 7) (n := 15319) (by decide) (by decide) ?_
  replace hw : wV D A s.heap [(a0, .inr (9, [.int 0, .int 0, .ref q1, .ref q2, .ref q3, .ref q4, .int 0, .ref q5, .ref q76, .null, .int 0, .int 0, .null, .null, .null, .int 0, .int 0, .int 0, .int 0, .int 0, .int 0, .int 0, .null, .int 0, .int 0, .int 0, .null, .null, .null, .int 0, .null, .int 0, .null, .null, .null, .null, .int 0, .null, .null, .null, .null, .int 0, .int 0])), (q1, .inl (cy 0, 7, .inl (fun _ => 0))), (q2, .inl (cy 0, 4945, .inl (fun _ => 0))), (q3, .inl (cy 0, 9890, .inl (fun _ => 0))), (q4, .inl (cy 2, 2, .inl (fun _ => 0))), (q5, .inl (cy 1, 70, .inl f75)), (q76, .inl (cy 1, 400, .inl (fun _ => 0))), (q77, .inl (cy 0, 5, .inl (fun _ => 0)))] H locs := hw
  refine pFF (k := 9) hc hw inX9 tyX9_ok nmX9 rfl 0 rfl (by decide) (gm 1068 (by decide +kernel) rfl) rfl (hnm rfl) rfl rfl rfl (Nat.le_of_ble_eq_true rfl) dX9_init_472 (fun H locs hw => ?_)
  replace hw : wV D A s.heap [(a0, .inr (9, [.int 0, .int 0, .ref q1, .ref q2, .ref q3, .ref q4, .int 0, .ref q5, .ref q76, .ref q77, .int 0, .int 0, .null, .null, .null, .int 0, .int 0, .int 0, .int 0, .int 0, .int 0, .int 0, .null, .int 0, .int 0, .int 0, .null, .null, .null, .int 0, .null, .int 0, .null, .null, .null, .null, .int 0, .null, .null, .null, .null, .int 0, .int 0])), (q1, .inl (cy 0, 7, .inl (fun _ => 0))), (q2, .inl (cy 0, 4945, .inl (fun _ => 0))), (q3, .inl (cy 0, 9890, .inl (fun _ => 0))), (q4, .inl (cy 2, 2, .inl (fun _ => 0))), (q5, .inl (cy 1, 70, .inl f75)), (q76, .inl (cy 1, 400, .inl (fun _ => 0))), (q77, .inl (cy 0, 5, .inl (fun _ => 0)))] H locs := hw
  refine lv_aload_n hx hb dX9_init_475 rfl (lv_at hl 0 rfl) ?_
  refine lv_iconst (v := (-1)) hx hb dX9_init_476 (by decide) ?_
  refine pFr (k := 11) hc hw inX9 tyX9_ok nmX9 rfl 0 rfl (by decide) (gm 1070 (by decide +kernel) rfl) rfl rfl rfl (Nat.le_of_ble_eq_true rfl) dX9_init_477 (fun H locs hw => ?_)
  replace hw : wV D A s.heap [(a0, .inr (9, [.int 0, .int 0, .ref q1, .ref q2, .ref q3, .ref q4, .int 0, .ref q5, .ref q76, .ref q77, .int 0, .int (-1), .null, .null, .null, .int 0, .int 0, .int 0, .int 0, .int 0, .int 0, .int 0, .null, .int 0, .int 0, .int 0, .null, .null, .null, .int 0, .null, .int 0, .null, .null, .null, .null, .int 0, .null, .null, .null, .null, .int 0, .int 0])), (q1, .inl (cy 0, 7, .inl (fun _ => 0))), (q2, .inl (cy 0, 4945, .inl (fun _ => 0))), (q3, .inl (cy 0, 9890, .inl (fun _ => 0))), (q4, .inl (cy 2, 2, .inl (fun _ => 0))), (q5, .inl (cy 1, 70, .inl f75)), (q76, .inl (cy 1, 400, .inl (fun _ => 0))), (q77, .inl (cy 0, 5, .inl (fun _ => 0)))] H locs := hw
  refine lv_aload_n hx hb dX9_init_480 rfl (lv_at hl 0 rfl) ?_
  refine lv_sipush (v := 401) hx hb dX9_init_481 (by decide) ?_
  refine nwI (N := 401) hc hw (by decide) (by decide) (by decide) (by decide) (by decide) dX9_init_484 (fun q78 H hw => ?_)
  refine W.widen (k := 8) (n := 15720) (by decide) (by decide) ?_
  replace hw : wV D A s.heap [(a0, .inr (9, [.int 0, .int 0, .ref q1, .ref q2, .ref q3, .ref q4, .int 0, .ref q5, .ref q76, .ref q77, .int 0, .int (-1), .null, .null, .null, .int 0, .int 0, .int 0, .int 0, .int 0, .int 0, .int 0, .null, .int 0, .int 0, .int 0, .null, .null, .null, .int 0, .null, .int 0, .null, .null, .null, .null, .int 0, .null, .null, .null, .null, .int 0, .int 0])), (q1, .inl (cy 0, 7, .inl (fun _ => 0))), (q2, .inl (cy 0, 4945, .inl (fun _ => 0))), (q3, .inl (cy 0, 9890, .inl (fun _ => 0))), (q4, .inl (cy 2, 2, .inl (fun _ => 0))), (q5, .inl (cy 1, 70, .inl f75)), (q76, .inl (cy 1, 400, .inl (fun _ => 0))), (q77, .inl (cy 0, 5, .inl (fun _ => 0))), (q78, .inl (cy 0, 401, .inl (fun _ => 0)))] H locs := hw
  refine pFF (k := 12) hc hw inX9 tyX9_ok nmX9 rfl 0 rfl (by decide) (gm 1071 (by decide +kernel) rfl) rfl (hnm rfl) rfl rfl rfl (Nat.le_of_ble_eq_true rfl) dX9_init_486 (fun H locs hw => ?_)
  replace hw : wV D A s.heap [(a0, .inr (9, [.int 0, .int 0, .ref q1, .ref q2, .ref q3, .ref q4, .int 0, .ref q5, .ref q76, .ref q77, .int 0, .int (-1), .ref q78, .null, .null, .int 0, .int 0, .int 0, .int 0, .int 0, .int 0, .int 0, .null, .int 0, .int 0, .int 0, .null, .null, .null, .int 0, .null, .int 0, .null, .null, .null, .null, .int 0, .null, .null, .null, .null, .int 0, .int 0])), (q1, .inl (cy 0, 7, .inl (fun _ => 0))), (q2, .inl (cy 0, 4945, .inl (fun _ => 0))), (q3, .inl (cy 0, 9890, .inl (fun _ => 0))), (q4, .inl (cy 2, 2, .inl (fun _ => 0))), (q5, .inl (cy 1, 70, .inl f75)), (q76, .inl (cy 1, 400, .inl (fun _ => 0))), (q77, .inl (cy 0, 5, .inl (fun _ => 0))), (q78, .inl (cy 0, 401, .inl (fun _ => 0)))] H locs := hw
  refine lv_aload_n hx hb dX9_init_489 rfl (lv_at hl 0 rfl) ?_
  refine lv_sipush (v := 401) hx hb dX9_init_490 (by decide) ?_
  refine nwI (N := 401) hc hw (by decide) (by decide) (by decide) (by decide) (by decide) dX9_init_493 (fun q79 H hw => ?_)
  refine W.widen (k := 9) (n := 16121) (by decide) (by decide) ?_
  replace hw : wV D A s.heap [(a0, .inr (9, [.int 0, .int 0, .ref q1, .ref q2, .ref q3, .ref q4, .int 0, .ref q5, .ref q76, .ref q77, .int 0, .int (-1), .ref q78, .null, .null, .int 0, .int 0, .int 0, .int 0, .int 0, .int 0, .int 0, .null, .int 0, .int 0, .int 0, .null, .null, .null, .int 0, .null, .int 0, .null, .null, .null, .null, .int 0, .null, .null, .null, .null, .int 0, .int 0])), (q1, .inl (cy 0, 7, .inl (fun _ => 0))), (q2, .inl (cy 0, 4945, .inl (fun _ => 0))), (q3, .inl (cy 0, 9890, .inl (fun _ => 0))), (q4, .inl (cy 2, 2, .inl (fun _ => 0))), (q5, .inl (cy 1, 70, .inl f75)), (q76, .inl (cy 1, 400, .inl (fun _ => 0))), (q77, .inl (cy 0, 5, .inl (fun _ => 0))), (q78, .inl (cy 0, 401, .inl (fun _ => 0))), (q79, .inl (cy 0, 401, .inl (fun _ => 0)))] H locs := hw
  refine pFF (k := 13) hc hw inX9 tyX9_ok nmX9 rfl 0 rfl (by decide) (gm 1072 (by decide +kernel) rfl) rfl (hnm rfl) rfl rfl rfl (Nat.le_of_ble_eq_true rfl) dX9_init_495 (fun H locs hw => ?_)
  replace hw : wV D A s.heap [(a0, .inr (9, [.int 0, .int 0, .ref q1, .ref q2, .ref q3, .ref q4, .int 0, .ref q5, .ref q76, .ref q77, .int 0, .int (-1), .ref q78, .ref q79, .null, .int 0, .int 0, .int 0, .int 0, .int 0, .int 0, .int 0, .null, .int 0, .int 0, .int 0, .null, .null, .null, .int 0, .null, .int 0, .null, .null, .null, .null, .int 0, .null, .null, .null, .null, .int 0, .int 0])), (q1, .inl (cy 0, 7, .inl (fun _ => 0))), (q2, .inl (cy 0, 4945, .inl (fun _ => 0))), (q3, .inl (cy 0, 9890, .inl (fun _ => 0))), (q4, .inl (cy 2, 2, .inl (fun _ => 0))), (q5, .inl (cy 1, 70, .inl f75)), (q76, .inl (cy 1, 400, .inl (fun _ => 0))), (q77, .inl (cy 0, 5, .inl (fun _ => 0))), (q78, .inl (cy 0, 401, .inl (fun _ => 0))), (q79, .inl (cy 0, 401, .inl (fun _ => 0)))] H locs := hw
  refine lv_aload_n hx hb dX9_init_498 rfl (lv_at hl 0 rfl) ?_
  refine lv_sipush (v := 401) hx hb dX9_init_499 (by decide) ?_
  refine nwI (N := 401) hc hw (by decide) (by decide) (by decide) (by decide) (by decide) dX9_init_502 (fun q80 H hw => ?_)
  refine W.widen (k := 10) (n := 16522) (by decide) (by decide) ?_
  replace hw : wV D A s.heap [(a0, .inr (9, [.int 0, .int 0, .ref q1, .ref q2, .ref q3, .ref q4, .int 0, .ref q5, .ref q76, .ref q77, .int 0, .int (-1), .ref q78, .ref q79, .null, .int 0, .int 0, .int 0, .int 0, .int 0, .int 0, .int 0, .null, .int 0, .int 0, .int 0, .null, .null, .null, .int 0, .null, .int 0, .null, .null, .null, .null, .int 0, .null, .null, .null, .null, .int 0, .int 0])), (q1, .inl (cy 0, 7, .inl (fun _ => 0))), (q2, .inl (cy 0, 4945, .inl (fun _ => 0))), (q3, .inl (cy 0, 9890, .inl (fun _ => 0))), (q4, .inl (cy 2, 2, .inl (fun _ => 0))), (q5, .inl (cy 1, 70, .inl f75)), (q76, .inl (cy 1, 400, .inl (fun _ => 0))), (q77, .inl (cy 0, 5, .inl (fun _ => 0))), (q78, .inl (cy 0, 401, .inl (fun _ => 0))), (q79, .inl (cy 0, 401, .inl (fun _ => 0))), (q80, .inl (cy 0, 401, .inl (fun _ => 0)))] H locs := hw
  refine pFF (k := 14) hc hw inX9 tyX9_ok nmX9 rfl 0 rfl (by decide) (gm 1073 (by decide +kernel) rfl) rfl (hnm rfl) rfl rfl rfl (Nat.le_of_ble_eq_true rfl) dX9_init_504 (fun H locs hw => ?_)
  replace hw : wV D A s.heap [(a0, .inr (9, [.int 0, .int 0, .ref q1, .ref q2, .ref q3, .ref q4, .int 0, .ref q5, .ref q76, .ref q77, .int 0, .int (-1), .ref q78, .ref q79, .ref q80, .int 0, .int 0, .int 0, .int 0, .int 0, .int 0, .int 0, .null, .int 0, .int 0, .int 0, .null, .null, .null, .int 0, .null, .int 0, .null, .null, .null, .null, .int 0, .null, .null, .null, .null, .int 0, .int 0])), (q1, .inl (cy 0, 7, .inl (fun _ => 0))), (q2, .inl (cy 0, 4945, .inl (fun _ => 0))), (q3, .inl (cy 0, 9890, .inl (fun _ => 0))), (q4, .inl (cy 2, 2, .inl (fun _ => 0))), (q5, .inl (cy 1, 70, .inl f75)), (q76, .inl (cy 1, 400, .inl (fun _ => 0))), (q77, .inl (cy 0, 5, .inl (fun _ => 0))), (q78, .inl (cy 0, 401, .inl (fun _ => 0))), (q79, .inl (cy 0, 401, .inl (fun _ => 0))), (q80, .inl (cy 0, 401, .inl (fun _ => 0)))] H locs := hw
  refine lv_aload_n hx hb dX9_init_507 rfl (lv_at hl 0 rfl) ?_
  refine lv_bipush (v := 8) hx hb dX9_init_508 (by decide) ?_
  refine nwI (N := 8) hc hw (by decide) (by decide) (by decide) (by decide) (by decide) dX9_init_510 (fun q81 H hw => ?_)
  refine W.widen (k := 11) (n := 16530) (by decide) (by decide) ?_
  replace hw : wV D A s.heap [(a0, .inr (9, [.int 0, .int 0, .ref q1, .ref q2, .ref q3, .ref q4, .int 0, .ref q5, .ref q76, .ref q77, .int 0, .int (-1), .ref q78, .ref q79, .ref q80, .int 0, .int 0, .int 0, .int 0, .int 0, .int 0, .int 0, .null, .int 0, .int 0, .int 0, .null, .null, .null, .int 0, .null, .int 0, .null, .null, .null, .null, .int 0, .null, .null, .null, .null, .int 0, .int 0])), (q1, .inl (cy 0, 7, .inl (fun _ => 0))), (q2, .inl (cy 0, 4945, .inl (fun _ => 0))), (q3, .inl (cy 0, 9890, .inl (fun _ => 0))), (q4, .inl (cy 2, 2, .inl (fun _ => 0))), (q5, .inl (cy 1, 70, .inl f75)), (q76, .inl (cy 1, 400, .inl (fun _ => 0))), (q77, .inl (cy 0, 5, .inl (fun _ => 0))), (q78, .inl (cy 0, 401, .inl (fun _ => 0))), (q79, .inl (cy 0, 401, .inl (fun _ => 0))), (q80, .inl (cy 0, 401, .inl (fun _ => 0))), (q81, .inl (cy 0, 8, .inl (fun _ => 0)))] H locs := hw
  refine pFF (k := 22) hc hw inX9 tyX9_ok nmX9 rfl 0 rfl (by decide) (gm 1081 (by decide +kernel) rfl) rfl (hnm rfl) rfl rfl rfl (Nat.le_of_ble_eq_true rfl) dX9_init_512 (fun H locs hw => ?_)
  replace hw : wV D A s.heap [(a0, .inr (9, [.int 0, .int 0, .ref q1, .ref q2, .ref q3, .ref q4, .int 0, .ref q5, .ref q76, .ref q77, .int 0, .int (-1), .ref q78, .ref q79, .ref q80, .int 0, .int 0, .int 0, .int 0, .int 0, .int 0, .int 0, .ref q81, .int 0, .int 0, .int 0, .null, .null, .null, .int 0, .null, .int 0, .null, .null, .null, .null, .int 0, .null, .null, .null, .null, .int 0, .int 0])), (q1, .inl (cy 0, 7, .inl (fun _ => 0))), (q2, .inl (cy 0, 4945, .inl (fun _ => 0))), (q3, .inl (cy 0, 9890, .inl (fun _ => 0))), (q4, .inl (cy 2, 2, .inl (fun _ => 0))), (q5, .inl (cy 1, 70, .inl f75)), (q76, .inl (cy 1, 400, .inl (fun _ => 0))), (q77, .inl (cy 0, 5, .inl (fun _ => 0))), (q78, .inl (cy 0, 401, .inl (fun _ => 0))), (q79, .inl (cy 0, 401, .inl (fun _ => 0))), (q80, .inl (cy 0, 401, .inl (fun _ => 0))), (q81, .inl (cy 0, 8, .inl (fun _ => 0)))] H locs := hw
  refine lv_aload_n hx hb dX9_init_515 rfl (lv_at hl 0 rfl) ?_
  refine lv_bipush (v := 10) hx hb dX9_init_516 (by decide) ?_
  refine nwI (N := 10) hc hw (by decide) (by decide) (by decide) (by decide) (by decide) dX9_init_518 (fun q82 H hw => ?_)
  refine W.widen (k := 12) (n := 16540) (by decide) (by decide) ?_
  replace hw : wV D A s.heap [(a0, .inr (9, [.int 0, .int 0, .ref q1, .ref q2, .ref q3, .ref q4, .int 0, .ref q5, .ref q76, .ref q77, .int 0, .int (-1), .ref q78, .ref q79, .ref q80, .int 0, .int 0, .int 0, .int 0, .int 0, .int 0, .int 0, .ref q81, .int 0, .int 0, .int 0, .null, .null, .null, .int 0, .null, .int 0, .null, .null, .null, .null, .int 0, .null, .null, .null, .null, .int 0, .int 0])), (q1, .inl (cy 0, 7, .inl (fun _ => 0))), (q2, .inl (cy 0, 4945, .inl (fun _ => 0))), (q3, .inl (cy 0, 9890, .inl (fun _ => 0))), (q4, .inl (cy 2, 2, .inl (fun _ => 0))), (q5, .inl (cy 1, 70, .inl f75)), (q76, .inl (cy 1, 400, .inl (fun _ => 0))), (q77, .inl (cy 0, 5, .inl (fun _ => 0))), (q78, .inl (cy 0, 401, .inl (fun _ => 0))), (q79, .inl (cy 0, 401, .inl (fun _ => 0))), (q80, .inl (cy 0, 401, .inl (fun _ => 0))), (q81, .inl (cy 0, 8, .inl (fun _ => 0))), (q82, .inl (cy 0, 10, .inl (fun _ => 0)))] H locs := hw
  refine pFF (k := 26) hc hw inX9 tyX9_ok nmX9 rfl 0 rfl (by decide) (gm 1085 (by decide +kernel) rfl) rfl (hnm rfl) rfl rfl rfl (Nat.le_of_ble_eq_true rfl) dX9_init_520 (fun H locs hw => ?_)
  replace hw : wV D A s.heap [(a0, .inr (9, [.int 0, .int 0, .ref q1, .ref q2, .ref q3, .ref q4, .int 0, .ref q5, .ref q76, .ref q77, .int 0, .int (-1), .ref q78, .ref q79, .ref q80, .int 0, .int 0, .int 0, .int 0, .int 0, .int 0, .int 0, .ref q81, .int 0, .int 0, .int 0, .ref q82, .null, .null, .int 0, .null, .int 0, .null, .null, .null, .null, .int 0, .null, .null, .null, .null, .int 0, .int 0])), (q1, .inl (cy 0, 7, .inl (fun _ => 0))), (q2, .inl (cy 0, 4945, .inl (fun _ => 0))), (q3, .inl (cy 0, 9890, .inl (fun _ => 0))), (q4, .inl (cy 2, 2, .inl (fun _ => 0))), (q5, .inl (cy 1, 70, .inl f75)), (q76, .inl (cy 1, 400, .inl (fun _ => 0))), (q77, .inl (cy 0, 5, .inl (fun _ => 0))), (q78, .inl (cy 0, 401, .inl (fun _ => 0))), (q79, .inl (cy 0, 401, .inl (fun _ => 0))), (q80, .inl (cy 0, 401, .inl (fun _ => 0))), (q81, .inl (cy 0, 8, .inl (fun _ => 0))), (q82, .inl (cy 0, 10, .inl (fun _ => 0)))] H locs := hw
  refine lv_aload_n hx hb dX9_init_523 rfl (lv_at hl 0 rfl) ?_
  refine lv_bipush (v := 10) hx hb dX9_init_524 (by decide) ?_
  refine nwI (N := 10) hc hw (by decide) (by decide) (by decide) (by decide) (by decide) dX9_init_526 (fun q83 H hw => ?_)
  refine W.widen (k := 13) (n := 16550) (by decide) (by decide) ?_
  replace hw : wV D A s.heap [(a0, .inr (9, [.int 0, .int 0, .ref q1, .ref q2, .ref q3, .ref q4, .int 0, .ref q5, .ref q76, .ref q77, .int 0, .int (-1), .ref q78, .ref q79, .ref q80, .int 0, .int 0, .int 0, .int 0, .int 0, .int 0, .int 0, .ref q81, .int 0, .int 0, .int 0, .ref q82, .null, .null, .int 0, .null, .int 0, .null, .null, .null, .null, .int 0, .null, .null, .null, .null, .int 0, .int 0])), (q1, .inl (cy 0, 7, .inl (fun _ => 0))), (q2, .inl (cy 0, 4945, .inl (fun _ => 0))), (q3, .inl (cy 0, 9890, .inl (fun _ => 0))), (q4, .inl (cy 2, 2, .inl (fun _ => 0))), (q5, .inl (cy 1, 70, .inl f75)), (q76, .inl (cy 1, 400, .inl (fun _ => 0))), (q77, .inl (cy 0, 5, .inl (fun _ => 0))), (q78, .inl (cy 0, 401, .inl (fun _ => 0))), (q79, .inl (cy 0, 401, .inl (fun _ => 0))), (q80, .inl (cy 0, 401, .inl (fun _ => 0))), (q81, .inl (cy 0, 8, .inl (fun _ => 0))), (q82, .inl (cy 0, 10, .inl (fun _ => 0))), (q83, .inl (cy 0, 10, .inl (fun _ => 0)))] H locs := hw
  refine pFF (k := 27) hc hw inX9 tyX9_ok nmX9 rfl 0 rfl (by decide) (gm 1086 (by decide +kernel) rfl) rfl (hnm rfl) rfl rfl rfl (Nat.le_of_ble_eq_true rfl) dX9_init_528 (fun H locs hw => ?_)
  replace hw : wV D A s.heap [(a0, .inr (9, [.int 0, .int 0, .ref q1, .ref q2, .ref q3, .ref q4, .int 0, .ref q5, .ref q76, .ref q77, .int 0, .int (-1), .ref q78, .ref q79, .ref q80, .int 0, .int 0, .int 0, .int 0, .int 0, .int 0, .int 0, .ref q81, .int 0, .int 0, .int 0, .ref q82, .ref q83, .null, .int 0, .null, .int 0, .null, .null, .null, .null, .int 0, .null, .null, .null, .null, .int 0, .int 0])), (q1, .inl (cy 0, 7, .inl (fun _ => 0))), (q2, .inl (cy 0, 4945, .inl (fun _ => 0))), (q3, .inl (cy 0, 9890, .inl (fun _ => 0))), (q4, .inl (cy 2, 2, .inl (fun _ => 0))), (q5, .inl (cy 1, 70, .inl f75)), (q76, .inl (cy 1, 400, .inl (fun _ => 0))), (q77, .inl (cy 0, 5, .inl (fun _ => 0))), (q78, .inl (cy 0, 401, .inl (fun _ => 0))), (q79, .inl (cy 0, 401, .inl (fun _ => 0))), (q80, .inl (cy 0, 401, .inl (fun _ => 0))), (q81, .inl (cy 0, 8, .inl (fun _ => 0))), (q82, .inl (cy 0, 10, .inl (fun _ => 0))), (q83, .inl (cy 0, 10, .inl (fun _ => 0)))] H locs := hw
  refine lv_aload_n hx hb dX9_init_531 rfl (lv_at hl 0 rfl) ?_
  refine lv_bipush (v := 10) hx hb dX9_init_532 (by decide) ?_
  refine nwI (N := 10) hc hw (by decide) (by decide) (by decide) (by decide) (by decide) dX9_init_534 (fun q84 H hw => ?_)
  refine W.widen (k := 14) (n := 16560) (by decide) (by decide) ?_
  replace hw : wV D A s.heap [(a0, .inr (9, [.int 0, .int 0, .ref q1, .ref q2, .ref q3, .ref q4, .int 0, .ref q5, .ref q76, .ref q77, .int 0, .int (-1), .ref q78, .ref q79, .ref q80, .int 0, .int 0, .int 0, .int 0, .int 0, .int 0, .int 0, .ref q81, .int 0, .int 0, .int 0, .ref q82, .ref q83, .null, .int 0, .null, .int 0, .null, .null, .null, .null, .int 0, .null, .null, .null, .null, .int 0, .int 0])), (q1, .inl (cy 0, 7, .inl (fun _ => 0))), (q2, .inl (cy 0, 4945, .inl (fun _ => 0))), (q3, .inl (cy 0, 9890, .inl (fun _ => 0))), (q4, .inl (cy 2, 2, .inl (fun _ => 0))), (q5, .inl (cy 1, 70, .inl f75)), (q76, .inl (cy 1, 400, .inl (fun _ => 0))), (q77, .inl (cy 0, 5, .inl (fun _ => 0))), (q78, .inl (cy 0, 401, .inl (fun _ => 0))), (q79, .inl (cy 0, 401, .inl (fun _ => 0))), (q80, .inl (cy 0, 401, .inl (fun _ => 0))), (q81, .inl (cy 0, 8, .inl (fun _ => 0))), (q82, .inl (cy 0, 10, .inl (fun _ => 0))), (q83, .inl (cy 0, 10, .inl (fun _ => 0))), (q84, .inl (cy 0, 10, .inl (fun _ => 0)))] H locs := hw
  refine pFF (k := 28) hc hw inX9 tyX9_ok nmX9 rfl 0 rfl (by decide) (gm 1087 (by decide +kernel) rfl) rfl (hnm rfl) rfl rfl rfl (Nat.le_of_ble_eq_true rfl) dX9_init_536 (fun H locs hw => ?_)
  replace hw : wV D A s.heap [(a0, .inr (9, [.int 0, .int 0, .ref q1, .ref q2, .ref q3, .ref q4, .int 0, .ref q5, .ref q76, .ref q77, .int 0, .int (-1), .ref q78, .ref q79, .ref q80, .int 0, .int 0, .int 0, .int 0, .int 0, .int 0, .int 0, .ref q81, .int 0, .int 0, .int 0, .ref q82, .ref q83, .ref q84, .int 0, .null, .int 0, .null, .null, .null, .null, .int 0, .null, .null, .null, .null, .int 0, .int 0])), (q1, .inl (cy 0, 7, .inl (fun _ => 0))), (q2, .inl (cy 0, 4945, .inl (fun _ => 0))), (q3, .inl (cy 0, 9890, .inl (fun _ => 0))), (q4, .inl (cy 2, 2, .inl (fun _ => 0))), (q5, .inl (cy 1, 70, .inl f75)), (q76, .inl (cy 1, 400, .inl (fun _ => 0))), (q77, .inl (cy 0, 5, .inl (fun _ => 0))), (q78, .inl (cy 0, 401, .inl (fun _ => 0))), (q79, .inl (cy 0, 401, .inl (fun _ => 0))), (q80, .inl (cy 0, 401, .inl (fun _ => 0))), (q81, .inl (cy 0, 8, .inl (fun _ => 0))), (q82, .inl (cy 0, 10, .inl (fun _ => 0))), (q83, .inl (cy 0, 10, .inl (fun _ => 0))), (q84, .inl (cy 0, 10, .inl (fun _ => 0)))] H locs := hw
  refine lv_aload_n hx hb dX9_init_539 rfl (lv_at hl 0 rfl) ?_
  refine lv_iconst (v := (-1)) hx hb dX9_init_540 (by decide) ?_
  refine pFr (k := 29) hc hw inX9 tyX9_ok nmX9 rfl 0 rfl (by decide) (gm 1088 (by decide +kernel) rfl) rfl rfl rfl (Nat.le_of_ble_eq_true rfl) dX9_init_541 (fun H locs hw => ?_)
  replace hw : wV D A s.heap [(a0, .inr (9, [.int 0, .int 0, .ref q1, .ref q2, .ref q3, .ref q4, .int 0, .ref q5, .ref q76, .ref q77, .int 0, .int (-1), .ref q78, .ref q79, .ref q80, .int 0, .int 0, .int 0, .int 0, .int 0, .int 0, .int 0, .ref q81, .int 0, .int 0, .int 0, .ref q82, .ref q83, .ref q84, .int (-1), .null, .int 0, .null, .null, .null, .null, .int 0, .null, .null, .null, .null, .int 0, .int 0])), (q1, .inl (cy 0, 7, .inl (fun _ => 0))), (q2, .inl (cy 0, 4945, .inl (fun _ => 0))), (q3, .inl (cy 0, 9890, .inl (fun _ => 0))), (q4, .inl (cy 2, 2, .inl (fun _ => 0))), (q5, .inl (cy 1, 70, .inl f75)), (q76, .inl (cy 1, 400, .inl (fun _ => 0))), (q77, .inl (cy 0, 5, .inl (fun _ => 0))), (q78, .inl (cy 0, 401, .inl (fun _ => 0))), (q79, .inl (cy 0, 401, .inl (fun _ => 0))), (q80, .inl (cy 0, 401, .inl (fun _ => 0))), (q81, .inl (cy 0, 8, .inl (fun _ => 0))), (q82, .inl (cy 0, 10, .inl (fun _ => 0))), (q83, .inl (cy 0, 10, .inl (fun _ => 0))), (q84, .inl (cy 0, 10, .inl (fun _ => 0)))] H locs := hw
  refine lv_aload_n hx hb dX9_init_544 rfl (lv_at hl 0 rfl) ?_
  refine lv_sipush (v := 5120) hx hb dX9_init_545 (by decide) ?_
  refine nwI (N := 5120) hc hw (by decide) (by decide) (by decide) (by decide) (by decide) dX9_init_548 (fun q85 H hw => ?_)
  refine W.widen (k := 15) (n := 21680) (by decide) (by decide) ?_
  replace hw : wV D A s.heap [(a0, .inr (9, [.int 0, .int 0, .ref q1, .ref q2, .ref q3, .ref q4, .int 0, .ref q5, .ref q76, .ref q77, .int 0, .int (-1), .ref q78, .ref q79, .ref q80, .int 0, .int 0, .int 0, .int 0, .int 0, .int 0, .int 0, .ref q81, .int 0, .int 0, .int 0, .ref q82, .ref q83, .ref q84, .int (-1), .null, .int 0, .null, .null, .null, .null, .int 0, .null, .null, .null, .null, .int 0, .int 0])), (q1, .inl (cy 0, 7, .inl (fun _ => 0))), (q2, .inl (cy 0, 4945, .inl (fun _ => 0))), (q3, .inl (cy 0, 9890, .inl (fun _ => 0))), (q4, .inl (cy 2, 2, .inl (fun _ => 0))), (q5, .inl (cy 1, 70, .inl f75)), (q76, .inl (cy 1, 400, .inl (fun _ => 0))), (q77, .inl (cy 0, 5, .inl (fun _ => 0))), (q78, .inl (cy 0, 401, .inl (fun _ => 0))), (q79, .inl (cy 0, 401, .inl (fun _ => 0))), (q80, .inl (cy 0, 401, .inl (fun _ => 0))), (q81, .inl (cy 0, 8, .inl (fun _ => 0))), (q82, .inl (cy 0, 10, .inl (fun _ => 0))), (q83, .inl (cy 0, 10, .inl (fun _ => 0))), (q84, .inl (cy 0, 10, .inl (fun _ => 0))), (q85, .inl (cy 0, 5120, .inl (fun _ => 0)))] H locs := hw
  refine pFF (k := 30) hc hw inX9 tyX9_ok nmX9 rfl 0 rfl (by decide) (gm 1089 (by decide +kernel) rfl) rfl (hnm rfl) rfl rfl rfl (Nat.le_of_ble_eq_true rfl) dX9_init_550 (fun H locs hw => ?_)
  replace hw : wV D A s.heap [(a0, .inr (9, [.int 0, .int 0, .ref q1, .ref q2, .ref q3, .ref q4, .int 0, .ref q5, .ref q76, .ref q77, .int 0, .int (-1), .ref q78, .ref q79, .ref q80, .int 0, .int 0, .int 0, .int 0, .int 0, .int 0, .int 0, .ref q81, .int 0, .int 0, .int 0, .ref q82, .ref q83, .ref q84, .int (-1), .ref q85, .int 0, .null, .null, .null, .null, .int 0, .null, .null, .null, .null, .int 0, .int 0])), (q1, .inl (cy 0, 7, .inl (fun _ => 0))), (q2, .inl (cy 0, 4945, .inl (fun _ => 0))), (q3, .inl (cy 0, 9890, .inl (fun _ => 0))), (q4, .inl (cy 2, 2, .inl (fun _ => 0))), (q5, .inl (cy 1, 70, .inl f75)), (q76, .inl (cy 1, 400, .inl (fun _ => 0))), (q77, .inl (cy 0, 5, .inl (fun _ => 0))), (q78, .inl (cy 0, 401, .inl (fun _ => 0))), (q79, .inl (cy 0, 401, .inl (fun _ => 0))), (q80, .inl (cy 0, 401, .inl (fun _ => 0))), (q81, .inl (cy 0, 8, .inl (fun _ => 0))), (q82, .inl (cy 0, 10, .inl (fun _ => 0))), (q83, .inl (cy 0, 10, .inl (fun _ => 0))), (q84, .inl (cy 0, 10, .inl (fun _ => 0))), (q85, .inl (cy 0, 5120, .inl (fun _ => 0)))] H locs := hw
  refine lv_aload_n hx hb dX9_init_553 rfl (lv_at hl 0 rfl) ?_
  refine lv_bipush (v := 10) hx hb dX9_init_554 (by decide) ?_
  refine nwI (N := 10) hc hw (by decide) (by decide) (by decide) (by decide) (by decide) dX9_init_556 (fun q86 H hw => ?_)
  refine W.widen (k := 16) (n := 21690) (by decide) (by decide) ?_
  replace hw : wV D A s.heap [(a0, .inr (9, [.int 0, .int 0, .ref q1, .ref q2, .ref q3, .ref q4, .int 0, .ref q5, .ref q76, .ref q77, .int 0, .int (-1), .ref q78, .ref q79, .ref q80, .int 0, .int 0, .int 0, .int 0, .int 0, .int 0, .int 0, .ref q81, .int 0, .int 0, .int 0, .ref q82, .ref q83, .ref q84, .int (-1), .ref q85, .int 0, .null, .null, .null, .null, .int 0, .null, .null, .null, .null, .int 0, .int 0])), (q1, .inl (cy 0, 7, .inl (fun _ => 0))), (q2, .inl (cy 0, 4945, .inl (fun _ => 0))), (q3, .inl (cy 0, 9890, .inl (fun _ => 0))), (q4, .inl (cy 2, 2, .inl (fun _ => 0))), (q5, .inl (cy 1, 70, .inl f75)), (q76, .inl (cy 1, 400, .inl (fun _ => 0))), (q77, .inl (cy 0, 5, .inl (fun _ => 0))), (q78, .inl (cy 0, 401, .inl (fun _ => 0))), (q79, .inl (cy 0, 401, .inl (fun _ => 0))), (q80, .inl (cy 0, 401, .inl (fun _ => 0))), (q81, .inl (cy 0, 8, .inl (fun _ => 0))), (q82, .inl (cy 0, 10, .inl (fun _ => 0))), (q83, .inl (cy 0, 10, .inl (fun _ => 0))), (q84, .inl (cy 0, 10, .inl (fun _ => 0))), (q85, .inl (cy 0, 5120, .inl (fun _ => 0))), (q86, .inl (cy 0, 10, .inl (fun _ => 0)))] H locs := hw
  refine pFF (k := 32) hc hw inX9 tyX9_ok nmX9 rfl 0 rfl (by decide) (gm 1091 (by decide +kernel) rfl) rfl (hnm rfl) rfl rfl rfl (Nat.le_of_ble_eq_true rfl) dX9_init_558 (fun H locs hw => ?_)
  replace hw : wV D A s.heap [(a0, .inr (9, [.int 0, .int 0, .ref q1, .ref q2, .ref q3, .ref q4, .int 0, .ref q5, .ref q76, .ref q77, .int 0, .int (-1), .ref q78, .ref q79, .ref q80, .int 0, .int 0, .int 0, .int 0, .int 0, .int 0, .int 0, .ref q81, .int 0, .int 0, .int 0, .ref q82, .ref q83, .ref q84, .int (-1), .ref q85, .int 0, .ref q86, .null, .null, .null, .int 0, .null, .null, .null, .null, .int 0, .int 0])), (q1, .inl (cy 0, 7, .inl (fun _ => 0))), (q2, .inl (cy 0, 4945, .inl (fun _ => 0))), (q3, .inl (cy 0, 9890, .inl (fun _ => 0))), (q4, .inl (cy 2, 2, .inl (fun _ => 0))), (q5, .inl (cy 1, 70, .inl f75)), (q76, .inl (cy 1, 400, .inl (fun _ => 0))), (q77, .inl (cy 0, 5, .inl (fun _ => 0))), (q78, .inl (cy 0, 401, .inl (fun _ => 0))), (q79, .inl (cy 0, 401, .inl (fun _ => 0))), (q80, .inl (cy 0, 401, .inl (fun _ => 0))), (q81, .inl (cy 0, 8, .inl (fun _ => 0))), (q82, .inl (cy 0, 10, .inl (fun _ => 0))), (q83, .inl (cy 0, 10, .inl (fun _ => 0))), (q84, .inl (cy 0, 10, .inl (fun _ => 0))), (q85, .inl (cy 0, 5120, .inl (fun _ => 0))), (q86, .inl (cy 0, 10, .inl (fun _ => 0)))] H locs := hw
  refine lv_aload_n hx hb dX9_init_561 rfl (lv_at hl 0 rfl) ?_
  refine lv_bipush (v := 10) hx hb dX9_init_562 (by decide) ?_
  refine nwI (N := 10) hc hw (by decide) (by decide) (by decide) (by decide) (by decide) dX9_init_564 (fun q87 H hw => ?_)
  refine W.widen (k := 17) (n := 21700) (by decide) (by decide) ?_
  replace hw : wV D A s.heap [(a0, .inr (9, [.int 0, .int 0, .ref q1, .ref q2, .ref q3, .ref q4, .int 0, .ref q5, .ref q76, .ref q77, .int 0, .int (-1), .ref q78, .ref q79, .ref q80, .int 0, .int 0, .int 0, .int 0, .int 0, .int 0, .int 0, .ref q81, .int 0, .int 0, .int 0, .ref q82, .ref q83, .ref q84, .int (-1), .ref q85, .int 0, .ref q86, .null, .null, .null, .int 0, .null, .null, .null, .null, .int 0, .int 0])), (q1, .inl (cy 0, 7, .inl (fun _ => 0))), (q2, .inl (cy 0, 4945, .inl (fun _ => 0))), (q3, .inl (cy 0, 9890, .inl (fun _ => 0))), (q4, .inl (cy 2, 2, .inl (fun _ => 0))), (q5, .inl (cy 1, 70, .inl f75)), (q76, .inl (cy 1, 400, .inl (fun _ => 0))), (q77, .inl (cy 0, 5, .inl (fun _ => 0))), (q78, .inl (cy 0, 401, .inl (fun _ => 0))), (q79, .inl (cy 0, 401, .inl (fun _ => 0))), (q80, .inl (cy 0, 401, .inl (fun _ => 0))), (q81, .inl (cy 0, 8, .inl (fun _ => 0))), (q82, .inl (cy 0, 10, .inl (fun _ => 0))), (q83, .inl (cy 0, 10, .inl (fun _ => 0))), (q84, .inl (cy 0, 10, .inl (fun _ => 0))), (q85, .inl (cy 0, 5120, .inl (fun _ => 0))), (q86, .inl (cy 0, 10, .inl (fun _ => 0))), (q87, .inl (cy 0, 10, .inl (fun _ => 0)))] H locs := hw
  refine pFF (k := 33) hc hw inX9 tyX9_ok nmX9 rfl 0 rfl (by decide) (gm 1092 (by decide +kernel) rfl) rfl (hnm rfl) rfl rfl rfl (Nat.le_of_ble_eq_true rfl) dX9_init_566 (fun H locs hw => ?_)
  replace hw : wV D A s.heap [(a0, .inr (9, [.int 0, .int 0, .ref q1, .ref q2, .ref q3, .ref q4, .int 0, .ref q5, .ref q76, .ref q77, .int 0, .int (-1), .ref q78, .ref q79, .ref q80, .int 0, .int 0, .int 0, .int 0, .int 0, .int 0, .int 0, .ref q81, .int 0, .int 0, .int 0, .ref q82, .ref q83, .ref q84, .int (-1), .ref q85, .int 0, .ref q86, .ref q87, .null, .null, .int 0, .null, .null, .null, .null, .int 0, .int 0])), (q1, .inl (cy 0, 7, .inl (fun _ => 0))), (q2, .inl (cy 0, 4945, .inl (fun _ => 0))), (q3, .inl (cy 0, 9890, .inl (fun _ => 0))), (q4, .inl (cy 2, 2, .inl (fun _ => 0))), (q5, .inl (cy 1, 70, .inl f75)), (q76, .inl (cy 1, 400, .inl (fun _ => 0))), (q77, .inl (cy 0, 5, .inl (fun _ => 0))), (q78, .inl (cy 0, 401, .inl (fun _ => 0))), (q79, .inl (cy 0, 401, .inl (fun _ => 0))), (q80, .inl (cy 0, 401, .inl (fun _ => 0))), (q81, .inl (cy 0, 8, .inl (fun _ => 0))), (q82, .inl (cy 0, 10, .inl (fun _ => 0))), (q83, .inl (cy 0, 10, .inl (fun _ => 0))), (q84, .inl (cy 0, 10, .inl (fun _ => 0))), (q85, .inl (cy 0, 5120, .inl (fun _ => 0))), (q86, .inl (cy 0, 10, .inl (fun _ => 0))), (q87, .inl (cy 0, 10, .inl (fun _ => 0)))] H locs := hw
  refine lv_aload_n hx hb dX9_init_569 rfl (lv_at hl 0 rfl) ?_
  refine lv_bipush (v := 10) hx hb dX9_init_570 (by decide) ?_
  refine nwI (N := 10) hc hw (by decide) (by decide) (by decide) (by decide) (by decide) dX9_init_572 (fun q88 H hw => ?_)
  refine W.widen (k := 18) (n := 21710) (by decide) (by decide) ?_
  replace hw : wV D A s.heap [(a0, .inr (9, [.int 0, .int 0, .ref q1, .ref q2, .ref q3, .ref q4, .int 0, .ref q5, .ref q76, .ref q77, .int 0, .int (-1), .ref q78, .ref q79, .ref q80, .int 0, .int 0, .int 0, .int 0, .int 0, .int 0, .int 0, .ref q81, .int 0, .int 0, .int 0, .ref q82, .ref q83, .ref q84, .int (-1), .ref q85, .int 0, .ref q86, .ref q87, .null, .null, .int 0, .null, .null, .null, .null, .int 0, .int 0])), (q1, .inl (cy 0, 7, .inl (fun _ => 0))), (q2, .inl (cy 0, 4945, .inl (fun _ => 0))), (q3, .inl (cy 0, 9890, .inl (fun _ => 0))), (q4, .inl (cy 2, 2, .inl (fun _ => 0))), (q5, .inl (cy 1, 70, .inl f75)), (q76, .inl (cy 1, 400, .inl (fun _ => 0))), (q77, .inl (cy 0, 5, .inl (fun _ => 0))), (q78, .inl (cy 0, 401, .inl (fun _ => 0))), (q79, .inl (cy 0, 401, .inl (fun _ => 0))), (q80, .inl (cy 0, 401, .inl (fun _ => 0))), (q81, .inl (cy 0, 8, .inl (fun _ => 0))), (q82, .inl (cy 0, 10, .inl (fun _ => 0))), (q83, .inl (cy 0, 10, .inl (fun _ => 0))), (q84, .inl (cy 0, 10, .inl (fun _ => 0))), (q85, .inl (cy 0, 5120, .inl (fun _ => 0))), (q86, .inl (cy 0, 10, .inl (fun _ => 0))), (q87, .inl (cy 0, 10, .inl (fun _ => 0))), (q88, .inl (cy 0, 10, .inl (fun _ => 0)))] H locs := hw
  refine pFF (k := 34) hc hw inX9 tyX9_ok nmX9 rfl 0 rfl (by decide) (gm 1093 (by decide +kernel) rfl) rfl (hnm rfl) rfl rfl rfl (Nat.le_of_ble_eq_true rfl) dX9_init_574 (fun H locs hw => ?_)
  replace hw : wV D A s.heap [(a0, .inr (9, [.int 0, .int 0, .ref q1, .ref q2, .ref q3, .ref q4, .int 0, .ref q5, .ref q76, .ref q77, .int 0, .int (-1), .ref q78, .ref q79, .ref q80, .int 0, .int 0, .int 0, .int 0, .int 0, .int 0, .int 0, .ref q81, .int 0, .int 0, .int 0, .ref q82, .ref q83, .ref q84, .int (-1), .ref q85, .int 0, .ref q86, .ref q87, .ref q88, .null, .int 0, .null, .null, .null, .null, .int 0, .int 0])), (q1, .inl (cy 0, 7, .inl (fun _ => 0))), (q2, .inl (cy 0, 4945, .inl (fun _ => 0))), (q3, .inl (cy 0, 9890, .inl (fun _ => 0))), (q4, .inl (cy 2, 2, .inl (fun _ => 0))), (q5, .inl (cy 1, 70, .inl f75)), (q76, .inl (cy 1, 400, .inl (fun _ => 0))), (q77, .inl (cy 0, 5, .inl (fun _ => 0))), (q78, .inl (cy 0, 401, .inl (fun _ => 0))), (q79, .inl (cy 0, 401, .inl (fun _ => 0))), (q80, .inl (cy 0, 401, .inl (fun _ => 0))), (q81, .inl (cy 0, 8, .inl (fun _ => 0))), (q82, .inl (cy 0, 10, .inl (fun _ => 0))), (q83, .inl (cy 0, 10, .inl (fun _ => 0))), (q84, .inl (cy 0, 10, .inl (fun _ => 0))), (q85, .inl (cy 0, 5120, .inl (fun _ => 0))), (q86, .inl (cy 0, 10, .inl (fun _ => 0))), (q87, .inl (cy 0, 10, .inl (fun _ => 0))), (q88, .inl (cy 0, 10, .inl (fun _ => 0)))] H locs := hw
  refine lv_aload_n hx hb dX9_init_577 rfl (lv_at hl 0 rfl) ?_
  refine lv_bipush (v := 11) hx hb dX9_init_578 (by decide) ?_
  refine nwI (N := 11) hc hw (by decide) (by decide) (by decide) (by decide) (by decide) dX9_init_580 (fun q89 H hw => ?_)
  refine W.widen (k := 19) (n := 21721) (by decide) (by decide) ?_
  replace hw : wV D A s.heap [(a0, .inr (9, [.int 0, .int 0, .ref q1, .ref q2, .ref q3, .ref q4, .int 0, .ref q5, .ref q76, .ref q77, .int 0, .int (-1), .ref q78, .ref q79, .ref q80, .int 0, .int 0, .int 0, .int 0, .int 0, .int 0, .int 0, .ref q81, .int 0, .int 0, .int 0, .ref q82, .ref q83, .ref q84, .int (-1), .ref q85, .int 0, .ref q86, .ref q87, .ref q88, .null, .int 0, .null, .null, .null, .null, .int 0, .int 0])), (q1, .inl (cy 0, 7, .inl (fun _ => 0))), (q2, .inl (cy 0, 4945, .inl (fun _ => 0))), (q3, .inl (cy 0, 9890, .inl (fun _ => 0))), (q4, .inl (cy 2, 2, .inl (fun _ => 0))), (q5, .inl (cy 1, 70, .inl f75)), (q76, .inl (cy 1, 400, .inl (fun _ => 0))), (q77, .inl (cy 0, 5, .inl (fun _ => 0))), (q78, .inl (cy 0, 401, .inl (fun _ => 0))), (q79, .inl (cy 0, 401, .inl (fun _ => 0))), (q80, .inl (cy 0, 401, .inl (fun _ => 0))), (q81, .inl (cy 0, 8, .inl (fun _ => 0))), (q82, .inl (cy 0, 10, .inl (fun _ => 0))), (q83, .inl (cy 0, 10, .inl (fun _ => 0))), (q84, .inl (cy 0, 10, .inl (fun _ => 0))), (q85, .inl (cy 0, 5120, .inl (fun _ => 0))), (q86, .inl (cy 0, 10, .inl (fun _ => 0))), (q87, .inl (cy 0, 10, .inl (fun _ => 0))), (q88, .inl (cy 0, 10, .inl (fun _ => 0))), (q89, .inl (cy 0, 11, .inl (fun _ => 0)))] H locs := hw
  refine pFF (k := 35) hc hw inX9 tyX9_ok nmX9 rfl 0 rfl (by decide) (gm 1094 (by decide +kernel) rfl) rfl (hnm rfl) rfl rfl rfl (Nat.le_of_ble_eq_true rfl) dX9_init_582 (fun H locs hw => ?_)
  replace hw : wV D A s.heap [(a0, .inr (9, [.int 0, .int 0, .ref q1, .ref q2, .ref q3, .ref q4, .int 0, .ref q5, .ref q76, .ref q77, .int 0, .int (-1), .ref q78, .ref q79, .ref q80, .int 0, .int 0, .int 0, .int 0, .int 0, .int 0, .int 0, .ref q81, .int 0, .int 0, .int 0, .ref q82, .ref q83, .ref q84, .int (-1), .ref q85, .int 0, .ref q86, .ref q87, .ref q88, .ref q89, .int 0, .null, .null, .null, .null, .int 0, .int 0])), (q1, .inl (cy 0, 7, .inl (fun _ => 0))), (q2, .inl (cy 0, 4945, .inl (fun _ => 0))), (q3, .inl (cy 0, 9890, .inl (fun _ => 0))), (q4, .inl (cy 2, 2, .inl (fun _ => 0))), (q5, .inl (cy 1, 70, .inl f75)), (q76, .inl (cy 1, 400, .inl (fun _ => 0))), (q77, .inl (cy 0, 5, .inl (fun _ => 0))), (q78, .inl (cy 0, 401, .inl (fun _ => 0))), (q79, .inl (cy 0, 401, .inl (fun _ => 0))), (q80, .inl (cy 0, 401, .inl (fun _ => 0))), (q81, .inl (cy 0, 8, .inl (fun _ => 0))), (q82, .inl (cy 0, 10, .inl (fun _ => 0))), (q83, .inl (cy 0, 10, .inl (fun _ => 0))), (q84, .inl (cy 0, 10, .inl (fun _ => 0))), (q85, .inl (cy 0, 5120, .inl (fun _ => 0))), (q86, .inl (cy 0, 10, .inl (fun _ => 0))), (q87, .inl (cy 0, 10, .inl (fun _ => 0))), (q88, .inl (cy 0, 10, .inl (fun _ => 0))), (q89, .inl (cy 0, 11, .inl (fun _ => 0)))] H locs := hw
  refine lv_aload_n hx hb dX9_init_585 rfl (lv_at hl 0 rfl) ?_
  refine lv_sipush (v := 5120) hx hb dX9_init_586 (by decide) ?_
  refine nwI (N := 5120) hc hw (by decide) (by decide) (by decide) (by decide) (by decide) dX9_init_589 (fun q90 H hw => ?_)
  refine W.widen (k := 20) (n := 26841) (by decide) (by decide) ?_
  replace hw : wV D A s.heap [(a0, .inr (9, [.int 0, .int 0, .ref q1, .ref q2, .ref q3, .ref q4, .int 0, .ref q5, .ref q76, .ref q77, .int 0, .int (-1), .ref q78, .ref q79, .ref q80, .int 0, .int 0, .int 0, .int 0, .int 0, .int 0, .int 0, .ref q81, .int 0, .int 0, .int 0, .ref q82, .ref q83, .ref q84, .int (-1), .ref q85, .int 0, .ref q86, .ref q87, .ref q88, .ref q89, .int 0, .null, .null, .null, .null, .int 0, .int 0])), (q1, .inl (cy 0, 7, .inl (fun _ => 0))), (q2, .inl (cy 0, 4945, .inl (fun _ => 0))), (q3, .inl (cy 0, 9890, .inl (fun _ => 0))), (q4, .inl (cy 2, 2, .inl (fun _ => 0))), (q5, .inl (cy 1, 70, .inl f75)), (q76, .inl (cy 1, 400, .inl (fun _ => 0))), (q77, .inl (cy 0, 5, .inl (fun _ => 0))), (q78, .inl (cy 0, 401, .inl (fun _ => 0))), (q79, .inl (cy 0, 401, .inl (fun _ => 0))), (q80, .inl (cy 0, 401, .inl (fun _ => 0))), (q81, .inl (cy 0, 8, .inl (fun _ => 0))), (q82, .inl (cy 0, 10, .inl (fun _ => 0))), (q83, .inl (cy 0, 10, .inl (fun _ => 0))), (q84, .inl (cy 0, 10, .inl (fun _ => 0))), (q85, .inl (cy 0, 5120, .inl (fun _ => 0))), (q86, .inl (cy 0, 10, .inl (fun _ => 0))), (q87, .inl (cy 0, 10, .inl (fun _ => 0))), (q88, .inl (cy 0, 10, .inl (fun _ => 0))), (q89, .inl (cy 0, 11, .inl (fun _ => 0))), (q90, .inl (cy 0, 5120, .inl (fun _ => 0)))] H locs := hw
  refine pFF (k := 37) hc hw inX9 tyX9_ok nmX9 rfl 0 rfl (by decide) (gm 1096 (by decide +kernel) rfl) rfl (hnm rfl) rfl rfl rfl (Nat.le_of_ble_eq_true rfl) dX9_init_591 (fun H locs hw => ?_)
  replace hw : wV D A s.heap [(a0, .inr (9, [.int 0, .int 0, .ref q1, .ref q2, .ref q3, .ref q4, .int 0, .ref q5, .ref q76, .ref q77, .int 0, .int (-1), .ref q78, .ref q79, .ref q80, .int 0, .int 0, .int 0, .int 0, .int 0, .int 0, .int 0, .ref q81, .int 0, .int 0, .int 0, .ref q82, .ref q83, .ref q84, .int (-1), .ref q85, .int 0, .ref q86, .ref q87, .ref q88, .ref q89, .int 0, .ref q90, .null, .null, .null, .int 0, .int 0])), (q1, .inl (cy 0, 7, .inl (fun _ => 0))), (q2, .inl (cy 0, 4945, .inl (fun _ => 0))), (q3, .inl (cy 0, 9890, .inl (fun _ => 0))), (q4, .inl (cy 2, 2, .inl (fun _ => 0))), (q5, .inl (cy 1, 70, .inl f75)), (q76, .inl (cy 1, 400, .inl (fun _ => 0))), (q77, .inl (cy 0, 5, .inl (fun _ => 0))), (q78, .inl (cy 0, 401, .inl (fun _ => 0))), (q79, .inl (cy 0, 401, .inl (fun _ => 0))), (q80, .inl (cy 0, 401, .inl (fun _ => 0))), (q81, .inl (cy 0, 8, .inl (fun _ => 0))), (q82, .inl (cy 0, 10, .inl (fun _ => 0))), (q83, .inl (cy 0, 10, .inl (fun _ => 0))), (q84, .inl (cy 0, 10, .inl (fun _ => 0))), (q85, .inl (cy 0, 5120, .inl (fun _ => 0))), (q86, .inl (cy 0, 10, .inl (fun _ => 0))), (q87, .inl (cy 0, 10, .inl (fun _ => 0))), (q88, .inl (cy 0, 10, .inl (fun _ => 0))), (q89, .inl (cy 0, 11, .inl (fun _ => 0))), (q90, .inl (cy 0, 5120, .inl (fun _ => 0)))] H locs := hw
  refine lv_aload_n hx hb dX9_init_594 rfl (lv_at hl 0 rfl) ?_
  refine lv_bipush (v := 10) hx hb dX9_init_595 (by decide) ?_
  refine nwI (N := 10) hc hw (by decide) (by decide) (by decide) (by decide) (by decide) dX9_init_597 (fun q91 H hw => ?_)
  refine W.widen (k := 21) (n := 26851) (by decide) (by decide) ?_
  replace hw : wV D A s.heap [(a0, .inr (9, [.int 0, .int 0, .ref q1, .ref q2, .ref q3, .ref q4, .int 0, .ref q5, .ref q76, .ref q77, .int 0, .int (-1), .ref q78, .ref q79, .ref q80, .int 0, .int 0, .int 0, .int 0, .int 0, .int 0, .int 0, .ref q81, .int 0, .int 0, .int 0, .ref q82, .ref q83, .ref q84, .int (-1), .ref q85, .int 0, .ref q86, .ref q87, .ref q88, .ref q89, .int 0, .ref q90, .null, .null, .null, .int 0, .int 0])), (q1, .inl (cy 0, 7, .inl (fun _ => 0))), (q2, .inl (cy 0, 4945, .inl (fun _ => 0))), (q3, .inl (cy 0, 9890, .inl (fun _ => 0))), (q4, .inl (cy 2, 2, .inl (fun _ => 0))), (q5, .inl (cy 1, 70, .inl f75)), (q76, .inl (cy 1, 400, .inl (fun _ => 0))), (q77, .inl (cy 0, 5, .inl (fun _ => 0))), (q78, .inl (cy 0, 401, .inl (fun _ => 0))), (q79, .inl (cy 0, 401, .inl (fun _ => 0))), (q80, .inl (cy 0, 401, .inl (fun _ => 0))), (q81, .inl (cy 0, 8, .inl (fun _ => 0))), (q82, .inl (cy 0, 10, .inl (fun _ => 0))), (q83, .inl (cy 0, 10, .inl (fun _ => 0))), (q84, .inl (cy 0, 10, .inl (fun _ => 0))), (q85, .inl (cy 0, 5120, .inl (fun _ => 0))), (q86, .inl (cy 0, 10, .inl (fun _ => 0))), (q87, .inl (cy 0, 10, .inl (fun _ => 0))), (q88, .inl (cy 0, 10, .inl (fun _ => 0))), (q89, .inl (cy 0, 11, .inl (fun _ => 0))), (q90, .inl (cy 0, 5120, .inl (fun _ => 0))), (q91, .inl (cy 0, 10, .inl (fun _ => 0)))] H locs := hw
  refine pFF (k := 38) hc hw inX9 tyX9_ok nmX9 rfl 0 rfl (by decide) (gm 1097 (by decide +kernel) rfl) rfl (hnm rfl) rfl rfl rfl (Nat.le_of_ble_eq_true rfl) dX9_init_599 (fun H locs hw => ?_)
  replace hw : wV D A s.heap [(a0, .inr (9, [.int 0, .int 0, .ref q1, .ref q2, .ref q3, .ref q4, .int 0, .ref q5, .ref q76, .ref q77, .int 0, .int (-1), .ref q78, .ref q79, .ref q80, .int 0, .int 0, .int 0, .int 0, .int 0, .int 0, .int 0, .ref q81, .int 0, .int 0, .int 0, .ref q82, .ref q83, .ref q84, .int (-1), .ref q85, .int 0, .ref q86, .ref q87, .ref q88, .ref q89, .int 0, .ref q90, .ref q91, .null, .null, .int 0, .int 0])), (q1, .inl (cy 0, 7, .inl (fun _ => 0))), (q2, .inl (cy 0, 4945, .inl (fun _ => 0))), (q3, .inl (cy 0, 9890, .inl (fun _ => 0))), (q4, .inl (cy 2, 2, .inl (fun _ => 0))), (q5, .inl (cy 1, 70, .inl f75)), (q76, .inl (cy 1, 400, .inl (fun _ => 0))), (q77, .inl (cy 0, 5, .inl (fun _ => 0))), (q78, .inl (cy 0, 401, .inl (fun _ => 0))), (q79, .inl (cy 0, 401, .inl (fun _ => 0))), (q80, .inl (cy 0, 401, .inl (fun _ => 0))), (q81, .inl (cy 0, 8, .inl (fun _ => 0))), (q82, .inl (cy 0, 10, .inl (fun _ => 0))), (q83, .inl (cy 0, 10, .inl (fun _ => 0))), (q84, .inl (cy 0, 10, .inl (fun _ => 0))), (q85, .inl (cy 0, 5120, .inl (fun _ => 0))), (q86, .inl (cy 0, 10, .inl (fun _ => 0))), (q87, .inl (cy 0, 10, .inl (fun _ => 0))), (q88, .inl (cy 0, 10, .inl (fun _ => 0))), (q89, .inl (cy 0, 11, .inl (fun _ => 0))), (q90, .inl (cy 0, 5120, .inl (fun _ => 0))), (q91, .inl (cy 0, 10, .inl (fun _ => 0)))] H locs := hw
  refine lv_aload_n hx hb dX9_init_602 rfl (lv_at hl 0 rfl) ?_
  refine lv_bipush (v := 10) hx hb dX9_init_603 (by decide) ?_
  refine nwI (N := 10) hc hw (by decide) (by decide) (by decide) (by decide) (by decide) dX9_init_605 (fun q92 H hw => ?_)
  refine W.widen (k := 22) (n := 26861) (by decide) (by decide) ?_
  replace hw : wV D A s.heap [(a0, .inr (9, [.int 0, .int 0, .ref q1, .ref q2, .ref q3, .ref q4, .int 0, .ref q5, .ref q76, .ref q77, .int 0, .int (-1), .ref q78, .ref q79, .ref q80, .int 0, .int 0, .int 0, .int 0, .int 0, .int 0, .int 0, .ref q81, .int 0, .int 0, .int 0, .ref q82, .ref q83, .ref q84, .int (-1), .ref q85, .int 0, .ref q86, .ref q87, .ref q88, .ref q89, .int 0, .ref q90, .ref q91, .null, .null, .int 0, .int 0])), (q1, .inl (cy 0, 7, .inl (fun _ => 0))), (q2, .inl (cy 0, 4945, .inl (fun _ => 0))), (q3, .inl (cy 0, 9890, .inl (fun _ => 0))), (q4, .inl (cy 2, 2, .inl (fun _ => 0))), (q5, .inl (cy 1, 70, .inl f75)), (q76, .inl (cy 1, 400, .inl (fun _ => 0))), (q77, .inl (cy 0, 5, .inl (fun _ => 0))), (q78, .inl (cy 0, 401, .inl (fun _ => 0))), (q79, .inl (cy 0, 401, .inl (fun _ => 0))), (q80, .inl (cy 0, 401, .inl (fun _ => 0))), (q81, .inl (cy 0, 8, .inl (fun _ => 0))), (q82, .inl (cy 0, 10, .inl (fun _ => 0))), (q83, .inl (cy 0, 10, .inl (fun _ => 0))), (q84, .inl (cy 0, 10, .inl (fun _ => 0))), (q85, .inl (cy 0, 5120, .inl (fun _ => 0))), (q86, .inl (cy 0, 10, .inl (fun _ => 0))), (q87, .inl (cy 0, 10, .inl (fun _ => 0))), (q88, .inl (cy 0, 10, .inl (fun _ => 0))), (q89, .inl (cy 0, 11, .inl (fun _ => 0))), (q90, .inl (cy 0, 5120, .inl (fun _ => 0))), (q91, .inl (cy 0, 10, .inl (fun _ => 0))), (q92, .inl (cy 0, 10, .inl (fun _ => 0)))] H locs := hw
  refine pFF (k := 39) hc hw inX9 tyX9_ok nmX9 rfl 0 rfl (by decide) (gm 1098 (by decide +kernel) rfl) rfl (hnm rfl) rfl rfl rfl (Nat.le_of_ble_eq_true rfl) dX9_init_607 (fun H locs hw => ?_)
  replace hw : wV D A s.heap [(a0, .inr (9, [.int 0, .int 0, .ref q1, .ref q2, .ref q3, .ref q4, .int 0, .ref q5, .ref q76, .ref q77, .int 0, .int (-1), .ref q78, .ref q79, .ref q80, .int 0, .int 0, .int 0, .int 0, .int 0, .int 0, .int 0, .ref q81, .int 0, .int 0, .int 0, .ref q82, .ref q83, .ref q84, .int (-1), .ref q85, .int 0, .ref q86, .ref q87, .ref q88, .ref q89, .int 0, .ref q90, .ref q91, .ref q92, .null, .int 0, .int 0])), (q1, .inl (cy 0, 7, .inl (fun _ => 0))), (q2, .inl (cy 0, 4945, .inl (fun _ => 0))), (q3, .inl (cy 0, 9890, .inl (fun _ => 0))), (q4, .inl (cy 2, 2, .inl (fun _ => 0))), (q5, .inl (cy 1, 70, .inl f75)), (q76, .inl (cy 1, 400, .inl (fun _ => 0))), (q77, .inl (cy 0, 5, .inl (fun _ => 0))), (q78, .inl (cy 0, 401, .inl (fun _ => 0))), (q79, .inl (cy 0, 401, .inl (fun _ => 0))), (q80, .inl (cy 0, 401, .inl (fun _ => 0))), (q81, .inl (cy 0, 8, .inl (fun _ => 0))), (q82, .inl (cy 0, 10, .inl (fun _ => 0))), (q83, .inl (cy 0, 10, .inl (fun _ => 0))), (q84, .inl (cy 0, 10, .inl (fun _ => 0))), (q85, .inl (cy 0, 5120, .inl (fun _ => 0))), (q86, .inl (cy 0, 10, .inl (fun _ => 0))), (q87, .inl (cy 0, 10, .inl (fun _ => 0))), (q88, .inl (cy 0, 10, .inl (fun _ => 0))), (q89, .inl (cy 0, 11, .inl (fun _ => 0))), (q90, .inl (cy 0, 5120, .inl (fun _ => 0))), (q91, .inl (cy 0, 10, .inl (fun _ => 0))), (q92, .inl (cy 0, 10, .inl (fun _ => 0)))] H locs := hw
  refine lv_aload_n hx hb dX9_init_610 rfl (lv_at hl 0 rfl) ?_
  refine lv_bipush (v := 30) hx hb dX9_init_611 (by decide) ?_
  refine nwI (N := 30) hc hw (by decide) (by decide) (by decide) (by decide) (by decide) dX9_init_613 (fun q93 H hw => ?_)
  refine W.widen (k := 23) (n := 26891) (by decide) (by decide) ?_
  replace hw : wV D A s.heap [(a0, .inr (9, [.int 0, .int 0, .ref q1, .ref q2, .ref q3, .ref q4, .int 0, .ref q5, .ref q76, .ref q77, .int 0, .int (-1), .ref q78, .ref q79, .ref q80, .int 0, .int 0, .int 0, .int 0, .int 0, .int 0, .int 0, .ref q81, .int 0, .int 0, .int 0, .ref q82, .ref q83, .ref q84, .int (-1), .ref q85, .int 0, .ref q86, .ref q87, .ref q88, .ref q89, .int 0, .ref q90, .ref q91, .ref q92, .null, .int 0, .int 0])), (q1, .inl (cy 0, 7, .inl (fun _ => 0))), (q2, .inl (cy 0, 4945, .inl (fun _ => 0))), (q3, .inl (cy 0, 9890, .inl (fun _ => 0))), (q4, .inl (cy 2, 2, .inl (fun _ => 0))), (q5, .inl (cy 1, 70, .inl f75)), (q76, .inl (cy 1, 400, .inl (fun _ => 0))), (q77, .inl (cy 0, 5, .inl (fun _ => 0))), (q78, .inl (cy 0, 401, .inl (fun _ => 0))), (q79, .inl (cy 0, 401, .inl (fun _ => 0))), (q80, .inl (cy 0, 401, .inl (fun _ => 0))), (q81, .inl (cy 0, 8, .inl (fun _ => 0))), (q82, .inl (cy 0, 10, .inl (fun _ => 0))), (q83, .inl (cy 0, 10, .inl (fun _ => 0))), (q84, .inl (cy 0, 10, .inl (fun _ => 0))), (q85, .inl (cy 0, 5120, .inl (fun _ => 0))), (q86, .inl (cy 0, 10, .inl (fun _ => 0))), (q87, .inl (cy 0, 10, .inl (fun _ => 0))), (q88, .inl (cy 0, 10, .inl (fun _ => 0))), (q89, .inl (cy 0, 11, .inl (fun _ => 0))), (q90, .inl (cy 0, 5120, .inl (fun _ => 0))), (q91, .inl (cy 0, 10, .inl (fun _ => 0))), (q92, .inl (cy 0, 10, .inl (fun _ => 0))), (q93, .inl (cy 0, 30, .inl (fun _ => 0)))] H locs := hw
  refine pFF (k := 40) hc hw inX9 tyX9_ok nmX9 rfl 0 rfl (by decide) (gm 1099 (by decide +kernel) rfl) rfl (hnm rfl) rfl rfl rfl (Nat.le_of_ble_eq_true rfl) dX9_init_615 (fun H locs hw => ?_)
  replace hw : wV D A s.heap [(a0, .inr (9, [.int 0, .int 0, .ref q1, .ref q2, .ref q3, .ref q4, .int 0, .ref q5, .ref q76, .ref q77, .int 0, .int (-1), .ref q78, .ref q79, .ref q80, .int 0, .int 0, .int 0, .int 0, .int 0, .int 0, .int 0, .ref q81, .int 0, .int 0, .int 0, .ref q82, .ref q83, .ref q84, .int (-1), .ref q85, .int 0, .ref q86, .ref q87, .ref q88, .ref q89, .int 0, .ref q90, .ref q91, .ref q92, .ref q93, .int 0, .int 0])), (q1, .inl (cy 0, 7, .inl (fun _ => 0))), (q2, .inl (cy 0, 4945, .inl (fun _ => 0))), (q3, .inl (cy 0, 9890, .inl (fun _ => 0))), (q4, .inl (cy 2, 2, .inl (fun _ => 0))), (q5, .inl (cy 1, 70, .inl f75)), (q76, .inl (cy 1, 400, .inl (fun _ => 0))), (q77, .inl (cy 0, 5, .inl (fun _ => 0))), (q78, .inl (cy 0, 401, .inl (fun _ => 0))), (q79, .inl (cy 0, 401, .inl (fun _ => 0))), (q80, .inl (cy 0, 401, .inl (fun _ => 0))), (q81, .inl (cy 0, 8, .inl (fun _ => 0))), (q82, .inl (cy 0, 10, .inl (fun _ => 0))), (q83, .inl (cy 0, 10, .inl (fun _ => 0))), (q84, .inl (cy 0, 10, .inl (fun _ => 0))), (q85, .inl (cy 0, 5120, .inl (fun _ => 0))), (q86, .inl (cy 0, 10, .inl (fun _ => 0))), (q87, .inl (cy 0, 10, .inl (fun _ => 0))), (q88, .inl (cy 0, 10, .inl (fun _ => 0))), (q89, .inl (cy 0, 11, .inl (fun _ => 0))), (q90, .inl (cy 0, 5120, .inl (fun _ => 0))), (q91, .inl (cy 0, 10, .inl (fun _ => 0))), (q92, .inl (cy 0, 10, .inl (fun _ => 0))), (q93, .inl (cy 0, 30, .inl (fun _ => 0)))] H locs := hw
  refine lv_aload_n hx hb dX9_init_618 rfl (lv_at hl 0 rfl) ?_
  refine gF (k := 3) hc hw inX9 rfl 0 rfl (by decide) (gm 1062 (by decide +kernel) rfl) rfl dX9_init_619 ?_
  refine lv_bipush (v := 40) hx hb dX9_init_622 (by decide) ?_
  refine lv_iconst (v := 2) hx hb dX9_init_624 (by decide) ?_
  refine sI hc hw 2 rfl (vin (by decide)) (j := 40) (by decide) dX9_init_625 (fun H locs hw => ?_)
  obtain ⟨f94, e_f94⟩ : ∃ z : Nat → Int32, z = upd (fun _ => 0) 40 2 := ⟨_, rfl⟩
  replace hw : wV D A s.heap [(a0, .inr (9, [.int 0, .int 0, .ref q1, .ref q2, .ref q3, .ref q4, .int 0, .ref q5, .ref q76, .ref q77, .int 0, .int (-1), .ref q78, .ref q79, .ref q80, .int 0, .int 0, .int 0, .int 0, .int 0, .int 0, .int 0, .ref q81, .int 0, .int 0, .int 0, .ref q82, .ref q83, .ref q84, .int (-1), .ref q85, .int 0, .ref q86, .ref q87, .ref q88, .ref q89, .int 0, .ref q90, .ref q91, .ref q92, .ref q93, .int 0, .int 0])), (q1, .inl (cy 0, 7, .inl (fun _ => 0))), (q2, .inl (cy 0, 4945, .inl f94)), (q3, .inl (cy 0, 9890, .inl (fun _ => 0))), (q4, .inl (cy 2, 2, .inl (fun _ => 0))), (q5, .inl (cy 1, 70, .inl f75)), (q76, .inl (cy 1, 400, .inl (fun _ => 0))), (q77, .inl (cy 0, 5, .inl (fun _ => 0))), (q78, .inl (cy 0, 401, .inl (fun _ => 0))), (q79, .inl (cy 0, 401, .inl (fun _ => 0))), (q80, .inl (cy 0, 401, .inl (fun _ => 0))), (q81, .inl (cy 0, 8, .inl (fun _ => 0))), (q82, .inl (cy 0, 10, .inl (fun _ => 0))), (q83, .inl (cy 0, 10, .inl (fun _ => 0))), (q84, .inl (cy 0, 10, .inl (fun _ => 0))), (q85, .inl (cy 0, 5120, .inl (fun _ => 0))), (q86, .inl (cy 0, 10, .inl (fun _ => 0))), (q87, .inl (cy 0, 10, .inl (fun _ => 0))), (q88, .inl (cy 0, 10, .inl (fun _ => 0))), (q89, .inl (cy 0, 11, .inl (fun _ => 0))), (q90, .inl (cy 0, 5120, .inl (fun _ => 0))), (q91, .inl (cy 0, 10, .inl (fun _ => 0))), (q92, .inl (cy 0, 10, .inl (fun _ => 0))), (q93, .inl (cy 0, 30, .inl (fun _ => 0)))] H locs := by rw [e_f94]; exact hw
  refine lv_aload_n hx hb dX9_init_626 rfl (lv_at hl 0 rfl) ?_
  refine gF (k := 3) hc hw inX9 rfl 0 rfl (by decide) (gm 1062 (by decide +kernel) rfl) rfl dX9_init_627 ?_
  refine lv_bipush (v := 41) hx hb dX9_init_630 (by decide) ?_
  refine lv_iconst (v := 1) hx hb dX9_init_632 (by decide) ?_
  refine sI hc hw 2 rfl (vin (by decide)) (j := 41) (by decide) dX9_init_633 (fun H locs hw => ?_)
  obtain ⟨f95, e_f95⟩ : ∃ z : Nat → Int32, z = upd f94 41 1 := ⟨_, rfl⟩
  replace hw : wV D A s.heap [(a0, .inr (9, [.int 0, .int 0, .ref q1, .ref q2, .ref q3, .ref q4, .int 0, .ref q5, .ref q76, .ref q77, .int 0, .int (-1), .ref q78, .ref q79, .ref q80, .int 0, .int 0, .int 0, .int 0, .int 0, .int 0, .int 0, .ref q81, .int 0, .int 0, .int 0, .ref q82, .ref q83, .ref q84, .int (-1), .ref q85, .int 0, .ref q86, .ref q87, .ref q88, .ref q89, .int 0, .ref q90, .ref q91, .ref q92, .ref q93, .int 0, .int 0])), (q1, .inl (cy 0, 7, .inl (fun _ => 0))), (q2, .inl (cy 0, 4945, .inl f95)), (q3, .inl (cy 0, 9890, .inl (fun _ => 0))), (q4, .inl (cy 2, 2, .inl (fun _ => 0))), (q5, .inl (cy 1, 70, .inl f75)), (q76, .inl (cy 1, 400, .inl (fun _ => 0))), (q77, .inl (cy 0, 5, .inl (fun _ => 0))), (q78, .inl (cy 0, 401, .inl (fun _ => 0))), (q79, .inl (cy 0, 401, .inl (fun _ => 0))), (q80, .inl (cy 0, 401, .inl (fun _ => 0))), (q81, .inl (cy 0, 8, .inl (fun _ => 0))), (q82, .inl (cy 0, 10, .inl (fun _ => 0))), (q83, .inl (cy 0, 10, .inl (fun _ => 0))), (q84, .inl (cy 0, 10, .inl (fun _ => 0))), (q85, .inl (cy 0, 5120, .inl (fun _ => 0))), (q86, .inl (cy 0, 10, .inl (fun _ => 0))), (q87, .inl (cy 0, 10, .inl (fun _ => 0))), (q88, .inl (cy 0, 10, .inl (fun _ => 0))), (q89, .inl (cy 0, 11, .inl (fun _ => 0))), (q90, .inl (cy 0, 5120, .inl (fun _ => 0))), (q91, .inl (cy 0, 10, .inl (fun _ => 0))), (q92, .inl (cy 0, 10, .inl (fun _ => 0))), (q93, .inl (cy 0, 30, .inl (fun _ => 0)))] H locs := by rw [e_f95]; exact hw
  refine lv_aload_n hx hb dX9_init_634 rfl (lv_at hl 0 rfl) ?_
  refine gF (k := 3) hc hw inX9 rfl 0 rfl (by decide) (gm 1062 (by decide +kernel) rfl) rfl dX9_init_635 ?_
  refine lv_sipush (v := 138) hx hb dX9_init_638 (by decide) ?_
  refine lv_iconst (v := (-1)) hx hb dX9_init_641 (by decide) ?_
  refine sI hc hw 2 rfl (vin (by decide)) (j := 138) (by decide) dX9_init_642 (fun H locs hw => ?_)
  obtain ⟨f96, e_f96⟩ : ∃ z : Nat → Int32, z = upd f95 138 (-1) := ⟨_, rfl⟩
  replace hw : wV D A s.heap [(a0, .inr (9, [.int 0, .int 0, .ref q1, .ref q2, .ref q3, .ref q4, .int 0, .ref q5, .ref q76, .ref q77, .int 0, .int (-1), .ref q78, .ref q79, .ref q80, .int 0, .int 0, .int 0, .int 0, .int 0, .int 0, .int 0, .ref q81, .int 0, .int 0, .int 0, .ref q82, .ref q83, .ref q84, .int (-1), .ref q85, .int 0, .ref q86, .ref q87, .ref q88, .ref q89, .int 0, .ref q90, .ref q91, .ref q92, .ref q93, .int 0, .int 0])), (q1, .inl (cy 0, 7, .inl (fun _ => 0))), (q2, .inl (cy 0, 4945, .inl f96)), (q3, .inl (cy 0, 9890, .inl (fun _ => 0))), (q4, .inl (cy 2, 2, .inl (fun _ => 0))), (q5, .inl (cy 1, 70, .inl f75)), (q76, .inl (cy 1, 400, .inl (fun _ => 0))), (q77, .inl (cy 0, 5, .inl (fun _ => 0))), (q78, .inl (cy 0, 401, .inl (fun _ => 0))), (q79, .inl (cy 0, 401, .inl (fun _ => 0))), (q80, .inl (cy 0, 401, .inl (fun _ => 0))), (q81, .inl (cy 0, 8, .inl (fun _ => 0))), (q82, .inl (cy 0, 10, .inl (fun _ => 0))), (q83, .inl (cy 0, 10, .inl (fun _ => 0))), (q84, .inl (cy 0, 10, .inl (fun _ => 0))), (q85, .inl (cy 0, 5120, .inl (fun _ => 0))), (q86, .inl (cy 0, 10, .inl (fun _ => 0))), (q87, .inl (cy 0, 10, .inl (fun _ => 0))), (q88, .inl (cy 0, 10, .inl (fun _ => 0))), (q89, .inl (cy 0, 11, .inl (fun _ => 0))), (q90, .inl (cy 0, 5120, .inl (fun _ => 0))), (q91, .inl (cy 0, 10, .inl (fun _ => 0))), (q92, .inl (cy 0, 10, .inl (fun _ => 0))), (q93, .inl (cy 0, 30, .inl (fun _ => 0)))] H locs := by rw [e_f96]; exact hw
  subst e_f96
  subst e_f95
  subst e_f94
  have hw : wV D A s.heap ((fun u : (Nat → Nat → Nat) × (Nat → Int32) => (mW cy (u.1 0) (i_X9 u.2))) (fun k => [(fun i => [a0, q1, q2, q3, q4, q5, q76, q77, q78, q79, q80, q81, q82, q83, q84, q85, q86, q87, q88, q89, q90, q91, q92, q93].getD i 0)].getD k (fun _ => 0), f75)) H locs := hw.perm [0, 1, 2, 3, 4, 5, 6, 7, 8, 9, 10, 11, 12, 13, 14, 15, 16, 17, 18, 19, 20, 21, 22, 23] rfl rfl
  exact retV (u := (fun k => [(fun i => [a0, q1, q2, q3, q4, q5, q76, q77, q78, q79, q80, q81, q82, q83, q84, q85, q86, q87, q88, q89, q90, q91, q92, q93].getD i 0)].getD k (fun _ => 0), f75)) hc hw ⟨rfl, hj⟩ dX9_init_643

