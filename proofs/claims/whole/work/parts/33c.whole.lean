/-! ===== the walk of the law's body ===== -/
set_option maxHeartbeats 4000000 in
theorem whole_start {p : Program} {e : Env} {s : State} {m : MethodId} {below : List Frame} {meth : Method} {c : Code} (l : Launch) {b L : Nat} {xs : Nat → Int32} (hL : L ≤ 3072) (C0 : lw_At p s m meth c b L xs) : W p l e room_1 s m #[Value.ref b] below meth c s.heap [] 0 0 (lw_Z below #[Value.ref b] s) (entryFrame m ([Value.ref b] : List Value).toArray 4) := by
  obtain ⟨D, cy, hc⟩ := start_cX C0
  obtain ⟨-, -, -, -, -, -, hX, hbl, hlocks, -⟩ := id C0
  have hx := hc.1.1
  have hb := hc.1.2.1
  have hl := lv_entry ([.ref b]) (n := 4) (Nat.le_of_ble_eq_true rfl)
  rw [lg_entry_eq]
  generalize (lg_sl ([.ref b]) ++ List.replicate (4 - (lg_sl ([.ref b])).length) Slot.unset).toArray = ls at hl ⊢
  have hl : lv_has ls 4 [(0, .ref b)] := hl
  have hw : wV D (fun q : Nat => s.heap.size ≤ q) s.heap [] s.heap [] := ⟨fun k q h => by simp at h, ⟨fun i j p q h => by simp at h, fun k q h => by simp at h⟩, va_S.rf⟩
  refine nwO (ci := 8) (fs := [.null, .null, .null, .null, .int 0, .null, .int 0, .int 0, .null, .null, .null, .null, .null, .null, .null, .null, .int 0]) hc hw inX8 tyX8_ok rfl (gm 145 (by decide +kernel) rfl) (gm 146 (by decide +kernel) rfl) (gm 127 (by decide +kernel) rfl) (fun j hj => by rcases (show j = 0 ∨ j = 1 ∨ j = 2 ∨ j = 3 ∨ j = 4 ∨ j = 5 ∨ j = 6 ∨ j = 7 ∨ j = 8 ∨ j = 9 ∨ j = 10 ∨ j = 11 ∨ j = 12 ∨ j = 13 ∨ j = 14 ∨ j = 15 ∨ j = 16 by omega) with rfl | rfl | rfl | rfl | rfl | rfl | rfl | rfl | rfl | rfl | rfl | rfl | rfl | rfl | rfl | rfl | rfl <;> rfl) (by decide) (by decide) dL_law_0 (fun q1 H hw => ?_)
  replace hw : wV D (fun q : Nat => s.heap.size ≤ q) s.heap [(q1, .inr (8, [.null, .null, .null, .null, .int 0, .null, .int 0, .int 0, .null, .null, .null, .null, .null, .null, .null, .null, .int 0]))] H [] := hw
  refine lv_dup hx hb dL_law_3 rfl ?_
  refine kI_V (As := []) (rest := [.ref q1]) (wc := [(q1, .inr (8, [.null, .null, .null, .null, .int 0, .null, .int 0, .int 0, .null, .null, .null, .null, .null, .null, .null, .null, .int 0]))]) (wr := []) (isC := [0]) (isR := []) hc hw (c_X8_init) lk_L_9 ⟨rfl, rfl, rfl, rfl, by decide⟩ ⟨by decide, by decide⟩ ⟨by decide, by decide⟩ hl.1 rfl (Nat.le_of_ble_eq_true rfl) rfl dL_law_4 (fun g H locs hq hw2 => ?_)
  have hq : g 0 0 = q1 := hq
  clear hw
  have hw := hw2
  clear hw2
  subst hq
  refine lv_astore_n (lv' := [(1, .ref (g 0 0)), (0, .ref b)]) hx hb dL_law_7 rfl hl (by decide) rfl (fun ls hl => ?_)
  refine nwO (ci := 9) (fs := [.int 0, .int 0, .null, .null, .null, .null, .int 0, .null, .null, .null, .int 0, .int 0, .null, .null, .null, .int 0, .int 0, .int 0, .int 0, .int 0, .int 0, .int 0, .null, .int 0, .int 0, .int 0, .null, .null, .null, .int 0, .null, .int 0, .null, .null, .null, .null, .int 0, .null, .null, .null, .null, .int 0, .int 0]) hc hw inX9 tyX9_ok rfl (gm 1053 (by decide +kernel) rfl) (gm 1054 (by decide +kernel) rfl) (gm 134 (by decide +kernel) rfl) (fun j hj => by rcases (show j = 0 ∨ j = 1 ∨ j = 2 ∨ j = 3 ∨ j = 4 ∨ j = 5 ∨ j = 6 ∨ j = 7 ∨ j = 8 ∨ j = 9 ∨ j = 10 ∨ j = 11 ∨ j = 12 ∨ j = 13 ∨ j = 14 ∨ j = 15 ∨ j = 16 ∨ j = 17 ∨ j = 18 ∨ j = 19 ∨ j = 20 ∨ j = 21 ∨ j = 22 ∨ j = 23 ∨ j = 24 ∨ j = 25 ∨ j = 26 ∨ j = 27 ∨ j = 28 ∨ j = 29 ∨ j = 30 ∨ j = 31 ∨ j = 32 ∨ j = 33 ∨ j = 34 ∨ j = 35 ∨ j = 36 ∨ j = 37 ∨ j = 38 ∨ j = 39 ∨ j = 40 ∨ j = 41 ∨ j = 42 by omega) with rfl | rfl | rfl | rfl | rfl | rfl | rfl | rfl | rfl | rfl | rfl | rfl | rfl | rfl | rfl | rfl | rfl | rfl | rfl | rfl | rfl | rfl | rfl | rfl | rfl | rfl | rfl | rfl | rfl | rfl | rfl | rfl | rfl | rfl | rfl | rfl | rfl | rfl | rfl | rfl | rfl | rfl | rfl <;> rfl) (by decide) (by decide) dL_law_8 (fun q2 H hw => ?_)
  refine lv_dup hx hb dL_law_11 rfl ?_
  refine kI_V (As := []) (rest := [.ref q2]) (wc := [(q2, .inr (9, [.int 0, .int 0, .null, .null, .null, .null, .int 0, .null, .null, .null, .int 0, .int 0, .null, .null, .null, .int 0, .int 0, .int 0, .int 0, .int 0, .int 0, .int 0, .null, .int 0, .int 0, .int 0, .null, .null, .null, .int 0, .null, .int 0, .null, .null, .null, .null, .int 0, .null, .null, .null, .null, .int 0, .int 0]))]) hc (hw.permP List.perm_append_comm) (c_X9_init) lk_L_12 (spl_app _ (spl_all _)) ⟨by decide, by decide⟩ ⟨by decide, by decide⟩ hl.1 rfl (Nat.le_of_ble_eq_true rfl) rfl dL_law_12 (fun u H locs hq hw2 => ?_)
  obtain ⟨a9, w9⟩ := u
  obtain ⟨hq, h9⟩ := hq
  have hq : a9 0 0 = q2 := hq
  subst hq
  refine lv_astore_n (lv' := [(2, .ref (a9 0 0)), (1, .ref (g 0 0)), (0, .ref b)]) hx hb dL_law_15 rfl hl (by decide) rfl (fun ls hl => ?_)
  refine lv_iconst (v := 0) hx hb dL_law_16 (by decide) ?_
  refine lv_istore_n (lv' := [(3, .int 0), (2, .ref (a9 0 0)), (1, .ref (g 0 0)), (0, .ref b)]) hx hb dL_law_17 rfl hl (by decide) rfl (fun ls hl => ?_)
  refine W.widen (k := 120 + 14 * 0) (n := 34309 + 4239 * 0) (by decide) (by decide) ?_
  have hwf : wV D (fun q : Nat => s.heap.size ≤ q) s.heap (mW cy (a9 0) (i_X9 w9) ++ WC cy g none none [] i_X8 i_X6 (fun _ => none) i_X7 i_X7 i_X7 (va_up (va_up (fun _ => none) 0 (some (g 15 0))) 1 (some (g 20 0))) (fun _ => 0) i_X4 i_X3 i_X1 i_X0 i_X7 i_X7 (fun _ => 0) i_X6 (fun _ => none) i_X7 i_X7 i_X7 i_X6 (fun _ => none) i_X7 i_X7 i_X7) H locs := wV.permP hw2 (p0_all (mW cy (a9 0) (i_X9 w9)) (oW cy (g 0) (g 1 0) (g 6 0) (g 7 0) (g 8 0) (g 9 0) (trI none) (seI none) (g 11 0) (g 12 0) (g 13 0) (g 14 0) i_X8) (bW cy (g 1) (g 2 0) (g 3 0) (g 4 0) (g 5 0) i_X6) (lsW cy (g 2) (fun _ => none)) (tW cy (g 3) i_X7) (tW cy (g 4) i_X7) (tW cy (g 5) i_X7) (imW cy (g 6) (va_up (va_up (fun _ => none) 0 (some (g 15 0))) 1 (some (g 20 0)))) (tpW cy (g 7) (fun _ => 0)) (rW cy (g 8) i_X4) (pW cy (g 9) (g 10 0) i_X3) (jW cy (g 10) i_X1) (dW cy (g 11) i_X0) (tW cy (g 12) i_X7) (tW cy (g 13) i_X7) (chW cy (g 14) (fun _ => 0)) (bW cy (g 15) (g 16 0) (g 17 0) (g 18 0) (g 19 0) i_X6) (lsW cy (g 16) (fun _ => none)) (tW cy (g 17) i_X7) (tW cy (g 18) i_X7) (tW cy (g 19) i_X7) (bW cy (g 20) (g 21 0) (g 22 0) (g 23 0) (g 24 0) i_X6) (lsW cy (g 21) (fun _ => none)) (tW cy (g 22) i_X7) (tW cy (g 23) i_X7) (tW cy (g 24) i_X7))
  exact law_loop hL hlocks hc hX hbl (L + 1) 0 (by omega) (by omega) H locs ls _ hl hwf (rel_0 h9 (List.Perm.refl _))
