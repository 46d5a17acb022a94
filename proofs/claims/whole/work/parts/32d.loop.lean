/-! ===== the law's loop ===== -/
theorem and63 (x : Int32) : ∃ t, t < 64 ∧ x &&& 63 = nI t := by
  obtain ⟨a, rfl⟩ : ∃ a, x = nI a := ⟨_, nI_bv x⟩
  have e : (63 : Int32) = nI 63 := rfl
  rw [e, fa_and]
  exact ⟨a &&& 63, by have : a &&& 63 ≤ 63 := Nat.and_le_right; omega, rfl⟩
theorem lp_gt {L j : Nat} (hL : L ≤ 3072) (hj : 6 * j ≤ L) : (nI L - 6 < nI (6 * j)) ↔ L < 6 * j + 6 := by
  have e : (6 : Int32) = iZ 6 := by decide
  rw [e, iZ_n, iZ_n, iZ_sub, iZ_lt (by omega) (by omega) (by omega) (by omega)]
  omega
theorem law_loop {p : Program} {l : Launch} {e : Env} {s : State} {m : MethodId} {below : List Frame} {meth : Method} {c : Code} {D : va_G} {cy : Nat → ClassId} {b L ox om : Nat} {xs : Nat → Int32} (hL : L ≤ 3072) (hlocks : meth.locks = false) (hc : cX p m meth c s #[Value.ref b] D cy (fun q : Nat => s.heap.size ≤ q) RL code 4 ret) (hX : va_X b L xs s s.heap) (hbl : b < s.heap.size) : ∀ (k j : Nat), L < 6 * (j + k) → 6 * j ≤ L → ∀ (H : Heap) (locs : List Loc) (ls : Array Slot) (w : va_W), lv_has ls 4 [(3, .int (nI (6 * j))), (2, .ref om), (1, .ref ox), (0, .ref b)] → wV D (fun q : Nat => s.heap.size ≤ q) s.heap w H locs → Rel cy ox om j w → W p l e room_1 s m #[Value.ref b] below meth c H locs (120 + 14 * j) (34309 + 4239 * j) (lw_Z below #[Value.ref b] s) (F0 m 18 ls []) := by
  have hx := hc.1.1
  have hb := hc.1.2.1
  have hbA : ¬ (fun q : Nat => s.heap.size ≤ q) b := Nat.not_le.mpr hbl
  intro k
  induction k with
  | zero => intro j h1 h2; omega
  | succ k ih =>
    intro j h1 h2 H locs ls w hl hw hR
    refine lv_iload_n hx hb dL_law_18 rfl (lv_at hl 0 rfl) ?_
    refine lv_aload_n hx hb dL_law_19 rfl (lv_at hl 3 rfl) ?_
    refine va_slen hx hb hX hbl hbA hw.2.2 dL_law_20 ?_
    refine lv_bipush (v := 6) hx hb dL_law_21 (by decide) ?_
    refine lv_isub hx hb dL_law_23 ?_
    refine lv_icmp_gt hx hb dL_law_24 (tgt := 1193) rfl (fun _ => ?_) (fun ng => ?_)
    · refine lv_iconst (v := 1) hx hb dL_law_1193 (by decide) ?_
      refine va_forget (fun q hq => hw.2.2.2.2 q hq) ?_
      refine W.widen (k := 600000) (n := 7302250) (by omega) (by omega) ?_
      exact lw_ret hx hb hc.2.2.2.1 hlocks dL_law_1194
    · have hi : 6 * j + 6 ≤ L := by
        have := mt (lp_gt hL h2).mpr ng
        omega
      have kk : ∀ (H1 : Heap) (locs1 : List Loc) (w' : va_W), wV D (fun q : Nat => s.heap.size ≤ q) s.heap w' H1 locs1 → Rel cy ox om (j + 1) w' → W p l e room_1 s m #[Value.ref b] below meth c H1 locs1 (120 + 14 * j + 14) (34309 + 4239 * j + 4239) (lw_Z below #[Value.ref b] s) (F0 m 1187 ls []) := by
        intro H1 locs1 w' hw1 hR1
        refine lv_iinc (lv' := [(3, .int (nI (6 * (j + 1)))), (2, .ref om), (1, .ref ox), (0, .ref b)]) (k := 0) hx hb dL_law_1187 hl rfl (show nI (6 * j) + Int32.ofInt 6 = nI (6 * (j + 1)) from nI_add (6 * j) 6) (by decide) rfl (fun ls' hl' => ?_)
        refine lv_goto hx hb dL_law_1190 (tgt := 18) rfl ?_
        have e1 : 120 + 14 * j + 14 = 120 + 14 * (j + 1) := by omega
        have e2 : 34309 + 4239 * j + 4239 = 34309 + 4239 * (j + 1) := by omega
        rw [e1, e2]
        exact ih (j + 1) (by omega) (by omega) H1 locs1 ls' w' hl' hw1 hR1
      have hv : j < 1000 := by omega
      have hcs : 120 + 14 * j + 14 ≤ 600000 ∧ 34309 + 4239 * j + 4239 ≤ 7302250 := by omega
      refine lv_aload_n hx hb dL_law_27 rfl (lv_at hl 3 rfl) ?_
      refine lv_iload_n hx hb dL_law_28 rfl (lv_at hl 0 rfl) ?_
      refine va_sld hx hb hX hbl hbA hw.2.2 (vp_in_nI (by omega) (by omega)) dL_law_29 ?_
      refine lv_bipush (v := 63) hx hb dL_law_30 (by decide) ?_
      refine lv_iand hx hb dL_law_32 ?_
      obtain ⟨t, h64, et⟩ := and63 (xs (nI (6 * j)).toNatClampNeg)
      rw [et]
      rcases (by omega : t = 0 ∨ t = 1 ∨ t = 2 ∨ t = 3 ∨ t = 4 ∨ t = 5 ∨ t = 6 ∨ t = 7 ∨ t = 8 ∨ t = 9 ∨ t = 10 ∨ t = 11 ∨ t = 12 ∨ t = 13 ∨ t = 14 ∨ t = 15 ∨ t = 16 ∨ t = 17 ∨ t = 18 ∨ t = 19 ∨ t = 20 ∨ t = 21 ∨ t = 22 ∨ t = 23 ∨ t = 24 ∨ t = 25 ∨ t = 26 ∨ t = 27 ∨ t = 28 ∨ t = 29 ∨ t = 30 ∨ t = 31 ∨ t = 32 ∨ t = 33 ∨ t = 34 ∨ t = 35 ∨ t = 36 ∨ 37 ≤ t) with rfl | rfl | rfl | rfl | rfl | rfl | rfl | rfl | rfl | rfl | rfl | rfl | rfl | rfl | rfl | rfl | rfl | rfl | rfl | rfl | rfl | rfl | rfl | rfl | rfl | rfl | rfl | rfl | rfl | rfl | rfl | rfl | rfl | rfl | rfl | rfl | rfl | ht
      · exact lv_tableIn hx hb dL_law_33 (tgt := 196) (by decide) (by decide) rfl rfl (g_tale hc hX hbl hbA hL hl hi hw hR hv hcs kk)
      · exact lv_tableIn hx hb dL_law_33 (tgt := 249) (by decide) (by decide) rfl rfl (g_put hc hX hbl hbA hL hl hi hw hR hv hcs kk)
      · exact lv_tableIn hx hb dL_law_33 (tgt := 292) (by decide) (by decide) rfl rfl (g_of hc hX hbl hbA hL hl hi hw hR hv hcs kk)
      · exact lv_tableIn hx hb dL_law_33 (tgt := 325) (by decide) (by decide) rfl rfl (g_can hc hX hbl hbA hL hl hi hw hR hv hcs kk)
      · exact lv_tableIn hx hb dL_law_33 (tgt := 358) (by decide) (by decide) rfl rfl (g_terms hc hX hbl hbA hL hl hi hw hR hv hcs kk)
      · exact lv_tableIn hx hb dL_law_33 (tgt := 391) (by decide) (by decide) rfl rfl (g_feed hc hX hbl hbA hL hl hi hw hR hv hcs kk)
      · exact lv_tableIn hx hb dL_law_33 (tgt := 454) (by decide) (by decide) rfl rfl (g_end hc hX hbl hbA hL hl hi hw hR hv hcs kk)
      · exact lv_tableIn hx hb dL_law_33 (tgt := 477) (by decide) (by decide) rfl rfl (g_row hc hX hbl hbA hL hl hi hw hR hv hcs kk)
      · exact lv_tableIn hx hb dL_law_33 (tgt := 490) (by decide) (by decide) rfl rfl (g_mumbled hc hX hbl hbA hL hl hi hw hR hv hcs kk)
      · exact lv_tableIn hx hb dL_law_33 (tgt := 503) (by decide) (by decide) rfl rfl (g_law hc hX hbl hbA hL hl hi hw hR hv hcs kk)
      · exact lv_tableIn hx hb dL_law_33 (tgt := 516) (by decide) (by decide) rfl rfl (g_fault hc hX hbl hbA hL hl hi hw hR hv hcs kk)
      · exact lv_tableIn hx hb dL_law_33 (tgt := 529) (by decide) (by decide) rfl rfl (g_force hc hX hbl hbA hL hl hi hw hR hv hcs kk)
      · exact lv_tableIn hx hb dL_law_33 (tgt := 552) (by decide) (by decide) rfl rfl (g_tell hc hX hbl hbA hL hl hi hw hR hv hcs kk)
      · exact lv_tableIn hx hb dL_law_33 (tgt := 585) (by decide) (by decide) rfl rfl (g_hush hc hX hbl hbA hL hl hi hw hR hv hcs kk)
      · exact lv_tableIn hx hb dL_law_33 (tgt := 598) (by decide) (by decide) rfl rfl (g_heard hc hX hbl hbA hL hl hi hw hR hv hcs kk)
      · exact lv_tableIn hx hb dL_law_33 (tgt := 631) (by decide) (by decide) rfl rfl (g_open hc hX hbl hbA hL hl hi hw hR hv hcs kk)
      · exact lv_tableIn hx hb dL_law_33 (tgt := 644) (by decide) (by decide) rfl rfl (g_goes hc hX hbl hbA hL hl hi hw hR hv hcs kk)
      · exact lv_tableIn hx hb dL_law_33 (tgt := 667) (by decide) (by decide) rfl rfl (g_best hc hX hbl hbA hL hl hi hw hR hv hcs kk)
      · exact lv_tableIn hx hb dL_law_33 (tgt := 700) (by decide) (by decide) rfl rfl (g_order hc hX hbl hbA hL hl hi hw hR hv hcs kk)
      · exact lv_tableIn hx hb dL_law_33 (tgt := 743) (by decide) (by decide) rfl rfl (g_orders hc hX hbl hbA hL hl hi hw hR hv hcs kk)
      · exact lv_tableIn hx hb dL_law_33 (tgt := 766) (by decide) (by decide) rfl rfl (g_duel hc hX hbl hbA hL hl hi hw hR hv hcs kk)
      · exact lv_tableIn hx hb dL_law_33 (tgt := 789) (by decide) (by decide) rfl rfl (g_winter hc hX hbl hbA hL hl hi hw hR hv hcs kk)
      · exact lv_tableIn hx hb dL_law_33 (tgt := 822) (by decide) (by decide) rfl rfl (g_learn hc hX hbl hbA hL hl hi hw hR hv hcs kk)
      · exact lv_tableIn hx hb dL_law_33 (tgt := 855) (by decide) (by decide) rfl rfl (g_mention hc hX hbl hbA hL hl hi hw hR hv hcs kk)
      · exact lv_tableIn hx hb dL_law_33 (tgt := 898) (by decide) (by decide) rfl rfl (g_forget hc hX hbl hbA hL hl hi hw hR hv hcs kk)
      · exact lv_tableIn hx hb dL_law_33 (tgt := 911) (by decide) (by decide) rfl rfl (g_dated hc hX hbl hbA hL hl hi hw hR hv hcs kk)
      · exact lv_tableIn hx hb dL_law_33 (tgt := 944) (by decide) (by decide) rfl rfl (g_doubt hc hX hbl hbA hL hl hi hw hR hv hcs kk)
      · exact lv_tableIn hx hb dL_law_33 (tgt := 967) (by decide) (by decide) rfl rfl (g_claim hc hX hbl hbA hL hl hi hw hR hv hcs kk)
      · exact lv_tableIn hx hb dL_law_33 (tgt := 1010) (by decide) (by decide) rfl rfl (g_clear hc hX hbl hbA hL hl hi hw hR hv hcs kk)
      · exact lv_tableIn hx hb dL_law_33 (tgt := 1023) (by decide) (by decide) rfl rfl (g_wrong hc hX hbl hbA hL hl hi hw hR hv hcs kk)
      · exact lv_tableIn hx hb dL_law_33 (tgt := 1036) (by decide) (by decide) rfl rfl (g_liars hc hX hbl hbA hL hl hi hw hR hv hcs kk)
      · exact lv_tableIn hx hb dL_law_33 (tgt := 1049) (by decide) (by decide) rfl rfl (g_draw hc hX hbl hbA hL hl hi hw hR hv hcs kk)
      · exact lv_tableIn hx hb dL_law_33 (tgt := 1072) (by decide) (by decide) rfl rfl (g_drawn hc hX hbl hbA hL hl hi hw hR hv hcs kk)
      · exact lv_tableIn hx hb dL_law_33 (tgt := 1105) (by decide) (by decide) rfl rfl (g_image hc hX hbl hbA hL hl hi hw hR hv hcs kk)
      · exact lv_tableIn hx hb dL_law_33 (tgt := 1128) (by decide) (by decide) rfl rfl (g_back hc hX hbl hbA hL hl hi hw hR hv hcs kk)
      · exact lv_tableIn hx hb dL_law_33 (tgt := 1151) (by decide) (by decide) rfl rfl (g_count hc hX hbl hbA hL hl hi hw hR hv hcs kk)
      · exact lv_tableIn hx hb dL_law_33 (tgt := 1174) (by decide) (by decide) rfl rfl (g_status hc hX hbl hbA hL hl hi hw hR hv hcs kk)
      · refine lv_tableOut hx hb dL_law_33 (tgt := 1187) (Or.inr (by rw [nI_toInt (by omega)]; omega)) rfl ?_
        exact W.widen (by omega) (by omega) (kk H locs w hw hR.up)
