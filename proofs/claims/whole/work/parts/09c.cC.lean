set_option maxHeartbeats 4000000 in
set_option maxRecDepth 100000 in
theorem c_X3_weighN {l : Launch} {D : va_G} {cy : Nat → ClassId} {aP : Nat → Nat} {aJ : Nat → Nat} {aB : Nat → Nat} {als : Nat → Nat} {e_B_told : Nat} {e_B_mentions : Nat} {e_B_claims : Nat} {SP : Ob} {SJ : Ob} {SB : Ob} {Sls : (Nat → Option Nat)} {Q : Ob → Ob → Prop} (hm : w_X3_weighN SP SJ SB Sls Q) : CtV l yX3_weigh cX3_weigh 5 none (rmN 4) D cy [.ref (aP 0), .ref (aB 0)] ((pW cy aP (aJ 0) SP) ++ ((jW cy aJ SJ) ++ ((bW cy aB (als 0) e_B_told e_B_mentions e_B_claims SB) ++ (lsW cy als Sls)))) (fun u : Ob × Ob => ((pW cy aP (aJ 0) u.1) ++ ((jW cy aJ u.2) ++ ((bW cy aB (als 0) e_B_told e_B_mentions e_B_claims SB) ++ (lsW cy als Sls))))) (fun (u : Ob × Ob) => Q u.1 u.2) := by
  refine CtV.ofW (by decide) (Nat.le_of_ble_eq_true rfl) ?_
  intro p e s m args below meth c A ls hc hnm hw hl
  have hx := hc.1.1
  have hb := hc.1.2.1
  have hown := hc.1.2.2.2.1
  have hts := hc.1.2.2.2.2
  have hl : lv_has ls 5 [(0, .ref (aP 0)), (1, .ref (aB 0))] := hl
  obtain ⟨H, hH⟩ : ∃ z, z = s.heap := ⟨_, rfl⟩
  obtain ⟨locs, hLc⟩ : ∃ z : List Loc, z = [] := ⟨_, rfl⟩
  have hw : wV D A s.heap ((pW cy aP (aJ 0) SP) ++ ((jW cy aJ SJ) ++ ((bW cy aB (als 0) e_B_told e_B_mentions e_B_claims SB) ++ (lsW cy als Sls)))) H locs := by rw [hH, hLc]; exact hw
  have hgo : W p l e (rmN 4) s m args below meth c H locs 0 0 (MQ below (eV D cy A (fun u : Ob × Ob => ((pW cy aP (aJ 0) u.1) ++ ((jW cy aJ u.2) ++ ((bW cy aB (als 0) e_B_told e_B_mentions e_B_claims SB) ++ (lsW cy als Sls))))) (fun (u : Ob × Ob) => Q u.1 u.2)) args s (rmN 4).cells (rmN 4).slots A) (F0 m 0 ls []) := ?hgo
  · rw [hH, hLc] at hgo; exact hgo
  refine lv_aload_n hx hb dX3_weigh_0 rfl (lv_at hl 0 rfl) ?_
  refine gF (k := 8) hc hw inX3 rfl 0 rfl (by decide) (gm 337 (by decide +kernel) rfl) rfl dX3_weigh_1 ?_
  refine lv_if_eq (tgt := 8) hx hb dX3_weigh_4 (by decide) (fun c52 => ?_) (fun c52 => ?_)
  · have hm := hm.1 c52
    refine lv_aload_n hx hb dX3_weigh_8 rfl (lv_at hl 0 rfl) ?_
    refine lv_iconst (v := 1) hx hb dX3_weigh_9 (by decide) ?_
    refine pF (k := 8) (ty := .boolean) hc hw inX3 tyX3_ok nmX3 rfl 0 rfl (by decide) (gm 337 (by decide +kernel) rfl) rfl (by decide +kernel) rfl rfl (Nat.le_of_ble_eq_true rfl) dX3_weigh_10 (fun H locs hw => ?_)
    obtain ⟨S1, e_S1⟩ : ∃ z : Ob, z = uS SP 8 1 := ⟨_, rfl⟩
    have hm := hm S1 e_S1
    have hw : wV D A s.heap ((pW cy aP (aJ 0) S1) ++ ((jW cy aJ SJ) ++ ((bW cy aB (als 0) e_B_told e_B_mentions e_B_claims SB) ++ (lsW cy als Sls)))) H locs := by rw [e_S1]; exact hw
    refine lv_aload_n hx hb dX3_weigh_13 rfl (lv_at hl 0 rfl) ?_
    refine lv_aload_n hx hb dX3_weigh_14 rfl (lv_at hl 1 rfl) ?_
    refine gN (k := 4) (host := "OlderTale") hc hw inX6 rfl 14 rfl (by decide) (nmm 214 (by decide +kernel)) rfl dX3_weigh_15 ?_
    refine pF (k := 6) (ty := .int) hc hw inX3 tyX3_ok nmX3 rfl 0 rfl (by decide) (gm 334 (by decide +kernel) rfl) rfl (by decide +kernel) rfl rfl (Nat.le_of_ble_eq_true rfl) dX3_weigh_18 (fun H locs hw => ?_)
    obtain ⟨S2, e_S2⟩ : ∃ z : Ob, z = uS S1 6 (SB.1 4) := ⟨_, rfl⟩
    have hm := hm S2 e_S2
    have hw : wV D A s.heap ((pW cy aP (aJ 0) S2) ++ ((jW cy aJ SJ) ++ ((bW cy aB (als 0) e_B_told e_B_mentions e_B_claims SB) ++ (lsW cy als Sls)))) H locs := by rw [e_S2]; exact hw
    refine lv_aload_n hx hb dX3_weigh_21 rfl (lv_at hl 0 rfl) ?_
    refine lv_aload_n hx hb dX3_weigh_22 rfl (lv_at hl 1 rfl) ?_
    refine gN (k := 5) (host := "OlderTale") hc hw inX6 rfl 14 rfl (by decide) (nmm 217 (by decide +kernel)) rfl dX3_weigh_23 ?_
    refine lv_iconst (v := 1) hx hb dX3_weigh_26 (by decide) ?_
    refine aI hc hw 19 rfl (vin (by decide)) (j := 1) (by decide) dX3_weigh_27 ?_
    refine lv_iconst (v := 1) hx hb dX3_weigh_28 (by decide) ?_
    obtain ⟨J4, eJ4, hm⟩ := jn_e hm
    have hJ4 : ∀ (t3 : Int32) (_ : J4 t3) (H : Heap) (locs : List Loc) (ls : Array Slot), wV D A s.heap ((pW cy aP (aJ 0) S2) ++ ((jW cy aJ SJ) ++ ((bW cy aB (als 0) e_B_told e_B_mentions e_B_claims SB) ++ (lsW cy als Sls)))) H locs → lv_has ls 5 [(0, .ref (aP 0)), (1, .ref (aB 0))] → W p l e (rmN 4) s m args below meth c H locs 0 0 (MQ below (eV D cy A (fun u : Ob × Ob => ((pW cy aP (aJ 0) u.1) ++ ((jW cy aJ u.2) ++ ((bW cy aB (als 0) e_B_told e_B_mentions e_B_claims SB) ++ (lsW cy als Sls))))) (fun (u : Ob × Ob) => Q u.1 u.2)) args s (rmN 4).cells (rmN 4).slots A) (F0 m 37 ls [.int t3, .ref (aP 0)]) := by
      intro t3 hm H locs ls hw hl
      rw [eJ4] at hm
      obtain ⟨c5, c6, hm⟩ := hm
      refine pF (k := 7) (ty := .boolean) hc hw inX3 tyX3_ok nmX3 rfl 0 rfl (by decide) (gm 336 (by decide +kernel) rfl) rfl (by decide +kernel) c5 c6 (Nat.le_of_ble_eq_true rfl) dX3_weigh_37 (fun H locs hw => ?_)
      obtain ⟨S7, e_S7⟩ : ∃ z : Ob, z = uS S2 7 t3 := ⟨_, rfl⟩
      have hm := hm S7 e_S7
      have hw : wV D A s.heap ((pW cy aP (aJ 0) S7) ++ ((jW cy aJ SJ) ++ ((bW cy aB (als 0) e_B_told e_B_mentions e_B_claims SB) ++ (lsW cy als Sls)))) H locs := by rw [e_S7]; exact hw
      refine lv_aload_n hx hb dX3_weigh_40 rfl (lv_at hl 1 rfl) ?_
      refine nVN_Q (As := []) (rest := []) (wc := ((bW cy aB (als 0) e_B_told e_B_mentions e_B_claims SB) ++ (lsW cy als Sls))) (wr := ((pW cy aP (aJ 0) S7) ++ (jW cy aJ SJ))) (isC := [14, 15, 16, 17, 18, 19, 20]) (isR := [0, 1, 2, 3, 4, 5, 6, 7, 8, 9, 10, 11, 12, 13]) hc hw (c_X6_lawInForce hm) lk_X3_78 ⟨rfl, rfl, rfl, rfl, by decide⟩ rfl rfl ⟨Nat.le_of_ble_eq_true rfl, Nat.le_of_ble_eq_true rfl⟩ ⟨Nat.le_of_ble_eq_true rfl, Nat.le_of_ble_eq_true rfl⟩ hl.1 rfl (Nat.le_of_ble_eq_true rfl) rfl dX3_weigh_41 (fun r8 _ H locs hm hw => ?_)
      have hw : wV D A s.heap ((pW cy aP (aJ 0) S7) ++ ((jW cy aJ SJ) ++ ((bW cy aB (als 0) e_B_told e_B_mentions e_B_claims SB) ++ (lsW cy als Sls)))) H locs := hw.perm [0, 1, 2, 3, 4, 5, 6, 7, 8, 9, 10, 11, 12, 13, 14, 15, 16, 17, 18, 19, 20] rfl rfl
      obtain ⟨c10, hm⟩ := hm
      rw [c10]
      refine W.eq (g2 := F0 _ _ _ (.null :: _)) rfl ?_
      refine lv_astore_nN (lv' := [(2, .null), (0, .ref (aP 0)), (1, .ref (aB 0))]) hx hb dX3_weigh_44 rfl hl (by decide) rfl (fun ls hl => ?_)
      refine lv_iconst (v := 0) hx hb dX3_weigh_45 (by decide) ?_
      refine lv_istore_n (lv' := [(3, .int 0), (2, .null), (0, .ref (aP 0)), (1, .ref (aB 0))]) hx hb dX3_weigh_46 rfl hl (by decide) rfl (fun ls hl => ?_)
      refine wl3_ind (G := fun (x3_11 : Int32) (S12 : Ob) (S13 : Ob) => ∀ (H : Heap) (locs : List Loc) (ls : Array Slot), wV D A s.heap ((pW cy aP (aJ 0) S12) ++ ((jW cy aJ S13) ++ ((bW cy aB (als 0) e_B_told e_B_mentions e_B_claims SB) ++ (lsW cy als Sls)))) H locs → lv_has ls 5 [(3, .int x3_11), (2, .null), (0, .ref (aP 0)), (1, .ref (aB 0))] → W p l e (rmN 4) s m args below meth c H locs 0 0 (MQ below (eV D cy A (fun u : Ob × Ob => ((pW cy aP (aJ 0) u.1) ++ ((jW cy aJ u.2) ++ ((bW cy aB (als 0) e_B_told e_B_mentions e_B_claims SB) ++ (lsW cy als Sls))))) (fun (u : Ob × Ob) => Q u.1 u.2)) args s (rmN 4).cells (rmN 4).slots A) (F0 m 47 ls [])) ?_ _ _ _ hm H locs ls hw (lv_sub hl [0, 1, 2, 3] rfl)
      intro L14 ih14 x3_11 S12 S13 hm H locs ls hw hl
      refine lv_iload_n hx hb dX3_weigh_47 rfl (lv_at hl 0 rfl) ?_
      refine lv_aload_n hx hb dX3_weigh_48 rfl (lv_at hl 2 rfl) ?_
      refine gF (k := 6) hc hw inX3 rfl 0 rfl (by decide) (gm 334 (by decide +kernel) rfl) rfl dX3_weigh_49 ?_
      refine lv_icmp_ge (tgt := 204) hx hb dX3_weigh_52 (by decide) (fun c50 => ?_) (fun c50 => ?_)
      · have hm := hm.1 c50
        exact retV (u := (S12, S13)) hc hw hm dX3_weigh_204
      · have hm := hm.2 c50
        refine lv_aload_n hx hb dX3_weigh_55 rfl (lv_at hl 2 rfl) ?_
        refine gF (k := 1) hc hw inX3 rfl 0 rfl (by decide) (gm 326 (by decide +kernel) rfl) rfl dX3_weigh_56 ?_
        refine lv_iload_n hx hb dX3_weigh_59 rfl (lv_at hl 0 rfl) ?_
        refine lv_aload_n hx hb dX3_weigh_60 rfl (lv_at hl 3 rfl) ?_
        refine gN (k := 0) (host := "OlderTale") hc hw inX6 rfl 14 rfl (by decide) (nmm 198 (by decide +kernel)) rfl dX3_weigh_61 ?_
        refine lv_iload_n hx hb dX3_weigh_64 rfl (lv_at hl 0 rfl) ?_
        obtain ⟨c15, hm⟩ := hm
        refine aI hc hw 15 rfl c15 rfl dX3_weigh_65 ?_
        obtain ⟨c16, hm⟩ := hm
        refine sI hc hw 1 rfl c16 rfl dX3_weigh_66 (fun H locs hw => ?_)
        obtain ⟨S17, e_S17⟩ : ∃ z : Ob, z = uA S12 1 (Int32.toNatClampNeg x3_11) (SB.2 0 (Int32.toNatClampNeg x3_11)) := ⟨_, rfl⟩
        have hm := hm S17 e_S17
        have hw : wV D A s.heap ((pW cy aP (aJ 0) S17) ++ ((jW cy aJ S13) ++ ((bW cy aB (als 0) e_B_told e_B_mentions e_B_claims SB) ++ (lsW cy als Sls)))) H locs := by rw [e_S17]; exact hw
        refine lv_aload_n hx hb dX3_weigh_67 rfl (lv_at hl 2 rfl) ?_
        refine gF (k := 2) hc hw inX3 rfl 0 rfl (by decide) (gm 327 (by decide +kernel) rfl) rfl dX3_weigh_68 ?_
        refine lv_iload_n hx hb dX3_weigh_71 rfl (lv_at hl 0 rfl) ?_
        refine lv_aload_n hx hb dX3_weigh_72 rfl (lv_at hl 3 rfl) ?_
        refine gN (k := 1) (host := "OlderTale") hc hw inX6 rfl 14 rfl (by decide) (nmm 203 (by decide +kernel)) rfl dX3_weigh_73 ?_
        refine lv_iload_n hx hb dX3_weigh_76 rfl (lv_at hl 0 rfl) ?_
        obtain ⟨c18, hm⟩ := hm
        refine aI hc hw 16 rfl c18 rfl dX3_weigh_77 ?_
        obtain ⟨c19, hm⟩ := hm
        refine sI hc hw 2 rfl c19 rfl dX3_weigh_78 (fun H locs hw => ?_)
        obtain ⟨S20, e_S20⟩ : ∃ z : Ob, z = uA S17 2 (Int32.toNatClampNeg x3_11) (SB.2 1 (Int32.toNatClampNeg x3_11)) := ⟨_, rfl⟩
        have hm := hm S20 e_S20
        have hw : wV D A s.heap ((pW cy aP (aJ 0) S20) ++ ((jW cy aJ S13) ++ ((bW cy aB (als 0) e_B_told e_B_mentions e_B_claims SB) ++ (lsW cy als Sls)))) H locs := by rw [e_S20]; exact hw
        refine lv_aload_n hx hb dX3_weigh_79 rfl (lv_at hl 2 rfl) ?_
        refine gF (k := 0) hc hw inX3 rfl 0 rfl (by decide) (gm 325 (by decide +kernel) rfl) rfl dX3_weigh_80 ?_
        refine lv_aload_n hx hb dX3_weigh_83 rfl (lv_at hl 3 rfl) ?_
        refine lv_iload_n hx hb dX3_weigh_84 rfl (lv_at hl 0 rfl) ?_
        refine nVN_V (As := [.ref (aB 0), .int x3_11]) (rest := []) (wc := ((jW cy aJ S13) ++ (bW cy aB (als 0) e_B_told e_B_mentions e_B_claims SB))) (wr := ((pW cy aP (aJ 0) S20) ++ (lsW cy als Sls))) (isC := [11, 12, 13, 14, 15, 16, 17, 18, 19]) (isR := [0, 1, 2, 3, 4, 5, 6, 7, 8, 9, 10, 20]) hc hw (c_X1_look hm) lk_X3_84 ⟨rfl, rfl, rfl, rfl, by decide⟩ rfl rfl ⟨Nat.le_of_ble_eq_true rfl, Nat.le_of_ble_eq_true rfl⟩ ⟨Nat.le_of_ble_eq_true rfl, Nat.le_of_ble_eq_true rfl⟩ hl.1 rfl (Nat.le_of_ble_eq_true rfl) rfl dX3_weigh_85 (fun S21 H locs hm hw => ?_)
        have hw : wV D A s.heap ((pW cy aP (aJ 0) S20) ++ ((jW cy aJ S21) ++ ((bW cy aB (als 0) e_B_told e_B_mentions e_B_claims SB) ++ (lsW cy als Sls)))) H locs := hw.perm [0, 1, 2, 3, 4, 5, 6, 7, 8, 9, 10, 12, 13, 14, 15, 16, 17, 18, 19, 20, 11] rfl rfl
        refine lv_aload_n hx hb dX3_weigh_88 rfl (lv_at hl 2 rfl) ?_
        refine gF (k := 3) hc hw inX3 rfl 0 rfl (by decide) (gm 328 (by decide +kernel) rfl) rfl dX3_weigh_89 ?_
        refine lv_iload_n hx hb dX3_weigh_92 rfl (lv_at hl 0 rfl) ?_
        refine lv_aload_n hx hb dX3_weigh_93 rfl (lv_at hl 2 rfl) ?_
        refine gF (k := 0) hc hw inX3 rfl 0 rfl (by decide) (gm 325 (by decide +kernel) rfl) rfl dX3_weigh_94 ?_
        refine lv_aload_nN hx hb dX3_weigh_97 rfl (lv_at hl 1 rfl) ?_
        refine lv_sipush (v := 256) hx hb dX3_weigh_98 (by decide) ?_
        refine lv_iconst (v := 0) hx hb dX3_weigh_101 (by decide) ?_
        refine lv_aload_n hx hb dX3_weigh_102 rfl (lv_at hl 3 rfl) ?_
        refine gN (k := 2) (host := "OlderTale") hc hw inX6 rfl 14 rfl (by decide) (nmm 206 (by decide +kernel)) rfl dX3_weigh_103 ?_
        refine lv_iload_n hx hb dX3_weigh_106 rfl (lv_at hl 0 rfl) ?_
        obtain ⟨c23, hm⟩ := hm
        refine aI hc hw 17 rfl c23 rfl dX3_weigh_107 ?_
        refine nVN_I (As := [.null, .int 256, .int 0, .int (SB.2 2 (Int32.toNatClampNeg x3_11))]) (rest := [.int x3_11, .ref (aP 3)]) (wc := (jW cy aJ S21)) (wr := ((pW cy aP (aJ 0) S20) ++ ((bW cy aB (als 0) e_B_told e_B_mentions e_B_claims SB) ++ (lsW cy als Sls)))) (isC := [11, 12, 13]) (isR := [0, 1, 2, 3, 4, 5, 6, 7, 8, 9, 10, 14, 15, 16, 17, 18, 19, 20]) hc hw (c_X1_lastOfN hm) lk_X3_91 ⟨rfl, rfl, rfl, rfl, by decide⟩ rfl rfl ⟨Nat.le_of_ble_eq_true rfl, Nat.le_of_ble_eq_true rfl⟩ ⟨Nat.le_of_ble_eq_true rfl, Nat.le_of_ble_eq_true rfl⟩ hl.1 rfl (Nat.le_of_ble_eq_true rfl) rfl dX3_weigh_108 (fun r24 _ H locs hm hw => ?_)
        have hw : wV D A s.heap ((pW cy aP (aJ 0) S20) ++ ((jW cy aJ S21) ++ ((bW cy aB (als 0) e_B_told e_B_mentions e_B_claims SB) ++ (lsW cy als Sls)))) H locs := hw.perm [0, 1, 2, 3, 4, 5, 6, 7, 8, 9, 10, 18, 19, 20, 11, 12, 13, 14, 15, 16, 17] rfl rfl
        obtain ⟨c26, hm⟩ := hm
        refine sI hc hw 3 rfl c26 rfl dX3_weigh_111 (fun H locs hw => ?_)
        obtain ⟨S27, e_S27⟩ : ∃ z : Ob, z = uA S20 3 (Int32.toNatClampNeg x3_11) r24 := ⟨_, rfl⟩
        have hm := hm S27 e_S27
        have hw : wV D A s.heap ((pW cy aP (aJ 0) S27) ++ ((jW cy aJ S21) ++ ((bW cy aB (als 0) e_B_told e_B_mentions e_B_claims SB) ++ (lsW cy als Sls)))) H locs := by rw [e_S27]; exact hw
        refine lv_aload_n hx hb dX3_weigh_112 rfl (lv_at hl 2 rfl) ?_
        refine gF (k := 4) hc hw inX3 rfl 0 rfl (by decide) (gm 330 (by decide +kernel) rfl) rfl dX3_weigh_113 ?_
        refine lv_iload_n hx hb dX3_weigh_116 rfl (lv_at hl 0 rfl) ?_
        refine lv_aload_n hx hb dX3_weigh_117 rfl (lv_at hl 2 rfl) ?_
        refine gF (k := 0) hc hw inX3 rfl 0 rfl (by decide) (gm 325 (by decide +kernel) rfl) rfl dX3_weigh_118 ?_
        refine lv_aload_nN hx hb dX3_weigh_121 rfl (lv_at hl 1 rfl) ?_
        refine lv_sipush (v := 257) hx hb dX3_weigh_122 (by decide) ?_
        refine lv_iconst (v := 1) hx hb dX3_weigh_125 (by decide) ?_
        refine lv_iconst (v := 1) hx hb dX3_weigh_126 (by decide) ?_
        refine nVN_I (As := [.null, .int 257, .int 1, .int 1]) (rest := [.int x3_11, .ref (aP 4)]) (wc := (jW cy aJ S21)) (wr := ((pW cy aP (aJ 0) S27) ++ ((bW cy aB (als 0) e_B_told e_B_mentions e_B_claims SB) ++ (lsW cy als Sls)))) (isC := [11, 12, 13]) (isR := [0, 1, 2, 3, 4, 5, 6, 7, 8, 9, 10, 14, 15, 16, 17, 18, 19, 20]) hc hw (c_X1_lastOfN hm) lk_X3_91 ⟨rfl, rfl, rfl, rfl, by decide⟩ rfl rfl ⟨Nat.le_of_ble_eq_true rfl, Nat.le_of_ble_eq_true rfl⟩ ⟨Nat.le_of_ble_eq_true rfl, Nat.le_of_ble_eq_true rfl⟩ hl.1 rfl (Nat.le_of_ble_eq_true rfl) rfl dX3_weigh_127 (fun r28 _ H locs hm hw => ?_)
        have hw : wV D A s.heap ((pW cy aP (aJ 0) S27) ++ ((jW cy aJ S21) ++ ((bW cy aB (als 0) e_B_told e_B_mentions e_B_claims SB) ++ (lsW cy als Sls)))) H locs := hw.perm [0, 1, 2, 3, 4, 5, 6, 7, 8, 9, 10, 18, 19, 20, 11, 12, 13, 14, 15, 16, 17] rfl rfl
        obtain ⟨c30, hm⟩ := hm
        refine sI hc hw 4 rfl c30 rfl dX3_weigh_130 (fun H locs hw => ?_)
        obtain ⟨S31, e_S31⟩ : ∃ z : Ob, z = uA S27 4 (Int32.toNatClampNeg x3_11) r28 := ⟨_, rfl⟩
        have hm := hm S31 e_S31
        have hw : wV D A s.heap ((pW cy aP (aJ 0) S31) ++ ((jW cy aJ S21) ++ ((bW cy aB (als 0) e_B_told e_B_mentions e_B_claims SB) ++ (lsW cy als Sls)))) H locs := by rw [e_S31]; exact hw
        refine lv_aload_n hx hb dX3_weigh_131 rfl (lv_at hl 2 rfl) ?_
        refine gF (k := 5) hc hw inX3 rfl 0 rfl (by decide) (gm 332 (by decide +kernel) rfl) rfl dX3_weigh_132 ?_
        refine lv_iload_n hx hb dX3_weigh_135 rfl (lv_at hl 0 rfl) ?_
        refine lv_iconst (v := 0) hx hb dX3_weigh_136 (by decide) ?_
        obtain ⟨c32, hm⟩ := hm
        refine sI hc hw 5 rfl c32 rfl dX3_weigh_137 (fun H locs hw => ?_)
        obtain ⟨S33, e_S33⟩ : ∃ z : Ob, z = uA S31 5 (Int32.toNatClampNeg x3_11) 0 := ⟨_, rfl⟩
        have hm := hm S33 e_S33
        have hw : wV D A s.heap ((pW cy aP (aJ 0) S33) ++ ((jW cy aJ S21) ++ ((bW cy aB (als 0) e_B_told e_B_mentions e_B_claims SB) ++ (lsW cy als Sls)))) H locs := by rw [e_S33]; exact hw
        refine lv_iconst (v := 0) hx hb dX3_weigh_138 (by decide) ?_
        refine lv_istore (lv' := [(4, .int 0), (3, .int x3_11), (2, .null), (0, .ref (aP 0)), (1, .ref (aB 0))]) hx hb dX3_weigh_139 hl (by decide) rfl (fun ls hl => ?_)
        refine wl2_ind (G := fun (x4_34 : Int32) (S35 : Ob) => ∀ (H : Heap) (locs : List Loc) (ls : Array Slot), wV D A s.heap ((pW cy aP (aJ 0) S35) ++ ((jW cy aJ S21) ++ ((bW cy aB (als 0) e_B_told e_B_mentions e_B_claims SB) ++ (lsW cy als Sls)))) H locs → lv_has ls 5 [(4, .int x4_34), (3, .int x3_11), (2, .null), (0, .ref (aP 0)), (1, .ref (aB 0))] → W p l e (rmN 4) s m args below meth c H locs 0 0 (MQ below (eV D cy A (fun u : Ob × Ob => ((pW cy aP (aJ 0) u.1) ++ ((jW cy aJ u.2) ++ ((bW cy aB (als 0) e_B_told e_B_mentions e_B_claims SB) ++ (lsW cy als Sls))))) (fun (u : Ob × Ob) => Q u.1 u.2)) args s (rmN 4).cells (rmN 4).slots A) (F0 m 141 ls [])) ?_ _ _ hm H locs ls hw (lv_sub hl [0, 1, 2, 3, 4] rfl)
        intro L36 ih36 x4_34 S35 hm H locs ls hw hl
        refine lv_iload hx hb dX3_weigh_141 (lv_at hl 0 rfl) ?_
        refine lv_aload_n hx hb dX3_weigh_143 rfl (lv_at hl 4 rfl) ?_
        refine gN (k := 5) (host := "OlderTale") hc hw inX6 rfl 14 rfl (by decide) (nmm 217 (by decide +kernel)) rfl dX3_weigh_144 ?_
        refine lv_iconst (v := 0) hx hb dX3_weigh_147 (by decide) ?_
        refine aI hc hw 19 rfl (vin (by decide)) (j := 0) (by decide) dX3_weigh_148 ?_
        refine lv_icmp_ge (tgt := 198) hx hb dX3_weigh_149 (by decide) (fun c49 => ?_) (fun c49 => ?_)
        · have hm := hm.1 c49
          obtain ⟨v37, e_v37⟩ : ∃ z : Int32, z = x3_11 + 1 := ⟨_, rfl⟩
          have hm := hm v37 e_v37
          refine lv_iinc (v := v37) (lv' := [(3, .int v37), (4, .int x4_34), (2, .null), (0, .ref (aP 0)), (1, .ref (aB 0))]) hx hb dX3_weigh_198 hl (k := 1) rfl (by rw [e_v37]; rfl) (by decide) rfl (fun ls hl => ?_)
          refine lv_goto (tgt := 47) hx hb dX3_weigh_201 (by decide) ?_
          exact ih14 _ _ _ hm _ _ _ hw (lv_sub hl [0, 2, 3, 4] rfl)
        · have hm := hm.2 c49
          refine lv_aload_n hx hb dX3_weigh_152 rfl (lv_at hl 4 rfl) ?_
          refine gN (k := 3) (host := "OlderTale") hc hw inX6 rfl 14 rfl (by decide) (nmm 209 (by decide +kernel)) rfl dX3_weigh_153 ?_
          refine lv_iload_n hx hb dX3_weigh_156 rfl (lv_at hl 1 rfl) ?_
          obtain ⟨c38, hm⟩ := hm
          refine aI hc hw 18 rfl c38 rfl dX3_weigh_157 ?_
          refine lv_iload hx hb dX3_weigh_158 (lv_at hl 0 rfl) ?_
          refine lv_ishr hx hb dX3_weigh_160 ?_
          refine lv_iconst (v := 1) hx hb dX3_weigh_161 (by decide) ?_
          refine lv_iand hx hb dX3_weigh_162 ?_
          refine lv_if_eq (tgt := 192) hx hb dX3_weigh_163 (by decide) (fun c48 => ?_) (fun c48 => ?_)
          · have hm := hm.1 c48
            obtain ⟨v39, e_v39⟩ : ∃ z : Int32, z = x4_34 + 1 := ⟨_, rfl⟩
            have hm := hm v39 e_v39
            refine lv_iinc (v := v39) (lv' := [(4, .int v39), (3, .int x3_11), (2, .null), (0, .ref (aP 0)), (1, .ref (aB 0))]) hx hb dX3_weigh_192 hl (k := 0) rfl (by rw [e_v39]; rfl) (by decide) rfl (fun ls hl => ?_)
            refine lv_goto (tgt := 141) hx hb dX3_weigh_195 (by decide) ?_
            exact ih36 _ _ hm _ _ _ hw (lv_sub hl [0, 1, 2, 3, 4] rfl)
          · have hm := hm.2 c48
            refine lv_aload_n hx hb dX3_weigh_166 rfl (lv_at hl 3 rfl) ?_
            refine gF (k := 0) hc hw inX3 rfl 0 rfl (by decide) (gm 325 (by decide +kernel) rfl) rfl dX3_weigh_167 ?_
            refine lv_aload_nN hx hb dX3_weigh_170 rfl (lv_at hl 2 rfl) ?_
            refine lv_iload hx hb dX3_weigh_171 (lv_at hl 0 rfl) ?_
            refine nVN_I (As := [.null, .int x4_34]) (rest := []) (wc := (jW cy aJ S21)) (wr := ((pW cy aP (aJ 0) S35) ++ ((bW cy aB (als 0) e_B_told e_B_mentions e_B_claims SB) ++ (lsW cy als Sls)))) (isC := [11, 12, 13]) (isR := [0, 1, 2, 3, 4, 5, 6, 7, 8, 9, 10, 14, 15, 16, 17, 18, 19, 20]) hc hw (c_X1_isBarredN hm) lk_X3_98 ⟨rfl, rfl, rfl, rfl, by decide⟩ rfl rfl ⟨Nat.le_of_ble_eq_true rfl, Nat.le_of_ble_eq_true rfl⟩ ⟨Nat.le_of_ble_eq_true rfl, Nat.le_of_ble_eq_true rfl⟩ hl.1 rfl (Nat.le_of_ble_eq_true rfl) rfl dX3_weigh_173 (fun r40 _ H locs hm hw => ?_)
            have hw : wV D A s.heap ((pW cy aP (aJ 0) S35) ++ ((jW cy aJ S21) ++ ((bW cy aB (als 0) e_B_told e_B_mentions e_B_claims SB) ++ (lsW cy als Sls)))) H locs := hw.perm [0, 1, 2, 3, 4, 5, 6, 7, 8, 9, 10, 18, 19, 20, 11, 12, 13, 14, 15, 16, 17] rfl rfl
            refine lv_if_ne (tgt := 192) hx hb dX3_weigh_176 (by decide) (fun c47 => ?_) (fun c47 => ?_)
            · have hm := hm.1 c47
              obtain ⟨v42, e_v42⟩ : ∃ z : Int32, z = x4_34 + 1 := ⟨_, rfl⟩
              have hm := hm v42 e_v42
              refine lv_iinc (v := v42) (lv' := [(4, .int v42), (3, .int x3_11), (2, .null), (0, .ref (aP 0)), (1, .ref (aB 0))]) hx hb dX3_weigh_192 hl (k := 0) rfl (by rw [e_v42]; rfl) (by decide) rfl (fun ls hl => ?_)
              refine lv_goto (tgt := 141) hx hb dX3_weigh_195 (by decide) ?_
              exact ih36 _ _ hm _ _ _ hw (lv_sub hl [0, 1, 2, 3, 4] rfl)
            · have hm := hm.2 c47
              refine lv_aload_n hx hb dX3_weigh_179 rfl (lv_at hl 3 rfl) ?_
              refine gF (k := 5) hc hw inX3 rfl 0 rfl (by decide) (gm 332 (by decide +kernel) rfl) rfl dX3_weigh_180 ?_
              refine lv_iload_n hx hb dX3_weigh_183 rfl (lv_at hl 1 rfl) ?_
              refine lv_dup2_11 hx hb dX3_weigh_184 rfl rfl ?_
              obtain ⟨c43, hm⟩ := hm
              refine aI hc hw 5 rfl c43 rfl dX3_weigh_185 ?_
              refine lv_iconst (v := 1) hx hb dX3_weigh_186 (by decide) ?_
              refine lv_iload hx hb dX3_weigh_187 (lv_at hl 0 rfl) ?_
              refine lv_ishl hx hb dX3_weigh_189 ?_
              refine lv_ior hx hb dX3_weigh_190 ?_
              obtain ⟨c44, hm⟩ := hm
              refine sI hc hw 5 rfl c44 rfl dX3_weigh_191 (fun H locs hw => ?_)
              obtain ⟨S45, e_S45⟩ : ∃ z : Ob, z = uA S35 5 (Int32.toNatClampNeg x3_11) ((S35.2 5 (Int32.toNatClampNeg x3_11)) ||| ((1 : Int32) <<< (x4_34 &&& 31))) := ⟨_, rfl⟩
              have hm := hm S45 e_S45
              have hw : wV D A s.heap ((pW cy aP (aJ 0) S45) ++ ((jW cy aJ S21) ++ ((bW cy aB (als 0) e_B_told e_B_mentions e_B_claims SB) ++ (lsW cy als Sls)))) H locs := by rw [e_S45]; exact hw
              obtain ⟨v46, e_v46⟩ : ∃ z : Int32, z = x4_34 + 1 := ⟨_, rfl⟩
              have hm := hm v46 e_v46
              refine lv_iinc (v := v46) (lv' := [(4, .int v46), (3, .int x3_11), (2, .null), (0, .ref (aP 0)), (1, .ref (aB 0))]) hx hb dX3_weigh_192 hl (k := 0) rfl (by rw [e_v46]; rfl) (by decide) rfl (fun ls hl => ?_)
              refine lv_goto (tgt := 141) hx hb dX3_weigh_195 (by decide) ?_
              exact ih36 _ _ hm _ _ _ hw (lv_sub hl [0, 1, 2, 3, 4] rfl)
    refine lv_icmp_ne (tgt := 36) hx hb dX3_weigh_29 (by decide) (fun c51 => ?_) (fun c51 => ?_)
    · have hm := hm.1 c51
      refine lv_iconst (v := 0) hx hb dX3_weigh_36 (by decide) ?_
      exact hJ4 _ hm _ _ _ hw (lv_sub hl [0, 1] rfl)
    · have hm := hm.2 c51
      refine lv_iconst (v := 1) hx hb dX3_weigh_32 (by decide) ?_
      refine lv_goto (tgt := 37) hx hb dX3_weigh_33 (by decide) ?_
      exact hJ4 _ hm _ _ _ hw (lv_sub hl [0, 1] rfl)
  · have hm := hm.2 c52
    exact retV (u := (SP, SJ)) hc hw hm dX3_weigh_7
set_option maxHeartbeats 4000000 in
set_option maxRecDepth 100000 in
theorem c_X3_reckonSet {l : Launch} {D : va_G} {cy : Nat → ClassId} {aP : Nat → Nat} {e_P_judge : Nat} {SP : Ob} {x1 : Int32} {Q : Ob → Prop} (hm : w_X3_reckonSet SP x1 Q) : CtV l yX3_reckonSet cX3_reckonSet 11 none (rmN 3) D cy [.ref (aP 0), .int x1] (pW cy aP e_P_judge SP) (fun u : Ob => (pW cy aP e_P_judge u)) Q := by
  refine CtV.ofW (by decide) (Nat.le_of_ble_eq_true rfl) ?_
  intro p e s m args below meth c A ls hc hnm hw hl
  have hx := hc.1.1
  have hb := hc.1.2.1
  have hown := hc.1.2.2.2.1
  have hts := hc.1.2.2.2.2
  have hl : lv_has ls 11 [(0, .ref (aP 0)), (1, .int x1)] := hl
  obtain ⟨H, hH⟩ : ∃ z, z = s.heap := ⟨_, rfl⟩
  obtain ⟨locs, hLc⟩ : ∃ z : List Loc, z = [] := ⟨_, rfl⟩
  have hw : wV D A s.heap (pW cy aP e_P_judge SP) H locs := by rw [hH, hLc]; exact hw
  have hgo : W p l e (rmN 3) s m args below meth c H locs 0 0 (MQ below (eV D cy A (fun u : Ob => (pW cy aP e_P_judge u)) Q) args s (rmN 3).cells (rmN 3).slots A) (F0 m 0 ls []) := ?hgo
  · rw [hH, hLc] at hgo; exact hgo
  refine lv_ldc (v := 100000) hx hb hown (hts _ (gm 841 (by decide +kernel) rfl)) dX3_reckonSet_0 ?_
  refine lv_istore_n (lv' := [(2, .int 100000), (0, .ref (aP 0)), (1, .int x1)]) hx hb dX3_reckonSet_2 rfl hl (by decide) rfl (fun ls hl => ?_)
  refine lv_iconst (v := (-1)) hx hb dX3_reckonSet_3 (by decide) ?_
  refine lv_istore_n (lv' := [(3, .int (-1)), (2, .int 100000), (0, .ref (aP 0)), (1, .int x1)]) hx hb dX3_reckonSet_4 rfl hl (by decide) rfl (fun ls hl => ?_)
  refine lv_ldc (v := 100000) hx hb hown (hts _ (gm 841 (by decide +kernel) rfl)) dX3_reckonSet_5 ?_
  refine lv_istore (lv' := [(4, .int 100000), (3, .int (-1)), (2, .int 100000), (0, .ref (aP 0)), (1, .int x1)]) hx hb dX3_reckonSet_7 hl (by decide) rfl (fun ls hl => ?_)
  refine lv_iconst (v := 0) hx hb dX3_reckonSet_9 (by decide) ?_
  refine lv_istore (lv' := [(5, .int 0), (4, .int 100000), (3, .int (-1)), (2, .int 100000), (0, .ref (aP 0)), (1, .int x1)]) hx hb dX3_reckonSet_10 hl (by decide) rfl (fun ls hl => ?_)
  refine lv_iconst (v := 0) hx hb dX3_reckonSet_12 (by decide) ?_
  refine lv_istore (lv' := [(6, .int 0), (5, .int 0), (4, .int 100000), (3, .int (-1)), (2, .int 100000), (0, .ref (aP 0)), (1, .int x1)]) hx hb dX3_reckonSet_13 hl (by decide) rfl (fun ls hl => ?_)
  refine wl5_ind (G := fun (x6_1 : Int32) (x5_2 : Int32) (x4_3 : Int32) (x3_4 : Int32) (x2_5 : Int32) => ∀ (H : Heap) (locs : List Loc) (ls : Array Slot), wV D A s.heap (pW cy aP e_P_judge SP) H locs → lv_has ls 11 [(6, .int x6_1), (5, .int x5_2), (4, .int x4_3), (3, .int x3_4), (2, .int x2_5), (0, .ref (aP 0)), (1, .int x1)] → W p l e (rmN 3) s m args below meth c H locs 0 0 (MQ below (eV D cy A (fun u : Ob => (pW cy aP e_P_judge u)) Q) args s (rmN 3).cells (rmN 3).slots A) (F0 m 15 ls [])) ?_ _ _ _ _ _ hm H locs ls hw (lv_sub hl [0, 1, 2, 3, 4, 5, 6] rfl)
  intro L6 ih6 x6_1 x5_2 x4_3 x3_4 x2_5 hm H locs ls hw hl
  refine lv_iload hx hb dX3_reckonSet_15 (lv_at hl 0 rfl) ?_
  refine lv_aload_n hx hb dX3_reckonSet_17 rfl (lv_at hl 5 rfl) ?_
  refine gF (k := 6) hc hw inX3 rfl 0 rfl (by decide) (gm 334 (by decide +kernel) rfl) rfl dX3_reckonSet_18 ?_
  refine lv_icmp_ge (tgt := 196) hx hb dX3_reckonSet_21 (by decide) (fun c75 => ?_) (fun c75 => ?_)
  · have hm := hm.1 c75
    refine lv_aload_n hx hb dX3_reckonSet_196 rfl (lv_at hl 5 rfl) ?_
    refine gF (k := 10) hc hw inX3 rfl 0 rfl (by decide) (gm 339 (by decide +kernel) rfl) rfl dX3_reckonSet_197 ?_
    refine lv_iload_n hx hb dX3_reckonSet_200 rfl (lv_at hl 6 rfl) ?_
    refine lv_iload hx hb dX3_reckonSet_201 (lv_at hl 1 rfl) ?_
    obtain ⟨c7, hm⟩ := hm
    refine sI hc hw 6 rfl c7 rfl dX3_reckonSet_203 (fun H locs hw => ?_)
    obtain ⟨S8, e_S8⟩ : ∃ z : Ob, z = uA SP 10 (Int32.toNatClampNeg x1) x5_2 := ⟨_, rfl⟩
    have hm := hm S8 e_S8
    have hw : wV D A s.heap (pW cy aP e_P_judge S8) H locs := by rw [e_S8]; exact hw
    refine lv_aload_n hx hb dX3_reckonSet_204 rfl (lv_at hl 5 rfl) ?_
    refine gF (k := 11) hc hw inX3 rfl 0 rfl (by decide) (gm 342 (by decide +kernel) rfl) rfl dX3_reckonSet_205 ?_
    refine lv_iload_n hx hb dX3_reckonSet_208 rfl (lv_at hl 6 rfl) ?_
    refine lv_iload_n hx hb dX3_reckonSet_209 rfl (lv_at hl 4 rfl) ?_
    obtain ⟨c9, hm⟩ := hm
    refine sI hc hw 7 rfl c9 rfl dX3_reckonSet_210 (fun H locs hw => ?_)
    obtain ⟨S10, e_S10⟩ : ∃ z : Ob, z = uA S8 11 (Int32.toNatClampNeg x1) x2_5 := ⟨_, rfl⟩
    have hm := hm S10 e_S10
    have hw : wV D A s.heap (pW cy aP e_P_judge S10) H locs := by rw [e_S10]; exact hw
    refine lv_aload_n hx hb dX3_reckonSet_211 rfl (lv_at hl 5 rfl) ?_
    refine gF (k := 12) hc hw inX3 rfl 0 rfl (by decide) (gm 344 (by decide +kernel) rfl) rfl dX3_reckonSet_212 ?_
    refine lv_iload_n hx hb dX3_reckonSet_215 rfl (lv_at hl 6 rfl) ?_
    refine lv_iload_n hx hb dX3_reckonSet_216 rfl (lv_at hl 3 rfl) ?_
    obtain ⟨c11, hm⟩ := hm
    refine sI hc hw 8 rfl c11 rfl dX3_reckonSet_217 (fun H locs hw => ?_)
    obtain ⟨S12, e_S12⟩ : ∃ z : Ob, z = uA S10 12 (Int32.toNatClampNeg x1) x3_4 := ⟨_, rfl⟩
    have hm := hm S12 e_S12
    have hw : wV D A s.heap (pW cy aP e_P_judge S12) H locs := by rw [e_S12]; exact hw
    refine lv_aload_n hx hb dX3_reckonSet_218 rfl (lv_at hl 5 rfl) ?_
    refine gF (k := 13) hc hw inX3 rfl 0 rfl (by decide) (gm 345 (by decide +kernel) rfl) rfl dX3_reckonSet_219 ?_
    refine lv_iload_n hx hb dX3_reckonSet_222 rfl (lv_at hl 6 rfl) ?_
    refine lv_aload_n hx hb dX3_reckonSet_223 rfl (lv_at hl 5 rfl) ?_
    refine gF (k := 7) hc hw inX3 rfl 0 rfl (by decide) (gm 336 (by decide +kernel) rfl) rfl dX3_reckonSet_224 ?_
    obtain ⟨J14, eJ14, hm⟩ := jn_e hm
    have hJ14 : ∀ (t13 : Int32) (_ : J14 t13) (H : Heap) (locs : List Loc) (ls : Array Slot), wV D A s.heap (pW cy aP e_P_judge S12) H locs → lv_has ls 11 [] → W p l e (rmN 3) s m args below meth c H locs 0 0 (MQ below (eV D cy A (fun u : Ob => (pW cy aP e_P_judge u)) Q) args s (rmN 3).cells (rmN 3).slots A) (F0 m 236 ls [.int t13, .int x1, .ref (aP 9)]) := by
      intro t13 hm H locs ls hw hl
      rw [eJ14] at hm
      obtain ⟨c15, hm⟩ := hm
      refine sI hc hw 9 rfl c15 rfl dX3_reckonSet_236 (fun H locs hw => ?_)
      obtain ⟨S16, e_S16⟩ : ∃ z : Ob, z = uA S12 13 (Int32.toNatClampNeg x1) t13 := ⟨_, rfl⟩
      have hm := hm S16 e_S16
      have hw : wV D A s.heap (pW cy aP e_P_judge S16) H locs := by rw [e_S16]; exact hw
      exact retV (u := S16) hc hw hm dX3_reckonSet_237
    refine lv_if_eq (tgt := 234) hx hb dX3_reckonSet_227 (by decide) (fun c17 => ?_) (fun c17 => ?_)
    · have hm := hm.1 c17
      refine lv_iload hx hb dX3_reckonSet_234 (lv_at hl 2 rfl) ?_
      exact hJ14 _ hm _ _ _ hw (lv_sub hl [] rfl)
    · have hm := hm.2 c17
      refine lv_iload_n hx hb dX3_reckonSet_230 rfl (lv_at hl 4 rfl) ?_
      refine lv_goto (tgt := 236) hx hb dX3_reckonSet_231 (by decide) ?_
      exact hJ14 _ hm _ _ _ hw (lv_sub hl [] rfl)
  · have hm := hm.2 c75
    refine lv_iload_n hx hb dX3_reckonSet_24 rfl (lv_at hl 6 rfl) ?_
    refine lv_iload hx hb dX3_reckonSet_25 (lv_at hl 0 rfl) ?_
    refine lv_ishr hx hb dX3_reckonSet_27 ?_
    refine lv_iconst (v := 1) hx hb dX3_reckonSet_28 (by decide) ?_
    refine lv_iand hx hb dX3_reckonSet_29 ?_
    refine lv_if_ne (tgt := 36) hx hb dX3_reckonSet_30 (by decide) (fun c74 => ?_) (fun c74 => ?_)
    · have hm := hm.1 c74
      refine lv_iload hx hb dX3_reckonSet_36 (lv_at hl 1 rfl) ?_
      refine lv_aload_n hx hb dX3_reckonSet_38 rfl (lv_at hl 5 rfl) ?_
      refine gF (k := 3) hc hw inX3 rfl 0 rfl (by decide) (gm 328 (by decide +kernel) rfl) rfl dX3_reckonSet_39 ?_
      refine lv_iload hx hb dX3_reckonSet_42 (lv_at hl 0 rfl) ?_
      obtain ⟨c18, hm⟩ := hm
      refine aI hc hw 3 rfl c18 rfl dX3_reckonSet_44 ?_
      refine lv_iadd hx hb dX3_reckonSet_45 ?_
      refine lv_topi (fun v19 e_v19 => ?_)
      have hm := hm v19 e_v19
      refine lv_istore (lv' := [(5, .int v19), (6, .int x6_1), (4, .int x4_3), (3, .int x3_4), (2, .int x2_5), (0, .ref (aP 0)), (1, .int x1)]) hx hb dX3_reckonSet_46 hl (by decide) rfl (fun ls hl => ?_)
      refine lv_iload_n hx hb dX3_reckonSet_48 rfl (lv_at hl 6 rfl) ?_
      refine lv_iconst (v := 1) hx hb dX3_reckonSet_49 (by decide) ?_
      refine lv_iload hx hb dX3_reckonSet_50 (lv_at hl 1 rfl) ?_
      refine lv_ishl hx hb dX3_reckonSet_52 ?_
      refine lv_iconst (v := (-1)) hx hb dX3_reckonSet_53 (by decide) ?_
      refine lv_ixor hx hb dX3_reckonSet_54 ?_
      refine lv_iand hx hb dX3_reckonSet_55 ?_
      refine lv_topi (fun v20 e_v20 => ?_)
      have hm := hm v20 e_v20
      refine lv_istore (lv' := [(7, .int v20), (5, .int v19), (6, .int x6_1), (4, .int x4_3), (3, .int x3_4), (2, .int x2_5), (0, .ref (aP 0)), (1, .int x1)]) hx hb dX3_reckonSet_56 hl (by decide) rfl (fun ls hl => ?_)
      refine lv_aload_n hx hb dX3_reckonSet_58 rfl (lv_at hl 6 rfl) ?_
      refine gF (k := 7) hc hw inX3 rfl 0 rfl (by decide) (gm 336 (by decide +kernel) rfl) rfl dX3_reckonSet_59 ?_
      refine lv_if_eq (tgt := 84) hx hb dX3_reckonSet_62 (by decide) (fun c72 => ?_) (fun c72 => ?_)
      · have hm := hm.1 c72
        refine lv_aload_n hx hb dX3_reckonSet_84 rfl (lv_at hl 6 rfl) ?_
        refine gF (k := 5) hc hw inX3 rfl 0 rfl (by decide) (gm 332 (by decide +kernel) rfl) rfl dX3_reckonSet_85 ?_
        refine lv_iload hx hb dX3_reckonSet_88 (lv_at hl 2 rfl) ?_
        obtain ⟨c21, hm⟩ := hm
        refine aI hc hw 5 rfl c21 rfl dX3_reckonSet_90 ?_
        refine lv_topi (fun v22 e_v22 => ?_)
        have hm := hm v22 e_v22
        refine lv_istore (lv' := [(8, .int v22), (7, .int v20), (5, .int v19), (6, .int x6_1), (4, .int x4_3), (3, .int x3_4), (2, .int x2_5), (0, .ref (aP 0)), (1, .int x1)]) hx hb dX3_reckonSet_91 hl (by decide) rfl (fun ls hl => ?_)
        refine lv_iconst (v := 0) hx hb dX3_reckonSet_93 (by decide) ?_
        refine lv_istore (lv' := [(9, .int 0), (8, .int v22), (7, .int v20), (5, .int v19), (6, .int x6_1), (4, .int x4_3), (3, .int x3_4), (2, .int x2_5), (0, .ref (aP 0)), (1, .int x1)]) hx hb dX3_reckonSet_94 hl (by decide) rfl (fun ls hl => ?_)
        refine wl4_ind (G := fun (x9_23 : Int32) (x4_24 : Int32) (x3_25 : Int32) (x2_26 : Int32) => ∀ (H : Heap) (locs : List Loc) (ls : Array Slot), wV D A s.heap (pW cy aP e_P_judge SP) H locs → lv_has ls 11 [(9, .int x9_23), (8, .int v22), (7, .int v20), (5, .int v19), (6, .int x6_1), (4, .int x4_24), (3, .int x3_25), (2, .int x2_26), (0, .ref (aP 0)), (1, .int x1)] → W p l e (rmN 3) s m args below meth c H locs 0 0 (MQ below (eV D cy A (fun u : Ob => (pW cy aP e_P_judge u)) Q) args s (rmN 3).cells (rmN 3).slots A) (F0 m 96 ls [])) ?_ _ _ _ _ hm H locs ls hw (lv_sub hl [0, 1, 2, 3, 4, 5, 6, 7, 8, 9] rfl)
        intro L27 ih27 x9_23 x4_24 x3_25 x2_26 hm H locs ls hw hl
        refine lv_iload hx hb dX3_reckonSet_96 (lv_at hl 0 rfl) ?_
        refine lv_iconst (v := 4) hx hb dX3_reckonSet_98 (by decide) ?_
        refine lv_icmp_ge (tgt := 190) hx hb dX3_reckonSet_99 (by decide) (fun c45 => ?_) (fun c45 => ?_)
        · have hm := hm.1 c45
          obtain ⟨v28, e_v28⟩ : ∃ z : Int32, z = x6_1 + 1 := ⟨_, rfl⟩
          have hm := hm v28 e_v28
          refine lv_iinc (v := v28) (lv' := [(6, .int v28), (9, .int x9_23), (8, .int v22), (7, .int v20), (5, .int v19), (4, .int x4_24), (3, .int x3_25), (2, .int x2_26), (0, .ref (aP 0)), (1, .int x1)]) hx hb dX3_reckonSet_190 hl (k := 4) rfl (by rw [e_v28]; rfl) (by decide) rfl (fun ls hl => ?_)
          refine lv_goto (tgt := 15) hx hb dX3_reckonSet_193 (by decide) ?_
          exact ih6 _ _ _ _ _ hm _ _ _ hw (lv_sub hl [0, 4, 5, 6, 7, 8, 9] rfl)
        · have hm := hm.2 c45
          refine lv_iload hx hb dX3_reckonSet_102 (lv_at hl 1 rfl) ?_
          refine lv_iload hx hb dX3_reckonSet_104 (lv_at hl 0 rfl) ?_
          refine lv_ishr hx hb dX3_reckonSet_106 ?_
          refine lv_if_eq (tgt := 190) hx hb dX3_reckonSet_107 (by decide) (fun c44 => ?_) (fun c44 => ?_)
          · have hm := hm.1 c44
            obtain ⟨v29, e_v29⟩ : ∃ z : Int32, z = x6_1 + 1 := ⟨_, rfl⟩
            have hm := hm v29 e_v29
            refine lv_iinc (v := v29) (lv' := [(6, .int v29), (9, .int x9_23), (8, .int v22), (7, .int v20), (5, .int v19), (4, .int x4_24), (3, .int x3_25), (2, .int x2_26), (0, .ref (aP 0)), (1, .int x1)]) hx hb dX3_reckonSet_190 hl (k := 4) rfl (by rw [e_v29]; rfl) (by decide) rfl (fun ls hl => ?_)
            refine lv_goto (tgt := 15) hx hb dX3_reckonSet_193 (by decide) ?_
            exact ih6 _ _ _ _ _ hm _ _ _ hw (lv_sub hl [0, 4, 5, 6, 7, 8, 9] rfl)
          · have hm := hm.2 c44
            refine lv_iload hx hb dX3_reckonSet_110 (lv_at hl 1 rfl) ?_
            refine lv_iload hx hb dX3_reckonSet_112 (lv_at hl 0 rfl) ?_
            refine lv_ishr hx hb dX3_reckonSet_114 ?_
            refine lv_iconst (v := 1) hx hb dX3_reckonSet_115 (by decide) ?_
            refine lv_iand hx hb dX3_reckonSet_116 ?_
            refine lv_if_ne (tgt := 123) hx hb dX3_reckonSet_117 (by decide) (fun c43 => ?_) (fun c43 => ?_)
            · have hm := hm.1 c43
              refine lv_aload_n hx hb dX3_reckonSet_123 rfl (lv_at hl 8 rfl) ?_
              refine lv_iload hx hb dX3_reckonSet_124 (lv_at hl 4 rfl) ?_
              refine lv_aload_n hx hb dX3_reckonSet_126 rfl (lv_at hl 8 rfl) ?_
              refine lv_iload hx hb dX3_reckonSet_127 (lv_at hl 2 rfl) ?_
              refine lv_iload hx hb dX3_reckonSet_129 (lv_at hl 0 rfl) ?_
              refine aV_I (As := [.int v20, .int x9_23]) (rest := [.int x6_1, .ref (aP 0)]) hc hw (c_X3_yearNeeded hm) lk_X3_111 rfl rfl ⟨Nat.le_of_ble_eq_true rfl, Nat.le_of_ble_eq_true rfl⟩ ⟨Nat.le_of_ble_eq_true rfl, Nat.le_of_ble_eq_true rfl⟩ hl.1 rfl (Nat.le_of_ble_eq_true rfl) rfl dX3_reckonSet_131 (fun r30 _ H locs hm hw => ?_)
              have hw : wV D A s.heap (pW cy aP e_P_judge SP) H locs := hw
              refine aV_I (As := [.int x6_1, .int r30]) (rest := []) hc hw (c_X3_yearAhead hm) lk_X3_115 rfl rfl ⟨Nat.le_of_ble_eq_true rfl, Nat.le_of_ble_eq_true rfl⟩ ⟨Nat.le_of_ble_eq_true rfl, Nat.le_of_ble_eq_true rfl⟩ hl.1 rfl (Nat.le_of_ble_eq_true rfl) rfl dX3_reckonSet_134 (fun r32 _ H locs hm hw => ?_)
              have hw : wV D A s.heap (pW cy aP e_P_judge SP) H locs := hw
              refine lv_istore (lv' := [(10, .int r32), (9, .int x9_23), (8, .int v22), (7, .int v20), (5, .int v19), (6, .int x6_1), (4, .int x4_24), (3, .int x3_25), (2, .int x2_26), (0, .ref (aP 0)), (1, .int x1)]) hx hb dX3_reckonSet_137 hl (by decide) rfl (fun ls hl => ?_)
              refine lv_iload hx hb dX3_reckonSet_139 (lv_at hl 1 rfl) ?_
              refine lv_iload_n hx hb dX3_reckonSet_141 rfl (lv_at hl 7 rfl) ?_
              refine lv_icmp_ne (tgt := 155) hx hb dX3_reckonSet_142 (by decide) (fun c41 => ?_) (fun c41 => ?_)
              · have hm := hm.1 c41
                refine lv_iload hx hb dX3_reckonSet_155 (lv_at hl 0 rfl) ?_
                refine lv_iload_n hx hb dX3_reckonSet_157 rfl (lv_at hl 8 rfl) ?_
                refine lv_icmp_ge (tgt := 173) hx hb dX3_reckonSet_158 (by decide) (fun c38 => ?_) (fun c38 => ?_)
                · have hm := hm.1 c38
                  refine lv_iload hx hb dX3_reckonSet_173 (lv_at hl 0 rfl) ?_
                  refine lv_iload hx hb dX3_reckonSet_175 (lv_at hl 6 rfl) ?_
                  refine lv_icmp_ge (tgt := 184) hx hb dX3_reckonSet_177 (by decide) (fun c36 => ?_) (fun c36 => ?_)
                  · have hm := hm.1 c36
                    obtain ⟨v34, e_v34⟩ : ∃ z : Int32, z = x9_23 + 1 := ⟨_, rfl⟩
                    have hm := hm v34 e_v34
                    refine lv_iinc (v := v34) (lv' := [(9, .int v34), (10, .int r32), (8, .int v22), (7, .int v20), (5, .int v19), (6, .int x6_1), (4, .int x4_24), (3, .int x3_25), (2, .int x2_26), (0, .ref (aP 0)), (1, .int x1)]) hx hb dX3_reckonSet_184 hl (k := 1) rfl (by rw [e_v34]; rfl) (by decide) rfl (fun ls hl => ?_)
                    refine lv_goto (tgt := 96) hx hb dX3_reckonSet_187 (by decide) ?_
                    exact ih27 _ _ _ _ hm _ _ _ hw (lv_sub hl [0, 2, 3, 4, 5, 6, 7, 8, 9, 10] rfl)
                  · have hm := hm.2 c36
                    refine lv_iload hx hb dX3_reckonSet_180 (lv_at hl 0 rfl) ?_
                    refine lv_istore (lv' := [(4, .int r32), (10, .int r32), (9, .int x9_23), (8, .int v22), (7, .int v20), (5, .int v19), (6, .int x6_1), (3, .int x3_25), (2, .int x2_26), (0, .ref (aP 0)), (1, .int x1)]) hx hb dX3_reckonSet_182 hl (by decide) rfl (fun ls hl => ?_)
                    obtain ⟨v35, e_v35⟩ : ∃ z : Int32, z = x9_23 + 1 := ⟨_, rfl⟩
                    have hm := hm v35 e_v35
                    refine lv_iinc (v := v35) (lv' := [(9, .int v35), (4, .int r32), (10, .int r32), (8, .int v22), (7, .int v20), (5, .int v19), (6, .int x6_1), (3, .int x3_25), (2, .int x2_26), (0, .ref (aP 0)), (1, .int x1)]) hx hb dX3_reckonSet_184 hl (k := 2) rfl (by rw [e_v35]; rfl) (by decide) rfl (fun ls hl => ?_)
                    refine lv_goto (tgt := 96) hx hb dX3_reckonSet_187 (by decide) ?_
                    exact ih27 _ _ _ _ hm _ _ _ hw (lv_sub hl [0, 3, 4, 5, 6, 1, 7, 8, 9, 10] rfl)
                · have hm := hm.2 c38
                  refine lv_iload_n hx hb dX3_reckonSet_161 rfl (lv_at hl 8 rfl) ?_
                  refine lv_istore (lv' := [(4, .int x2_26), (10, .int r32), (9, .int x9_23), (8, .int v22), (7, .int v20), (5, .int v19), (6, .int x6_1), (3, .int x3_25), (2, .int x2_26), (0, .ref (aP 0)), (1, .int x1)]) hx hb dX3_reckonSet_162 hl (by decide) rfl (fun ls hl => ?_)
                  refine lv_iload hx hb dX3_reckonSet_164 (lv_at hl 1 rfl) ?_
                  refine lv_istore_n (lv' := [(2, .int r32), (4, .int x2_26), (10, .int r32), (9, .int x9_23), (8, .int v22), (7, .int v20), (5, .int v19), (6, .int x6_1), (3, .int x3_25), (0, .ref (aP 0)), (1, .int x1)]) hx hb dX3_reckonSet_166 rfl hl (by decide) rfl (fun ls hl => ?_)
                  refine lv_iload hx hb dX3_reckonSet_167 (lv_at hl 3 rfl) ?_
                  refine lv_istore_n (lv' := [(3, .int x9_23), (2, .int r32), (4, .int x2_26), (10, .int r32), (9, .int x9_23), (8, .int v22), (7, .int v20), (5, .int v19), (6, .int x6_1), (0, .ref (aP 0)), (1, .int x1)]) hx hb dX3_reckonSet_169 rfl hl (by decide) rfl (fun ls hl => ?_)
                  refine lv_goto (tgt := 184) hx hb dX3_reckonSet_170 (by decide) ?_
                  obtain ⟨v37, e_v37⟩ : ∃ z : Int32, z = x9_23 + 1 := ⟨_, rfl⟩
                  have hm := hm v37 e_v37
                  refine lv_iinc (v := v37) (lv' := [(9, .int v37), (3, .int x9_23), (2, .int r32), (4, .int x2_26), (10, .int r32), (8, .int v22), (7, .int v20), (5, .int v19), (6, .int x6_1), (0, .ref (aP 0)), (1, .int x1)]) hx hb dX3_reckonSet_184 hl (k := 4) rfl (by rw [e_v37]; rfl) (by decide) rfl (fun ls hl => ?_)
                  refine lv_goto (tgt := 96) hx hb dX3_reckonSet_187 (by decide) ?_
                  exact ih27 _ _ _ _ hm _ _ _ hw (lv_sub hl [0, 5, 6, 7, 8, 3, 1, 2, 9, 10] rfl)
              · have hm := hm.2 c41
                refine lv_iload_n hx hb dX3_reckonSet_145 rfl (lv_at hl 8 rfl) ?_
                refine lv_iload hx hb dX3_reckonSet_146 (lv_at hl 0 rfl) ?_
                refine m_min (rest := []) hc hl.1 (gm 781 (by decide +kernel) rfl) (Nat.le_of_ble_eq_true rfl) (Nat.le_of_ble_eq_true rfl) (Nat.le_of_ble_eq_true rfl) (Nat.le_of_ble_eq_true rfl) dX3_reckonSet_148 ?_
                refine lv_topi (fun v39 e_v39 => ?_)
                have hm := hm v39 e_v39
                refine lv_istore_n (lv' := [(2, .int v39), (10, .int r32), (9, .int x9_23), (8, .int v22), (7, .int v20), (5, .int v19), (6, .int x6_1), (4, .int x4_24), (3, .int x3_25), (0, .ref (aP 0)), (1, .int x1)]) hx hb dX3_reckonSet_151 rfl hl (by decide) rfl (fun ls hl => ?_)
                refine lv_goto (tgt := 184) hx hb dX3_reckonSet_152 (by decide) ?_
                obtain ⟨v40, e_v40⟩ : ∃ z : Int32, z = x9_23 + 1 := ⟨_, rfl⟩
                have hm := hm v40 e_v40
                refine lv_iinc (v := v40) (lv' := [(9, .int v40), (2, .int v39), (10, .int r32), (8, .int v22), (7, .int v20), (5, .int v19), (6, .int x6_1), (4, .int x4_24), (3, .int x3_25), (0, .ref (aP 0)), (1, .int x1)]) hx hb dX3_reckonSet_184 hl (k := 2) rfl (by rw [e_v40]; rfl) (by decide) rfl (fun ls hl => ?_)
                refine lv_goto (tgt := 96) hx hb dX3_reckonSet_187 (by decide) ?_
                exact ih27 _ _ _ _ hm _ _ _ hw (lv_sub hl [0, 3, 4, 5, 6, 7, 8, 1, 9, 10] rfl)
            · have hm := hm.2 c43
              refine lv_goto (tgt := 184) hx hb dX3_reckonSet_120 (by decide) ?_
              obtain ⟨v42, e_v42⟩ : ∃ z : Int32, z = x9_23 + 1 := ⟨_, rfl⟩
              have hm := hm v42 e_v42
              refine lv_iinc (v := v42) (lv' := [(9, .int v42), (8, .int v22), (7, .int v20), (5, .int v19), (6, .int x6_1), (4, .int x4_24), (3, .int x3_25), (2, .int x2_26), (0, .ref (aP 0)), (1, .int x1)]) hx hb dX3_reckonSet_184 hl (k := 0) rfl (by rw [e_v42]; rfl) (by decide) rfl (fun ls hl => ?_)
              refine lv_goto (tgt := 96) hx hb dX3_reckonSet_187 (by decide) ?_
              exact ih27 _ _ _ _ hm _ _ _ hw (lv_sub hl [0, 1, 2, 3, 4, 5, 6, 7, 8, 9] rfl)
      · have hm := hm.2 c72
        refine lv_aload_n hx hb dX3_reckonSet_65 rfl (lv_at hl 6 rfl) ?_
        refine gF (k := 5) hc hw inX3 rfl 0 rfl (by decide) (gm 332 (by decide +kernel) rfl) rfl dX3_reckonSet_66 ?_
        refine lv_iload hx hb dX3_reckonSet_69 (lv_at hl 2 rfl) ?_
        obtain ⟨c46, hm⟩ := hm
        refine aI hc hw 5 rfl c46 rfl dX3_reckonSet_71 ?_
        refine lv_aload_n hx hb dX3_reckonSet_72 rfl (lv_at hl 6 rfl) ?_
        refine gF (k := 5) hc hw inX3 rfl 0 rfl (by decide) (gm 332 (by decide +kernel) rfl) rfl dX3_reckonSet_73 ?_
        refine lv_iload hx hb dX3_reckonSet_76 (lv_at hl 2 rfl) ?_
        obtain ⟨c47, hm⟩ := hm
        refine aI hc hw 5 rfl c47 rfl dX3_reckonSet_78 ?_
        refine lv_ineg hx hb dX3_reckonSet_79 ?_
        refine lv_iand hx hb dX3_reckonSet_80 ?_
        refine lv_goto (tgt := 91) hx hb dX3_reckonSet_81 (by decide) ?_
        refine lv_topi (fun v48 e_v48 => ?_)
        have hm := hm v48 e_v48
        refine lv_istore (lv' := [(8, .int v48), (7, .int v20), (5, .int v19), (6, .int x6_1), (4, .int x4_3), (3, .int x3_4), (2, .int x2_5), (0, .ref (aP 0)), (1, .int x1)]) hx hb dX3_reckonSet_91 hl (by decide) rfl (fun ls hl => ?_)
        refine lv_iconst (v := 0) hx hb dX3_reckonSet_93 (by decide) ?_
        refine lv_istore (lv' := [(9, .int 0), (8, .int v48), (7, .int v20), (5, .int v19), (6, .int x6_1), (4, .int x4_3), (3, .int x3_4), (2, .int x2_5), (0, .ref (aP 0)), (1, .int x1)]) hx hb dX3_reckonSet_94 hl (by decide) rfl (fun ls hl => ?_)
        refine wl4_ind (G := fun (x9_49 : Int32) (x4_50 : Int32) (x3_51 : Int32) (x2_52 : Int32) => ∀ (H : Heap) (locs : List Loc) (ls : Array Slot), wV D A s.heap (pW cy aP e_P_judge SP) H locs → lv_has ls 11 [(9, .int x9_49), (8, .int v48), (7, .int v20), (5, .int v19), (6, .int x6_1), (4, .int x4_50), (3, .int x3_51), (2, .int x2_52), (0, .ref (aP 0)), (1, .int x1)] → W p l e (rmN 3) s m args below meth c H locs 0 0 (MQ below (eV D cy A (fun u : Ob => (pW cy aP e_P_judge u)) Q) args s (rmN 3).cells (rmN 3).slots A) (F0 m 96 ls [])) ?_ _ _ _ _ hm H locs ls hw (lv_sub hl [0, 1, 2, 3, 4, 5, 6, 7, 8, 9] rfl)
        intro L53 ih53 x9_49 x4_50 x3_51 x2_52 hm H locs ls hw hl
        refine lv_iload hx hb dX3_reckonSet_96 (lv_at hl 0 rfl) ?_
        refine lv_iconst (v := 4) hx hb dX3_reckonSet_98 (by decide) ?_
        refine lv_icmp_ge (tgt := 190) hx hb dX3_reckonSet_99 (by decide) (fun c71 => ?_) (fun c71 => ?_)
        · have hm := hm.1 c71
          obtain ⟨v54, e_v54⟩ : ∃ z : Int32, z = x6_1 + 1 := ⟨_, rfl⟩
          have hm := hm v54 e_v54
          refine lv_iinc (v := v54) (lv' := [(6, .int v54), (9, .int x9_49), (8, .int v48), (7, .int v20), (5, .int v19), (4, .int x4_50), (3, .int x3_51), (2, .int x2_52), (0, .ref (aP 0)), (1, .int x1)]) hx hb dX3_reckonSet_190 hl (k := 4) rfl (by rw [e_v54]; rfl) (by decide) rfl (fun ls hl => ?_)
          refine lv_goto (tgt := 15) hx hb dX3_reckonSet_193 (by decide) ?_
          exact ih6 _ _ _ _ _ hm _ _ _ hw (lv_sub hl [0, 4, 5, 6, 7, 8, 9] rfl)
        · have hm := hm.2 c71
          refine lv_iload hx hb dX3_reckonSet_102 (lv_at hl 1 rfl) ?_
          refine lv_iload hx hb dX3_reckonSet_104 (lv_at hl 0 rfl) ?_
          refine lv_ishr hx hb dX3_reckonSet_106 ?_
          refine lv_if_eq (tgt := 190) hx hb dX3_reckonSet_107 (by decide) (fun c70 => ?_) (fun c70 => ?_)
          · have hm := hm.1 c70
            obtain ⟨v55, e_v55⟩ : ∃ z : Int32, z = x6_1 + 1 := ⟨_, rfl⟩
            have hm := hm v55 e_v55
            refine lv_iinc (v := v55) (lv' := [(6, .int v55), (9, .int x9_49), (8, .int v48), (7, .int v20), (5, .int v19), (4, .int x4_50), (3, .int x3_51), (2, .int x2_52), (0, .ref (aP 0)), (1, .int x1)]) hx hb dX3_reckonSet_190 hl (k := 4) rfl (by rw [e_v55]; rfl) (by decide) rfl (fun ls hl => ?_)
            refine lv_goto (tgt := 15) hx hb dX3_reckonSet_193 (by decide) ?_
            exact ih6 _ _ _ _ _ hm _ _ _ hw (lv_sub hl [0, 4, 5, 6, 7, 8, 9] rfl)
          · have hm := hm.2 c70
            refine lv_iload hx hb dX3_reckonSet_110 (lv_at hl 1 rfl) ?_
            refine lv_iload hx hb dX3_reckonSet_112 (lv_at hl 0 rfl) ?_
            refine lv_ishr hx hb dX3_reckonSet_114 ?_
            refine lv_iconst (v := 1) hx hb dX3_reckonSet_115 (by decide) ?_
            refine lv_iand hx hb dX3_reckonSet_116 ?_
            refine lv_if_ne (tgt := 123) hx hb dX3_reckonSet_117 (by decide) (fun c69 => ?_) (fun c69 => ?_)
            · have hm := hm.1 c69
              refine lv_aload_n hx hb dX3_reckonSet_123 rfl (lv_at hl 8 rfl) ?_
              refine lv_iload hx hb dX3_reckonSet_124 (lv_at hl 4 rfl) ?_
              refine lv_aload_n hx hb dX3_reckonSet_126 rfl (lv_at hl 8 rfl) ?_
              refine lv_iload hx hb dX3_reckonSet_127 (lv_at hl 2 rfl) ?_
              refine lv_iload hx hb dX3_reckonSet_129 (lv_at hl 0 rfl) ?_
              refine aV_I (As := [.int v20, .int x9_49]) (rest := [.int x6_1, .ref (aP 0)]) hc hw (c_X3_yearNeeded hm) lk_X3_111 rfl rfl ⟨Nat.le_of_ble_eq_true rfl, Nat.le_of_ble_eq_true rfl⟩ ⟨Nat.le_of_ble_eq_true rfl, Nat.le_of_ble_eq_true rfl⟩ hl.1 rfl (Nat.le_of_ble_eq_true rfl) rfl dX3_reckonSet_131 (fun r56 _ H locs hm hw => ?_)
              have hw : wV D A s.heap (pW cy aP e_P_judge SP) H locs := hw
              refine aV_I (As := [.int x6_1, .int r56]) (rest := []) hc hw (c_X3_yearAhead hm) lk_X3_115 rfl rfl ⟨Nat.le_of_ble_eq_true rfl, Nat.le_of_ble_eq_true rfl⟩ ⟨Nat.le_of_ble_eq_true rfl, Nat.le_of_ble_eq_true rfl⟩ hl.1 rfl (Nat.le_of_ble_eq_true rfl) rfl dX3_reckonSet_134 (fun r58 _ H locs hm hw => ?_)
              have hw : wV D A s.heap (pW cy aP e_P_judge SP) H locs := hw
              refine lv_istore (lv' := [(10, .int r58), (9, .int x9_49), (8, .int v48), (7, .int v20), (5, .int v19), (6, .int x6_1), (4, .int x4_50), (3, .int x3_51), (2, .int x2_52), (0, .ref (aP 0)), (1, .int x1)]) hx hb dX3_reckonSet_137 hl (by decide) rfl (fun ls hl => ?_)
              refine lv_iload hx hb dX3_reckonSet_139 (lv_at hl 1 rfl) ?_
              refine lv_iload_n hx hb dX3_reckonSet_141 rfl (lv_at hl 7 rfl) ?_
              refine lv_icmp_ne (tgt := 155) hx hb dX3_reckonSet_142 (by decide) (fun c67 => ?_) (fun c67 => ?_)
              · have hm := hm.1 c67
                refine lv_iload hx hb dX3_reckonSet_155 (lv_at hl 0 rfl) ?_
                refine lv_iload_n hx hb dX3_reckonSet_157 rfl (lv_at hl 8 rfl) ?_
                refine lv_icmp_ge (tgt := 173) hx hb dX3_reckonSet_158 (by decide) (fun c64 => ?_) (fun c64 => ?_)
                · have hm := hm.1 c64
                  refine lv_iload hx hb dX3_reckonSet_173 (lv_at hl 0 rfl) ?_
                  refine lv_iload hx hb dX3_reckonSet_175 (lv_at hl 6 rfl) ?_
                  refine lv_icmp_ge (tgt := 184) hx hb dX3_reckonSet_177 (by decide) (fun c62 => ?_) (fun c62 => ?_)
                  · have hm := hm.1 c62
                    obtain ⟨v60, e_v60⟩ : ∃ z : Int32, z = x9_49 + 1 := ⟨_, rfl⟩
                    have hm := hm v60 e_v60
                    refine lv_iinc (v := v60) (lv' := [(9, .int v60), (10, .int r58), (8, .int v48), (7, .int v20), (5, .int v19), (6, .int x6_1), (4, .int x4_50), (3, .int x3_51), (2, .int x2_52), (0, .ref (aP 0)), (1, .int x1)]) hx hb dX3_reckonSet_184 hl (k := 1) rfl (by rw [e_v60]; rfl) (by decide) rfl (fun ls hl => ?_)
                    refine lv_goto (tgt := 96) hx hb dX3_reckonSet_187 (by decide) ?_
                    exact ih53 _ _ _ _ hm _ _ _ hw (lv_sub hl [0, 2, 3, 4, 5, 6, 7, 8, 9, 10] rfl)
                  · have hm := hm.2 c62
                    refine lv_iload hx hb dX3_reckonSet_180 (lv_at hl 0 rfl) ?_
                    refine lv_istore (lv' := [(4, .int r58), (10, .int r58), (9, .int x9_49), (8, .int v48), (7, .int v20), (5, .int v19), (6, .int x6_1), (3, .int x3_51), (2, .int x2_52), (0, .ref (aP 0)), (1, .int x1)]) hx hb dX3_reckonSet_182 hl (by decide) rfl (fun ls hl => ?_)
                    obtain ⟨v61, e_v61⟩ : ∃ z : Int32, z = x9_49 + 1 := ⟨_, rfl⟩
                    have hm := hm v61 e_v61
                    refine lv_iinc (v := v61) (lv' := [(9, .int v61), (4, .int r58), (10, .int r58), (8, .int v48), (7, .int v20), (5, .int v19), (6, .int x6_1), (3, .int x3_51), (2, .int x2_52), (0, .ref (aP 0)), (1, .int x1)]) hx hb dX3_reckonSet_184 hl (k := 2) rfl (by rw [e_v61]; rfl) (by decide) rfl (fun ls hl => ?_)
                    refine lv_goto (tgt := 96) hx hb dX3_reckonSet_187 (by decide) ?_
                    exact ih53 _ _ _ _ hm _ _ _ hw (lv_sub hl [0, 3, 4, 5, 6, 1, 7, 8, 9, 10] rfl)
                · have hm := hm.2 c64
                  refine lv_iload_n hx hb dX3_reckonSet_161 rfl (lv_at hl 8 rfl) ?_
                  refine lv_istore (lv' := [(4, .int x2_52), (10, .int r58), (9, .int x9_49), (8, .int v48), (7, .int v20), (5, .int v19), (6, .int x6_1), (3, .int x3_51), (2, .int x2_52), (0, .ref (aP 0)), (1, .int x1)]) hx hb dX3_reckonSet_162 hl (by decide) rfl (fun ls hl => ?_)
                  refine lv_iload hx hb dX3_reckonSet_164 (lv_at hl 1 rfl) ?_
                  refine lv_istore_n (lv' := [(2, .int r58), (4, .int x2_52), (10, .int r58), (9, .int x9_49), (8, .int v48), (7, .int v20), (5, .int v19), (6, .int x6_1), (3, .int x3_51), (0, .ref (aP 0)), (1, .int x1)]) hx hb dX3_reckonSet_166 rfl hl (by decide) rfl (fun ls hl => ?_)
                  refine lv_iload hx hb dX3_reckonSet_167 (lv_at hl 3 rfl) ?_
                  refine lv_istore_n (lv' := [(3, .int x9_49), (2, .int r58), (4, .int x2_52), (10, .int r58), (9, .int x9_49), (8, .int v48), (7, .int v20), (5, .int v19), (6, .int x6_1), (0, .ref (aP 0)), (1, .int x1)]) hx hb dX3_reckonSet_169 rfl hl (by decide) rfl (fun ls hl => ?_)
                  refine lv_goto (tgt := 184) hx hb dX3_reckonSet_170 (by decide) ?_
                  obtain ⟨v63, e_v63⟩ : ∃ z : Int32, z = x9_49 + 1 := ⟨_, rfl⟩
                  have hm := hm v63 e_v63
                  refine lv_iinc (v := v63) (lv' := [(9, .int v63), (3, .int x9_49), (2, .int r58), (4, .int x2_52), (10, .int r58), (8, .int v48), (7, .int v20), (5, .int v19), (6, .int x6_1), (0, .ref (aP 0)), (1, .int x1)]) hx hb dX3_reckonSet_184 hl (k := 4) rfl (by rw [e_v63]; rfl) (by decide) rfl (fun ls hl => ?_)
                  refine lv_goto (tgt := 96) hx hb dX3_reckonSet_187 (by decide) ?_
                  exact ih53 _ _ _ _ hm _ _ _ hw (lv_sub hl [0, 5, 6, 7, 8, 3, 1, 2, 9, 10] rfl)
              · have hm := hm.2 c67
                refine lv_iload_n hx hb dX3_reckonSet_145 rfl (lv_at hl 8 rfl) ?_
                refine lv_iload hx hb dX3_reckonSet_146 (lv_at hl 0 rfl) ?_
                refine m_min (rest := []) hc hl.1 (gm 781 (by decide +kernel) rfl) (Nat.le_of_ble_eq_true rfl) (Nat.le_of_ble_eq_true rfl) (Nat.le_of_ble_eq_true rfl) (Nat.le_of_ble_eq_true rfl) dX3_reckonSet_148 ?_
                refine lv_topi (fun v65 e_v65 => ?_)
                have hm := hm v65 e_v65
                refine lv_istore_n (lv' := [(2, .int v65), (10, .int r58), (9, .int x9_49), (8, .int v48), (7, .int v20), (5, .int v19), (6, .int x6_1), (4, .int x4_50), (3, .int x3_51), (0, .ref (aP 0)), (1, .int x1)]) hx hb dX3_reckonSet_151 rfl hl (by decide) rfl (fun ls hl => ?_)
                refine lv_goto (tgt := 184) hx hb dX3_reckonSet_152 (by decide) ?_
                obtain ⟨v66, e_v66⟩ : ∃ z : Int32, z = x9_49 + 1 := ⟨_, rfl⟩
                have hm := hm v66 e_v66
                refine lv_iinc (v := v66) (lv' := [(9, .int v66), (2, .int v65), (10, .int r58), (8, .int v48), (7, .int v20), (5, .int v19), (6, .int x6_1), (4, .int x4_50), (3, .int x3_51), (0, .ref (aP 0)), (1, .int x1)]) hx hb dX3_reckonSet_184 hl (k := 2) rfl (by rw [e_v66]; rfl) (by decide) rfl (fun ls hl => ?_)
                refine lv_goto (tgt := 96) hx hb dX3_reckonSet_187 (by decide) ?_
                exact ih53 _ _ _ _ hm _ _ _ hw (lv_sub hl [0, 3, 4, 5, 6, 7, 8, 1, 9, 10] rfl)
            · have hm := hm.2 c69
              refine lv_goto (tgt := 184) hx hb dX3_reckonSet_120 (by decide) ?_
              obtain ⟨v68, e_v68⟩ : ∃ z : Int32, z = x9_49 + 1 := ⟨_, rfl⟩
              have hm := hm v68 e_v68
              refine lv_iinc (v := v68) (lv' := [(9, .int v68), (8, .int v48), (7, .int v20), (5, .int v19), (6, .int x6_1), (4, .int x4_50), (3, .int x3_51), (2, .int x2_52), (0, .ref (aP 0)), (1, .int x1)]) hx hb dX3_reckonSet_184 hl (k := 0) rfl (by rw [e_v68]; rfl) (by decide) rfl (fun ls hl => ?_)
              refine lv_goto (tgt := 96) hx hb dX3_reckonSet_187 (by decide) ?_
              exact ih53 _ _ _ _ hm _ _ _ hw (lv_sub hl [0, 1, 2, 3, 4, 5, 6, 7, 8, 9] rfl)
    · have hm := hm.2 c74
      refine lv_goto (tgt := 190) hx hb dX3_reckonSet_33 (by decide) ?_
      obtain ⟨v73, e_v73⟩ : ∃ z : Int32, z = x6_1 + 1 := ⟨_, rfl⟩
      have hm := hm v73 e_v73
      refine lv_iinc (v := v73) (lv' := [(6, .int v73), (5, .int x5_2), (4, .int x4_3), (3, .int x3_4), (2, .int x2_5), (0, .ref (aP 0)), (1, .int x1)]) hx hb dX3_reckonSet_190 hl (k := 0) rfl (by rw [e_v73]; rfl) (by decide) rfl (fun ls hl => ?_)
      refine lv_goto (tgt := 15) hx hb dX3_reckonSet_193 (by decide) ?_
      exact ih6 _ _ _ _ _ hm _ _ _ hw (lv_sub hl [0, 1, 2, 3, 4, 5, 6] rfl)
set_option maxHeartbeats 4000000 in
set_option maxRecDepth 100000 in
theorem c_X3_reckon {l : Launch} {D : va_G} {cy : Nat → ClassId} {aP : Nat → Nat} {aJ : Nat → Nat} {aB : Nat → Nat} {als : Nat → Nat} {aLw : Nat → Nat} {e_B_told : Nat} {e_B_mentions : Nat} {e_B_claims : Nat} {SP : Ob} {SJ : Ob} {SB : Ob} {Sls : (Nat → Option Nat)} {SLw : Lw} {Q : Ob → Ob → Prop} (hm : w_X3_reckon aLw SP SJ SB Sls SLw Q) : CtV l yX3_reckon cX3_reckon 3 none (rmN 5) D cy [.ref (aP 0), .ref (aB 0)] ((pW cy aP (aJ 0) SP) ++ ((jW cy aJ SJ) ++ ((bW cy aB (als 0) e_B_told e_B_mentions e_B_claims SB) ++ ((lsW cy als Sls) ++ (lwW cy aLw SLw))))) (fun u : Ob × Ob => ((pW cy aP (aJ 0) u.1) ++ ((jW cy aJ u.2) ++ ((bW cy aB (als 0) e_B_told e_B_mentions e_B_claims SB) ++ ((lsW cy als Sls) ++ (lwW cy aLw SLw)))))) (fun (u : Ob × Ob) => Q u.1 u.2) := by
  refine CtV.ofW (by decide) (Nat.le_of_ble_eq_true rfl) ?_
  intro p e s m args below meth c A ls hc hnm hw hl
  have hx := hc.1.1
  have hb := hc.1.2.1
  have hown := hc.1.2.2.2.1
  have hts := hc.1.2.2.2.2
  have hl : lv_has ls 3 [(0, .ref (aP 0)), (1, .ref (aB 0))] := hl
  obtain ⟨H, hH⟩ : ∃ z, z = s.heap := ⟨_, rfl⟩
  obtain ⟨locs, hLc⟩ : ∃ z : List Loc, z = [] := ⟨_, rfl⟩
  have hw : wV D A s.heap ((pW cy aP (aJ 0) SP) ++ ((jW cy aJ SJ) ++ ((bW cy aB (als 0) e_B_told e_B_mentions e_B_claims SB) ++ ((lsW cy als Sls) ++ (lwW cy aLw SLw))))) H locs := by rw [hH, hLc]; exact hw
  have hgo : W p l e (rmN 5) s m args below meth c H locs 0 0 (MQ below (eV D cy A (fun u : Ob × Ob => ((pW cy aP (aJ 0) u.1) ++ ((jW cy aJ u.2) ++ ((bW cy aB (als 0) e_B_told e_B_mentions e_B_claims SB) ++ ((lsW cy als Sls) ++ (lwW cy aLw SLw)))))) (fun (u : Ob × Ob) => Q u.1 u.2)) args s (rmN 5).cells (rmN 5).slots A) (F0 m 0 ls []) := ?hgo
  · rw [hH, hLc] at hgo; exact hgo
  refine lv_aload_n hx hb dX3_reckon_0 rfl (lv_at hl 0 rfl) ?_
  refine gF (k := 9) hc hw inX3 rfl 0 rfl (by decide) (gm 338 (by decide +kernel) rfl) rfl dX3_reckon_1 ?_
  refine lv_if_eq (tgt := 8) hx hb dX3_reckon_4 (by decide) (fun c16 => ?_) (fun c16 => ?_)
  · have hm := hm.1 c16
    refine lv_aload_n hx hb dX3_reckon_8 rfl (lv_at hl 0 rfl) ?_
    refine lv_aload_n hx hb dX3_reckon_9 rfl (lv_at hl 1 rfl) ?_
    refine aV_V (As := [.ref (aB 0)]) (rest := []) hc hw (c_X3_weigh hm) lk_X3_102 rfl rfl ⟨Nat.le_of_ble_eq_true rfl, Nat.le_of_ble_eq_true rfl⟩ ⟨Nat.le_of_ble_eq_true rfl, Nat.le_of_ble_eq_true rfl⟩ hl.1 rfl (Nat.le_of_ble_eq_true rfl) rfl dX3_reckon_10 (fun u_2 H locs hm hw => ?_)
    obtain ⟨S1, S2⟩ := u_2
    have hw : wV D A s.heap ((pW cy aP (aJ 0) S1) ++ ((jW cy aJ S2) ++ ((bW cy aB (als 0) e_B_told e_B_mentions e_B_claims SB) ++ ((lsW cy als Sls) ++ (lwW cy aLw SLw))))) H locs := hw
    refine lv_aload_n hx hb dX3_reckon_13 rfl (lv_at hl 0 rfl) ?_
    refine lv_iconst (v := 1) hx hb dX3_reckon_14 (by decide) ?_
    refine pF (k := 9) (ty := .boolean) hc hw inX3 tyX3_ok nmX3 rfl 0 rfl (by decide) (gm 338 (by decide +kernel) rfl) rfl (by decide +kernel) rfl rfl (Nat.le_of_ble_eq_true rfl) dX3_reckon_15 (fun H locs hw => ?_)
    obtain ⟨S4, e_S4⟩ : ∃ z : Ob, z = uS S1 9 1 := ⟨_, rfl⟩
    have hm := hm S4 e_S4
    have hw : wV D A s.heap ((pW cy aP (aJ 0) S4) ++ ((jW cy aJ S2) ++ ((bW cy aB (als 0) e_B_told e_B_mentions e_B_claims SB) ++ ((lsW cy als Sls) ++ (lwW cy aLw SLw))))) H locs := by rw [e_S4]; exact hw
    refine lv_aload_n hx hb dX3_reckon_18 rfl (lv_at hl 0 rfl) ?_
    refine gF (k := 10) hc hw inX3 rfl 0 rfl (by decide) (gm 339 (by decide +kernel) rfl) rfl dX3_reckon_19 ?_
    refine lv_iconst (v := 0) hx hb dX3_reckon_22 (by decide) ?_
    refine lv_iconst (v := 0) hx hb dX3_reckon_23 (by decide) ?_
    refine sI hc hw 6 rfl (vin (by decide)) (j := 0) (by decide) dX3_reckon_24 (fun H locs hw => ?_)
    obtain ⟨S5, e_S5⟩ : ∃ z : Ob, z = uA S4 10 0 0 := ⟨_, rfl⟩
    have hm := hm S5 e_S5
    have hw : wV D A s.heap ((pW cy aP (aJ 0) S5) ++ ((jW cy aJ S2) ++ ((bW cy aB (als 0) e_B_told e_B_mentions e_B_claims SB) ++ ((lsW cy als Sls) ++ (lwW cy aLw SLw))))) H locs := by rw [e_S5]; exact hw
    refine lv_aload_n hx hb dX3_reckon_25 rfl (lv_at hl 0 rfl) ?_
    refine gF (k := 11) hc hw inX3 rfl 0 rfl (by decide) (gm 342 (by decide +kernel) rfl) rfl dX3_reckon_26 ?_
    refine lv_iconst (v := 0) hx hb dX3_reckon_29 (by decide) ?_
    refine lv_iconst (v := 0) hx hb dX3_reckon_30 (by decide) ?_
    refine sI hc hw 7 rfl (vin (by decide)) (j := 0) (by decide) dX3_reckon_31 (fun H locs hw => ?_)
    obtain ⟨S6, e_S6⟩ : ∃ z : Ob, z = uA S5 11 0 0 := ⟨_, rfl⟩
    have hm := hm S6 e_S6
    have hw : wV D A s.heap ((pW cy aP (aJ 0) S6) ++ ((jW cy aJ S2) ++ ((bW cy aB (als 0) e_B_told e_B_mentions e_B_claims SB) ++ ((lsW cy als Sls) ++ (lwW cy aLw SLw))))) H locs := by rw [e_S6]; exact hw
    refine lv_aload_n hx hb dX3_reckon_32 rfl (lv_at hl 0 rfl) ?_
    refine gF (k := 12) hc hw inX3 rfl 0 rfl (by decide) (gm 344 (by decide +kernel) rfl) rfl dX3_reckon_33 ?_
    refine lv_iconst (v := 0) hx hb dX3_reckon_36 (by decide) ?_
    refine lv_iconst (v := (-1)) hx hb dX3_reckon_37 (by decide) ?_
    refine sI hc hw 8 rfl (vin (by decide)) (j := 0) (by decide) dX3_reckon_38 (fun H locs hw => ?_)
    obtain ⟨S7, e_S7⟩ : ∃ z : Ob, z = uA S6 12 0 (-1) := ⟨_, rfl⟩
    have hm := hm S7 e_S7
    have hw : wV D A s.heap ((pW cy aP (aJ 0) S7) ++ ((jW cy aJ S2) ++ ((bW cy aB (als 0) e_B_told e_B_mentions e_B_claims SB) ++ ((lsW cy als Sls) ++ (lwW cy aLw SLw))))) H locs := by rw [e_S7]; exact hw
    refine lv_aload_n hx hb dX3_reckon_39 rfl (lv_at hl 0 rfl) ?_
    refine gF (k := 13) hc hw inX3 rfl 0 rfl (by decide) (gm 345 (by decide +kernel) rfl) rfl dX3_reckon_40 ?_
    refine lv_iconst (v := 0) hx hb dX3_reckon_43 (by decide) ?_
    refine lv_iconst (v := 0) hx hb dX3_reckon_44 (by decide) ?_
    refine sI hc hw 9 rfl (vin (by decide)) (j := 0) (by decide) dX3_reckon_45 (fun H locs hw => ?_)
    obtain ⟨S8, e_S8⟩ : ∃ z : Ob, z = uA S7 13 0 0 := ⟨_, rfl⟩
    have hm := hm S8 e_S8
    have hw : wV D A s.heap ((pW cy aP (aJ 0) S8) ++ ((jW cy aJ S2) ++ ((bW cy aB (als 0) e_B_told e_B_mentions e_B_claims SB) ++ ((lsW cy als Sls) ++ (lwW cy aLw SLw))))) H locs := by rw [e_S8]; exact hw
    refine lv_iconst (v := 1) hx hb dX3_reckon_46 (by decide) ?_
    refine lv_istore_n (lv' := [(2, .int 1), (0, .ref (aP 0)), (1, .ref (aB 0))]) hx hb dX3_reckon_47 rfl hl (by decide) rfl (fun ls hl => ?_)
    refine wl2_ind (G := fun (x2_9 : Int32) (S10 : Ob) => ∀ (H : Heap) (locs : List Loc) (ls : Array Slot), wV D A s.heap ((pW cy aP (aJ 0) S10) ++ ((jW cy aJ S2) ++ ((bW cy aB (als 0) e_B_told e_B_mentions e_B_claims SB) ++ ((lsW cy als Sls) ++ (lwW cy aLw SLw))))) H locs → lv_has ls 3 [(2, .int x2_9), (0, .ref (aP 0))] → W p l e (rmN 5) s m args below meth c H locs 0 0 (MQ below (eV D cy A (fun u : Ob × Ob => ((pW cy aP (aJ 0) u.1) ++ ((jW cy aJ u.2) ++ ((bW cy aB (als 0) e_B_told e_B_mentions e_B_claims SB) ++ ((lsW cy als Sls) ++ (lwW cy aLw SLw)))))) (fun (u : Ob × Ob) => Q u.1 u.2)) args s (rmN 5).cells (rmN 5).slots A) (F0 m 48 ls [])) ?_ _ _ hm H locs ls hw (lv_sub hl [0, 1] rfl)
    intro L11 ih11 x2_9 S10 hm H locs ls hw hl
    refine lv_iload_n hx hb dX3_reckon_48 rfl (lv_at hl 0 rfl) ?_
    refine lv_iconst (v := 1) hx hb dX3_reckon_49 (by decide) ?_
    refine lv_aload_n hx hb dX3_reckon_50 rfl (lv_at hl 1 rfl) ?_
    refine gF (k := 6) hc hw inX3 rfl 0 rfl (by decide) (gm 334 (by decide +kernel) rfl) rfl dX3_reckon_51 ?_
    refine lv_ishl hx hb dX3_reckon_54 ?_
    refine lv_icmp_ge (tgt := 69) hx hb dX3_reckon_55 (by decide) (fun c15 => ?_) (fun c15 => ?_)
    · have hm := hm.1 c15
      exact retV (u := (S10, S2)) hc hw hm dX3_reckon_69
    · have hm := hm.2 c15
      refine lv_aload_n hx hb dX3_reckon_58 rfl (lv_at hl 1 rfl) ?_
      refine lv_iload_n hx hb dX3_reckon_59 rfl (lv_at hl 0 rfl) ?_
      refine nV_V (As := [.int x2_9]) (rest := []) (wc := (pW cy aP (aJ 0) S10)) (wr := ((jW cy aJ S2) ++ ((bW cy aB (als 0) e_B_told e_B_mentions e_B_claims SB) ++ ((lsW cy als Sls) ++ (lwW cy aLw SLw))))) (isC := [0, 1, 2, 3, 4, 5, 6, 7, 8, 9, 10]) (isR := [11, 12, 13, 14, 15, 16, 17, 18, 19, 20, 21, 22, 23, 24, 25]) hc hw (c_X3_reckonSet hm) lk_X3_106 ⟨rfl, rfl, rfl, rfl, by decide⟩ rfl rfl ⟨Nat.le_of_ble_eq_true rfl, Nat.le_of_ble_eq_true rfl⟩ ⟨Nat.le_of_ble_eq_true rfl, Nat.le_of_ble_eq_true rfl⟩ hl.1 rfl (Nat.le_of_ble_eq_true rfl) rfl dX3_reckon_60 (fun S12 H locs hm hw => ?_)
      have hw : wV D A s.heap ((pW cy aP (aJ 0) S12) ++ ((jW cy aJ S2) ++ ((bW cy aB (als 0) e_B_told e_B_mentions e_B_claims SB) ++ ((lsW cy als Sls) ++ (lwW cy aLw SLw))))) H locs := hw.perm [15, 16, 17, 18, 19, 20, 21, 22, 23, 24, 25, 0, 1, 2, 3, 4, 5, 6, 7, 8, 9, 10, 11, 12, 13, 14] rfl rfl
      obtain ⟨v14, e_v14⟩ : ∃ z : Int32, z = x2_9 + 1 := ⟨_, rfl⟩
      have hm := hm v14 e_v14
      refine lv_iinc (v := v14) (lv' := [(2, .int v14), (0, .ref (aP 0))]) hx hb dX3_reckon_63 hl (k := 0) rfl (by rw [e_v14]; rfl) (by decide) rfl (fun ls hl => ?_)
      refine lv_goto (tgt := 48) hx hb dX3_reckon_66 (by decide) ?_
      exact ih11 _ _ hm _ _ _ hw (lv_sub hl [0, 1] rfl)
  · have hm := hm.2 c16
    exact retV (u := (SP, SJ)) hc hw hm dX3_reckon_7
set_option maxHeartbeats 4000000 in
set_option maxRecDepth 100000 in
theorem c_X3_reckonN {l : Launch} {D : va_G} {cy : Nat → ClassId} {aP : Nat → Nat} {aJ : Nat → Nat} {aB : Nat → Nat} {als : Nat → Nat} {e_B_told : Nat} {e_B_mentions : Nat} {e_B_claims : Nat} {SP : Ob} {SJ : Ob} {SB : Ob} {Sls : (Nat → Option Nat)} {Q : Ob → Ob → Prop} (hm : w_X3_reckonN SP SJ SB Sls Q) : CtV l yX3_reckon cX3_reckon 3 none (rmN 5) D cy [.ref (aP 0), .ref (aB 0)] ((pW cy aP (aJ 0) SP) ++ ((jW cy aJ SJ) ++ ((bW cy aB (als 0) e_B_told e_B_mentions e_B_claims SB) ++ (lsW cy als Sls)))) (fun u : Ob × Ob => ((pW cy aP (aJ 0) u.1) ++ ((jW cy aJ u.2) ++ ((bW cy aB (als 0) e_B_told e_B_mentions e_B_claims SB) ++ (lsW cy als Sls))))) (fun (u : Ob × Ob) => Q u.1 u.2) := by
  refine CtV.ofW (by decide) (Nat.le_of_ble_eq_true rfl) ?_
  intro p e s m args below meth c A ls hc hnm hw hl
  have hx := hc.1.1
  have hb := hc.1.2.1
  have hown := hc.1.2.2.2.1
  have hts := hc.1.2.2.2.2
  have hl : lv_has ls 3 [(0, .ref (aP 0)), (1, .ref (aB 0))] := hl
  obtain ⟨H, hH⟩ : ∃ z, z = s.heap := ⟨_, rfl⟩
  obtain ⟨locs, hLc⟩ : ∃ z : List Loc, z = [] := ⟨_, rfl⟩
  have hw : wV D A s.heap ((pW cy aP (aJ 0) SP) ++ ((jW cy aJ SJ) ++ ((bW cy aB (als 0) e_B_told e_B_mentions e_B_claims SB) ++ (lsW cy als Sls)))) H locs := by rw [hH, hLc]; exact hw
  have hgo : W p l e (rmN 5) s m args below meth c H locs 0 0 (MQ below (eV D cy A (fun u : Ob × Ob => ((pW cy aP (aJ 0) u.1) ++ ((jW cy aJ u.2) ++ ((bW cy aB (als 0) e_B_told e_B_mentions e_B_claims SB) ++ (lsW cy als Sls))))) (fun (u : Ob × Ob) => Q u.1 u.2)) args s (rmN 5).cells (rmN 5).slots A) (F0 m 0 ls []) := ?hgo
  · rw [hH, hLc] at hgo; exact hgo
  refine lv_aload_n hx hb dX3_reckon_0 rfl (lv_at hl 0 rfl) ?_
  refine gF (k := 9) hc hw inX3 rfl 0 rfl (by decide) (gm 338 (by decide +kernel) rfl) rfl dX3_reckon_1 ?_
  refine lv_if_eq (tgt := 8) hx hb dX3_reckon_4 (by decide) (fun c16 => ?_) (fun c16 => ?_)
  · have hm := hm.1 c16
    refine lv_aload_n hx hb dX3_reckon_8 rfl (lv_at hl 0 rfl) ?_
    refine lv_aload_n hx hb dX3_reckon_9 rfl (lv_at hl 1 rfl) ?_
    refine aV_V (As := [.ref (aB 0)]) (rest := []) hc hw (c_X3_weighN hm) lk_X3_102 rfl rfl ⟨Nat.le_of_ble_eq_true rfl, Nat.le_of_ble_eq_true rfl⟩ ⟨Nat.le_of_ble_eq_true rfl, Nat.le_of_ble_eq_true rfl⟩ hl.1 rfl (Nat.le_of_ble_eq_true rfl) rfl dX3_reckon_10 (fun u_2 H locs hm hw => ?_)
    obtain ⟨S1, S2⟩ := u_2
    have hw : wV D A s.heap ((pW cy aP (aJ 0) S1) ++ ((jW cy aJ S2) ++ ((bW cy aB (als 0) e_B_told e_B_mentions e_B_claims SB) ++ (lsW cy als Sls)))) H locs := hw
    refine lv_aload_n hx hb dX3_reckon_13 rfl (lv_at hl 0 rfl) ?_
    refine lv_iconst (v := 1) hx hb dX3_reckon_14 (by decide) ?_
    refine pF (k := 9) (ty := .boolean) hc hw inX3 tyX3_ok nmX3 rfl 0 rfl (by decide) (gm 338 (by decide +kernel) rfl) rfl (by decide +kernel) rfl rfl (Nat.le_of_ble_eq_true rfl) dX3_reckon_15 (fun H locs hw => ?_)
    obtain ⟨S4, e_S4⟩ : ∃ z : Ob, z = uS S1 9 1 := ⟨_, rfl⟩
    have hm := hm S4 e_S4
    have hw : wV D A s.heap ((pW cy aP (aJ 0) S4) ++ ((jW cy aJ S2) ++ ((bW cy aB (als 0) e_B_told e_B_mentions e_B_claims SB) ++ (lsW cy als Sls)))) H locs := by rw [e_S4]; exact hw
    refine lv_aload_n hx hb dX3_reckon_18 rfl (lv_at hl 0 rfl) ?_
    refine gF (k := 10) hc hw inX3 rfl 0 rfl (by decide) (gm 339 (by decide +kernel) rfl) rfl dX3_reckon_19 ?_
    refine lv_iconst (v := 0) hx hb dX3_reckon_22 (by decide) ?_
    refine lv_iconst (v := 0) hx hb dX3_reckon_23 (by decide) ?_
    refine sI hc hw 6 rfl (vin (by decide)) (j := 0) (by decide) dX3_reckon_24 (fun H locs hw => ?_)
    obtain ⟨S5, e_S5⟩ : ∃ z : Ob, z = uA S4 10 0 0 := ⟨_, rfl⟩
    have hm := hm S5 e_S5
    have hw : wV D A s.heap ((pW cy aP (aJ 0) S5) ++ ((jW cy aJ S2) ++ ((bW cy aB (als 0) e_B_told e_B_mentions e_B_claims SB) ++ (lsW cy als Sls)))) H locs := by rw [e_S5]; exact hw
    refine lv_aload_n hx hb dX3_reckon_25 rfl (lv_at hl 0 rfl) ?_
    refine gF (k := 11) hc hw inX3 rfl 0 rfl (by decide) (gm 342 (by decide +kernel) rfl) rfl dX3_reckon_26 ?_
    refine lv_iconst (v := 0) hx hb dX3_reckon_29 (by decide) ?_
    refine lv_iconst (v := 0) hx hb dX3_reckon_30 (by decide) ?_
    refine sI hc hw 7 rfl (vin (by decide)) (j := 0) (by decide) dX3_reckon_31 (fun H locs hw => ?_)
    obtain ⟨S6, e_S6⟩ : ∃ z : Ob, z = uA S5 11 0 0 := ⟨_, rfl⟩
    have hm := hm S6 e_S6
    have hw : wV D A s.heap ((pW cy aP (aJ 0) S6) ++ ((jW cy aJ S2) ++ ((bW cy aB (als 0) e_B_told e_B_mentions e_B_claims SB) ++ (lsW cy als Sls)))) H locs := by rw [e_S6]; exact hw
    refine lv_aload_n hx hb dX3_reckon_32 rfl (lv_at hl 0 rfl) ?_
    refine gF (k := 12) hc hw inX3 rfl 0 rfl (by decide) (gm 344 (by decide +kernel) rfl) rfl dX3_reckon_33 ?_
    refine lv_iconst (v := 0) hx hb dX3_reckon_36 (by decide) ?_
    refine lv_iconst (v := (-1)) hx hb dX3_reckon_37 (by decide) ?_
    refine sI hc hw 8 rfl (vin (by decide)) (j := 0) (by decide) dX3_reckon_38 (fun H locs hw => ?_)
    obtain ⟨S7, e_S7⟩ : ∃ z : Ob, z = uA S6 12 0 (-1) := ⟨_, rfl⟩
    have hm := hm S7 e_S7
    have hw : wV D A s.heap ((pW cy aP (aJ 0) S7) ++ ((jW cy aJ S2) ++ ((bW cy aB (als 0) e_B_told e_B_mentions e_B_claims SB) ++ (lsW cy als Sls)))) H locs := by rw [e_S7]; exact hw
    refine lv_aload_n hx hb dX3_reckon_39 rfl (lv_at hl 0 rfl) ?_
    refine gF (k := 13) hc hw inX3 rfl 0 rfl (by decide) (gm 345 (by decide +kernel) rfl) rfl dX3_reckon_40 ?_
    refine lv_iconst (v := 0) hx hb dX3_reckon_43 (by decide) ?_
    refine lv_iconst (v := 0) hx hb dX3_reckon_44 (by decide) ?_
    refine sI hc hw 9 rfl (vin (by decide)) (j := 0) (by decide) dX3_reckon_45 (fun H locs hw => ?_)
    obtain ⟨S8, e_S8⟩ : ∃ z : Ob, z = uA S7 13 0 0 := ⟨_, rfl⟩
    have hm := hm S8 e_S8
    have hw : wV D A s.heap ((pW cy aP (aJ 0) S8) ++ ((jW cy aJ S2) ++ ((bW cy aB (als 0) e_B_told e_B_mentions e_B_claims SB) ++ (lsW cy als Sls)))) H locs := by rw [e_S8]; exact hw
    refine lv_iconst (v := 1) hx hb dX3_reckon_46 (by decide) ?_
    refine lv_istore_n (lv' := [(2, .int 1), (0, .ref (aP 0)), (1, .ref (aB 0))]) hx hb dX3_reckon_47 rfl hl (by decide) rfl (fun ls hl => ?_)
    refine wl2_ind (G := fun (x2_9 : Int32) (S10 : Ob) => ∀ (H : Heap) (locs : List Loc) (ls : Array Slot), wV D A s.heap ((pW cy aP (aJ 0) S10) ++ ((jW cy aJ S2) ++ ((bW cy aB (als 0) e_B_told e_B_mentions e_B_claims SB) ++ (lsW cy als Sls)))) H locs → lv_has ls 3 [(2, .int x2_9), (0, .ref (aP 0))] → W p l e (rmN 5) s m args below meth c H locs 0 0 (MQ below (eV D cy A (fun u : Ob × Ob => ((pW cy aP (aJ 0) u.1) ++ ((jW cy aJ u.2) ++ ((bW cy aB (als 0) e_B_told e_B_mentions e_B_claims SB) ++ (lsW cy als Sls))))) (fun (u : Ob × Ob) => Q u.1 u.2)) args s (rmN 5).cells (rmN 5).slots A) (F0 m 48 ls [])) ?_ _ _ hm H locs ls hw (lv_sub hl [0, 1] rfl)
    intro L11 ih11 x2_9 S10 hm H locs ls hw hl
    refine lv_iload_n hx hb dX3_reckon_48 rfl (lv_at hl 0 rfl) ?_
    refine lv_iconst (v := 1) hx hb dX3_reckon_49 (by decide) ?_
    refine lv_aload_n hx hb dX3_reckon_50 rfl (lv_at hl 1 rfl) ?_
    refine gF (k := 6) hc hw inX3 rfl 0 rfl (by decide) (gm 334 (by decide +kernel) rfl) rfl dX3_reckon_51 ?_
    refine lv_ishl hx hb dX3_reckon_54 ?_
    refine lv_icmp_ge (tgt := 69) hx hb dX3_reckon_55 (by decide) (fun c15 => ?_) (fun c15 => ?_)
    · have hm := hm.1 c15
      exact retV (u := (S10, S2)) hc hw hm dX3_reckon_69
    · have hm := hm.2 c15
      refine lv_aload_n hx hb dX3_reckon_58 rfl (lv_at hl 1 rfl) ?_
      refine lv_iload_n hx hb dX3_reckon_59 rfl (lv_at hl 0 rfl) ?_
      refine nV_V (As := [.int x2_9]) (rest := []) (wc := (pW cy aP (aJ 0) S10)) (wr := ((jW cy aJ S2) ++ ((bW cy aB (als 0) e_B_told e_B_mentions e_B_claims SB) ++ (lsW cy als Sls)))) (isC := [0, 1, 2, 3, 4, 5, 6, 7, 8, 9, 10]) (isR := [11, 12, 13, 14, 15, 16, 17, 18, 19, 20]) hc hw (c_X3_reckonSet hm) lk_X3_106 ⟨rfl, rfl, rfl, rfl, by decide⟩ rfl rfl ⟨Nat.le_of_ble_eq_true rfl, Nat.le_of_ble_eq_true rfl⟩ ⟨Nat.le_of_ble_eq_true rfl, Nat.le_of_ble_eq_true rfl⟩ hl.1 rfl (Nat.le_of_ble_eq_true rfl) rfl dX3_reckon_60 (fun S12 H locs hm hw => ?_)
      have hw : wV D A s.heap ((pW cy aP (aJ 0) S12) ++ ((jW cy aJ S2) ++ ((bW cy aB (als 0) e_B_told e_B_mentions e_B_claims SB) ++ (lsW cy als Sls)))) H locs := hw.perm [10, 11, 12, 13, 14, 15, 16, 17, 18, 19, 20, 0, 1, 2, 3, 4, 5, 6, 7, 8, 9] rfl rfl
      obtain ⟨v14, e_v14⟩ : ∃ z : Int32, z = x2_9 + 1 := ⟨_, rfl⟩
      have hm := hm v14 e_v14
      refine lv_iinc (v := v14) (lv' := [(2, .int v14), (0, .ref (aP 0))]) hx hb dX3_reckon_63 hl (k := 0) rfl (by rw [e_v14]; rfl) (by decide) rfl (fun ls hl => ?_)
      refine lv_goto (tgt := 48) hx hb dX3_reckon_66 (by decide) ?_
      exact ih11 _ _ hm _ _ _ hw (lv_sub hl [0, 1] rfl)
  · have hm := hm.2 c16
    exact retV (u := (SP, SJ)) hc hw hm dX3_reckon_7
set_option maxHeartbeats 4000000 in
set_option maxRecDepth 100000 in
theorem c_X3_choose {l : Launch} {D : va_G} {cy : Nat → ClassId} {aP : Nat → Nat} {aB : Nat → Nat} {atd : Nat → Nat} {e_P_judge : Nat} {e_B_laws : Nat} {e_B_mentions : Nat} {e_B_claims : Nat} {SP : Ob} {SB : Ob} {Std : Ob} {x2 : Int32} {Q : Ob → Prop} (hm : w_X3_choose SP SB Std x2 Q) : CtV l yX3_choose cX3_choose 9 none (rmN 2) D cy [.ref (aP 0), .ref (aB 0), .int x2] ((pW cy aP e_P_judge SP) ++ ((bW cy aB e_B_laws (atd 0) e_B_mentions e_B_claims SB) ++ (tW cy atd Std))) (fun u : Ob => ((pW cy aP e_P_judge u) ++ ((bW cy aB e_B_laws (atd 0) e_B_mentions e_B_claims SB) ++ (tW cy atd Std)))) Q := by
  refine CtV.ofW (by decide) (Nat.le_of_ble_eq_true rfl) ?_
  intro p e s m args below meth c A ls hc hnm hw hl
  have hx := hc.1.1
  have hb := hc.1.2.1
  have hown := hc.1.2.2.2.1
  have hts := hc.1.2.2.2.2
  have hl : lv_has ls 9 [(0, .ref (aP 0)), (1, .ref (aB 0)), (2, .int x2)] := hl
  obtain ⟨H, hH⟩ : ∃ z, z = s.heap := ⟨_, rfl⟩
  obtain ⟨locs, hLc⟩ : ∃ z : List Loc, z = [] := ⟨_, rfl⟩
  have hw : wV D A s.heap ((pW cy aP e_P_judge SP) ++ ((bW cy aB e_B_laws (atd 0) e_B_mentions e_B_claims SB) ++ (tW cy atd Std))) H locs := by rw [hH, hLc]; exact hw
  have hgo : W p l e (rmN 2) s m args below meth c H locs 0 0 (MQ below (eV D cy A (fun u : Ob => ((pW cy aP e_P_judge u) ++ ((bW cy aB e_B_laws (atd 0) e_B_mentions e_B_claims SB) ++ (tW cy atd Std)))) Q) args s (rmN 2).cells (rmN 2).slots A) (F0 m 0 ls []) := ?hgo
  · rw [hH, hLc] at hgo; exact hgo
  refine lv_aload_n hx hb dX3_choose_0 rfl (lv_at hl 1 rfl) ?_
  refine nVN_I (As := []) (rest := []) (wc := ((bW cy aB e_B_laws (atd 0) e_B_mentions e_B_claims SB) ++ (tW cy atd Std))) (wr := (pW cy aP e_P_judge SP)) (isC := [11, 12, 13, 14, 15, 16, 17, 18, 19, 20]) (isR := [0, 1, 2, 3, 4, 5, 6, 7, 8, 9, 10]) hc hw (c_X6_toldSet hm) lk_X3_132 ⟨rfl, rfl, rfl, rfl, by decide⟩ rfl rfl ⟨Nat.le_of_ble_eq_true rfl, Nat.le_of_ble_eq_true rfl⟩ ⟨Nat.le_of_ble_eq_true rfl, Nat.le_of_ble_eq_true rfl⟩ hl.1 rfl (Nat.le_of_ble_eq_true rfl) rfl dX3_choose_1 (fun r1 _ H locs hm hw => ?_)
  have hw : wV D A s.heap ((pW cy aP e_P_judge SP) ++ ((bW cy aB e_B_laws (atd 0) e_B_mentions e_B_claims SB) ++ (tW cy atd Std))) H locs := hw.perm [0, 1, 2, 3, 4, 5, 6, 7, 8, 9, 10, 11, 12, 13, 14, 15, 16, 17, 18, 19, 20] rfl rfl
  refine lv_istore_n (lv' := [(3, .int r1), (0, .ref (aP 0)), (1, .ref (aB 0)), (2, .int x2)]) hx hb dX3_choose_4 rfl hl (by decide) rfl (fun ls hl => ?_)
  refine lv_aload_n hx hb dX3_choose_5 rfl (lv_at hl 2 rfl) ?_
  refine nVN_I (As := []) (rest := []) (wc := ((bW cy aB e_B_laws (atd 0) e_B_mentions e_B_claims SB) ++ (tW cy atd Std))) (wr := (pW cy aP e_P_judge SP)) (isC := [11, 12, 13, 14, 15, 16, 17, 18, 19, 20]) (isR := [0, 1, 2, 3, 4, 5, 6, 7, 8, 9, 10]) hc hw (c_X6_lastYear hm) lk_X3_136 ⟨rfl, rfl, rfl, rfl, by decide⟩ rfl rfl ⟨Nat.le_of_ble_eq_true rfl, Nat.le_of_ble_eq_true rfl⟩ ⟨Nat.le_of_ble_eq_true rfl, Nat.le_of_ble_eq_true rfl⟩ hl.1 rfl (Nat.le_of_ble_eq_true rfl) rfl dX3_choose_6 (fun r3 _ H locs hm hw => ?_)
  have hw : wV D A s.heap ((pW cy aP e_P_judge SP) ++ ((bW cy aB e_B_laws (atd 0) e_B_mentions e_B_claims SB) ++ (tW cy atd Std))) H locs := hw.perm [0, 1, 2, 3, 4, 5, 6, 7, 8, 9, 10, 11, 12, 13, 14, 15, 16, 17, 18, 19, 20] rfl rfl
  refine lv_istore (lv' := [(4, .int r3), (3, .int r1), (0, .ref (aP 0)), (1, .ref (aB 0)), (2, .int x2)]) hx hb dX3_choose_9 hl (by decide) rfl (fun ls hl => ?_)
  refine lv_aload_n hx hb dX3_choose_11 rfl (lv_at hl 3 rfl) ?_
  refine nVN_I (As := []) (rest := []) (wc := ((bW cy aB e_B_laws (atd 0) e_B_mentions e_B_claims SB) ++ (tW cy atd Std))) (wr := (pW cy aP e_P_judge SP)) (isC := [11, 12, 13, 14, 15, 16, 17, 18, 19, 20]) (isR := [0, 1, 2, 3, 4, 5, 6, 7, 8, 9, 10]) hc hw (c_X6_lastTeller hm) lk_X3_139 ⟨rfl, rfl, rfl, rfl, by decide⟩ rfl rfl ⟨Nat.le_of_ble_eq_true rfl, Nat.le_of_ble_eq_true rfl⟩ ⟨Nat.le_of_ble_eq_true rfl, Nat.le_of_ble_eq_true rfl⟩ hl.1 rfl (Nat.le_of_ble_eq_true rfl) rfl dX3_choose_12 (fun r5 _ H locs hm hw => ?_)
  have hw : wV D A s.heap ((pW cy aP e_P_judge SP) ++ ((bW cy aB e_B_laws (atd 0) e_B_mentions e_B_claims SB) ++ (tW cy atd Std))) H locs := hw.perm [0, 1, 2, 3, 4, 5, 6, 7, 8, 9, 10, 11, 12, 13, 14, 15, 16, 17, 18, 19, 20] rfl rfl
  refine lv_istore (lv' := [(5, .int r5), (4, .int r3), (3, .int r1), (0, .ref (aP 0)), (1, .ref (aB 0)), (2, .int x2)]) hx hb dX3_choose_15 hl (by decide) rfl (fun ls hl => ?_)
  refine lv_iconst (v := (-1)) hx hb dX3_choose_17 (by decide) ?_
  refine lv_istore (lv' := [(6, .int (-1)), (5, .int r5), (4, .int r3), (3, .int r1), (0, .ref (aP 0)), (1, .ref (aB 0)), (2, .int x2)]) hx hb dX3_choose_18 hl (by decide) rfl (fun ls hl => ?_)
  refine lv_iconst (v := 0) hx hb dX3_choose_20 (by decide) ?_
  refine lv_istore (lv' := [(7, .int 0), (6, .int (-1)), (5, .int r5), (4, .int r3), (3, .int r1), (0, .ref (aP 0)), (1, .ref (aB 0)), (2, .int x2)]) hx hb dX3_choose_21 hl (by decide) rfl (fun ls hl => ?_)
  refine wl3_ind (G := fun (x7_7 : Int32) (x6_8 : Int32) (S9 : Ob) => ∀ (H : Heap) (locs : List Loc) (ls : Array Slot), wV D A s.heap ((pW cy aP e_P_judge S9) ++ ((bW cy aB e_B_laws (atd 0) e_B_mentions e_B_claims SB) ++ (tW cy atd Std))) H locs → lv_has ls 9 [(7, .int x7_7), (6, .int x6_8), (5, .int r5), (4, .int r3), (3, .int r1), (0, .ref (aP 0)), (2, .int x2)] → W p l e (rmN 2) s m args below meth c H locs 0 0 (MQ below (eV D cy A (fun u : Ob => ((pW cy aP e_P_judge u) ++ ((bW cy aB e_B_laws (atd 0) e_B_mentions e_B_claims SB) ++ (tW cy atd Std)))) Q) args s (rmN 2).cells (rmN 2).slots A) (F0 m 23 ls [])) ?_ _ _ _ hm H locs ls hw (lv_sub hl [0, 1, 2, 3, 4, 5, 7] rfl)
  intro L10 ih10 x7_7 x6_8 S9 hm H locs ls hw hl
  refine lv_iload hx hb dX3_choose_23 (lv_at hl 0 rfl) ?_
  refine lv_iconst (v := 1) hx hb dX3_choose_25 (by decide) ?_
  refine lv_aload_n hx hb dX3_choose_26 rfl (lv_at hl 5 rfl) ?_
  refine gF (k := 6) hc hw inX3 rfl 0 rfl (by decide) (gm 334 (by decide +kernel) rfl) rfl dX3_choose_27 ?_
  refine lv_ishl hx hb dX3_choose_30 ?_
  refine lv_icmp_ge (tgt := 132) hx hb dX3_choose_31 (by decide) (fun c32 => ?_) (fun c32 => ?_)
  · have hm := hm.1 c32
    exact retV (u := S9) hc hw hm dX3_choose_132
  · have hm := hm.2 c32
    refine lv_iload hx hb dX3_choose_34 (lv_at hl 0 rfl) ?_
    refine lv_iload_n hx hb dX3_choose_36 rfl (lv_at hl 4 rfl) ?_
    refine lv_iand hx hb dX3_choose_37 ?_
    refine lv_if_ne (tgt := 126) hx hb dX3_choose_38 (by decide) (fun c31 => ?_) (fun c31 => ?_)
    · have hm := hm.1 c31
      obtain ⟨v11, e_v11⟩ : ∃ z : Int32, z = x7_7 + 1 := ⟨_, rfl⟩
      have hm := hm v11 e_v11
      refine lv_iinc (v := v11) (lv' := [(7, .int v11), (6, .int x6_8), (5, .int r5), (4, .int r3), (3, .int r1), (0, .ref (aP 0)), (2, .int x2)]) hx hb dX3_choose_126 hl (k := 0) rfl (by rw [e_v11]; rfl) (by decide) rfl (fun ls hl => ?_)
      refine lv_goto (tgt := 23) hx hb dX3_choose_129 (by decide) ?_
      exact ih10 _ _ _ hm _ _ _ hw (lv_sub hl [0, 1, 2, 3, 4, 5, 6] rfl)
    · have hm := hm.2 c31
      refine lv_aload_n hx hb dX3_choose_41 rfl (lv_at hl 5 rfl) ?_
      refine lv_iload hx hb dX3_choose_42 (lv_at hl 0 rfl) ?_
      refine lv_iload hx hb dX3_choose_44 (lv_at hl 3 rfl) ?_
      refine lv_iload hx hb dX3_choose_46 (lv_at hl 2 rfl) ?_
      refine nV_I (As := [.int x7_7, .int r3, .int r5]) (rest := []) (wc := (pW cy aP e_P_judge S9)) (wr := ((bW cy aB e_B_laws (atd 0) e_B_mentions e_B_claims SB) ++ (tW cy atd Std))) (isC := [0, 1, 2, 3, 4, 5, 6, 7, 8, 9, 10]) (isR := [11, 12, 13, 14, 15, 16, 17, 18, 19, 20]) hc hw (c_X3_fits hm) lk_X3_142 ⟨rfl, rfl, rfl, rfl, by decide⟩ rfl rfl ⟨Nat.le_of_ble_eq_true rfl, Nat.le_of_ble_eq_true rfl⟩ ⟨Nat.le_of_ble_eq_true rfl, Nat.le_of_ble_eq_true rfl⟩ hl.1 rfl (Nat.le_of_ble_eq_true rfl) rfl dX3_choose_48 (fun r12 _ H locs hm hw => ?_)
      have hw : wV D A s.heap ((pW cy aP e_P_judge S9) ++ ((bW cy aB e_B_laws (atd 0) e_B_mentions e_B_claims SB) ++ (tW cy atd Std))) H locs := hw.perm [10, 11, 12, 13, 14, 15, 16, 17, 18, 19, 20, 0, 1, 2, 3, 4, 5, 6, 7, 8, 9] rfl rfl
      refine lv_if_ne (tgt := 57) hx hb dX3_choose_51 (by decide) (fun c30 => ?_) (fun c30 => ?_)
      · have hm := hm.1 c30
        refine lv_aload_n hx hb dX3_choose_57 rfl (lv_at hl 5 rfl) ?_
        refine gF (k := 10) hc hw inX3 rfl 0 rfl (by decide) (gm 339 (by decide +kernel) rfl) rfl dX3_choose_58 ?_
        refine lv_iload hx hb dX3_choose_61 (lv_at hl 0 rfl) ?_
        obtain ⟨c14, hm⟩ := hm
        refine aI hc hw 6 rfl c14 rfl dX3_choose_63 ?_
        refine lv_iload_n hx hb dX3_choose_64 rfl (lv_at hl 6 rfl) ?_
        obtain ⟨J16, eJ16, hm⟩ := jn_e hm
        have hJ16 : ∀ (t15 : Int32) (_ : J16 t15) (H : Heap) (locs : List Loc) (ls : Array Slot), wV D A s.heap ((pW cy aP e_P_judge S9) ++ ((bW cy aB e_B_laws (atd 0) e_B_mentions e_B_claims SB) ++ (tW cy atd Std))) H locs → lv_has ls 9 [(0, .ref (aP 0)), (2, .int x2), (3, .int r1), (4, .int r3), (5, .int r5), (6, .int x6_8), (7, .int x7_7)] → W p l e (rmN 2) s m args below meth c H locs 0 0 (MQ below (eV D cy A (fun u : Ob => ((pW cy aP e_P_judge u) ++ ((bW cy aB e_B_laws (atd 0) e_B_mentions e_B_claims SB) ++ (tW cy atd Std)))) Q) args s (rmN 2).cells (rmN 2).slots A) (F0 m 81 ls [.int t15, .int (S9.2 10 (Int32.toNatClampNeg x7_7))]) := by
          intro t15 hm H locs ls hw hl
          rw [eJ16] at hm
          refine lv_iadd hx hb dX3_choose_81 ?_
          refine lv_topi (fun v17 e_v17 => ?_)
          have hm := hm v17 e_v17
          refine lv_istore (lv' := [(8, .int v17), (0, .ref (aP 0)), (2, .int x2), (3, .int r1), (4, .int r3), (5, .int r5), (6, .int x6_8), (7, .int x7_7)]) hx hb dX3_choose_82 hl (by decide) rfl (fun ls hl => ?_)
          refine lv_iload hx hb dX3_choose_84 (lv_at hl 0 rfl) ?_
          refine lv_iload hx hb dX3_choose_86 (lv_at hl 6 rfl) ?_
          refine lv_icmp_le (tgt := 109) hx hb dX3_choose_88 (by decide) (fun c25 => ?_) (fun c25 => ?_)
          · have hm := hm.1 c25
            refine lv_iload hx hb dX3_choose_109 (lv_at hl 0 rfl) ?_
            refine lv_iload hx hb dX3_choose_111 (lv_at hl 6 rfl) ?_
            refine lv_icmp_ne (tgt := 126) hx hb dX3_choose_113 (by decide) (fun c21 => ?_) (fun c21 => ?_)
            · have hm := hm.1 c21
              obtain ⟨v18, e_v18⟩ : ∃ z : Int32, z = x7_7 + 1 := ⟨_, rfl⟩
              have hm := hm v18 e_v18
              refine lv_iinc (v := v18) (lv' := [(7, .int v18), (8, .int v17), (0, .ref (aP 0)), (2, .int x2), (3, .int r1), (4, .int r3), (5, .int r5), (6, .int x6_8)]) hx hb dX3_choose_126 hl (k := 7) rfl (by rw [e_v18]; rfl) (by decide) rfl (fun ls hl => ?_)
              refine lv_goto (tgt := 23) hx hb dX3_choose_129 (by decide) ?_
              exact ih10 _ _ _ hm _ _ _ hw (lv_sub hl [0, 7, 6, 5, 4, 2, 3] rfl)
            · have hm := hm.2 c21
              refine lv_aload_n hx hb dX3_choose_116 rfl (lv_at hl 1 rfl) ?_
              refine lv_dup hx hb dX3_choose_117 rfl ?_
              refine gF (k := 16) hc hw inX3 rfl 0 rfl (by decide) (gm 349 (by decide +kernel) rfl) rfl dX3_choose_118 ?_
              refine lv_iconst (v := 1) hx hb dX3_choose_121 (by decide) ?_
              refine lv_iadd hx hb dX3_choose_122 ?_
              refine pF (k := 16) (ty := .int) hc hw inX3 tyX3_ok nmX3 rfl 0 rfl (by decide) (gm 349 (by decide +kernel) rfl) rfl (by decide +kernel) rfl rfl (Nat.le_of_ble_eq_true rfl) dX3_choose_123 (fun H locs hw => ?_)
              obtain ⟨S19, e_S19⟩ : ∃ z : Ob, z = uS S9 16 ((S9.1 16) + 1) := ⟨_, rfl⟩
              have hm := hm S19 e_S19
              have hw : wV D A s.heap ((pW cy aP e_P_judge S19) ++ ((bW cy aB e_B_laws (atd 0) e_B_mentions e_B_claims SB) ++ (tW cy atd Std))) H locs := by rw [e_S19]; exact hw
              obtain ⟨v20, e_v20⟩ : ∃ z : Int32, z = x7_7 + 1 := ⟨_, rfl⟩
              have hm := hm v20 e_v20
              refine lv_iinc (v := v20) (lv' := [(7, .int v20), (8, .int v17), (0, .ref (aP 0)), (2, .int x2), (3, .int r1), (4, .int r3), (5, .int r5), (6, .int x6_8)]) hx hb dX3_choose_126 hl (k := 7) rfl (by rw [e_v20]; rfl) (by decide) rfl (fun ls hl => ?_)
              refine lv_goto (tgt := 23) hx hb dX3_choose_129 (by decide) ?_
              exact ih10 _ _ _ hm _ _ _ hw (lv_sub hl [0, 7, 6, 5, 4, 2, 3] rfl)
          · have hm := hm.2 c25
            refine lv_iload hx hb dX3_choose_91 (lv_at hl 0 rfl) ?_
            refine lv_istore (lv' := [(6, .int v17), (8, .int v17), (0, .ref (aP 0)), (2, .int x2), (3, .int r1), (4, .int r3), (5, .int r5), (7, .int x7_7)]) hx hb dX3_choose_93 hl (by decide) rfl (fun ls hl => ?_)
            refine lv_aload_n hx hb dX3_choose_95 rfl (lv_at hl 2 rfl) ?_
            refine lv_iload hx hb dX3_choose_96 (lv_at hl 7 rfl) ?_
            refine pF (k := 15) (ty := .int) hc hw inX3 tyX3_ok nmX3 rfl 0 rfl (by decide) (gm 347 (by decide +kernel) rfl) rfl (by decide +kernel) rfl rfl (Nat.le_of_ble_eq_true rfl) dX3_choose_98 (fun H locs hw => ?_)
            obtain ⟨S22, e_S22⟩ : ∃ z : Ob, z = uS S9 15 x7_7 := ⟨_, rfl⟩
            have hm := hm S22 e_S22
            have hw : wV D A s.heap ((pW cy aP e_P_judge S22) ++ ((bW cy aB e_B_laws (atd 0) e_B_mentions e_B_claims SB) ++ (tW cy atd Std))) H locs := by rw [e_S22]; exact hw
            refine lv_aload_n hx hb dX3_choose_101 rfl (lv_at hl 2 rfl) ?_
            refine lv_iconst (v := 1) hx hb dX3_choose_102 (by decide) ?_
            refine pF (k := 16) (ty := .int) hc hw inX3 tyX3_ok nmX3 rfl 0 rfl (by decide) (gm 349 (by decide +kernel) rfl) rfl (by decide +kernel) rfl rfl (Nat.le_of_ble_eq_true rfl) dX3_choose_103 (fun H locs hw => ?_)
            obtain ⟨S23, e_S23⟩ : ∃ z : Ob, z = uS S22 16 1 := ⟨_, rfl⟩
            have hm := hm S23 e_S23
            have hw : wV D A s.heap ((pW cy aP e_P_judge S23) ++ ((bW cy aB e_B_laws (atd 0) e_B_mentions e_B_claims SB) ++ (tW cy atd Std))) H locs := by rw [e_S23]; exact hw
            refine lv_goto (tgt := 126) hx hb dX3_choose_106 (by decide) ?_
            obtain ⟨v24, e_v24⟩ : ∃ z : Int32, z = x7_7 + 1 := ⟨_, rfl⟩
            have hm := hm v24 e_v24
            refine lv_iinc (v := v24) (lv' := [(7, .int v24), (6, .int v17), (8, .int v17), (0, .ref (aP 0)), (2, .int x2), (3, .int r1), (4, .int r3), (5, .int r5)]) hx hb dX3_choose_126 hl (k := 7) rfl (by rw [e_v24]; rfl) (by decide) rfl (fun ls hl => ?_)
            refine lv_goto (tgt := 23) hx hb dX3_choose_129 (by decide) ?_
            exact ih10 _ _ _ hm _ _ _ hw (lv_sub hl [0, 1, 7, 6, 5, 3, 4] rfl)
        refine lv_if_eq (tgt := 80) hx hb dX3_choose_65 (by decide) (fun c28 => ?_) (fun c28 => ?_)
        · have hm := hm.1 c28
          refine lv_iconst (v := 0) hx hb dX3_choose_80 (by decide) ?_
          exact hJ16 _ hm _ _ _ hw (lv_sub hl [5, 6, 4, 3, 2, 1, 0] rfl)
        · have hm := hm.2 c28
          refine lv_iload hx hb dX3_choose_68 (lv_at hl 0 rfl) ?_
          refine zS_I (As := [.int x7_7]) (rest := [.int (S9.2 10 (Int32.toNatClampNeg x7_7))]) hc hw (c_J6_bitCount_0f7a4 hm) lk_X3_126 ⟨Nat.le_of_ble_eq_true rfl, Nat.le_of_ble_eq_true rfl⟩ ⟨Nat.le_of_ble_eq_true rfl, Nat.le_of_ble_eq_true rfl⟩ hl.1 rfl (Nat.le_of_ble_eq_true rfl) rfl dX3_choose_70 (fun r26 H locs hm hw => ?_)
          refine lv_sipush (v := 10000) hx hb dX3_choose_73 (by decide) ?_
          refine lv_imul hx hb dX3_choose_76 ?_
          refine lv_goto (tgt := 81) hx hb dX3_choose_77 (by decide) ?_
          exact hJ16 _ hm _ _ _ hw (lv_sub hl [5, 6, 4, 3, 2, 1, 0] rfl)
      · have hm := hm.2 c30
        refine lv_goto (tgt := 126) hx hb dX3_choose_54 (by decide) ?_
        obtain ⟨v29, e_v29⟩ : ∃ z : Int32, z = x7_7 + 1 := ⟨_, rfl⟩
        have hm := hm v29 e_v29
        refine lv_iinc (v := v29) (lv' := [(7, .int v29), (6, .int x6_8), (5, .int r5), (4, .int r3), (3, .int r1), (0, .ref (aP 0)), (2, .int x2)]) hx hb dX3_choose_126 hl (k := 0) rfl (by rw [e_v29]; rfl) (by decide) rfl (fun ls hl => ?_)
        refine lv_goto (tgt := 23) hx hb dX3_choose_129 (by decide) ?_
        exact ih10 _ _ _ hm _ _ _ hw (lv_sub hl [0, 1, 2, 3, 4, 5, 6] rfl)
set_option maxHeartbeats 4000000 in
set_option maxRecDepth 100000 in
theorem c_X3_leadsOn {l : Launch} {D : va_G} {cy : Nat → ClassId} {aP : Nat → Nat} {e_P_judge : Nat} {SP : Ob} {x1 : Int32} {x2 : Int32} {x3 : Int32} {x4 : Int32} {Q : Int32 → Prop} (hm : w_X3_leadsOn SP x1 x2 x3 x4 Q) : CtI l yX3_leadsOn cX3_leadsOn 8 (some .boolean) (rmN 3) D cy [.ref (aP 0), .int x1, .int x2, .int x3, .int x4] (pW cy aP e_P_judge SP) (fun _ : Unit => (pW cy aP e_P_judge SP)) (fun (r : Int32) (_ : Unit) => Q r) := by
  refine CtI.ofW (by decide) (Nat.le_of_ble_eq_true rfl) ?_
  intro p e s m args below meth c A ls hc hnm hw hl
  have hx := hc.1.1
  have hb := hc.1.2.1
  have hown := hc.1.2.2.2.1
  have hts := hc.1.2.2.2.2
  have hl : lv_has ls 8 [(0, .ref (aP 0)), (1, .int x1), (2, .int x2), (3, .int x3), (4, .int x4)] := hl
  obtain ⟨H, hH⟩ : ∃ z, z = s.heap := ⟨_, rfl⟩
  obtain ⟨locs, hLc⟩ : ∃ z : List Loc, z = [] := ⟨_, rfl⟩
  have hw : wV D A s.heap (pW cy aP e_P_judge SP) H locs := by rw [hH, hLc]; exact hw
  have hgo : W p l e (rmN 3) s m args below meth c H locs 0 0 (MQ below (eI D cy A (fun _ : Unit => (pW cy aP e_P_judge SP)) (fun (r : Int32) (_ : Unit) => Q r)) args s (rmN 3).cells (rmN 3).slots A) (F0 m 0 ls []) := ?hgo
  · rw [hH, hLc] at hgo; exact hgo
  refine lv_aload_n hx hb dX3_leadsOn_0 rfl (lv_at hl 0 rfl) ?_
  refine lv_iload_n hx hb dX3_leadsOn_1 rfl (lv_at hl 1 rfl) ?_
  refine lv_iload_n hx hb dX3_leadsOn_2 rfl (lv_at hl 3 rfl) ?_
  refine aV_I (As := [.int x1, .int x3]) (rest := []) hc hw (c_X3_yearOf hm) lk_X3_155 rfl rfl ⟨Nat.le_of_ble_eq_true rfl, Nat.le_of_ble_eq_true rfl⟩ ⟨Nat.le_of_ble_eq_true rfl, Nat.le_of_ble_eq_true rfl⟩ hl.1 rfl (Nat.le_of_ble_eq_true rfl) rfl dX3_leadsOn_3 (fun r1 _ H locs hm hw => ?_)
  have hw : wV D A s.heap (pW cy aP e_P_judge SP) H locs := hw
  refine lv_istore (lv' := [(5, .int r1), (0, .ref (aP 0)), (1, .int x1), (2, .int x2), (3, .int x3), (4, .int x4)]) hx hb dX3_leadsOn_6 hl (by decide) rfl (fun ls hl => ?_)
  refine lv_aload_n hx hb dX3_leadsOn_8 rfl (lv_at hl 1 rfl) ?_
  refine lv_iload_n hx hb dX3_leadsOn_9 rfl (lv_at hl 2 rfl) ?_
  refine lv_iload hx hb dX3_leadsOn_10 (lv_at hl 5 rfl) ?_
  refine aV_I (As := [.int x1, .int x4]) (rest := []) hc hw (c_X3_followers hm) lk_X3_158 rfl rfl ⟨Nat.le_of_ble_eq_true rfl, Nat.le_of_ble_eq_true rfl⟩ ⟨Nat.le_of_ble_eq_true rfl, Nat.le_of_ble_eq_true rfl⟩ hl.1 rfl (Nat.le_of_ble_eq_true rfl) rfl dX3_leadsOn_12 (fun r3 _ H locs hm hw => ?_)
  have hw : wV D A s.heap (pW cy aP e_P_judge SP) H locs := hw
  refine lv_istore (lv' := [(6, .int r3), (5, .int r1), (0, .ref (aP 0)), (1, .int x1), (2, .int x2), (3, .int x3), (4, .int x4)]) hx hb dX3_leadsOn_15 hl (by decide) rfl (fun ls hl => ?_)
  refine lv_iconst (v := 0) hx hb dX3_leadsOn_17 (by decide) ?_
  refine lv_istore (lv' := [(7, .int 0), (6, .int r3), (5, .int r1), (0, .ref (aP 0)), (1, .int x1), (2, .int x2), (3, .int x3), (4, .int x4)]) hx hb dX3_leadsOn_18 hl (by decide) rfl (fun ls hl => ?_)
  refine wl1_ind (G := fun (x7_5 : Int32) => ∀ (H : Heap) (locs : List Loc) (ls : Array Slot), wV D A s.heap (pW cy aP e_P_judge SP) H locs → lv_has ls 8 [(7, .int x7_5), (6, .int r3), (5, .int r1), (0, .ref (aP 0)), (2, .int x2)] → W p l e (rmN 3) s m args below meth c H locs 0 0 (MQ below (eI D cy A (fun _ : Unit => (pW cy aP e_P_judge SP)) (fun (r : Int32) (_ : Unit) => Q r)) args s (rmN 3).cells (rmN 3).slots A) (F0 m 20 ls [])) ?_ _ hm H locs ls hw (lv_sub hl [0, 1, 2, 3, 5] rfl)
  intro L6 ih6 x7_5 hm H locs ls hw hl
  refine lv_iload hx hb dX3_leadsOn_20 (lv_at hl 0 rfl) ?_
  refine lv_iconst (v := 4) hx hb dX3_leadsOn_22 (by decide) ?_
  refine lv_icmp_ge (tgt := 62) hx hb dX3_leadsOn_23 (by decide) (fun c15 => ?_) (fun c15 => ?_)
  · have hm := hm.1 c15
    refine lv_iconst (v := 0) hx hb dX3_leadsOn_62 (by decide) ?_
    exact retZ (u := ()) hc hw rfl hm dX3_leadsOn_63
  · have hm := hm.2 c15
    refine lv_iload hx hb dX3_leadsOn_26 (lv_at hl 2 rfl) ?_
    refine lv_iconst (v := (-1)) hx hb dX3_leadsOn_28 (by decide) ?_
    refine lv_icmp_eq (tgt := 56) hx hb dX3_leadsOn_29 (by decide) (fun c14 => ?_) (fun c14 => ?_)
    · have hm := hm.1 c14
      obtain ⟨v7, e_v7⟩ : ∃ z : Int32, z = x7_5 + 1 := ⟨_, rfl⟩
      have hm := hm v7 e_v7
      refine lv_iinc (v := v7) (lv' := [(7, .int v7), (6, .int r3), (5, .int r1), (0, .ref (aP 0)), (2, .int x2)]) hx hb dX3_leadsOn_56 hl (k := 0) rfl (by rw [e_v7]; rfl) (by decide) rfl (fun ls hl => ?_)
      refine lv_goto (tgt := 20) hx hb dX3_leadsOn_59 (by decide) ?_
      exact ih6 _ hm _ _ _ hw (lv_sub hl [0, 1, 2, 3, 4] rfl)
    · have hm := hm.2 c14
      refine lv_iload hx hb dX3_leadsOn_32 (lv_at hl 1 rfl) ?_
      refine lv_iload hx hb dX3_leadsOn_34 (lv_at hl 0 rfl) ?_
      refine lv_ishr hx hb dX3_leadsOn_36 ?_
      refine lv_iconst (v := 1) hx hb dX3_leadsOn_37 (by decide) ?_
      refine lv_iand hx hb dX3_leadsOn_38 ?_
      refine lv_if_eq (tgt := 56) hx hb dX3_leadsOn_39 (by decide) (fun c13 => ?_) (fun c13 => ?_)
      · have hm := hm.1 c13
        obtain ⟨v8, e_v8⟩ : ∃ z : Int32, z = x7_5 + 1 := ⟨_, rfl⟩
        have hm := hm v8 e_v8
        refine lv_iinc (v := v8) (lv' := [(7, .int v8), (6, .int r3), (5, .int r1), (0, .ref (aP 0)), (2, .int x2)]) hx hb dX3_leadsOn_56 hl (k := 0) rfl (by rw [e_v8]; rfl) (by decide) rfl (fun ls hl => ?_)
        refine lv_goto (tgt := 20) hx hb dX3_leadsOn_59 (by decide) ?_
        exact ih6 _ hm _ _ _ hw (lv_sub hl [0, 1, 2, 3, 4] rfl)
      · have hm := hm.2 c13
        refine lv_aload_n hx hb dX3_leadsOn_42 rfl (lv_at hl 3 rfl) ?_
        refine lv_iload_n hx hb dX3_leadsOn_43 rfl (lv_at hl 4 rfl) ?_
        refine lv_iload hx hb dX3_leadsOn_44 (lv_at hl 2 rfl) ?_
        refine lv_iload hx hb dX3_leadsOn_46 (lv_at hl 0 rfl) ?_
        refine aV_I (As := [.int x2, .int r1, .int x7_5]) (rest := []) hc hw (c_X3_fits hm) lk_X3_142 rfl rfl ⟨Nat.le_of_ble_eq_true rfl, Nat.le_of_ble_eq_true rfl⟩ ⟨Nat.le_of_ble_eq_true rfl, Nat.le_of_ble_eq_true rfl⟩ hl.1 rfl (Nat.le_of_ble_eq_true rfl) rfl dX3_leadsOn_48 (fun r9 _ H locs hm hw => ?_)
        have hw : wV D A s.heap (pW cy aP e_P_judge SP) H locs := hw
        refine lv_if_eq (tgt := 56) hx hb dX3_leadsOn_51 (by decide) (fun c12 => ?_) (fun c12 => ?_)
        · have hm := hm.1 c12
          obtain ⟨v11, e_v11⟩ : ∃ z : Int32, z = x7_5 + 1 := ⟨_, rfl⟩
          have hm := hm v11 e_v11
          refine lv_iinc (v := v11) (lv' := [(7, .int v11), (6, .int r3), (5, .int r1), (0, .ref (aP 0)), (2, .int x2)]) hx hb dX3_leadsOn_56 hl (k := 0) rfl (by rw [e_v11]; rfl) (by decide) rfl (fun ls hl => ?_)
          refine lv_goto (tgt := 20) hx hb dX3_leadsOn_59 (by decide) ?_
          exact ih6 _ hm _ _ _ hw (lv_sub hl [0, 1, 2, 3, 4] rfl)
        · have hm := hm.2 c12
          refine lv_iconst (v := 1) hx hb dX3_leadsOn_54 (by decide) ?_
          exact retZ (u := ()) hc hw rfl hm dX3_leadsOn_55
set_option maxHeartbeats 4000000 in
set_option maxRecDepth 100000 in
theorem c_X3_firstTale {l : Launch} {D : va_G} {cy : Nat → ClassId} {aP : Nat → Nat} {e_P_judge : Nat} {SP : Ob} {x1 : Int32} {x2 : Int32} {x3 : Int32} {Q : Int32 → Prop} (hm : w_X3_firstTale SP x1 x2 x3 Q) : CtI l yX3_firstTale cX3_firstTale 5 (some .int) (rmN 4) D cy [.ref (aP 0), .int x1, .int x2, .int x3] (pW cy aP e_P_judge SP) (fun _ : Unit => (pW cy aP e_P_judge SP)) (fun (r : Int32) (_ : Unit) => Q r) := by
  refine CtI.ofW (by decide) (Nat.le_of_ble_eq_true rfl) ?_
  intro p e s m args below meth c A ls hc hnm hw hl
  have hx := hc.1.1
  have hb := hc.1.2.1
  have hown := hc.1.2.2.2.1
  have hts := hc.1.2.2.2.2
  have hl : lv_has ls 5 [(0, .ref (aP 0)), (1, .int x1), (2, .int x2), (3, .int x3)] := hl
  obtain ⟨H, hH⟩ : ∃ z, z = s.heap := ⟨_, rfl⟩
  obtain ⟨locs, hLc⟩ : ∃ z : List Loc, z = [] := ⟨_, rfl⟩
  have hw : wV D A s.heap (pW cy aP e_P_judge SP) H locs := by rw [hH, hLc]; exact hw
  have hgo : W p l e (rmN 4) s m args below meth c H locs 0 0 (MQ below (eI D cy A (fun _ : Unit => (pW cy aP e_P_judge SP)) (fun (r : Int32) (_ : Unit) => Q r)) args s (rmN 4).cells (rmN 4).slots A) (F0 m 0 ls []) := ?hgo
  · rw [hH, hLc] at hgo; exact hgo
  refine lv_iconst (v := 0) hx hb dX3_firstTale_0 (by decide) ?_
  refine lv_istore (lv' := [(4, .int 0), (0, .ref (aP 0)), (1, .int x1), (2, .int x2), (3, .int x3)]) hx hb dX3_firstTale_1 hl (by decide) rfl (fun ls hl => ?_)
  refine wl1_ind (G := fun (x4_1 : Int32) => ∀ (H : Heap) (locs : List Loc) (ls : Array Slot), wV D A s.heap (pW cy aP e_P_judge SP) H locs → lv_has ls 5 [(4, .int x4_1), (0, .ref (aP 0)), (1, .int x1), (2, .int x2), (3, .int x3)] → W p l e (rmN 4) s m args below meth c H locs 0 0 (MQ below (eI D cy A (fun _ : Unit => (pW cy aP e_P_judge SP)) (fun (r : Int32) (_ : Unit) => Q r)) args s (rmN 4).cells (rmN 4).slots A) (F0 m 3 ls [])) ?_ _ hm H locs ls hw (lv_sub hl [0, 1, 2, 3, 4] rfl)
  intro L2 ih2 x4_1 hm H locs ls hw hl
  refine lv_iload hx hb dX3_firstTale_3 (lv_at hl 0 rfl) ?_
  refine lv_aload_n hx hb dX3_firstTale_5 rfl (lv_at hl 1 rfl) ?_
  refine gF (k := 6) hc hw inX3 rfl 0 rfl (by decide) (gm 334 (by decide +kernel) rfl) rfl dX3_firstTale_6 ?_
  refine lv_icmp_ge (tgt := 49) hx hb dX3_firstTale_9 (by decide) (fun c9 => ?_) (fun c9 => ?_)
  · have hm := hm.1 c9
    refine lv_iconst (v := (-1)) hx hb dX3_firstTale_49 (by decide) ?_
    exact retI (u := ()) hc hw hm dX3_firstTale_50
  · have hm := hm.2 c9
    refine lv_iload_n hx hb dX3_firstTale_12 rfl (lv_at hl 2 rfl) ?_
    refine lv_iload hx hb dX3_firstTale_13 (lv_at hl 0 rfl) ?_
    refine lv_ishr hx hb dX3_firstTale_15 ?_
    refine lv_iconst (v := 1) hx hb dX3_firstTale_16 (by decide) ?_
    refine lv_iand hx hb dX3_firstTale_17 ?_
    refine lv_if_eq (tgt := 43) hx hb dX3_firstTale_18 (by decide) (fun c8 => ?_) (fun c8 => ?_)
    · have hm := hm.1 c8
      obtain ⟨v3, e_v3⟩ : ∃ z : Int32, z = x4_1 + 1 := ⟨_, rfl⟩
      have hm := hm v3 e_v3
      refine lv_iinc (v := v3) (lv' := [(4, .int v3), (0, .ref (aP 0)), (1, .int x1), (2, .int x2), (3, .int x3)]) hx hb dX3_firstTale_43 hl (k := 0) rfl (by rw [e_v3]; rfl) (by decide) rfl (fun ls hl => ?_)
      refine lv_goto (tgt := 3) hx hb dX3_firstTale_46 (by decide) ?_
      exact ih2 _ hm _ _ _ hw (lv_sub hl [0, 1, 2, 3, 4] rfl)
    · have hm := hm.2 c8
      refine lv_aload_n hx hb dX3_firstTale_21 rfl (lv_at hl 1 rfl) ?_
      refine lv_iload hx hb dX3_firstTale_22 (lv_at hl 0 rfl) ?_
      refine lv_iload_n hx hb dX3_firstTale_24 rfl (lv_at hl 2 rfl) ?_
      refine lv_iconst (v := 1) hx hb dX3_firstTale_25 (by decide) ?_
      refine lv_iload hx hb dX3_firstTale_26 (lv_at hl 0 rfl) ?_
      refine lv_ishl hx hb dX3_firstTale_28 ?_
      refine lv_iconst (v := (-1)) hx hb dX3_firstTale_29 (by decide) ?_
      refine lv_ixor hx hb dX3_firstTale_30 ?_
      refine lv_iand hx hb dX3_firstTale_31 ?_
      refine lv_iload_n hx hb dX3_firstTale_32 rfl (lv_at hl 3 rfl) ?_
      refine lv_iload_n hx hb dX3_firstTale_33 rfl (lv_at hl 4 rfl) ?_
      refine aV_I (As := [.int x4_1, .int (x1 &&& (((1 : Int32) <<< (x4_1 &&& 31)) ^^^ (-1))), .int x2, .int x3]) (rest := []) hc hw (c_X3_leadsOn hm) lk_X3_169 rfl rfl ⟨Nat.le_of_ble_eq_true rfl, Nat.le_of_ble_eq_true rfl⟩ ⟨Nat.le_of_ble_eq_true rfl, Nat.le_of_ble_eq_true rfl⟩ hl.1 rfl (Nat.le_of_ble_eq_true rfl) rfl dX3_firstTale_34 (fun r4 _ H locs hm hw => ?_)
      have hw : wV D A s.heap (pW cy aP e_P_judge SP) H locs := hw
      refine lv_if_eq (tgt := 43) hx hb dX3_firstTale_37 (by decide) (fun c7 => ?_) (fun c7 => ?_)
      · have hm := hm.1 c7
        obtain ⟨v6, e_v6⟩ : ∃ z : Int32, z = x4_1 + 1 := ⟨_, rfl⟩
        have hm := hm v6 e_v6
        refine lv_iinc (v := v6) (lv' := [(4, .int v6), (0, .ref (aP 0)), (1, .int x1), (2, .int x2), (3, .int x3)]) hx hb dX3_firstTale_43 hl (k := 0) rfl (by rw [e_v6]; rfl) (by decide) rfl (fun ls hl => ?_)
        refine lv_goto (tgt := 3) hx hb dX3_firstTale_46 (by decide) ?_
        exact ih2 _ hm _ _ _ hw (lv_sub hl [0, 1, 2, 3, 4] rfl)
      · have hm := hm.2 c7
        refine lv_iload hx hb dX3_firstTale_40 (lv_at hl 0 rfl) ?_
        exact retI (u := ()) hc hw hm dX3_firstTale_42
set_option maxHeartbeats 4000000 in
set_option maxRecDepth 100000 in
theorem c_X3_nameTellers {l : Launch} {D : va_G} {cy : Nat → ClassId} {aP : Nat → Nat} {ali : Nat → Nat} {e_P_judge : Nat} {SP : Ob} {Sli : Ob} {x2 : Int32} {Q : Ob → Ob → Prop} (hm : w_X3_nameTellers SP Sli x2 Q) : CtV l yX3_nameTellers cX3_nameTellers 7 none (rmN 2) D cy [.ref (aP 0), .ref (ali 0), .int x2] ((pW cy aP e_P_judge SP) ++ (tW cy ali Sli)) (fun u : Ob × Ob => ((pW cy aP e_P_judge u.1) ++ (tW cy ali u.2))) (fun (u : Ob × Ob) => Q u.1 u.2) := by
  refine CtV.ofW (by decide) (Nat.le_of_ble_eq_true rfl) ?_
  intro p e s m args below meth c A ls hc hnm hw hl
  have hx := hc.1.1
  have hb := hc.1.2.1
  have hown := hc.1.2.2.2.1
  have hts := hc.1.2.2.2.2
  have hl : lv_has ls 7 [(0, .ref (aP 0)), (1, .ref (ali 0)), (2, .int x2)] := hl
  obtain ⟨H, hH⟩ : ∃ z, z = s.heap := ⟨_, rfl⟩
  obtain ⟨locs, hLc⟩ : ∃ z : List Loc, z = [] := ⟨_, rfl⟩
  have hw : wV D A s.heap ((pW cy aP e_P_judge SP) ++ (tW cy ali Sli)) H locs := by rw [hH, hLc]; exact hw
  have hgo : W p l e (rmN 2) s m args below meth c H locs 0 0 (MQ below (eV D cy A (fun u : Ob × Ob => ((pW cy aP e_P_judge u.1) ++ (tW cy ali u.2))) (fun (u : Ob × Ob) => Q u.1 u.2)) args s (rmN 2).cells (rmN 2).slots A) (F0 m 0 ls []) := ?hgo
  · rw [hH, hLc] at hgo; exact hgo
  refine lv_iconst (v := 0) hx hb dX3_nameTellers_0 (by decide) ?_
  refine lv_istore_n (lv' := [(3, .int 0), (0, .ref (aP 0)), (1, .ref (ali 0)), (2, .int x2)]) hx hb dX3_nameTellers_1 rfl hl (by decide) rfl (fun ls hl => ?_)
  refine lv_aload_n hx hb dX3_nameTellers_2 rfl (lv_at hl 2 rfl) ?_
  refine gN (k := 3) (host := "OlderTale") hc hw inX7 rfl 11 rfl (by decide) (nmm 182 (by decide +kernel)) rfl dX3_nameTellers_3 ?_
  refine lv_iconst (v := 1) hx hb dX3_nameTellers_6 (by decide) ?_
  refine lv_isub hx hb dX3_nameTellers_7 ?_
  refine lv_topi (fun v1 e_v1 => ?_)
  have hm := hm v1 e_v1
  refine lv_istore (lv' := [(4, .int v1), (3, .int 0), (0, .ref (aP 0)), (1, .ref (ali 0)), (2, .int x2)]) hx hb dX3_nameTellers_8 hl (by decide) rfl (fun ls hl => ?_)
  refine wl3_ind (G := fun (x4_2 : Int32) (x3_3 : Int32) (S4 : Ob) => ∀ (H : Heap) (locs : List Loc) (ls : Array Slot), wV D A s.heap ((pW cy aP e_P_judge S4) ++ (tW cy ali Sli)) H locs → lv_has ls 7 [(4, .int x4_2), (3, .int x3_3), (0, .ref (aP 0)), (1, .ref (ali 0)), (2, .int x2)] → W p l e (rmN 2) s m args below meth c H locs 0 0 (MQ below (eV D cy A (fun u : Ob × Ob => ((pW cy aP e_P_judge u.1) ++ (tW cy ali u.2))) (fun (u : Ob × Ob) => Q u.1 u.2)) args s (rmN 2).cells (rmN 2).slots A) (F0 m 10 ls [])) ?_ _ _ _ hm H locs ls hw (lv_sub hl [0, 1, 2, 3, 4] rfl)
  intro L5 ih5 x4_2 x3_3 S4 hm H locs ls hw hl
  refine lv_iload hx hb dX3_nameTellers_10 (lv_at hl 0 rfl) ?_
  refine lv_if_lt (tgt := 80) hx hb dX3_nameTellers_12 (by decide) (fun c35 => ?_) (fun c35 => ?_)
  · have hm := hm.1 c35
    refine lv_iload_n hx hb dX3_nameTellers_80 rfl (lv_at hl 4 rfl) ?_
    refine lv_istore (lv' := [(4, .int x2), (3, .int x3_3), (0, .ref (aP 0)), (1, .ref (ali 0)), (2, .int x2)]) hx hb dX3_nameTellers_81 hl (by decide) rfl (fun ls hl => ?_)
    refine lv_iconst (v := 0) hx hb dX3_nameTellers_83 (by decide) ?_
    refine lv_istore (lv' := [(5, .int 0), (4, .int x2), (3, .int x3_3), (0, .ref (aP 0)), (1, .ref (ali 0)), (2, .int x2)]) hx hb dX3_nameTellers_84 hl (by decide) rfl (fun ls hl => ?_)
    refine wl3_ind (G := fun (x5_6 : Int32) (x4_7 : Int32) (S8 : Ob) => ∀ (H : Heap) (locs : List Loc) (ls : Array Slot), wV D A s.heap ((pW cy aP e_P_judge S4) ++ (tW cy ali S8)) H locs → lv_has ls 7 [(5, .int x5_6), (4, .int x4_7), (0, .ref (aP 0)), (1, .ref (ali 0))] → W p l e (rmN 2) s m args below meth c H locs 0 0 (MQ below (eV D cy A (fun u : Ob × Ob => ((pW cy aP e_P_judge u.1) ++ (tW cy ali u.2))) (fun (u : Ob × Ob) => Q u.1 u.2)) args s (rmN 2).cells (rmN 2).slots A) (F0 m 86 ls [])) ?_ _ _ _ hm H locs ls hw (lv_sub hl [0, 1, 3, 4] rfl)
    intro L9 ih9 x5_6 x4_7 S8 hm H locs ls hw hl
    refine lv_iload hx hb dX3_nameTellers_86 (lv_at hl 0 rfl) ?_
    refine lv_aload_n hx hb dX3_nameTellers_88 rfl (lv_at hl 3 rfl) ?_
    refine gN (k := 3) (host := "OlderTale") hc hw inX7 rfl 11 rfl (by decide) (nmm 182 (by decide +kernel)) rfl dX3_nameTellers_89 ?_
    refine lv_icmp_ge (tgt := 150) hx hb dX3_nameTellers_92 (by decide) (fun c20 => ?_) (fun c20 => ?_)
    · have hm := hm.1 c20
      exact retV (u := (S4, S8)) hc hw hm dX3_nameTellers_150
    · have hm := hm.2 c20
      refine lv_aload_n hx hb dX3_nameTellers_95 rfl (lv_at hl 2 rfl) ?_
      refine gF (k := 7) hc hw inX3 rfl 0 rfl (by decide) (gm 336 (by decide +kernel) rfl) rfl dX3_nameTellers_96 ?_
      obtain ⟨J11, eJ11, hm⟩ := jn_e hm
      have hJ11 : ∀ (t10 : Int32) (_ : J11 t10) (H : Heap) (locs : List Loc) (ls : Array Slot), wV D A s.heap ((pW cy aP e_P_judge S4) ++ (tW cy ali S8)) H locs → lv_has ls 7 [(0, .ref (aP 0)), (1, .ref (ali 0)), (5, .int x5_6)] → W p l e (rmN 2) s m args below meth c H locs 0 0 (MQ below (eV D cy A (fun u : Ob × Ob => ((pW cy aP e_P_judge u.1) ++ (tW cy ali u.2))) (fun (u : Ob × Ob) => Q u.1 u.2)) args s (rmN 2).cells (rmN 2).slots A) (F0 m 126 ls [.int t10]) := by
        intro t10 hm H locs ls hw hl
        rw [eJ11] at hm
        refine lv_istore (lv' := [(6, .int t10), (0, .ref (aP 0)), (1, .ref (ali 0)), (5, .int x5_6)]) hx hb dX3_nameTellers_126 hl (by decide) rfl (fun ls hl => ?_)
        refine lv_iload hx hb dX3_nameTellers_128 (lv_at hl 0 rfl) ?_
        refine zS_I (As := [.int t10]) (rest := []) hc hw (c_X3_lowestBit hm) lk_X3_182 ⟨Nat.le_of_ble_eq_true rfl, Nat.le_of_ble_eq_true rfl⟩ ⟨Nat.le_of_ble_eq_true rfl, Nat.le_of_ble_eq_true rfl⟩ hl.1 rfl (Nat.le_of_ble_eq_true rfl) rfl dX3_nameTellers_130 (fun r12 H locs hm hw => ?_)
        refine lv_istore (lv' := [(4, .int r12), (6, .int t10), (0, .ref (aP 0)), (1, .ref (ali 0)), (5, .int x5_6)]) hx hb dX3_nameTellers_133 hl (by decide) rfl (fun ls hl => ?_)
        refine lv_aload_n hx hb dX3_nameTellers_135 rfl (lv_at hl 3 rfl) ?_
        refine gN (k := 2) (host := "OlderTale") hc hw inX7 rfl 11 rfl (by decide) (nmm 178 (by decide +kernel)) rfl dX3_nameTellers_136 ?_
        refine lv_iload hx hb dX3_nameTellers_139 (lv_at hl 4 rfl) ?_
        refine lv_iload hx hb dX3_nameTellers_141 (lv_at hl 0 rfl) ?_
        obtain ⟨c14, hm⟩ := hm
        refine sI hc hw 14 rfl c14 rfl dX3_nameTellers_143 (fun H locs hw => ?_)
        obtain ⟨S15, e_S15⟩ : ∃ z : Ob, z = uA S8 2 (Int32.toNatClampNeg x5_6) r12 := ⟨_, rfl⟩
        have hm := hm S15 e_S15
        have hw : wV D A s.heap ((pW cy aP e_P_judge S4) ++ (tW cy ali S15)) H locs := by rw [e_S15]; exact hw
        obtain ⟨v16, e_v16⟩ : ∃ z : Int32, z = x5_6 + 1 := ⟨_, rfl⟩
        have hm := hm v16 e_v16
        refine lv_iinc (v := v16) (lv' := [(5, .int v16), (4, .int r12), (6, .int t10), (0, .ref (aP 0)), (1, .ref (ali 0))]) hx hb dX3_nameTellers_144 hl (k := 4) rfl (by rw [e_v16]; rfl) (by decide) rfl (fun ls hl => ?_)
        refine lv_goto (tgt := 86) hx hb dX3_nameTellers_147 (by decide) ?_
        exact ih9 _ _ _ hm _ _ _ hw (lv_sub hl [0, 1, 3, 4] rfl)
      refine lv_if_eq (tgt := 112) hx hb dX3_nameTellers_99 (by decide) (fun c19 => ?_) (fun c19 => ?_)
      · have hm := hm.1 c19
        refine lv_aload_n hx hb dX3_nameTellers_112 rfl (lv_at hl 2 rfl) ?_
        refine gF (k := 14) hc hw inX3 rfl 0 rfl (by decide) (gm 346 (by decide +kernel) rfl) rfl dX3_nameTellers_113 ?_
        refine lv_iload hx hb dX3_nameTellers_116 (lv_at hl 0 rfl) ?_
        obtain ⟨c17, hm⟩ := hm
        refine aI hc hw 10 rfl c17 rfl dX3_nameTellers_118 ?_
        refine lv_iconst (v := 1) hx hb dX3_nameTellers_119 (by decide) ?_
        refine lv_iload hx hb dX3_nameTellers_120 (lv_at hl 1 rfl) ?_
        refine lv_ishl hx hb dX3_nameTellers_122 ?_
        refine lv_iconst (v := (-1)) hx hb dX3_nameTellers_123 (by decide) ?_
        refine lv_ixor hx hb dX3_nameTellers_124 ?_
        refine lv_iand hx hb dX3_nameTellers_125 ?_
        exact hJ11 _ hm _ _ _ hw (lv_sub hl [2, 3, 0] rfl)
      · have hm := hm.2 c19
        refine lv_aload_n hx hb dX3_nameTellers_102 rfl (lv_at hl 2 rfl) ?_
        refine gF (k := 14) hc hw inX3 rfl 0 rfl (by decide) (gm 346 (by decide +kernel) rfl) rfl dX3_nameTellers_103 ?_
        refine lv_iload hx hb dX3_nameTellers_106 (lv_at hl 0 rfl) ?_
        obtain ⟨c18, hm⟩ := hm
        refine aI hc hw 10 rfl c18 rfl dX3_nameTellers_108 ?_
        refine lv_goto (tgt := 126) hx hb dX3_nameTellers_109 (by decide) ?_
        exact hJ11 _ hm _ _ _ hw (lv_sub hl [2, 3, 0] rfl)
  · have hm := hm.2 c35
    refine lv_iload hx hb dX3_nameTellers_15 (lv_at hl 0 rfl) ?_
    refine lv_aload_n hx hb dX3_nameTellers_17 rfl (lv_at hl 3 rfl) ?_
    refine gN (k := 3) (host := "OlderTale") hc hw inX7 rfl 11 rfl (by decide) (nmm 182 (by decide +kernel)) rfl dX3_nameTellers_18 ?_
    refine lv_iconst (v := 1) hx hb dX3_nameTellers_21 (by decide) ?_
    refine lv_isub hx hb dX3_nameTellers_22 ?_
    obtain ⟨J22, eJ22, hm⟩ := jn_e hm
    have hJ22 : ∀ (t21 : Int32) (_ : J22 t21) (H : Heap) (locs : List Loc) (ls : Array Slot), wV D A s.heap ((pW cy aP e_P_judge S4) ++ (tW cy ali Sli)) H locs → lv_has ls 7 [(0, .ref (aP 0)), (1, .ref (ali 0)), (2, .int x2), (3, .int x3_3), (4, .int x4_2)] → W p l e (rmN 2) s m args below meth c H locs 0 0 (MQ below (eV D cy A (fun u : Ob × Ob => ((pW cy aP e_P_judge u.1) ++ (tW cy ali u.2))) (fun (u : Ob × Ob) => Q u.1 u.2)) args s (rmN 2).cells (rmN 2).slots A) (F0 m 31 ls [.int t21]) := by
      intro t21 hm H locs ls hw hl
      rw [eJ22] at hm
      refine lv_istore (lv' := [(5, .int t21), (0, .ref (aP 0)), (1, .ref (ali 0)), (2, .int x2), (3, .int x3_3), (4, .int x4_2)]) hx hb dX3_nameTellers_31 hl (by decide) rfl (fun ls hl => ?_)
      refine lv_iload hx hb dX3_nameTellers_33 (lv_at hl 0 rfl) ?_
      obtain ⟨J24, eJ24, hm⟩ := jn_e hm
      have hJ24 : ∀ (t23 : Int32) (_ : J24 t23) (H : Heap) (locs : List Loc) (ls : Array Slot), wV D A s.heap ((pW cy aP e_P_judge S4) ++ (tW cy ali Sli)) H locs → lv_has ls 7 [(0, .ref (aP 0)), (1, .ref (ali 0)), (2, .int x2), (4, .int x4_2)] → W p l e (rmN 2) s m args below meth c H locs 0 0 (MQ below (eV D cy A (fun u : Ob × Ob => ((pW cy aP e_P_judge u.1) ++ (tW cy ali u.2))) (fun (u : Ob × Ob) => Q u.1 u.2)) args s (rmN 2).cells (rmN 2).slots A) (F0 m 65 ls [.int t23]) := by
        intro t23 hm H locs ls hw hl
        rw [eJ24] at hm
        refine lv_istore_n (lv' := [(3, .int t23), (0, .ref (aP 0)), (1, .ref (ali 0)), (2, .int x2), (4, .int x4_2)]) hx hb dX3_nameTellers_65 rfl hl (by decide) rfl (fun ls hl => ?_)
        refine lv_aload_n hx hb dX3_nameTellers_66 rfl (lv_at hl 1 rfl) ?_
        refine gF (k := 14) hc hw inX3 rfl 0 rfl (by decide) (gm 346 (by decide +kernel) rfl) rfl dX3_nameTellers_67 ?_
        refine lv_iload hx hb dX3_nameTellers_70 (lv_at hl 4 rfl) ?_
        refine lv_iload_n hx hb dX3_nameTellers_72 rfl (lv_at hl 0 rfl) ?_
        obtain ⟨c25, hm⟩ := hm
        refine sI hc hw 10 rfl c25 rfl dX3_nameTellers_73 (fun H locs hw => ?_)
        obtain ⟨S26, e_S26⟩ : ∃ z : Ob, z = uA S4 14 (Int32.toNatClampNeg x4_2) t23 := ⟨_, rfl⟩
        have hm := hm S26 e_S26
        have hw : wV D A s.heap ((pW cy aP e_P_judge S26) ++ (tW cy ali Sli)) H locs := by rw [e_S26]; exact hw
        obtain ⟨v27, e_v27⟩ : ∃ z : Int32, z = x4_2 + (-1) := ⟨_, rfl⟩
        have hm := hm v27 e_v27
        refine lv_iinc (v := v27) (lv' := [(4, .int v27), (3, .int t23), (0, .ref (aP 0)), (1, .ref (ali 0)), (2, .int x2)]) hx hb dX3_nameTellers_74 hl (k := 4) rfl (by rw [e_v27]; rfl) (by decide) rfl (fun ls hl => ?_)
        refine lv_goto (tgt := 10) hx hb dX3_nameTellers_77 (by decide) ?_
        exact ih5 _ _ _ hm _ _ _ hw (lv_sub hl [0, 1, 2, 3, 4] rfl)
      refine lv_if_eq (tgt := 53) hx hb dX3_nameTellers_35 (by decide) (fun c33 => ?_) (fun c33 => ?_)
      · have hm := hm.1 c33
        refine lv_aload_n hx hb dX3_nameTellers_53 rfl (lv_at hl 1 rfl) ?_
        refine lv_aload_n hx hb dX3_nameTellers_54 rfl (lv_at hl 2 rfl) ?_
        refine gN (k := 0) (host := "OlderTale") hc hw inX7 rfl 11 rfl (by decide) (nmm 170 (by decide +kernel)) rfl dX3_nameTellers_55 ?_
        refine lv_iload hx hb dX3_nameTellers_58 (lv_at hl 5 rfl) ?_
        obtain ⟨c28, hm⟩ := hm
        refine aI hc hw 12 rfl c28 rfl dX3_nameTellers_60 ?_
        refine lv_iload_n hx hb dX3_nameTellers_61 rfl (lv_at hl 4 rfl) ?_
        refine nV_I (As := [.int (Sli.2 0 (Int32.toNatClampNeg x4_2)), .int x3_3]) (rest := []) (wc := (pW cy aP e_P_judge S4)) (wr := (tW cy ali Sli)) (isC := [0, 1, 2, 3, 4, 5, 6, 7, 8, 9, 10]) (isR := [11, 12, 13, 14]) hc hw (c_X3_leaders hm) lk_X3_179 ⟨rfl, rfl, rfl, rfl, by decide⟩ rfl rfl ⟨Nat.le_of_ble_eq_true rfl, Nat.le_of_ble_eq_true rfl⟩ ⟨Nat.le_of_ble_eq_true rfl, Nat.le_of_ble_eq_true rfl⟩ hl.1 rfl (Nat.le_of_ble_eq_true rfl) rfl dX3_nameTellers_62 (fun r29 _ H locs hm hw => ?_)
        have hw : wV D A s.heap ((pW cy aP e_P_judge S4) ++ (tW cy ali Sli)) H locs := hw.perm [4, 5, 6, 7, 8, 9, 10, 11, 12, 13, 14, 0, 1, 2, 3] rfl rfl
        exact hJ24 _ hm _ _ _ hw (lv_sub hl [1, 2, 3, 5] rfl)
      · have hm := hm.2 c33
        refine lv_aload_n hx hb dX3_nameTellers_38 rfl (lv_at hl 1 rfl) ?_
        refine gF (k := 5) hc hw inX3 rfl 0 rfl (by decide) (gm 332 (by decide +kernel) rfl) rfl dX3_nameTellers_39 ?_
        refine lv_aload_n hx hb dX3_nameTellers_42 rfl (lv_at hl 2 rfl) ?_
        refine gN (k := 0) (host := "OlderTale") hc hw inX7 rfl 11 rfl (by decide) (nmm 170 (by decide +kernel)) rfl dX3_nameTellers_43 ?_
        refine lv_iload hx hb dX3_nameTellers_46 (lv_at hl 5 rfl) ?_
        obtain ⟨c31, hm⟩ := hm
        refine aI hc hw 12 rfl c31 rfl dX3_nameTellers_48 ?_
        obtain ⟨c32, hm⟩ := hm
        refine aI hc hw 5 rfl c32 rfl dX3_nameTellers_49 ?_
        refine lv_goto (tgt := 65) hx hb dX3_nameTellers_50 (by decide) ?_
        exact hJ24 _ hm _ _ _ hw (lv_sub hl [1, 2, 3, 5] rfl)
    refine lv_icmp_ne (tgt := 30) hx hb dX3_nameTellers_23 (by decide) (fun c34 => ?_) (fun c34 => ?_)
    · have hm := hm.1 c34
      refine lv_iconst (v := 0) hx hb dX3_nameTellers_30 (by decide) ?_
      exact hJ22 _ hm _ _ _ hw (lv_sub hl [2, 3, 4, 1, 0] rfl)
    · have hm := hm.2 c34
      refine lv_iconst (v := 1) hx hb dX3_nameTellers_26 (by decide) ?_
      refine lv_goto (tgt := 31) hx hb dX3_nameTellers_27 (by decide) ?_
      exact hJ22 _ hm _ _ _ hw (lv_sub hl [2, 3, 4, 1, 0] rfl)
