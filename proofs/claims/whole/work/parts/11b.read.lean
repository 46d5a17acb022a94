def optLw (cy : Nat → ClassId) (o : Option ((Nat → Nat) × Lw)) : va_W := match o with
  | none => []
  | some q => lwW cy q.1 q.2
theorem lk_X4_49 : lkV RX4 49 yX4_split cX4_split 8 none 2 := ⟨gm 612 (by decide +kernel) rfl, gm 615 (by decide +kernel) rfl, gm 130 (by decide +kernel) rfl, gm 614 (by decide +kernel) rfl, gm 20 (by decide +kernel) rfl, ⟨by decide, by decide, by decide +kernel⟩⟩
theorem lk_X4_53 : lkV RX4 53 yX4_clause cX4_clause 2 none 0 := ⟨gm 684 (by decide +kernel) rfl, gm 687 (by decide +kernel) rfl, gm 130 (by decide +kernel) rfl, gm 686 (by decide +kernel) rfl, gm 21 (by decide +kernel) rfl, ⟨by decide, by decide, by decide +kernel⟩⟩
theorem lk_X4_69 : lkS RX4 69 yJ7_copyOf_59c91 cJ7_copyOf_59c91 3 (some (.array .int)) 2 := ⟨gm 725 (by decide +kernel) rfl, gm 727 (by decide +kernel) rfl, gm 142 (by decide +kernel) rfl, gm 726 (by decide +kernel) rfl, ⟨by decide, by decide, by decide +kernel⟩⟩
theorem lk_X4_75 : lkIN RX4 75 yX2_init cX2_init 5 none 4 := ⟨nmm 739 (by decide +kernel), gm 741 (by decide +kernel) rfl, gm 141 (by decide +kernel) rfl, gm 740 (by decide +kernel) rfl, rfl, ⟨by decide, by decide, by decide +kernel⟩⟩
theorem lk_X8_153 : lkVN RX8 153 yX4_read cX4_read 5 (some (.object "OlderTale$Law")) 2 := ⟨nmm 608 (by decide +kernel), gm 611 (by decide +kernel) rfl, gm 130 (by decide +kernel) rfl, gm 610 (by decide +kernel) rfl, gm 19 (by decide +kernel) rfl, ⟨by decide, by decide, by decide +kernel⟩⟩
def w_X4_read (SR : Ob) (Stp : (Nat → Int32)) (x2 : Int32) (Q : Option Lw → Ob → Prop) : Prop :=
  w_X4_split SR Stp x2 (fun (S1 : Ob) => ∀ S3 : Ob, S3 = uS S1 3 0 → ∀ S4 : Ob, S4 = uS S3 6 0 → ∀ S5 : Ob, S5 = uS S4 9 0 → ∀ S6 : Ob, S6 = uS S5 10 0 → ∀ S7 : Ob, S7 = uS S6 11 (-1) → ∃ n, wl3 (fun L11 (x4_8 : Int32) (x3_9 : Int32) (S10 : Ob) => jn (fun (z12 : Unit) => w_X4_next S10 (fun (r14 : Int32) => jn (fun (S16 : Ob) => (((S16.1 11) = (-1) → ∃ j1 j2 : Nat, S16.1 6 = nI j1 ∧ j1 ≤ 12 ∧ S16.1 9 = nI j2 ∧ j2 ≤ 424 ∧ ∀ L : Lw, L.1 0 = j1 → L.1 1 = j1 → L.1 2 = j2 → L.1 3 = j2 → (∀ i, i < j1 → L.2 0 i = S16.2 4 i) → (∀ i, i < j1 → L.2 1 i = S16.2 5 i) → (∀ i, i < j2 → L.2 2 i = S16.2 7 i) → (∀ i, i < j2 → L.2 3 i = S16.2 8 i) → Q (some L) S16) ∧ (¬ (S16.1 11) = (-1) → Q none S16))) (fun J17 => ((r14 = 283 → J17 S10) ∧ (¬ r14 = 283 → w_X4_stop S10 (fun (S19 : Ob) => J17 S19)))))) (fun J13 => ((12 < x4_8 → J13 ()) ∧ (¬ 12 < x4_8 → ((x3_9 = 0 → J13 ()) ∧ (¬ x3_9 = 0 → w_X4_clause S10 (fun (S22 : Ob) => w_X4_takes S22 59 (fun (r24 : Int32) (S25 : Ob) => ∀ v27 : Int32, v27 = x4_8 + 1 → L11 v27 r24 S25)))))))) n 0 1 S7)
def w_X8_law (SO : Ob) (SR : Ob) (Stp : (Nat → Int32)) (SB : Ob) (Sls : (Nat → Option Nat)) (Q : Int32 → Option ((Nat → Nat) × Lw) → Ob → Ob → Ob → (Nat → Option Nat) → Prop) : Prop :=
  ∀ v1 : Int32, v1 = (SO.1 4) → ∀ S2 : Ob, S2 = uS SO 4 0 → (((SB.1 7) < 6 → w_X4_read SR Stp v1 (fun (o3 : Option Lw) (S4 : Ob) => (o3 = none → ∀ S7 : Ob, S7 = uS S2 6 (S4.1 11) → w_X8_refuse S7 (-6) (fun (r8 : Int32) (S9 : Ob) => Q r8 none S9 S4 SB Sls)) ∧ (∀ L : Lw, o3 = some L → ∀ wl : Nat → Nat, ∀ S11 : Ob, S11 = uS S2 6 (S4.1 11) → vp_in (SB.1 7) 6 ∧ ∀ S13 : (Nat → Option Nat), S13 = va_up Sls (Int32.toNatClampNeg (SB.1 7)) (some (wl 0)) → ∀ S14 : Ob, S14 = uS SB 7 ((SB.1 7) + 1) → w_X8_accept S11 ((S14.1 7) - 1) (fun (r15 : Int32) (S16 : Ob) => Q r15 (some (wl, L)) S16 S4 S14 S13)))) ∧ (¬ (SB.1 7) < 6 → w_X8_refuse S2 (-5) (fun (r18 : Int32) (S19 : Ob) => Q r18 none S19 SR SB Sls)))
set_option maxHeartbeats 4000000 in
set_option maxRecDepth 100000 in
theorem c_X4_read {l : Launch} {D : va_G} {cy : Nat → ClassId} {aR : Nat → Nat} {atp : Nat → Nat} {SR : Ob} {Stp : (Nat → Int32)} {x2 : Int32} {Q : Option Lw → Ob → Prop} (hm : w_X4_read SR Stp x2 Q) : CtQ l yX4_read cX4_read 5 (some (.object "OlderTale$Law")) (rmA 104 5 876) D cy [.ref (aR 0), .ref (atp 0), .int x2] ((rW cy aR SR) ++ (tpW cy atp Stp)) (fun u : Option ((Nat → Nat) × Lw) × Ob => (rW cy aR u.2 ++ (tpW cy atp Stp ++ optLw cy u.1))) (fun (r : Option Nat) (u : Option ((Nat → Nat) × Lw) × Ob) => r = u.1.map (fun q => q.1 0) ∧ Q (u.1.map Prod.snd) u.2) := by
  refine CtQ.ofW (by decide) (Nat.le_of_ble_eq_true rfl) ?_
  intro p e s m args below meth c A ls hc hnm hw hl
  have hx := hc.1.1
  have hb := hc.1.2.1
  have hown := hc.1.2.2.2.1
  have hts := hc.1.2.2.2.2
  have hl : lv_has ls 5 [(0, .ref (aR 0)), (1, .ref (atp 0)), (2, .int x2)] := hl
  obtain ⟨H, hH⟩ : ∃ z, z = s.heap := ⟨_, rfl⟩
  obtain ⟨locs, hLc⟩ : ∃ z : List Loc, z = [] := ⟨_, rfl⟩
  have hw : wV D A s.heap ((rW cy aR SR) ++ (tpW cy atp Stp)) H locs := by rw [hH, hLc]; exact hw
  have hgo : W p l e (rmA 104 5 876) s m args below meth c H locs 0 0 (MQ below (eQ D cy A (fun u : Option ((Nat → Nat) × Lw) × Ob => (rW cy aR u.2 ++ (tpW cy atp Stp ++ optLw cy u.1))) (fun (r : Option Nat) (u : Option ((Nat → Nat) × Lw) × Ob) => r = u.1.map (fun q => q.1 0) ∧ Q (u.1.map Prod.snd) u.2)) args s (rmA 104 5 876).cells (rmA 104 5 876).slots A) (F0 m 0 ls []) := ?hgo
  · rw [hH, hLc] at hgo; exact hgo
  refine lv_aload_n hx hb dX4_read_0 rfl (lv_at hl 0 rfl) ?_
  refine lv_aload_n hx hb dX4_read_1 rfl (lv_at hl 1 rfl) ?_
  refine lv_iload_n hx hb dX4_read_2 rfl (lv_at hl 2 rfl) ?_
  refine aV_V (As := [.ref (atp 0), .int x2]) (rest := []) hc hw (c_X4_split hm) lk_X4_49 rfl rfl ⟨by decide, by decide⟩ ⟨Nat.le_of_ble_eq_true rfl, Nat.le_of_ble_eq_true rfl⟩ hl.1 rfl (Nat.le_of_ble_eq_true rfl) rfl dX4_read_3 (fun S1 H locs hm hw => ?_)
  have hw : wV D A s.heap ((rW cy aR S1) ++ (tpW cy atp Stp)) H locs := hw
  refine lv_aload_n hx hb dX4_read_6 rfl (lv_at hl 0 rfl) ?_
  refine lv_iconst (v := 0) hx hb dX4_read_7 (by decide) ?_
  refine pF (k := 3) (ty := .int) hc hw inX4 tyX4_ok nmX4 rfl 0 rfl (by decide) (gm 267 (by decide +kernel) rfl) rfl (by decide +kernel) rfl rfl (Nat.le_of_ble_eq_true rfl) dX4_read_8 (fun H locs hw => ?_)
  obtain ⟨S3, e_S3⟩ : ∃ z : Ob, z = uS S1 3 0 := ⟨_, rfl⟩
  have hm := hm S3 e_S3
  have hw : wV D A s.heap ((rW cy aR S3) ++ (tpW cy atp Stp)) H locs := by rw [e_S3]; exact hw
  refine lv_aload_n hx hb dX4_read_11 rfl (lv_at hl 0 rfl) ?_
  refine lv_iconst (v := 0) hx hb dX4_read_12 (by decide) ?_
  refine pF (k := 6) (ty := .int) hc hw inX4 tyX4_ok nmX4 rfl 0 rfl (by decide) (gm 270 (by decide +kernel) rfl) rfl (by decide +kernel) rfl rfl (Nat.le_of_ble_eq_true rfl) dX4_read_13 (fun H locs hw => ?_)
  obtain ⟨S4, e_S4⟩ : ∃ z : Ob, z = uS S3 6 0 := ⟨_, rfl⟩
  have hm := hm S4 e_S4
  have hw : wV D A s.heap ((rW cy aR S4) ++ (tpW cy atp Stp)) H locs := by rw [e_S4]; exact hw
  refine lv_aload_n hx hb dX4_read_16 rfl (lv_at hl 0 rfl) ?_
  refine lv_iconst (v := 0) hx hb dX4_read_17 (by decide) ?_
  refine pF (k := 9) (ty := .int) hc hw inX4 tyX4_ok nmX4 rfl 0 rfl (by decide) (gm 273 (by decide +kernel) rfl) rfl (by decide +kernel) rfl rfl (Nat.le_of_ble_eq_true rfl) dX4_read_18 (fun H locs hw => ?_)
  obtain ⟨S5, e_S5⟩ : ∃ z : Ob, z = uS S4 9 0 := ⟨_, rfl⟩
  have hm := hm S5 e_S5
  have hw : wV D A s.heap ((rW cy aR S5) ++ (tpW cy atp Stp)) H locs := by rw [e_S5]; exact hw
  refine lv_aload_n hx hb dX4_read_21 rfl (lv_at hl 0 rfl) ?_
  refine lv_iconst (v := 0) hx hb dX4_read_22 (by decide) ?_
  refine pF (k := 10) (ty := .int) hc hw inX4 tyX4_ok nmX4 rfl 0 rfl (by decide) (gm 274 (by decide +kernel) rfl) rfl (by decide +kernel) rfl rfl (Nat.le_of_ble_eq_true rfl) dX4_read_23 (fun H locs hw => ?_)
  obtain ⟨S6, e_S6⟩ : ∃ z : Ob, z = uS S5 10 0 := ⟨_, rfl⟩
  have hm := hm S6 e_S6
  have hw : wV D A s.heap ((rW cy aR S6) ++ (tpW cy atp Stp)) H locs := by rw [e_S6]; exact hw
  refine lv_aload_n hx hb dX4_read_26 rfl (lv_at hl 0 rfl) ?_
  refine lv_iconst (v := (-1)) hx hb dX4_read_27 (by decide) ?_
  refine pF (k := 11) (ty := .int) hc hw inX4 tyX4_ok nmX4 rfl 0 rfl (by decide) (gm 275 (by decide +kernel) rfl) rfl (by decide +kernel) rfl rfl (Nat.le_of_ble_eq_true rfl) dX4_read_28 (fun H locs hw => ?_)
  obtain ⟨S7, e_S7⟩ : ∃ z : Ob, z = uS S6 11 (-1) := ⟨_, rfl⟩
  have hm := hm S7 e_S7
  have hw : wV D A s.heap ((rW cy aR S7) ++ (tpW cy atp Stp)) H locs := by rw [e_S7]; exact hw
  refine lv_iconst (v := 1) hx hb dX4_read_31 (by decide) ?_
  refine lv_istore_n (lv' := [(3, .int 1), (0, .ref (aR 0)), (1, .ref (atp 0)), (2, .int x2)]) hx hb dX4_read_32 rfl hl (by decide) rfl (fun ls hl => ?_)
  refine lv_iconst (v := 0) hx hb dX4_read_33 (by decide) ?_
  refine lv_istore (lv' := [(4, .int 0), (3, .int 1), (0, .ref (aR 0)), (1, .ref (atp 0)), (2, .int x2)]) hx hb dX4_read_34 hl (by decide) rfl (fun ls hl => ?_)
  refine wl3_ind (G := fun (x4_8 : Int32) (x3_9 : Int32) (S10 : Ob) => ∀ (H : Heap) (locs : List Loc) (ls : Array Slot), wV D A s.heap ((rW cy aR S10) ++ (tpW cy atp Stp)) H locs → lv_has ls 5 [(4, .int x4_8), (3, .int x3_9), (0, .ref (aR 0))] → W p l e (rmA 104 5 876) s m args below meth c H locs 0 0 (MQ below (eQ D cy A (fun u : Option ((Nat → Nat) × Lw) × Ob => (rW cy aR u.2 ++ (tpW cy atp Stp ++ optLw cy u.1))) (fun (r : Option Nat) (u : Option ((Nat → Nat) × Lw) × Ob) => r = u.1.map (fun q => q.1 0) ∧ Q (u.1.map Prod.snd) u.2)) args s (rmA 104 5 876).cells (rmA 104 5 876).slots A) (F0 m 36 ls [])) ?_ _ _ _ hm H locs ls hw (lv_sub hl [0, 1, 2] rfl)
  intro L11 ih11 x4_8 x3_9 S10 hm H locs ls hw hl
  refine lv_iload hx hb dX4_read_36 (lv_at hl 0 rfl) ?_
  refine lv_bipush (v := 12) hx hb dX4_read_38 (by decide) ?_
  obtain ⟨J13, eJ13, hm⟩ := jn_e hm
  have hJ13 : ∀ (z12 : Unit) (_ : J13 z12) (H : Heap) (locs : List Loc) (ls : Array Slot), wV D A s.heap ((rW cy aR S10) ++ (tpW cy atp Stp)) H locs → lv_has ls 5 [(0, .ref (aR 0))] → W p l e (rmA 104 5 876) s m args below meth c H locs 0 0 (MQ below (eQ D cy A (fun u : Option ((Nat → Nat) × Lw) × Ob => (rW cy aR u.2 ++ (tpW cy atp Stp ++ optLw cy u.1))) (fun (r : Option Nat) (u : Option ((Nat → Nat) × Lw) × Ob) => r = u.1.map (fun q => q.1 0) ∧ Q (u.1.map Prod.snd) u.2)) args s (rmA 104 5 876).cells (rmA 104 5 876).slots A) (F0 m 64 ls []) := by
    intro z12 hm H locs ls hw hl
    rw [eJ13] at hm
    refine lv_aload_n hx hb dX4_read_64 rfl (lv_at hl 0 rfl) ?_
    refine nV_I (As := []) (rest := []) (wc := (rW cy aR S10)) (wr := (tpW cy atp Stp)) (isC := [0, 1, 2, 3, 4, 5, 6, 7]) (isR := [8]) hc hw (c_X4_next hm) lk_X4_60 ⟨rfl, rfl, rfl, rfl, by decide⟩ rfl rfl ⟨by decide, by decide⟩ ⟨Nat.le_of_ble_eq_true rfl, Nat.le_of_ble_eq_true rfl⟩ hl.1 rfl (Nat.le_of_ble_eq_true rfl) rfl dX4_read_65 (fun r14 _ H locs hm hw => ?_)
    have hw : wV D A s.heap ((rW cy aR S10) ++ (tpW cy atp Stp)) H locs := hw.perm [1, 2, 3, 4, 5, 6, 7, 8, 0] rfl rfl
    refine lv_sipush (v := 283) hx hb dX4_read_68 (by decide) ?_
    obtain ⟨J17, eJ17, hm⟩ := jn_e hm
    have hJ17 : ∀ (S16 : Ob) (_ : J17 S16) (H : Heap) (locs : List Loc) (ls : Array Slot), wV D A s.heap ((rW cy aR S16) ++ (tpW cy atp Stp)) H locs → lv_has ls 5 [(0, .ref (aR 0))] → W p l e (rmA 104 5 876) s m args below meth c H locs 0 0 (MQ below (eQ D cy A (fun u : Option ((Nat → Nat) × Lw) × Ob => (rW cy aR u.2 ++ (tpW cy atp Stp ++ optLw cy u.1))) (fun (r : Option Nat) (u : Option ((Nat → Nat) × Lw) × Ob) => r = u.1.map (fun q => q.1 0) ∧ Q (u.1.map Prod.snd) u.2)) args s (rmA 104 5 876).cells (rmA 104 5 876).slots A) (F0 m 78 ls []) := by
      intro S16 hm H locs ls hw hl
      rw [eJ17] at hm
      refine lv_aload_n hx hb dX4_read_78 rfl (lv_at hl 0 rfl) ?_
      refine gF (k := 11) hc hw inX4 rfl 0 rfl (by decide) (gm 275 (by decide +kernel) rfl) rfl dX4_read_79 ?_
      refine lv_iconst (v := (-1)) hx hb dX4_read_82 (by decide) ?_
      refine lv_icmp_eq (tgt := 88) hx hb dX4_read_83 (by decide) (fun c18 => ?_) (fun c18 => ?_)
      · have hm := hm.1 c18
        obtain ⟨j1, j2, hj1, hk1, hj2, hk2, hm⟩ := hm
        refine nwO (ci := 2) (fs := [.null, .null, .null, .null]) hc hw inX2 tyX2_ok rfl (gm 724 (by decide +kernel) rfl) (gm 535 (by decide +kernel) rfl) (gm 141 (by decide +kernel) rfl) (fun j hj => by rcases (show j = 0 ∨ j = 1 ∨ j = 2 ∨ j = 3 by omega) with rfl | rfl | rfl | rfl <;> rfl) (by decide) (by decide) dX4_read_88 (fun q0 H hw => ?_)
        refine W.widen (k := 1) (n := 4) (by decide) (by decide) ?_
        replace hw : wV D A s.heap ((rW cy aR S16 ++ tpW cy atp Stp) ++ [(q0, .inr (2, [.null, .null, .null, .null]))]) H locs := hw
        refine lv_dup hx hb dX4_read_91 rfl ?_
        refine lv_aload_n hx hb dX4_read_92 rfl (lv_at hl 0 rfl) ?_
        refine gF (k := 4) hc hw inX4 rfl 0 rfl (by decide) (gm 268 (by decide +kernel) rfl) rfl dX4_read_93 ?_
        refine lv_aload_n hx hb dX4_read_96 rfl (lv_at hl 0 rfl) ?_
        refine gF (k := 6) hc hw inX4 rfl 0 rfl (by decide) (gm 270 (by decide +kernel) rfl) rfl dX4_read_97 ?_
        refine lv_topi (fun kk ek => ?_)
        have ek : kk = nI j1 := ek.trans hj1
        subst ek
        refine kS_Q (As := [.ref (aR 4), .int (nI j1)]) (rest := [.ref q0, .ref q0]) (wc := [(aR 4, .inl (cy 0, 12, .inl (S16.2 4)))]) (wr := [(aR 0, .inr (4, [.ref (aR 1), .ref (aR 2), .ref (aR 3), .int (S16.1 3), .ref (aR 4), .ref (aR 5), .int (S16.1 6), .ref (aR 6), .ref (aR 7), .int (S16.1 9), .int (S16.1 10), .int (S16.1 11)])), (aR 1, .inl (cy 0, 401, .inl (S16.2 0))), (aR 2, .inl (cy 0, 401, .inl (S16.2 1))), (aR 3, .inl (cy 0, 401, .inl (S16.2 2))), (aR 5, .inl (cy 0, 12, .inl (S16.2 5))), (aR 6, .inl (cy 0, 424, .inl (S16.2 7))), (aR 7, .inl (cy 0, 424, .inl (S16.2 8))), (atp 0, .inl (cy 0, 400, .inl Stp)), (q0, .inr (2, [.null, .null, .null, .null]))]) (isC := [4]) (isR := [0, 1, 2, 3, 5, 6, 7, 8, 9]) hc hw (c_copyOf hk1 (by decide)) lk_X4_69 ⟨rfl, rfl, rfl, rfl, by decide⟩ ⟨by decide, by decide⟩ ⟨by decide, by decide⟩ hl.1 rfl (Nat.le_of_ble_eq_true rfl) rfl dX4_read_100 (fun r0 u0 H locs hq hw => ?_)
        obtain ⟨w0, g0⟩ := u0
        obtain ⟨hr, hg0⟩ := hq
        replace hr : r0 = some w0 := hr
        subst hr
        refine W.widen (k := 2) (n := 16) (by decide) (by decide) ?_
        replace hw : wV D A s.heap ((rW cy aR S16 ++ tpW cy atp Stp) ++ [(q0, .inr (2, [.null, .null, .null, .null])), (w0, .inl (cy 0, j1, .inl g0))]) H locs := hw.perm [0, 1, 2, 3, 9, 4, 5, 6, 7, 8, 10] rfl rfl
        refine W.eq (g2 := F0 m 103 ls [.ref w0, .ref q0, .ref q0]) rfl ?_
        refine lv_aload_n hx hb dX4_read_103 rfl (lv_at hl 0 rfl) ?_
        refine gF (k := 5) hc hw inX4 rfl 0 rfl (by decide) (gm 269 (by decide +kernel) rfl) rfl dX4_read_104 ?_
        refine lv_aload_n hx hb dX4_read_107 rfl (lv_at hl 0 rfl) ?_
        refine gF (k := 6) hc hw inX4 rfl 0 rfl (by decide) (gm 270 (by decide +kernel) rfl) rfl dX4_read_108 ?_
        refine lv_topi (fun kk ek => ?_)
        have ek : kk = nI j1 := ek.trans hj1
        subst ek
        refine kS_Q (As := [.ref (aR 5), .int (nI j1)]) (rest := [.ref w0, .ref q0, .ref q0]) (wc := [(aR 5, .inl (cy 0, 12, .inl (S16.2 5)))]) (wr := [(aR 0, .inr (4, [.ref (aR 1), .ref (aR 2), .ref (aR 3), .int (S16.1 3), .ref (aR 4), .ref (aR 5), .int (S16.1 6), .ref (aR 6), .ref (aR 7), .int (S16.1 9), .int (S16.1 10), .int (S16.1 11)])), (aR 1, .inl (cy 0, 401, .inl (S16.2 0))), (aR 2, .inl (cy 0, 401, .inl (S16.2 1))), (aR 3, .inl (cy 0, 401, .inl (S16.2 2))), (aR 4, .inl (cy 0, 12, .inl (S16.2 4))), (aR 6, .inl (cy 0, 424, .inl (S16.2 7))), (aR 7, .inl (cy 0, 424, .inl (S16.2 8))), (atp 0, .inl (cy 0, 400, .inl Stp)), (q0, .inr (2, [.null, .null, .null, .null])), (w0, .inl (cy 0, j1, .inl g0))]) (isC := [5]) (isR := [0, 1, 2, 3, 4, 6, 7, 8, 9, 10]) hc hw (c_copyOf hk1 (by decide)) lk_X4_69 ⟨rfl, rfl, rfl, rfl, by decide⟩ ⟨by decide, by decide⟩ ⟨by decide, by decide⟩ hl.1 rfl (Nat.le_of_ble_eq_true rfl) rfl dX4_read_111 (fun r1 u1 H locs hq hw => ?_)
        obtain ⟨w1, g1⟩ := u1
        obtain ⟨hr, hg1⟩ := hq
        replace hr : r1 = some w1 := hr
        subst hr
        refine W.widen (k := 3) (n := 28) (by decide) (by decide) ?_
        replace hw : wV D A s.heap ((rW cy aR S16 ++ tpW cy atp Stp) ++ [(q0, .inr (2, [.null, .null, .null, .null])), (w0, .inl (cy 0, j1, .inl g0)), (w1, .inl (cy 0, j1, .inl g1))]) H locs := hw.perm [0, 1, 2, 3, 4, 10, 5, 6, 7, 8, 9, 11] rfl rfl
        refine W.eq (g2 := F0 m 114 ls [.ref w1, .ref w0, .ref q0, .ref q0]) rfl ?_
        refine lv_aload_n hx hb dX4_read_114 rfl (lv_at hl 0 rfl) ?_
        refine gF (k := 7) hc hw inX4 rfl 0 rfl (by decide) (gm 271 (by decide +kernel) rfl) rfl dX4_read_115 ?_
        refine lv_aload_n hx hb dX4_read_118 rfl (lv_at hl 0 rfl) ?_
        refine gF (k := 9) hc hw inX4 rfl 0 rfl (by decide) (gm 273 (by decide +kernel) rfl) rfl dX4_read_119 ?_
        refine lv_topi (fun kk ek => ?_)
        have ek : kk = nI j2 := ek.trans hj2
        subst ek
        refine kS_Q (As := [.ref (aR 6), .int (nI j2)]) (rest := [.ref w1, .ref w0, .ref q0, .ref q0]) (wc := [(aR 6, .inl (cy 0, 424, .inl (S16.2 7)))]) (wr := [(aR 0, .inr (4, [.ref (aR 1), .ref (aR 2), .ref (aR 3), .int (S16.1 3), .ref (aR 4), .ref (aR 5), .int (S16.1 6), .ref (aR 6), .ref (aR 7), .int (S16.1 9), .int (S16.1 10), .int (S16.1 11)])), (aR 1, .inl (cy 0, 401, .inl (S16.2 0))), (aR 2, .inl (cy 0, 401, .inl (S16.2 1))), (aR 3, .inl (cy 0, 401, .inl (S16.2 2))), (aR 4, .inl (cy 0, 12, .inl (S16.2 4))), (aR 5, .inl (cy 0, 12, .inl (S16.2 5))), (aR 7, .inl (cy 0, 424, .inl (S16.2 8))), (atp 0, .inl (cy 0, 400, .inl Stp)), (q0, .inr (2, [.null, .null, .null, .null])), (w0, .inl (cy 0, j1, .inl g0)), (w1, .inl (cy 0, j1, .inl g1))]) (isC := [6]) (isR := [0, 1, 2, 3, 4, 5, 7, 8, 9, 10, 11]) hc hw (c_copyOf hk2 (by decide)) lk_X4_69 ⟨rfl, rfl, rfl, rfl, by decide⟩ ⟨by decide, by decide⟩ ⟨by decide, by decide⟩ hl.1 rfl (Nat.le_of_ble_eq_true rfl) rfl dX4_read_122 (fun r2 u2 H locs hq hw => ?_)
        obtain ⟨w2, g2⟩ := u2
        obtain ⟨hr, hg2⟩ := hq
        replace hr : r2 = some w2 := hr
        subst hr
        refine W.widen (k := 4) (n := 452) (by decide) (by decide) ?_
        replace hw : wV D A s.heap ((rW cy aR S16 ++ tpW cy atp Stp) ++ [(q0, .inr (2, [.null, .null, .null, .null])), (w0, .inl (cy 0, j1, .inl g0)), (w1, .inl (cy 0, j1, .inl g1)), (w2, .inl (cy 0, j2, .inl g2))]) H locs := hw.perm [0, 1, 2, 3, 4, 5, 11, 6, 7, 8, 9, 10, 12] rfl rfl
        refine W.eq (g2 := F0 m 125 ls [.ref w2, .ref w1, .ref w0, .ref q0, .ref q0]) rfl ?_
        refine lv_aload_n hx hb dX4_read_125 rfl (lv_at hl 0 rfl) ?_
        refine gF (k := 8) hc hw inX4 rfl 0 rfl (by decide) (gm 272 (by decide +kernel) rfl) rfl dX4_read_126 ?_
        refine lv_aload_n hx hb dX4_read_129 rfl (lv_at hl 0 rfl) ?_
        refine gF (k := 9) hc hw inX4 rfl 0 rfl (by decide) (gm 273 (by decide +kernel) rfl) rfl dX4_read_130 ?_
        refine lv_topi (fun kk ek => ?_)
        have ek : kk = nI j2 := ek.trans hj2
        subst ek
        refine kS_Q (As := [.ref (aR 7), .int (nI j2)]) (rest := [.ref w2, .ref w1, .ref w0, .ref q0, .ref q0]) (wc := [(aR 7, .inl (cy 0, 424, .inl (S16.2 8)))]) (wr := [(aR 0, .inr (4, [.ref (aR 1), .ref (aR 2), .ref (aR 3), .int (S16.1 3), .ref (aR 4), .ref (aR 5), .int (S16.1 6), .ref (aR 6), .ref (aR 7), .int (S16.1 9), .int (S16.1 10), .int (S16.1 11)])), (aR 1, .inl (cy 0, 401, .inl (S16.2 0))), (aR 2, .inl (cy 0, 401, .inl (S16.2 1))), (aR 3, .inl (cy 0, 401, .inl (S16.2 2))), (aR 4, .inl (cy 0, 12, .inl (S16.2 4))), (aR 5, .inl (cy 0, 12, .inl (S16.2 5))), (aR 6, .inl (cy 0, 424, .inl (S16.2 7))), (atp 0, .inl (cy 0, 400, .inl Stp)), (q0, .inr (2, [.null, .null, .null, .null])), (w0, .inl (cy 0, j1, .inl g0)), (w1, .inl (cy 0, j1, .inl g1)), (w2, .inl (cy 0, j2, .inl g2))]) (isC := [7]) (isR := [0, 1, 2, 3, 4, 5, 6, 8, 9, 10, 11, 12]) hc hw (c_copyOf hk2 (by decide)) lk_X4_69 ⟨rfl, rfl, rfl, rfl, by decide⟩ ⟨by decide, by decide⟩ ⟨by decide, by decide⟩ hl.1 rfl (Nat.le_of_ble_eq_true rfl) rfl dX4_read_133 (fun r3 u3 H locs hq hw => ?_)
        obtain ⟨w3, g3⟩ := u3
        obtain ⟨hr, hg3⟩ := hq
        replace hr : r3 = some w3 := hr
        subst hr
        refine W.widen (k := 5) (n := 876) (by decide) (by decide) ?_
        replace hw : wV D A s.heap ((rW cy aR S16 ++ tpW cy atp Stp) ++ [(q0, .inr (2, [.null, .null, .null, .null])), (w0, .inl (cy 0, j1, .inl g0)), (w1, .inl (cy 0, j1, .inl g1)), (w2, .inl (cy 0, j2, .inl g2)), (w3, .inl (cy 0, j2, .inl g3))]) H locs := hw.perm [0, 1, 2, 3, 4, 5, 6, 12, 7, 8, 9, 10, 11, 13] rfl rfl
        refine W.eq (g2 := F0 m 136 ls [.ref w3, .ref w2, .ref w1, .ref w0, .ref q0, .ref q0]) rfl ?_
        refine kIN_V (As := [.ref w0, .ref w1, .ref w2, .ref w3]) (rest := [.ref q0]) (wc := [(q0, .inr (2, [.null, .null, .null, .null]))]) (wr := ((rW cy aR S16 ++ tpW cy atp Stp) ++ [(w0, .inl (cy 0, j1, .inl g0)), (w1, .inl (cy 0, j1, .inl g1)), (w2, .inl (cy 0, j2, .inl g2)), (w3, .inl (cy 0, j2, .inl g3))])) (isC := [9]) (isR := [0, 1, 2, 3, 4, 5, 6, 7, 8, 10, 11, 12, 13]) hc hw (c_X2_init) lk_X4_75 ⟨rfl, rfl, rfl, rfl, by decide⟩ ⟨by decide, by decide⟩ ⟨by decide, by decide⟩ hl.1 rfl (Nat.le_of_ble_eq_true rfl) rfl dX4_read_136 (fun _ H locs _ hw => ?_)
        refine W.widen (k := 5) (n := 876) (by decide) (by decide) ?_
        replace hw : wV D A s.heap ((fun u : Option ((Nat → Nat) × Lw) × Ob => (rW cy aR u.2 ++ (tpW cy atp Stp ++ optLw cy u.1))) (some ((fun i => [q0, w0, w1, w2, w3].getD i 0), ((fun k => if k < 2 then j1 else j2), fun k => [g0, g1, g2, g3].getD k g0)), S16)) H locs := hw.perm [0, 1, 2, 3, 4, 5, 6, 7, 8, 13, 9, 10, 11, 12] rfl rfl
        exact retQ (r := some q0) (u := (some ((fun i => [q0, w0, w1, w2, w3].getD i 0), ((fun k => if k < 2 then j1 else j2), fun k => [g0, g1, g2, g3].getD k g0)), S16)) hc hw ⟨rfl, hm ((fun k => if k < 2 then j1 else j2), fun k => [g0, g1, g2, g3].getD k g0) rfl rfl rfl rfl hg0 hg1 hg2 hg3⟩ rfl dX4_read_139
      · have hm := hm.2 c18
        refine lv_null hx hb dX4_read_86 ?_
        refine W.widen (k := 5) (n := 876) (by decide) (by decide) ?_
        exact retQ (r := none) (u := (none, S16)) hc hw ⟨rfl, hm⟩ rfl dX4_read_87
    refine lv_icmp_eq (tgt := 78) hx hb dX4_read_71 (by decide) (fun c21 => ?_) (fun c21 => ?_)
    · have hm := hm.1 c21
      exact hJ17 _ hm _ _ _ hw (lv_sub hl [0] rfl)
    · have hm := hm.2 c21
      refine lv_aload_n hx hb dX4_read_74 rfl (lv_at hl 0 rfl) ?_
      refine nV_V (As := []) (rest := []) (wc := (rW cy aR S10)) (wr := (tpW cy atp Stp)) (isC := [0, 1, 2, 3, 4, 5, 6, 7]) (isR := [8]) hc hw (c_X4_stop hm) lk_X4_64 ⟨rfl, rfl, rfl, rfl, by decide⟩ rfl rfl ⟨by decide, by decide⟩ ⟨Nat.le_of_ble_eq_true rfl, Nat.le_of_ble_eq_true rfl⟩ hl.1 rfl (Nat.le_of_ble_eq_true rfl) rfl dX4_read_75 (fun S19 H locs hm hw => ?_)
      have hw : wV D A s.heap ((rW cy aR S19) ++ (tpW cy atp Stp)) H locs := hw.perm [1, 2, 3, 4, 5, 6, 7, 8, 0] rfl rfl
      exact hJ17 _ hm _ _ _ hw (lv_sub hl [0] rfl)
  refine lv_icmp_gt (tgt := 64) hx hb dX4_read_40 (by decide) (fun c29 => ?_) (fun c29 => ?_)
  · have hm := hm.1 c29
    exact hJ13 _ hm _ _ _ hw (lv_sub hl [2] rfl)
  · have hm := hm.2 c29
    refine lv_iload_n hx hb dX4_read_43 rfl (lv_at hl 1 rfl) ?_
    refine lv_if_eq (tgt := 64) hx hb dX4_read_44 (by decide) (fun c28 => ?_) (fun c28 => ?_)
    · have hm := hm.1 c28
      exact hJ13 _ hm _ _ _ hw (lv_sub hl [2] rfl)
    · have hm := hm.2 c28
      refine lv_aload_n hx hb dX4_read_47 rfl (lv_at hl 2 rfl) ?_
      refine nV_V (As := []) (rest := []) (wc := (rW cy aR S10)) (wr := (tpW cy atp Stp)) (isC := [0, 1, 2, 3, 4, 5, 6, 7]) (isR := [8]) hc hw (c_X4_clause hm) lk_X4_53 ⟨rfl, rfl, rfl, rfl, by decide⟩ rfl rfl ⟨by decide, by decide⟩ ⟨Nat.le_of_ble_eq_true rfl, Nat.le_of_ble_eq_true rfl⟩ hl.1 rfl (Nat.le_of_ble_eq_true rfl) rfl dX4_read_48 (fun S22 H locs hm hw => ?_)
      have hw : wV D A s.heap ((rW cy aR S22) ++ (tpW cy atp Stp)) H locs := hw.perm [1, 2, 3, 4, 5, 6, 7, 8, 0] rfl rfl
      refine lv_aload_n hx hb dX4_read_51 rfl (lv_at hl 2 rfl) ?_
      refine lv_bipush (v := 59) hx hb dX4_read_52 (by decide) ?_
      refine nV_I (As := [.int 59]) (rest := []) (wc := (rW cy aR S22)) (wr := (tpW cy atp Stp)) (isC := [0, 1, 2, 3, 4, 5, 6, 7]) (isR := [8]) hc hw (c_X4_takes hm) lk_X4_56 ⟨rfl, rfl, rfl, rfl, by decide⟩ rfl rfl ⟨by decide, by decide⟩ ⟨Nat.le_of_ble_eq_true rfl, Nat.le_of_ble_eq_true rfl⟩ hl.1 rfl (Nat.le_of_ble_eq_true rfl) rfl dX4_read_54 (fun r24 S25 H locs hm hw => ?_)
      have hw : wV D A s.heap ((rW cy aR S25) ++ (tpW cy atp Stp)) H locs := hw.perm [1, 2, 3, 4, 5, 6, 7, 8, 0] rfl rfl
      refine lv_istore_n (lv' := [(3, .int r24), (4, .int x4_8), (0, .ref (aR 0))]) hx hb dX4_read_57 rfl hl (by decide) rfl (fun ls hl => ?_)
      obtain ⟨v27, e_v27⟩ : ∃ z : Int32, z = x4_8 + 1 := ⟨_, rfl⟩
      have hm := hm v27 e_v27
      refine lv_iinc (v := v27) (lv' := [(4, .int v27), (3, .int r24), (0, .ref (aR 0))]) hx hb dX4_read_58 hl (k := 1) rfl (by rw [e_v27]; rfl) (by decide) rfl (fun ls hl => ?_)
      refine lv_goto (tgt := 36) hx hb dX4_read_61 (by decide) ?_
      exact ih11 _ _ _ hm _ _ _ hw (lv_sub hl [0, 1, 2] rfl)
set_option maxHeartbeats 4000000 in
set_option maxRecDepth 100000 in
theorem c_X8_law {l : Launch} {D : va_G} {cy : Nat → ClassId} {aO : Nat → Nat} {aR : Nat → Nat} {atp : Nat → Nat} {aB : Nat → Nat} {als : Nat → Nat} {e_O_images : Nat} {e_O_plan : Nat} {e_O_trial : Option Nat} {e_O_season : Option Nat} {e_O_dates : Nat} {e_O_line : Nat} {e_O_evening : Nat} {e_O_choices : Nat} {e_B_told : Nat} {e_B_mentions : Nat} {e_B_claims : Nat} {SO : Ob} {SR : Ob} {Stp : (Nat → Int32)} {SB : Ob} {Sls : (Nat → Option Nat)} {Q : Int32 → Option ((Nat → Nat) × Lw) → Ob → Ob → Ob → (Nat → Option Nat) → Prop} (hm : w_X8_law SO SR Stp SB Sls Q) : CtI l yX8_law cX8_law 3 (some .int) (rmA 107 5 876) D cy [.ref (aO 0)] ((oW cy aO (aB 0) e_O_images (atp 0) (aR 0) e_O_plan e_O_trial e_O_season e_O_dates e_O_line e_O_evening e_O_choices SO) ++ ((rW cy aR SR) ++ ((tpW cy atp Stp) ++ ((bW cy aB (als 0) e_B_told e_B_mentions e_B_claims SB) ++ (lsW cy als Sls))))) (fun u : Option ((Nat → Nat) × Lw) × Ob × Ob × Ob × (Nat → Option Nat) => ((oW cy aO (aB 0) e_O_images (atp 0) (aR 0) e_O_plan e_O_trial e_O_season e_O_dates e_O_line e_O_evening e_O_choices u.2.1) ++ ((rW cy aR u.2.2.1) ++ ((tpW cy atp Stp) ++ ((bW cy aB (als 0) e_B_told e_B_mentions e_B_claims u.2.2.2.1) ++ ((lsW cy als u.2.2.2.2) ++ (optLw cy u.1))))))) (fun (r : Int32) (u : Option ((Nat → Nat) × Lw) × Ob × Ob × Ob × (Nat → Option Nat)) => Q r u.1 u.2.1 u.2.2.1 u.2.2.2.1 u.2.2.2.2) := by
  refine CtI.ofW (by decide) (Nat.le_of_ble_eq_true rfl) ?_
  intro p e s m args below meth c A ls hc hnm hw hl
  have hx := hc.1.1
  have hb := hc.1.2.1
  have hown := hc.1.2.2.2.1
  have hts := hc.1.2.2.2.2
  have hl : lv_has ls 3 [(0, .ref (aO 0))] := hl
  obtain ⟨H, hH⟩ : ∃ z, z = s.heap := ⟨_, rfl⟩
  obtain ⟨locs, hLc⟩ : ∃ z : List Loc, z = [] := ⟨_, rfl⟩
  have hw : wV D A s.heap ((oW cy aO (aB 0) e_O_images (atp 0) (aR 0) e_O_plan e_O_trial e_O_season e_O_dates e_O_line e_O_evening e_O_choices SO) ++ ((rW cy aR SR) ++ ((tpW cy atp Stp) ++ ((bW cy aB (als 0) e_B_told e_B_mentions e_B_claims SB) ++ (lsW cy als Sls))))) H locs := by rw [hH, hLc]; exact hw
  have hgo : W p l e (rmA 107 5 876) s m args below meth c H locs 0 0 (MQ below (eI D cy A (fun u : Option ((Nat → Nat) × Lw) × Ob × Ob × Ob × (Nat → Option Nat) => ((oW cy aO (aB 0) e_O_images (atp 0) (aR 0) e_O_plan e_O_trial e_O_season e_O_dates e_O_line e_O_evening e_O_choices u.2.1) ++ ((rW cy aR u.2.2.1) ++ ((tpW cy atp Stp) ++ ((bW cy aB (als 0) e_B_told e_B_mentions e_B_claims u.2.2.2.1) ++ ((lsW cy als u.2.2.2.2) ++ (optLw cy u.1))))))) (fun (r : Int32) (u : Option ((Nat → Nat) × Lw) × Ob × Ob × Ob × (Nat → Option Nat)) => Q r u.1 u.2.1 u.2.2.1 u.2.2.2.1 u.2.2.2.2)) args s (rmA 107 5 876).cells (rmA 107 5 876).slots A) (F0 m 0 ls []) := ?hgo
  · rw [hH, hLc] at hgo; exact hgo
  refine lv_aload_n hx hb dX8_law_0 rfl (lv_at hl 0 rfl) ?_
  refine gF (k := 4) hc hw inX8 rfl 0 rfl (by decide) (gm 419 (by decide +kernel) rfl) rfl dX8_law_1 ?_
  refine lv_topi (fun v1 e_v1 => ?_)
  have hm := hm v1 e_v1
  refine lv_istore_n (lv' := [(1, .int v1), (0, .ref (aO 0))]) hx hb dX8_law_4 rfl hl (by decide) rfl (fun ls hl => ?_)
  refine lv_aload_n hx hb dX8_law_5 rfl (lv_at hl 1 rfl) ?_
  refine lv_iconst (v := 0) hx hb dX8_law_6 (by decide) ?_
  refine pF (k := 4) (ty := .int) hc hw inX8 tyX8_ok nmX8 rfl 0 rfl (by decide) (gm 419 (by decide +kernel) rfl) rfl (by decide +kernel) rfl rfl (Nat.le_of_ble_eq_true rfl) dX8_law_7 (fun H locs hw => ?_)
  obtain ⟨S2, e_S2⟩ : ∃ z : Ob, z = uS SO 4 0 := ⟨_, rfl⟩
  have hm := hm S2 e_S2
  have hw : wV D A s.heap ((oW cy aO (aB 0) e_O_images (atp 0) (aR 0) e_O_plan e_O_trial e_O_season e_O_dates e_O_line e_O_evening e_O_choices S2) ++ ((rW cy aR SR) ++ ((tpW cy atp Stp) ++ ((bW cy aB (als 0) e_B_told e_B_mentions e_B_claims SB) ++ (lsW cy als Sls))))) H locs := by rw [e_S2]; exact hw
  refine lv_aload_n hx hb dX8_law_10 rfl (lv_at hl 1 rfl) ?_
  refine gF (k := 0) hc hw inX8 rfl 0 rfl (by decide) (gm 415 (by decide +kernel) rfl) rfl dX8_law_11 ?_
  refine gN (k := 7) (host := "OlderTale") hc hw inX6 rfl 12 rfl (by decide) (nmm 222 (by decide +kernel)) rfl dX8_law_14 ?_
  refine lv_bipush (v := 6) hx hb dX8_law_17 (by decide) ?_
  refine lv_icmp_lt (tgt := 29) hx hb dX8_law_19 (by decide) (fun c21 => ?_) (fun c21 => ?_)
  · have hm := hm.1 c21
    refine lv_aload_n hx hb dX8_law_29 rfl (lv_at hl 1 rfl) ?_
    refine gF (k := 5) hc hw inX8 rfl 0 rfl (by decide) (gm 420 (by decide +kernel) rfl) rfl dX8_law_30 ?_
    refine lv_aload_n hx hb dX8_law_33 rfl (lv_at hl 1 rfl) ?_
    refine gF (k := 3) hc hw inX8 rfl 0 rfl (by decide) (gm 418 (by decide +kernel) rfl) rfl dX8_law_34 ?_
    refine lv_iload_n hx hb dX8_law_37 rfl (lv_at hl 0 rfl) ?_
    refine kVN_Q (As := [.ref (atp 0), .int v1]) (rest := []) (wc := ((rW cy aR SR) ++ (tpW cy atp Stp))) (wr := ((oW cy aO (aB 0) e_O_images (atp 0) (aR 0) e_O_plan e_O_trial e_O_season e_O_dates e_O_line e_O_evening e_O_choices S2) ++ ((bW cy aB (als 0) e_B_told e_B_mentions e_B_claims SB) ++ (lsW cy als Sls)))) (isC := [3, 4, 5, 6, 7, 8, 9, 10, 11]) (isR := [0, 1, 2, 12, 13, 14, 15, 16, 17, 18]) hc hw (c_X4_read hm) lk_X8_153 ⟨rfl, rfl, rfl, rfl, by decide⟩ rfl rfl ⟨by decide, by decide⟩ ⟨by decide, by decide⟩ hl.1 rfl (Nat.le_of_ble_eq_true rfl) rfl dX8_law_38 (fun r5 u6 H locs hm hw => ?_)
    refine W.widen (k := 5) (n := 876) (by decide) (by decide) ?_
    obtain ⟨o3, S4⟩ := u6
    obtain ⟨hr, hm⟩ := hm
    cases o3 with
    | none =>
      replace hr : r5 = none := hr
      subst hr
      have hm := hm.1 rfl
      replace hw : wV D A s.heap ((oW cy aO (aB 0) e_O_images (atp 0) (aR 0) e_O_plan e_O_trial e_O_season e_O_dates e_O_line e_O_evening e_O_choices S2) ++ ((rW cy aR S4) ++ ((tpW cy atp Stp) ++ ((bW cy aB (als 0) e_B_told e_B_mentions e_B_claims SB) ++ (lsW cy als Sls))))) H locs := hw.perm [0, 1, 2, 10, 11, 12, 13, 14, 15, 16, 17, 18, 3, 4, 5, 6, 7, 8, 9] rfl rfl
      refine W.eq (g2 := F0 m 41 ls [.null]) rfl ?_
      refine lv_astore_nN (lv' := [(2, .null), (1, .int v1), (0, .ref (aO 0))]) hx hb dX8_law_41 rfl hl (by decide) rfl (fun ls hl => ?_)
      refine lv_aload_n hx hb dX8_law_42 rfl (lv_at hl 2 rfl) ?_
      refine lv_aload_n hx hb dX8_law_43 rfl (lv_at hl 2 rfl) ?_
      refine gF (k := 5) hc hw inX8 rfl 0 rfl (by decide) (gm 420 (by decide +kernel) rfl) rfl dX8_law_44 ?_
      refine gN (k := 11) (host := "OlderTale") hc hw inX4 rfl 3 rfl (by decide) (nmm 276 (by decide +kernel)) rfl dX8_law_47 ?_
      refine pF (k := 6) (ty := .int) hc hw inX8 tyX8_ok nmX8 rfl 0 rfl (by decide) (gm 421 (by decide +kernel) rfl) rfl (by decide +kernel) rfl rfl (Nat.le_of_ble_eq_true rfl) dX8_law_50 (fun H locs hw => ?_)
      obtain ⟨S7, e_S7⟩ : ∃ z : Ob, z = uS S2 6 (S4.1 11) := ⟨_, rfl⟩
      have hm := hm S7 e_S7
      have hw : wV D A s.heap ((oW cy aO (aB 0) e_O_images (atp 0) (aR 0) e_O_plan e_O_trial e_O_season e_O_dates e_O_line e_O_evening e_O_choices S7) ++ ((rW cy aR S4) ++ ((tpW cy atp Stp) ++ ((bW cy aB (als 0) e_B_told e_B_mentions e_B_claims SB) ++ (lsW cy als Sls))))) H locs := by rw [e_S7]; exact hw
      refine lv_aload_nN hx hb dX8_law_53 rfl (lv_at hl 0 rfl) ?_
      refine lv_ifnonnullN hx hb dX8_law_54 ?_
      refine lv_aload_n hx hb dX8_law_57 rfl (lv_at hl 2 rfl) ?_
      refine lv_bipush (v := (-6)) hx hb dX8_law_58 (by decide) ?_
      refine nV_I (As := [.int (-6)]) (rest := []) (wc := (oW cy aO (aB 0) e_O_images (atp 0) (aR 0) e_O_plan e_O_trial e_O_season e_O_dates e_O_line e_O_evening e_O_choices S7)) (wr := ((rW cy aR S4) ++ ((tpW cy atp Stp) ++ ((bW cy aB (als 0) e_B_told e_B_mentions e_B_claims SB) ++ (lsW cy als Sls))))) (isC := [0, 1, 2]) (isR := [3, 4, 5, 6, 7, 8, 9, 10, 11, 12, 13, 14, 15, 16, 17, 18]) hc hw (c_X8_refuse hm) lk_X8_89 ⟨rfl, rfl, rfl, rfl, by decide⟩ rfl rfl ⟨by decide, by decide⟩ ⟨Nat.le_of_ble_eq_true rfl, Nat.le_of_ble_eq_true rfl⟩ hl.1 rfl (Nat.le_of_ble_eq_true rfl) rfl dX8_law_60 (fun r8 S9 H locs hm hw => ?_)
      have hw : wV D A s.heap ((oW cy aO (aB 0) e_O_images (atp 0) (aR 0) e_O_plan e_O_trial e_O_season e_O_dates e_O_line e_O_evening e_O_choices S9) ++ ((rW cy aR S4) ++ ((tpW cy atp Stp) ++ ((bW cy aB (als 0) e_B_told e_B_mentions e_B_claims SB) ++ (lsW cy als Sls))))) H locs := hw.perm [16, 17, 18, 0, 1, 2, 3, 4, 5, 6, 7, 8, 9, 10, 11, 12, 13, 14, 15] rfl rfl
      refine W.widen (k := 5) (n := 876) (by decide) (by decide) ?_
      exact retI (u := (none, S9, S4, SB, Sls)) hc hw hm dX8_law_63
    | some q =>
      obtain ⟨wl, L⟩ := q
      replace hr : r5 = some (wl 0) := hr
      subst hr
      have hm := hm.2 L rfl wl
      replace hw : wV D A s.heap ((oW cy aO (aB 0) e_O_images (atp 0) (aR 0) e_O_plan e_O_trial e_O_season e_O_dates e_O_line e_O_evening e_O_choices S2) ++ ((rW cy aR S4) ++ ((tpW cy atp Stp) ++ ((bW cy aB (als 0) e_B_told e_B_mentions e_B_claims SB) ++ ((lsW cy als Sls) ++ (lwW cy wl L)))))) H locs := hw.perm [0, 1, 2, 10, 11, 12, 13, 14, 15, 16, 17, 18, 3, 4, 5, 6, 7, 8, 9, 19, 20, 21, 22, 23] rfl rfl
      refine W.eq (g2 := F0 m 41 ls [.ref (wl 0)]) rfl ?_
      refine lv_astore_n (lv' := [(2, .ref (wl 0)), (1, .int v1), (0, .ref (aO 0))]) hx hb dX8_law_41 rfl hl (by decide) rfl (fun ls hl => ?_)
      refine lv_aload_n hx hb dX8_law_42 rfl (lv_at hl 2 rfl) ?_
      refine lv_aload_n hx hb dX8_law_43 rfl (lv_at hl 2 rfl) ?_
      refine gF (k := 5) hc hw inX8 rfl 0 rfl (by decide) (gm 420 (by decide +kernel) rfl) rfl dX8_law_44 ?_
      refine gN (k := 11) (host := "OlderTale") hc hw inX4 rfl 3 rfl (by decide) (nmm 276 (by decide +kernel)) rfl dX8_law_47 ?_
      refine pF (k := 6) (ty := .int) hc hw inX8 tyX8_ok nmX8 rfl 0 rfl (by decide) (gm 421 (by decide +kernel) rfl) rfl (by decide +kernel) rfl rfl (Nat.le_of_ble_eq_true rfl) dX8_law_50 (fun H locs hw => ?_)
      obtain ⟨S11, e_S11⟩ : ∃ z : Ob, z = uS S2 6 (S4.1 11) := ⟨_, rfl⟩
      have hm := hm S11 e_S11
      have hw : wV D A s.heap ((oW cy aO (aB 0) e_O_images (atp 0) (aR 0) e_O_plan e_O_trial e_O_season e_O_dates e_O_line e_O_evening e_O_choices S11) ++ ((rW cy aR S4) ++ ((tpW cy atp Stp) ++ ((bW cy aB (als 0) e_B_told e_B_mentions e_B_claims SB) ++ ((lsW cy als Sls) ++ (lwW cy wl L)))))) H locs := by rw [e_S11]; exact hw
      refine lv_aload_n hx hb dX8_law_53 rfl (lv_at hl 0 rfl) ?_
      refine lv_ifnonnull (tgt := 64) hx hb dX8_law_54 (by decide) ?_
      refine lv_aload_n hx hb dX8_law_64 rfl (lv_at hl 2 rfl) ?_
      refine gF (k := 0) hc hw inX8 rfl 0 rfl (by decide) (gm 415 (by decide +kernel) rfl) rfl dX8_law_65 ?_
      refine gN (k := 6) (host := "OlderTale") hc hw inX6 rfl 12 rfl (by decide) (nmm 220 (by decide +kernel)) rfl dX8_law_68 ?_
      refine lv_aload_n hx hb dX8_law_71 rfl (lv_at hl 2 rfl) ?_
      refine gF (k := 0) hc hw inX8 rfl 0 rfl (by decide) (gm 415 (by decide +kernel) rfl) rfl dX8_law_72 ?_
      refine gN (k := 7) (host := "OlderTale") hc hw inX6 rfl 12 rfl (by decide) (nmm 222 (by decide +kernel)) rfl dX8_law_75 ?_
      refine lv_aload_n hx hb dX8_law_78 rfl (lv_at hl 0 rfl) ?_
      obtain ⟨c12, hm⟩ := hm
      refine sQ (qk := 19) (t0 := 3) hc hw 18 rfl rfl rfl rfl c12 dX8_law_79 (fun H locs hw => ?_)
      obtain ⟨S13, e_S13⟩ : ∃ z : (Nat → Option Nat), z = va_up Sls (Int32.toNatClampNeg (SB.1 7)) (some (wl 0)) := ⟨_, rfl⟩
      have hm := hm S13 e_S13
      have hw : wV D A s.heap ((oW cy aO (aB 0) e_O_images (atp 0) (aR 0) e_O_plan e_O_trial e_O_season e_O_dates e_O_line e_O_evening e_O_choices S11) ++ ((rW cy aR S4) ++ ((tpW cy atp Stp) ++ ((bW cy aB (als 0) e_B_told e_B_mentions e_B_claims SB) ++ ((lsW cy als S13) ++ (lwW cy wl L)))))) H locs := by rw [e_S13]; exact hw
      refine lv_aload_n hx hb dX8_law_80 rfl (lv_at hl 2 rfl) ?_
      refine gF (k := 0) hc hw inX8 rfl 0 rfl (by decide) (gm 415 (by decide +kernel) rfl) rfl dX8_law_81 ?_
      refine lv_dup hx hb dX8_law_84 rfl ?_
      refine gN (k := 7) (host := "OlderTale") hc hw inX6 rfl 12 rfl (by decide) (nmm 222 (by decide +kernel)) rfl dX8_law_85 ?_
      refine lv_iconst (v := 1) hx hb dX8_law_88 (by decide) ?_
      refine lv_iadd hx hb dX8_law_89 ?_
      refine pN (k := 7) (ty := .int) (host := "OlderTale") hc hw inX6 tyX6_ok nmX6 rfl 12 rfl (by decide) (nmm 222 (by decide +kernel)) rfl (by decide +kernel) rfl rfl (Nat.le_of_ble_eq_true rfl) dX8_law_90 (fun H locs hw => ?_)
      obtain ⟨S14, e_S14⟩ : ∃ z : Ob, z = uS SB 7 ((SB.1 7) + 1) := ⟨_, rfl⟩
      have hm := hm S14 e_S14
      have hw : wV D A s.heap ((oW cy aO (aB 0) e_O_images (atp 0) (aR 0) e_O_plan e_O_trial e_O_season e_O_dates e_O_line e_O_evening e_O_choices S11) ++ ((rW cy aR S4) ++ ((tpW cy atp Stp) ++ ((bW cy aB (als 0) e_B_told e_B_mentions e_B_claims S14) ++ ((lsW cy als S13) ++ (lwW cy wl L)))))) H locs := by rw [e_S14]; exact hw
      refine lv_aload_n hx hb dX8_law_93 rfl (lv_at hl 2 rfl) ?_
      refine lv_aload_n hx hb dX8_law_94 rfl (lv_at hl 2 rfl) ?_
      refine gF (k := 0) hc hw inX8 rfl 0 rfl (by decide) (gm 415 (by decide +kernel) rfl) rfl dX8_law_95 ?_
      refine gN (k := 7) (host := "OlderTale") hc hw inX6 rfl 12 rfl (by decide) (nmm 222 (by decide +kernel)) rfl dX8_law_98 ?_
      refine lv_iconst (v := 1) hx hb dX8_law_101 (by decide) ?_
      refine lv_isub hx hb dX8_law_102 ?_
      refine nV_I (As := [.int ((S14.1 7) - 1)]) (rest := []) (wc := (oW cy aO (aB 0) e_O_images (atp 0) (aR 0) e_O_plan e_O_trial e_O_season e_O_dates e_O_line e_O_evening e_O_choices S11)) (wr := ((rW cy aR S4) ++ ((tpW cy atp Stp) ++ ((bW cy aB (als 0) e_B_told e_B_mentions e_B_claims S14) ++ ((lsW cy als S13) ++ (lwW cy wl L)))))) (isC := [0, 1, 2]) (isR := [3, 4, 5, 6, 7, 8, 9, 10, 11, 12, 13, 14, 15, 16, 17, 18, 19, 20, 21, 22, 23]) hc hw (c_X8_accept hm) lk_X8_103 ⟨rfl, rfl, rfl, rfl, by decide⟩ rfl rfl ⟨by decide, by decide⟩ ⟨Nat.le_of_ble_eq_true rfl, Nat.le_of_ble_eq_true rfl⟩ hl.1 rfl (Nat.le_of_ble_eq_true rfl) rfl dX8_law_103 (fun r15 S16 H locs hm hw => ?_)
      have hw : wV D A s.heap ((oW cy aO (aB 0) e_O_images (atp 0) (aR 0) e_O_plan e_O_trial e_O_season e_O_dates e_O_line e_O_evening e_O_choices S16) ++ ((rW cy aR S4) ++ ((tpW cy atp Stp) ++ ((bW cy aB (als 0) e_B_told e_B_mentions e_B_claims S14) ++ ((lsW cy als S13) ++ (lwW cy wl L)))))) H locs := hw.perm [21, 22, 23, 0, 1, 2, 3, 4, 5, 6, 7, 8, 9, 10, 11, 12, 13, 14, 15, 16, 17, 18, 19, 20] rfl rfl
      refine W.widen (k := 5) (n := 876) (by decide) (by decide) ?_
      exact retI (u := ((some (wl, L)), S16, S4, S14, S13)) hc hw hm dX8_law_106
  · have hm := hm.2 c21
    refine lv_aload_n hx hb dX8_law_22 rfl (lv_at hl 1 rfl) ?_
    refine lv_bipush (v := (-5)) hx hb dX8_law_23 (by decide) ?_
    refine nV_I (As := [.int (-5)]) (rest := []) (wc := (oW cy aO (aB 0) e_O_images (atp 0) (aR 0) e_O_plan e_O_trial e_O_season e_O_dates e_O_line e_O_evening e_O_choices S2)) (wr := ((rW cy aR SR) ++ ((tpW cy atp Stp) ++ ((bW cy aB (als 0) e_B_told e_B_mentions e_B_claims SB) ++ (lsW cy als Sls))))) (isC := [0, 1, 2]) (isR := [3, 4, 5, 6, 7, 8, 9, 10, 11, 12, 13, 14, 15, 16, 17, 18]) hc hw (c_X8_refuse hm) lk_X8_89 ⟨rfl, rfl, rfl, rfl, by decide⟩ rfl rfl ⟨by decide, by decide⟩ ⟨Nat.le_of_ble_eq_true rfl, Nat.le_of_ble_eq_true rfl⟩ hl.1 rfl (Nat.le_of_ble_eq_true rfl) rfl dX8_law_25 (fun r18 S19 H locs hm hw => ?_)
    have hw : wV D A s.heap ((oW cy aO (aB 0) e_O_images (atp 0) (aR 0) e_O_plan e_O_trial e_O_season e_O_dates e_O_line e_O_evening e_O_choices S19) ++ ((rW cy aR SR) ++ ((tpW cy atp Stp) ++ ((bW cy aB (als 0) e_B_told e_B_mentions e_B_claims SB) ++ (lsW cy als Sls))))) H locs := hw.perm [16, 17, 18, 0, 1, 2, 3, 4, 5, 6, 7, 8, 9, 10, 11, 12, 13, 14, 15] rfl rfl
    refine W.widen (k := 5) (n := 876) (by decide) (by decide) ?_
    exact retI (u := (none, S19, SR, SB, Sls)) hc hw hm dX8_law_28
