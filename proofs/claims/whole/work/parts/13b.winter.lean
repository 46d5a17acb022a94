def optSn (cy : Nat → ClassId) (o : Option ((Nat → Nat) × (Nat → Nat → Int32))) : va_W := match o with
  | none => []
  | some q => snW cy q.1 q.2
theorem lk_X5_25 : lkV RX5 25 yX5_most cX5_most 7 (some .int) 3 := ⟨gm 937 (by decide +kernel) rfl, gm 940 (by decide +kernel) rfl, gm 144 (by decide +kernel) rfl, gm 939 (by decide +kernel) rfl, gm 55 (by decide +kernel) rfl, ⟨by decide, by decide, by decide +kernel⟩⟩
theorem lk_X8_235 : lkIN RX8 235 yX5_init cX5_init 1 none 0 := ⟨nmm 923 (by decide +kernel), gm 925 (by decide +kernel) rfl, gm 144 (by decide +kernel) rfl, gm 924 (by decide +kernel) rfl, rfl, ⟨by decide, by decide, by decide +kernel⟩⟩
theorem lk_X8_236 : lkVN RX8 236 yX5_lay cX5_lay 5 none 2 := ⟨nmm 933 (by decide +kernel), gm 936 (by decide +kernel) rfl, gm 144 (by decide +kernel) rfl, gm 935 (by decide +kernel) rfl, gm 54 (by decide +kernel) rfl, ⟨by decide, by decide, by decide +kernel⟩⟩
theorem lk_X8_239 : lkVN RX8 239 yX6_all cX6_all 1 (some .int) 0 := ⟨nmm 942 (by decide +kernel), gm 826 (by decide +kernel) rfl, gm 128 (by decide +kernel) rfl, gm 825 (by decide +kernel) rfl, gm 40 (by decide +kernel) rfl, ⟨by decide, by decide, by decide +kernel⟩⟩
theorem lk_X8_242 : lkVN RX8 242 yX5_most cX5_most 7 (some .int) 3 := ⟨nmm 943 (by decide +kernel), gm 940 (by decide +kernel) rfl, gm 144 (by decide +kernel) rfl, gm 939 (by decide +kernel) rfl, gm 55 (by decide +kernel) rfl, ⟨by decide, by decide, by decide +kernel⟩⟩
theorem lk_X8_246 : lkVN RX8 246 yX5_lowest cX5_lowest 6 (some .int) 3 := ⟨nmm 944 (by decide +kernel), gm 947 (by decide +kernel) rfl, gm 144 (by decide +kernel) rfl, gm 946 (by decide +kernel) rfl, gm 56 (by decide +kernel) rfl, ⟨by decide, by decide, by decide +kernel⟩⟩
def w_X5_most (SSn : (Nat → Nat → Int32)) (SP : Ob) (x2 : Int32) (x3 : Int32) (Q : Int32 → Prop) : Prop :=
  vp_in (x2 - 1) 4 ∧ vp_in x3 1024 ∧ ∀ v3 : Int32, v3 = (SSn (Int32.toNatClampNeg (x2 - 1)) (Int32.toNatClampNeg x3)) → ∃ n, wl3 (fun L7 (x6_4 : Int32) (x5_5 : Int32) (x4_6 : Int32) => ((1024 ≤ x6_4 → Q x4_6) ∧ (¬ 1024 ≤ x6_4 → vp_in x3 1024 ∧ (((SP.2 10 (Int32.toNatClampNeg x3)) ≤ x4_6 → Q x4_6) ∧ (¬ (SP.2 10 (Int32.toNatClampNeg x3)) ≤ x4_6 → vp_in x5_5 1024 ∧ jn (fun (x4_10 : Int32) => ((¬ x5_5 = 0 → ∀ v12 : Int32, v12 = ((x5_5 - 1) &&& x3) → ∀ v13 : Int32, v13 = x6_4 + 1 → L7 v13 v12 x4_10) ∧ (x5_5 = 0 → Q x4_10))) (fun J11 => ((10000 < (SP.2 11 (Int32.toNatClampNeg x5_5)) → J11 x4_6) ∧ (¬ 10000 < (SP.2 11 (Int32.toNatClampNeg x5_5)) → vp_in x5_5 1024 ∧ vp_in (x2 - 1) 4 ∧ vp_in (x3 &&& (x5_5 ^^^ (-1))) 1024 ∧ ∀ v18 : Int32, v18 = (if x4_6 < ((SP.2 10 (Int32.toNatClampNeg x5_5)) + (SSn (Int32.toNatClampNeg (x2 - 1)) (Int32.toNatClampNeg (x3 &&& (x5_5 ^^^ (-1)))))) then ((SP.2 10 (Int32.toNatClampNeg x5_5)) + (SSn (Int32.toNatClampNeg (x2 - 1)) (Int32.toNatClampNeg (x3 &&& (x5_5 ^^^ (-1)))))) else x4_6) → J11 v18)))))))) n 0 x3 v3
def w_X5_lowest (SSn : (Nat → Nat → Int32)) (SP : Ob) (x2 : Int32) (x3 : Int32) (Q : Int32 → Prop) : Prop :=
  w_X5_most SSn SP x2 x3 (fun (r1 : Int32) => ∃ n, wl1 (fun L4 (x5_3 : Int32) => ((x3 < x5_3 → Q 0) ∧ (¬ x3 < x5_3 → ((¬ (x5_3 &&& (x3 ^^^ (-1))) = 0 → ∀ v5 : Int32, v5 = x5_3 + 1 → L4 v5) ∧ ((x5_3 &&& (x3 ^^^ (-1))) = 0 → vp_in x5_3 1024 ∧ ((10000 < (SP.2 11 (Int32.toNatClampNeg x5_3)) → ∀ v7 : Int32, v7 = x5_3 + 1 → L4 v7) ∧ (¬ 10000 < (SP.2 11 (Int32.toNatClampNeg x5_3)) → vp_in x5_3 1024 ∧ vp_in (x2 - 1) 4 ∧ vp_in (x3 &&& (x5_3 ^^^ (-1))) 1024 ∧ ((¬ ((SP.2 10 (Int32.toNatClampNeg x5_3)) + (SSn (Int32.toNatClampNeg (x2 - 1)) (Int32.toNatClampNeg (x3 &&& (x5_3 ^^^ (-1)))))) = r1 → ∀ v11 : Int32, v11 = x5_3 + 1 → L4 v11) ∧ (((SP.2 10 (Int32.toNatClampNeg x5_3)) + (SSn (Int32.toNatClampNeg (x2 - 1)) (Int32.toNatClampNeg (x3 &&& (x5_3 ^^^ (-1)))))) = r1 → Q x5_3))))))))) n 0)
def w_X5_lay (SSn : (Nat → Nat → Int32)) (SP : Ob) (x2 : Int32) (Q : (Nat → Nat → Int32) → Ob → Prop) : Prop :=
  ∃ n, wl3 (fun L4 (x3_1 : Int32) (S2 : (Nat → Nat → Int32)) (S3 : Ob) => ((4 ≤ x3_1 → Q S2 S3) ∧ (¬ 4 ≤ x3_1 → ((x2 < x3_1 → Q S2 S3) ∧ (¬ x2 < x3_1 → ((x3_1 ≤ (S3.1 17) → ∀ v5 : Int32, v5 = x3_1 + 1 → L4 v5 S2 S3) ∧ (¬ x3_1 ≤ (S3.1 17) → ∃ n, wl2 (fun L8 (x4_6 : Int32) (S7 : (Nat → Nat → Int32)) => ((((1 : Int32) <<< ((S3.1 6) &&& 31)) ≤ x4_6 → ∀ S9 : Ob, S9 = uS S3 17 x3_1 → ∀ v10 : Int32, v10 = x3_1 + 1 → L4 v10 S7 S9) ∧ (¬ ((1 : Int32) <<< ((S3.1 6) &&& 31)) ≤ x4_6 → vp_in x3_1 4 ∧ w_X5_most S7 S3 x3_1 x4_6 (fun (r12 : Int32) => vp_in x4_6 1024 ∧ ∀ S15 : (Nat → Nat → Int32), S15 = va_up S7 (Int32.toNatClampNeg x3_1) (upd (S7 (Int32.toNatClampNeg x3_1)) (Int32.toNatClampNeg x4_6) r12) → ∀ v16 : Int32, v16 = x4_6 + 1 → L8 v16 S15)))) n 0 S2))))))) n 1 SSn SP
def w_X8_winter (aLw : Nat → Nat) (SO : Ob) (SB : Ob) (Sls : (Nat → Option Nat)) (SP : Ob) (SJ : Ob) (SLw : Lw) (SSn : (Nat → Nat → Int32)) (x1 : Int32) (x2 : Int32) (Q : Int32 → Ob → Ob → (Nat → Nat → Int32) → Prop) : Prop :=
  ((x1 < 1 → Q (-1) SP SJ SSn) ∧ (¬ x1 < 1 → ((4 < x1 → Q (-1) SP SJ SSn) ∧ (¬ 4 < x1 → ((x2 < (-1) → Q (-1) SP SJ SSn) ∧ (¬ x2 < (-1) → ((x2 < x1 → w_X3_reckon aLw SP SJ SB Sls SLw (fun (S1 : Ob) (S2 : Ob) => w_X5_lay SSn S1 (x1 - 1) (fun (S4 : (Nat → Nat → Int32)) (S5 : Ob) => w_X6_all SB (fun (r7 : Int32) => ((¬ x2 = (-1) → ∃ n, wl3 (fun L12 (x5_9 : Int32) (x4_10 : Int32) (x3_11 : Int32) => ((x2 < x5_9 → Q x4_10 S5 S2 S4) ∧ (¬ x2 < x5_9 → ∀ v13 : Int32, v13 = (x3_11 &&& (x4_10 ^^^ (-1))) → w_X5_lowest S4 S5 (x1 - x5_9) v13 (fun (r14 : Int32) => ∀ v16 : Int32, v16 = x5_9 + 1 → L12 v16 r14 v13)))) n 0 0 r7) ∧ (x2 = (-1) → w_X5_most S4 S5 x1 r7 (fun (r18 : Int32) => Q r18 S5 S2 S4))))))) ∧ (¬ x2 < x1 → Q (-1) SP SJ SSn))))))))
def w_X8_winterN (SO : Ob) (SB : Ob) (Sls : (Nat → Option Nat)) (SP : Ob) (SJ : Ob) (SSn : (Nat → Nat → Int32)) (x1 : Int32) (x2 : Int32) (Q : Int32 → Ob → Ob → (Nat → Nat → Int32) → Prop) : Prop :=
  ((x1 < 1 → Q (-1) SP SJ SSn) ∧ (¬ x1 < 1 → ((4 < x1 → Q (-1) SP SJ SSn) ∧ (¬ 4 < x1 → ((x2 < (-1) → Q (-1) SP SJ SSn) ∧ (¬ x2 < (-1) → ((x2 < x1 → w_X3_reckonN SP SJ SB Sls (fun (S1 : Ob) (S2 : Ob) => w_X5_lay SSn S1 (x1 - 1) (fun (S4 : (Nat → Nat → Int32)) (S5 : Ob) => w_X6_all SB (fun (r7 : Int32) => ((¬ x2 = (-1) → ∃ n, wl3 (fun L12 (x5_9 : Int32) (x4_10 : Int32) (x3_11 : Int32) => ((x2 < x5_9 → Q x4_10 S5 S2 S4) ∧ (¬ x2 < x5_9 → ∀ v13 : Int32, v13 = (x3_11 &&& (x4_10 ^^^ (-1))) → w_X5_lowest S4 S5 (x1 - x5_9) v13 (fun (r14 : Int32) => ∀ v16 : Int32, v16 = x5_9 + 1 → L12 v16 r14 v13)))) n 0 0 r7) ∧ (x2 = (-1) → w_X5_most S4 S5 x1 r7 (fun (r18 : Int32) => Q r18 S5 S2 S4))))))) ∧ (¬ x2 < x1 → Q (-1) SP SJ SSn))))))))
def w_X8_winterA (aLw : Nat → Nat) (SO : Ob) (SB : Ob) (Sls : (Nat → Option Nat)) (SP : Ob) (SJ : Ob) (SLw : Lw) (x1 : Int32) (x2 : Int32) (Q : Int32 → Option ((Nat → Nat) × (Nat → Nat → Int32)) → Ob → Ob → Prop) : Prop :=
  ((x1 < 1 → Q (-1) none SP SJ) ∧ (¬ x1 < 1 → ((4 < x1 → Q (-1) none SP SJ) ∧ (¬ 4 < x1 → ((x2 < (-1) → Q (-1) none SP SJ) ∧ (¬ x2 < (-1) → ((x2 < x1 → w_X3_reckon aLw SP SJ SB Sls SLw (fun (S1 : Ob) (S2 : Ob) => ∀ us : Nat → Nat → Nat, w_X5_lay (fun _ _ => 0) S1 (x1 - 1) (fun (S4 : (Nat → Nat → Int32)) (S5 : Ob) => w_X6_all SB (fun (r7 : Int32) => ((¬ x2 = (-1) → ∃ n, wl3 (fun L12 (x5_9 : Int32) (x4_10 : Int32) (x3_11 : Int32) => ((x2 < x5_9 → Q x4_10 (some ((us 0), S4)) S5 S2) ∧ (¬ x2 < x5_9 → ∀ v13 : Int32, v13 = (x3_11 &&& (x4_10 ^^^ (-1))) → w_X5_lowest S4 S5 (x1 - x5_9) v13 (fun (r14 : Int32) => ∀ v16 : Int32, v16 = x5_9 + 1 → L12 v16 r14 v13)))) n 0 0 r7) ∧ (x2 = (-1) → w_X5_most S4 S5 x1 r7 (fun (r18 : Int32) => Q r18 (some ((us 0), S4)) S5 S2))))))) ∧ (¬ x2 < x1 → Q (-1) none SP SJ))))))))
def w_X8_winterNA (SO : Ob) (SB : Ob) (Sls : (Nat → Option Nat)) (SP : Ob) (SJ : Ob) (x1 : Int32) (x2 : Int32) (Q : Int32 → Option ((Nat → Nat) × (Nat → Nat → Int32)) → Ob → Ob → Prop) : Prop :=
  ((x1 < 1 → Q (-1) none SP SJ) ∧ (¬ x1 < 1 → ((4 < x1 → Q (-1) none SP SJ) ∧ (¬ 4 < x1 → ((x2 < (-1) → Q (-1) none SP SJ) ∧ (¬ x2 < (-1) → ((x2 < x1 → w_X3_reckonN SP SJ SB Sls (fun (S1 : Ob) (S2 : Ob) => ∀ us : Nat → Nat → Nat, w_X5_lay (fun _ _ => 0) S1 (x1 - 1) (fun (S4 : (Nat → Nat → Int32)) (S5 : Ob) => w_X6_all SB (fun (r7 : Int32) => ((¬ x2 = (-1) → ∃ n, wl3 (fun L12 (x5_9 : Int32) (x4_10 : Int32) (x3_11 : Int32) => ((x2 < x5_9 → Q x4_10 (some ((us 0), S4)) S5 S2) ∧ (¬ x2 < x5_9 → ∀ v13 : Int32, v13 = (x3_11 &&& (x4_10 ^^^ (-1))) → w_X5_lowest S4 S5 (x1 - x5_9) v13 (fun (r14 : Int32) => ∀ v16 : Int32, v16 = x5_9 + 1 → L12 v16 r14 v13)))) n 0 0 r7) ∧ (x2 = (-1) → w_X5_most S4 S5 x1 r7 (fun (r18 : Int32) => Q r18 (some ((us 0), S4)) S5 S2))))))) ∧ (¬ x2 < x1 → Q (-1) none SP SJ))))))))
set_option maxHeartbeats 4000000 in
set_option maxRecDepth 100000 in
theorem c_X5_most {l : Launch} {D : va_G} {cy : Nat → ClassId} {aSn : Nat → Nat} {aP : Nat → Nat} {e_P_judge : Nat} {SSn : (Nat → Nat → Int32)} {SP : Ob} {x2 : Int32} {x3 : Int32} {Q : Int32 → Prop} (hm : w_X5_most SSn SP x2 x3 Q) : CtI l yX5_most cX5_most 7 (some .int) (rmN 2) D cy [.ref (aSn 0), .ref (aP 0), .int x2, .int x3] ((snW cy aSn SSn) ++ (pW cy aP e_P_judge SP)) (fun _ : Unit => ((snW cy aSn SSn) ++ (pW cy aP e_P_judge SP))) (fun (r : Int32) (_ : Unit) => Q r) := by
  refine CtI.ofW (by decide) (Nat.le_of_ble_eq_true rfl) ?_
  intro p e s m args below meth c A ls hc hnm hw hl
  have hx := hc.1.1
  have hb := hc.1.2.1
  have hown := hc.1.2.2.2.1
  have hts := hc.1.2.2.2.2
  have hl : lv_has ls 7 [(0, .ref (aSn 0)), (1, .ref (aP 0)), (2, .int x2), (3, .int x3)] := hl
  obtain ⟨H, hH⟩ : ∃ z, z = s.heap := ⟨_, rfl⟩
  obtain ⟨locs, hLc⟩ : ∃ z : List Loc, z = [] := ⟨_, rfl⟩
  have hw : wV D A s.heap ((snW cy aSn SSn) ++ (pW cy aP e_P_judge SP)) H locs := by rw [hH, hLc]; exact hw
  have hgo : W p l e (rmN 2) s m args below meth c H locs 0 0 (MQ below (eI D cy A (fun _ : Unit => ((snW cy aSn SSn) ++ (pW cy aP e_P_judge SP))) (fun (r : Int32) (_ : Unit) => Q r)) args s (rmN 2).cells (rmN 2).slots A) (F0 m 0 ls []) := ?hgo
  · rw [hH, hLc] at hgo; exact hgo
  refine lv_aload_n hx hb dX5_most_0 rfl (lv_at hl 0 rfl) ?_
  refine gF (k := 0) hc hw inX5 rfl 0 rfl (by decide) (gm 929 (by decide +kernel) rfl) rfl dX5_most_1 ?_
  refine lv_iload_n hx hb dX5_most_4 rfl (lv_at hl 2 rfl) ?_
  refine lv_iconst (v := 1) hx hb dX5_most_5 (by decide) ?_
  refine lv_isub hx hb dX5_most_6 ?_
  obtain ⟨c1, hm⟩ := hm
  refine aRow hc hw c1 dX5_most_7 ?_
  refine lv_iload_n hx hb dX5_most_8 rfl (lv_at hl 3 rfl) ?_
  obtain ⟨c2, hm⟩ := hm
  refine aRI (k := (Int32.toNatClampNeg (x2 - 1))) hc hw (in_lt c1) c2 dX5_most_9 ?_
  refine lv_topi (fun v3 e_v3 => ?_)
  have hm := hm v3 e_v3
  refine lv_istore (lv' := [(4, .int v3), (0, .ref (aSn 0)), (1, .ref (aP 0)), (2, .int x2), (3, .int x3)]) hx hb dX5_most_10 hl (by decide) rfl (fun ls hl => ?_)
  refine lv_iload_n hx hb dX5_most_12 rfl (lv_at hl 4 rfl) ?_
  refine lv_istore (lv' := [(5, .int x3), (4, .int v3), (0, .ref (aSn 0)), (1, .ref (aP 0)), (2, .int x2), (3, .int x3)]) hx hb dX5_most_13 hl (by decide) rfl (fun ls hl => ?_)
  refine lv_iconst (v := 0) hx hb dX5_most_15 (by decide) ?_
  refine lv_istore (lv' := [(6, .int 0), (5, .int x3), (4, .int v3), (0, .ref (aSn 0)), (1, .ref (aP 0)), (2, .int x2), (3, .int x3)]) hx hb dX5_most_16 hl (by decide) rfl (fun ls hl => ?_)
  refine wl3_ind (G := fun (x6_4 : Int32) (x5_5 : Int32) (x4_6 : Int32) => ∀ (H : Heap) (locs : List Loc) (ls : Array Slot), wV D A s.heap ((snW cy aSn SSn) ++ (pW cy aP e_P_judge SP)) H locs → lv_has ls 7 [(6, .int x6_4), (5, .int x5_5), (4, .int x4_6), (0, .ref (aSn 0)), (1, .ref (aP 0)), (2, .int x2), (3, .int x3)] → W p l e (rmN 2) s m args below meth c H locs 0 0 (MQ below (eI D cy A (fun _ : Unit => ((snW cy aSn SSn) ++ (pW cy aP e_P_judge SP))) (fun (r : Int32) (_ : Unit) => Q r)) args s (rmN 2).cells (rmN 2).slots A) (F0 m 18 ls [])) ?_ _ _ _ hm H locs ls hw (lv_sub hl [0, 1, 2, 3, 4, 5, 6] rfl)
  intro L7 ih7 x6_4 x5_5 x4_6 hm H locs ls hw hl
  refine lv_iload hx hb dX5_most_18 (lv_at hl 0 rfl) ?_
  refine lv_sipush (v := 1024) hx hb dX5_most_20 (by decide) ?_
  refine lv_icmp_ge (tgt := 102) hx hb dX5_most_23 (by decide) (fun c21 => ?_) (fun c21 => ?_)
  · have hm := hm.1 c21
    refine lv_iload hx hb dX5_most_102 (lv_at hl 2 rfl) ?_
    exact retI (u := ()) hc hw hm dX5_most_104
  · have hm := hm.2 c21
    refine lv_iload hx hb dX5_most_26 (lv_at hl 2 rfl) ?_
    refine lv_aload_n hx hb dX5_most_28 rfl (lv_at hl 4 rfl) ?_
    refine gN (k := 10) (host := "OlderTale") hc hw inX3 rfl 6 rfl (by decide) (nmm 340 (by decide +kernel)) rfl dX5_most_29 ?_
    refine lv_iload_n hx hb dX5_most_32 rfl (lv_at hl 6 rfl) ?_
    obtain ⟨c8, hm⟩ := hm
    refine aI hc hw 12 rfl c8 rfl dX5_most_33 ?_
    refine lv_icmp_ge (tgt := 102) hx hb dX5_most_34 (by decide) (fun c20 => ?_) (fun c20 => ?_)
    · have hm := hm.1 c20
      refine lv_iload hx hb dX5_most_102 (lv_at hl 2 rfl) ?_
      exact retI (u := ()) hc hw hm dX5_most_104
    · have hm := hm.2 c20
      refine lv_aload_n hx hb dX5_most_37 rfl (lv_at hl 4 rfl) ?_
      refine gN (k := 11) (host := "OlderTale") hc hw inX3 rfl 6 rfl (by decide) (nmm 343 (by decide +kernel)) rfl dX5_most_38 ?_
      refine lv_iload hx hb dX5_most_41 (lv_at hl 1 rfl) ?_
      obtain ⟨c9, hm⟩ := hm
      refine aI hc hw 13 rfl c9 rfl dX5_most_43 ?_
      refine lv_sipush (v := 10000) hx hb dX5_most_44 (by decide) ?_
      obtain ⟨J11, eJ11, hm⟩ := jn_e hm
      have hJ11 : ∀ (x4_10 : Int32) (_ : J11 x4_10) (H : Heap) (locs : List Loc) (ls : Array Slot), wV D A s.heap ((snW cy aSn SSn) ++ (pW cy aP e_P_judge SP)) H locs → lv_has ls 7 [(0, .ref (aSn 0)), (1, .ref (aP 0)), (2, .int x2), (3, .int x3), (4, .int x4_10), (5, .int x5_5), (6, .int x6_4)] → W p l e (rmN 2) s m args below meth c H locs 0 0 (MQ below (eI D cy A (fun _ : Unit => ((snW cy aSn SSn) ++ (pW cy aP e_P_judge SP))) (fun (r : Int32) (_ : Unit) => Q r)) args s (rmN 2).cells (rmN 2).slots A) (F0 m 80 ls []) := by
        intro x4_10 hm H locs ls hw hl
        rw [eJ11] at hm
        refine lv_iload hx hb dX5_most_80 (lv_at hl 5 rfl) ?_
        refine lv_if_ne (tgt := 88) hx hb dX5_most_82 (by decide) (fun c14 => ?_) (fun c14 => ?_)
        · have hm := hm.1 c14
          refine lv_iload hx hb dX5_most_88 (lv_at hl 5 rfl) ?_
          refine lv_iconst (v := 1) hx hb dX5_most_90 (by decide) ?_
          refine lv_isub hx hb dX5_most_91 ?_
          refine lv_iload_n hx hb dX5_most_92 rfl (lv_at hl 3 rfl) ?_
          refine lv_iand hx hb dX5_most_93 ?_
          refine lv_topi (fun v12 e_v12 => ?_)
          have hm := hm v12 e_v12
          refine lv_istore (lv' := [(5, .int v12), (0, .ref (aSn 0)), (1, .ref (aP 0)), (2, .int x2), (3, .int x3), (4, .int x4_10), (6, .int x6_4)]) hx hb dX5_most_94 hl (by decide) rfl (fun ls hl => ?_)
          obtain ⟨v13, e_v13⟩ : ∃ z : Int32, z = x6_4 + 1 := ⟨_, rfl⟩
          have hm := hm v13 e_v13
          refine lv_iinc (v := v13) (lv' := [(6, .int v13), (5, .int v12), (0, .ref (aSn 0)), (1, .ref (aP 0)), (2, .int x2), (3, .int x3), (4, .int x4_10)]) hx hb dX5_most_96 hl (k := 6) rfl (by rw [e_v13]; rfl) (by decide) rfl (fun ls hl => ?_)
          refine lv_goto (tgt := 18) hx hb dX5_most_99 (by decide) ?_
          exact ih7 _ _ _ hm _ _ _ hw (lv_sub hl [0, 1, 6, 2, 3, 4, 5] rfl)
        · have hm := hm.2 c14
          refine lv_goto (tgt := 102) hx hb dX5_most_85 (by decide) ?_
          refine lv_iload hx hb dX5_most_102 (lv_at hl 4 rfl) ?_
          exact retI (u := ()) hc hw hm dX5_most_104
      refine lv_icmp_gt (tgt := 80) hx hb dX5_most_47 (by decide) (fun c19 => ?_) (fun c19 => ?_)
      · have hm := hm.1 c19
        exact hJ11 _ hm _ _ _ hw (lv_sub hl [3, 4, 5, 6, 2, 1, 0] rfl)
      · have hm := hm.2 c19
        refine lv_iload hx hb dX5_most_50 (lv_at hl 2 rfl) ?_
        refine lv_aload_n hx hb dX5_most_52 rfl (lv_at hl 4 rfl) ?_
        refine gN (k := 10) (host := "OlderTale") hc hw inX3 rfl 6 rfl (by decide) (nmm 340 (by decide +kernel)) rfl dX5_most_53 ?_
        refine lv_iload hx hb dX5_most_56 (lv_at hl 1 rfl) ?_
        obtain ⟨c15, hm⟩ := hm
        refine aI hc hw 12 rfl c15 rfl dX5_most_58 ?_
        refine lv_aload_n hx hb dX5_most_59 rfl (lv_at hl 3 rfl) ?_
        refine gF (k := 0) hc hw inX5 rfl 0 rfl (by decide) (gm 929 (by decide +kernel) rfl) rfl dX5_most_60 ?_
        refine lv_iload_n hx hb dX5_most_63 rfl (lv_at hl 5 rfl) ?_
        refine lv_iconst (v := 1) hx hb dX5_most_64 (by decide) ?_
        refine lv_isub hx hb dX5_most_65 ?_
        obtain ⟨c16, hm⟩ := hm
        refine aRow hc hw c16 dX5_most_66 ?_
        refine lv_iload_n hx hb dX5_most_67 rfl (lv_at hl 6 rfl) ?_
        refine lv_iload hx hb dX5_most_68 (lv_at hl 1 rfl) ?_
        refine lv_iconst (v := (-1)) hx hb dX5_most_70 (by decide) ?_
        refine lv_ixor hx hb dX5_most_71 ?_
        refine lv_iand hx hb dX5_most_72 ?_
        obtain ⟨c17, hm⟩ := hm
        refine aRI (k := (Int32.toNatClampNeg (x2 - 1))) hc hw (in_lt c16) c17 dX5_most_73 ?_
        refine lv_iadd hx hb dX5_most_74 ?_
        refine m_max (rest := []) hc hl.1 (gm 941 (by decide +kernel) rfl) (Nat.le_of_ble_eq_true rfl) (Nat.le_of_ble_eq_true rfl) (Nat.le_of_ble_eq_true rfl) (Nat.le_of_ble_eq_true rfl) dX5_most_75 ?_
        refine lv_topi (fun v18 e_v18 => ?_)
        have hm := hm v18 e_v18
        refine lv_istore (lv' := [(4, .int v18), (6, .int x6_4), (5, .int x5_5), (0, .ref (aSn 0)), (1, .ref (aP 0)), (2, .int x2), (3, .int x3)]) hx hb dX5_most_78 hl (by decide) rfl (fun ls hl => ?_)
        exact hJ11 _ hm _ _ _ hw (lv_sub hl [3, 4, 5, 6, 0, 2, 1] rfl)
set_option maxHeartbeats 4000000 in
set_option maxRecDepth 100000 in
theorem c_X5_lowest {l : Launch} {D : va_G} {cy : Nat → ClassId} {aSn : Nat → Nat} {aP : Nat → Nat} {e_P_judge : Nat} {SSn : (Nat → Nat → Int32)} {SP : Ob} {x2 : Int32} {x3 : Int32} {Q : Int32 → Prop} (hm : w_X5_lowest SSn SP x2 x3 Q) : CtI l yX5_lowest cX5_lowest 6 (some .int) (rmN 3) D cy [.ref (aSn 0), .ref (aP 0), .int x2, .int x3] ((snW cy aSn SSn) ++ (pW cy aP e_P_judge SP)) (fun _ : Unit => ((snW cy aSn SSn) ++ (pW cy aP e_P_judge SP))) (fun (r : Int32) (_ : Unit) => Q r) := by
  refine CtI.ofW (by decide) (Nat.le_of_ble_eq_true rfl) ?_
  intro p e s m args below meth c A ls hc hnm hw hl
  have hx := hc.1.1
  have hb := hc.1.2.1
  have hown := hc.1.2.2.2.1
  have hts := hc.1.2.2.2.2
  have hl : lv_has ls 6 [(0, .ref (aSn 0)), (1, .ref (aP 0)), (2, .int x2), (3, .int x3)] := hl
  obtain ⟨H, hH⟩ : ∃ z, z = s.heap := ⟨_, rfl⟩
  obtain ⟨locs, hLc⟩ : ∃ z : List Loc, z = [] := ⟨_, rfl⟩
  have hw : wV D A s.heap ((snW cy aSn SSn) ++ (pW cy aP e_P_judge SP)) H locs := by rw [hH, hLc]; exact hw
  have hgo : W p l e (rmN 3) s m args below meth c H locs 0 0 (MQ below (eI D cy A (fun _ : Unit => ((snW cy aSn SSn) ++ (pW cy aP e_P_judge SP))) (fun (r : Int32) (_ : Unit) => Q r)) args s (rmN 3).cells (rmN 3).slots A) (F0 m 0 ls []) := ?hgo
  · rw [hH, hLc] at hgo; exact hgo
  refine lv_aload_n hx hb dX5_lowest_0 rfl (lv_at hl 0 rfl) ?_
  refine lv_aload_n hx hb dX5_lowest_1 rfl (lv_at hl 1 rfl) ?_
  refine lv_iload_n hx hb dX5_lowest_2 rfl (lv_at hl 2 rfl) ?_
  refine lv_iload_n hx hb dX5_lowest_3 rfl (lv_at hl 3 rfl) ?_
  refine aV_I (As := [.ref (aP 0), .int x2, .int x3]) (rest := []) hc hw (c_X5_most hm) lk_X5_25 rfl rfl ⟨Nat.le_of_ble_eq_true rfl, Nat.le_of_ble_eq_true rfl⟩ ⟨Nat.le_of_ble_eq_true rfl, Nat.le_of_ble_eq_true rfl⟩ hl.1 rfl (Nat.le_of_ble_eq_true rfl) rfl dX5_lowest_4 (fun r1 _ H locs hm hw => ?_)
  have hw : wV D A s.heap ((snW cy aSn SSn) ++ (pW cy aP e_P_judge SP)) H locs := hw
  refine lv_istore (lv' := [(4, .int r1), (0, .ref (aSn 0)), (1, .ref (aP 0)), (2, .int x2), (3, .int x3)]) hx hb dX5_lowest_7 hl (by decide) rfl (fun ls hl => ?_)
  refine lv_iconst (v := 0) hx hb dX5_lowest_9 (by decide) ?_
  refine lv_istore (lv' := [(5, .int 0), (4, .int r1), (0, .ref (aSn 0)), (1, .ref (aP 0)), (2, .int x2), (3, .int x3)]) hx hb dX5_lowest_10 hl (by decide) rfl (fun ls hl => ?_)
  refine wl1_ind (G := fun (x5_3 : Int32) => ∀ (H : Heap) (locs : List Loc) (ls : Array Slot), wV D A s.heap ((snW cy aSn SSn) ++ (pW cy aP e_P_judge SP)) H locs → lv_has ls 6 [(5, .int x5_3), (4, .int r1), (0, .ref (aSn 0)), (1, .ref (aP 0)), (2, .int x2), (3, .int x3)] → W p l e (rmN 3) s m args below meth c H locs 0 0 (MQ below (eI D cy A (fun _ : Unit => ((snW cy aSn SSn) ++ (pW cy aP e_P_judge SP))) (fun (r : Int32) (_ : Unit) => Q r)) args s (rmN 3).cells (rmN 3).slots A) (F0 m 12 ls [])) ?_ _ hm H locs ls hw (lv_sub hl [0, 1, 2, 3, 4, 5] rfl)
  intro L4 ih4 x5_3 hm H locs ls hw hl
  refine lv_iload hx hb dX5_lowest_12 (lv_at hl 0 rfl) ?_
  refine lv_iload_n hx hb dX5_lowest_14 rfl (lv_at hl 5 rfl) ?_
  refine lv_icmp_gt (tgt := 77) hx hb dX5_lowest_15 (by decide) (fun c15 => ?_) (fun c15 => ?_)
  · have hm := hm.1 c15
    refine lv_iconst (v := 0) hx hb dX5_lowest_77 (by decide) ?_
    exact retI (u := ()) hc hw hm dX5_lowest_78
  · have hm := hm.2 c15
    refine lv_iload hx hb dX5_lowest_18 (lv_at hl 0 rfl) ?_
    refine lv_iload_n hx hb dX5_lowest_20 rfl (lv_at hl 5 rfl) ?_
    refine lv_iconst (v := (-1)) hx hb dX5_lowest_21 (by decide) ?_
    refine lv_ixor hx hb dX5_lowest_22 ?_
    refine lv_iand hx hb dX5_lowest_23 ?_
    refine lv_if_ne (tgt := 71) hx hb dX5_lowest_24 (by decide) (fun c14 => ?_) (fun c14 => ?_)
    · have hm := hm.1 c14
      obtain ⟨v5, e_v5⟩ : ∃ z : Int32, z = x5_3 + 1 := ⟨_, rfl⟩
      have hm := hm v5 e_v5
      refine lv_iinc (v := v5) (lv' := [(5, .int v5), (4, .int r1), (0, .ref (aSn 0)), (1, .ref (aP 0)), (2, .int x2), (3, .int x3)]) hx hb dX5_lowest_71 hl (k := 0) rfl (by rw [e_v5]; rfl) (by decide) rfl (fun ls hl => ?_)
      refine lv_goto (tgt := 12) hx hb dX5_lowest_74 (by decide) ?_
      exact ih4 _ hm _ _ _ hw (lv_sub hl [0, 1, 2, 3, 4, 5] rfl)
    · have hm := hm.2 c14
      refine lv_aload_n hx hb dX5_lowest_27 rfl (lv_at hl 3 rfl) ?_
      refine gN (k := 11) (host := "OlderTale") hc hw inX3 rfl 6 rfl (by decide) (nmm 343 (by decide +kernel)) rfl dX5_lowest_28 ?_
      refine lv_iload hx hb dX5_lowest_31 (lv_at hl 0 rfl) ?_
      obtain ⟨c6, hm⟩ := hm
      refine aI hc hw 13 rfl c6 rfl dX5_lowest_33 ?_
      refine lv_sipush (v := 10000) hx hb dX5_lowest_34 (by decide) ?_
      refine lv_icmp_gt (tgt := 71) hx hb dX5_lowest_37 (by decide) (fun c13 => ?_) (fun c13 => ?_)
      · have hm := hm.1 c13
        obtain ⟨v7, e_v7⟩ : ∃ z : Int32, z = x5_3 + 1 := ⟨_, rfl⟩
        have hm := hm v7 e_v7
        refine lv_iinc (v := v7) (lv' := [(5, .int v7), (4, .int r1), (0, .ref (aSn 0)), (1, .ref (aP 0)), (2, .int x2), (3, .int x3)]) hx hb dX5_lowest_71 hl (k := 0) rfl (by rw [e_v7]; rfl) (by decide) rfl (fun ls hl => ?_)
        refine lv_goto (tgt := 12) hx hb dX5_lowest_74 (by decide) ?_
        exact ih4 _ hm _ _ _ hw (lv_sub hl [0, 1, 2, 3, 4, 5] rfl)
      · have hm := hm.2 c13
        refine lv_aload_n hx hb dX5_lowest_40 rfl (lv_at hl 3 rfl) ?_
        refine gN (k := 10) (host := "OlderTale") hc hw inX3 rfl 6 rfl (by decide) (nmm 340 (by decide +kernel)) rfl dX5_lowest_41 ?_
        refine lv_iload hx hb dX5_lowest_44 (lv_at hl 0 rfl) ?_
        obtain ⟨c8, hm⟩ := hm
        refine aI hc hw 12 rfl c8 rfl dX5_lowest_46 ?_
        refine lv_aload_n hx hb dX5_lowest_47 rfl (lv_at hl 2 rfl) ?_
        refine gF (k := 0) hc hw inX5 rfl 0 rfl (by decide) (gm 929 (by decide +kernel) rfl) rfl dX5_lowest_48 ?_
        refine lv_iload_n hx hb dX5_lowest_51 rfl (lv_at hl 4 rfl) ?_
        refine lv_iconst (v := 1) hx hb dX5_lowest_52 (by decide) ?_
        refine lv_isub hx hb dX5_lowest_53 ?_
        obtain ⟨c9, hm⟩ := hm
        refine aRow hc hw c9 dX5_lowest_54 ?_
        refine lv_iload_n hx hb dX5_lowest_55 rfl (lv_at hl 5 rfl) ?_
        refine lv_iload hx hb dX5_lowest_56 (lv_at hl 0 rfl) ?_
        refine lv_iconst (v := (-1)) hx hb dX5_lowest_58 (by decide) ?_
        refine lv_ixor hx hb dX5_lowest_59 ?_
        refine lv_iand hx hb dX5_lowest_60 ?_
        obtain ⟨c10, hm⟩ := hm
        refine aRI (k := (Int32.toNatClampNeg (x2 - 1))) hc hw (in_lt c9) c10 dX5_lowest_61 ?_
        refine lv_iadd hx hb dX5_lowest_62 ?_
        refine lv_iload hx hb dX5_lowest_63 (lv_at hl 1 rfl) ?_
        refine lv_icmp_ne (tgt := 71) hx hb dX5_lowest_65 (by decide) (fun c12 => ?_) (fun c12 => ?_)
        · have hm := hm.1 c12
          obtain ⟨v11, e_v11⟩ : ∃ z : Int32, z = x5_3 + 1 := ⟨_, rfl⟩
          have hm := hm v11 e_v11
          refine lv_iinc (v := v11) (lv' := [(5, .int v11), (4, .int r1), (0, .ref (aSn 0)), (1, .ref (aP 0)), (2, .int x2), (3, .int x3)]) hx hb dX5_lowest_71 hl (k := 0) rfl (by rw [e_v11]; rfl) (by decide) rfl (fun ls hl => ?_)
          refine lv_goto (tgt := 12) hx hb dX5_lowest_74 (by decide) ?_
          exact ih4 _ hm _ _ _ hw (lv_sub hl [0, 1, 2, 3, 4, 5] rfl)
        · have hm := hm.2 c12
          refine lv_iload hx hb dX5_lowest_68 (lv_at hl 0 rfl) ?_
          exact retI (u := ()) hc hw hm dX5_lowest_70
set_option maxHeartbeats 4000000 in
set_option maxRecDepth 100000 in
theorem c_X5_lay {l : Launch} {D : va_G} {cy : Nat → ClassId} {aSn : Nat → Nat} {aP : Nat → Nat} {e_P_judge : Nat} {SSn : (Nat → Nat → Int32)} {SP : Ob} {x2 : Int32} {Q : (Nat → Nat → Int32) → Ob → Prop} (hm : w_X5_lay SSn SP x2 Q) : CtV l yX5_lay cX5_lay 5 none (rmN 3) D cy [.ref (aSn 0), .ref (aP 0), .int x2] ((snW cy aSn SSn) ++ (pW cy aP e_P_judge SP)) (fun u : (Nat → Nat → Int32) × Ob => ((snW cy aSn u.1) ++ (pW cy aP e_P_judge u.2))) (fun (u : (Nat → Nat → Int32) × Ob) => Q u.1 u.2) := by
  refine CtV.ofW (by decide) (Nat.le_of_ble_eq_true rfl) ?_
  intro p e s m args below meth c A ls hc hnm hw hl
  have hx := hc.1.1
  have hb := hc.1.2.1
  have hown := hc.1.2.2.2.1
  have hts := hc.1.2.2.2.2
  have hl : lv_has ls 5 [(0, .ref (aSn 0)), (1, .ref (aP 0)), (2, .int x2)] := hl
  obtain ⟨H, hH⟩ : ∃ z, z = s.heap := ⟨_, rfl⟩
  obtain ⟨locs, hLc⟩ : ∃ z : List Loc, z = [] := ⟨_, rfl⟩
  have hw : wV D A s.heap ((snW cy aSn SSn) ++ (pW cy aP e_P_judge SP)) H locs := by rw [hH, hLc]; exact hw
  have hgo : W p l e (rmN 3) s m args below meth c H locs 0 0 (MQ below (eV D cy A (fun u : (Nat → Nat → Int32) × Ob => ((snW cy aSn u.1) ++ (pW cy aP e_P_judge u.2))) (fun (u : (Nat → Nat → Int32) × Ob) => Q u.1 u.2)) args s (rmN 3).cells (rmN 3).slots A) (F0 m 0 ls []) := ?hgo
  · rw [hH, hLc] at hgo; exact hgo
  refine lv_iconst (v := 1) hx hb dX5_lay_0 (by decide) ?_
  refine lv_istore_n (lv' := [(3, .int 1), (0, .ref (aSn 0)), (1, .ref (aP 0)), (2, .int x2)]) hx hb dX5_lay_1 rfl hl (by decide) rfl (fun ls hl => ?_)
  refine wl3_ind (G := fun (x3_1 : Int32) (S2 : (Nat → Nat → Int32)) (S3 : Ob) => ∀ (H : Heap) (locs : List Loc) (ls : Array Slot), wV D A s.heap ((snW cy aSn S2) ++ (pW cy aP e_P_judge S3)) H locs → lv_has ls 5 [(3, .int x3_1), (0, .ref (aSn 0)), (1, .ref (aP 0)), (2, .int x2)] → W p l e (rmN 3) s m args below meth c H locs 0 0 (MQ below (eV D cy A (fun u : (Nat → Nat → Int32) × Ob => ((snW cy aSn u.1) ++ (pW cy aP e_P_judge u.2))) (fun (u : (Nat → Nat → Int32) × Ob) => Q u.1 u.2)) args s (rmN 3).cells (rmN 3).slots A) (F0 m 2 ls [])) ?_ _ _ _ hm H locs ls hw (lv_sub hl [0, 1, 2, 3] rfl)
  intro L4 ih4 x3_1 S2 S3 hm H locs ls hw hl
  refine lv_iload_n hx hb dX5_lay_2 rfl (lv_at hl 0 rfl) ?_
  refine lv_iconst (v := 4) hx hb dX5_lay_3 (by decide) ?_
  refine lv_icmp_ge (tgt := 68) hx hb dX5_lay_4 (by decide) (fun c20 => ?_) (fun c20 => ?_)
  · have hm := hm.1 c20
    exact retV (u := (S2, S3)) hc hw hm dX5_lay_68
  · have hm := hm.2 c20
    refine lv_iload_n hx hb dX5_lay_7 rfl (lv_at hl 0 rfl) ?_
    refine lv_iload_n hx hb dX5_lay_8 rfl (lv_at hl 3 rfl) ?_
    refine lv_icmp_gt (tgt := 68) hx hb dX5_lay_9 (by decide) (fun c19 => ?_) (fun c19 => ?_)
    · have hm := hm.1 c19
      exact retV (u := (S2, S3)) hc hw hm dX5_lay_68
    · have hm := hm.2 c19
      refine lv_iload_n hx hb dX5_lay_12 rfl (lv_at hl 0 rfl) ?_
      refine lv_aload_n hx hb dX5_lay_13 rfl (lv_at hl 2 rfl) ?_
      refine gN (k := 17) (host := "OlderTale") hc hw inX3 rfl 6 rfl (by decide) (nmm 352 (by decide +kernel)) rfl dX5_lay_14 ?_
      refine lv_icmp_le (tgt := 62) hx hb dX5_lay_17 (by decide) (fun c18 => ?_) (fun c18 => ?_)
      · have hm := hm.1 c18
        obtain ⟨v5, e_v5⟩ : ∃ z : Int32, z = x3_1 + 1 := ⟨_, rfl⟩
        have hm := hm v5 e_v5
        refine lv_iinc (v := v5) (lv' := [(3, .int v5), (0, .ref (aSn 0)), (1, .ref (aP 0)), (2, .int x2)]) hx hb dX5_lay_62 hl (k := 0) rfl (by rw [e_v5]; rfl) (by decide) rfl (fun ls hl => ?_)
        refine lv_goto (tgt := 2) hx hb dX5_lay_65 (by decide) ?_
        exact ih4 _ _ _ hm _ _ _ hw (lv_sub hl [0, 1, 2, 3] rfl)
      · have hm := hm.2 c18
        refine lv_iconst (v := 0) hx hb dX5_lay_20 (by decide) ?_
        refine lv_istore (lv' := [(4, .int 0), (3, .int x3_1), (0, .ref (aSn 0)), (1, .ref (aP 0)), (2, .int x2)]) hx hb dX5_lay_21 hl (by decide) rfl (fun ls hl => ?_)
        refine wl2_ind (G := fun (x4_6 : Int32) (S7 : (Nat → Nat → Int32)) => ∀ (H : Heap) (locs : List Loc) (ls : Array Slot), wV D A s.heap ((snW cy aSn S7) ++ (pW cy aP e_P_judge S3)) H locs → lv_has ls 5 [(4, .int x4_6), (3, .int x3_1), (0, .ref (aSn 0)), (1, .ref (aP 0)), (2, .int x2)] → W p l e (rmN 3) s m args below meth c H locs 0 0 (MQ below (eV D cy A (fun u : (Nat → Nat → Int32) × Ob => ((snW cy aSn u.1) ++ (pW cy aP e_P_judge u.2))) (fun (u : (Nat → Nat → Int32) × Ob) => Q u.1 u.2)) args s (rmN 3).cells (rmN 3).slots A) (F0 m 23 ls [])) ?_ _ _ hm H locs ls hw (lv_sub hl [0, 1, 2, 3, 4] rfl)
        intro L8 ih8 x4_6 S7 hm H locs ls hw hl
        refine lv_iload hx hb dX5_lay_23 (lv_at hl 0 rfl) ?_
        refine lv_iconst (v := 1) hx hb dX5_lay_25 (by decide) ?_
        refine lv_aload_n hx hb dX5_lay_26 rfl (lv_at hl 3 rfl) ?_
        refine gN (k := 6) (host := "OlderTale") hc hw inX3 rfl 6 rfl (by decide) (nmm 335 (by decide +kernel)) rfl dX5_lay_27 ?_
        refine lv_ishl hx hb dX5_lay_30 ?_
        refine lv_icmp_ge (tgt := 57) hx hb dX5_lay_31 (by decide) (fun c17 => ?_) (fun c17 => ?_)
        · have hm := hm.1 c17
          refine lv_aload_n hx hb dX5_lay_57 rfl (lv_at hl 3 rfl) ?_
          refine lv_iload_n hx hb dX5_lay_58 rfl (lv_at hl 1 rfl) ?_
          refine pN (k := 17) (ty := .int) (host := "OlderTale") hc hw inX3 tyX3_ok nmX3 rfl 6 rfl (by decide) (nmm 352 (by decide +kernel)) rfl (by decide +kernel) rfl rfl (Nat.le_of_ble_eq_true rfl) dX5_lay_59 (fun H locs hw => ?_)
          obtain ⟨S9, e_S9⟩ : ∃ z : Ob, z = uS S3 17 x3_1 := ⟨_, rfl⟩
          have hm := hm S9 e_S9
          have hw : wV D A s.heap ((snW cy aSn S7) ++ (pW cy aP e_P_judge S9)) H locs := by rw [e_S9]; exact hw
          obtain ⟨v10, e_v10⟩ : ∃ z : Int32, z = x3_1 + 1 := ⟨_, rfl⟩
          have hm := hm v10 e_v10
          refine lv_iinc (v := v10) (lv' := [(3, .int v10), (4, .int x4_6), (0, .ref (aSn 0)), (1, .ref (aP 0)), (2, .int x2)]) hx hb dX5_lay_62 hl (k := 1) rfl (by rw [e_v10]; rfl) (by decide) rfl (fun ls hl => ?_)
          refine lv_goto (tgt := 2) hx hb dX5_lay_65 (by decide) ?_
          exact ih4 _ _ _ hm _ _ _ hw (lv_sub hl [0, 2, 3, 4] rfl)
        · have hm := hm.2 c17
          refine lv_aload_n hx hb dX5_lay_34 rfl (lv_at hl 2 rfl) ?_
          refine gF (k := 0) hc hw inX5 rfl 0 rfl (by decide) (gm 929 (by decide +kernel) rfl) rfl dX5_lay_35 ?_
          refine lv_iload_n hx hb dX5_lay_38 rfl (lv_at hl 1 rfl) ?_
          obtain ⟨c11, hm⟩ := hm
          refine aRow hc hw c11 dX5_lay_39 ?_
          refine lv_iload hx hb dX5_lay_40 (lv_at hl 0 rfl) ?_
          refine lv_aload_n hx hb dX5_lay_42 rfl (lv_at hl 2 rfl) ?_
          refine lv_aload_n hx hb dX5_lay_43 rfl (lv_at hl 3 rfl) ?_
          refine lv_iload_n hx hb dX5_lay_44 rfl (lv_at hl 1 rfl) ?_
          refine lv_iload hx hb dX5_lay_45 (lv_at hl 0 rfl) ?_
          refine aV_I (As := [.ref (aP 0), .int x3_1, .int x4_6]) (rest := [.int x4_6, .ref (aSn ((Int32.toNatClampNeg x3_1) + 2))]) hc hw (c_X5_most hm) lk_X5_25 rfl rfl ⟨Nat.le_of_ble_eq_true rfl, Nat.le_of_ble_eq_true rfl⟩ ⟨Nat.le_of_ble_eq_true rfl, Nat.le_of_ble_eq_true rfl⟩ hl.1 rfl (Nat.le_of_ble_eq_true rfl) rfl dX5_lay_47 (fun r12 _ H locs hm hw => ?_)
          have hw : wV D A s.heap ((snW cy aSn S7) ++ (pW cy aP e_P_judge S3)) H locs := hw
          obtain ⟨c14, hm⟩ := hm
          refine sRI (k := (Int32.toNatClampNeg x3_1)) hc hw (in_lt c11) c14 dX5_lay_50 (fun H locs hw => ?_)
          obtain ⟨S15, e_S15⟩ : ∃ z : (Nat → Nat → Int32), z = va_up S7 (Int32.toNatClampNeg x3_1) (upd (S7 (Int32.toNatClampNeg x3_1)) (Int32.toNatClampNeg x4_6) r12) := ⟨_, rfl⟩
          have hm := hm S15 e_S15
          have hw : wV D A s.heap ((snW cy aSn S15) ++ (pW cy aP e_P_judge S3)) H locs := by rw [e_S15]; exact hw
          obtain ⟨v16, e_v16⟩ : ∃ z : Int32, z = x4_6 + 1 := ⟨_, rfl⟩
          have hm := hm v16 e_v16
          refine lv_iinc (v := v16) (lv' := [(4, .int v16), (3, .int x3_1), (0, .ref (aSn 0)), (1, .ref (aP 0)), (2, .int x2)]) hx hb dX5_lay_51 hl (k := 0) rfl (by rw [e_v16]; rfl) (by decide) rfl (fun ls hl => ?_)
          refine lv_goto (tgt := 23) hx hb dX5_lay_54 (by decide) ?_
          exact ih8 _ _ hm _ _ _ hw (lv_sub hl [0, 1, 2, 3, 4] rfl)
set_option maxHeartbeats 4000000 in
set_option maxRecDepth 100000 in
theorem c_X8_winter {l : Launch} {D : va_G} {cy : Nat → ClassId} {aO : Nat → Nat} {aB : Nat → Nat} {als : Nat → Nat} {aP : Nat → Nat} {aJ : Nat → Nat} {aLw : Nat → Nat} {aSn : Nat → Nat} {e_O_images : Nat} {e_O_tape : Nat} {e_O_reader : Nat} {e_O_trial : Option Nat} {e_O_dates : Nat} {e_O_line : Nat} {e_O_evening : Nat} {e_O_choices : Nat} {e_B_told : Nat} {e_B_mentions : Nat} {e_B_claims : Nat} {SO : Ob} {SB : Ob} {Sls : (Nat → Option Nat)} {SP : Ob} {SJ : Ob} {SLw : Lw} {SSn : (Nat → Nat → Int32)} {x1 : Int32} {x2 : Int32} {Q : Int32 → Ob → Ob → (Nat → Nat → Int32) → Prop} (hm : w_X8_winter aLw SO SB Sls SP SJ SLw SSn x1 x2 Q) : CtI l yX8_winter cX8_winter 6 (some .int) (rmN 6) D cy [.ref (aO 0), .int x1, .int x2] ((oW cy aO (aB 0) e_O_images e_O_tape e_O_reader (aP 0) e_O_trial (some (aSn 0)) e_O_dates e_O_line e_O_evening e_O_choices SO) ++ ((bW cy aB (als 0) e_B_told e_B_mentions e_B_claims SB) ++ ((lsW cy als Sls) ++ ((pW cy aP (aJ 0) SP) ++ ((jW cy aJ SJ) ++ ((lwW cy aLw SLw) ++ (snW cy aSn SSn))))))) (fun u : Ob × Ob × (Nat → Nat → Int32) => ((oW cy aO (aB 0) e_O_images e_O_tape e_O_reader (aP 0) e_O_trial (some (aSn 0)) e_O_dates e_O_line e_O_evening e_O_choices SO) ++ ((bW cy aB (als 0) e_B_told e_B_mentions e_B_claims SB) ++ ((lsW cy als Sls) ++ ((pW cy aP (aJ 0) u.1) ++ ((jW cy aJ u.2.1) ++ ((lwW cy aLw SLw) ++ (snW cy aSn u.2.2)))))))) (fun (r : Int32) (u : Ob × Ob × (Nat → Nat → Int32)) => Q r u.1 u.2.1 u.2.2) := by
  refine CtI.ofW (by decide) (Nat.le_of_ble_eq_true rfl) ?_
  intro p e s m args below meth c A ls hc hnm hw hl
  have hx := hc.1.1
  have hb := hc.1.2.1
  have hown := hc.1.2.2.2.1
  have hts := hc.1.2.2.2.2
  have hl : lv_has ls 6 [(0, .ref (aO 0)), (1, .int x1), (2, .int x2)] := hl
  obtain ⟨H, hH⟩ : ∃ z, z = s.heap := ⟨_, rfl⟩
  obtain ⟨locs, hLc⟩ : ∃ z : List Loc, z = [] := ⟨_, rfl⟩
  have hw : wV D A s.heap ((oW cy aO (aB 0) e_O_images e_O_tape e_O_reader (aP 0) e_O_trial (some (aSn 0)) e_O_dates e_O_line e_O_evening e_O_choices SO) ++ ((bW cy aB (als 0) e_B_told e_B_mentions e_B_claims SB) ++ ((lsW cy als Sls) ++ ((pW cy aP (aJ 0) SP) ++ ((jW cy aJ SJ) ++ ((lwW cy aLw SLw) ++ (snW cy aSn SSn))))))) H locs := by rw [hH, hLc]; exact hw
  have hgo : W p l e (rmN 6) s m args below meth c H locs 0 0 (MQ below (eI D cy A (fun u : Ob × Ob × (Nat → Nat → Int32) => ((oW cy aO (aB 0) e_O_images e_O_tape e_O_reader (aP 0) e_O_trial (some (aSn 0)) e_O_dates e_O_line e_O_evening e_O_choices SO) ++ ((bW cy aB (als 0) e_B_told e_B_mentions e_B_claims SB) ++ ((lsW cy als Sls) ++ ((pW cy aP (aJ 0) u.1) ++ ((jW cy aJ u.2.1) ++ ((lwW cy aLw SLw) ++ (snW cy aSn u.2.2)))))))) (fun (r : Int32) (u : Ob × Ob × (Nat → Nat → Int32)) => Q r u.1 u.2.1 u.2.2)) args s (rmN 6).cells (rmN 6).slots A) (F0 m 0 ls []) := ?hgo
  · rw [hH, hLc] at hgo; exact hgo
  refine lv_iload_n hx hb dX8_winter_0 rfl (lv_at hl 1 rfl) ?_
  refine lv_iconst (v := 1) hx hb dX8_winter_1 (by decide) ?_
  refine lv_icmp_lt (tgt := 20) hx hb dX8_winter_2 (by decide) (fun c24 => ?_) (fun c24 => ?_)
  · have hm := hm.1 c24
    refine lv_iconst (v := (-1)) hx hb dX8_winter_20 (by decide) ?_
    exact retI (u := (SP, SJ, SSn)) hc hw hm dX8_winter_21
  · have hm := hm.2 c24
    refine lv_iload_n hx hb dX8_winter_5 rfl (lv_at hl 1 rfl) ?_
    refine lv_iconst (v := 4) hx hb dX8_winter_6 (by decide) ?_
    refine lv_icmp_gt (tgt := 20) hx hb dX8_winter_7 (by decide) (fun c23 => ?_) (fun c23 => ?_)
    · have hm := hm.1 c23
      refine lv_iconst (v := (-1)) hx hb dX8_winter_20 (by decide) ?_
      exact retI (u := (SP, SJ, SSn)) hc hw hm dX8_winter_21
    · have hm := hm.2 c23
      refine lv_iload_n hx hb dX8_winter_10 rfl (lv_at hl 2 rfl) ?_
      refine lv_iconst (v := (-1)) hx hb dX8_winter_11 (by decide) ?_
      refine lv_icmp_lt (tgt := 20) hx hb dX8_winter_12 (by decide) (fun c22 => ?_) (fun c22 => ?_)
      · have hm := hm.1 c22
        refine lv_iconst (v := (-1)) hx hb dX8_winter_20 (by decide) ?_
        exact retI (u := (SP, SJ, SSn)) hc hw hm dX8_winter_21
      · have hm := hm.2 c22
        refine lv_iload_n hx hb dX8_winter_15 rfl (lv_at hl 2 rfl) ?_
        refine lv_iload_n hx hb dX8_winter_16 rfl (lv_at hl 1 rfl) ?_
        refine lv_icmp_lt (tgt := 22) hx hb dX8_winter_17 (by decide) (fun c21 => ?_) (fun c21 => ?_)
        · have hm := hm.1 c21
          refine lv_aload_n hx hb dX8_winter_22 rfl (lv_at hl 0 rfl) ?_
          refine gF (k := 8) hc hw inX8 rfl 0 rfl (by decide) (gm 423 (by decide +kernel) rfl) rfl dX8_winter_23 ?_
          refine lv_aload_n hx hb dX8_winter_26 rfl (lv_at hl 0 rfl) ?_
          refine gF (k := 0) hc hw inX8 rfl 0 rfl (by decide) (gm 415 (by decide +kernel) rfl) rfl dX8_winter_27 ?_
          refine nVN_V (As := [.ref (aB 0)]) (rest := []) (wc := ((pW cy aP (aJ 0) SP) ++ ((jW cy aJ SJ) ++ ((bW cy aB (als 0) e_B_told e_B_mentions e_B_claims SB) ++ ((lsW cy als Sls) ++ (lwW cy aLw SLw)))))) (wr := ((oW cy aO (aB 0) e_O_images e_O_tape e_O_reader (aP 0) e_O_trial (some (aSn 0)) e_O_dates e_O_line e_O_evening e_O_choices SO) ++ (snW cy aSn SSn))) (isC := [10, 11, 12, 13, 14, 15, 16, 17, 18, 19, 20, 21, 22, 23, 3, 4, 5, 6, 7, 8, 9, 24, 25, 26, 27, 28]) (isR := [0, 1, 2, 29, 30, 31, 32, 33, 34]) hc hw (c_X3_reckon hm) lk_X8_197 ⟨rfl, rfl, rfl, rfl, by decide⟩ rfl rfl ⟨Nat.le_of_ble_eq_true rfl, Nat.le_of_ble_eq_true rfl⟩ ⟨Nat.le_of_ble_eq_true rfl, Nat.le_of_ble_eq_true rfl⟩ hl.1 rfl (Nat.le_of_ble_eq_true rfl) rfl dX8_winter_30 (fun u_2 H locs hm hw => ?_)
          obtain ⟨S1, S2⟩ := u_2
          have hw : wV D A s.heap ((oW cy aO (aB 0) e_O_images e_O_tape e_O_reader (aP 0) e_O_trial (some (aSn 0)) e_O_dates e_O_line e_O_evening e_O_choices SO) ++ ((bW cy aB (als 0) e_B_told e_B_mentions e_B_claims SB) ++ ((lsW cy als Sls) ++ ((pW cy aP (aJ 0) S1) ++ ((jW cy aJ S2) ++ ((lwW cy aLw SLw) ++ (snW cy aSn SSn))))))) H locs := hw.perm [0, 1, 2, 23, 24, 25, 26, 27, 28, 29, 9, 10, 11, 12, 13, 14, 15, 16, 17, 18, 19, 20, 21, 22, 30, 31, 32, 33, 34, 3, 4, 5, 6, 7, 8] rfl rfl
          refine lv_aload_n hx hb dX8_winter_33 rfl (lv_at hl 0 rfl) ?_
          refine gF (k := 10) hc hw inX8 rfl 0 rfl (by decide) (gm 425 (by decide +kernel) rfl) rfl dX8_winter_34 ?_
          refine lv_ifnonnull (tgt := 51) hx hb dX8_winter_37 (by decide) ?_
          refine lv_aload_n hx hb dX8_winter_51 rfl (lv_at hl 0 rfl) ?_
          refine gF (k := 10) hc hw inX8 rfl 0 rfl (by decide) (gm 425 (by decide +kernel) rfl) rfl dX8_winter_52 ?_
          refine lv_aload_n hx hb dX8_winter_55 rfl (lv_at hl 0 rfl) ?_
          refine gF (k := 8) hc hw inX8 rfl 0 rfl (by decide) (gm 423 (by decide +kernel) rfl) rfl dX8_winter_56 ?_
          refine lv_iload_n hx hb dX8_winter_59 rfl (lv_at hl 1 rfl) ?_
          refine lv_iconst (v := 1) hx hb dX8_winter_60 (by decide) ?_
          refine lv_isub hx hb dX8_winter_61 ?_
          refine nVN_V (As := [.ref (aP 0), .int (x1 - 1)]) (rest := []) (wc := ((snW cy aSn SSn) ++ (pW cy aP (aJ 0) S1))) (wr := ((oW cy aO (aB 0) e_O_images e_O_tape e_O_reader (aP 0) e_O_trial (some (aSn 0)) e_O_dates e_O_line e_O_evening e_O_choices SO) ++ ((bW cy aB (als 0) e_B_told e_B_mentions e_B_claims SB) ++ ((lsW cy als Sls) ++ ((jW cy aJ S2) ++ (lwW cy aLw SLw)))))) (isC := [29, 30, 31, 32, 33, 34, 10, 11, 12, 13, 14, 15, 16, 17, 18, 19, 20]) (isR := [0, 1, 2, 3, 4, 5, 6, 7, 8, 9, 21, 22, 23, 24, 25, 26, 27, 28]) hc hw (c_X5_lay hm) lk_X8_236 ⟨rfl, rfl, rfl, rfl, by decide⟩ rfl rfl ⟨Nat.le_of_ble_eq_true rfl, Nat.le_of_ble_eq_true rfl⟩ ⟨Nat.le_of_ble_eq_true rfl, Nat.le_of_ble_eq_true rfl⟩ hl.1 rfl (Nat.le_of_ble_eq_true rfl) rfl dX8_winter_62 (fun u_5 H locs hm hw => ?_)
          obtain ⟨S4, S5⟩ := u_5
          have hw : wV D A s.heap ((oW cy aO (aB 0) e_O_images e_O_tape e_O_reader (aP 0) e_O_trial (some (aSn 0)) e_O_dates e_O_line e_O_evening e_O_choices SO) ++ ((bW cy aB (als 0) e_B_told e_B_mentions e_B_claims SB) ++ ((lsW cy als Sls) ++ ((pW cy aP (aJ 0) S5) ++ ((jW cy aJ S2) ++ ((lwW cy aLw SLw) ++ (snW cy aSn S4))))))) H locs := hw.perm [0, 1, 2, 3, 4, 5, 6, 7, 8, 9, 24, 25, 26, 27, 28, 29, 30, 31, 32, 33, 34, 10, 11, 12, 13, 14, 15, 16, 17, 18, 19, 20, 21, 22, 23] rfl rfl
          refine lv_aload_n hx hb dX8_winter_65 rfl (lv_at hl 0 rfl) ?_
          refine gF (k := 0) hc hw inX8 rfl 0 rfl (by decide) (gm 415 (by decide +kernel) rfl) rfl dX8_winter_66 ?_
          refine nVN_I (As := []) (rest := []) (wc := (bW cy aB (als 0) e_B_told e_B_mentions e_B_claims SB)) (wr := ((oW cy aO (aB 0) e_O_images e_O_tape e_O_reader (aP 0) e_O_trial (some (aSn 0)) e_O_dates e_O_line e_O_evening e_O_choices SO) ++ ((lsW cy als Sls) ++ ((pW cy aP (aJ 0) S5) ++ ((jW cy aJ S2) ++ ((lwW cy aLw SLw) ++ (snW cy aSn S4))))))) (isC := [3, 4, 5, 6, 7, 8]) (isR := [0, 1, 2, 9, 10, 11, 12, 13, 14, 15, 16, 17, 18, 19, 20, 21, 22, 23, 24, 25, 26, 27, 28, 29, 30, 31, 32, 33, 34]) hc hw (c_X6_all hm) lk_X8_239 ⟨rfl, rfl, rfl, rfl, by decide⟩ rfl rfl ⟨Nat.le_of_ble_eq_true rfl, Nat.le_of_ble_eq_true rfl⟩ ⟨Nat.le_of_ble_eq_true rfl, Nat.le_of_ble_eq_true rfl⟩ hl.1 rfl (Nat.le_of_ble_eq_true rfl) rfl dX8_winter_69 (fun r7 _ H locs hm hw => ?_)
          have hw : wV D A s.heap ((oW cy aO (aB 0) e_O_images e_O_tape e_O_reader (aP 0) e_O_trial (some (aSn 0)) e_O_dates e_O_line e_O_evening e_O_choices SO) ++ ((bW cy aB (als 0) e_B_told e_B_mentions e_B_claims SB) ++ ((lsW cy als Sls) ++ ((pW cy aP (aJ 0) S5) ++ ((jW cy aJ S2) ++ ((lwW cy aLw SLw) ++ (snW cy aSn S4))))))) H locs := hw.perm [0, 1, 2, 29, 30, 31, 32, 33, 34, 3, 4, 5, 6, 7, 8, 9, 10, 11, 12, 13, 14, 15, 16, 17, 18, 19, 20, 21, 22, 23, 24, 25, 26, 27, 28] rfl rfl
          refine lv_istore_n (lv' := [(3, .int r7), (0, .ref (aO 0)), (1, .int x1), (2, .int x2)]) hx hb dX8_winter_72 rfl hl (by decide) rfl (fun ls hl => ?_)
          refine lv_iload_n hx hb dX8_winter_73 rfl (lv_at hl 3 rfl) ?_
          refine lv_iconst (v := (-1)) hx hb dX8_winter_74 (by decide) ?_
          refine lv_icmp_ne (tgt := 92) hx hb dX8_winter_75 (by decide) (fun c20 => ?_) (fun c20 => ?_)
          · have hm := hm.1 c20
            refine lv_iconst (v := 0) hx hb dX8_winter_92 (by decide) ?_
            refine lv_istore (lv' := [(4, .int 0), (3, .int r7), (0, .ref (aO 0)), (1, .int x1), (2, .int x2)]) hx hb dX8_winter_93 hl (by decide) rfl (fun ls hl => ?_)
            refine lv_iconst (v := 0) hx hb dX8_winter_95 (by decide) ?_
            refine lv_istore (lv' := [(5, .int 0), (4, .int 0), (3, .int r7), (0, .ref (aO 0)), (1, .int x1), (2, .int x2)]) hx hb dX8_winter_96 hl (by decide) rfl (fun ls hl => ?_)
            refine wl3_ind (G := fun (x5_9 : Int32) (x4_10 : Int32) (x3_11 : Int32) => ∀ (H : Heap) (locs : List Loc) (ls : Array Slot), wV D A s.heap ((oW cy aO (aB 0) e_O_images e_O_tape e_O_reader (aP 0) e_O_trial (some (aSn 0)) e_O_dates e_O_line e_O_evening e_O_choices SO) ++ ((bW cy aB (als 0) e_B_told e_B_mentions e_B_claims SB) ++ ((lsW cy als Sls) ++ ((pW cy aP (aJ 0) S5) ++ ((jW cy aJ S2) ++ ((lwW cy aLw SLw) ++ (snW cy aSn S4))))))) H locs → lv_has ls 6 [(5, .int x5_9), (4, .int x4_10), (3, .int x3_11), (0, .ref (aO 0)), (1, .int x1), (2, .int x2)] → W p l e (rmN 6) s m args below meth c H locs 0 0 (MQ below (eI D cy A (fun u : Ob × Ob × (Nat → Nat → Int32) => ((oW cy aO (aB 0) e_O_images e_O_tape e_O_reader (aP 0) e_O_trial (some (aSn 0)) e_O_dates e_O_line e_O_evening e_O_choices SO) ++ ((bW cy aB (als 0) e_B_told e_B_mentions e_B_claims SB) ++ ((lsW cy als Sls) ++ ((pW cy aP (aJ 0) u.1) ++ ((jW cy aJ u.2.1) ++ ((lwW cy aLw SLw) ++ (snW cy aSn u.2.2)))))))) (fun (r : Int32) (u : Ob × Ob × (Nat → Nat → Int32)) => Q r u.1 u.2.1 u.2.2)) args s (rmN 6).cells (rmN 6).slots A) (F0 m 98 ls [])) ?_ _ _ _ hm H locs ls hw (lv_sub hl [0, 1, 2, 3, 4, 5] rfl)
            intro L12 ih12 x5_9 x4_10 x3_11 hm H locs ls hw hl
            refine lv_iload hx hb dX8_winter_98 (lv_at hl 0 rfl) ?_
            refine lv_iload_n hx hb dX8_winter_100 rfl (lv_at hl 5 rfl) ?_
            refine lv_icmp_gt (tgt := 135) hx hb dX8_winter_101 (by decide) (fun c17 => ?_) (fun c17 => ?_)
            · have hm := hm.1 c17
              refine lv_iload hx hb dX8_winter_135 (lv_at hl 1 rfl) ?_
              exact retI (u := (S5, S2, S4)) hc hw hm dX8_winter_137
            · have hm := hm.2 c17
              refine lv_iload_n hx hb dX8_winter_104 rfl (lv_at hl 2 rfl) ?_
              refine lv_iload hx hb dX8_winter_105 (lv_at hl 1 rfl) ?_
              refine lv_iconst (v := (-1)) hx hb dX8_winter_107 (by decide) ?_
              refine lv_ixor hx hb dX8_winter_108 ?_
              refine lv_iand hx hb dX8_winter_109 ?_
              refine lv_topi (fun v13 e_v13 => ?_)
              have hm := hm v13 e_v13
              refine lv_istore_n (lv' := [(3, .int v13), (5, .int x5_9), (4, .int x4_10), (0, .ref (aO 0)), (1, .int x1), (2, .int x2)]) hx hb dX8_winter_110 rfl hl (by decide) rfl (fun ls hl => ?_)
              refine lv_aload_n hx hb dX8_winter_111 rfl (lv_at hl 3 rfl) ?_
              refine gF (k := 10) hc hw inX8 rfl 0 rfl (by decide) (gm 425 (by decide +kernel) rfl) rfl dX8_winter_112 ?_
              refine lv_aload_n hx hb dX8_winter_115 rfl (lv_at hl 3 rfl) ?_
              refine gF (k := 8) hc hw inX8 rfl 0 rfl (by decide) (gm 423 (by decide +kernel) rfl) rfl dX8_winter_116 ?_
              refine lv_iload_n hx hb dX8_winter_119 rfl (lv_at hl 4 rfl) ?_
              refine lv_iload hx hb dX8_winter_120 (lv_at hl 1 rfl) ?_
              refine lv_isub hx hb dX8_winter_122 ?_
              refine lv_iload_n hx hb dX8_winter_123 rfl (lv_at hl 0 rfl) ?_
              refine nVN_I (As := [.ref (aP 0), .int (x1 - x5_9), .int v13]) (rest := []) (wc := ((snW cy aSn S4) ++ (pW cy aP (aJ 0) S5))) (wr := ((oW cy aO (aB 0) e_O_images e_O_tape e_O_reader (aP 0) e_O_trial (some (aSn 0)) e_O_dates e_O_line e_O_evening e_O_choices SO) ++ ((bW cy aB (als 0) e_B_told e_B_mentions e_B_claims SB) ++ ((lsW cy als Sls) ++ ((jW cy aJ S2) ++ (lwW cy aLw SLw)))))) (isC := [29, 30, 31, 32, 33, 34, 10, 11, 12, 13, 14, 15, 16, 17, 18, 19, 20]) (isR := [0, 1, 2, 3, 4, 5, 6, 7, 8, 9, 21, 22, 23, 24, 25, 26, 27, 28]) hc hw (c_X5_lowest hm) lk_X8_246 ⟨rfl, rfl, rfl, rfl, by decide⟩ rfl rfl ⟨Nat.le_of_ble_eq_true rfl, Nat.le_of_ble_eq_true rfl⟩ ⟨Nat.le_of_ble_eq_true rfl, Nat.le_of_ble_eq_true rfl⟩ hl.1 rfl (Nat.le_of_ble_eq_true rfl) rfl dX8_winter_124 (fun r14 _ H locs hm hw => ?_)
              have hw : wV D A s.heap ((oW cy aO (aB 0) e_O_images e_O_tape e_O_reader (aP 0) e_O_trial (some (aSn 0)) e_O_dates e_O_line e_O_evening e_O_choices SO) ++ ((bW cy aB (als 0) e_B_told e_B_mentions e_B_claims SB) ++ ((lsW cy als Sls) ++ ((pW cy aP (aJ 0) S5) ++ ((jW cy aJ S2) ++ ((lwW cy aLw SLw) ++ (snW cy aSn S4))))))) H locs := hw.perm [0, 1, 2, 3, 4, 5, 6, 7, 8, 9, 24, 25, 26, 27, 28, 29, 30, 31, 32, 33, 34, 10, 11, 12, 13, 14, 15, 16, 17, 18, 19, 20, 21, 22, 23] rfl rfl
              refine lv_istore (lv' := [(4, .int r14), (3, .int v13), (5, .int x5_9), (0, .ref (aO 0)), (1, .int x1), (2, .int x2)]) hx hb dX8_winter_127 hl (by decide) rfl (fun ls hl => ?_)
              obtain ⟨v16, e_v16⟩ : ∃ z : Int32, z = x5_9 + 1 := ⟨_, rfl⟩
              have hm := hm v16 e_v16
              refine lv_iinc (v := v16) (lv' := [(5, .int v16), (4, .int r14), (3, .int v13), (0, .ref (aO 0)), (1, .int x1), (2, .int x2)]) hx hb dX8_winter_129 hl (k := 2) rfl (by rw [e_v16]; rfl) (by decide) rfl (fun ls hl => ?_)
              refine lv_goto (tgt := 98) hx hb dX8_winter_132 (by decide) ?_
              exact ih12 _ _ _ hm _ _ _ hw (lv_sub hl [0, 1, 2, 3, 4, 5] rfl)
          · have hm := hm.2 c20
            refine lv_aload_n hx hb dX8_winter_78 rfl (lv_at hl 1 rfl) ?_
            refine gF (k := 10) hc hw inX8 rfl 0 rfl (by decide) (gm 425 (by decide +kernel) rfl) rfl dX8_winter_79 ?_
            refine lv_aload_n hx hb dX8_winter_82 rfl (lv_at hl 1 rfl) ?_
            refine gF (k := 8) hc hw inX8 rfl 0 rfl (by decide) (gm 423 (by decide +kernel) rfl) rfl dX8_winter_83 ?_
            refine lv_iload_n hx hb dX8_winter_86 rfl (lv_at hl 2 rfl) ?_
            refine lv_iload_n hx hb dX8_winter_87 rfl (lv_at hl 0 rfl) ?_
            refine nVN_I (As := [.ref (aP 0), .int x1, .int r7]) (rest := []) (wc := ((snW cy aSn S4) ++ (pW cy aP (aJ 0) S5))) (wr := ((oW cy aO (aB 0) e_O_images e_O_tape e_O_reader (aP 0) e_O_trial (some (aSn 0)) e_O_dates e_O_line e_O_evening e_O_choices SO) ++ ((bW cy aB (als 0) e_B_told e_B_mentions e_B_claims SB) ++ ((lsW cy als Sls) ++ ((jW cy aJ S2) ++ (lwW cy aLw SLw)))))) (isC := [29, 30, 31, 32, 33, 34, 10, 11, 12, 13, 14, 15, 16, 17, 18, 19, 20]) (isR := [0, 1, 2, 3, 4, 5, 6, 7, 8, 9, 21, 22, 23, 24, 25, 26, 27, 28]) hc hw (c_X5_most hm) lk_X8_242 ⟨rfl, rfl, rfl, rfl, by decide⟩ rfl rfl ⟨Nat.le_of_ble_eq_true rfl, Nat.le_of_ble_eq_true rfl⟩ ⟨Nat.le_of_ble_eq_true rfl, Nat.le_of_ble_eq_true rfl⟩ hl.1 rfl (Nat.le_of_ble_eq_true rfl) rfl dX8_winter_88 (fun r18 _ H locs hm hw => ?_)
            have hw : wV D A s.heap ((oW cy aO (aB 0) e_O_images e_O_tape e_O_reader (aP 0) e_O_trial (some (aSn 0)) e_O_dates e_O_line e_O_evening e_O_choices SO) ++ ((bW cy aB (als 0) e_B_told e_B_mentions e_B_claims SB) ++ ((lsW cy als Sls) ++ ((pW cy aP (aJ 0) S5) ++ ((jW cy aJ S2) ++ ((lwW cy aLw SLw) ++ (snW cy aSn S4))))))) H locs := hw.perm [0, 1, 2, 3, 4, 5, 6, 7, 8, 9, 24, 25, 26, 27, 28, 29, 30, 31, 32, 33, 34, 10, 11, 12, 13, 14, 15, 16, 17, 18, 19, 20, 21, 22, 23] rfl rfl
            exact retI (u := (S5, S2, S4)) hc hw hm dX8_winter_91
        · have hm := hm.2 c21
          refine lv_iconst (v := (-1)) hx hb dX8_winter_20 (by decide) ?_
          exact retI (u := (SP, SJ, SSn)) hc hw hm dX8_winter_21
set_option maxHeartbeats 4000000 in
set_option maxRecDepth 100000 in
theorem c_X8_winterN {l : Launch} {D : va_G} {cy : Nat → ClassId} {aO : Nat → Nat} {aB : Nat → Nat} {als : Nat → Nat} {aP : Nat → Nat} {aJ : Nat → Nat} {aSn : Nat → Nat} {e_O_images : Nat} {e_O_tape : Nat} {e_O_reader : Nat} {e_O_trial : Option Nat} {e_O_dates : Nat} {e_O_line : Nat} {e_O_evening : Nat} {e_O_choices : Nat} {e_B_told : Nat} {e_B_mentions : Nat} {e_B_claims : Nat} {SO : Ob} {SB : Ob} {Sls : (Nat → Option Nat)} {SP : Ob} {SJ : Ob} {SSn : (Nat → Nat → Int32)} {x1 : Int32} {x2 : Int32} {Q : Int32 → Ob → Ob → (Nat → Nat → Int32) → Prop} (hm : w_X8_winterN SO SB Sls SP SJ SSn x1 x2 Q) : CtI l yX8_winter cX8_winter 6 (some .int) (rmN 6) D cy [.ref (aO 0), .int x1, .int x2] ((oW cy aO (aB 0) e_O_images e_O_tape e_O_reader (aP 0) e_O_trial (some (aSn 0)) e_O_dates e_O_line e_O_evening e_O_choices SO) ++ ((bW cy aB (als 0) e_B_told e_B_mentions e_B_claims SB) ++ ((lsW cy als Sls) ++ ((pW cy aP (aJ 0) SP) ++ ((jW cy aJ SJ) ++ (snW cy aSn SSn)))))) (fun u : Ob × Ob × (Nat → Nat → Int32) => ((oW cy aO (aB 0) e_O_images e_O_tape e_O_reader (aP 0) e_O_trial (some (aSn 0)) e_O_dates e_O_line e_O_evening e_O_choices SO) ++ ((bW cy aB (als 0) e_B_told e_B_mentions e_B_claims SB) ++ ((lsW cy als Sls) ++ ((pW cy aP (aJ 0) u.1) ++ ((jW cy aJ u.2.1) ++ (snW cy aSn u.2.2))))))) (fun (r : Int32) (u : Ob × Ob × (Nat → Nat → Int32)) => Q r u.1 u.2.1 u.2.2) := by
  refine CtI.ofW (by decide) (Nat.le_of_ble_eq_true rfl) ?_
  intro p e s m args below meth c A ls hc hnm hw hl
  have hx := hc.1.1
  have hb := hc.1.2.1
  have hown := hc.1.2.2.2.1
  have hts := hc.1.2.2.2.2
  have hl : lv_has ls 6 [(0, .ref (aO 0)), (1, .int x1), (2, .int x2)] := hl
  obtain ⟨H, hH⟩ : ∃ z, z = s.heap := ⟨_, rfl⟩
  obtain ⟨locs, hLc⟩ : ∃ z : List Loc, z = [] := ⟨_, rfl⟩
  have hw : wV D A s.heap ((oW cy aO (aB 0) e_O_images e_O_tape e_O_reader (aP 0) e_O_trial (some (aSn 0)) e_O_dates e_O_line e_O_evening e_O_choices SO) ++ ((bW cy aB (als 0) e_B_told e_B_mentions e_B_claims SB) ++ ((lsW cy als Sls) ++ ((pW cy aP (aJ 0) SP) ++ ((jW cy aJ SJ) ++ (snW cy aSn SSn)))))) H locs := by rw [hH, hLc]; exact hw
  have hgo : W p l e (rmN 6) s m args below meth c H locs 0 0 (MQ below (eI D cy A (fun u : Ob × Ob × (Nat → Nat → Int32) => ((oW cy aO (aB 0) e_O_images e_O_tape e_O_reader (aP 0) e_O_trial (some (aSn 0)) e_O_dates e_O_line e_O_evening e_O_choices SO) ++ ((bW cy aB (als 0) e_B_told e_B_mentions e_B_claims SB) ++ ((lsW cy als Sls) ++ ((pW cy aP (aJ 0) u.1) ++ ((jW cy aJ u.2.1) ++ (snW cy aSn u.2.2))))))) (fun (r : Int32) (u : Ob × Ob × (Nat → Nat → Int32)) => Q r u.1 u.2.1 u.2.2)) args s (rmN 6).cells (rmN 6).slots A) (F0 m 0 ls []) := ?hgo
  · rw [hH, hLc] at hgo; exact hgo
  refine lv_iload_n hx hb dX8_winter_0 rfl (lv_at hl 1 rfl) ?_
  refine lv_iconst (v := 1) hx hb dX8_winter_1 (by decide) ?_
  refine lv_icmp_lt (tgt := 20) hx hb dX8_winter_2 (by decide) (fun c24 => ?_) (fun c24 => ?_)
  · have hm := hm.1 c24
    refine lv_iconst (v := (-1)) hx hb dX8_winter_20 (by decide) ?_
    exact retI (u := (SP, SJ, SSn)) hc hw hm dX8_winter_21
  · have hm := hm.2 c24
    refine lv_iload_n hx hb dX8_winter_5 rfl (lv_at hl 1 rfl) ?_
    refine lv_iconst (v := 4) hx hb dX8_winter_6 (by decide) ?_
    refine lv_icmp_gt (tgt := 20) hx hb dX8_winter_7 (by decide) (fun c23 => ?_) (fun c23 => ?_)
    · have hm := hm.1 c23
      refine lv_iconst (v := (-1)) hx hb dX8_winter_20 (by decide) ?_
      exact retI (u := (SP, SJ, SSn)) hc hw hm dX8_winter_21
    · have hm := hm.2 c23
      refine lv_iload_n hx hb dX8_winter_10 rfl (lv_at hl 2 rfl) ?_
      refine lv_iconst (v := (-1)) hx hb dX8_winter_11 (by decide) ?_
      refine lv_icmp_lt (tgt := 20) hx hb dX8_winter_12 (by decide) (fun c22 => ?_) (fun c22 => ?_)
      · have hm := hm.1 c22
        refine lv_iconst (v := (-1)) hx hb dX8_winter_20 (by decide) ?_
        exact retI (u := (SP, SJ, SSn)) hc hw hm dX8_winter_21
      · have hm := hm.2 c22
        refine lv_iload_n hx hb dX8_winter_15 rfl (lv_at hl 2 rfl) ?_
        refine lv_iload_n hx hb dX8_winter_16 rfl (lv_at hl 1 rfl) ?_
        refine lv_icmp_lt (tgt := 22) hx hb dX8_winter_17 (by decide) (fun c21 => ?_) (fun c21 => ?_)
        · have hm := hm.1 c21
          refine lv_aload_n hx hb dX8_winter_22 rfl (lv_at hl 0 rfl) ?_
          refine gF (k := 8) hc hw inX8 rfl 0 rfl (by decide) (gm 423 (by decide +kernel) rfl) rfl dX8_winter_23 ?_
          refine lv_aload_n hx hb dX8_winter_26 rfl (lv_at hl 0 rfl) ?_
          refine gF (k := 0) hc hw inX8 rfl 0 rfl (by decide) (gm 415 (by decide +kernel) rfl) rfl dX8_winter_27 ?_
          refine nVN_V (As := [.ref (aB 0)]) (rest := []) (wc := ((pW cy aP (aJ 0) SP) ++ ((jW cy aJ SJ) ++ ((bW cy aB (als 0) e_B_told e_B_mentions e_B_claims SB) ++ (lsW cy als Sls))))) (wr := ((oW cy aO (aB 0) e_O_images e_O_tape e_O_reader (aP 0) e_O_trial (some (aSn 0)) e_O_dates e_O_line e_O_evening e_O_choices SO) ++ (snW cy aSn SSn))) (isC := [10, 11, 12, 13, 14, 15, 16, 17, 18, 19, 20, 21, 22, 23, 3, 4, 5, 6, 7, 8, 9]) (isR := [0, 1, 2, 24, 25, 26, 27, 28, 29]) hc hw (c_X3_reckonN hm) lk_X8_197 ⟨rfl, rfl, rfl, rfl, by decide⟩ rfl rfl ⟨Nat.le_of_ble_eq_true rfl, Nat.le_of_ble_eq_true rfl⟩ ⟨Nat.le_of_ble_eq_true rfl, Nat.le_of_ble_eq_true rfl⟩ hl.1 rfl (Nat.le_of_ble_eq_true rfl) rfl dX8_winter_30 (fun u_2 H locs hm hw => ?_)
          obtain ⟨S1, S2⟩ := u_2
          have hw : wV D A s.heap ((oW cy aO (aB 0) e_O_images e_O_tape e_O_reader (aP 0) e_O_trial (some (aSn 0)) e_O_dates e_O_line e_O_evening e_O_choices SO) ++ ((bW cy aB (als 0) e_B_told e_B_mentions e_B_claims SB) ++ ((lsW cy als Sls) ++ ((pW cy aP (aJ 0) S1) ++ ((jW cy aJ S2) ++ (snW cy aSn SSn)))))) H locs := hw.perm [0, 1, 2, 23, 24, 25, 26, 27, 28, 29, 9, 10, 11, 12, 13, 14, 15, 16, 17, 18, 19, 20, 21, 22, 3, 4, 5, 6, 7, 8] rfl rfl
          refine lv_aload_n hx hb dX8_winter_33 rfl (lv_at hl 0 rfl) ?_
          refine gF (k := 10) hc hw inX8 rfl 0 rfl (by decide) (gm 425 (by decide +kernel) rfl) rfl dX8_winter_34 ?_
          refine lv_ifnonnull (tgt := 51) hx hb dX8_winter_37 (by decide) ?_
          refine lv_aload_n hx hb dX8_winter_51 rfl (lv_at hl 0 rfl) ?_
          refine gF (k := 10) hc hw inX8 rfl 0 rfl (by decide) (gm 425 (by decide +kernel) rfl) rfl dX8_winter_52 ?_
          refine lv_aload_n hx hb dX8_winter_55 rfl (lv_at hl 0 rfl) ?_
          refine gF (k := 8) hc hw inX8 rfl 0 rfl (by decide) (gm 423 (by decide +kernel) rfl) rfl dX8_winter_56 ?_
          refine lv_iload_n hx hb dX8_winter_59 rfl (lv_at hl 1 rfl) ?_
          refine lv_iconst (v := 1) hx hb dX8_winter_60 (by decide) ?_
          refine lv_isub hx hb dX8_winter_61 ?_
          refine nVN_V (As := [.ref (aP 0), .int (x1 - 1)]) (rest := []) (wc := ((snW cy aSn SSn) ++ (pW cy aP (aJ 0) S1))) (wr := ((oW cy aO (aB 0) e_O_images e_O_tape e_O_reader (aP 0) e_O_trial (some (aSn 0)) e_O_dates e_O_line e_O_evening e_O_choices SO) ++ ((bW cy aB (als 0) e_B_told e_B_mentions e_B_claims SB) ++ ((lsW cy als Sls) ++ (jW cy aJ S2))))) (isC := [24, 25, 26, 27, 28, 29, 10, 11, 12, 13, 14, 15, 16, 17, 18, 19, 20]) (isR := [0, 1, 2, 3, 4, 5, 6, 7, 8, 9, 21, 22, 23]) hc hw (c_X5_lay hm) lk_X8_236 ⟨rfl, rfl, rfl, rfl, by decide⟩ rfl rfl ⟨Nat.le_of_ble_eq_true rfl, Nat.le_of_ble_eq_true rfl⟩ ⟨Nat.le_of_ble_eq_true rfl, Nat.le_of_ble_eq_true rfl⟩ hl.1 rfl (Nat.le_of_ble_eq_true rfl) rfl dX8_winter_62 (fun u_5 H locs hm hw => ?_)
          obtain ⟨S4, S5⟩ := u_5
          have hw : wV D A s.heap ((oW cy aO (aB 0) e_O_images e_O_tape e_O_reader (aP 0) e_O_trial (some (aSn 0)) e_O_dates e_O_line e_O_evening e_O_choices SO) ++ ((bW cy aB (als 0) e_B_told e_B_mentions e_B_claims SB) ++ ((lsW cy als Sls) ++ ((pW cy aP (aJ 0) S5) ++ ((jW cy aJ S2) ++ (snW cy aSn S4)))))) H locs := hw.perm [0, 1, 2, 3, 4, 5, 6, 7, 8, 9, 19, 20, 21, 22, 23, 24, 25, 26, 27, 28, 29, 10, 11, 12, 13, 14, 15, 16, 17, 18] rfl rfl
          refine lv_aload_n hx hb dX8_winter_65 rfl (lv_at hl 0 rfl) ?_
          refine gF (k := 0) hc hw inX8 rfl 0 rfl (by decide) (gm 415 (by decide +kernel) rfl) rfl dX8_winter_66 ?_
          refine nVN_I (As := []) (rest := []) (wc := (bW cy aB (als 0) e_B_told e_B_mentions e_B_claims SB)) (wr := ((oW cy aO (aB 0) e_O_images e_O_tape e_O_reader (aP 0) e_O_trial (some (aSn 0)) e_O_dates e_O_line e_O_evening e_O_choices SO) ++ ((lsW cy als Sls) ++ ((pW cy aP (aJ 0) S5) ++ ((jW cy aJ S2) ++ (snW cy aSn S4)))))) (isC := [3, 4, 5, 6, 7, 8]) (isR := [0, 1, 2, 9, 10, 11, 12, 13, 14, 15, 16, 17, 18, 19, 20, 21, 22, 23, 24, 25, 26, 27, 28, 29]) hc hw (c_X6_all hm) lk_X8_239 ⟨rfl, rfl, rfl, rfl, by decide⟩ rfl rfl ⟨Nat.le_of_ble_eq_true rfl, Nat.le_of_ble_eq_true rfl⟩ ⟨Nat.le_of_ble_eq_true rfl, Nat.le_of_ble_eq_true rfl⟩ hl.1 rfl (Nat.le_of_ble_eq_true rfl) rfl dX8_winter_69 (fun r7 _ H locs hm hw => ?_)
          have hw : wV D A s.heap ((oW cy aO (aB 0) e_O_images e_O_tape e_O_reader (aP 0) e_O_trial (some (aSn 0)) e_O_dates e_O_line e_O_evening e_O_choices SO) ++ ((bW cy aB (als 0) e_B_told e_B_mentions e_B_claims SB) ++ ((lsW cy als Sls) ++ ((pW cy aP (aJ 0) S5) ++ ((jW cy aJ S2) ++ (snW cy aSn S4)))))) H locs := hw.perm [0, 1, 2, 24, 25, 26, 27, 28, 29, 3, 4, 5, 6, 7, 8, 9, 10, 11, 12, 13, 14, 15, 16, 17, 18, 19, 20, 21, 22, 23] rfl rfl
          refine lv_istore_n (lv' := [(3, .int r7), (0, .ref (aO 0)), (1, .int x1), (2, .int x2)]) hx hb dX8_winter_72 rfl hl (by decide) rfl (fun ls hl => ?_)
          refine lv_iload_n hx hb dX8_winter_73 rfl (lv_at hl 3 rfl) ?_
          refine lv_iconst (v := (-1)) hx hb dX8_winter_74 (by decide) ?_
          refine lv_icmp_ne (tgt := 92) hx hb dX8_winter_75 (by decide) (fun c20 => ?_) (fun c20 => ?_)
          · have hm := hm.1 c20
            refine lv_iconst (v := 0) hx hb dX8_winter_92 (by decide) ?_
            refine lv_istore (lv' := [(4, .int 0), (3, .int r7), (0, .ref (aO 0)), (1, .int x1), (2, .int x2)]) hx hb dX8_winter_93 hl (by decide) rfl (fun ls hl => ?_)
            refine lv_iconst (v := 0) hx hb dX8_winter_95 (by decide) ?_
            refine lv_istore (lv' := [(5, .int 0), (4, .int 0), (3, .int r7), (0, .ref (aO 0)), (1, .int x1), (2, .int x2)]) hx hb dX8_winter_96 hl (by decide) rfl (fun ls hl => ?_)
            refine wl3_ind (G := fun (x5_9 : Int32) (x4_10 : Int32) (x3_11 : Int32) => ∀ (H : Heap) (locs : List Loc) (ls : Array Slot), wV D A s.heap ((oW cy aO (aB 0) e_O_images e_O_tape e_O_reader (aP 0) e_O_trial (some (aSn 0)) e_O_dates e_O_line e_O_evening e_O_choices SO) ++ ((bW cy aB (als 0) e_B_told e_B_mentions e_B_claims SB) ++ ((lsW cy als Sls) ++ ((pW cy aP (aJ 0) S5) ++ ((jW cy aJ S2) ++ (snW cy aSn S4)))))) H locs → lv_has ls 6 [(5, .int x5_9), (4, .int x4_10), (3, .int x3_11), (0, .ref (aO 0)), (1, .int x1), (2, .int x2)] → W p l e (rmN 6) s m args below meth c H locs 0 0 (MQ below (eI D cy A (fun u : Ob × Ob × (Nat → Nat → Int32) => ((oW cy aO (aB 0) e_O_images e_O_tape e_O_reader (aP 0) e_O_trial (some (aSn 0)) e_O_dates e_O_line e_O_evening e_O_choices SO) ++ ((bW cy aB (als 0) e_B_told e_B_mentions e_B_claims SB) ++ ((lsW cy als Sls) ++ ((pW cy aP (aJ 0) u.1) ++ ((jW cy aJ u.2.1) ++ (snW cy aSn u.2.2))))))) (fun (r : Int32) (u : Ob × Ob × (Nat → Nat → Int32)) => Q r u.1 u.2.1 u.2.2)) args s (rmN 6).cells (rmN 6).slots A) (F0 m 98 ls [])) ?_ _ _ _ hm H locs ls hw (lv_sub hl [0, 1, 2, 3, 4, 5] rfl)
            intro L12 ih12 x5_9 x4_10 x3_11 hm H locs ls hw hl
            refine lv_iload hx hb dX8_winter_98 (lv_at hl 0 rfl) ?_
            refine lv_iload_n hx hb dX8_winter_100 rfl (lv_at hl 5 rfl) ?_
            refine lv_icmp_gt (tgt := 135) hx hb dX8_winter_101 (by decide) (fun c17 => ?_) (fun c17 => ?_)
            · have hm := hm.1 c17
              refine lv_iload hx hb dX8_winter_135 (lv_at hl 1 rfl) ?_
              exact retI (u := (S5, S2, S4)) hc hw hm dX8_winter_137
            · have hm := hm.2 c17
              refine lv_iload_n hx hb dX8_winter_104 rfl (lv_at hl 2 rfl) ?_
              refine lv_iload hx hb dX8_winter_105 (lv_at hl 1 rfl) ?_
              refine lv_iconst (v := (-1)) hx hb dX8_winter_107 (by decide) ?_
              refine lv_ixor hx hb dX8_winter_108 ?_
              refine lv_iand hx hb dX8_winter_109 ?_
              refine lv_topi (fun v13 e_v13 => ?_)
              have hm := hm v13 e_v13
              refine lv_istore_n (lv' := [(3, .int v13), (5, .int x5_9), (4, .int x4_10), (0, .ref (aO 0)), (1, .int x1), (2, .int x2)]) hx hb dX8_winter_110 rfl hl (by decide) rfl (fun ls hl => ?_)
              refine lv_aload_n hx hb dX8_winter_111 rfl (lv_at hl 3 rfl) ?_
              refine gF (k := 10) hc hw inX8 rfl 0 rfl (by decide) (gm 425 (by decide +kernel) rfl) rfl dX8_winter_112 ?_
              refine lv_aload_n hx hb dX8_winter_115 rfl (lv_at hl 3 rfl) ?_
              refine gF (k := 8) hc hw inX8 rfl 0 rfl (by decide) (gm 423 (by decide +kernel) rfl) rfl dX8_winter_116 ?_
              refine lv_iload_n hx hb dX8_winter_119 rfl (lv_at hl 4 rfl) ?_
              refine lv_iload hx hb dX8_winter_120 (lv_at hl 1 rfl) ?_
              refine lv_isub hx hb dX8_winter_122 ?_
              refine lv_iload_n hx hb dX8_winter_123 rfl (lv_at hl 0 rfl) ?_
              refine nVN_I (As := [.ref (aP 0), .int (x1 - x5_9), .int v13]) (rest := []) (wc := ((snW cy aSn S4) ++ (pW cy aP (aJ 0) S5))) (wr := ((oW cy aO (aB 0) e_O_images e_O_tape e_O_reader (aP 0) e_O_trial (some (aSn 0)) e_O_dates e_O_line e_O_evening e_O_choices SO) ++ ((bW cy aB (als 0) e_B_told e_B_mentions e_B_claims SB) ++ ((lsW cy als Sls) ++ (jW cy aJ S2))))) (isC := [24, 25, 26, 27, 28, 29, 10, 11, 12, 13, 14, 15, 16, 17, 18, 19, 20]) (isR := [0, 1, 2, 3, 4, 5, 6, 7, 8, 9, 21, 22, 23]) hc hw (c_X5_lowest hm) lk_X8_246 ⟨rfl, rfl, rfl, rfl, by decide⟩ rfl rfl ⟨Nat.le_of_ble_eq_true rfl, Nat.le_of_ble_eq_true rfl⟩ ⟨Nat.le_of_ble_eq_true rfl, Nat.le_of_ble_eq_true rfl⟩ hl.1 rfl (Nat.le_of_ble_eq_true rfl) rfl dX8_winter_124 (fun r14 _ H locs hm hw => ?_)
              have hw : wV D A s.heap ((oW cy aO (aB 0) e_O_images e_O_tape e_O_reader (aP 0) e_O_trial (some (aSn 0)) e_O_dates e_O_line e_O_evening e_O_choices SO) ++ ((bW cy aB (als 0) e_B_told e_B_mentions e_B_claims SB) ++ ((lsW cy als Sls) ++ ((pW cy aP (aJ 0) S5) ++ ((jW cy aJ S2) ++ (snW cy aSn S4)))))) H locs := hw.perm [0, 1, 2, 3, 4, 5, 6, 7, 8, 9, 19, 20, 21, 22, 23, 24, 25, 26, 27, 28, 29, 10, 11, 12, 13, 14, 15, 16, 17, 18] rfl rfl
              refine lv_istore (lv' := [(4, .int r14), (3, .int v13), (5, .int x5_9), (0, .ref (aO 0)), (1, .int x1), (2, .int x2)]) hx hb dX8_winter_127 hl (by decide) rfl (fun ls hl => ?_)
              obtain ⟨v16, e_v16⟩ : ∃ z : Int32, z = x5_9 + 1 := ⟨_, rfl⟩
              have hm := hm v16 e_v16
              refine lv_iinc (v := v16) (lv' := [(5, .int v16), (4, .int r14), (3, .int v13), (0, .ref (aO 0)), (1, .int x1), (2, .int x2)]) hx hb dX8_winter_129 hl (k := 2) rfl (by rw [e_v16]; rfl) (by decide) rfl (fun ls hl => ?_)
              refine lv_goto (tgt := 98) hx hb dX8_winter_132 (by decide) ?_
              exact ih12 _ _ _ hm _ _ _ hw (lv_sub hl [0, 1, 2, 3, 4, 5] rfl)
          · have hm := hm.2 c20
            refine lv_aload_n hx hb dX8_winter_78 rfl (lv_at hl 1 rfl) ?_
            refine gF (k := 10) hc hw inX8 rfl 0 rfl (by decide) (gm 425 (by decide +kernel) rfl) rfl dX8_winter_79 ?_
            refine lv_aload_n hx hb dX8_winter_82 rfl (lv_at hl 1 rfl) ?_
            refine gF (k := 8) hc hw inX8 rfl 0 rfl (by decide) (gm 423 (by decide +kernel) rfl) rfl dX8_winter_83 ?_
            refine lv_iload_n hx hb dX8_winter_86 rfl (lv_at hl 2 rfl) ?_
            refine lv_iload_n hx hb dX8_winter_87 rfl (lv_at hl 0 rfl) ?_
            refine nVN_I (As := [.ref (aP 0), .int x1, .int r7]) (rest := []) (wc := ((snW cy aSn S4) ++ (pW cy aP (aJ 0) S5))) (wr := ((oW cy aO (aB 0) e_O_images e_O_tape e_O_reader (aP 0) e_O_trial (some (aSn 0)) e_O_dates e_O_line e_O_evening e_O_choices SO) ++ ((bW cy aB (als 0) e_B_told e_B_mentions e_B_claims SB) ++ ((lsW cy als Sls) ++ (jW cy aJ S2))))) (isC := [24, 25, 26, 27, 28, 29, 10, 11, 12, 13, 14, 15, 16, 17, 18, 19, 20]) (isR := [0, 1, 2, 3, 4, 5, 6, 7, 8, 9, 21, 22, 23]) hc hw (c_X5_most hm) lk_X8_242 ⟨rfl, rfl, rfl, rfl, by decide⟩ rfl rfl ⟨Nat.le_of_ble_eq_true rfl, Nat.le_of_ble_eq_true rfl⟩ ⟨Nat.le_of_ble_eq_true rfl, Nat.le_of_ble_eq_true rfl⟩ hl.1 rfl (Nat.le_of_ble_eq_true rfl) rfl dX8_winter_88 (fun r18 _ H locs hm hw => ?_)
            have hw : wV D A s.heap ((oW cy aO (aB 0) e_O_images e_O_tape e_O_reader (aP 0) e_O_trial (some (aSn 0)) e_O_dates e_O_line e_O_evening e_O_choices SO) ++ ((bW cy aB (als 0) e_B_told e_B_mentions e_B_claims SB) ++ ((lsW cy als Sls) ++ ((pW cy aP (aJ 0) S5) ++ ((jW cy aJ S2) ++ (snW cy aSn S4)))))) H locs := hw.perm [0, 1, 2, 3, 4, 5, 6, 7, 8, 9, 19, 20, 21, 22, 23, 24, 25, 26, 27, 28, 29, 10, 11, 12, 13, 14, 15, 16, 17, 18] rfl rfl
            exact retI (u := (S5, S2, S4)) hc hw hm dX8_winter_91
        · have hm := hm.2 c21
          refine lv_iconst (v := (-1)) hx hb dX8_winter_20 (by decide) ?_
          exact retI (u := (SP, SJ, SSn)) hc hw hm dX8_winter_21
set_option maxHeartbeats 4000000 in
set_option maxRecDepth 100000 in
theorem c_X8_winterA {l : Launch} {D : va_G} {cy : Nat → ClassId} {aO : Nat → Nat} {aB : Nat → Nat} {als : Nat → Nat} {aP : Nat → Nat} {aJ : Nat → Nat} {aLw : Nat → Nat} {e_O_images : Nat} {e_O_tape : Nat} {e_O_reader : Nat} {e_O_trial : Option Nat} {e_O_dates : Nat} {e_O_line : Nat} {e_O_evening : Nat} {e_O_choices : Nat} {e_B_told : Nat} {e_B_mentions : Nat} {e_B_claims : Nat} {SO : Ob} {SB : Ob} {Sls : (Nat → Option Nat)} {SP : Ob} {SJ : Ob} {SLw : Lw} {x1 : Int32} {x2 : Int32} {Q : Int32 → Option ((Nat → Nat) × (Nat → Nat → Int32)) → Ob → Ob → Prop} (hm : w_X8_winterA aLw SO SB Sls SP SJ SLw x1 x2 Q) : CtI l yX8_winter cX8_winter 6 (some .int) (rmA 9 6 4101) D cy [.ref (aO 0), .int x1, .int x2] ((oW cy aO (aB 0) e_O_images e_O_tape e_O_reader (aP 0) e_O_trial none e_O_dates e_O_line e_O_evening e_O_choices SO) ++ ((bW cy aB (als 0) e_B_told e_B_mentions e_B_claims SB) ++ ((lsW cy als Sls) ++ ((pW cy aP (aJ 0) SP) ++ ((jW cy aJ SJ) ++ (lwW cy aLw SLw)))))) (fun u : Option ((Nat → Nat) × (Nat → Nat → Int32)) × Ob × Ob => ((oW cy aO (aB 0) e_O_images e_O_tape e_O_reader (aP 0) e_O_trial (u.1.map (fun q => q.1 0)) e_O_dates e_O_line e_O_evening e_O_choices SO) ++ ((bW cy aB (als 0) e_B_told e_B_mentions e_B_claims SB) ++ ((lsW cy als Sls) ++ ((pW cy aP (aJ 0) u.2.1) ++ ((jW cy aJ u.2.2) ++ ((lwW cy aLw SLw) ++ (optSn cy u.1)))))))) (fun (r : Int32) (u : Option ((Nat → Nat) × (Nat → Nat → Int32)) × Ob × Ob) => Q r u.1 u.2.1 u.2.2) := by
  refine CtI.ofW (by decide) (Nat.le_of_ble_eq_true rfl) ?_
  intro p e s m args below meth c A ls hc hnm hw hl
  have hx := hc.1.1
  have hb := hc.1.2.1
  have hown := hc.1.2.2.2.1
  have hts := hc.1.2.2.2.2
  have hl : lv_has ls 6 [(0, .ref (aO 0)), (1, .int x1), (2, .int x2)] := hl
  obtain ⟨H, hH⟩ : ∃ z, z = s.heap := ⟨_, rfl⟩
  obtain ⟨locs, hLc⟩ : ∃ z : List Loc, z = [] := ⟨_, rfl⟩
  have hw : wV D A s.heap ((oW cy aO (aB 0) e_O_images e_O_tape e_O_reader (aP 0) e_O_trial none e_O_dates e_O_line e_O_evening e_O_choices SO) ++ ((bW cy aB (als 0) e_B_told e_B_mentions e_B_claims SB) ++ ((lsW cy als Sls) ++ ((pW cy aP (aJ 0) SP) ++ ((jW cy aJ SJ) ++ (lwW cy aLw SLw)))))) H locs := by rw [hH, hLc]; exact hw
  have hgo : W p l e (rmA 9 6 4101) s m args below meth c H locs 0 0 (MQ below (eI D cy A (fun u : Option ((Nat → Nat) × (Nat → Nat → Int32)) × Ob × Ob => ((oW cy aO (aB 0) e_O_images e_O_tape e_O_reader (aP 0) e_O_trial (u.1.map (fun q => q.1 0)) e_O_dates e_O_line e_O_evening e_O_choices SO) ++ ((bW cy aB (als 0) e_B_told e_B_mentions e_B_claims SB) ++ ((lsW cy als Sls) ++ ((pW cy aP (aJ 0) u.2.1) ++ ((jW cy aJ u.2.2) ++ ((lwW cy aLw SLw) ++ (optSn cy u.1)))))))) (fun (r : Int32) (u : Option ((Nat → Nat) × (Nat → Nat → Int32)) × Ob × Ob) => Q r u.1 u.2.1 u.2.2)) args s (rmA 9 6 4101).cells (rmA 9 6 4101).slots A) (F0 m 0 ls []) := ?hgo
  · rw [hH, hLc] at hgo; exact hgo
  refine lv_iload_n hx hb dX8_winter_0 rfl (lv_at hl 1 rfl) ?_
  refine lv_iconst (v := 1) hx hb dX8_winter_1 (by decide) ?_
  refine lv_icmp_lt (tgt := 20) hx hb dX8_winter_2 (by decide) (fun c24 => ?_) (fun c24 => ?_)
  · have hm := hm.1 c24
    refine lv_iconst (v := (-1)) hx hb dX8_winter_20 (by decide) ?_
    refine W.widen (k := 6) (n := 4101) (by decide) (by decide) ?_
    exact retI (u := (none, SP, SJ)) hc hw hm dX8_winter_21
  · have hm := hm.2 c24
    refine lv_iload_n hx hb dX8_winter_5 rfl (lv_at hl 1 rfl) ?_
    refine lv_iconst (v := 4) hx hb dX8_winter_6 (by decide) ?_
    refine lv_icmp_gt (tgt := 20) hx hb dX8_winter_7 (by decide) (fun c23 => ?_) (fun c23 => ?_)
    · have hm := hm.1 c23
      refine lv_iconst (v := (-1)) hx hb dX8_winter_20 (by decide) ?_
      refine W.widen (k := 6) (n := 4101) (by decide) (by decide) ?_
      exact retI (u := (none, SP, SJ)) hc hw hm dX8_winter_21
    · have hm := hm.2 c23
      refine lv_iload_n hx hb dX8_winter_10 rfl (lv_at hl 2 rfl) ?_
      refine lv_iconst (v := (-1)) hx hb dX8_winter_11 (by decide) ?_
      refine lv_icmp_lt (tgt := 20) hx hb dX8_winter_12 (by decide) (fun c22 => ?_) (fun c22 => ?_)
      · have hm := hm.1 c22
        refine lv_iconst (v := (-1)) hx hb dX8_winter_20 (by decide) ?_
        refine W.widen (k := 6) (n := 4101) (by decide) (by decide) ?_
        exact retI (u := (none, SP, SJ)) hc hw hm dX8_winter_21
      · have hm := hm.2 c22
        refine lv_iload_n hx hb dX8_winter_15 rfl (lv_at hl 2 rfl) ?_
        refine lv_iload_n hx hb dX8_winter_16 rfl (lv_at hl 1 rfl) ?_
        refine lv_icmp_lt (tgt := 22) hx hb dX8_winter_17 (by decide) (fun c21 => ?_) (fun c21 => ?_)
        · have hm := hm.1 c21
          refine lv_aload_n hx hb dX8_winter_22 rfl (lv_at hl 0 rfl) ?_
          refine gF (k := 8) hc hw inX8 rfl 0 rfl (by decide) (gm 423 (by decide +kernel) rfl) rfl dX8_winter_23 ?_
          refine lv_aload_n hx hb dX8_winter_26 rfl (lv_at hl 0 rfl) ?_
          refine gF (k := 0) hc hw inX8 rfl 0 rfl (by decide) (gm 415 (by decide +kernel) rfl) rfl dX8_winter_27 ?_
          refine nVN_V (As := [.ref (aB 0)]) (rest := []) (wc := ((pW cy aP (aJ 0) SP) ++ ((jW cy aJ SJ) ++ ((bW cy aB (als 0) e_B_told e_B_mentions e_B_claims SB) ++ ((lsW cy als Sls) ++ (lwW cy aLw SLw)))))) (wr := (oW cy aO (aB 0) e_O_images e_O_tape e_O_reader (aP 0) e_O_trial none e_O_dates e_O_line e_O_evening e_O_choices SO)) (isC := [10, 11, 12, 13, 14, 15, 16, 17, 18, 19, 20, 21, 22, 23, 3, 4, 5, 6, 7, 8, 9, 24, 25, 26, 27, 28]) (isR := [0, 1, 2]) hc hw (c_X3_reckon hm) lk_X8_197 ⟨rfl, rfl, rfl, rfl, by decide⟩ rfl rfl ⟨by decide, by decide⟩ ⟨Nat.le_of_ble_eq_true rfl, Nat.le_of_ble_eq_true rfl⟩ hl.1 rfl (Nat.le_of_ble_eq_true rfl) rfl dX8_winter_30 (fun u_2 H locs hm hw => ?_)
          obtain ⟨S1, S2⟩ := u_2
          have hw : wV D A s.heap ((oW cy aO (aB 0) e_O_images e_O_tape e_O_reader (aP 0) e_O_trial none e_O_dates e_O_line e_O_evening e_O_choices SO) ++ ((bW cy aB (als 0) e_B_told e_B_mentions e_B_claims SB) ++ ((lsW cy als Sls) ++ ((pW cy aP (aJ 0) S1) ++ ((jW cy aJ S2) ++ (lwW cy aLw SLw)))))) H locs := hw.perm [0, 1, 2, 17, 18, 19, 20, 21, 22, 23, 3, 4, 5, 6, 7, 8, 9, 10, 11, 12, 13, 14, 15, 16, 24, 25, 26, 27, 28] rfl rfl
          refine lv_aload_n hx hb dX8_winter_33 rfl (lv_at hl 0 rfl) ?_
          refine gF (k := 10) hc hw inX8 rfl 0 rfl (by decide) (gm 425 (by decide +kernel) rfl) rfl dX8_winter_34 ?_
          refine lv_ifnonnullN hx hb dX8_winter_37 ?_
          refine lv_aload_n hx hb dX8_winter_40 rfl (lv_at hl 0 rfl) ?_
          refine nwO (ci := 5) (fs := [.null]) hc hw inX5 tyX5_ok rfl (gm 921 (by decide +kernel) rfl) (gm 922 (by decide +kernel) rfl) (gm 144 (by decide +kernel) rfl) (fun j hj => by rcases (show j = 0 by omega) with rfl; rfl) (by decide) (by decide) dX8_winter_41 (fun q0 H hw => ?_)
          refine W.widen (k := 1) (n := 1) (by decide) (by decide) ?_
          refine lv_dup hx hb dX8_winter_44 rfl ?_
          refine kIN_V (As := []) (rest := [.ref q0, .ref (aO 0)]) (wc := [(q0, .inr (5, [.null]))]) (wr := ((oW cy aO (aB 0) e_O_images e_O_tape e_O_reader (aP 0) e_O_trial none e_O_dates e_O_line e_O_evening e_O_choices SO) ++ ((bW cy aB (als 0) e_B_told e_B_mentions e_B_claims SB) ++ ((lsW cy als Sls) ++ ((pW cy aP (aJ 0) S1) ++ ((jW cy aJ S2) ++ (lwW cy aLw SLw))))))) (isC := [29]) (isR := [0, 1, 2, 3, 4, 5, 6, 7, 8, 9, 10, 11, 12, 13, 14, 15, 16, 17, 18, 19, 20, 21, 22, 23, 24, 25, 26, 27, 28]) hc hw (c_X5_init) lk_X8_235 ⟨rfl, rfl, rfl, rfl, by decide⟩ ⟨by decide, by decide⟩ ⟨by decide, by decide⟩ hl.1 rfl (Nat.le_of_ble_eq_true rfl) rfl dX8_winter_45 (fun us H locs hq hw2 => ?_)
          have hq : us 0 0 = q0 := hq
          clear hw
          subst hq
          refine W.widen (k := 6) (n := 4101) (by decide) (by decide) ?_
          have hw : wV D A s.heap (((oW cy aO (aB 0) e_O_images e_O_tape e_O_reader (aP 0) e_O_trial none e_O_dates e_O_line e_O_evening e_O_choices SO) ++ ((bW cy aB (als 0) e_B_told e_B_mentions e_B_claims SB) ++ ((lsW cy als Sls) ++ ((pW cy aP (aJ 0) S1) ++ ((jW cy aJ S2) ++ (lwW cy aLw SLw)))))) ++ snW cy (us 0) (fun _ _ => 0)) H locs := hw2
          refine pFr (k := 10) hc hw inX8 tyX8_ok nmX8 rfl 0 rfl (by decide) (gm 425 (by decide +kernel) rfl) rfl rfl rfl (Nat.le_of_ble_eq_true rfl) dX8_winter_48 (fun H locs hw => ?_)
          have hw : wV D A s.heap ((oW cy aO (aB 0) e_O_images e_O_tape e_O_reader (aP 0) e_O_trial (some ((us 0) 0)) e_O_dates e_O_line e_O_evening e_O_choices SO) ++ ((bW cy aB (als 0) e_B_told e_B_mentions e_B_claims SB) ++ ((lsW cy als Sls) ++ ((pW cy aP (aJ 0) S1) ++ ((jW cy aJ S2) ++ ((lwW cy aLw SLw) ++ (snW cy (us 0) (fun _ _ => 0)))))))) H locs := hw
          have hm := hm us
          refine lv_aload_n hx hb dX8_winter_51 rfl (lv_at hl 0 rfl) ?_
          refine gF (k := 10) hc hw inX8 rfl 0 rfl (by decide) (gm 425 (by decide +kernel) rfl) rfl dX8_winter_52 ?_
          refine lv_aload_n hx hb dX8_winter_55 rfl (lv_at hl 0 rfl) ?_
          refine gF (k := 8) hc hw inX8 rfl 0 rfl (by decide) (gm 423 (by decide +kernel) rfl) rfl dX8_winter_56 ?_
          refine lv_iload_n hx hb dX8_winter_59 rfl (lv_at hl 1 rfl) ?_
          refine lv_iconst (v := 1) hx hb dX8_winter_60 (by decide) ?_
          refine lv_isub hx hb dX8_winter_61 ?_
          refine nVN_V (As := [.ref (aP 0), .int (x1 - 1)]) (rest := []) (wc := ((snW cy (us 0) (fun _ _ => 0)) ++ (pW cy aP (aJ 0) S1))) (wr := ((oW cy aO (aB 0) e_O_images e_O_tape e_O_reader (aP 0) e_O_trial (some ((us 0) 0)) e_O_dates e_O_line e_O_evening e_O_choices SO) ++ ((bW cy aB (als 0) e_B_told e_B_mentions e_B_claims SB) ++ ((lsW cy als Sls) ++ ((jW cy aJ S2) ++ (lwW cy aLw SLw)))))) (isC := [29, 30, 31, 32, 33, 34, 10, 11, 12, 13, 14, 15, 16, 17, 18, 19, 20]) (isR := [0, 1, 2, 3, 4, 5, 6, 7, 8, 9, 21, 22, 23, 24, 25, 26, 27, 28]) hc hw (c_X5_lay hm) lk_X8_236 ⟨rfl, rfl, rfl, rfl, by decide⟩ rfl rfl ⟨by decide, by decide⟩ ⟨Nat.le_of_ble_eq_true rfl, Nat.le_of_ble_eq_true rfl⟩ hl.1 rfl (Nat.le_of_ble_eq_true rfl) rfl dX8_winter_62 (fun u_5 H locs hm hw => ?_)
          obtain ⟨S4, S5⟩ := u_5
          have hw : wV D A s.heap ((oW cy aO (aB 0) e_O_images e_O_tape e_O_reader (aP 0) e_O_trial (some ((us 0) 0)) e_O_dates e_O_line e_O_evening e_O_choices SO) ++ ((bW cy aB (als 0) e_B_told e_B_mentions e_B_claims SB) ++ ((lsW cy als Sls) ++ ((pW cy aP (aJ 0) S5) ++ ((jW cy aJ S2) ++ ((lwW cy aLw SLw) ++ (snW cy (us 0) S4))))))) H locs := hw.perm [0, 1, 2, 3, 4, 5, 6, 7, 8, 9, 24, 25, 26, 27, 28, 29, 30, 31, 32, 33, 34, 10, 11, 12, 13, 14, 15, 16, 17, 18, 19, 20, 21, 22, 23] rfl rfl
          refine lv_aload_n hx hb dX8_winter_65 rfl (lv_at hl 0 rfl) ?_
          refine gF (k := 0) hc hw inX8 rfl 0 rfl (by decide) (gm 415 (by decide +kernel) rfl) rfl dX8_winter_66 ?_
          refine nVN_I (As := []) (rest := []) (wc := (bW cy aB (als 0) e_B_told e_B_mentions e_B_claims SB)) (wr := ((oW cy aO (aB 0) e_O_images e_O_tape e_O_reader (aP 0) e_O_trial (some ((us 0) 0)) e_O_dates e_O_line e_O_evening e_O_choices SO) ++ ((lsW cy als Sls) ++ ((pW cy aP (aJ 0) S5) ++ ((jW cy aJ S2) ++ ((lwW cy aLw SLw) ++ (snW cy (us 0) S4))))))) (isC := [3, 4, 5, 6, 7, 8]) (isR := [0, 1, 2, 9, 10, 11, 12, 13, 14, 15, 16, 17, 18, 19, 20, 21, 22, 23, 24, 25, 26, 27, 28, 29, 30, 31, 32, 33, 34]) hc hw (c_X6_all hm) lk_X8_239 ⟨rfl, rfl, rfl, rfl, by decide⟩ rfl rfl ⟨by decide, by decide⟩ ⟨Nat.le_of_ble_eq_true rfl, Nat.le_of_ble_eq_true rfl⟩ hl.1 rfl (Nat.le_of_ble_eq_true rfl) rfl dX8_winter_69 (fun r7 _ H locs hm hw => ?_)
          have hw : wV D A s.heap ((oW cy aO (aB 0) e_O_images e_O_tape e_O_reader (aP 0) e_O_trial (some ((us 0) 0)) e_O_dates e_O_line e_O_evening e_O_choices SO) ++ ((bW cy aB (als 0) e_B_told e_B_mentions e_B_claims SB) ++ ((lsW cy als Sls) ++ ((pW cy aP (aJ 0) S5) ++ ((jW cy aJ S2) ++ ((lwW cy aLw SLw) ++ (snW cy (us 0) S4))))))) H locs := hw.perm [0, 1, 2, 29, 30, 31, 32, 33, 34, 3, 4, 5, 6, 7, 8, 9, 10, 11, 12, 13, 14, 15, 16, 17, 18, 19, 20, 21, 22, 23, 24, 25, 26, 27, 28] rfl rfl
          refine lv_istore_n (lv' := [(3, .int r7), (0, .ref (aO 0)), (1, .int x1), (2, .int x2)]) hx hb dX8_winter_72 rfl hl (by decide) rfl (fun ls hl => ?_)
          refine lv_iload_n hx hb dX8_winter_73 rfl (lv_at hl 3 rfl) ?_
          refine lv_iconst (v := (-1)) hx hb dX8_winter_74 (by decide) ?_
          refine lv_icmp_ne (tgt := 92) hx hb dX8_winter_75 (by decide) (fun c20 => ?_) (fun c20 => ?_)
          · have hm := hm.1 c20
            refine lv_iconst (v := 0) hx hb dX8_winter_92 (by decide) ?_
            refine lv_istore (lv' := [(4, .int 0), (3, .int r7), (0, .ref (aO 0)), (1, .int x1), (2, .int x2)]) hx hb dX8_winter_93 hl (by decide) rfl (fun ls hl => ?_)
            refine lv_iconst (v := 0) hx hb dX8_winter_95 (by decide) ?_
            refine lv_istore (lv' := [(5, .int 0), (4, .int 0), (3, .int r7), (0, .ref (aO 0)), (1, .int x1), (2, .int x2)]) hx hb dX8_winter_96 hl (by decide) rfl (fun ls hl => ?_)
            refine wl3_ind (G := fun (x5_9 : Int32) (x4_10 : Int32) (x3_11 : Int32) => ∀ (H : Heap) (locs : List Loc) (ls : Array Slot), wV D A s.heap ((oW cy aO (aB 0) e_O_images e_O_tape e_O_reader (aP 0) e_O_trial (some ((us 0) 0)) e_O_dates e_O_line e_O_evening e_O_choices SO) ++ ((bW cy aB (als 0) e_B_told e_B_mentions e_B_claims SB) ++ ((lsW cy als Sls) ++ ((pW cy aP (aJ 0) S5) ++ ((jW cy aJ S2) ++ ((lwW cy aLw SLw) ++ (snW cy (us 0) S4))))))) H locs → lv_has ls 6 [(5, .int x5_9), (4, .int x4_10), (3, .int x3_11), (0, .ref (aO 0)), (1, .int x1), (2, .int x2)] → W p l e (rmA 9 6 4101) s m args below meth c H locs 6 4101 (MQ below (eI D cy A (fun u : Option ((Nat → Nat) × (Nat → Nat → Int32)) × Ob × Ob => ((oW cy aO (aB 0) e_O_images e_O_tape e_O_reader (aP 0) e_O_trial (u.1.map (fun q => q.1 0)) e_O_dates e_O_line e_O_evening e_O_choices SO) ++ ((bW cy aB (als 0) e_B_told e_B_mentions e_B_claims SB) ++ ((lsW cy als Sls) ++ ((pW cy aP (aJ 0) u.2.1) ++ ((jW cy aJ u.2.2) ++ ((lwW cy aLw SLw) ++ (optSn cy u.1)))))))) (fun (r : Int32) (u : Option ((Nat → Nat) × (Nat → Nat → Int32)) × Ob × Ob) => Q r u.1 u.2.1 u.2.2)) args s (rmA 9 6 4101).cells (rmA 9 6 4101).slots A) (F0 m 98 ls [])) ?_ _ _ _ hm H locs ls hw (lv_sub hl [0, 1, 2, 3, 4, 5] rfl)
            intro L12 ih12 x5_9 x4_10 x3_11 hm H locs ls hw hl
            refine lv_iload hx hb dX8_winter_98 (lv_at hl 0 rfl) ?_
            refine lv_iload_n hx hb dX8_winter_100 rfl (lv_at hl 5 rfl) ?_
            refine lv_icmp_gt (tgt := 135) hx hb dX8_winter_101 (by decide) (fun c17 => ?_) (fun c17 => ?_)
            · have hm := hm.1 c17
              refine lv_iload hx hb dX8_winter_135 (lv_at hl 1 rfl) ?_
              refine W.widen (k := 6) (n := 4101) (by decide) (by decide) ?_
              exact retI (u := ((some ((us 0), S4)), S5, S2)) hc hw hm dX8_winter_137
            · have hm := hm.2 c17
              refine lv_iload_n hx hb dX8_winter_104 rfl (lv_at hl 2 rfl) ?_
              refine lv_iload hx hb dX8_winter_105 (lv_at hl 1 rfl) ?_
              refine lv_iconst (v := (-1)) hx hb dX8_winter_107 (by decide) ?_
              refine lv_ixor hx hb dX8_winter_108 ?_
              refine lv_iand hx hb dX8_winter_109 ?_
              refine lv_topi (fun v13 e_v13 => ?_)
              have hm := hm v13 e_v13
              refine lv_istore_n (lv' := [(3, .int v13), (5, .int x5_9), (4, .int x4_10), (0, .ref (aO 0)), (1, .int x1), (2, .int x2)]) hx hb dX8_winter_110 rfl hl (by decide) rfl (fun ls hl => ?_)
              refine lv_aload_n hx hb dX8_winter_111 rfl (lv_at hl 3 rfl) ?_
              refine gF (k := 10) hc hw inX8 rfl 0 rfl (by decide) (gm 425 (by decide +kernel) rfl) rfl dX8_winter_112 ?_
              refine lv_aload_n hx hb dX8_winter_115 rfl (lv_at hl 3 rfl) ?_
              refine gF (k := 8) hc hw inX8 rfl 0 rfl (by decide) (gm 423 (by decide +kernel) rfl) rfl dX8_winter_116 ?_
              refine lv_iload_n hx hb dX8_winter_119 rfl (lv_at hl 4 rfl) ?_
              refine lv_iload hx hb dX8_winter_120 (lv_at hl 1 rfl) ?_
              refine lv_isub hx hb dX8_winter_122 ?_
              refine lv_iload_n hx hb dX8_winter_123 rfl (lv_at hl 0 rfl) ?_
              refine nVN_I (As := [.ref (aP 0), .int (x1 - x5_9), .int v13]) (rest := []) (wc := ((snW cy (us 0) S4) ++ (pW cy aP (aJ 0) S5))) (wr := ((oW cy aO (aB 0) e_O_images e_O_tape e_O_reader (aP 0) e_O_trial (some ((us 0) 0)) e_O_dates e_O_line e_O_evening e_O_choices SO) ++ ((bW cy aB (als 0) e_B_told e_B_mentions e_B_claims SB) ++ ((lsW cy als Sls) ++ ((jW cy aJ S2) ++ (lwW cy aLw SLw)))))) (isC := [29, 30, 31, 32, 33, 34, 10, 11, 12, 13, 14, 15, 16, 17, 18, 19, 20]) (isR := [0, 1, 2, 3, 4, 5, 6, 7, 8, 9, 21, 22, 23, 24, 25, 26, 27, 28]) hc hw (c_X5_lowest hm) lk_X8_246 ⟨rfl, rfl, rfl, rfl, by decide⟩ rfl rfl ⟨by decide, by decide⟩ ⟨Nat.le_of_ble_eq_true rfl, Nat.le_of_ble_eq_true rfl⟩ hl.1 rfl (Nat.le_of_ble_eq_true rfl) rfl dX8_winter_124 (fun r14 _ H locs hm hw => ?_)
              have hw : wV D A s.heap ((oW cy aO (aB 0) e_O_images e_O_tape e_O_reader (aP 0) e_O_trial (some ((us 0) 0)) e_O_dates e_O_line e_O_evening e_O_choices SO) ++ ((bW cy aB (als 0) e_B_told e_B_mentions e_B_claims SB) ++ ((lsW cy als Sls) ++ ((pW cy aP (aJ 0) S5) ++ ((jW cy aJ S2) ++ ((lwW cy aLw SLw) ++ (snW cy (us 0) S4))))))) H locs := hw.perm [0, 1, 2, 3, 4, 5, 6, 7, 8, 9, 24, 25, 26, 27, 28, 29, 30, 31, 32, 33, 34, 10, 11, 12, 13, 14, 15, 16, 17, 18, 19, 20, 21, 22, 23] rfl rfl
              refine lv_istore (lv' := [(4, .int r14), (3, .int v13), (5, .int x5_9), (0, .ref (aO 0)), (1, .int x1), (2, .int x2)]) hx hb dX8_winter_127 hl (by decide) rfl (fun ls hl => ?_)
              obtain ⟨v16, e_v16⟩ : ∃ z : Int32, z = x5_9 + 1 := ⟨_, rfl⟩
              have hm := hm v16 e_v16
              refine lv_iinc (v := v16) (lv' := [(5, .int v16), (4, .int r14), (3, .int v13), (0, .ref (aO 0)), (1, .int x1), (2, .int x2)]) hx hb dX8_winter_129 hl (k := 2) rfl (by rw [e_v16]; rfl) (by decide) rfl (fun ls hl => ?_)
              refine lv_goto (tgt := 98) hx hb dX8_winter_132 (by decide) ?_
              exact ih12 _ _ _ hm _ _ _ hw (lv_sub hl [0, 1, 2, 3, 4, 5] rfl)
          · have hm := hm.2 c20
            refine lv_aload_n hx hb dX8_winter_78 rfl (lv_at hl 1 rfl) ?_
            refine gF (k := 10) hc hw inX8 rfl 0 rfl (by decide) (gm 425 (by decide +kernel) rfl) rfl dX8_winter_79 ?_
            refine lv_aload_n hx hb dX8_winter_82 rfl (lv_at hl 1 rfl) ?_
            refine gF (k := 8) hc hw inX8 rfl 0 rfl (by decide) (gm 423 (by decide +kernel) rfl) rfl dX8_winter_83 ?_
            refine lv_iload_n hx hb dX8_winter_86 rfl (lv_at hl 2 rfl) ?_
            refine lv_iload_n hx hb dX8_winter_87 rfl (lv_at hl 0 rfl) ?_
            refine nVN_I (As := [.ref (aP 0), .int x1, .int r7]) (rest := []) (wc := ((snW cy (us 0) S4) ++ (pW cy aP (aJ 0) S5))) (wr := ((oW cy aO (aB 0) e_O_images e_O_tape e_O_reader (aP 0) e_O_trial (some ((us 0) 0)) e_O_dates e_O_line e_O_evening e_O_choices SO) ++ ((bW cy aB (als 0) e_B_told e_B_mentions e_B_claims SB) ++ ((lsW cy als Sls) ++ ((jW cy aJ S2) ++ (lwW cy aLw SLw)))))) (isC := [29, 30, 31, 32, 33, 34, 10, 11, 12, 13, 14, 15, 16, 17, 18, 19, 20]) (isR := [0, 1, 2, 3, 4, 5, 6, 7, 8, 9, 21, 22, 23, 24, 25, 26, 27, 28]) hc hw (c_X5_most hm) lk_X8_242 ⟨rfl, rfl, rfl, rfl, by decide⟩ rfl rfl ⟨by decide, by decide⟩ ⟨Nat.le_of_ble_eq_true rfl, Nat.le_of_ble_eq_true rfl⟩ hl.1 rfl (Nat.le_of_ble_eq_true rfl) rfl dX8_winter_88 (fun r18 _ H locs hm hw => ?_)
            have hw : wV D A s.heap ((oW cy aO (aB 0) e_O_images e_O_tape e_O_reader (aP 0) e_O_trial (some ((us 0) 0)) e_O_dates e_O_line e_O_evening e_O_choices SO) ++ ((bW cy aB (als 0) e_B_told e_B_mentions e_B_claims SB) ++ ((lsW cy als Sls) ++ ((pW cy aP (aJ 0) S5) ++ ((jW cy aJ S2) ++ ((lwW cy aLw SLw) ++ (snW cy (us 0) S4))))))) H locs := hw.perm [0, 1, 2, 3, 4, 5, 6, 7, 8, 9, 24, 25, 26, 27, 28, 29, 30, 31, 32, 33, 34, 10, 11, 12, 13, 14, 15, 16, 17, 18, 19, 20, 21, 22, 23] rfl rfl
            refine W.widen (k := 6) (n := 4101) (by decide) (by decide) ?_
            exact retI (u := ((some ((us 0), S4)), S5, S2)) hc hw hm dX8_winter_91
        · have hm := hm.2 c21
          refine lv_iconst (v := (-1)) hx hb dX8_winter_20 (by decide) ?_
          refine W.widen (k := 6) (n := 4101) (by decide) (by decide) ?_
          exact retI (u := (none, SP, SJ)) hc hw hm dX8_winter_21
set_option maxHeartbeats 4000000 in
set_option maxRecDepth 100000 in
theorem c_X8_winterNA {l : Launch} {D : va_G} {cy : Nat → ClassId} {aO : Nat → Nat} {aB : Nat → Nat} {als : Nat → Nat} {aP : Nat → Nat} {aJ : Nat → Nat} {e_O_images : Nat} {e_O_tape : Nat} {e_O_reader : Nat} {e_O_trial : Option Nat} {e_O_dates : Nat} {e_O_line : Nat} {e_O_evening : Nat} {e_O_choices : Nat} {e_B_told : Nat} {e_B_mentions : Nat} {e_B_claims : Nat} {SO : Ob} {SB : Ob} {Sls : (Nat → Option Nat)} {SP : Ob} {SJ : Ob} {x1 : Int32} {x2 : Int32} {Q : Int32 → Option ((Nat → Nat) × (Nat → Nat → Int32)) → Ob → Ob → Prop} (hm : w_X8_winterNA SO SB Sls SP SJ x1 x2 Q) : CtI l yX8_winter cX8_winter 6 (some .int) (rmA 9 6 4101) D cy [.ref (aO 0), .int x1, .int x2] ((oW cy aO (aB 0) e_O_images e_O_tape e_O_reader (aP 0) e_O_trial none e_O_dates e_O_line e_O_evening e_O_choices SO) ++ ((bW cy aB (als 0) e_B_told e_B_mentions e_B_claims SB) ++ ((lsW cy als Sls) ++ ((pW cy aP (aJ 0) SP) ++ (jW cy aJ SJ))))) (fun u : Option ((Nat → Nat) × (Nat → Nat → Int32)) × Ob × Ob => ((oW cy aO (aB 0) e_O_images e_O_tape e_O_reader (aP 0) e_O_trial (u.1.map (fun q => q.1 0)) e_O_dates e_O_line e_O_evening e_O_choices SO) ++ ((bW cy aB (als 0) e_B_told e_B_mentions e_B_claims SB) ++ ((lsW cy als Sls) ++ ((pW cy aP (aJ 0) u.2.1) ++ ((jW cy aJ u.2.2) ++ (optSn cy u.1))))))) (fun (r : Int32) (u : Option ((Nat → Nat) × (Nat → Nat → Int32)) × Ob × Ob) => Q r u.1 u.2.1 u.2.2) := by
  refine CtI.ofW (by decide) (Nat.le_of_ble_eq_true rfl) ?_
  intro p e s m args below meth c A ls hc hnm hw hl
  have hx := hc.1.1
  have hb := hc.1.2.1
  have hown := hc.1.2.2.2.1
  have hts := hc.1.2.2.2.2
  have hl : lv_has ls 6 [(0, .ref (aO 0)), (1, .int x1), (2, .int x2)] := hl
  obtain ⟨H, hH⟩ : ∃ z, z = s.heap := ⟨_, rfl⟩
  obtain ⟨locs, hLc⟩ : ∃ z : List Loc, z = [] := ⟨_, rfl⟩
  have hw : wV D A s.heap ((oW cy aO (aB 0) e_O_images e_O_tape e_O_reader (aP 0) e_O_trial none e_O_dates e_O_line e_O_evening e_O_choices SO) ++ ((bW cy aB (als 0) e_B_told e_B_mentions e_B_claims SB) ++ ((lsW cy als Sls) ++ ((pW cy aP (aJ 0) SP) ++ (jW cy aJ SJ))))) H locs := by rw [hH, hLc]; exact hw
  have hgo : W p l e (rmA 9 6 4101) s m args below meth c H locs 0 0 (MQ below (eI D cy A (fun u : Option ((Nat → Nat) × (Nat → Nat → Int32)) × Ob × Ob => ((oW cy aO (aB 0) e_O_images e_O_tape e_O_reader (aP 0) e_O_trial (u.1.map (fun q => q.1 0)) e_O_dates e_O_line e_O_evening e_O_choices SO) ++ ((bW cy aB (als 0) e_B_told e_B_mentions e_B_claims SB) ++ ((lsW cy als Sls) ++ ((pW cy aP (aJ 0) u.2.1) ++ ((jW cy aJ u.2.2) ++ (optSn cy u.1))))))) (fun (r : Int32) (u : Option ((Nat → Nat) × (Nat → Nat → Int32)) × Ob × Ob) => Q r u.1 u.2.1 u.2.2)) args s (rmA 9 6 4101).cells (rmA 9 6 4101).slots A) (F0 m 0 ls []) := ?hgo
  · rw [hH, hLc] at hgo; exact hgo
  refine lv_iload_n hx hb dX8_winter_0 rfl (lv_at hl 1 rfl) ?_
  refine lv_iconst (v := 1) hx hb dX8_winter_1 (by decide) ?_
  refine lv_icmp_lt (tgt := 20) hx hb dX8_winter_2 (by decide) (fun c24 => ?_) (fun c24 => ?_)
  · have hm := hm.1 c24
    refine lv_iconst (v := (-1)) hx hb dX8_winter_20 (by decide) ?_
    refine W.widen (k := 6) (n := 4101) (by decide) (by decide) ?_
    exact retI (u := (none, SP, SJ)) hc hw hm dX8_winter_21
  · have hm := hm.2 c24
    refine lv_iload_n hx hb dX8_winter_5 rfl (lv_at hl 1 rfl) ?_
    refine lv_iconst (v := 4) hx hb dX8_winter_6 (by decide) ?_
    refine lv_icmp_gt (tgt := 20) hx hb dX8_winter_7 (by decide) (fun c23 => ?_) (fun c23 => ?_)
    · have hm := hm.1 c23
      refine lv_iconst (v := (-1)) hx hb dX8_winter_20 (by decide) ?_
      refine W.widen (k := 6) (n := 4101) (by decide) (by decide) ?_
      exact retI (u := (none, SP, SJ)) hc hw hm dX8_winter_21
    · have hm := hm.2 c23
      refine lv_iload_n hx hb dX8_winter_10 rfl (lv_at hl 2 rfl) ?_
      refine lv_iconst (v := (-1)) hx hb dX8_winter_11 (by decide) ?_
      refine lv_icmp_lt (tgt := 20) hx hb dX8_winter_12 (by decide) (fun c22 => ?_) (fun c22 => ?_)
      · have hm := hm.1 c22
        refine lv_iconst (v := (-1)) hx hb dX8_winter_20 (by decide) ?_
        refine W.widen (k := 6) (n := 4101) (by decide) (by decide) ?_
        exact retI (u := (none, SP, SJ)) hc hw hm dX8_winter_21
      · have hm := hm.2 c22
        refine lv_iload_n hx hb dX8_winter_15 rfl (lv_at hl 2 rfl) ?_
        refine lv_iload_n hx hb dX8_winter_16 rfl (lv_at hl 1 rfl) ?_
        refine lv_icmp_lt (tgt := 22) hx hb dX8_winter_17 (by decide) (fun c21 => ?_) (fun c21 => ?_)
        · have hm := hm.1 c21
          refine lv_aload_n hx hb dX8_winter_22 rfl (lv_at hl 0 rfl) ?_
          refine gF (k := 8) hc hw inX8 rfl 0 rfl (by decide) (gm 423 (by decide +kernel) rfl) rfl dX8_winter_23 ?_
          refine lv_aload_n hx hb dX8_winter_26 rfl (lv_at hl 0 rfl) ?_
          refine gF (k := 0) hc hw inX8 rfl 0 rfl (by decide) (gm 415 (by decide +kernel) rfl) rfl dX8_winter_27 ?_
          refine nVN_V (As := [.ref (aB 0)]) (rest := []) (wc := ((pW cy aP (aJ 0) SP) ++ ((jW cy aJ SJ) ++ ((bW cy aB (als 0) e_B_told e_B_mentions e_B_claims SB) ++ (lsW cy als Sls))))) (wr := (oW cy aO (aB 0) e_O_images e_O_tape e_O_reader (aP 0) e_O_trial none e_O_dates e_O_line e_O_evening e_O_choices SO)) (isC := [10, 11, 12, 13, 14, 15, 16, 17, 18, 19, 20, 21, 22, 23, 3, 4, 5, 6, 7, 8, 9]) (isR := [0, 1, 2]) hc hw (c_X3_reckonN hm) lk_X8_197 ⟨rfl, rfl, rfl, rfl, by decide⟩ rfl rfl ⟨by decide, by decide⟩ ⟨Nat.le_of_ble_eq_true rfl, Nat.le_of_ble_eq_true rfl⟩ hl.1 rfl (Nat.le_of_ble_eq_true rfl) rfl dX8_winter_30 (fun u_2 H locs hm hw => ?_)
          obtain ⟨S1, S2⟩ := u_2
          have hw : wV D A s.heap ((oW cy aO (aB 0) e_O_images e_O_tape e_O_reader (aP 0) e_O_trial none e_O_dates e_O_line e_O_evening e_O_choices SO) ++ ((bW cy aB (als 0) e_B_told e_B_mentions e_B_claims SB) ++ ((lsW cy als Sls) ++ ((pW cy aP (aJ 0) S1) ++ (jW cy aJ S2))))) H locs := hw.perm [0, 1, 2, 17, 18, 19, 20, 21, 22, 23, 3, 4, 5, 6, 7, 8, 9, 10, 11, 12, 13, 14, 15, 16] rfl rfl
          refine lv_aload_n hx hb dX8_winter_33 rfl (lv_at hl 0 rfl) ?_
          refine gF (k := 10) hc hw inX8 rfl 0 rfl (by decide) (gm 425 (by decide +kernel) rfl) rfl dX8_winter_34 ?_
          refine lv_ifnonnullN hx hb dX8_winter_37 ?_
          refine lv_aload_n hx hb dX8_winter_40 rfl (lv_at hl 0 rfl) ?_
          refine nwO (ci := 5) (fs := [.null]) hc hw inX5 tyX5_ok rfl (gm 921 (by decide +kernel) rfl) (gm 922 (by decide +kernel) rfl) (gm 144 (by decide +kernel) rfl) (fun j hj => by rcases (show j = 0 by omega) with rfl; rfl) (by decide) (by decide) dX8_winter_41 (fun q0 H hw => ?_)
          refine W.widen (k := 1) (n := 1) (by decide) (by decide) ?_
          refine lv_dup hx hb dX8_winter_44 rfl ?_
          refine kIN_V (As := []) (rest := [.ref q0, .ref (aO 0)]) (wc := [(q0, .inr (5, [.null]))]) (wr := ((oW cy aO (aB 0) e_O_images e_O_tape e_O_reader (aP 0) e_O_trial none e_O_dates e_O_line e_O_evening e_O_choices SO) ++ ((bW cy aB (als 0) e_B_told e_B_mentions e_B_claims SB) ++ ((lsW cy als Sls) ++ ((pW cy aP (aJ 0) S1) ++ (jW cy aJ S2)))))) (isC := [24]) (isR := [0, 1, 2, 3, 4, 5, 6, 7, 8, 9, 10, 11, 12, 13, 14, 15, 16, 17, 18, 19, 20, 21, 22, 23]) hc hw (c_X5_init) lk_X8_235 ⟨rfl, rfl, rfl, rfl, by decide⟩ ⟨by decide, by decide⟩ ⟨by decide, by decide⟩ hl.1 rfl (Nat.le_of_ble_eq_true rfl) rfl dX8_winter_45 (fun us H locs hq hw2 => ?_)
          have hq : us 0 0 = q0 := hq
          clear hw
          subst hq
          refine W.widen (k := 6) (n := 4101) (by decide) (by decide) ?_
          have hw : wV D A s.heap (((oW cy aO (aB 0) e_O_images e_O_tape e_O_reader (aP 0) e_O_trial none e_O_dates e_O_line e_O_evening e_O_choices SO) ++ ((bW cy aB (als 0) e_B_told e_B_mentions e_B_claims SB) ++ ((lsW cy als Sls) ++ ((pW cy aP (aJ 0) S1) ++ (jW cy aJ S2))))) ++ snW cy (us 0) (fun _ _ => 0)) H locs := hw2
          refine pFr (k := 10) hc hw inX8 tyX8_ok nmX8 rfl 0 rfl (by decide) (gm 425 (by decide +kernel) rfl) rfl rfl rfl (Nat.le_of_ble_eq_true rfl) dX8_winter_48 (fun H locs hw => ?_)
          have hw : wV D A s.heap ((oW cy aO (aB 0) e_O_images e_O_tape e_O_reader (aP 0) e_O_trial (some ((us 0) 0)) e_O_dates e_O_line e_O_evening e_O_choices SO) ++ ((bW cy aB (als 0) e_B_told e_B_mentions e_B_claims SB) ++ ((lsW cy als Sls) ++ ((pW cy aP (aJ 0) S1) ++ ((jW cy aJ S2) ++ (snW cy (us 0) (fun _ _ => 0))))))) H locs := hw
          have hm := hm us
          refine lv_aload_n hx hb dX8_winter_51 rfl (lv_at hl 0 rfl) ?_
          refine gF (k := 10) hc hw inX8 rfl 0 rfl (by decide) (gm 425 (by decide +kernel) rfl) rfl dX8_winter_52 ?_
          refine lv_aload_n hx hb dX8_winter_55 rfl (lv_at hl 0 rfl) ?_
          refine gF (k := 8) hc hw inX8 rfl 0 rfl (by decide) (gm 423 (by decide +kernel) rfl) rfl dX8_winter_56 ?_
          refine lv_iload_n hx hb dX8_winter_59 rfl (lv_at hl 1 rfl) ?_
          refine lv_iconst (v := 1) hx hb dX8_winter_60 (by decide) ?_
          refine lv_isub hx hb dX8_winter_61 ?_
          refine nVN_V (As := [.ref (aP 0), .int (x1 - 1)]) (rest := []) (wc := ((snW cy (us 0) (fun _ _ => 0)) ++ (pW cy aP (aJ 0) S1))) (wr := ((oW cy aO (aB 0) e_O_images e_O_tape e_O_reader (aP 0) e_O_trial (some ((us 0) 0)) e_O_dates e_O_line e_O_evening e_O_choices SO) ++ ((bW cy aB (als 0) e_B_told e_B_mentions e_B_claims SB) ++ ((lsW cy als Sls) ++ (jW cy aJ S2))))) (isC := [24, 25, 26, 27, 28, 29, 10, 11, 12, 13, 14, 15, 16, 17, 18, 19, 20]) (isR := [0, 1, 2, 3, 4, 5, 6, 7, 8, 9, 21, 22, 23]) hc hw (c_X5_lay hm) lk_X8_236 ⟨rfl, rfl, rfl, rfl, by decide⟩ rfl rfl ⟨by decide, by decide⟩ ⟨Nat.le_of_ble_eq_true rfl, Nat.le_of_ble_eq_true rfl⟩ hl.1 rfl (Nat.le_of_ble_eq_true rfl) rfl dX8_winter_62 (fun u_5 H locs hm hw => ?_)
          obtain ⟨S4, S5⟩ := u_5
          have hw : wV D A s.heap ((oW cy aO (aB 0) e_O_images e_O_tape e_O_reader (aP 0) e_O_trial (some ((us 0) 0)) e_O_dates e_O_line e_O_evening e_O_choices SO) ++ ((bW cy aB (als 0) e_B_told e_B_mentions e_B_claims SB) ++ ((lsW cy als Sls) ++ ((pW cy aP (aJ 0) S5) ++ ((jW cy aJ S2) ++ (snW cy (us 0) S4)))))) H locs := hw.perm [0, 1, 2, 3, 4, 5, 6, 7, 8, 9, 19, 20, 21, 22, 23, 24, 25, 26, 27, 28, 29, 10, 11, 12, 13, 14, 15, 16, 17, 18] rfl rfl
          refine lv_aload_n hx hb dX8_winter_65 rfl (lv_at hl 0 rfl) ?_
          refine gF (k := 0) hc hw inX8 rfl 0 rfl (by decide) (gm 415 (by decide +kernel) rfl) rfl dX8_winter_66 ?_
          refine nVN_I (As := []) (rest := []) (wc := (bW cy aB (als 0) e_B_told e_B_mentions e_B_claims SB)) (wr := ((oW cy aO (aB 0) e_O_images e_O_tape e_O_reader (aP 0) e_O_trial (some ((us 0) 0)) e_O_dates e_O_line e_O_evening e_O_choices SO) ++ ((lsW cy als Sls) ++ ((pW cy aP (aJ 0) S5) ++ ((jW cy aJ S2) ++ (snW cy (us 0) S4)))))) (isC := [3, 4, 5, 6, 7, 8]) (isR := [0, 1, 2, 9, 10, 11, 12, 13, 14, 15, 16, 17, 18, 19, 20, 21, 22, 23, 24, 25, 26, 27, 28, 29]) hc hw (c_X6_all hm) lk_X8_239 ⟨rfl, rfl, rfl, rfl, by decide⟩ rfl rfl ⟨by decide, by decide⟩ ⟨Nat.le_of_ble_eq_true rfl, Nat.le_of_ble_eq_true rfl⟩ hl.1 rfl (Nat.le_of_ble_eq_true rfl) rfl dX8_winter_69 (fun r7 _ H locs hm hw => ?_)
          have hw : wV D A s.heap ((oW cy aO (aB 0) e_O_images e_O_tape e_O_reader (aP 0) e_O_trial (some ((us 0) 0)) e_O_dates e_O_line e_O_evening e_O_choices SO) ++ ((bW cy aB (als 0) e_B_told e_B_mentions e_B_claims SB) ++ ((lsW cy als Sls) ++ ((pW cy aP (aJ 0) S5) ++ ((jW cy aJ S2) ++ (snW cy (us 0) S4)))))) H locs := hw.perm [0, 1, 2, 24, 25, 26, 27, 28, 29, 3, 4, 5, 6, 7, 8, 9, 10, 11, 12, 13, 14, 15, 16, 17, 18, 19, 20, 21, 22, 23] rfl rfl
          refine lv_istore_n (lv' := [(3, .int r7), (0, .ref (aO 0)), (1, .int x1), (2, .int x2)]) hx hb dX8_winter_72 rfl hl (by decide) rfl (fun ls hl => ?_)
          refine lv_iload_n hx hb dX8_winter_73 rfl (lv_at hl 3 rfl) ?_
          refine lv_iconst (v := (-1)) hx hb dX8_winter_74 (by decide) ?_
          refine lv_icmp_ne (tgt := 92) hx hb dX8_winter_75 (by decide) (fun c20 => ?_) (fun c20 => ?_)
          · have hm := hm.1 c20
            refine lv_iconst (v := 0) hx hb dX8_winter_92 (by decide) ?_
            refine lv_istore (lv' := [(4, .int 0), (3, .int r7), (0, .ref (aO 0)), (1, .int x1), (2, .int x2)]) hx hb dX8_winter_93 hl (by decide) rfl (fun ls hl => ?_)
            refine lv_iconst (v := 0) hx hb dX8_winter_95 (by decide) ?_
            refine lv_istore (lv' := [(5, .int 0), (4, .int 0), (3, .int r7), (0, .ref (aO 0)), (1, .int x1), (2, .int x2)]) hx hb dX8_winter_96 hl (by decide) rfl (fun ls hl => ?_)
            refine wl3_ind (G := fun (x5_9 : Int32) (x4_10 : Int32) (x3_11 : Int32) => ∀ (H : Heap) (locs : List Loc) (ls : Array Slot), wV D A s.heap ((oW cy aO (aB 0) e_O_images e_O_tape e_O_reader (aP 0) e_O_trial (some ((us 0) 0)) e_O_dates e_O_line e_O_evening e_O_choices SO) ++ ((bW cy aB (als 0) e_B_told e_B_mentions e_B_claims SB) ++ ((lsW cy als Sls) ++ ((pW cy aP (aJ 0) S5) ++ ((jW cy aJ S2) ++ (snW cy (us 0) S4)))))) H locs → lv_has ls 6 [(5, .int x5_9), (4, .int x4_10), (3, .int x3_11), (0, .ref (aO 0)), (1, .int x1), (2, .int x2)] → W p l e (rmA 9 6 4101) s m args below meth c H locs 6 4101 (MQ below (eI D cy A (fun u : Option ((Nat → Nat) × (Nat → Nat → Int32)) × Ob × Ob => ((oW cy aO (aB 0) e_O_images e_O_tape e_O_reader (aP 0) e_O_trial (u.1.map (fun q => q.1 0)) e_O_dates e_O_line e_O_evening e_O_choices SO) ++ ((bW cy aB (als 0) e_B_told e_B_mentions e_B_claims SB) ++ ((lsW cy als Sls) ++ ((pW cy aP (aJ 0) u.2.1) ++ ((jW cy aJ u.2.2) ++ (optSn cy u.1))))))) (fun (r : Int32) (u : Option ((Nat → Nat) × (Nat → Nat → Int32)) × Ob × Ob) => Q r u.1 u.2.1 u.2.2)) args s (rmA 9 6 4101).cells (rmA 9 6 4101).slots A) (F0 m 98 ls [])) ?_ _ _ _ hm H locs ls hw (lv_sub hl [0, 1, 2, 3, 4, 5] rfl)
            intro L12 ih12 x5_9 x4_10 x3_11 hm H locs ls hw hl
            refine lv_iload hx hb dX8_winter_98 (lv_at hl 0 rfl) ?_
            refine lv_iload_n hx hb dX8_winter_100 rfl (lv_at hl 5 rfl) ?_
            refine lv_icmp_gt (tgt := 135) hx hb dX8_winter_101 (by decide) (fun c17 => ?_) (fun c17 => ?_)
            · have hm := hm.1 c17
              refine lv_iload hx hb dX8_winter_135 (lv_at hl 1 rfl) ?_
              refine W.widen (k := 6) (n := 4101) (by decide) (by decide) ?_
              exact retI (u := ((some ((us 0), S4)), S5, S2)) hc hw hm dX8_winter_137
            · have hm := hm.2 c17
              refine lv_iload_n hx hb dX8_winter_104 rfl (lv_at hl 2 rfl) ?_
              refine lv_iload hx hb dX8_winter_105 (lv_at hl 1 rfl) ?_
              refine lv_iconst (v := (-1)) hx hb dX8_winter_107 (by decide) ?_
              refine lv_ixor hx hb dX8_winter_108 ?_
              refine lv_iand hx hb dX8_winter_109 ?_
              refine lv_topi (fun v13 e_v13 => ?_)
              have hm := hm v13 e_v13
              refine lv_istore_n (lv' := [(3, .int v13), (5, .int x5_9), (4, .int x4_10), (0, .ref (aO 0)), (1, .int x1), (2, .int x2)]) hx hb dX8_winter_110 rfl hl (by decide) rfl (fun ls hl => ?_)
              refine lv_aload_n hx hb dX8_winter_111 rfl (lv_at hl 3 rfl) ?_
              refine gF (k := 10) hc hw inX8 rfl 0 rfl (by decide) (gm 425 (by decide +kernel) rfl) rfl dX8_winter_112 ?_
              refine lv_aload_n hx hb dX8_winter_115 rfl (lv_at hl 3 rfl) ?_
              refine gF (k := 8) hc hw inX8 rfl 0 rfl (by decide) (gm 423 (by decide +kernel) rfl) rfl dX8_winter_116 ?_
              refine lv_iload_n hx hb dX8_winter_119 rfl (lv_at hl 4 rfl) ?_
              refine lv_iload hx hb dX8_winter_120 (lv_at hl 1 rfl) ?_
              refine lv_isub hx hb dX8_winter_122 ?_
              refine lv_iload_n hx hb dX8_winter_123 rfl (lv_at hl 0 rfl) ?_
              refine nVN_I (As := [.ref (aP 0), .int (x1 - x5_9), .int v13]) (rest := []) (wc := ((snW cy (us 0) S4) ++ (pW cy aP (aJ 0) S5))) (wr := ((oW cy aO (aB 0) e_O_images e_O_tape e_O_reader (aP 0) e_O_trial (some ((us 0) 0)) e_O_dates e_O_line e_O_evening e_O_choices SO) ++ ((bW cy aB (als 0) e_B_told e_B_mentions e_B_claims SB) ++ ((lsW cy als Sls) ++ (jW cy aJ S2))))) (isC := [24, 25, 26, 27, 28, 29, 10, 11, 12, 13, 14, 15, 16, 17, 18, 19, 20]) (isR := [0, 1, 2, 3, 4, 5, 6, 7, 8, 9, 21, 22, 23]) hc hw (c_X5_lowest hm) lk_X8_246 ⟨rfl, rfl, rfl, rfl, by decide⟩ rfl rfl ⟨by decide, by decide⟩ ⟨Nat.le_of_ble_eq_true rfl, Nat.le_of_ble_eq_true rfl⟩ hl.1 rfl (Nat.le_of_ble_eq_true rfl) rfl dX8_winter_124 (fun r14 _ H locs hm hw => ?_)
              have hw : wV D A s.heap ((oW cy aO (aB 0) e_O_images e_O_tape e_O_reader (aP 0) e_O_trial (some ((us 0) 0)) e_O_dates e_O_line e_O_evening e_O_choices SO) ++ ((bW cy aB (als 0) e_B_told e_B_mentions e_B_claims SB) ++ ((lsW cy als Sls) ++ ((pW cy aP (aJ 0) S5) ++ ((jW cy aJ S2) ++ (snW cy (us 0) S4)))))) H locs := hw.perm [0, 1, 2, 3, 4, 5, 6, 7, 8, 9, 19, 20, 21, 22, 23, 24, 25, 26, 27, 28, 29, 10, 11, 12, 13, 14, 15, 16, 17, 18] rfl rfl
              refine lv_istore (lv' := [(4, .int r14), (3, .int v13), (5, .int x5_9), (0, .ref (aO 0)), (1, .int x1), (2, .int x2)]) hx hb dX8_winter_127 hl (by decide) rfl (fun ls hl => ?_)
              obtain ⟨v16, e_v16⟩ : ∃ z : Int32, z = x5_9 + 1 := ⟨_, rfl⟩
              have hm := hm v16 e_v16
              refine lv_iinc (v := v16) (lv' := [(5, .int v16), (4, .int r14), (3, .int v13), (0, .ref (aO 0)), (1, .int x1), (2, .int x2)]) hx hb dX8_winter_129 hl (k := 2) rfl (by rw [e_v16]; rfl) (by decide) rfl (fun ls hl => ?_)
              refine lv_goto (tgt := 98) hx hb dX8_winter_132 (by decide) ?_
              exact ih12 _ _ _ hm _ _ _ hw (lv_sub hl [0, 1, 2, 3, 4, 5] rfl)
          · have hm := hm.2 c20
            refine lv_aload_n hx hb dX8_winter_78 rfl (lv_at hl 1 rfl) ?_
            refine gF (k := 10) hc hw inX8 rfl 0 rfl (by decide) (gm 425 (by decide +kernel) rfl) rfl dX8_winter_79 ?_
            refine lv_aload_n hx hb dX8_winter_82 rfl (lv_at hl 1 rfl) ?_
            refine gF (k := 8) hc hw inX8 rfl 0 rfl (by decide) (gm 423 (by decide +kernel) rfl) rfl dX8_winter_83 ?_
            refine lv_iload_n hx hb dX8_winter_86 rfl (lv_at hl 2 rfl) ?_
            refine lv_iload_n hx hb dX8_winter_87 rfl (lv_at hl 0 rfl) ?_
            refine nVN_I (As := [.ref (aP 0), .int x1, .int r7]) (rest := []) (wc := ((snW cy (us 0) S4) ++ (pW cy aP (aJ 0) S5))) (wr := ((oW cy aO (aB 0) e_O_images e_O_tape e_O_reader (aP 0) e_O_trial (some ((us 0) 0)) e_O_dates e_O_line e_O_evening e_O_choices SO) ++ ((bW cy aB (als 0) e_B_told e_B_mentions e_B_claims SB) ++ ((lsW cy als Sls) ++ (jW cy aJ S2))))) (isC := [24, 25, 26, 27, 28, 29, 10, 11, 12, 13, 14, 15, 16, 17, 18, 19, 20]) (isR := [0, 1, 2, 3, 4, 5, 6, 7, 8, 9, 21, 22, 23]) hc hw (c_X5_most hm) lk_X8_242 ⟨rfl, rfl, rfl, rfl, by decide⟩ rfl rfl ⟨by decide, by decide⟩ ⟨Nat.le_of_ble_eq_true rfl, Nat.le_of_ble_eq_true rfl⟩ hl.1 rfl (Nat.le_of_ble_eq_true rfl) rfl dX8_winter_88 (fun r18 _ H locs hm hw => ?_)
            have hw : wV D A s.heap ((oW cy aO (aB 0) e_O_images e_O_tape e_O_reader (aP 0) e_O_trial (some ((us 0) 0)) e_O_dates e_O_line e_O_evening e_O_choices SO) ++ ((bW cy aB (als 0) e_B_told e_B_mentions e_B_claims SB) ++ ((lsW cy als Sls) ++ ((pW cy aP (aJ 0) S5) ++ ((jW cy aJ S2) ++ (snW cy (us 0) S4)))))) H locs := hw.perm [0, 1, 2, 3, 4, 5, 6, 7, 8, 9, 19, 20, 21, 22, 23, 24, 25, 26, 27, 28, 29, 10, 11, 12, 13, 14, 15, 16, 17, 18] rfl rfl
            refine W.widen (k := 6) (n := 4101) (by decide) (by decide) ?_
            exact retI (u := ((some ((us 0), S4)), S5, S2)) hc hw hm dX8_winter_91
        · have hm := hm.2 c21
          refine lv_iconst (v := (-1)) hx hb dX8_winter_20 (by decide) ?_
          refine W.widen (k := 6) (n := 4101) (by decide) (by decide) ?_
          exact retI (u := (none, SP, SJ)) hc hw hm dX8_winter_21
