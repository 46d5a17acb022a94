def optPl (cy : Nat → ClassId) (o : Option ((Nat → Nat → Nat) × Ob × Ob)) : va_W := match o with
  | none => []
  | some q => pW cy (q.1 0) (q.1 1 0) q.2.1 ++ jW cy (q.1 1) q.2.2
def oC (o : Option ((Nat → Nat → Nat) × Ob × Ob)) : Nat := match o with
  | none => 0
  | some _ => 14
def oS (o : Option ((Nat → Nat → Nat) × Ob × Ob)) : Nat := match o with
  | none => 0
  | some _ => 4239
theorem oC_le (o : Option ((Nat → Nat → Nat) × Ob × Ob)) : oC o ≤ 14 := match o with | none => Nat.zero_le _ | some _ => Nat.le_refl _
theorem oS_le (o : Option ((Nat → Nat → Nat) × Ob × Ob)) : oS o ≤ 4239 := match o with | none => Nat.zero_le _ | some _ => Nat.le_refl _
theorem lk_X8_252 : lkV RX8 252 yX8_worthIfKnown cX8_worthIfKnown 4 (some .int) 2 := ⟨gm 952 (by decide +kernel) rfl, gm 955 (by decide +kernel) rfl, gm 127 (by decide +kernel) rfl, gm 954 (by decide +kernel) rfl, gm 57 (by decide +kernel) rfl, ⟨by decide, by decide, by decide +kernel⟩⟩
def w_X8_worthIfKnown (aLw : Nat → Nat) (SO : Ob) (SB : Ob) (Sls : (Nat → Option Nat)) (Std : Ob) (SPt : Ob) (SJt : Ob) (SLw : Lw) (x1 : Int32) (x2 : Int32) (Q : Int32 → Ob → Ob → Ob → Prop) : Prop :=
  vp_in x1 10 ∧ ∀ v2 : Int32, v2 = (SB.2 3 (Int32.toNatClampNeg x1)) → vp_in x1 10 ∧ ∀ S4 : Ob, S4 = uA SB 3 (Int32.toNatClampNeg x1) (v2 ||| ((1 : Int32) <<< (x2 &&& 31))) → w_X3_spoil SPt (fun (S5 : Ob) => w_X3_reckon aLw S5 SJt S4 Sls SLw (fun (S7 : Ob) (S8 : Ob) => w_X3_choose S7 S4 Std 0 (fun (S10 : Ob) => vp_in x1 10 ∧ ∀ S13 : Ob, S13 = uA S4 3 (Int32.toNatClampNeg x1) v2 → vp_in (S10.1 15) 1024 ∧ Q (S10.2 10 (Int32.toNatClampNeg (S10.1 15))) S13 S10 S8)))
def w_X8_worthIfKnownN (SO : Ob) (SB : Ob) (Sls : (Nat → Option Nat)) (Std : Ob) (SPt : Ob) (SJt : Ob) (x1 : Int32) (x2 : Int32) (Q : Int32 → Ob → Ob → Ob → Prop) : Prop :=
  vp_in x1 10 ∧ ∀ v2 : Int32, v2 = (SB.2 3 (Int32.toNatClampNeg x1)) → vp_in x1 10 ∧ ∀ S4 : Ob, S4 = uA SB 3 (Int32.toNatClampNeg x1) (v2 ||| ((1 : Int32) <<< (x2 &&& 31))) → w_X3_spoil SPt (fun (S5 : Ob) => w_X3_reckonN S5 SJt S4 Sls (fun (S7 : Ob) (S8 : Ob) => w_X3_choose S7 S4 Std 0 (fun (S10 : Ob) => vp_in x1 10 ∧ ∀ S13 : Ob, S13 = uA S4 3 (Int32.toNatClampNeg x1) v2 → vp_in (S10.1 15) 1024 ∧ Q (S10.2 10 (Int32.toNatClampNeg (S10.1 15))) S13 S10 S8)))
def w_X8_worthIfKnownA (aLw : Nat → Nat) (SO : Ob) (SB : Ob) (Sls : (Nat → Option Nat)) (Std : Ob) (SLw : Lw) (x1 : Int32) (x2 : Int32) (Q : Int32 → (Nat → Nat → Nat) → Ob → Ob → Ob → Prop) : Prop :=
  vp_in x1 10 ∧ ∀ v2 : Int32, v2 = (SB.2 3 (Int32.toNatClampNeg x1)) → vp_in x1 10 ∧ ∀ S4 : Ob, S4 = uA SB 3 (Int32.toNatClampNeg x1) (v2 ||| ((1 : Int32) <<< (x2 &&& 31))) → ∀ ut : Nat → Nat → Nat, w_X3_spoil i_X3 (fun (S5 : Ob) => w_X3_reckon aLw S5 i_X1 S4 Sls SLw (fun (S7 : Ob) (S8 : Ob) => w_X3_choose S7 S4 Std 0 (fun (S10 : Ob) => vp_in x1 10 ∧ ∀ S13 : Ob, S13 = uA S4 3 (Int32.toNatClampNeg x1) v2 → vp_in (S10.1 15) 1024 ∧ Q (S10.2 10 (Int32.toNatClampNeg (S10.1 15))) ut S13 S10 S8)))
def w_X8_worthIfKnownNA (SO : Ob) (SB : Ob) (Sls : (Nat → Option Nat)) (Std : Ob) (x1 : Int32) (x2 : Int32) (Q : Int32 → (Nat → Nat → Nat) → Ob → Ob → Ob → Prop) : Prop :=
  vp_in x1 10 ∧ ∀ v2 : Int32, v2 = (SB.2 3 (Int32.toNatClampNeg x1)) → vp_in x1 10 ∧ ∀ S4 : Ob, S4 = uA SB 3 (Int32.toNatClampNeg x1) (v2 ||| ((1 : Int32) <<< (x2 &&& 31))) → ∀ ut : Nat → Nat → Nat, w_X3_spoil i_X3 (fun (S5 : Ob) => w_X3_reckonN S5 i_X1 S4 Sls (fun (S7 : Ob) (S8 : Ob) => w_X3_choose S7 S4 Std 0 (fun (S10 : Ob) => vp_in x1 10 ∧ ∀ S13 : Ob, S13 = uA S4 3 (Int32.toNatClampNeg x1) v2 → vp_in (S10.1 15) 1024 ∧ Q (S10.2 10 (Int32.toNatClampNeg (S10.1 15))) ut S13 S10 S8)))
def w_X8_learn (aLw : Nat → Nat) (SO : Ob) (SB : Ob) (Sls : (Nat → Option Nat)) (Std : Ob) (SPt : Ob) (SJt : Ob) (SLw : Lw) (x1 : Int32) (x2 : Int32) (Q : Int32 → Ob → Ob → Ob → Prop) : Prop :=
  w_X6_seats SB x1 (fun (r1 : Int32) => ((r1 = 0 → Q (-1) SB SPt SJt) ∧ (¬ r1 = 0 → ((x2 < 0 → Q (-1) SB SPt SJt) ∧ (¬ x2 < 0 → ((x2 ≤ 1 → ∃ n, wl6 (fun L9 (x5_3 : Int32) (x4_4 : Int32) (x3_5 : Int32) (S6 : Ob) (S7 : Ob) (S8 : Ob) => (((S6.1 4) ≤ x5_3 → ((¬ x2 = 0 → Q x4_4 S6 S7 S8) ∧ (x2 = 0 → Q x3_5 S6 S7 S8))) ∧ (¬ (S6.1 4) ≤ x5_3 → vp_in x5_3 10 ∧ ((¬ (((S6.2 3 (Int32.toNatClampNeg x5_3)) >>> (x1 &&& 31)) &&& 1) = 0 → ∀ v12 : Int32, v12 = x5_3 + 1 → L9 v12 x4_4 x3_5 S6 S7 S8) ∧ ((((S6.2 3 (Int32.toNatClampNeg x5_3)) >>> (x1 &&& 31)) &&& 1) = 0 → w_X8_worthIfKnown aLw SO S6 Sls Std S7 S8 SLw x5_3 x1 (fun (r13 : Int32) (S14 : Ob) (S15 : Ob) (S16 : Ob) => ((r13 ≤ x4_4 → ∀ v18 : Int32, v18 = x5_3 + 1 → L9 v18 x4_4 x3_5 S14 S15 S16) ∧ (¬ r13 ≤ x4_4 → ∀ v19 : Int32, v19 = x5_3 + 1 → L9 v19 r13 x5_3 S14 S15 S16)))))))) n 0 (-1) (-1) SB SPt SJt) ∧ (¬ x2 ≤ 1 → Q (-1) SB SPt SJt)))))))
def w_X8_learnN (SO : Ob) (SB : Ob) (Sls : (Nat → Option Nat)) (Std : Ob) (SPt : Ob) (SJt : Ob) (x1 : Int32) (x2 : Int32) (Q : Int32 → Ob → Ob → Ob → Prop) : Prop :=
  w_X6_seats SB x1 (fun (r1 : Int32) => ((r1 = 0 → Q (-1) SB SPt SJt) ∧ (¬ r1 = 0 → ((x2 < 0 → Q (-1) SB SPt SJt) ∧ (¬ x2 < 0 → ((x2 ≤ 1 → ∃ n, wl6 (fun L9 (x5_3 : Int32) (x4_4 : Int32) (x3_5 : Int32) (S6 : Ob) (S7 : Ob) (S8 : Ob) => (((S6.1 4) ≤ x5_3 → ((¬ x2 = 0 → Q x4_4 S6 S7 S8) ∧ (x2 = 0 → Q x3_5 S6 S7 S8))) ∧ (¬ (S6.1 4) ≤ x5_3 → vp_in x5_3 10 ∧ ((¬ (((S6.2 3 (Int32.toNatClampNeg x5_3)) >>> (x1 &&& 31)) &&& 1) = 0 → ∀ v12 : Int32, v12 = x5_3 + 1 → L9 v12 x4_4 x3_5 S6 S7 S8) ∧ ((((S6.2 3 (Int32.toNatClampNeg x5_3)) >>> (x1 &&& 31)) &&& 1) = 0 → w_X8_worthIfKnownN SO S6 Sls Std S7 S8 x5_3 x1 (fun (r13 : Int32) (S14 : Ob) (S15 : Ob) (S16 : Ob) => ((r13 ≤ x4_4 → ∀ v18 : Int32, v18 = x5_3 + 1 → L9 v18 x4_4 x3_5 S14 S15 S16) ∧ (¬ r13 ≤ x4_4 → ∀ v19 : Int32, v19 = x5_3 + 1 → L9 v19 r13 x5_3 S14 S15 S16)))))))) n 0 (-1) (-1) SB SPt SJt) ∧ (¬ x2 ≤ 1 → Q (-1) SB SPt SJt)))))))
def w_wik (aLw : Nat → Nat) (SO SB : Ob) (Sls : Nat → Option Nat) (Std : Ob) (SLw : Lw) (So : Option ((Nat → Nat → Nat) × Ob × Ob)) (x1 x2 : Int32) (Q : Int32 → Ob → Option ((Nat → Nat → Nat) × Ob × Ob) → Prop) : Prop := match So with
  | none => w_X8_worthIfKnownA aLw SO SB Sls Std SLw x1 x2 (fun r ut SB9 SP9 SJ9 => Q r SB9 (some (ut, SP9, SJ9)))
  | some q => w_X8_worthIfKnown aLw SO SB Sls Std q.2.1 q.2.2 SLw x1 x2 (fun r SB9 SP9 SJ9 => Q r SB9 (some (q.1, SP9, SJ9)))
theorem w_wik_n {aLw : Nat → Nat} {SO SB : Ob} {Sls : Nat → Option Nat} {Std : Ob} {SLw : Lw} {x1 x2 : Int32} {Q : Int32 → Ob → Option ((Nat → Nat → Nat) × Ob × Ob) → Prop} : w_wik aLw SO SB Sls Std SLw none x1 x2 Q = w_X8_worthIfKnownA aLw SO SB Sls Std SLw x1 x2 (fun r ut SB9 SP9 SJ9 => Q r SB9 (some (ut, SP9, SJ9))) := rfl
theorem w_wik_s {aLw : Nat → Nat} {SO SB : Ob} {Sls : Nat → Option Nat} {Std : Ob} {SLw : Lw} {x1 x2 : Int32} {Q : Int32 → Ob → Option ((Nat → Nat → Nat) × Ob × Ob) → Prop} {ut : Nat → Nat → Nat} {SP8 SJ8 : Ob} : w_wik aLw SO SB Sls Std SLw (some (ut, SP8, SJ8)) x1 x2 Q = w_X8_worthIfKnown aLw SO SB Sls Std SP8 SJ8 SLw x1 x2 (fun r SB9 SP9 SJ9 => Q r SB9 (some (ut, SP9, SJ9))) := rfl
def w_wikN (SO SB : Ob) (Sls : Nat → Option Nat) (Std : Ob) (So : Option ((Nat → Nat → Nat) × Ob × Ob)) (x1 x2 : Int32) (Q : Int32 → Ob → Option ((Nat → Nat → Nat) × Ob × Ob) → Prop) : Prop := match So with
  | none => w_X8_worthIfKnownNA SO SB Sls Std x1 x2 (fun r ut SB9 SP9 SJ9 => Q r SB9 (some (ut, SP9, SJ9)))
  | some q => w_X8_worthIfKnownN SO SB Sls Std q.2.1 q.2.2 x1 x2 (fun r SB9 SP9 SJ9 => Q r SB9 (some (q.1, SP9, SJ9)))
theorem w_wikN_n {SO SB : Ob} {Sls : Nat → Option Nat} {Std : Ob} {x1 x2 : Int32} {Q : Int32 → Ob → Option ((Nat → Nat → Nat) × Ob × Ob) → Prop} : w_wikN SO SB Sls Std none x1 x2 Q = w_X8_worthIfKnownNA SO SB Sls Std x1 x2 (fun r ut SB9 SP9 SJ9 => Q r SB9 (some (ut, SP9, SJ9))) := rfl
theorem w_wikN_s {SO SB : Ob} {Sls : Nat → Option Nat} {Std : Ob} {x1 x2 : Int32} {Q : Int32 → Ob → Option ((Nat → Nat → Nat) × Ob × Ob) → Prop} {ut : Nat → Nat → Nat} {SP8 SJ8 : Ob} : w_wikN SO SB Sls Std (some (ut, SP8, SJ8)) x1 x2 Q = w_X8_worthIfKnownN SO SB Sls Std SP8 SJ8 x1 x2 (fun r SB9 SP9 SJ9 => Q r SB9 (some (ut, SP9, SJ9))) := rfl
def w_X8_learnA (aLw : Nat → Nat) (SO : Ob) (SB : Ob) (Sls : (Nat → Option Nat)) (Std : Ob) (SLw : Lw) (x1 : Int32) (x2 : Int32) (Q : Int32 → Ob → Option ((Nat → Nat → Nat) × Ob × Ob) → Prop) : Prop :=
  w_X6_seats SB x1 (fun (r1 : Int32) => ((r1 = 0 → Q (-1) SB none) ∧ (¬ r1 = 0 → ((x2 < 0 → Q (-1) SB none) ∧ (¬ x2 < 0 → ((x2 ≤ 1 → ∃ n, wl5 (fun L8 (x5_3 : Int32) (x4_4 : Int32) (x3_5 : Int32) (S6 : Ob) (S7 : (Option ((Nat → Nat → Nat) × Ob × Ob))) => (((S6.1 4) ≤ x5_3 → ((¬ x2 = 0 → Q x4_4 S6 S7) ∧ (x2 = 0 → Q x3_5 S6 S7))) ∧ (¬ (S6.1 4) ≤ x5_3 → vp_in x5_3 10 ∧ ((¬ (((S6.2 3 (Int32.toNatClampNeg x5_3)) >>> (x1 &&& 31)) &&& 1) = 0 → ∀ v11 : Int32, v11 = x5_3 + 1 → L8 v11 x4_4 x3_5 S6 S7) ∧ ((((S6.2 3 (Int32.toNatClampNeg x5_3)) >>> (x1 &&& 31)) &&& 1) = 0 → w_wik aLw SO S6 Sls Std SLw S7 x5_3 x1 (fun (r12 : Int32) (S13 : Ob) (S14 : Option ((Nat → Nat → Nat) × Ob × Ob)) => ((r12 ≤ x4_4 → ∀ v15 : Int32, v15 = x5_3 + 1 → L8 v15 x4_4 x3_5 S13 S14) ∧ (¬ r12 ≤ x4_4 → ∀ v16 : Int32, v16 = x5_3 + 1 → L8 v16 r12 x5_3 S13 S14)))))))) n 0 (-1) (-1) SB none) ∧ (¬ x2 ≤ 1 → Q (-1) SB none)))))))
def w_X8_learnNA (SO : Ob) (SB : Ob) (Sls : (Nat → Option Nat)) (Std : Ob) (x1 : Int32) (x2 : Int32) (Q : Int32 → Ob → Option ((Nat → Nat → Nat) × Ob × Ob) → Prop) : Prop :=
  w_X6_seats SB x1 (fun (r1 : Int32) => ((r1 = 0 → Q (-1) SB none) ∧ (¬ r1 = 0 → ((x2 < 0 → Q (-1) SB none) ∧ (¬ x2 < 0 → ((x2 ≤ 1 → ∃ n, wl5 (fun L8 (x5_3 : Int32) (x4_4 : Int32) (x3_5 : Int32) (S6 : Ob) (S7 : (Option ((Nat → Nat → Nat) × Ob × Ob))) => (((S6.1 4) ≤ x5_3 → ((¬ x2 = 0 → Q x4_4 S6 S7) ∧ (x2 = 0 → Q x3_5 S6 S7))) ∧ (¬ (S6.1 4) ≤ x5_3 → vp_in x5_3 10 ∧ ((¬ (((S6.2 3 (Int32.toNatClampNeg x5_3)) >>> (x1 &&& 31)) &&& 1) = 0 → ∀ v11 : Int32, v11 = x5_3 + 1 → L8 v11 x4_4 x3_5 S6 S7) ∧ ((((S6.2 3 (Int32.toNatClampNeg x5_3)) >>> (x1 &&& 31)) &&& 1) = 0 → w_wikN SO S6 Sls Std S7 x5_3 x1 (fun (r12 : Int32) (S13 : Ob) (S14 : Option ((Nat → Nat → Nat) × Ob × Ob)) => ((r12 ≤ x4_4 → ∀ v15 : Int32, v15 = x5_3 + 1 → L8 v15 x4_4 x3_5 S13 S14) ∧ (¬ r12 ≤ x4_4 → ∀ v16 : Int32, v16 = x5_3 + 1 → L8 v16 r12 x5_3 S13 S14)))))))) n 0 (-1) (-1) SB none) ∧ (¬ x2 ≤ 1 → Q (-1) SB none)))))))
set_option maxHeartbeats 4000000 in
set_option maxRecDepth 100000 in
theorem c_X8_worthIfKnown {l : Launch} {D : va_G} {cy : Nat → ClassId} {aO : Nat → Nat} {aB : Nat → Nat} {als : Nat → Nat} {atd : Nat → Nat} {aPt : Nat → Nat} {aJt : Nat → Nat} {aLw : Nat → Nat} {e_O_images : Nat} {e_O_tape : Nat} {e_O_reader : Nat} {e_O_plan : Nat} {e_O_season : Option Nat} {e_O_dates : Nat} {e_O_line : Nat} {e_O_evening : Nat} {e_O_choices : Nat} {e_B_mentions : Nat} {e_B_claims : Nat} {SO : Ob} {SB : Ob} {Sls : (Nat → Option Nat)} {Std : Ob} {SPt : Ob} {SJt : Ob} {SLw : Lw} {x1 : Int32} {x2 : Int32} {Q : Int32 → Ob → Ob → Ob → Prop} (hm : w_X8_worthIfKnown aLw SO SB Sls Std SPt SJt SLw x1 x2 Q) : CtI l yX8_worthIfKnown cX8_worthIfKnown 4 (some .int) (rmN 6) D cy [.ref (aO 0), .int x1, .int x2] ((oW cy aO (aB 0) e_O_images e_O_tape e_O_reader e_O_plan (some (aPt 0)) e_O_season e_O_dates e_O_line e_O_evening e_O_choices SO) ++ ((bW cy aB (als 0) (atd 0) e_B_mentions e_B_claims SB) ++ ((lsW cy als Sls) ++ ((tW cy atd Std) ++ ((pW cy aPt (aJt 0) SPt) ++ ((jW cy aJt SJt) ++ (lwW cy aLw SLw))))))) (fun u : Ob × Ob × Ob => ((oW cy aO (aB 0) e_O_images e_O_tape e_O_reader e_O_plan (some (aPt 0)) e_O_season e_O_dates e_O_line e_O_evening e_O_choices SO) ++ ((bW cy aB (als 0) (atd 0) e_B_mentions e_B_claims u.1) ++ ((lsW cy als Sls) ++ ((tW cy atd Std) ++ ((pW cy aPt (aJt 0) u.2.1) ++ ((jW cy aJt u.2.2) ++ (lwW cy aLw SLw)))))))) (fun (r : Int32) (u : Ob × Ob × Ob) => Q r u.1 u.2.1 u.2.2) := by
  refine CtI.ofW (by decide) (Nat.le_of_ble_eq_true rfl) ?_
  intro p e s m args below meth c A ls hc hnm hw hl
  have hx := hc.1.1
  have hb := hc.1.2.1
  have hown := hc.1.2.2.2.1
  have hts := hc.1.2.2.2.2
  have hl : lv_has ls 4 [(0, .ref (aO 0)), (1, .int x1), (2, .int x2)] := hl
  obtain ⟨H, hH⟩ : ∃ z, z = s.heap := ⟨_, rfl⟩
  obtain ⟨locs, hLc⟩ : ∃ z : List Loc, z = [] := ⟨_, rfl⟩
  have hw : wV D A s.heap ((oW cy aO (aB 0) e_O_images e_O_tape e_O_reader e_O_plan (some (aPt 0)) e_O_season e_O_dates e_O_line e_O_evening e_O_choices SO) ++ ((bW cy aB (als 0) (atd 0) e_B_mentions e_B_claims SB) ++ ((lsW cy als Sls) ++ ((tW cy atd Std) ++ ((pW cy aPt (aJt 0) SPt) ++ ((jW cy aJt SJt) ++ (lwW cy aLw SLw))))))) H locs := by rw [hH, hLc]; exact hw
  have hgo : W p l e (rmN 6) s m args below meth c H locs 0 0 (MQ below (eI D cy A (fun u : Ob × Ob × Ob => ((oW cy aO (aB 0) e_O_images e_O_tape e_O_reader e_O_plan (some (aPt 0)) e_O_season e_O_dates e_O_line e_O_evening e_O_choices SO) ++ ((bW cy aB (als 0) (atd 0) e_B_mentions e_B_claims u.1) ++ ((lsW cy als Sls) ++ ((tW cy atd Std) ++ ((pW cy aPt (aJt 0) u.2.1) ++ ((jW cy aJt u.2.2) ++ (lwW cy aLw SLw)))))))) (fun (r : Int32) (u : Ob × Ob × Ob) => Q r u.1 u.2.1 u.2.2)) args s (rmN 6).cells (rmN 6).slots A) (F0 m 0 ls []) := ?hgo
  · rw [hH, hLc] at hgo; exact hgo
  refine lv_aload_n hx hb dX8_worthIfKnown_0 rfl (lv_at hl 0 rfl) ?_
  refine gF (k := 0) hc hw inX8 rfl 0 rfl (by decide) (gm 415 (by decide +kernel) rfl) rfl dX8_worthIfKnown_1 ?_
  refine gN (k := 3) (host := "OlderTale") hc hw inX6 rfl 3 rfl (by decide) (nmm 210 (by decide +kernel)) rfl dX8_worthIfKnown_4 ?_
  refine lv_iload_n hx hb dX8_worthIfKnown_7 rfl (lv_at hl 1 rfl) ?_
  obtain ⟨c1, hm⟩ := hm
  refine aI hc hw 7 rfl c1 rfl dX8_worthIfKnown_8 ?_
  refine lv_topi (fun v2 e_v2 => ?_)
  have hm := hm v2 e_v2
  refine lv_istore_n (lv' := [(3, .int v2), (0, .ref (aO 0)), (1, .int x1), (2, .int x2)]) hx hb dX8_worthIfKnown_9 rfl hl (by decide) rfl (fun ls hl => ?_)
  refine lv_aload_n hx hb dX8_worthIfKnown_10 rfl (lv_at hl 1 rfl) ?_
  refine gF (k := 0) hc hw inX8 rfl 0 rfl (by decide) (gm 415 (by decide +kernel) rfl) rfl dX8_worthIfKnown_11 ?_
  refine gN (k := 3) (host := "OlderTale") hc hw inX6 rfl 3 rfl (by decide) (nmm 210 (by decide +kernel)) rfl dX8_worthIfKnown_14 ?_
  refine lv_iload_n hx hb dX8_worthIfKnown_17 rfl (lv_at hl 2 rfl) ?_
  refine lv_iload_n hx hb dX8_worthIfKnown_18 rfl (lv_at hl 0 rfl) ?_
  refine lv_iconst (v := 1) hx hb dX8_worthIfKnown_19 (by decide) ?_
  refine lv_iload_n hx hb dX8_worthIfKnown_20 rfl (lv_at hl 3 rfl) ?_
  refine lv_ishl hx hb dX8_worthIfKnown_21 ?_
  refine lv_ior hx hb dX8_worthIfKnown_22 ?_
  obtain ⟨c3, hm⟩ := hm
  refine sI hc hw 7 rfl c3 rfl dX8_worthIfKnown_23 (fun H locs hw => ?_)
  obtain ⟨S4, e_S4⟩ : ∃ z : Ob, z = uA SB 3 (Int32.toNatClampNeg x1) (v2 ||| ((1 : Int32) <<< (x2 &&& 31))) := ⟨_, rfl⟩
  have hm := hm S4 e_S4
  have hw : wV D A s.heap ((oW cy aO (aB 0) e_O_images e_O_tape e_O_reader e_O_plan (some (aPt 0)) e_O_season e_O_dates e_O_line e_O_evening e_O_choices SO) ++ ((bW cy aB (als 0) (atd 0) e_B_mentions e_B_claims S4) ++ ((lsW cy als Sls) ++ ((tW cy atd Std) ++ ((pW cy aPt (aJt 0) SPt) ++ ((jW cy aJt SJt) ++ (lwW cy aLw SLw))))))) H locs := by rw [e_S4]; exact hw
  refine lv_aload_n hx hb dX8_worthIfKnown_24 rfl (lv_at hl 1 rfl) ?_
  refine gF (k := 9) hc hw inX8 rfl 0 rfl (by decide) (gm 424 (by decide +kernel) rfl) rfl dX8_worthIfKnown_25 ?_
  refine lv_ifnonnull (tgt := 42) hx hb dX8_worthIfKnown_28 (by decide) ?_
  refine lv_aload_n hx hb dX8_worthIfKnown_42 rfl (lv_at hl 1 rfl) ?_
  refine gF (k := 9) hc hw inX8 rfl 0 rfl (by decide) (gm 424 (by decide +kernel) rfl) rfl dX8_worthIfKnown_43 ?_
  refine nVN_V (As := []) (rest := []) (wc := (pW cy aPt (aJt 0) SPt)) (wr := ((oW cy aO (aB 0) e_O_images e_O_tape e_O_reader e_O_plan (some (aPt 0)) e_O_season e_O_dates e_O_line e_O_evening e_O_choices SO) ++ ((bW cy aB (als 0) (atd 0) e_B_mentions e_B_claims S4) ++ ((lsW cy als Sls) ++ ((tW cy atd Std) ++ ((jW cy aJt SJt) ++ (lwW cy aLw SLw))))))) (isC := [14, 15, 16, 17, 18, 19, 20, 21, 22, 23, 24]) (isR := [0, 1, 2, 3, 4, 5, 6, 7, 8, 9, 10, 11, 12, 13, 25, 26, 27, 28, 29, 30, 31, 32]) hc hw (c_X3_spoil hm) lk_X8_100 ⟨rfl, rfl, rfl, rfl, by decide⟩ rfl rfl ⟨Nat.le_of_ble_eq_true rfl, Nat.le_of_ble_eq_true rfl⟩ ⟨Nat.le_of_ble_eq_true rfl, Nat.le_of_ble_eq_true rfl⟩ hl.1 rfl (Nat.le_of_ble_eq_true rfl) rfl dX8_worthIfKnown_46 (fun S5 H locs hm hw => ?_)
  have hw : wV D A s.heap ((oW cy aO (aB 0) e_O_images e_O_tape e_O_reader e_O_plan (some (aPt 0)) e_O_season e_O_dates e_O_line e_O_evening e_O_choices SO) ++ ((bW cy aB (als 0) (atd 0) e_B_mentions e_B_claims S4) ++ ((lsW cy als Sls) ++ ((tW cy atd Std) ++ ((pW cy aPt (aJt 0) S5) ++ ((jW cy aJt SJt) ++ (lwW cy aLw SLw))))))) H locs := hw.perm [0, 1, 2, 3, 4, 5, 6, 7, 8, 9, 10, 11, 12, 13, 22, 23, 24, 25, 26, 27, 28, 29, 30, 31, 32, 14, 15, 16, 17, 18, 19, 20, 21] rfl rfl
  refine lv_aload_n hx hb dX8_worthIfKnown_49 rfl (lv_at hl 1 rfl) ?_
  refine gF (k := 9) hc hw inX8 rfl 0 rfl (by decide) (gm 424 (by decide +kernel) rfl) rfl dX8_worthIfKnown_50 ?_
  refine lv_aload_n hx hb dX8_worthIfKnown_53 rfl (lv_at hl 1 rfl) ?_
  refine gF (k := 0) hc hw inX8 rfl 0 rfl (by decide) (gm 415 (by decide +kernel) rfl) rfl dX8_worthIfKnown_54 ?_
  refine nVN_V (As := [.ref (aB 0)]) (rest := []) (wc := ((pW cy aPt (aJt 0) S5) ++ ((jW cy aJt SJt) ++ ((bW cy aB (als 0) (atd 0) e_B_mentions e_B_claims S4) ++ ((lsW cy als Sls) ++ (lwW cy aLw SLw)))))) (wr := ((oW cy aO (aB 0) e_O_images e_O_tape e_O_reader e_O_plan (some (aPt 0)) e_O_season e_O_dates e_O_line e_O_evening e_O_choices SO) ++ (tW cy atd Std))) (isC := [14, 15, 16, 17, 18, 19, 20, 21, 22, 23, 24, 25, 26, 27, 3, 4, 5, 6, 7, 8, 9, 28, 29, 30, 31, 32]) (isR := [0, 1, 2, 10, 11, 12, 13]) hc hw (c_X3_reckon hm) lk_X8_197 ⟨rfl, rfl, rfl, rfl, by decide⟩ rfl rfl ⟨Nat.le_of_ble_eq_true rfl, Nat.le_of_ble_eq_true rfl⟩ ⟨Nat.le_of_ble_eq_true rfl, Nat.le_of_ble_eq_true rfl⟩ hl.1 rfl (Nat.le_of_ble_eq_true rfl) rfl dX8_worthIfKnown_57 (fun u_8 H locs hm hw => ?_)
  obtain ⟨S7, S8⟩ := u_8
  have hw : wV D A s.heap ((oW cy aO (aB 0) e_O_images e_O_tape e_O_reader e_O_plan (some (aPt 0)) e_O_season e_O_dates e_O_line e_O_evening e_O_choices SO) ++ ((bW cy aB (als 0) (atd 0) e_B_mentions e_B_claims S4) ++ ((lsW cy als Sls) ++ ((tW cy atd Std) ++ ((pW cy aPt (aJt 0) S7) ++ ((jW cy aJt S8) ++ (lwW cy aLw SLw))))))) H locs := hw.perm [0, 1, 2, 21, 22, 23, 24, 25, 26, 27, 3, 4, 5, 6, 7, 8, 9, 10, 11, 12, 13, 14, 15, 16, 17, 18, 19, 20, 28, 29, 30, 31, 32] rfl rfl
  refine lv_aload_n hx hb dX8_worthIfKnown_60 rfl (lv_at hl 1 rfl) ?_
  refine gF (k := 9) hc hw inX8 rfl 0 rfl (by decide) (gm 424 (by decide +kernel) rfl) rfl dX8_worthIfKnown_61 ?_
  refine lv_aload_n hx hb dX8_worthIfKnown_64 rfl (lv_at hl 1 rfl) ?_
  refine gF (k := 0) hc hw inX8 rfl 0 rfl (by decide) (gm 415 (by decide +kernel) rfl) rfl dX8_worthIfKnown_65 ?_
  refine lv_iconst (v := 0) hx hb dX8_worthIfKnown_68 (by decide) ?_
  refine nVN_V (As := [.ref (aB 0), .int 0]) (rest := []) (wc := ((pW cy aPt (aJt 0) S7) ++ ((bW cy aB (als 0) (atd 0) e_B_mentions e_B_claims S4) ++ (tW cy atd Std)))) (wr := ((oW cy aO (aB 0) e_O_images e_O_tape e_O_reader e_O_plan (some (aPt 0)) e_O_season e_O_dates e_O_line e_O_evening e_O_choices SO) ++ ((lsW cy als Sls) ++ ((jW cy aJt S8) ++ (lwW cy aLw SLw))))) (isC := [14, 15, 16, 17, 18, 19, 20, 21, 22, 23, 24, 3, 4, 5, 6, 7, 8, 10, 11, 12, 13]) (isR := [0, 1, 2, 9, 25, 26, 27, 28, 29, 30, 31, 32]) hc hw (c_X3_choose hm) lk_X8_204 ⟨rfl, rfl, rfl, rfl, by decide⟩ rfl rfl ⟨Nat.le_of_ble_eq_true rfl, Nat.le_of_ble_eq_true rfl⟩ ⟨Nat.le_of_ble_eq_true rfl, Nat.le_of_ble_eq_true rfl⟩ hl.1 rfl (Nat.le_of_ble_eq_true rfl) rfl dX8_worthIfKnown_69 (fun S10 H locs hm hw => ?_)
  have hw : wV D A s.heap ((oW cy aO (aB 0) e_O_images e_O_tape e_O_reader e_O_plan (some (aPt 0)) e_O_season e_O_dates e_O_line e_O_evening e_O_choices SO) ++ ((bW cy aB (als 0) (atd 0) e_B_mentions e_B_claims S4) ++ ((lsW cy als Sls) ++ ((tW cy atd Std) ++ ((pW cy aPt (aJt 0) S10) ++ ((jW cy aJt S8) ++ (lwW cy aLw SLw))))))) H locs := hw.perm [0, 1, 2, 23, 24, 25, 26, 27, 28, 3, 29, 30, 31, 32, 12, 13, 14, 15, 16, 17, 18, 19, 20, 21, 22, 4, 5, 6, 7, 8, 9, 10, 11] rfl rfl
  refine lv_aload_n hx hb dX8_worthIfKnown_72 rfl (lv_at hl 1 rfl) ?_
  refine gF (k := 0) hc hw inX8 rfl 0 rfl (by decide) (gm 415 (by decide +kernel) rfl) rfl dX8_worthIfKnown_73 ?_
  refine gN (k := 3) (host := "OlderTale") hc hw inX6 rfl 3 rfl (by decide) (nmm 210 (by decide +kernel)) rfl dX8_worthIfKnown_76 ?_
  refine lv_iload_n hx hb dX8_worthIfKnown_79 rfl (lv_at hl 2 rfl) ?_
  refine lv_iload_n hx hb dX8_worthIfKnown_80 rfl (lv_at hl 0 rfl) ?_
  obtain ⟨c12, hm⟩ := hm
  refine sI hc hw 7 rfl c12 rfl dX8_worthIfKnown_81 (fun H locs hw => ?_)
  obtain ⟨S13, e_S13⟩ : ∃ z : Ob, z = uA S4 3 (Int32.toNatClampNeg x1) v2 := ⟨_, rfl⟩
  have hm := hm S13 e_S13
  have hw : wV D A s.heap ((oW cy aO (aB 0) e_O_images e_O_tape e_O_reader e_O_plan (some (aPt 0)) e_O_season e_O_dates e_O_line e_O_evening e_O_choices SO) ++ ((bW cy aB (als 0) (atd 0) e_B_mentions e_B_claims S13) ++ ((lsW cy als Sls) ++ ((tW cy atd Std) ++ ((pW cy aPt (aJt 0) S10) ++ ((jW cy aJt S8) ++ (lwW cy aLw SLw))))))) H locs := by rw [e_S13]; exact hw
  refine lv_aload_n hx hb dX8_worthIfKnown_82 rfl (lv_at hl 1 rfl) ?_
  refine gF (k := 9) hc hw inX8 rfl 0 rfl (by decide) (gm 424 (by decide +kernel) rfl) rfl dX8_worthIfKnown_83 ?_
  refine gN (k := 10) (host := "OlderTale") hc hw inX3 rfl 14 rfl (by decide) (nmm 341 (by decide +kernel)) rfl dX8_worthIfKnown_86 ?_
  refine lv_aload_n hx hb dX8_worthIfKnown_89 rfl (lv_at hl 1 rfl) ?_
  refine gF (k := 9) hc hw inX8 rfl 0 rfl (by decide) (gm 424 (by decide +kernel) rfl) rfl dX8_worthIfKnown_90 ?_
  refine gN (k := 15) (host := "OlderTale") hc hw inX3 rfl 14 rfl (by decide) (nmm 348 (by decide +kernel)) rfl dX8_worthIfKnown_93 ?_
  obtain ⟨c14, hm⟩ := hm
  refine aI hc hw 20 rfl c14 rfl dX8_worthIfKnown_96 ?_
  exact retI (u := (S13, S10, S8)) hc hw hm dX8_worthIfKnown_97
set_option maxHeartbeats 4000000 in
set_option maxRecDepth 100000 in
theorem c_X8_worthIfKnownN {l : Launch} {D : va_G} {cy : Nat → ClassId} {aO : Nat → Nat} {aB : Nat → Nat} {als : Nat → Nat} {atd : Nat → Nat} {aPt : Nat → Nat} {aJt : Nat → Nat} {e_O_images : Nat} {e_O_tape : Nat} {e_O_reader : Nat} {e_O_plan : Nat} {e_O_season : Option Nat} {e_O_dates : Nat} {e_O_line : Nat} {e_O_evening : Nat} {e_O_choices : Nat} {e_B_mentions : Nat} {e_B_claims : Nat} {SO : Ob} {SB : Ob} {Sls : (Nat → Option Nat)} {Std : Ob} {SPt : Ob} {SJt : Ob} {x1 : Int32} {x2 : Int32} {Q : Int32 → Ob → Ob → Ob → Prop} (hm : w_X8_worthIfKnownN SO SB Sls Std SPt SJt x1 x2 Q) : CtI l yX8_worthIfKnown cX8_worthIfKnown 4 (some .int) (rmN 6) D cy [.ref (aO 0), .int x1, .int x2] ((oW cy aO (aB 0) e_O_images e_O_tape e_O_reader e_O_plan (some (aPt 0)) e_O_season e_O_dates e_O_line e_O_evening e_O_choices SO) ++ ((bW cy aB (als 0) (atd 0) e_B_mentions e_B_claims SB) ++ ((lsW cy als Sls) ++ ((tW cy atd Std) ++ ((pW cy aPt (aJt 0) SPt) ++ (jW cy aJt SJt)))))) (fun u : Ob × Ob × Ob => ((oW cy aO (aB 0) e_O_images e_O_tape e_O_reader e_O_plan (some (aPt 0)) e_O_season e_O_dates e_O_line e_O_evening e_O_choices SO) ++ ((bW cy aB (als 0) (atd 0) e_B_mentions e_B_claims u.1) ++ ((lsW cy als Sls) ++ ((tW cy atd Std) ++ ((pW cy aPt (aJt 0) u.2.1) ++ (jW cy aJt u.2.2))))))) (fun (r : Int32) (u : Ob × Ob × Ob) => Q r u.1 u.2.1 u.2.2) := by
  refine CtI.ofW (by decide) (Nat.le_of_ble_eq_true rfl) ?_
  intro p e s m args below meth c A ls hc hnm hw hl
  have hx := hc.1.1
  have hb := hc.1.2.1
  have hown := hc.1.2.2.2.1
  have hts := hc.1.2.2.2.2
  have hl : lv_has ls 4 [(0, .ref (aO 0)), (1, .int x1), (2, .int x2)] := hl
  obtain ⟨H, hH⟩ : ∃ z, z = s.heap := ⟨_, rfl⟩
  obtain ⟨locs, hLc⟩ : ∃ z : List Loc, z = [] := ⟨_, rfl⟩
  have hw : wV D A s.heap ((oW cy aO (aB 0) e_O_images e_O_tape e_O_reader e_O_plan (some (aPt 0)) e_O_season e_O_dates e_O_line e_O_evening e_O_choices SO) ++ ((bW cy aB (als 0) (atd 0) e_B_mentions e_B_claims SB) ++ ((lsW cy als Sls) ++ ((tW cy atd Std) ++ ((pW cy aPt (aJt 0) SPt) ++ (jW cy aJt SJt)))))) H locs := by rw [hH, hLc]; exact hw
  have hgo : W p l e (rmN 6) s m args below meth c H locs 0 0 (MQ below (eI D cy A (fun u : Ob × Ob × Ob => ((oW cy aO (aB 0) e_O_images e_O_tape e_O_reader e_O_plan (some (aPt 0)) e_O_season e_O_dates e_O_line e_O_evening e_O_choices SO) ++ ((bW cy aB (als 0) (atd 0) e_B_mentions e_B_claims u.1) ++ ((lsW cy als Sls) ++ ((tW cy atd Std) ++ ((pW cy aPt (aJt 0) u.2.1) ++ (jW cy aJt u.2.2))))))) (fun (r : Int32) (u : Ob × Ob × Ob) => Q r u.1 u.2.1 u.2.2)) args s (rmN 6).cells (rmN 6).slots A) (F0 m 0 ls []) := ?hgo
  · rw [hH, hLc] at hgo; exact hgo
  refine lv_aload_n hx hb dX8_worthIfKnown_0 rfl (lv_at hl 0 rfl) ?_
  refine gF (k := 0) hc hw inX8 rfl 0 rfl (by decide) (gm 415 (by decide +kernel) rfl) rfl dX8_worthIfKnown_1 ?_
  refine gN (k := 3) (host := "OlderTale") hc hw inX6 rfl 3 rfl (by decide) (nmm 210 (by decide +kernel)) rfl dX8_worthIfKnown_4 ?_
  refine lv_iload_n hx hb dX8_worthIfKnown_7 rfl (lv_at hl 1 rfl) ?_
  obtain ⟨c1, hm⟩ := hm
  refine aI hc hw 7 rfl c1 rfl dX8_worthIfKnown_8 ?_
  refine lv_topi (fun v2 e_v2 => ?_)
  have hm := hm v2 e_v2
  refine lv_istore_n (lv' := [(3, .int v2), (0, .ref (aO 0)), (1, .int x1), (2, .int x2)]) hx hb dX8_worthIfKnown_9 rfl hl (by decide) rfl (fun ls hl => ?_)
  refine lv_aload_n hx hb dX8_worthIfKnown_10 rfl (lv_at hl 1 rfl) ?_
  refine gF (k := 0) hc hw inX8 rfl 0 rfl (by decide) (gm 415 (by decide +kernel) rfl) rfl dX8_worthIfKnown_11 ?_
  refine gN (k := 3) (host := "OlderTale") hc hw inX6 rfl 3 rfl (by decide) (nmm 210 (by decide +kernel)) rfl dX8_worthIfKnown_14 ?_
  refine lv_iload_n hx hb dX8_worthIfKnown_17 rfl (lv_at hl 2 rfl) ?_
  refine lv_iload_n hx hb dX8_worthIfKnown_18 rfl (lv_at hl 0 rfl) ?_
  refine lv_iconst (v := 1) hx hb dX8_worthIfKnown_19 (by decide) ?_
  refine lv_iload_n hx hb dX8_worthIfKnown_20 rfl (lv_at hl 3 rfl) ?_
  refine lv_ishl hx hb dX8_worthIfKnown_21 ?_
  refine lv_ior hx hb dX8_worthIfKnown_22 ?_
  obtain ⟨c3, hm⟩ := hm
  refine sI hc hw 7 rfl c3 rfl dX8_worthIfKnown_23 (fun H locs hw => ?_)
  obtain ⟨S4, e_S4⟩ : ∃ z : Ob, z = uA SB 3 (Int32.toNatClampNeg x1) (v2 ||| ((1 : Int32) <<< (x2 &&& 31))) := ⟨_, rfl⟩
  have hm := hm S4 e_S4
  have hw : wV D A s.heap ((oW cy aO (aB 0) e_O_images e_O_tape e_O_reader e_O_plan (some (aPt 0)) e_O_season e_O_dates e_O_line e_O_evening e_O_choices SO) ++ ((bW cy aB (als 0) (atd 0) e_B_mentions e_B_claims S4) ++ ((lsW cy als Sls) ++ ((tW cy atd Std) ++ ((pW cy aPt (aJt 0) SPt) ++ (jW cy aJt SJt)))))) H locs := by rw [e_S4]; exact hw
  refine lv_aload_n hx hb dX8_worthIfKnown_24 rfl (lv_at hl 1 rfl) ?_
  refine gF (k := 9) hc hw inX8 rfl 0 rfl (by decide) (gm 424 (by decide +kernel) rfl) rfl dX8_worthIfKnown_25 ?_
  refine lv_ifnonnull (tgt := 42) hx hb dX8_worthIfKnown_28 (by decide) ?_
  refine lv_aload_n hx hb dX8_worthIfKnown_42 rfl (lv_at hl 1 rfl) ?_
  refine gF (k := 9) hc hw inX8 rfl 0 rfl (by decide) (gm 424 (by decide +kernel) rfl) rfl dX8_worthIfKnown_43 ?_
  refine nVN_V (As := []) (rest := []) (wc := (pW cy aPt (aJt 0) SPt)) (wr := ((oW cy aO (aB 0) e_O_images e_O_tape e_O_reader e_O_plan (some (aPt 0)) e_O_season e_O_dates e_O_line e_O_evening e_O_choices SO) ++ ((bW cy aB (als 0) (atd 0) e_B_mentions e_B_claims S4) ++ ((lsW cy als Sls) ++ ((tW cy atd Std) ++ (jW cy aJt SJt)))))) (isC := [14, 15, 16, 17, 18, 19, 20, 21, 22, 23, 24]) (isR := [0, 1, 2, 3, 4, 5, 6, 7, 8, 9, 10, 11, 12, 13, 25, 26, 27]) hc hw (c_X3_spoil hm) lk_X8_100 ⟨rfl, rfl, rfl, rfl, by decide⟩ rfl rfl ⟨Nat.le_of_ble_eq_true rfl, Nat.le_of_ble_eq_true rfl⟩ ⟨Nat.le_of_ble_eq_true rfl, Nat.le_of_ble_eq_true rfl⟩ hl.1 rfl (Nat.le_of_ble_eq_true rfl) rfl dX8_worthIfKnown_46 (fun S5 H locs hm hw => ?_)
  have hw : wV D A s.heap ((oW cy aO (aB 0) e_O_images e_O_tape e_O_reader e_O_plan (some (aPt 0)) e_O_season e_O_dates e_O_line e_O_evening e_O_choices SO) ++ ((bW cy aB (als 0) (atd 0) e_B_mentions e_B_claims S4) ++ ((lsW cy als Sls) ++ ((tW cy atd Std) ++ ((pW cy aPt (aJt 0) S5) ++ (jW cy aJt SJt)))))) H locs := hw.perm [0, 1, 2, 3, 4, 5, 6, 7, 8, 9, 10, 11, 12, 13, 17, 18, 19, 20, 21, 22, 23, 24, 25, 26, 27, 14, 15, 16] rfl rfl
  refine lv_aload_n hx hb dX8_worthIfKnown_49 rfl (lv_at hl 1 rfl) ?_
  refine gF (k := 9) hc hw inX8 rfl 0 rfl (by decide) (gm 424 (by decide +kernel) rfl) rfl dX8_worthIfKnown_50 ?_
  refine lv_aload_n hx hb dX8_worthIfKnown_53 rfl (lv_at hl 1 rfl) ?_
  refine gF (k := 0) hc hw inX8 rfl 0 rfl (by decide) (gm 415 (by decide +kernel) rfl) rfl dX8_worthIfKnown_54 ?_
  refine nVN_V (As := [.ref (aB 0)]) (rest := []) (wc := ((pW cy aPt (aJt 0) S5) ++ ((jW cy aJt SJt) ++ ((bW cy aB (als 0) (atd 0) e_B_mentions e_B_claims S4) ++ (lsW cy als Sls))))) (wr := ((oW cy aO (aB 0) e_O_images e_O_tape e_O_reader e_O_plan (some (aPt 0)) e_O_season e_O_dates e_O_line e_O_evening e_O_choices SO) ++ (tW cy atd Std))) (isC := [14, 15, 16, 17, 18, 19, 20, 21, 22, 23, 24, 25, 26, 27, 3, 4, 5, 6, 7, 8, 9]) (isR := [0, 1, 2, 10, 11, 12, 13]) hc hw (c_X3_reckonN hm) lk_X8_197 ⟨rfl, rfl, rfl, rfl, by decide⟩ rfl rfl ⟨Nat.le_of_ble_eq_true rfl, Nat.le_of_ble_eq_true rfl⟩ ⟨Nat.le_of_ble_eq_true rfl, Nat.le_of_ble_eq_true rfl⟩ hl.1 rfl (Nat.le_of_ble_eq_true rfl) rfl dX8_worthIfKnown_57 (fun u_8 H locs hm hw => ?_)
  obtain ⟨S7, S8⟩ := u_8
  have hw : wV D A s.heap ((oW cy aO (aB 0) e_O_images e_O_tape e_O_reader e_O_plan (some (aPt 0)) e_O_season e_O_dates e_O_line e_O_evening e_O_choices SO) ++ ((bW cy aB (als 0) (atd 0) e_B_mentions e_B_claims S4) ++ ((lsW cy als Sls) ++ ((tW cy atd Std) ++ ((pW cy aPt (aJt 0) S7) ++ (jW cy aJt S8)))))) H locs := hw.perm [0, 1, 2, 21, 22, 23, 24, 25, 26, 27, 3, 4, 5, 6, 7, 8, 9, 10, 11, 12, 13, 14, 15, 16, 17, 18, 19, 20] rfl rfl
  refine lv_aload_n hx hb dX8_worthIfKnown_60 rfl (lv_at hl 1 rfl) ?_
  refine gF (k := 9) hc hw inX8 rfl 0 rfl (by decide) (gm 424 (by decide +kernel) rfl) rfl dX8_worthIfKnown_61 ?_
  refine lv_aload_n hx hb dX8_worthIfKnown_64 rfl (lv_at hl 1 rfl) ?_
  refine gF (k := 0) hc hw inX8 rfl 0 rfl (by decide) (gm 415 (by decide +kernel) rfl) rfl dX8_worthIfKnown_65 ?_
  refine lv_iconst (v := 0) hx hb dX8_worthIfKnown_68 (by decide) ?_
  refine nVN_V (As := [.ref (aB 0), .int 0]) (rest := []) (wc := ((pW cy aPt (aJt 0) S7) ++ ((bW cy aB (als 0) (atd 0) e_B_mentions e_B_claims S4) ++ (tW cy atd Std)))) (wr := ((oW cy aO (aB 0) e_O_images e_O_tape e_O_reader e_O_plan (some (aPt 0)) e_O_season e_O_dates e_O_line e_O_evening e_O_choices SO) ++ ((lsW cy als Sls) ++ (jW cy aJt S8)))) (isC := [14, 15, 16, 17, 18, 19, 20, 21, 22, 23, 24, 3, 4, 5, 6, 7, 8, 10, 11, 12, 13]) (isR := [0, 1, 2, 9, 25, 26, 27]) hc hw (c_X3_choose hm) lk_X8_204 ⟨rfl, rfl, rfl, rfl, by decide⟩ rfl rfl ⟨Nat.le_of_ble_eq_true rfl, Nat.le_of_ble_eq_true rfl⟩ ⟨Nat.le_of_ble_eq_true rfl, Nat.le_of_ble_eq_true rfl⟩ hl.1 rfl (Nat.le_of_ble_eq_true rfl) rfl dX8_worthIfKnown_69 (fun S10 H locs hm hw => ?_)
  have hw : wV D A s.heap ((oW cy aO (aB 0) e_O_images e_O_tape e_O_reader e_O_plan (some (aPt 0)) e_O_season e_O_dates e_O_line e_O_evening e_O_choices SO) ++ ((bW cy aB (als 0) (atd 0) e_B_mentions e_B_claims S4) ++ ((lsW cy als Sls) ++ ((tW cy atd Std) ++ ((pW cy aPt (aJt 0) S10) ++ (jW cy aJt S8)))))) H locs := hw.perm [0, 1, 2, 18, 19, 20, 21, 22, 23, 3, 24, 25, 26, 27, 7, 8, 9, 10, 11, 12, 13, 14, 15, 16, 17, 4, 5, 6] rfl rfl
  refine lv_aload_n hx hb dX8_worthIfKnown_72 rfl (lv_at hl 1 rfl) ?_
  refine gF (k := 0) hc hw inX8 rfl 0 rfl (by decide) (gm 415 (by decide +kernel) rfl) rfl dX8_worthIfKnown_73 ?_
  refine gN (k := 3) (host := "OlderTale") hc hw inX6 rfl 3 rfl (by decide) (nmm 210 (by decide +kernel)) rfl dX8_worthIfKnown_76 ?_
  refine lv_iload_n hx hb dX8_worthIfKnown_79 rfl (lv_at hl 2 rfl) ?_
  refine lv_iload_n hx hb dX8_worthIfKnown_80 rfl (lv_at hl 0 rfl) ?_
  obtain ⟨c12, hm⟩ := hm
  refine sI hc hw 7 rfl c12 rfl dX8_worthIfKnown_81 (fun H locs hw => ?_)
  obtain ⟨S13, e_S13⟩ : ∃ z : Ob, z = uA S4 3 (Int32.toNatClampNeg x1) v2 := ⟨_, rfl⟩
  have hm := hm S13 e_S13
  have hw : wV D A s.heap ((oW cy aO (aB 0) e_O_images e_O_tape e_O_reader e_O_plan (some (aPt 0)) e_O_season e_O_dates e_O_line e_O_evening e_O_choices SO) ++ ((bW cy aB (als 0) (atd 0) e_B_mentions e_B_claims S13) ++ ((lsW cy als Sls) ++ ((tW cy atd Std) ++ ((pW cy aPt (aJt 0) S10) ++ (jW cy aJt S8)))))) H locs := by rw [e_S13]; exact hw
  refine lv_aload_n hx hb dX8_worthIfKnown_82 rfl (lv_at hl 1 rfl) ?_
  refine gF (k := 9) hc hw inX8 rfl 0 rfl (by decide) (gm 424 (by decide +kernel) rfl) rfl dX8_worthIfKnown_83 ?_
  refine gN (k := 10) (host := "OlderTale") hc hw inX3 rfl 14 rfl (by decide) (nmm 341 (by decide +kernel)) rfl dX8_worthIfKnown_86 ?_
  refine lv_aload_n hx hb dX8_worthIfKnown_89 rfl (lv_at hl 1 rfl) ?_
  refine gF (k := 9) hc hw inX8 rfl 0 rfl (by decide) (gm 424 (by decide +kernel) rfl) rfl dX8_worthIfKnown_90 ?_
  refine gN (k := 15) (host := "OlderTale") hc hw inX3 rfl 14 rfl (by decide) (nmm 348 (by decide +kernel)) rfl dX8_worthIfKnown_93 ?_
  obtain ⟨c14, hm⟩ := hm
  refine aI hc hw 20 rfl c14 rfl dX8_worthIfKnown_96 ?_
  exact retI (u := (S13, S10, S8)) hc hw hm dX8_worthIfKnown_97
set_option maxHeartbeats 4000000 in
set_option maxRecDepth 100000 in
theorem c_X8_worthIfKnownA {l : Launch} {D : va_G} {cy : Nat → ClassId} {aO : Nat → Nat} {aB : Nat → Nat} {als : Nat → Nat} {atd : Nat → Nat} {aLw : Nat → Nat} {e_O_images : Nat} {e_O_tape : Nat} {e_O_reader : Nat} {e_O_plan : Nat} {e_O_season : Option Nat} {e_O_dates : Nat} {e_O_line : Nat} {e_O_evening : Nat} {e_O_choices : Nat} {e_B_mentions : Nat} {e_B_claims : Nat} {SO : Ob} {SB : Ob} {Sls : (Nat → Option Nat)} {Std : Ob} {SLw : Lw} {x1 : Int32} {x2 : Int32} {Q : Int32 → (Nat → Nat → Nat) → Ob → Ob → Ob → Prop} (hm : w_X8_worthIfKnownA aLw SO SB Sls Std SLw x1 x2 Q) : CtI l yX8_worthIfKnown cX8_worthIfKnown 4 (some .int) (rmA 10 14 4239) D cy [.ref (aO 0), .int x1, .int x2] ((oW cy aO (aB 0) e_O_images e_O_tape e_O_reader e_O_plan none e_O_season e_O_dates e_O_line e_O_evening e_O_choices SO) ++ ((bW cy aB (als 0) (atd 0) e_B_mentions e_B_claims SB) ++ ((lsW cy als Sls) ++ ((tW cy atd Std) ++ (lwW cy aLw SLw))))) (fun u : (Nat → Nat → Nat) × Ob × Ob × Ob => ((oW cy aO (aB 0) e_O_images e_O_tape e_O_reader e_O_plan (some (u.1 0 0)) e_O_season e_O_dates e_O_line e_O_evening e_O_choices SO) ++ ((bW cy aB (als 0) (atd 0) e_B_mentions e_B_claims u.2.1) ++ ((lsW cy als Sls) ++ ((tW cy atd Std) ++ ((lwW cy aLw SLw) ++ ((pW cy (u.1 0) (u.1 1 0) u.2.2.1) ++ (jW cy (u.1 1) u.2.2.2)))))))) (fun (r : Int32) (u : (Nat → Nat → Nat) × Ob × Ob × Ob) => Q r u.1 u.2.1 u.2.2.1 u.2.2.2) := by
  refine CtI.ofW (by decide) (Nat.le_of_ble_eq_true rfl) ?_
  intro p e s m args below meth c A ls hc hnm hw hl
  have hx := hc.1.1
  have hb := hc.1.2.1
  have hown := hc.1.2.2.2.1
  have hts := hc.1.2.2.2.2
  have hl : lv_has ls 4 [(0, .ref (aO 0)), (1, .int x1), (2, .int x2)] := hl
  obtain ⟨H, hH⟩ : ∃ z, z = s.heap := ⟨_, rfl⟩
  obtain ⟨locs, hLc⟩ : ∃ z : List Loc, z = [] := ⟨_, rfl⟩
  have hw : wV D A s.heap ((oW cy aO (aB 0) e_O_images e_O_tape e_O_reader e_O_plan none e_O_season e_O_dates e_O_line e_O_evening e_O_choices SO) ++ ((bW cy aB (als 0) (atd 0) e_B_mentions e_B_claims SB) ++ ((lsW cy als Sls) ++ ((tW cy atd Std) ++ (lwW cy aLw SLw))))) H locs := by rw [hH, hLc]; exact hw
  have hgo : W p l e (rmA 10 14 4239) s m args below meth c H locs 0 0 (MQ below (eI D cy A (fun u : (Nat → Nat → Nat) × Ob × Ob × Ob => ((oW cy aO (aB 0) e_O_images e_O_tape e_O_reader e_O_plan (some (u.1 0 0)) e_O_season e_O_dates e_O_line e_O_evening e_O_choices SO) ++ ((bW cy aB (als 0) (atd 0) e_B_mentions e_B_claims u.2.1) ++ ((lsW cy als Sls) ++ ((tW cy atd Std) ++ ((lwW cy aLw SLw) ++ ((pW cy (u.1 0) (u.1 1 0) u.2.2.1) ++ (jW cy (u.1 1) u.2.2.2)))))))) (fun (r : Int32) (u : (Nat → Nat → Nat) × Ob × Ob × Ob) => Q r u.1 u.2.1 u.2.2.1 u.2.2.2)) args s (rmA 10 14 4239).cells (rmA 10 14 4239).slots A) (F0 m 0 ls []) := ?hgo
  · rw [hH, hLc] at hgo; exact hgo
  refine lv_aload_n hx hb dX8_worthIfKnown_0 rfl (lv_at hl 0 rfl) ?_
  refine gF (k := 0) hc hw inX8 rfl 0 rfl (by decide) (gm 415 (by decide +kernel) rfl) rfl dX8_worthIfKnown_1 ?_
  refine gN (k := 3) (host := "OlderTale") hc hw inX6 rfl 3 rfl (by decide) (nmm 210 (by decide +kernel)) rfl dX8_worthIfKnown_4 ?_
  refine lv_iload_n hx hb dX8_worthIfKnown_7 rfl (lv_at hl 1 rfl) ?_
  obtain ⟨c1, hm⟩ := hm
  refine aI hc hw 7 rfl c1 rfl dX8_worthIfKnown_8 ?_
  refine lv_topi (fun v2 e_v2 => ?_)
  have hm := hm v2 e_v2
  refine lv_istore_n (lv' := [(3, .int v2), (0, .ref (aO 0)), (1, .int x1), (2, .int x2)]) hx hb dX8_worthIfKnown_9 rfl hl (by decide) rfl (fun ls hl => ?_)
  refine lv_aload_n hx hb dX8_worthIfKnown_10 rfl (lv_at hl 1 rfl) ?_
  refine gF (k := 0) hc hw inX8 rfl 0 rfl (by decide) (gm 415 (by decide +kernel) rfl) rfl dX8_worthIfKnown_11 ?_
  refine gN (k := 3) (host := "OlderTale") hc hw inX6 rfl 3 rfl (by decide) (nmm 210 (by decide +kernel)) rfl dX8_worthIfKnown_14 ?_
  refine lv_iload_n hx hb dX8_worthIfKnown_17 rfl (lv_at hl 2 rfl) ?_
  refine lv_iload_n hx hb dX8_worthIfKnown_18 rfl (lv_at hl 0 rfl) ?_
  refine lv_iconst (v := 1) hx hb dX8_worthIfKnown_19 (by decide) ?_
  refine lv_iload_n hx hb dX8_worthIfKnown_20 rfl (lv_at hl 3 rfl) ?_
  refine lv_ishl hx hb dX8_worthIfKnown_21 ?_
  refine lv_ior hx hb dX8_worthIfKnown_22 ?_
  obtain ⟨c3, hm⟩ := hm
  refine sI hc hw 7 rfl c3 rfl dX8_worthIfKnown_23 (fun H locs hw => ?_)
  obtain ⟨S4, e_S4⟩ : ∃ z : Ob, z = uA SB 3 (Int32.toNatClampNeg x1) (v2 ||| ((1 : Int32) <<< (x2 &&& 31))) := ⟨_, rfl⟩
  have hm := hm S4 e_S4
  have hw : wV D A s.heap ((oW cy aO (aB 0) e_O_images e_O_tape e_O_reader e_O_plan none e_O_season e_O_dates e_O_line e_O_evening e_O_choices SO) ++ ((bW cy aB (als 0) (atd 0) e_B_mentions e_B_claims S4) ++ ((lsW cy als Sls) ++ ((tW cy atd Std) ++ (lwW cy aLw SLw))))) H locs := by rw [e_S4]; exact hw
  refine lv_aload_n hx hb dX8_worthIfKnown_24 rfl (lv_at hl 1 rfl) ?_
  refine gF (k := 9) hc hw inX8 rfl 0 rfl (by decide) (gm 424 (by decide +kernel) rfl) rfl dX8_worthIfKnown_25 ?_
  refine lv_ifnonnullN hx hb dX8_worthIfKnown_28 ?_
  refine lv_aload_n hx hb dX8_worthIfKnown_31 rfl (lv_at hl 1 rfl) ?_
  refine nwO (ci := 3) (fs := [.null, .null, .null, .null, .null, .null, .int 0, .int 0, .int 0, .int 0, .null, .null, .null, .null, .null, .int 0, .int 0, .int 0]) hc hw inX3 tyX3_ok rfl (gm 303 (by decide +kernel) rfl) (gm 304 (by decide +kernel) rfl) (gm 131 (by decide +kernel) rfl) (fun j hj => by rcases (show j = 0 ∨ j = 1 ∨ j = 2 ∨ j = 3 ∨ j = 4 ∨ j = 5 ∨ j = 6 ∨ j = 7 ∨ j = 8 ∨ j = 9 ∨ j = 10 ∨ j = 11 ∨ j = 12 ∨ j = 13 ∨ j = 14 ∨ j = 15 ∨ j = 16 ∨ j = 17 by omega) with rfl | rfl | rfl | rfl | rfl | rfl | rfl | rfl | rfl | rfl | rfl | rfl | rfl | rfl | rfl | rfl | rfl | rfl <;> rfl) (by decide) (by decide) dX8_worthIfKnown_32 (fun q0 H hw => ?_)
  refine W.widen (k := 1) (n := 18) (by decide) (by decide) ?_
  refine lv_dup hx hb dX8_worthIfKnown_35 rfl ?_
  refine kIN_V (As := []) (rest := [.ref q0, .ref (aO 0)]) (wc := [(q0, .inr (3, [.null, .null, .null, .null, .null, .null, .int 0, .int 0, .int 0, .int 0, .null, .null, .null, .null, .null, .int 0, .int 0, .int 0]))]) (wr := ((oW cy aO (aB 0) e_O_images e_O_tape e_O_reader e_O_plan none e_O_season e_O_dates e_O_line e_O_evening e_O_choices SO) ++ ((bW cy aB (als 0) (atd 0) e_B_mentions e_B_claims S4) ++ ((lsW cy als Sls) ++ ((tW cy atd Std) ++ (lwW cy aLw SLw)))))) (isC := [19]) (isR := [0, 1, 2, 3, 4, 5, 6, 7, 8, 9, 10, 11, 12, 13, 14, 15, 16, 17, 18]) hc hw (c_X3_init) lk_X8_47 ⟨rfl, rfl, rfl, rfl, by decide⟩ ⟨by decide, by decide⟩ ⟨by decide, by decide⟩ hl.1 rfl (Nat.le_of_ble_eq_true rfl) rfl dX8_worthIfKnown_36 (fun ut H locs hq hw2 => ?_)
  have hq : ut 0 0 = q0 := hq
  clear hw
  subst hq
  refine W.widen (k := 14) (n := 4239) (by decide) (by decide) ?_
  have hw : wV D A s.heap (((oW cy aO (aB 0) e_O_images e_O_tape e_O_reader e_O_plan none e_O_season e_O_dates e_O_line e_O_evening e_O_choices SO) ++ ((bW cy aB (als 0) (atd 0) e_B_mentions e_B_claims S4) ++ ((lsW cy als Sls) ++ ((tW cy atd Std) ++ (lwW cy aLw SLw))))) ++ (pW cy (ut 0) (ut 1 0) i_X3 ++ jW cy (ut 1) i_X1)) H locs := hw2
  refine pFr (k := 9) hc hw inX8 tyX8_ok nmX8 rfl 0 rfl (by decide) (gm 424 (by decide +kernel) rfl) rfl rfl rfl (Nat.le_of_ble_eq_true rfl) dX8_worthIfKnown_39 (fun H locs hw => ?_)
  have hw : wV D A s.heap ((oW cy aO (aB 0) e_O_images e_O_tape e_O_reader e_O_plan (some ((ut 0) 0)) e_O_season e_O_dates e_O_line e_O_evening e_O_choices SO) ++ ((bW cy aB (als 0) (atd 0) e_B_mentions e_B_claims S4) ++ ((lsW cy als Sls) ++ ((tW cy atd Std) ++ ((lwW cy aLw SLw) ++ ((pW cy (ut 0) ((ut 1) 0) i_X3) ++ (jW cy (ut 1) i_X1))))))) H locs := hw
  have hm := hm ut
  refine lv_aload_n hx hb dX8_worthIfKnown_42 rfl (lv_at hl 1 rfl) ?_
  refine gF (k := 9) hc hw inX8 rfl 0 rfl (by decide) (gm 424 (by decide +kernel) rfl) rfl dX8_worthIfKnown_43 ?_
  refine nVN_V (As := []) (rest := []) (wc := (pW cy (ut 0) ((ut 1) 0) i_X3)) (wr := ((oW cy aO (aB 0) e_O_images e_O_tape e_O_reader e_O_plan (some ((ut 0) 0)) e_O_season e_O_dates e_O_line e_O_evening e_O_choices SO) ++ ((bW cy aB (als 0) (atd 0) e_B_mentions e_B_claims S4) ++ ((lsW cy als Sls) ++ ((tW cy atd Std) ++ ((lwW cy aLw SLw) ++ (jW cy (ut 1) i_X1))))))) (isC := [19, 20, 21, 22, 23, 24, 25, 26, 27, 28, 29]) (isR := [0, 1, 2, 3, 4, 5, 6, 7, 8, 9, 10, 11, 12, 13, 14, 15, 16, 17, 18, 30, 31, 32]) hc hw (c_X3_spoil hm) lk_X8_100 ⟨rfl, rfl, rfl, rfl, by decide⟩ rfl rfl ⟨by decide, by decide⟩ ⟨Nat.le_of_ble_eq_true rfl, Nat.le_of_ble_eq_true rfl⟩ hl.1 rfl (Nat.le_of_ble_eq_true rfl) rfl dX8_worthIfKnown_46 (fun S5 H locs hm hw => ?_)
  have hw : wV D A s.heap ((oW cy aO (aB 0) e_O_images e_O_tape e_O_reader e_O_plan (some ((ut 0) 0)) e_O_season e_O_dates e_O_line e_O_evening e_O_choices SO) ++ ((bW cy aB (als 0) (atd 0) e_B_mentions e_B_claims S4) ++ ((lsW cy als Sls) ++ ((tW cy atd Std) ++ ((lwW cy aLw SLw) ++ ((pW cy (ut 0) ((ut 1) 0) S5) ++ (jW cy (ut 1) i_X1))))))) H locs := hw.perm [0, 1, 2, 3, 4, 5, 6, 7, 8, 9, 10, 11, 12, 13, 14, 15, 16, 17, 18, 22, 23, 24, 25, 26, 27, 28, 29, 30, 31, 32, 19, 20, 21] rfl rfl
  refine lv_aload_n hx hb dX8_worthIfKnown_49 rfl (lv_at hl 1 rfl) ?_
  refine gF (k := 9) hc hw inX8 rfl 0 rfl (by decide) (gm 424 (by decide +kernel) rfl) rfl dX8_worthIfKnown_50 ?_
  refine lv_aload_n hx hb dX8_worthIfKnown_53 rfl (lv_at hl 1 rfl) ?_
  refine gF (k := 0) hc hw inX8 rfl 0 rfl (by decide) (gm 415 (by decide +kernel) rfl) rfl dX8_worthIfKnown_54 ?_
  refine nVN_V (As := [.ref (aB 0)]) (rest := []) (wc := ((pW cy (ut 0) ((ut 1) 0) S5) ++ ((jW cy (ut 1) i_X1) ++ ((bW cy aB (als 0) (atd 0) e_B_mentions e_B_claims S4) ++ ((lsW cy als Sls) ++ (lwW cy aLw SLw)))))) (wr := ((oW cy aO (aB 0) e_O_images e_O_tape e_O_reader e_O_plan (some ((ut 0) 0)) e_O_season e_O_dates e_O_line e_O_evening e_O_choices SO) ++ (tW cy atd Std))) (isC := [19, 20, 21, 22, 23, 24, 25, 26, 27, 28, 29, 30, 31, 32, 3, 4, 5, 6, 7, 8, 9, 14, 15, 16, 17, 18]) (isR := [0, 1, 2, 10, 11, 12, 13]) hc hw (c_X3_reckon hm) lk_X8_197 ⟨rfl, rfl, rfl, rfl, by decide⟩ rfl rfl ⟨by decide, by decide⟩ ⟨Nat.le_of_ble_eq_true rfl, Nat.le_of_ble_eq_true rfl⟩ hl.1 rfl (Nat.le_of_ble_eq_true rfl) rfl dX8_worthIfKnown_57 (fun u_8 H locs hm hw => ?_)
  obtain ⟨S7, S8⟩ := u_8
  have hw : wV D A s.heap ((oW cy aO (aB 0) e_O_images e_O_tape e_O_reader e_O_plan (some ((ut 0) 0)) e_O_season e_O_dates e_O_line e_O_evening e_O_choices SO) ++ ((bW cy aB (als 0) (atd 0) e_B_mentions e_B_claims S4) ++ ((lsW cy als Sls) ++ ((tW cy atd Std) ++ ((lwW cy aLw SLw) ++ ((pW cy (ut 0) ((ut 1) 0) S7) ++ (jW cy (ut 1) S8))))))) H locs := hw.perm [0, 1, 2, 21, 22, 23, 24, 25, 26, 27, 3, 4, 5, 6, 28, 29, 30, 31, 32, 7, 8, 9, 10, 11, 12, 13, 14, 15, 16, 17, 18, 19, 20] rfl rfl
  refine lv_aload_n hx hb dX8_worthIfKnown_60 rfl (lv_at hl 1 rfl) ?_
  refine gF (k := 9) hc hw inX8 rfl 0 rfl (by decide) (gm 424 (by decide +kernel) rfl) rfl dX8_worthIfKnown_61 ?_
  refine lv_aload_n hx hb dX8_worthIfKnown_64 rfl (lv_at hl 1 rfl) ?_
  refine gF (k := 0) hc hw inX8 rfl 0 rfl (by decide) (gm 415 (by decide +kernel) rfl) rfl dX8_worthIfKnown_65 ?_
  refine lv_iconst (v := 0) hx hb dX8_worthIfKnown_68 (by decide) ?_
  refine nVN_V (As := [.ref (aB 0), .int 0]) (rest := []) (wc := ((pW cy (ut 0) ((ut 1) 0) S7) ++ ((bW cy aB (als 0) (atd 0) e_B_mentions e_B_claims S4) ++ (tW cy atd Std)))) (wr := ((oW cy aO (aB 0) e_O_images e_O_tape e_O_reader e_O_plan (some ((ut 0) 0)) e_O_season e_O_dates e_O_line e_O_evening e_O_choices SO) ++ ((lsW cy als Sls) ++ ((lwW cy aLw SLw) ++ (jW cy (ut 1) S8))))) (isC := [19, 20, 21, 22, 23, 24, 25, 26, 27, 28, 29, 3, 4, 5, 6, 7, 8, 10, 11, 12, 13]) (isR := [0, 1, 2, 9, 14, 15, 16, 17, 18, 30, 31, 32]) hc hw (c_X3_choose hm) lk_X8_204 ⟨rfl, rfl, rfl, rfl, by decide⟩ rfl rfl ⟨by decide, by decide⟩ ⟨Nat.le_of_ble_eq_true rfl, Nat.le_of_ble_eq_true rfl⟩ hl.1 rfl (Nat.le_of_ble_eq_true rfl) rfl dX8_worthIfKnown_69 (fun S10 H locs hm hw => ?_)
  have hw : wV D A s.heap ((oW cy aO (aB 0) e_O_images e_O_tape e_O_reader e_O_plan (some ((ut 0) 0)) e_O_season e_O_dates e_O_line e_O_evening e_O_choices SO) ++ ((bW cy aB (als 0) (atd 0) e_B_mentions e_B_claims S4) ++ ((lsW cy als Sls) ++ ((tW cy atd Std) ++ ((lwW cy aLw SLw) ++ ((pW cy (ut 0) ((ut 1) 0) S10) ++ (jW cy (ut 1) S8))))))) H locs := hw.perm [0, 1, 2, 23, 24, 25, 26, 27, 28, 3, 29, 30, 31, 32, 4, 5, 6, 7, 8, 12, 13, 14, 15, 16, 17, 18, 19, 20, 21, 22, 9, 10, 11] rfl rfl
  refine lv_aload_n hx hb dX8_worthIfKnown_72 rfl (lv_at hl 1 rfl) ?_
  refine gF (k := 0) hc hw inX8 rfl 0 rfl (by decide) (gm 415 (by decide +kernel) rfl) rfl dX8_worthIfKnown_73 ?_
  refine gN (k := 3) (host := "OlderTale") hc hw inX6 rfl 3 rfl (by decide) (nmm 210 (by decide +kernel)) rfl dX8_worthIfKnown_76 ?_
  refine lv_iload_n hx hb dX8_worthIfKnown_79 rfl (lv_at hl 2 rfl) ?_
  refine lv_iload_n hx hb dX8_worthIfKnown_80 rfl (lv_at hl 0 rfl) ?_
  obtain ⟨c12, hm⟩ := hm
  refine sI hc hw 7 rfl c12 rfl dX8_worthIfKnown_81 (fun H locs hw => ?_)
  obtain ⟨S13, e_S13⟩ : ∃ z : Ob, z = uA S4 3 (Int32.toNatClampNeg x1) v2 := ⟨_, rfl⟩
  have hm := hm S13 e_S13
  have hw : wV D A s.heap ((oW cy aO (aB 0) e_O_images e_O_tape e_O_reader e_O_plan (some ((ut 0) 0)) e_O_season e_O_dates e_O_line e_O_evening e_O_choices SO) ++ ((bW cy aB (als 0) (atd 0) e_B_mentions e_B_claims S13) ++ ((lsW cy als Sls) ++ ((tW cy atd Std) ++ ((lwW cy aLw SLw) ++ ((pW cy (ut 0) ((ut 1) 0) S10) ++ (jW cy (ut 1) S8))))))) H locs := by rw [e_S13]; exact hw
  refine lv_aload_n hx hb dX8_worthIfKnown_82 rfl (lv_at hl 1 rfl) ?_
  refine gF (k := 9) hc hw inX8 rfl 0 rfl (by decide) (gm 424 (by decide +kernel) rfl) rfl dX8_worthIfKnown_83 ?_
  refine gN (k := 10) (host := "OlderTale") hc hw inX3 rfl 19 rfl (by decide) (nmm 341 (by decide +kernel)) rfl dX8_worthIfKnown_86 ?_
  refine lv_aload_n hx hb dX8_worthIfKnown_89 rfl (lv_at hl 1 rfl) ?_
  refine gF (k := 9) hc hw inX8 rfl 0 rfl (by decide) (gm 424 (by decide +kernel) rfl) rfl dX8_worthIfKnown_90 ?_
  refine gN (k := 15) (host := "OlderTale") hc hw inX3 rfl 19 rfl (by decide) (nmm 348 (by decide +kernel)) rfl dX8_worthIfKnown_93 ?_
  obtain ⟨c14, hm⟩ := hm
  refine aI hc hw 25 rfl c14 rfl dX8_worthIfKnown_96 ?_
  refine W.widen (k := 14) (n := 4239) (by decide) (by decide) ?_
  exact retI (u := (ut, S13, S10, S8)) hc hw hm dX8_worthIfKnown_97
set_option maxHeartbeats 4000000 in
set_option maxRecDepth 100000 in
theorem c_X8_worthIfKnownNA {l : Launch} {D : va_G} {cy : Nat → ClassId} {aO : Nat → Nat} {aB : Nat → Nat} {als : Nat → Nat} {atd : Nat → Nat} {e_O_images : Nat} {e_O_tape : Nat} {e_O_reader : Nat} {e_O_plan : Nat} {e_O_season : Option Nat} {e_O_dates : Nat} {e_O_line : Nat} {e_O_evening : Nat} {e_O_choices : Nat} {e_B_mentions : Nat} {e_B_claims : Nat} {SO : Ob} {SB : Ob} {Sls : (Nat → Option Nat)} {Std : Ob} {x1 : Int32} {x2 : Int32} {Q : Int32 → (Nat → Nat → Nat) → Ob → Ob → Ob → Prop} (hm : w_X8_worthIfKnownNA SO SB Sls Std x1 x2 Q) : CtI l yX8_worthIfKnown cX8_worthIfKnown 4 (some .int) (rmA 10 14 4239) D cy [.ref (aO 0), .int x1, .int x2] ((oW cy aO (aB 0) e_O_images e_O_tape e_O_reader e_O_plan none e_O_season e_O_dates e_O_line e_O_evening e_O_choices SO) ++ ((bW cy aB (als 0) (atd 0) e_B_mentions e_B_claims SB) ++ ((lsW cy als Sls) ++ (tW cy atd Std)))) (fun u : (Nat → Nat → Nat) × Ob × Ob × Ob => ((oW cy aO (aB 0) e_O_images e_O_tape e_O_reader e_O_plan (some (u.1 0 0)) e_O_season e_O_dates e_O_line e_O_evening e_O_choices SO) ++ ((bW cy aB (als 0) (atd 0) e_B_mentions e_B_claims u.2.1) ++ ((lsW cy als Sls) ++ ((tW cy atd Std) ++ ((pW cy (u.1 0) (u.1 1 0) u.2.2.1) ++ (jW cy (u.1 1) u.2.2.2))))))) (fun (r : Int32) (u : (Nat → Nat → Nat) × Ob × Ob × Ob) => Q r u.1 u.2.1 u.2.2.1 u.2.2.2) := by
  refine CtI.ofW (by decide) (Nat.le_of_ble_eq_true rfl) ?_
  intro p e s m args below meth c A ls hc hnm hw hl
  have hx := hc.1.1
  have hb := hc.1.2.1
  have hown := hc.1.2.2.2.1
  have hts := hc.1.2.2.2.2
  have hl : lv_has ls 4 [(0, .ref (aO 0)), (1, .int x1), (2, .int x2)] := hl
  obtain ⟨H, hH⟩ : ∃ z, z = s.heap := ⟨_, rfl⟩
  obtain ⟨locs, hLc⟩ : ∃ z : List Loc, z = [] := ⟨_, rfl⟩
  have hw : wV D A s.heap ((oW cy aO (aB 0) e_O_images e_O_tape e_O_reader e_O_plan none e_O_season e_O_dates e_O_line e_O_evening e_O_choices SO) ++ ((bW cy aB (als 0) (atd 0) e_B_mentions e_B_claims SB) ++ ((lsW cy als Sls) ++ (tW cy atd Std)))) H locs := by rw [hH, hLc]; exact hw
  have hgo : W p l e (rmA 10 14 4239) s m args below meth c H locs 0 0 (MQ below (eI D cy A (fun u : (Nat → Nat → Nat) × Ob × Ob × Ob => ((oW cy aO (aB 0) e_O_images e_O_tape e_O_reader e_O_plan (some (u.1 0 0)) e_O_season e_O_dates e_O_line e_O_evening e_O_choices SO) ++ ((bW cy aB (als 0) (atd 0) e_B_mentions e_B_claims u.2.1) ++ ((lsW cy als Sls) ++ ((tW cy atd Std) ++ ((pW cy (u.1 0) (u.1 1 0) u.2.2.1) ++ (jW cy (u.1 1) u.2.2.2))))))) (fun (r : Int32) (u : (Nat → Nat → Nat) × Ob × Ob × Ob) => Q r u.1 u.2.1 u.2.2.1 u.2.2.2)) args s (rmA 10 14 4239).cells (rmA 10 14 4239).slots A) (F0 m 0 ls []) := ?hgo
  · rw [hH, hLc] at hgo; exact hgo
  refine lv_aload_n hx hb dX8_worthIfKnown_0 rfl (lv_at hl 0 rfl) ?_
  refine gF (k := 0) hc hw inX8 rfl 0 rfl (by decide) (gm 415 (by decide +kernel) rfl) rfl dX8_worthIfKnown_1 ?_
  refine gN (k := 3) (host := "OlderTale") hc hw inX6 rfl 3 rfl (by decide) (nmm 210 (by decide +kernel)) rfl dX8_worthIfKnown_4 ?_
  refine lv_iload_n hx hb dX8_worthIfKnown_7 rfl (lv_at hl 1 rfl) ?_
  obtain ⟨c1, hm⟩ := hm
  refine aI hc hw 7 rfl c1 rfl dX8_worthIfKnown_8 ?_
  refine lv_topi (fun v2 e_v2 => ?_)
  have hm := hm v2 e_v2
  refine lv_istore_n (lv' := [(3, .int v2), (0, .ref (aO 0)), (1, .int x1), (2, .int x2)]) hx hb dX8_worthIfKnown_9 rfl hl (by decide) rfl (fun ls hl => ?_)
  refine lv_aload_n hx hb dX8_worthIfKnown_10 rfl (lv_at hl 1 rfl) ?_
  refine gF (k := 0) hc hw inX8 rfl 0 rfl (by decide) (gm 415 (by decide +kernel) rfl) rfl dX8_worthIfKnown_11 ?_
  refine gN (k := 3) (host := "OlderTale") hc hw inX6 rfl 3 rfl (by decide) (nmm 210 (by decide +kernel)) rfl dX8_worthIfKnown_14 ?_
  refine lv_iload_n hx hb dX8_worthIfKnown_17 rfl (lv_at hl 2 rfl) ?_
  refine lv_iload_n hx hb dX8_worthIfKnown_18 rfl (lv_at hl 0 rfl) ?_
  refine lv_iconst (v := 1) hx hb dX8_worthIfKnown_19 (by decide) ?_
  refine lv_iload_n hx hb dX8_worthIfKnown_20 rfl (lv_at hl 3 rfl) ?_
  refine lv_ishl hx hb dX8_worthIfKnown_21 ?_
  refine lv_ior hx hb dX8_worthIfKnown_22 ?_
  obtain ⟨c3, hm⟩ := hm
  refine sI hc hw 7 rfl c3 rfl dX8_worthIfKnown_23 (fun H locs hw => ?_)
  obtain ⟨S4, e_S4⟩ : ∃ z : Ob, z = uA SB 3 (Int32.toNatClampNeg x1) (v2 ||| ((1 : Int32) <<< (x2 &&& 31))) := ⟨_, rfl⟩
  have hm := hm S4 e_S4
  have hw : wV D A s.heap ((oW cy aO (aB 0) e_O_images e_O_tape e_O_reader e_O_plan none e_O_season e_O_dates e_O_line e_O_evening e_O_choices SO) ++ ((bW cy aB (als 0) (atd 0) e_B_mentions e_B_claims S4) ++ ((lsW cy als Sls) ++ (tW cy atd Std)))) H locs := by rw [e_S4]; exact hw
  refine lv_aload_n hx hb dX8_worthIfKnown_24 rfl (lv_at hl 1 rfl) ?_
  refine gF (k := 9) hc hw inX8 rfl 0 rfl (by decide) (gm 424 (by decide +kernel) rfl) rfl dX8_worthIfKnown_25 ?_
  refine lv_ifnonnullN hx hb dX8_worthIfKnown_28 ?_
  refine lv_aload_n hx hb dX8_worthIfKnown_31 rfl (lv_at hl 1 rfl) ?_
  refine nwO (ci := 3) (fs := [.null, .null, .null, .null, .null, .null, .int 0, .int 0, .int 0, .int 0, .null, .null, .null, .null, .null, .int 0, .int 0, .int 0]) hc hw inX3 tyX3_ok rfl (gm 303 (by decide +kernel) rfl) (gm 304 (by decide +kernel) rfl) (gm 131 (by decide +kernel) rfl) (fun j hj => by rcases (show j = 0 ∨ j = 1 ∨ j = 2 ∨ j = 3 ∨ j = 4 ∨ j = 5 ∨ j = 6 ∨ j = 7 ∨ j = 8 ∨ j = 9 ∨ j = 10 ∨ j = 11 ∨ j = 12 ∨ j = 13 ∨ j = 14 ∨ j = 15 ∨ j = 16 ∨ j = 17 by omega) with rfl | rfl | rfl | rfl | rfl | rfl | rfl | rfl | rfl | rfl | rfl | rfl | rfl | rfl | rfl | rfl | rfl | rfl <;> rfl) (by decide) (by decide) dX8_worthIfKnown_32 (fun q0 H hw => ?_)
  refine W.widen (k := 1) (n := 18) (by decide) (by decide) ?_
  refine lv_dup hx hb dX8_worthIfKnown_35 rfl ?_
  refine kIN_V (As := []) (rest := [.ref q0, .ref (aO 0)]) (wc := [(q0, .inr (3, [.null, .null, .null, .null, .null, .null, .int 0, .int 0, .int 0, .int 0, .null, .null, .null, .null, .null, .int 0, .int 0, .int 0]))]) (wr := ((oW cy aO (aB 0) e_O_images e_O_tape e_O_reader e_O_plan none e_O_season e_O_dates e_O_line e_O_evening e_O_choices SO) ++ ((bW cy aB (als 0) (atd 0) e_B_mentions e_B_claims S4) ++ ((lsW cy als Sls) ++ (tW cy atd Std))))) (isC := [14]) (isR := [0, 1, 2, 3, 4, 5, 6, 7, 8, 9, 10, 11, 12, 13]) hc hw (c_X3_init) lk_X8_47 ⟨rfl, rfl, rfl, rfl, by decide⟩ ⟨by decide, by decide⟩ ⟨by decide, by decide⟩ hl.1 rfl (Nat.le_of_ble_eq_true rfl) rfl dX8_worthIfKnown_36 (fun ut H locs hq hw2 => ?_)
  have hq : ut 0 0 = q0 := hq
  clear hw
  subst hq
  refine W.widen (k := 14) (n := 4239) (by decide) (by decide) ?_
  have hw : wV D A s.heap (((oW cy aO (aB 0) e_O_images e_O_tape e_O_reader e_O_plan none e_O_season e_O_dates e_O_line e_O_evening e_O_choices SO) ++ ((bW cy aB (als 0) (atd 0) e_B_mentions e_B_claims S4) ++ ((lsW cy als Sls) ++ (tW cy atd Std)))) ++ (pW cy (ut 0) (ut 1 0) i_X3 ++ jW cy (ut 1) i_X1)) H locs := hw2
  refine pFr (k := 9) hc hw inX8 tyX8_ok nmX8 rfl 0 rfl (by decide) (gm 424 (by decide +kernel) rfl) rfl rfl rfl (Nat.le_of_ble_eq_true rfl) dX8_worthIfKnown_39 (fun H locs hw => ?_)
  have hw : wV D A s.heap ((oW cy aO (aB 0) e_O_images e_O_tape e_O_reader e_O_plan (some ((ut 0) 0)) e_O_season e_O_dates e_O_line e_O_evening e_O_choices SO) ++ ((bW cy aB (als 0) (atd 0) e_B_mentions e_B_claims S4) ++ ((lsW cy als Sls) ++ ((tW cy atd Std) ++ ((pW cy (ut 0) ((ut 1) 0) i_X3) ++ (jW cy (ut 1) i_X1)))))) H locs := hw
  have hm := hm ut
  refine lv_aload_n hx hb dX8_worthIfKnown_42 rfl (lv_at hl 1 rfl) ?_
  refine gF (k := 9) hc hw inX8 rfl 0 rfl (by decide) (gm 424 (by decide +kernel) rfl) rfl dX8_worthIfKnown_43 ?_
  refine nVN_V (As := []) (rest := []) (wc := (pW cy (ut 0) ((ut 1) 0) i_X3)) (wr := ((oW cy aO (aB 0) e_O_images e_O_tape e_O_reader e_O_plan (some ((ut 0) 0)) e_O_season e_O_dates e_O_line e_O_evening e_O_choices SO) ++ ((bW cy aB (als 0) (atd 0) e_B_mentions e_B_claims S4) ++ ((lsW cy als Sls) ++ ((tW cy atd Std) ++ (jW cy (ut 1) i_X1)))))) (isC := [14, 15, 16, 17, 18, 19, 20, 21, 22, 23, 24]) (isR := [0, 1, 2, 3, 4, 5, 6, 7, 8, 9, 10, 11, 12, 13, 25, 26, 27]) hc hw (c_X3_spoil hm) lk_X8_100 ⟨rfl, rfl, rfl, rfl, by decide⟩ rfl rfl ⟨by decide, by decide⟩ ⟨Nat.le_of_ble_eq_true rfl, Nat.le_of_ble_eq_true rfl⟩ hl.1 rfl (Nat.le_of_ble_eq_true rfl) rfl dX8_worthIfKnown_46 (fun S5 H locs hm hw => ?_)
  have hw : wV D A s.heap ((oW cy aO (aB 0) e_O_images e_O_tape e_O_reader e_O_plan (some ((ut 0) 0)) e_O_season e_O_dates e_O_line e_O_evening e_O_choices SO) ++ ((bW cy aB (als 0) (atd 0) e_B_mentions e_B_claims S4) ++ ((lsW cy als Sls) ++ ((tW cy atd Std) ++ ((pW cy (ut 0) ((ut 1) 0) S5) ++ (jW cy (ut 1) i_X1)))))) H locs := hw.perm [0, 1, 2, 3, 4, 5, 6, 7, 8, 9, 10, 11, 12, 13, 17, 18, 19, 20, 21, 22, 23, 24, 25, 26, 27, 14, 15, 16] rfl rfl
  refine lv_aload_n hx hb dX8_worthIfKnown_49 rfl (lv_at hl 1 rfl) ?_
  refine gF (k := 9) hc hw inX8 rfl 0 rfl (by decide) (gm 424 (by decide +kernel) rfl) rfl dX8_worthIfKnown_50 ?_
  refine lv_aload_n hx hb dX8_worthIfKnown_53 rfl (lv_at hl 1 rfl) ?_
  refine gF (k := 0) hc hw inX8 rfl 0 rfl (by decide) (gm 415 (by decide +kernel) rfl) rfl dX8_worthIfKnown_54 ?_
  refine nVN_V (As := [.ref (aB 0)]) (rest := []) (wc := ((pW cy (ut 0) ((ut 1) 0) S5) ++ ((jW cy (ut 1) i_X1) ++ ((bW cy aB (als 0) (atd 0) e_B_mentions e_B_claims S4) ++ (lsW cy als Sls))))) (wr := ((oW cy aO (aB 0) e_O_images e_O_tape e_O_reader e_O_plan (some ((ut 0) 0)) e_O_season e_O_dates e_O_line e_O_evening e_O_choices SO) ++ (tW cy atd Std))) (isC := [14, 15, 16, 17, 18, 19, 20, 21, 22, 23, 24, 25, 26, 27, 3, 4, 5, 6, 7, 8, 9]) (isR := [0, 1, 2, 10, 11, 12, 13]) hc hw (c_X3_reckonN hm) lk_X8_197 ⟨rfl, rfl, rfl, rfl, by decide⟩ rfl rfl ⟨by decide, by decide⟩ ⟨Nat.le_of_ble_eq_true rfl, Nat.le_of_ble_eq_true rfl⟩ hl.1 rfl (Nat.le_of_ble_eq_true rfl) rfl dX8_worthIfKnown_57 (fun u_8 H locs hm hw => ?_)
  obtain ⟨S7, S8⟩ := u_8
  have hw : wV D A s.heap ((oW cy aO (aB 0) e_O_images e_O_tape e_O_reader e_O_plan (some ((ut 0) 0)) e_O_season e_O_dates e_O_line e_O_evening e_O_choices SO) ++ ((bW cy aB (als 0) (atd 0) e_B_mentions e_B_claims S4) ++ ((lsW cy als Sls) ++ ((tW cy atd Std) ++ ((pW cy (ut 0) ((ut 1) 0) S7) ++ (jW cy (ut 1) S8)))))) H locs := hw.perm [0, 1, 2, 21, 22, 23, 24, 25, 26, 27, 3, 4, 5, 6, 7, 8, 9, 10, 11, 12, 13, 14, 15, 16, 17, 18, 19, 20] rfl rfl
  refine lv_aload_n hx hb dX8_worthIfKnown_60 rfl (lv_at hl 1 rfl) ?_
  refine gF (k := 9) hc hw inX8 rfl 0 rfl (by decide) (gm 424 (by decide +kernel) rfl) rfl dX8_worthIfKnown_61 ?_
  refine lv_aload_n hx hb dX8_worthIfKnown_64 rfl (lv_at hl 1 rfl) ?_
  refine gF (k := 0) hc hw inX8 rfl 0 rfl (by decide) (gm 415 (by decide +kernel) rfl) rfl dX8_worthIfKnown_65 ?_
  refine lv_iconst (v := 0) hx hb dX8_worthIfKnown_68 (by decide) ?_
  refine nVN_V (As := [.ref (aB 0), .int 0]) (rest := []) (wc := ((pW cy (ut 0) ((ut 1) 0) S7) ++ ((bW cy aB (als 0) (atd 0) e_B_mentions e_B_claims S4) ++ (tW cy atd Std)))) (wr := ((oW cy aO (aB 0) e_O_images e_O_tape e_O_reader e_O_plan (some ((ut 0) 0)) e_O_season e_O_dates e_O_line e_O_evening e_O_choices SO) ++ ((lsW cy als Sls) ++ (jW cy (ut 1) S8)))) (isC := [14, 15, 16, 17, 18, 19, 20, 21, 22, 23, 24, 3, 4, 5, 6, 7, 8, 10, 11, 12, 13]) (isR := [0, 1, 2, 9, 25, 26, 27]) hc hw (c_X3_choose hm) lk_X8_204 ⟨rfl, rfl, rfl, rfl, by decide⟩ rfl rfl ⟨by decide, by decide⟩ ⟨Nat.le_of_ble_eq_true rfl, Nat.le_of_ble_eq_true rfl⟩ hl.1 rfl (Nat.le_of_ble_eq_true rfl) rfl dX8_worthIfKnown_69 (fun S10 H locs hm hw => ?_)
  have hw : wV D A s.heap ((oW cy aO (aB 0) e_O_images e_O_tape e_O_reader e_O_plan (some ((ut 0) 0)) e_O_season e_O_dates e_O_line e_O_evening e_O_choices SO) ++ ((bW cy aB (als 0) (atd 0) e_B_mentions e_B_claims S4) ++ ((lsW cy als Sls) ++ ((tW cy atd Std) ++ ((pW cy (ut 0) ((ut 1) 0) S10) ++ (jW cy (ut 1) S8)))))) H locs := hw.perm [0, 1, 2, 18, 19, 20, 21, 22, 23, 3, 24, 25, 26, 27, 7, 8, 9, 10, 11, 12, 13, 14, 15, 16, 17, 4, 5, 6] rfl rfl
  refine lv_aload_n hx hb dX8_worthIfKnown_72 rfl (lv_at hl 1 rfl) ?_
  refine gF (k := 0) hc hw inX8 rfl 0 rfl (by decide) (gm 415 (by decide +kernel) rfl) rfl dX8_worthIfKnown_73 ?_
  refine gN (k := 3) (host := "OlderTale") hc hw inX6 rfl 3 rfl (by decide) (nmm 210 (by decide +kernel)) rfl dX8_worthIfKnown_76 ?_
  refine lv_iload_n hx hb dX8_worthIfKnown_79 rfl (lv_at hl 2 rfl) ?_
  refine lv_iload_n hx hb dX8_worthIfKnown_80 rfl (lv_at hl 0 rfl) ?_
  obtain ⟨c12, hm⟩ := hm
  refine sI hc hw 7 rfl c12 rfl dX8_worthIfKnown_81 (fun H locs hw => ?_)
  obtain ⟨S13, e_S13⟩ : ∃ z : Ob, z = uA S4 3 (Int32.toNatClampNeg x1) v2 := ⟨_, rfl⟩
  have hm := hm S13 e_S13
  have hw : wV D A s.heap ((oW cy aO (aB 0) e_O_images e_O_tape e_O_reader e_O_plan (some ((ut 0) 0)) e_O_season e_O_dates e_O_line e_O_evening e_O_choices SO) ++ ((bW cy aB (als 0) (atd 0) e_B_mentions e_B_claims S13) ++ ((lsW cy als Sls) ++ ((tW cy atd Std) ++ ((pW cy (ut 0) ((ut 1) 0) S10) ++ (jW cy (ut 1) S8)))))) H locs := by rw [e_S13]; exact hw
  refine lv_aload_n hx hb dX8_worthIfKnown_82 rfl (lv_at hl 1 rfl) ?_
  refine gF (k := 9) hc hw inX8 rfl 0 rfl (by decide) (gm 424 (by decide +kernel) rfl) rfl dX8_worthIfKnown_83 ?_
  refine gN (k := 10) (host := "OlderTale") hc hw inX3 rfl 14 rfl (by decide) (nmm 341 (by decide +kernel)) rfl dX8_worthIfKnown_86 ?_
  refine lv_aload_n hx hb dX8_worthIfKnown_89 rfl (lv_at hl 1 rfl) ?_
  refine gF (k := 9) hc hw inX8 rfl 0 rfl (by decide) (gm 424 (by decide +kernel) rfl) rfl dX8_worthIfKnown_90 ?_
  refine gN (k := 15) (host := "OlderTale") hc hw inX3 rfl 14 rfl (by decide) (nmm 348 (by decide +kernel)) rfl dX8_worthIfKnown_93 ?_
  obtain ⟨c14, hm⟩ := hm
  refine aI hc hw 20 rfl c14 rfl dX8_worthIfKnown_96 ?_
  refine W.widen (k := 14) (n := 4239) (by decide) (by decide) ?_
  exact retI (u := (ut, S13, S10, S8)) hc hw hm dX8_worthIfKnown_97
set_option maxHeartbeats 4000000 in
set_option maxRecDepth 100000 in
theorem c_X8_learn {l : Launch} {D : va_G} {cy : Nat → ClassId} {aO : Nat → Nat} {aB : Nat → Nat} {als : Nat → Nat} {atd : Nat → Nat} {aPt : Nat → Nat} {aJt : Nat → Nat} {aLw : Nat → Nat} {e_O_images : Nat} {e_O_tape : Nat} {e_O_reader : Nat} {e_O_plan : Nat} {e_O_season : Option Nat} {e_O_dates : Nat} {e_O_line : Nat} {e_O_evening : Nat} {e_O_choices : Nat} {e_B_mentions : Nat} {e_B_claims : Nat} {SO : Ob} {SB : Ob} {Sls : (Nat → Option Nat)} {Std : Ob} {SPt : Ob} {SJt : Ob} {SLw : Lw} {x1 : Int32} {x2 : Int32} {Q : Int32 → Ob → Ob → Ob → Prop} (hm : w_X8_learn aLw SO SB Sls Std SPt SJt SLw x1 x2 Q) : CtI l yX8_learn cX8_learn 7 (some .int) (rmN 7) D cy [.ref (aO 0), .int x1, .int x2] ((oW cy aO (aB 0) e_O_images e_O_tape e_O_reader e_O_plan (some (aPt 0)) e_O_season e_O_dates e_O_line e_O_evening e_O_choices SO) ++ ((bW cy aB (als 0) (atd 0) e_B_mentions e_B_claims SB) ++ ((lsW cy als Sls) ++ ((tW cy atd Std) ++ ((pW cy aPt (aJt 0) SPt) ++ ((jW cy aJt SJt) ++ (lwW cy aLw SLw))))))) (fun u : Ob × Ob × Ob => ((oW cy aO (aB 0) e_O_images e_O_tape e_O_reader e_O_plan (some (aPt 0)) e_O_season e_O_dates e_O_line e_O_evening e_O_choices SO) ++ ((bW cy aB (als 0) (atd 0) e_B_mentions e_B_claims u.1) ++ ((lsW cy als Sls) ++ ((tW cy atd Std) ++ ((pW cy aPt (aJt 0) u.2.1) ++ ((jW cy aJt u.2.2) ++ (lwW cy aLw SLw)))))))) (fun (r : Int32) (u : Ob × Ob × Ob) => Q r u.1 u.2.1 u.2.2) := by
  refine CtI.ofW (by decide) (Nat.le_of_ble_eq_true rfl) ?_
  intro p e s m args below meth c A ls hc hnm hw hl
  have hx := hc.1.1
  have hb := hc.1.2.1
  have hown := hc.1.2.2.2.1
  have hts := hc.1.2.2.2.2
  have hl : lv_has ls 7 [(0, .ref (aO 0)), (1, .int x1), (2, .int x2)] := hl
  obtain ⟨H, hH⟩ : ∃ z, z = s.heap := ⟨_, rfl⟩
  obtain ⟨locs, hLc⟩ : ∃ z : List Loc, z = [] := ⟨_, rfl⟩
  have hw : wV D A s.heap ((oW cy aO (aB 0) e_O_images e_O_tape e_O_reader e_O_plan (some (aPt 0)) e_O_season e_O_dates e_O_line e_O_evening e_O_choices SO) ++ ((bW cy aB (als 0) (atd 0) e_B_mentions e_B_claims SB) ++ ((lsW cy als Sls) ++ ((tW cy atd Std) ++ ((pW cy aPt (aJt 0) SPt) ++ ((jW cy aJt SJt) ++ (lwW cy aLw SLw))))))) H locs := by rw [hH, hLc]; exact hw
  have hgo : W p l e (rmN 7) s m args below meth c H locs 0 0 (MQ below (eI D cy A (fun u : Ob × Ob × Ob => ((oW cy aO (aB 0) e_O_images e_O_tape e_O_reader e_O_plan (some (aPt 0)) e_O_season e_O_dates e_O_line e_O_evening e_O_choices SO) ++ ((bW cy aB (als 0) (atd 0) e_B_mentions e_B_claims u.1) ++ ((lsW cy als Sls) ++ ((tW cy atd Std) ++ ((pW cy aPt (aJt 0) u.2.1) ++ ((jW cy aJt u.2.2) ++ (lwW cy aLw SLw)))))))) (fun (r : Int32) (u : Ob × Ob × Ob) => Q r u.1 u.2.1 u.2.2)) args s (rmN 7).cells (rmN 7).slots A) (F0 m 0 ls []) := ?hgo
  · rw [hH, hLc] at hgo; exact hgo
  refine lv_aload_n hx hb dX8_learn_0 rfl (lv_at hl 0 rfl) ?_
  refine gF (k := 0) hc hw inX8 rfl 0 rfl (by decide) (gm 415 (by decide +kernel) rfl) rfl dX8_learn_1 ?_
  refine lv_iload_n hx hb dX8_learn_4 rfl (lv_at hl 1 rfl) ?_
  refine nVN_I (As := [.int x1]) (rest := []) (wc := (bW cy aB (als 0) (atd 0) e_B_mentions e_B_claims SB)) (wr := ((oW cy aO (aB 0) e_O_images e_O_tape e_O_reader e_O_plan (some (aPt 0)) e_O_season e_O_dates e_O_line e_O_evening e_O_choices SO) ++ ((lsW cy als Sls) ++ ((tW cy atd Std) ++ ((pW cy aPt (aJt 0) SPt) ++ ((jW cy aJt SJt) ++ (lwW cy aLw SLw))))))) (isC := [3, 4, 5, 6, 7, 8]) (isR := [0, 1, 2, 9, 10, 11, 12, 13, 14, 15, 16, 17, 18, 19, 20, 21, 22, 23, 24, 25, 26, 27, 28, 29, 30, 31, 32]) hc hw (c_X6_seats hm) lk_X8_134 ⟨rfl, rfl, rfl, rfl, by decide⟩ rfl rfl ⟨Nat.le_of_ble_eq_true rfl, Nat.le_of_ble_eq_true rfl⟩ ⟨Nat.le_of_ble_eq_true rfl, Nat.le_of_ble_eq_true rfl⟩ hl.1 rfl (Nat.le_of_ble_eq_true rfl) rfl dX8_learn_5 (fun r1 _ H locs hm hw => ?_)
  have hw : wV D A s.heap ((oW cy aO (aB 0) e_O_images e_O_tape e_O_reader e_O_plan (some (aPt 0)) e_O_season e_O_dates e_O_line e_O_evening e_O_choices SO) ++ ((bW cy aB (als 0) (atd 0) e_B_mentions e_B_claims SB) ++ ((lsW cy als Sls) ++ ((tW cy atd Std) ++ ((pW cy aPt (aJt 0) SPt) ++ ((jW cy aJt SJt) ++ (lwW cy aLw SLw))))))) H locs := hw.perm [0, 1, 2, 27, 28, 29, 30, 31, 32, 3, 4, 5, 6, 7, 8, 9, 10, 11, 12, 13, 14, 15, 16, 17, 18, 19, 20, 21, 22, 23, 24, 25, 26] rfl rfl
  refine lv_if_eq (tgt := 20) hx hb dX8_learn_8 (by decide) (fun c25 => ?_) (fun c25 => ?_)
  · have hm := hm.1 c25
    refine lv_iconst (v := (-1)) hx hb dX8_learn_20 (by decide) ?_
    exact retI (u := (SB, SPt, SJt)) hc hw hm dX8_learn_21
  · have hm := hm.2 c25
    refine lv_iload_n hx hb dX8_learn_11 rfl (lv_at hl 2 rfl) ?_
    refine lv_if_lt (tgt := 20) hx hb dX8_learn_12 (by decide) (fun c24 => ?_) (fun c24 => ?_)
    · have hm := hm.1 c24
      refine lv_iconst (v := (-1)) hx hb dX8_learn_20 (by decide) ?_
      exact retI (u := (SB, SPt, SJt)) hc hw hm dX8_learn_21
    · have hm := hm.2 c24
      refine lv_iload_n hx hb dX8_learn_15 rfl (lv_at hl 2 rfl) ?_
      refine lv_iconst (v := 1) hx hb dX8_learn_16 (by decide) ?_
      refine lv_icmp_le (tgt := 22) hx hb dX8_learn_17 (by decide) (fun c23 => ?_) (fun c23 => ?_)
      · have hm := hm.1 c23
        refine lv_iconst (v := (-1)) hx hb dX8_learn_22 (by decide) ?_
        refine lv_istore_n (lv' := [(3, .int (-1)), (0, .ref (aO 0)), (1, .int x1), (2, .int x2)]) hx hb dX8_learn_23 rfl hl (by decide) rfl (fun ls hl => ?_)
        refine lv_iconst (v := (-1)) hx hb dX8_learn_24 (by decide) ?_
        refine lv_istore (lv' := [(4, .int (-1)), (3, .int (-1)), (0, .ref (aO 0)), (1, .int x1), (2, .int x2)]) hx hb dX8_learn_25 hl (by decide) rfl (fun ls hl => ?_)
        refine lv_iconst (v := 0) hx hb dX8_learn_27 (by decide) ?_
        refine lv_istore (lv' := [(5, .int 0), (4, .int (-1)), (3, .int (-1)), (0, .ref (aO 0)), (1, .int x1), (2, .int x2)]) hx hb dX8_learn_28 hl (by decide) rfl (fun ls hl => ?_)
        refine wl6_ind (G := fun (x5_3 : Int32) (x4_4 : Int32) (x3_5 : Int32) (S6 : Ob) (S7 : Ob) (S8 : Ob) => ∀ (H : Heap) (locs : List Loc) (ls : Array Slot), wV D A s.heap ((oW cy aO (aB 0) e_O_images e_O_tape e_O_reader e_O_plan (some (aPt 0)) e_O_season e_O_dates e_O_line e_O_evening e_O_choices SO) ++ ((bW cy aB (als 0) (atd 0) e_B_mentions e_B_claims S6) ++ ((lsW cy als Sls) ++ ((tW cy atd Std) ++ ((pW cy aPt (aJt 0) S7) ++ ((jW cy aJt S8) ++ (lwW cy aLw SLw))))))) H locs → lv_has ls 7 [(5, .int x5_3), (4, .int x4_4), (3, .int x3_5), (0, .ref (aO 0)), (1, .int x1), (2, .int x2)] → W p l e (rmN 7) s m args below meth c H locs 0 0 (MQ below (eI D cy A (fun u : Ob × Ob × Ob => ((oW cy aO (aB 0) e_O_images e_O_tape e_O_reader e_O_plan (some (aPt 0)) e_O_season e_O_dates e_O_line e_O_evening e_O_choices SO) ++ ((bW cy aB (als 0) (atd 0) e_B_mentions e_B_claims u.1) ++ ((lsW cy als Sls) ++ ((tW cy atd Std) ++ ((pW cy aPt (aJt 0) u.2.1) ++ ((jW cy aJt u.2.2) ++ (lwW cy aLw SLw)))))))) (fun (r : Int32) (u : Ob × Ob × Ob) => Q r u.1 u.2.1 u.2.2)) args s (rmN 7).cells (rmN 7).slots A) (F0 m 30 ls [])) ?_ _ _ _ _ _ _ hm H locs ls hw (lv_sub hl [0, 1, 2, 3, 4, 5] rfl)
        intro L9 ih9 x5_3 x4_4 x3_5 S6 S7 S8 hm H locs ls hw hl
        refine lv_iload hx hb dX8_learn_30 (lv_at hl 0 rfl) ?_
        refine lv_aload_n hx hb dX8_learn_32 rfl (lv_at hl 3 rfl) ?_
        refine gF (k := 0) hc hw inX8 rfl 0 rfl (by decide) (gm 415 (by decide +kernel) rfl) rfl dX8_learn_33 ?_
        refine gN (k := 4) (host := "OlderTale") hc hw inX6 rfl 3 rfl (by decide) (nmm 212 (by decide +kernel)) rfl dX8_learn_36 ?_
        refine lv_icmp_ge (tgt := 88) hx hb dX8_learn_39 (by decide) (fun c22 => ?_) (fun c22 => ?_)
        · have hm := hm.1 c22
          refine lv_iload_n hx hb dX8_learn_88 rfl (lv_at hl 5 rfl) ?_
          refine lv_if_ne (tgt := 96) hx hb dX8_learn_89 (by decide) (fun c10 => ?_) (fun c10 => ?_)
          · have hm := hm.1 c10
            refine lv_iload hx hb dX8_learn_96 (lv_at hl 1 rfl) ?_
            exact retI (u := (S6, S7, S8)) hc hw hm dX8_learn_98
          · have hm := hm.2 c10
            refine lv_iload_n hx hb dX8_learn_92 rfl (lv_at hl 2 rfl) ?_
            refine lv_goto (tgt := 98) hx hb dX8_learn_93 (by decide) ?_
            exact retI (u := (S6, S7, S8)) hc hw hm dX8_learn_98
        · have hm := hm.2 c22
          refine lv_aload_n hx hb dX8_learn_42 rfl (lv_at hl 3 rfl) ?_
          refine gF (k := 0) hc hw inX8 rfl 0 rfl (by decide) (gm 415 (by decide +kernel) rfl) rfl dX8_learn_43 ?_
          refine gN (k := 3) (host := "OlderTale") hc hw inX6 rfl 3 rfl (by decide) (nmm 210 (by decide +kernel)) rfl dX8_learn_46 ?_
          refine lv_iload hx hb dX8_learn_49 (lv_at hl 0 rfl) ?_
          obtain ⟨c11, hm⟩ := hm
          refine aI hc hw 7 rfl c11 rfl dX8_learn_51 ?_
          refine lv_iload_n hx hb dX8_learn_52 rfl (lv_at hl 4 rfl) ?_
          refine lv_ishr hx hb dX8_learn_53 ?_
          refine lv_iconst (v := 1) hx hb dX8_learn_54 (by decide) ?_
          refine lv_iand hx hb dX8_learn_55 ?_
          refine lv_if_ne (tgt := 82) hx hb dX8_learn_56 (by decide) (fun c21 => ?_) (fun c21 => ?_)
          · have hm := hm.1 c21
            obtain ⟨v12, e_v12⟩ : ∃ z : Int32, z = x5_3 + 1 := ⟨_, rfl⟩
            have hm := hm v12 e_v12
            refine lv_iinc (v := v12) (lv' := [(5, .int v12), (4, .int x4_4), (3, .int x3_5), (0, .ref (aO 0)), (1, .int x1), (2, .int x2)]) hx hb dX8_learn_82 hl (k := 0) rfl (by rw [e_v12]; rfl) (by decide) rfl (fun ls hl => ?_)
            refine lv_goto (tgt := 30) hx hb dX8_learn_85 (by decide) ?_
            exact ih9 _ _ _ _ _ _ hm _ _ _ hw (lv_sub hl [0, 1, 2, 3, 4, 5] rfl)
          · have hm := hm.2 c21
            refine lv_aload_n hx hb dX8_learn_59 rfl (lv_at hl 3 rfl) ?_
            refine lv_iload hx hb dX8_learn_60 (lv_at hl 0 rfl) ?_
            refine lv_iload_n hx hb dX8_learn_62 rfl (lv_at hl 4 rfl) ?_
            refine aV_I (As := [.int x5_3, .int x1]) (rest := []) hc hw (c_X8_worthIfKnown hm) lk_X8_252 rfl rfl ⟨Nat.le_of_ble_eq_true rfl, Nat.le_of_ble_eq_true rfl⟩ ⟨Nat.le_of_ble_eq_true rfl, Nat.le_of_ble_eq_true rfl⟩ hl.1 rfl (Nat.le_of_ble_eq_true rfl) rfl dX8_learn_63 (fun r13 u_16 H locs hm hw => ?_)
            obtain ⟨S14, S15, S16⟩ := u_16
            have hw : wV D A s.heap ((oW cy aO (aB 0) e_O_images e_O_tape e_O_reader e_O_plan (some (aPt 0)) e_O_season e_O_dates e_O_line e_O_evening e_O_choices SO) ++ ((bW cy aB (als 0) (atd 0) e_B_mentions e_B_claims S14) ++ ((lsW cy als Sls) ++ ((tW cy atd Std) ++ ((pW cy aPt (aJt 0) S15) ++ ((jW cy aJt S16) ++ (lwW cy aLw SLw))))))) H locs := hw
            refine lv_istore (lv' := [(6, .int r13), (5, .int x5_3), (4, .int x4_4), (3, .int x3_5), (0, .ref (aO 0)), (1, .int x1), (2, .int x2)]) hx hb dX8_learn_66 hl (by decide) rfl (fun ls hl => ?_)
            refine lv_iload hx hb dX8_learn_68 (lv_at hl 0 rfl) ?_
            refine lv_iload hx hb dX8_learn_70 (lv_at hl 2 rfl) ?_
            refine lv_icmp_le (tgt := 82) hx hb dX8_learn_72 (by decide) (fun c20 => ?_) (fun c20 => ?_)
            · have hm := hm.1 c20
              obtain ⟨v18, e_v18⟩ : ∃ z : Int32, z = x5_3 + 1 := ⟨_, rfl⟩
              have hm := hm v18 e_v18
              refine lv_iinc (v := v18) (lv' := [(5, .int v18), (6, .int r13), (4, .int x4_4), (3, .int x3_5), (0, .ref (aO 0)), (1, .int x1), (2, .int x2)]) hx hb dX8_learn_82 hl (k := 1) rfl (by rw [e_v18]; rfl) (by decide) rfl (fun ls hl => ?_)
              refine lv_goto (tgt := 30) hx hb dX8_learn_85 (by decide) ?_
              exact ih9 _ _ _ _ _ _ hm _ _ _ hw (lv_sub hl [0, 2, 3, 4, 5, 6] rfl)
            · have hm := hm.2 c20
              refine lv_iload hx hb dX8_learn_75 (lv_at hl 0 rfl) ?_
              refine lv_istore (lv' := [(4, .int r13), (6, .int r13), (5, .int x5_3), (3, .int x3_5), (0, .ref (aO 0)), (1, .int x1), (2, .int x2)]) hx hb dX8_learn_77 hl (by decide) rfl (fun ls hl => ?_)
              refine lv_iload hx hb dX8_learn_79 (lv_at hl 2 rfl) ?_
              refine lv_istore_n (lv' := [(3, .int x5_3), (4, .int r13), (6, .int r13), (5, .int x5_3), (0, .ref (aO 0)), (1, .int x1), (2, .int x2)]) hx hb dX8_learn_81 rfl hl (by decide) rfl (fun ls hl => ?_)
              obtain ⟨v19, e_v19⟩ : ∃ z : Int32, z = x5_3 + 1 := ⟨_, rfl⟩
              have hm := hm v19 e_v19
              refine lv_iinc (v := v19) (lv' := [(5, .int v19), (3, .int x5_3), (4, .int r13), (6, .int r13), (0, .ref (aO 0)), (1, .int x1), (2, .int x2)]) hx hb dX8_learn_82 hl (k := 3) rfl (by rw [e_v19]; rfl) (by decide) rfl (fun ls hl => ?_)
              refine lv_goto (tgt := 30) hx hb dX8_learn_85 (by decide) ?_
              exact ih9 _ _ _ _ _ _ hm _ _ _ hw (lv_sub hl [0, 2, 1, 4, 5, 6] rfl)
      · have hm := hm.2 c23
        refine lv_iconst (v := (-1)) hx hb dX8_learn_20 (by decide) ?_
        exact retI (u := (SB, SPt, SJt)) hc hw hm dX8_learn_21
set_option maxHeartbeats 4000000 in
set_option maxRecDepth 100000 in
theorem c_X8_learnN {l : Launch} {D : va_G} {cy : Nat → ClassId} {aO : Nat → Nat} {aB : Nat → Nat} {als : Nat → Nat} {atd : Nat → Nat} {aPt : Nat → Nat} {aJt : Nat → Nat} {e_O_images : Nat} {e_O_tape : Nat} {e_O_reader : Nat} {e_O_plan : Nat} {e_O_season : Option Nat} {e_O_dates : Nat} {e_O_line : Nat} {e_O_evening : Nat} {e_O_choices : Nat} {e_B_mentions : Nat} {e_B_claims : Nat} {SO : Ob} {SB : Ob} {Sls : (Nat → Option Nat)} {Std : Ob} {SPt : Ob} {SJt : Ob} {x1 : Int32} {x2 : Int32} {Q : Int32 → Ob → Ob → Ob → Prop} (hm : w_X8_learnN SO SB Sls Std SPt SJt x1 x2 Q) : CtI l yX8_learn cX8_learn 7 (some .int) (rmN 7) D cy [.ref (aO 0), .int x1, .int x2] ((oW cy aO (aB 0) e_O_images e_O_tape e_O_reader e_O_plan (some (aPt 0)) e_O_season e_O_dates e_O_line e_O_evening e_O_choices SO) ++ ((bW cy aB (als 0) (atd 0) e_B_mentions e_B_claims SB) ++ ((lsW cy als Sls) ++ ((tW cy atd Std) ++ ((pW cy aPt (aJt 0) SPt) ++ (jW cy aJt SJt)))))) (fun u : Ob × Ob × Ob => ((oW cy aO (aB 0) e_O_images e_O_tape e_O_reader e_O_plan (some (aPt 0)) e_O_season e_O_dates e_O_line e_O_evening e_O_choices SO) ++ ((bW cy aB (als 0) (atd 0) e_B_mentions e_B_claims u.1) ++ ((lsW cy als Sls) ++ ((tW cy atd Std) ++ ((pW cy aPt (aJt 0) u.2.1) ++ (jW cy aJt u.2.2))))))) (fun (r : Int32) (u : Ob × Ob × Ob) => Q r u.1 u.2.1 u.2.2) := by
  refine CtI.ofW (by decide) (Nat.le_of_ble_eq_true rfl) ?_
  intro p e s m args below meth c A ls hc hnm hw hl
  have hx := hc.1.1
  have hb := hc.1.2.1
  have hown := hc.1.2.2.2.1
  have hts := hc.1.2.2.2.2
  have hl : lv_has ls 7 [(0, .ref (aO 0)), (1, .int x1), (2, .int x2)] := hl
  obtain ⟨H, hH⟩ : ∃ z, z = s.heap := ⟨_, rfl⟩
  obtain ⟨locs, hLc⟩ : ∃ z : List Loc, z = [] := ⟨_, rfl⟩
  have hw : wV D A s.heap ((oW cy aO (aB 0) e_O_images e_O_tape e_O_reader e_O_plan (some (aPt 0)) e_O_season e_O_dates e_O_line e_O_evening e_O_choices SO) ++ ((bW cy aB (als 0) (atd 0) e_B_mentions e_B_claims SB) ++ ((lsW cy als Sls) ++ ((tW cy atd Std) ++ ((pW cy aPt (aJt 0) SPt) ++ (jW cy aJt SJt)))))) H locs := by rw [hH, hLc]; exact hw
  have hgo : W p l e (rmN 7) s m args below meth c H locs 0 0 (MQ below (eI D cy A (fun u : Ob × Ob × Ob => ((oW cy aO (aB 0) e_O_images e_O_tape e_O_reader e_O_plan (some (aPt 0)) e_O_season e_O_dates e_O_line e_O_evening e_O_choices SO) ++ ((bW cy aB (als 0) (atd 0) e_B_mentions e_B_claims u.1) ++ ((lsW cy als Sls) ++ ((tW cy atd Std) ++ ((pW cy aPt (aJt 0) u.2.1) ++ (jW cy aJt u.2.2))))))) (fun (r : Int32) (u : Ob × Ob × Ob) => Q r u.1 u.2.1 u.2.2)) args s (rmN 7).cells (rmN 7).slots A) (F0 m 0 ls []) := ?hgo
  · rw [hH, hLc] at hgo; exact hgo
  refine lv_aload_n hx hb dX8_learn_0 rfl (lv_at hl 0 rfl) ?_
  refine gF (k := 0) hc hw inX8 rfl 0 rfl (by decide) (gm 415 (by decide +kernel) rfl) rfl dX8_learn_1 ?_
  refine lv_iload_n hx hb dX8_learn_4 rfl (lv_at hl 1 rfl) ?_
  refine nVN_I (As := [.int x1]) (rest := []) (wc := (bW cy aB (als 0) (atd 0) e_B_mentions e_B_claims SB)) (wr := ((oW cy aO (aB 0) e_O_images e_O_tape e_O_reader e_O_plan (some (aPt 0)) e_O_season e_O_dates e_O_line e_O_evening e_O_choices SO) ++ ((lsW cy als Sls) ++ ((tW cy atd Std) ++ ((pW cy aPt (aJt 0) SPt) ++ (jW cy aJt SJt)))))) (isC := [3, 4, 5, 6, 7, 8]) (isR := [0, 1, 2, 9, 10, 11, 12, 13, 14, 15, 16, 17, 18, 19, 20, 21, 22, 23, 24, 25, 26, 27]) hc hw (c_X6_seats hm) lk_X8_134 ⟨rfl, rfl, rfl, rfl, by decide⟩ rfl rfl ⟨Nat.le_of_ble_eq_true rfl, Nat.le_of_ble_eq_true rfl⟩ ⟨Nat.le_of_ble_eq_true rfl, Nat.le_of_ble_eq_true rfl⟩ hl.1 rfl (Nat.le_of_ble_eq_true rfl) rfl dX8_learn_5 (fun r1 _ H locs hm hw => ?_)
  have hw : wV D A s.heap ((oW cy aO (aB 0) e_O_images e_O_tape e_O_reader e_O_plan (some (aPt 0)) e_O_season e_O_dates e_O_line e_O_evening e_O_choices SO) ++ ((bW cy aB (als 0) (atd 0) e_B_mentions e_B_claims SB) ++ ((lsW cy als Sls) ++ ((tW cy atd Std) ++ ((pW cy aPt (aJt 0) SPt) ++ (jW cy aJt SJt)))))) H locs := hw.perm [0, 1, 2, 22, 23, 24, 25, 26, 27, 3, 4, 5, 6, 7, 8, 9, 10, 11, 12, 13, 14, 15, 16, 17, 18, 19, 20, 21] rfl rfl
  refine lv_if_eq (tgt := 20) hx hb dX8_learn_8 (by decide) (fun c25 => ?_) (fun c25 => ?_)
  · have hm := hm.1 c25
    refine lv_iconst (v := (-1)) hx hb dX8_learn_20 (by decide) ?_
    exact retI (u := (SB, SPt, SJt)) hc hw hm dX8_learn_21
  · have hm := hm.2 c25
    refine lv_iload_n hx hb dX8_learn_11 rfl (lv_at hl 2 rfl) ?_
    refine lv_if_lt (tgt := 20) hx hb dX8_learn_12 (by decide) (fun c24 => ?_) (fun c24 => ?_)
    · have hm := hm.1 c24
      refine lv_iconst (v := (-1)) hx hb dX8_learn_20 (by decide) ?_
      exact retI (u := (SB, SPt, SJt)) hc hw hm dX8_learn_21
    · have hm := hm.2 c24
      refine lv_iload_n hx hb dX8_learn_15 rfl (lv_at hl 2 rfl) ?_
      refine lv_iconst (v := 1) hx hb dX8_learn_16 (by decide) ?_
      refine lv_icmp_le (tgt := 22) hx hb dX8_learn_17 (by decide) (fun c23 => ?_) (fun c23 => ?_)
      · have hm := hm.1 c23
        refine lv_iconst (v := (-1)) hx hb dX8_learn_22 (by decide) ?_
        refine lv_istore_n (lv' := [(3, .int (-1)), (0, .ref (aO 0)), (1, .int x1), (2, .int x2)]) hx hb dX8_learn_23 rfl hl (by decide) rfl (fun ls hl => ?_)
        refine lv_iconst (v := (-1)) hx hb dX8_learn_24 (by decide) ?_
        refine lv_istore (lv' := [(4, .int (-1)), (3, .int (-1)), (0, .ref (aO 0)), (1, .int x1), (2, .int x2)]) hx hb dX8_learn_25 hl (by decide) rfl (fun ls hl => ?_)
        refine lv_iconst (v := 0) hx hb dX8_learn_27 (by decide) ?_
        refine lv_istore (lv' := [(5, .int 0), (4, .int (-1)), (3, .int (-1)), (0, .ref (aO 0)), (1, .int x1), (2, .int x2)]) hx hb dX8_learn_28 hl (by decide) rfl (fun ls hl => ?_)
        refine wl6_ind (G := fun (x5_3 : Int32) (x4_4 : Int32) (x3_5 : Int32) (S6 : Ob) (S7 : Ob) (S8 : Ob) => ∀ (H : Heap) (locs : List Loc) (ls : Array Slot), wV D A s.heap ((oW cy aO (aB 0) e_O_images e_O_tape e_O_reader e_O_plan (some (aPt 0)) e_O_season e_O_dates e_O_line e_O_evening e_O_choices SO) ++ ((bW cy aB (als 0) (atd 0) e_B_mentions e_B_claims S6) ++ ((lsW cy als Sls) ++ ((tW cy atd Std) ++ ((pW cy aPt (aJt 0) S7) ++ (jW cy aJt S8)))))) H locs → lv_has ls 7 [(5, .int x5_3), (4, .int x4_4), (3, .int x3_5), (0, .ref (aO 0)), (1, .int x1), (2, .int x2)] → W p l e (rmN 7) s m args below meth c H locs 0 0 (MQ below (eI D cy A (fun u : Ob × Ob × Ob => ((oW cy aO (aB 0) e_O_images e_O_tape e_O_reader e_O_plan (some (aPt 0)) e_O_season e_O_dates e_O_line e_O_evening e_O_choices SO) ++ ((bW cy aB (als 0) (atd 0) e_B_mentions e_B_claims u.1) ++ ((lsW cy als Sls) ++ ((tW cy atd Std) ++ ((pW cy aPt (aJt 0) u.2.1) ++ (jW cy aJt u.2.2))))))) (fun (r : Int32) (u : Ob × Ob × Ob) => Q r u.1 u.2.1 u.2.2)) args s (rmN 7).cells (rmN 7).slots A) (F0 m 30 ls [])) ?_ _ _ _ _ _ _ hm H locs ls hw (lv_sub hl [0, 1, 2, 3, 4, 5] rfl)
        intro L9 ih9 x5_3 x4_4 x3_5 S6 S7 S8 hm H locs ls hw hl
        refine lv_iload hx hb dX8_learn_30 (lv_at hl 0 rfl) ?_
        refine lv_aload_n hx hb dX8_learn_32 rfl (lv_at hl 3 rfl) ?_
        refine gF (k := 0) hc hw inX8 rfl 0 rfl (by decide) (gm 415 (by decide +kernel) rfl) rfl dX8_learn_33 ?_
        refine gN (k := 4) (host := "OlderTale") hc hw inX6 rfl 3 rfl (by decide) (nmm 212 (by decide +kernel)) rfl dX8_learn_36 ?_
        refine lv_icmp_ge (tgt := 88) hx hb dX8_learn_39 (by decide) (fun c22 => ?_) (fun c22 => ?_)
        · have hm := hm.1 c22
          refine lv_iload_n hx hb dX8_learn_88 rfl (lv_at hl 5 rfl) ?_
          refine lv_if_ne (tgt := 96) hx hb dX8_learn_89 (by decide) (fun c10 => ?_) (fun c10 => ?_)
          · have hm := hm.1 c10
            refine lv_iload hx hb dX8_learn_96 (lv_at hl 1 rfl) ?_
            exact retI (u := (S6, S7, S8)) hc hw hm dX8_learn_98
          · have hm := hm.2 c10
            refine lv_iload_n hx hb dX8_learn_92 rfl (lv_at hl 2 rfl) ?_
            refine lv_goto (tgt := 98) hx hb dX8_learn_93 (by decide) ?_
            exact retI (u := (S6, S7, S8)) hc hw hm dX8_learn_98
        · have hm := hm.2 c22
          refine lv_aload_n hx hb dX8_learn_42 rfl (lv_at hl 3 rfl) ?_
          refine gF (k := 0) hc hw inX8 rfl 0 rfl (by decide) (gm 415 (by decide +kernel) rfl) rfl dX8_learn_43 ?_
          refine gN (k := 3) (host := "OlderTale") hc hw inX6 rfl 3 rfl (by decide) (nmm 210 (by decide +kernel)) rfl dX8_learn_46 ?_
          refine lv_iload hx hb dX8_learn_49 (lv_at hl 0 rfl) ?_
          obtain ⟨c11, hm⟩ := hm
          refine aI hc hw 7 rfl c11 rfl dX8_learn_51 ?_
          refine lv_iload_n hx hb dX8_learn_52 rfl (lv_at hl 4 rfl) ?_
          refine lv_ishr hx hb dX8_learn_53 ?_
          refine lv_iconst (v := 1) hx hb dX8_learn_54 (by decide) ?_
          refine lv_iand hx hb dX8_learn_55 ?_
          refine lv_if_ne (tgt := 82) hx hb dX8_learn_56 (by decide) (fun c21 => ?_) (fun c21 => ?_)
          · have hm := hm.1 c21
            obtain ⟨v12, e_v12⟩ : ∃ z : Int32, z = x5_3 + 1 := ⟨_, rfl⟩
            have hm := hm v12 e_v12
            refine lv_iinc (v := v12) (lv' := [(5, .int v12), (4, .int x4_4), (3, .int x3_5), (0, .ref (aO 0)), (1, .int x1), (2, .int x2)]) hx hb dX8_learn_82 hl (k := 0) rfl (by rw [e_v12]; rfl) (by decide) rfl (fun ls hl => ?_)
            refine lv_goto (tgt := 30) hx hb dX8_learn_85 (by decide) ?_
            exact ih9 _ _ _ _ _ _ hm _ _ _ hw (lv_sub hl [0, 1, 2, 3, 4, 5] rfl)
          · have hm := hm.2 c21
            refine lv_aload_n hx hb dX8_learn_59 rfl (lv_at hl 3 rfl) ?_
            refine lv_iload hx hb dX8_learn_60 (lv_at hl 0 rfl) ?_
            refine lv_iload_n hx hb dX8_learn_62 rfl (lv_at hl 4 rfl) ?_
            refine aV_I (As := [.int x5_3, .int x1]) (rest := []) hc hw (c_X8_worthIfKnownN hm) lk_X8_252 rfl rfl ⟨Nat.le_of_ble_eq_true rfl, Nat.le_of_ble_eq_true rfl⟩ ⟨Nat.le_of_ble_eq_true rfl, Nat.le_of_ble_eq_true rfl⟩ hl.1 rfl (Nat.le_of_ble_eq_true rfl) rfl dX8_learn_63 (fun r13 u_16 H locs hm hw => ?_)
            obtain ⟨S14, S15, S16⟩ := u_16
            have hw : wV D A s.heap ((oW cy aO (aB 0) e_O_images e_O_tape e_O_reader e_O_plan (some (aPt 0)) e_O_season e_O_dates e_O_line e_O_evening e_O_choices SO) ++ ((bW cy aB (als 0) (atd 0) e_B_mentions e_B_claims S14) ++ ((lsW cy als Sls) ++ ((tW cy atd Std) ++ ((pW cy aPt (aJt 0) S15) ++ (jW cy aJt S16)))))) H locs := hw
            refine lv_istore (lv' := [(6, .int r13), (5, .int x5_3), (4, .int x4_4), (3, .int x3_5), (0, .ref (aO 0)), (1, .int x1), (2, .int x2)]) hx hb dX8_learn_66 hl (by decide) rfl (fun ls hl => ?_)
            refine lv_iload hx hb dX8_learn_68 (lv_at hl 0 rfl) ?_
            refine lv_iload hx hb dX8_learn_70 (lv_at hl 2 rfl) ?_
            refine lv_icmp_le (tgt := 82) hx hb dX8_learn_72 (by decide) (fun c20 => ?_) (fun c20 => ?_)
            · have hm := hm.1 c20
              obtain ⟨v18, e_v18⟩ : ∃ z : Int32, z = x5_3 + 1 := ⟨_, rfl⟩
              have hm := hm v18 e_v18
              refine lv_iinc (v := v18) (lv' := [(5, .int v18), (6, .int r13), (4, .int x4_4), (3, .int x3_5), (0, .ref (aO 0)), (1, .int x1), (2, .int x2)]) hx hb dX8_learn_82 hl (k := 1) rfl (by rw [e_v18]; rfl) (by decide) rfl (fun ls hl => ?_)
              refine lv_goto (tgt := 30) hx hb dX8_learn_85 (by decide) ?_
              exact ih9 _ _ _ _ _ _ hm _ _ _ hw (lv_sub hl [0, 2, 3, 4, 5, 6] rfl)
            · have hm := hm.2 c20
              refine lv_iload hx hb dX8_learn_75 (lv_at hl 0 rfl) ?_
              refine lv_istore (lv' := [(4, .int r13), (6, .int r13), (5, .int x5_3), (3, .int x3_5), (0, .ref (aO 0)), (1, .int x1), (2, .int x2)]) hx hb dX8_learn_77 hl (by decide) rfl (fun ls hl => ?_)
              refine lv_iload hx hb dX8_learn_79 (lv_at hl 2 rfl) ?_
              refine lv_istore_n (lv' := [(3, .int x5_3), (4, .int r13), (6, .int r13), (5, .int x5_3), (0, .ref (aO 0)), (1, .int x1), (2, .int x2)]) hx hb dX8_learn_81 rfl hl (by decide) rfl (fun ls hl => ?_)
              obtain ⟨v19, e_v19⟩ : ∃ z : Int32, z = x5_3 + 1 := ⟨_, rfl⟩
              have hm := hm v19 e_v19
              refine lv_iinc (v := v19) (lv' := [(5, .int v19), (3, .int x5_3), (4, .int r13), (6, .int r13), (0, .ref (aO 0)), (1, .int x1), (2, .int x2)]) hx hb dX8_learn_82 hl (k := 3) rfl (by rw [e_v19]; rfl) (by decide) rfl (fun ls hl => ?_)
              refine lv_goto (tgt := 30) hx hb dX8_learn_85 (by decide) ?_
              exact ih9 _ _ _ _ _ _ hm _ _ _ hw (lv_sub hl [0, 2, 1, 4, 5, 6] rfl)
      · have hm := hm.2 c23
        refine lv_iconst (v := (-1)) hx hb dX8_learn_20 (by decide) ?_
        exact retI (u := (SB, SPt, SJt)) hc hw hm dX8_learn_21
set_option maxHeartbeats 4000000 in
set_option maxRecDepth 100000 in
theorem c_X8_learnA {l : Launch} {D : va_G} {cy : Nat → ClassId} {aO : Nat → Nat} {aB : Nat → Nat} {als : Nat → Nat} {atd : Nat → Nat} {aLw : Nat → Nat} {e_O_images : Nat} {e_O_tape : Nat} {e_O_reader : Nat} {e_O_plan : Nat} {e_O_season : Option Nat} {e_O_dates : Nat} {e_O_line : Nat} {e_O_evening : Nat} {e_O_choices : Nat} {e_B_mentions : Nat} {e_B_claims : Nat} {SO : Ob} {SB : Ob} {Sls : (Nat → Option Nat)} {Std : Ob} {SLw : Lw} {x1 : Int32} {x2 : Int32} {Q : Int32 → Ob → Option ((Nat → Nat → Nat) × Ob × Ob) → Prop} (hm : w_X8_learnA aLw SO SB Sls Std SLw x1 x2 Q) : CtI l yX8_learn cX8_learn 7 (some .int) (rmA 13 14 4239) D cy [.ref (aO 0), .int x1, .int x2] ((oW cy aO (aB 0) e_O_images e_O_tape e_O_reader e_O_plan none e_O_season e_O_dates e_O_line e_O_evening e_O_choices SO) ++ ((bW cy aB (als 0) (atd 0) e_B_mentions e_B_claims SB) ++ ((lsW cy als Sls) ++ ((tW cy atd Std) ++ ((lwW cy aLw SLw) ++ (optPl cy none)))))) (fun u : Ob × Option ((Nat → Nat → Nat) × Ob × Ob) => ((oW cy aO (aB 0) e_O_images e_O_tape e_O_reader e_O_plan (u.2.map (fun q => q.1 0 0)) e_O_season e_O_dates e_O_line e_O_evening e_O_choices SO) ++ ((bW cy aB (als 0) (atd 0) e_B_mentions e_B_claims u.1) ++ ((lsW cy als Sls) ++ ((tW cy atd Std) ++ ((lwW cy aLw SLw) ++ (optPl cy u.2))))))) (fun (r : Int32) (u : Ob × Option ((Nat → Nat → Nat) × Ob × Ob)) => Q r u.1 u.2) := by
  refine CtI.ofW (by decide) (Nat.le_of_ble_eq_true rfl) ?_
  intro p e s m args below meth c A ls hc hnm hw hl
  have hx := hc.1.1
  have hb := hc.1.2.1
  have hown := hc.1.2.2.2.1
  have hts := hc.1.2.2.2.2
  have hl : lv_has ls 7 [(0, .ref (aO 0)), (1, .int x1), (2, .int x2)] := hl
  obtain ⟨H, hH⟩ : ∃ z, z = s.heap := ⟨_, rfl⟩
  obtain ⟨locs, hLc⟩ : ∃ z : List Loc, z = [] := ⟨_, rfl⟩
  have hw : wV D A s.heap ((oW cy aO (aB 0) e_O_images e_O_tape e_O_reader e_O_plan none e_O_season e_O_dates e_O_line e_O_evening e_O_choices SO) ++ ((bW cy aB (als 0) (atd 0) e_B_mentions e_B_claims SB) ++ ((lsW cy als Sls) ++ ((tW cy atd Std) ++ ((lwW cy aLw SLw) ++ (optPl cy none)))))) H locs := by rw [hH, hLc]; exact hw
  have hgo : W p l e (rmA 13 14 4239) s m args below meth c H locs (oC none) (oS none) (MQ below (eI D cy A (fun u : Ob × Option ((Nat → Nat → Nat) × Ob × Ob) => ((oW cy aO (aB 0) e_O_images e_O_tape e_O_reader e_O_plan (u.2.map (fun q => q.1 0 0)) e_O_season e_O_dates e_O_line e_O_evening e_O_choices SO) ++ ((bW cy aB (als 0) (atd 0) e_B_mentions e_B_claims u.1) ++ ((lsW cy als Sls) ++ ((tW cy atd Std) ++ ((lwW cy aLw SLw) ++ (optPl cy u.2))))))) (fun (r : Int32) (u : Ob × Option ((Nat → Nat → Nat) × Ob × Ob)) => Q r u.1 u.2)) args s (rmA 13 14 4239).cells (rmA 13 14 4239).slots A) (F0 m 0 ls []) := ?hgo
  · rw [hH, hLc] at hgo; exact hgo
  refine lv_aload_n hx hb dX8_learn_0 rfl (lv_at hl 0 rfl) ?_
  refine gF (k := 0) hc hw inX8 rfl 0 rfl (by decide) (gm 415 (by decide +kernel) rfl) rfl dX8_learn_1 ?_
  refine lv_iload_n hx hb dX8_learn_4 rfl (lv_at hl 1 rfl) ?_
  refine nVN_I (As := [.int x1]) (rest := []) (wc := (bW cy aB (als 0) (atd 0) e_B_mentions e_B_claims SB)) (wr := ((oW cy aO (aB 0) e_O_images e_O_tape e_O_reader e_O_plan none e_O_season e_O_dates e_O_line e_O_evening e_O_choices SO) ++ ((lsW cy als Sls) ++ ((tW cy atd Std) ++ ((lwW cy aLw SLw) ++ (optPl cy none)))))) (isC := [3, 4, 5, 6, 7, 8]) (isR := [0, 1, 2, 9, 10, 11, 12, 13, 14, 15, 16, 17, 18]) hc hw (c_X6_seats hm) lk_X8_134 ⟨rfl, rfl, rfl, rfl, by decide⟩ rfl rfl ⟨by decide, by decide⟩ ⟨Nat.le_of_ble_eq_true rfl, Nat.le_of_ble_eq_true rfl⟩ hl.1 rfl (Nat.le_of_ble_eq_true rfl) rfl dX8_learn_5 (fun r1 _ H locs hm hw => ?_)
  have hw : wV D A s.heap ((oW cy aO (aB 0) e_O_images e_O_tape e_O_reader e_O_plan none e_O_season e_O_dates e_O_line e_O_evening e_O_choices SO) ++ ((bW cy aB (als 0) (atd 0) e_B_mentions e_B_claims SB) ++ ((lsW cy als Sls) ++ ((tW cy atd Std) ++ ((lwW cy aLw SLw) ++ (optPl cy none)))))) H locs := hw.perm [0, 1, 2, 13, 14, 15, 16, 17, 18, 3, 4, 5, 6, 7, 8, 9, 10, 11, 12] rfl rfl
  refine lv_if_eq (tgt := 20) hx hb dX8_learn_8 (by decide) (fun c22 => ?_) (fun c22 => ?_)
  · have hm := hm.1 c22
    refine lv_iconst (v := (-1)) hx hb dX8_learn_20 (by decide) ?_
    refine W.widen (k := 14) (n := 4239) (oC_le _) (oS_le _) ?_
    exact retI (u := (SB, none)) hc hw hm dX8_learn_21
  · have hm := hm.2 c22
    refine lv_iload_n hx hb dX8_learn_11 rfl (lv_at hl 2 rfl) ?_
    refine lv_if_lt (tgt := 20) hx hb dX8_learn_12 (by decide) (fun c21 => ?_) (fun c21 => ?_)
    · have hm := hm.1 c21
      refine lv_iconst (v := (-1)) hx hb dX8_learn_20 (by decide) ?_
      refine W.widen (k := 14) (n := 4239) (oC_le _) (oS_le _) ?_
      exact retI (u := (SB, none)) hc hw hm dX8_learn_21
    · have hm := hm.2 c21
      refine lv_iload_n hx hb dX8_learn_15 rfl (lv_at hl 2 rfl) ?_
      refine lv_iconst (v := 1) hx hb dX8_learn_16 (by decide) ?_
      refine lv_icmp_le (tgt := 22) hx hb dX8_learn_17 (by decide) (fun c20 => ?_) (fun c20 => ?_)
      · have hm := hm.1 c20
        refine lv_iconst (v := (-1)) hx hb dX8_learn_22 (by decide) ?_
        refine lv_istore_n (lv' := [(3, .int (-1)), (0, .ref (aO 0)), (1, .int x1), (2, .int x2)]) hx hb dX8_learn_23 rfl hl (by decide) rfl (fun ls hl => ?_)
        refine lv_iconst (v := (-1)) hx hb dX8_learn_24 (by decide) ?_
        refine lv_istore (lv' := [(4, .int (-1)), (3, .int (-1)), (0, .ref (aO 0)), (1, .int x1), (2, .int x2)]) hx hb dX8_learn_25 hl (by decide) rfl (fun ls hl => ?_)
        refine lv_iconst (v := 0) hx hb dX8_learn_27 (by decide) ?_
        refine lv_istore (lv' := [(5, .int 0), (4, .int (-1)), (3, .int (-1)), (0, .ref (aO 0)), (1, .int x1), (2, .int x2)]) hx hb dX8_learn_28 hl (by decide) rfl (fun ls hl => ?_)
        refine wl5_ind (G := fun (x5_3 : Int32) (x4_4 : Int32) (x3_5 : Int32) (S6 : Ob) (S7 : (Option ((Nat → Nat → Nat) × Ob × Ob))) => ∀ (H : Heap) (locs : List Loc) (ls : Array Slot), wV D A s.heap ((oW cy aO (aB 0) e_O_images e_O_tape e_O_reader e_O_plan (S7.map (fun q => q.1 0 0)) e_O_season e_O_dates e_O_line e_O_evening e_O_choices SO) ++ ((bW cy aB (als 0) (atd 0) e_B_mentions e_B_claims S6) ++ ((lsW cy als Sls) ++ ((tW cy atd Std) ++ ((lwW cy aLw SLw) ++ (optPl cy S7)))))) H locs → lv_has ls 7 [(5, .int x5_3), (4, .int x4_4), (3, .int x3_5), (0, .ref (aO 0)), (1, .int x1), (2, .int x2)] → W p l e (rmA 13 14 4239) s m args below meth c H locs (oC S7) (oS S7) (MQ below (eI D cy A (fun u : Ob × Option ((Nat → Nat → Nat) × Ob × Ob) => ((oW cy aO (aB 0) e_O_images e_O_tape e_O_reader e_O_plan (u.2.map (fun q => q.1 0 0)) e_O_season e_O_dates e_O_line e_O_evening e_O_choices SO) ++ ((bW cy aB (als 0) (atd 0) e_B_mentions e_B_claims u.1) ++ ((lsW cy als Sls) ++ ((tW cy atd Std) ++ ((lwW cy aLw SLw) ++ (optPl cy u.2))))))) (fun (r : Int32) (u : Ob × Option ((Nat → Nat → Nat) × Ob × Ob)) => Q r u.1 u.2)) args s (rmA 13 14 4239).cells (rmA 13 14 4239).slots A) (F0 m 30 ls [])) ?_ _ _ _ _ _ hm H locs ls hw (lv_sub hl [0, 1, 2, 3, 4, 5] rfl)
        intro L8 ih8 x5_3 x4_4 x3_5 S6 S7 hm H locs ls hw hl
        refine lv_iload hx hb dX8_learn_30 (lv_at hl 0 rfl) ?_
        refine lv_aload_n hx hb dX8_learn_32 rfl (lv_at hl 3 rfl) ?_
        refine gF (k := 0) hc hw inX8 rfl 0 rfl (by decide) (gm 415 (by decide +kernel) rfl) rfl dX8_learn_33 ?_
        refine gN (k := 4) (host := "OlderTale") hc hw inX6 rfl 3 rfl (by decide) (nmm 212 (by decide +kernel)) rfl dX8_learn_36 ?_
        refine lv_icmp_ge (tgt := 88) hx hb dX8_learn_39 (by decide) (fun c19 => ?_) (fun c19 => ?_)
        · have hm := hm.1 c19
          refine lv_iload_n hx hb dX8_learn_88 rfl (lv_at hl 5 rfl) ?_
          refine lv_if_ne (tgt := 96) hx hb dX8_learn_89 (by decide) (fun c9 => ?_) (fun c9 => ?_)
          · have hm := hm.1 c9
            refine lv_iload hx hb dX8_learn_96 (lv_at hl 1 rfl) ?_
            refine W.widen (k := 14) (n := 4239) (oC_le _) (oS_le _) ?_
            exact retI (u := (S6, S7)) hc hw hm dX8_learn_98
          · have hm := hm.2 c9
            refine lv_iload_n hx hb dX8_learn_92 rfl (lv_at hl 2 rfl) ?_
            refine lv_goto (tgt := 98) hx hb dX8_learn_93 (by decide) ?_
            refine W.widen (k := 14) (n := 4239) (oC_le _) (oS_le _) ?_
            exact retI (u := (S6, S7)) hc hw hm dX8_learn_98
        · have hm := hm.2 c19
          refine lv_aload_n hx hb dX8_learn_42 rfl (lv_at hl 3 rfl) ?_
          refine gF (k := 0) hc hw inX8 rfl 0 rfl (by decide) (gm 415 (by decide +kernel) rfl) rfl dX8_learn_43 ?_
          refine gN (k := 3) (host := "OlderTale") hc hw inX6 rfl 3 rfl (by decide) (nmm 210 (by decide +kernel)) rfl dX8_learn_46 ?_
          refine lv_iload hx hb dX8_learn_49 (lv_at hl 0 rfl) ?_
          obtain ⟨c10, hm⟩ := hm
          refine aI hc hw 7 rfl c10 rfl dX8_learn_51 ?_
          refine lv_iload_n hx hb dX8_learn_52 rfl (lv_at hl 4 rfl) ?_
          refine lv_ishr hx hb dX8_learn_53 ?_
          refine lv_iconst (v := 1) hx hb dX8_learn_54 (by decide) ?_
          refine lv_iand hx hb dX8_learn_55 ?_
          refine lv_if_ne (tgt := 82) hx hb dX8_learn_56 (by decide) (fun c18 => ?_) (fun c18 => ?_)
          · have hm := hm.1 c18
            obtain ⟨v11, e_v11⟩ : ∃ z : Int32, z = x5_3 + 1 := ⟨_, rfl⟩
            have hm := hm v11 e_v11
            refine lv_iinc (v := v11) (lv' := [(5, .int v11), (4, .int x4_4), (3, .int x3_5), (0, .ref (aO 0)), (1, .int x1), (2, .int x2)]) hx hb dX8_learn_82 hl (k := 0) rfl (by rw [e_v11]; rfl) (by decide) rfl (fun ls hl => ?_)
            refine lv_goto (tgt := 30) hx hb dX8_learn_85 (by decide) ?_
            exact ih8 _ _ _ _ _ hm _ _ _ hw (lv_sub hl [0, 1, 2, 3, 4, 5] rfl)
          · have hm := hm.2 c18
            refine lv_aload_n hx hb dX8_learn_59 rfl (lv_at hl 3 rfl) ?_
            refine lv_iload hx hb dX8_learn_60 (lv_at hl 0 rfl) ?_
            refine lv_iload_n hx hb dX8_learn_62 rfl (lv_at hl 4 rfl) ?_
            have hk : ∀ (r12 : Int32) (S13 : Ob) (S14 : Option ((Nat → Nat → Nat) × Ob × Ob)) (_ : (fun (r12 : Int32) (S13 : Ob) (S14 : Option ((Nat → Nat → Nat) × Ob × Ob)) => ((r12 ≤ x4_4 → ∀ v15 : Int32, v15 = x5_3 + 1 → L8 v15 x4_4 x3_5 S13 S14) ∧ (¬ r12 ≤ x4_4 → ∀ v16 : Int32, v16 = x5_3 + 1 → L8 v16 r12 x5_3 S13 S14))) r12 S13 S14) (H : Heap) (locs : List Loc), wV D A s.heap ((oW cy aO (aB 0) e_O_images e_O_tape e_O_reader e_O_plan (S14.map (fun q => q.1 0 0)) e_O_season e_O_dates e_O_line e_O_evening e_O_choices SO) ++ ((bW cy aB (als 0) (atd 0) e_B_mentions e_B_claims S13) ++ ((lsW cy als Sls) ++ ((tW cy atd Std) ++ ((lwW cy aLw SLw) ++ (optPl cy S14)))))) H locs → W p l e (rmA 13 14 4239) s m args below meth c H locs (oC S14) (oS S14) (MQ below (eI D cy A (fun u : Ob × Option ((Nat → Nat → Nat) × Ob × Ob) => ((oW cy aO (aB 0) e_O_images e_O_tape e_O_reader e_O_plan (u.2.map (fun q => q.1 0 0)) e_O_season e_O_dates e_O_line e_O_evening e_O_choices SO) ++ ((bW cy aB (als 0) (atd 0) e_B_mentions e_B_claims u.1) ++ ((lsW cy als Sls) ++ ((tW cy atd Std) ++ ((lwW cy aLw SLw) ++ (optPl cy u.2))))))) (fun (r : Int32) (u : Ob × Option ((Nat → Nat → Nat) × Ob × Ob)) => Q r u.1 u.2)) args s (rmA 13 14 4239).cells (rmA 13 14 4239).slots A) (F0 m 66 ls [.int r12]) := by
              intro r12 S13 S14 hm H locs hw
              refine lv_istore (lv' := [(6, .int r12), (5, .int x5_3), (4, .int x4_4), (3, .int x3_5), (0, .ref (aO 0)), (1, .int x1), (2, .int x2)]) hx hb dX8_learn_66 hl (by decide) rfl (fun ls hl => ?_)
              refine lv_iload hx hb dX8_learn_68 (lv_at hl 0 rfl) ?_
              refine lv_iload hx hb dX8_learn_70 (lv_at hl 2 rfl) ?_
              refine lv_icmp_le (tgt := 82) hx hb dX8_learn_72 (by decide) (fun c17 => ?_) (fun c17 => ?_)
              · have hm := hm.1 c17
                obtain ⟨v15, e_v15⟩ : ∃ z : Int32, z = x5_3 + 1 := ⟨_, rfl⟩
                have hm := hm v15 e_v15
                refine lv_iinc (v := v15) (lv' := [(5, .int v15), (6, .int r12), (4, .int x4_4), (3, .int x3_5), (0, .ref (aO 0)), (1, .int x1), (2, .int x2)]) hx hb dX8_learn_82 hl (k := 1) rfl (by rw [e_v15]; rfl) (by decide) rfl (fun ls hl => ?_)
                refine lv_goto (tgt := 30) hx hb dX8_learn_85 (by decide) ?_
                exact ih8 _ _ _ _ _ hm _ _ _ hw (lv_sub hl [0, 2, 3, 4, 5, 6] rfl)
              · have hm := hm.2 c17
                refine lv_iload hx hb dX8_learn_75 (lv_at hl 0 rfl) ?_
                refine lv_istore (lv' := [(4, .int r12), (6, .int r12), (5, .int x5_3), (3, .int x3_5), (0, .ref (aO 0)), (1, .int x1), (2, .int x2)]) hx hb dX8_learn_77 hl (by decide) rfl (fun ls hl => ?_)
                refine lv_iload hx hb dX8_learn_79 (lv_at hl 2 rfl) ?_
                refine lv_istore_n (lv' := [(3, .int x5_3), (4, .int r12), (6, .int r12), (5, .int x5_3), (0, .ref (aO 0)), (1, .int x1), (2, .int x2)]) hx hb dX8_learn_81 rfl hl (by decide) rfl (fun ls hl => ?_)
                obtain ⟨v16, e_v16⟩ : ∃ z : Int32, z = x5_3 + 1 := ⟨_, rfl⟩
                have hm := hm v16 e_v16
                refine lv_iinc (v := v16) (lv' := [(5, .int v16), (3, .int x5_3), (4, .int r12), (6, .int r12), (0, .ref (aO 0)), (1, .int x1), (2, .int x2)]) hx hb dX8_learn_82 hl (k := 3) rfl (by rw [e_v16]; rfl) (by decide) rfl (fun ls hl => ?_)
                refine lv_goto (tgt := 30) hx hb dX8_learn_85 (by decide) ?_
                exact ih8 _ _ _ _ _ hm _ _ _ hw (lv_sub hl [0, 2, 1, 4, 5, 6] rfl)
            cases hSo : S7 with
            | none =>
              rw [hSo] at hm hw
              rw [w_wik_n] at hm
              refine W.widen (k := 0) (n := 0) (Nat.le_refl 0) (Nat.le_refl 0) ?_
              refine kV_I (As := [.int x5_3, .int x1]) (rest := []) (wc := ((oW cy aO (aB 0) e_O_images e_O_tape e_O_reader e_O_plan none e_O_season e_O_dates e_O_line e_O_evening e_O_choices SO) ++ ((bW cy aB (als 0) (atd 0) e_B_mentions e_B_claims S6) ++ ((lsW cy als Sls) ++ ((tW cy atd Std) ++ (lwW cy aLw SLw)))))) (wr := []) (isC := [0, 1, 2, 3, 4, 5, 6, 7, 8, 9, 10, 11, 12, 13, 14, 15, 16, 17, 18]) (isR := []) hc hw (c_X8_worthIfKnownA hm) lk_X8_252 ⟨rfl, rfl, rfl, rfl, by decide⟩ rfl rfl ⟨by decide, by decide⟩ ⟨by decide, by decide⟩ hl.1 rfl (Nat.le_of_ble_eq_true rfl) rfl dX8_learn_63 (fun r12 u H locs hm hw => ?_)
              obtain ⟨ut, SB9, SP9, SJ9⟩ := u
              exact hk r12 SB9 (some (ut, SP9, SJ9)) hm H locs hw
            | some q =>
              obtain ⟨ut, SP8, SJ8⟩ := q
              rw [hSo] at hm hw
              rw [w_wik_s] at hm
              refine W.widen (k := 14) (n := 4239) (Nat.le_refl 14) (Nat.le_refl 4239) ?_
              refine nV_I (As := [.int x5_3, .int x1]) (rest := []) (wc := ((oW cy aO (aB 0) e_O_images e_O_tape e_O_reader e_O_plan (some ((ut 0) 0)) e_O_season e_O_dates e_O_line e_O_evening e_O_choices SO) ++ ((bW cy aB (als 0) (atd 0) e_B_mentions e_B_claims S6) ++ ((lsW cy als Sls) ++ ((tW cy atd Std) ++ ((pW cy (ut 0) ((ut 1) 0) SP8) ++ ((jW cy (ut 1) SJ8) ++ (lwW cy aLw SLw)))))))) (wr := []) (isC := [0, 1, 2, 3, 4, 5, 6, 7, 8, 9, 10, 11, 12, 13, 19, 20, 21, 22, 23, 24, 25, 26, 27, 28, 29, 30, 31, 32, 14, 15, 16, 17, 18]) (isR := []) hc hw (c_X8_worthIfKnown hm) lk_X8_252 ⟨rfl, rfl, rfl, rfl, by decide⟩ rfl rfl ⟨by decide, by decide⟩ ⟨by decide, by decide⟩ hl.1 rfl (Nat.le_of_ble_eq_true rfl) rfl dX8_learn_63 (fun r12 u H locs hm hw => ?_)
              obtain ⟨SB9, SP9, SJ9⟩ := u
              replace hw : wV D A s.heap ((oW cy aO (aB 0) e_O_images e_O_tape e_O_reader e_O_plan (some ((ut 0) 0)) e_O_season e_O_dates e_O_line e_O_evening e_O_choices SO) ++ ((bW cy aB (als 0) (atd 0) e_B_mentions e_B_claims SB9) ++ ((lsW cy als Sls) ++ ((tW cy atd Std) ++ ((lwW cy aLw SLw) ++ ((pW cy (ut 0) ((ut 1) 0) SP9) ++ (jW cy (ut 1) SJ9))))))) H locs := hw.perm [0, 1, 2, 3, 4, 5, 6, 7, 8, 9, 10, 11, 12, 13, 28, 29, 30, 31, 32, 14, 15, 16, 17, 18, 19, 20, 21, 22, 23, 24, 25, 26, 27] rfl rfl
              exact hk r12 SB9 (some (ut, SP9, SJ9)) hm H locs hw
      · have hm := hm.2 c20
        refine lv_iconst (v := (-1)) hx hb dX8_learn_20 (by decide) ?_
        refine W.widen (k := 14) (n := 4239) (oC_le _) (oS_le _) ?_
        exact retI (u := (SB, none)) hc hw hm dX8_learn_21
set_option maxHeartbeats 4000000 in
set_option maxRecDepth 100000 in
theorem c_X8_learnNA {l : Launch} {D : va_G} {cy : Nat → ClassId} {aO : Nat → Nat} {aB : Nat → Nat} {als : Nat → Nat} {atd : Nat → Nat} {e_O_images : Nat} {e_O_tape : Nat} {e_O_reader : Nat} {e_O_plan : Nat} {e_O_season : Option Nat} {e_O_dates : Nat} {e_O_line : Nat} {e_O_evening : Nat} {e_O_choices : Nat} {e_B_mentions : Nat} {e_B_claims : Nat} {SO : Ob} {SB : Ob} {Sls : (Nat → Option Nat)} {Std : Ob} {x1 : Int32} {x2 : Int32} {Q : Int32 → Ob → Option ((Nat → Nat → Nat) × Ob × Ob) → Prop} (hm : w_X8_learnNA SO SB Sls Std x1 x2 Q) : CtI l yX8_learn cX8_learn 7 (some .int) (rmA 13 14 4239) D cy [.ref (aO 0), .int x1, .int x2] ((oW cy aO (aB 0) e_O_images e_O_tape e_O_reader e_O_plan none e_O_season e_O_dates e_O_line e_O_evening e_O_choices SO) ++ ((bW cy aB (als 0) (atd 0) e_B_mentions e_B_claims SB) ++ ((lsW cy als Sls) ++ ((tW cy atd Std) ++ (optPl cy none))))) (fun u : Ob × Option ((Nat → Nat → Nat) × Ob × Ob) => ((oW cy aO (aB 0) e_O_images e_O_tape e_O_reader e_O_plan (u.2.map (fun q => q.1 0 0)) e_O_season e_O_dates e_O_line e_O_evening e_O_choices SO) ++ ((bW cy aB (als 0) (atd 0) e_B_mentions e_B_claims u.1) ++ ((lsW cy als Sls) ++ ((tW cy atd Std) ++ (optPl cy u.2)))))) (fun (r : Int32) (u : Ob × Option ((Nat → Nat → Nat) × Ob × Ob)) => Q r u.1 u.2) := by
  refine CtI.ofW (by decide) (Nat.le_of_ble_eq_true rfl) ?_
  intro p e s m args below meth c A ls hc hnm hw hl
  have hx := hc.1.1
  have hb := hc.1.2.1
  have hown := hc.1.2.2.2.1
  have hts := hc.1.2.2.2.2
  have hl : lv_has ls 7 [(0, .ref (aO 0)), (1, .int x1), (2, .int x2)] := hl
  obtain ⟨H, hH⟩ : ∃ z, z = s.heap := ⟨_, rfl⟩
  obtain ⟨locs, hLc⟩ : ∃ z : List Loc, z = [] := ⟨_, rfl⟩
  have hw : wV D A s.heap ((oW cy aO (aB 0) e_O_images e_O_tape e_O_reader e_O_plan none e_O_season e_O_dates e_O_line e_O_evening e_O_choices SO) ++ ((bW cy aB (als 0) (atd 0) e_B_mentions e_B_claims SB) ++ ((lsW cy als Sls) ++ ((tW cy atd Std) ++ (optPl cy none))))) H locs := by rw [hH, hLc]; exact hw
  have hgo : W p l e (rmA 13 14 4239) s m args below meth c H locs (oC none) (oS none) (MQ below (eI D cy A (fun u : Ob × Option ((Nat → Nat → Nat) × Ob × Ob) => ((oW cy aO (aB 0) e_O_images e_O_tape e_O_reader e_O_plan (u.2.map (fun q => q.1 0 0)) e_O_season e_O_dates e_O_line e_O_evening e_O_choices SO) ++ ((bW cy aB (als 0) (atd 0) e_B_mentions e_B_claims u.1) ++ ((lsW cy als Sls) ++ ((tW cy atd Std) ++ (optPl cy u.2)))))) (fun (r : Int32) (u : Ob × Option ((Nat → Nat → Nat) × Ob × Ob)) => Q r u.1 u.2)) args s (rmA 13 14 4239).cells (rmA 13 14 4239).slots A) (F0 m 0 ls []) := ?hgo
  · rw [hH, hLc] at hgo; exact hgo
  refine lv_aload_n hx hb dX8_learn_0 rfl (lv_at hl 0 rfl) ?_
  refine gF (k := 0) hc hw inX8 rfl 0 rfl (by decide) (gm 415 (by decide +kernel) rfl) rfl dX8_learn_1 ?_
  refine lv_iload_n hx hb dX8_learn_4 rfl (lv_at hl 1 rfl) ?_
  refine nVN_I (As := [.int x1]) (rest := []) (wc := (bW cy aB (als 0) (atd 0) e_B_mentions e_B_claims SB)) (wr := ((oW cy aO (aB 0) e_O_images e_O_tape e_O_reader e_O_plan none e_O_season e_O_dates e_O_line e_O_evening e_O_choices SO) ++ ((lsW cy als Sls) ++ ((tW cy atd Std) ++ (optPl cy none))))) (isC := [3, 4, 5, 6, 7, 8]) (isR := [0, 1, 2, 9, 10, 11, 12, 13]) hc hw (c_X6_seats hm) lk_X8_134 ⟨rfl, rfl, rfl, rfl, by decide⟩ rfl rfl ⟨by decide, by decide⟩ ⟨Nat.le_of_ble_eq_true rfl, Nat.le_of_ble_eq_true rfl⟩ hl.1 rfl (Nat.le_of_ble_eq_true rfl) rfl dX8_learn_5 (fun r1 _ H locs hm hw => ?_)
  have hw : wV D A s.heap ((oW cy aO (aB 0) e_O_images e_O_tape e_O_reader e_O_plan none e_O_season e_O_dates e_O_line e_O_evening e_O_choices SO) ++ ((bW cy aB (als 0) (atd 0) e_B_mentions e_B_claims SB) ++ ((lsW cy als Sls) ++ ((tW cy atd Std) ++ (optPl cy none))))) H locs := hw.perm [0, 1, 2, 8, 9, 10, 11, 12, 13, 3, 4, 5, 6, 7] rfl rfl
  refine lv_if_eq (tgt := 20) hx hb dX8_learn_8 (by decide) (fun c22 => ?_) (fun c22 => ?_)
  · have hm := hm.1 c22
    refine lv_iconst (v := (-1)) hx hb dX8_learn_20 (by decide) ?_
    refine W.widen (k := 14) (n := 4239) (oC_le _) (oS_le _) ?_
    exact retI (u := (SB, none)) hc hw hm dX8_learn_21
  · have hm := hm.2 c22
    refine lv_iload_n hx hb dX8_learn_11 rfl (lv_at hl 2 rfl) ?_
    refine lv_if_lt (tgt := 20) hx hb dX8_learn_12 (by decide) (fun c21 => ?_) (fun c21 => ?_)
    · have hm := hm.1 c21
      refine lv_iconst (v := (-1)) hx hb dX8_learn_20 (by decide) ?_
      refine W.widen (k := 14) (n := 4239) (oC_le _) (oS_le _) ?_
      exact retI (u := (SB, none)) hc hw hm dX8_learn_21
    · have hm := hm.2 c21
      refine lv_iload_n hx hb dX8_learn_15 rfl (lv_at hl 2 rfl) ?_
      refine lv_iconst (v := 1) hx hb dX8_learn_16 (by decide) ?_
      refine lv_icmp_le (tgt := 22) hx hb dX8_learn_17 (by decide) (fun c20 => ?_) (fun c20 => ?_)
      · have hm := hm.1 c20
        refine lv_iconst (v := (-1)) hx hb dX8_learn_22 (by decide) ?_
        refine lv_istore_n (lv' := [(3, .int (-1)), (0, .ref (aO 0)), (1, .int x1), (2, .int x2)]) hx hb dX8_learn_23 rfl hl (by decide) rfl (fun ls hl => ?_)
        refine lv_iconst (v := (-1)) hx hb dX8_learn_24 (by decide) ?_
        refine lv_istore (lv' := [(4, .int (-1)), (3, .int (-1)), (0, .ref (aO 0)), (1, .int x1), (2, .int x2)]) hx hb dX8_learn_25 hl (by decide) rfl (fun ls hl => ?_)
        refine lv_iconst (v := 0) hx hb dX8_learn_27 (by decide) ?_
        refine lv_istore (lv' := [(5, .int 0), (4, .int (-1)), (3, .int (-1)), (0, .ref (aO 0)), (1, .int x1), (2, .int x2)]) hx hb dX8_learn_28 hl (by decide) rfl (fun ls hl => ?_)
        refine wl5_ind (G := fun (x5_3 : Int32) (x4_4 : Int32) (x3_5 : Int32) (S6 : Ob) (S7 : (Option ((Nat → Nat → Nat) × Ob × Ob))) => ∀ (H : Heap) (locs : List Loc) (ls : Array Slot), wV D A s.heap ((oW cy aO (aB 0) e_O_images e_O_tape e_O_reader e_O_plan (S7.map (fun q => q.1 0 0)) e_O_season e_O_dates e_O_line e_O_evening e_O_choices SO) ++ ((bW cy aB (als 0) (atd 0) e_B_mentions e_B_claims S6) ++ ((lsW cy als Sls) ++ ((tW cy atd Std) ++ (optPl cy S7))))) H locs → lv_has ls 7 [(5, .int x5_3), (4, .int x4_4), (3, .int x3_5), (0, .ref (aO 0)), (1, .int x1), (2, .int x2)] → W p l e (rmA 13 14 4239) s m args below meth c H locs (oC S7) (oS S7) (MQ below (eI D cy A (fun u : Ob × Option ((Nat → Nat → Nat) × Ob × Ob) => ((oW cy aO (aB 0) e_O_images e_O_tape e_O_reader e_O_plan (u.2.map (fun q => q.1 0 0)) e_O_season e_O_dates e_O_line e_O_evening e_O_choices SO) ++ ((bW cy aB (als 0) (atd 0) e_B_mentions e_B_claims u.1) ++ ((lsW cy als Sls) ++ ((tW cy atd Std) ++ (optPl cy u.2)))))) (fun (r : Int32) (u : Ob × Option ((Nat → Nat → Nat) × Ob × Ob)) => Q r u.1 u.2)) args s (rmA 13 14 4239).cells (rmA 13 14 4239).slots A) (F0 m 30 ls [])) ?_ _ _ _ _ _ hm H locs ls hw (lv_sub hl [0, 1, 2, 3, 4, 5] rfl)
        intro L8 ih8 x5_3 x4_4 x3_5 S6 S7 hm H locs ls hw hl
        refine lv_iload hx hb dX8_learn_30 (lv_at hl 0 rfl) ?_
        refine lv_aload_n hx hb dX8_learn_32 rfl (lv_at hl 3 rfl) ?_
        refine gF (k := 0) hc hw inX8 rfl 0 rfl (by decide) (gm 415 (by decide +kernel) rfl) rfl dX8_learn_33 ?_
        refine gN (k := 4) (host := "OlderTale") hc hw inX6 rfl 3 rfl (by decide) (nmm 212 (by decide +kernel)) rfl dX8_learn_36 ?_
        refine lv_icmp_ge (tgt := 88) hx hb dX8_learn_39 (by decide) (fun c19 => ?_) (fun c19 => ?_)
        · have hm := hm.1 c19
          refine lv_iload_n hx hb dX8_learn_88 rfl (lv_at hl 5 rfl) ?_
          refine lv_if_ne (tgt := 96) hx hb dX8_learn_89 (by decide) (fun c9 => ?_) (fun c9 => ?_)
          · have hm := hm.1 c9
            refine lv_iload hx hb dX8_learn_96 (lv_at hl 1 rfl) ?_
            refine W.widen (k := 14) (n := 4239) (oC_le _) (oS_le _) ?_
            exact retI (u := (S6, S7)) hc hw hm dX8_learn_98
          · have hm := hm.2 c9
            refine lv_iload_n hx hb dX8_learn_92 rfl (lv_at hl 2 rfl) ?_
            refine lv_goto (tgt := 98) hx hb dX8_learn_93 (by decide) ?_
            refine W.widen (k := 14) (n := 4239) (oC_le _) (oS_le _) ?_
            exact retI (u := (S6, S7)) hc hw hm dX8_learn_98
        · have hm := hm.2 c19
          refine lv_aload_n hx hb dX8_learn_42 rfl (lv_at hl 3 rfl) ?_
          refine gF (k := 0) hc hw inX8 rfl 0 rfl (by decide) (gm 415 (by decide +kernel) rfl) rfl dX8_learn_43 ?_
          refine gN (k := 3) (host := "OlderTale") hc hw inX6 rfl 3 rfl (by decide) (nmm 210 (by decide +kernel)) rfl dX8_learn_46 ?_
          refine lv_iload hx hb dX8_learn_49 (lv_at hl 0 rfl) ?_
          obtain ⟨c10, hm⟩ := hm
          refine aI hc hw 7 rfl c10 rfl dX8_learn_51 ?_
          refine lv_iload_n hx hb dX8_learn_52 rfl (lv_at hl 4 rfl) ?_
          refine lv_ishr hx hb dX8_learn_53 ?_
          refine lv_iconst (v := 1) hx hb dX8_learn_54 (by decide) ?_
          refine lv_iand hx hb dX8_learn_55 ?_
          refine lv_if_ne (tgt := 82) hx hb dX8_learn_56 (by decide) (fun c18 => ?_) (fun c18 => ?_)
          · have hm := hm.1 c18
            obtain ⟨v11, e_v11⟩ : ∃ z : Int32, z = x5_3 + 1 := ⟨_, rfl⟩
            have hm := hm v11 e_v11
            refine lv_iinc (v := v11) (lv' := [(5, .int v11), (4, .int x4_4), (3, .int x3_5), (0, .ref (aO 0)), (1, .int x1), (2, .int x2)]) hx hb dX8_learn_82 hl (k := 0) rfl (by rw [e_v11]; rfl) (by decide) rfl (fun ls hl => ?_)
            refine lv_goto (tgt := 30) hx hb dX8_learn_85 (by decide) ?_
            exact ih8 _ _ _ _ _ hm _ _ _ hw (lv_sub hl [0, 1, 2, 3, 4, 5] rfl)
          · have hm := hm.2 c18
            refine lv_aload_n hx hb dX8_learn_59 rfl (lv_at hl 3 rfl) ?_
            refine lv_iload hx hb dX8_learn_60 (lv_at hl 0 rfl) ?_
            refine lv_iload_n hx hb dX8_learn_62 rfl (lv_at hl 4 rfl) ?_
            have hk : ∀ (r12 : Int32) (S13 : Ob) (S14 : Option ((Nat → Nat → Nat) × Ob × Ob)) (_ : (fun (r12 : Int32) (S13 : Ob) (S14 : Option ((Nat → Nat → Nat) × Ob × Ob)) => ((r12 ≤ x4_4 → ∀ v15 : Int32, v15 = x5_3 + 1 → L8 v15 x4_4 x3_5 S13 S14) ∧ (¬ r12 ≤ x4_4 → ∀ v16 : Int32, v16 = x5_3 + 1 → L8 v16 r12 x5_3 S13 S14))) r12 S13 S14) (H : Heap) (locs : List Loc), wV D A s.heap ((oW cy aO (aB 0) e_O_images e_O_tape e_O_reader e_O_plan (S14.map (fun q => q.1 0 0)) e_O_season e_O_dates e_O_line e_O_evening e_O_choices SO) ++ ((bW cy aB (als 0) (atd 0) e_B_mentions e_B_claims S13) ++ ((lsW cy als Sls) ++ ((tW cy atd Std) ++ (optPl cy S14))))) H locs → W p l e (rmA 13 14 4239) s m args below meth c H locs (oC S14) (oS S14) (MQ below (eI D cy A (fun u : Ob × Option ((Nat → Nat → Nat) × Ob × Ob) => ((oW cy aO (aB 0) e_O_images e_O_tape e_O_reader e_O_plan (u.2.map (fun q => q.1 0 0)) e_O_season e_O_dates e_O_line e_O_evening e_O_choices SO) ++ ((bW cy aB (als 0) (atd 0) e_B_mentions e_B_claims u.1) ++ ((lsW cy als Sls) ++ ((tW cy atd Std) ++ (optPl cy u.2)))))) (fun (r : Int32) (u : Ob × Option ((Nat → Nat → Nat) × Ob × Ob)) => Q r u.1 u.2)) args s (rmA 13 14 4239).cells (rmA 13 14 4239).slots A) (F0 m 66 ls [.int r12]) := by
              intro r12 S13 S14 hm H locs hw
              refine lv_istore (lv' := [(6, .int r12), (5, .int x5_3), (4, .int x4_4), (3, .int x3_5), (0, .ref (aO 0)), (1, .int x1), (2, .int x2)]) hx hb dX8_learn_66 hl (by decide) rfl (fun ls hl => ?_)
              refine lv_iload hx hb dX8_learn_68 (lv_at hl 0 rfl) ?_
              refine lv_iload hx hb dX8_learn_70 (lv_at hl 2 rfl) ?_
              refine lv_icmp_le (tgt := 82) hx hb dX8_learn_72 (by decide) (fun c17 => ?_) (fun c17 => ?_)
              · have hm := hm.1 c17
                obtain ⟨v15, e_v15⟩ : ∃ z : Int32, z = x5_3 + 1 := ⟨_, rfl⟩
                have hm := hm v15 e_v15
                refine lv_iinc (v := v15) (lv' := [(5, .int v15), (6, .int r12), (4, .int x4_4), (3, .int x3_5), (0, .ref (aO 0)), (1, .int x1), (2, .int x2)]) hx hb dX8_learn_82 hl (k := 1) rfl (by rw [e_v15]; rfl) (by decide) rfl (fun ls hl => ?_)
                refine lv_goto (tgt := 30) hx hb dX8_learn_85 (by decide) ?_
                exact ih8 _ _ _ _ _ hm _ _ _ hw (lv_sub hl [0, 2, 3, 4, 5, 6] rfl)
              · have hm := hm.2 c17
                refine lv_iload hx hb dX8_learn_75 (lv_at hl 0 rfl) ?_
                refine lv_istore (lv' := [(4, .int r12), (6, .int r12), (5, .int x5_3), (3, .int x3_5), (0, .ref (aO 0)), (1, .int x1), (2, .int x2)]) hx hb dX8_learn_77 hl (by decide) rfl (fun ls hl => ?_)
                refine lv_iload hx hb dX8_learn_79 (lv_at hl 2 rfl) ?_
                refine lv_istore_n (lv' := [(3, .int x5_3), (4, .int r12), (6, .int r12), (5, .int x5_3), (0, .ref (aO 0)), (1, .int x1), (2, .int x2)]) hx hb dX8_learn_81 rfl hl (by decide) rfl (fun ls hl => ?_)
                obtain ⟨v16, e_v16⟩ : ∃ z : Int32, z = x5_3 + 1 := ⟨_, rfl⟩
                have hm := hm v16 e_v16
                refine lv_iinc (v := v16) (lv' := [(5, .int v16), (3, .int x5_3), (4, .int r12), (6, .int r12), (0, .ref (aO 0)), (1, .int x1), (2, .int x2)]) hx hb dX8_learn_82 hl (k := 3) rfl (by rw [e_v16]; rfl) (by decide) rfl (fun ls hl => ?_)
                refine lv_goto (tgt := 30) hx hb dX8_learn_85 (by decide) ?_
                exact ih8 _ _ _ _ _ hm _ _ _ hw (lv_sub hl [0, 2, 1, 4, 5, 6] rfl)
            cases hSo : S7 with
            | none =>
              rw [hSo] at hm hw
              rw [w_wikN_n] at hm
              refine W.widen (k := 0) (n := 0) (Nat.le_refl 0) (Nat.le_refl 0) ?_
              refine kV_I (As := [.int x5_3, .int x1]) (rest := []) (wc := ((oW cy aO (aB 0) e_O_images e_O_tape e_O_reader e_O_plan none e_O_season e_O_dates e_O_line e_O_evening e_O_choices SO) ++ ((bW cy aB (als 0) (atd 0) e_B_mentions e_B_claims S6) ++ ((lsW cy als Sls) ++ (tW cy atd Std))))) (wr := []) (isC := [0, 1, 2, 3, 4, 5, 6, 7, 8, 9, 10, 11, 12, 13]) (isR := []) hc hw (c_X8_worthIfKnownNA hm) lk_X8_252 ⟨rfl, rfl, rfl, rfl, by decide⟩ rfl rfl ⟨by decide, by decide⟩ ⟨by decide, by decide⟩ hl.1 rfl (Nat.le_of_ble_eq_true rfl) rfl dX8_learn_63 (fun r12 u H locs hm hw => ?_)
              obtain ⟨ut, SB9, SP9, SJ9⟩ := u
              exact hk r12 SB9 (some (ut, SP9, SJ9)) hm H locs hw
            | some q =>
              obtain ⟨ut, SP8, SJ8⟩ := q
              rw [hSo] at hm hw
              rw [w_wikN_s] at hm
              refine W.widen (k := 14) (n := 4239) (Nat.le_refl 14) (Nat.le_refl 4239) ?_
              refine nV_I (As := [.int x5_3, .int x1]) (rest := []) (wc := ((oW cy aO (aB 0) e_O_images e_O_tape e_O_reader e_O_plan (some ((ut 0) 0)) e_O_season e_O_dates e_O_line e_O_evening e_O_choices SO) ++ ((bW cy aB (als 0) (atd 0) e_B_mentions e_B_claims S6) ++ ((lsW cy als Sls) ++ ((tW cy atd Std) ++ ((pW cy (ut 0) ((ut 1) 0) SP8) ++ (jW cy (ut 1) SJ8))))))) (wr := []) (isC := [0, 1, 2, 3, 4, 5, 6, 7, 8, 9, 10, 11, 12, 13, 14, 15, 16, 17, 18, 19, 20, 21, 22, 23, 24, 25, 26, 27]) (isR := []) hc hw (c_X8_worthIfKnownN hm) lk_X8_252 ⟨rfl, rfl, rfl, rfl, by decide⟩ rfl rfl ⟨by decide, by decide⟩ ⟨by decide, by decide⟩ hl.1 rfl (Nat.le_of_ble_eq_true rfl) rfl dX8_learn_63 (fun r12 u H locs hm hw => ?_)
              obtain ⟨SB9, SP9, SJ9⟩ := u
              replace hw : wV D A s.heap ((oW cy aO (aB 0) e_O_images e_O_tape e_O_reader e_O_plan (some ((ut 0) 0)) e_O_season e_O_dates e_O_line e_O_evening e_O_choices SO) ++ ((bW cy aB (als 0) (atd 0) e_B_mentions e_B_claims SB9) ++ ((lsW cy als Sls) ++ ((tW cy atd Std) ++ ((pW cy (ut 0) ((ut 1) 0) SP9) ++ (jW cy (ut 1) SJ9)))))) H locs := hw.perm [0, 1, 2, 3, 4, 5, 6, 7, 8, 9, 10, 11, 12, 13, 14, 15, 16, 17, 18, 19, 20, 21, 22, 23, 24, 25, 26, 27] rfl rfl
              exact hk r12 SB9 (some (ut, SP9, SJ9)) hm H locs hw
      · have hm := hm.2 c20
        refine lv_iconst (v := (-1)) hx hb dX8_learn_20 (by decide) ?_
        refine W.widen (k := 14) (n := 4239) (oC_le _) (oS_le _) ?_
        exact retI (u := (SB, none)) hc hw hm dX8_learn_21
