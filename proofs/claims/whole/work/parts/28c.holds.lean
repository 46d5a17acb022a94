/-! ===== the class runs a law's code ===== -/
set_option maxHeartbeats 2000000 in
theorem s_run {SJ : Ob} {SLw : Lw} {φ : Nat → Int} (hφ : ∀ k, k < 8 → SJ.2 0 k = iZ (φ k) ∧ sml (φ k)) {e a0 len : Nat} (hl : SLw.1 2 = len) (hl3 : SLw.1 3 = len) (h424 : len ≤ 424) (hel : e ≤ len) (ha0 : a0 < 2 ^ 31) {res : Option (Int × Int)} (hres : xR (SLw.2 2) (SLw.2 3) φ e a0 [] = some (res.map (fun p => [p.2, p.1]))) (h2 : SJ.1 2 = 0) {Q : Int32 → Ob → Prop} (hq0 : res = none → ∀ S8 : Ob, S8.2 0 = SJ.2 0 → Q 0 S8) (hq1 : ∀ v w, res = some (v, w) → ∀ S8 : Ob, S8.2 0 = SJ.2 0 → S8.2 1 0 = iZ v → sm2 v → (w = 0 → Q 0 S8) ∧ (w ≠ 0 → Q 1 S8)) :
    ∃ n, wl3 (fun L9 (x5_6 : Int32) (x3_7 : Int32) (S8 : Ob) => jn (fun (z10 : Unit) => ((¬ (S8.1 2) = 2 → Q 0 S8) ∧ ((S8.1 2) = 2 → (((S8.2 1 1) = 0 → Q 0 S8) ∧ (¬ (S8.2 1 1) = 0 → Q 1 S8))))) (fun J11 => ((424 ≤ x5_6 → J11 ()) ∧ (¬ 424 ≤ x5_6 → ((nI e ≤ x3_7 → J11 ()) ∧ (¬ nI e ≤ x3_7 → vp_in x3_7 (SLw.1 2) ∧ ∀ v15 : Int32, v15 = (SLw.2 2 (Int32.toNatClampNeg x3_7)) → vp_in x3_7 (SLw.1 3) ∧ ∀ v17 : Int32, v17 = (SLw.2 3 (Int32.toNatClampNeg x3_7)) → ∀ v18 : Int32, v18 = x3_7 + 1 → ((¬ v15 = 281 → ((¬ v15 = 282 → jn (fun (z19 : Unit) => w_X1_top S8 (fun (r21 : Int32) => jn (fun (t23 : Int32) => jn (fun (t25 : Int32) => jn (fun (t27 : Int32) => ((t27 = 0 → ∀ S29 : Ob, S29 = uS S8 2 ((S8.1 2) - 1) → ∀ v30 : Int32, v30 = x5_6 + 1 → L9 v30 v18 S29) ∧ (¬ t27 = 0 → ∀ v31 : Int32, v31 = (if v18 < v17 then v17 else v18) → ∀ v32 : Int32, v32 = x5_6 + 1 → L9 v32 v31 S8))) (fun J28 => ((¬ t23 = t25 → J28 0) ∧ (t23 = t25 → J28 1)))) (fun J26 => ((¬ v15 = 260 → J26 0) ∧ (v15 = 260 → J26 1)))) (fun J24 => ((r21 = 0 → J24 0) ∧ (¬ r21 = 0 → J24 1))))) (fun J20 => ((v15 = 261 → J20 ()) ∧ (¬ v15 = 261 → ((¬ v15 = 260 → ((¬ v15 = 262 → w_X1_joins S8 v15 (fun (r37 : Int32) (S38 : Ob) => ((¬ r37 = 0 → ∀ v40 : Int32, v40 = x5_6 + 1 → L9 v40 v18 S38) ∧ (r37 = 0 → Q 0 S38)))) ∧ (v15 = 262 → w_X1_top S8 (fun (r42 : Int32) => ∀ S44 : Ob, S44 = uS S8 2 ((S8.1 2) - 1) → w_X1_push S44 (1 - r42) (fun (S45 : Ob) => ∀ v47 : Int32, v47 = x5_6 + 1 → L9 v47 v18 S45))))) ∧ (v15 = 260 → J20 ())))))) ∧ (v15 = 282 → jn (fun (t51 : Int32) => w_X1_push S8 t51 (fun (S53 : Ob) => ∀ v55 : Int32, v55 = x5_6 + 1 → L9 v55 v18 S53)) (fun J52 => jn (fun (z56 : Unit) => J52 0) (fun J57 => ((v17 < 0 → J57 ()) ∧ (¬ v17 < 0 → ((8 ≤ v17 → J57 ()) ∧ (¬ 8 ≤ v17 → vp_in v17 8 ∧ J52 (S8.2 0 (Int32.toNatClampNeg v17))))))))))) ∧ (v15 = 281 → w_X1_push S8 v17 (fun (S62 : Ob) => ∀ v64 : Int32, v64 = x5_6 + 1 → L9 v64 v18 S62))))))))) n 0 (nI a0) SJ := by
  refine wl3_i (fun x5 x3 S8 => ∃ j a k, x5 = nI j ∧ x3 = nI a ∧ j ≤ a ∧ j ≤ 424 ∧ a < 2 ^ 31 ∧ S8.1 2 = nI k.length ∧ k.length ≤ 54 ∧ stk (S8.2 1) k ∧ bds (1000000000 + j) k ∧ S8.2 0 = SJ.2 0 ∧ xR (SLw.2 2) (SLw.2 3) φ e a k = some (res.map (fun p => [p.2, p.1]))) (fun x5 _ _ => 425 - x5.toNatClampNeg) ?_ _ _ _ ⟨0, a0, [], rfl, rfl, Nat.zero_le _, Nat.zero_le _, ha0, h2, Nat.zero_le _, True.intro, True.intro, rfl, hres⟩
  rintro L x5 x3 S8 ⟨j, a, k, rfl, rfl, hja, hj, ha, hk2, hk54, hst, hbd, h80, hx⟩ ih
  rw [jn_d]
  have fin : e ≤ a → ((¬ (S8.1 2) = 2 → Q 0 S8) ∧ ((S8.1 2) = 2 → (((S8.2 1 1) = 0 → Q 0 S8) ∧ (¬ (S8.2 1 1) = 0 → Q 1 S8)))) := by
    intro hea
    rw [xR_e hea] at hx
    cases res with
    | none => exact absurd hx (by simp)
    | some p =>
      have hk : k = [p.2, p.1] := by
        injection hx with hx
        injection hx with hx
      subst hk
      have s1 : S8.2 1 1 = iZ p.2 := hst.1
      have s0 : S8.2 1 0 = iZ p.1 := hst.2.1
      have bb := hbd.1
      have bc := hbd.2.1
      obtain ⟨q0, q1⟩ := hq1 p.1 p.2 rfl S8 h80 s0 (by unfold sm2; omega)
      refine rb_y hk2 ?_
      rw [s1]
      exact zeq_b _ 0 (by omega) q0 q1
  refine le_b 424 j (by decide) (by omega) (fun c => fin (by omega)) (fun c => le_b e a (by omega) (by omega) (fun c2 => fin c2) (fun c2 => ?_))
  rw [hl, hl3, nI_clamp (by omega)]
  rw [xR_s c2] at hx
  have hvi : vp_in (nI a) len := vp_in_nI (by omega) (by omega)
  refine ⟨hvi, ?_⟩
  rintro v15 rfl
  refine ⟨hvi, ?_⟩
  rintro v17 rfl v18 rfl
  rw [nI_1, nI_1]
  have nxt : ∀ (a' : Nat) (k' : List Int) (S' : Ob), xst (SLw.2 2) (SLw.2 3) φ a k = some (some (a', k')) → a + 1 ≤ a' → a' < 2 ^ 31 → S'.1 2 = nI k'.length → k'.length ≤ 54 → stk (S'.2 1) k' → bds (1000000000 + (j + 1 : Nat)) k' → S'.2 0 = SJ.2 0 → ∀ v : Int32, v = nI (j + 1) → L v (nI a') S' := by
    rintro a' k' S' hs g1 g2 g3 g4 g5 g6 g7 v rfl
    rw [hs] at hx
    exact ih _ _ _ ⟨j + 1, a', k', rfl, rfl, by omega, by omega, g2, g3, g4, g5, g6, g7, hx⟩ (by rw [nI_clamp (by omega), nI_clamp (by omega)]; omega)
  have hne : xst (SLw.2 2) (SLw.2 3) φ a k ≠ none := fun q => by rw [q] at hx; exact absurd hx (by simp)
  have hb1 : bds (1000000000 + (j + 1 : Nat)) k := bds_le (by omega) hbd
  have psh : ∀ (z : Int) (w : Int32), w = iZ z → k.length < 54 → (-(1000000000 + (j + 1 : Nat)) ≤ z ∧ z ≤ 1000000000 + (j + 1 : Nat)) → xst (SLw.2 2) (SLw.2 3) φ a k = some (some (a + 1, z :: k)) → w_X1_push S8 w (fun S62 => ∀ v64 : Int32, v64 = nI (j + 1) → L v64 (nI (a + 1)) S62) := by
    rintro z w rfl hlt hz hs
    refine s_push hk2 hlt (nxt _ _ _ hs (by omega) (by omega) rfl (by rw [List.length_cons]; omega) ⟨?_, stk_cg hst (fun i hi => ?_)⟩ ⟨hz, hb1⟩ ?_)
    · rw [uS_2]; exact uA_h
    · rw [uS_2]; exact uA_i (by omega)
    · rw [uS_2, uA_o (by decide)]; exact h80
  refine ⟨fun n281 => ⟨fun n282 => ?_, fun e282 => ?_⟩, fun e281 => ?_⟩
  · cases k with
    | nil =>
      exfalso
      apply hne
      unfold xst
      rw [if_neg n281, if_neg n282]
      by_cases c4 : SLw.2 2 a = 261 ∨ SLw.2 2 a = 260
      · rw [if_pos c4, if_pos rfl]
      · rw [if_neg c4]
        by_cases c5 : SLw.2 2 a = 262
        · rw [if_pos c5, if_pos rfl]
        · rw [if_neg c5, if_pos (by decide)]
    | cons z k' =>
      have hlen : (z :: k').length = k'.length + 1 := List.length_cons
      have hz := hbd.1
      have hzt : S8.2 1 k'.length = iZ z := hst.1
      have h1 : (nI (k'.length + 1) - 1 : Int32) = nI k'.length := pk_sub (b := 1) (by omega)
      have hk3 : S8.1 2 = nI (k'.length + 1) := hk2
      rw [hlen] at hk54
      refine jn_g (fun J => (SLw.2 2 a = 261 ∨ SLw.2 2 a = 260) → J ()) (fun c4 => ?_) (fun J hJ => ⟨fun c => hJ (Or.inl c), fun c => ⟨fun c' => ⟨fun c'' => ?_, fun c'' => ?_⟩, fun c' => hJ (Or.inr c')⟩⟩)
      · have hs : xst (SLw.2 2) (SLw.2 3) φ a (z :: k') = if (z ≠ 0 ↔ SLw.2 2 a = 260) then some (some (max (a + 1) (SLw.2 3 a).toNatClampNeg, z :: k')) else some (some (a + 1, k')) := by
          unfold xst
          rw [if_neg n281, if_neg n282, if_pos c4, if_neg (by simp)]
          rfl
        refine s_top hk3 (by omega) ?_
        rw [hzt]
        refine jn_g (fun J => J (bI (!decide (z = 0)))) ?_ (fun J hJ => zeq_b z 0 (by omega) (fun q => by rw [decide_eq_true q] at hJ; exact hJ) (fun q => by rw [decide_eq_false q] at hJ; exact hJ))
        refine jn_g (fun J => J (bI (decide (SLw.2 2 a = 260)))) ?_ (fun J hJ => ⟨fun q => by rw [decide_eq_false q] at hJ; exact hJ, fun q => by rw [decide_eq_true q] at hJ; exact hJ⟩)
        by_cases c5 : (z ≠ 0 ↔ SLw.2 2 a = 260)
        · rw [if_pos c5] at hs
          have eb : (!decide (z = 0)) = decide (SLw.2 2 a = 260) := by
            by_cases q1 : z = 0 <;> by_cases q2 : SLw.2 2 a = 260 <;> simp_all
          refine jn_g (fun J => J 1) (br_n (by decide) ?_) (fun J hJ => rb_y (by rw [eb]) hJ)
          have e1 : (SLw.2 3 a).toNatClampNeg = (SLw.2 3 a).toInt.toNat := rfl
          have e2 : (SLw.2 3 a).toInt < 2147483648 := Int32.toInt_lt _
          have jmp : (if nI (a + 1) < SLw.2 3 a then SLw.2 3 a else nI (a + 1)) = nI (max (a + 1) (SLw.2 3 a).toNatClampNeg) := by
            by_cases h : nI (a + 1) < SLw.2 3 a
            · rw [if_pos h]
              rw [fa_lt, nI_toInt (by omega)] at h
              rw [Nat.max_eq_right (by rw [e1]; omega), e1, iZ_n, Int.toNat_of_nonneg (by omega)]
              exact iZ_as _
            · rw [if_neg h]
              rw [fa_lt, nI_toInt (by omega)] at h
              rw [Nat.max_eq_left (by rw [e1]; omega)]
          rintro v31 rfl
          rw [jmp]
          exact nxt _ _ S8 hs (Nat.le_max_left _ _) (by rw [e1]; omega) hk2 hk54 hst hb1 h80
        · rw [if_neg c5] at hs
          have eb : ¬ bI (!decide (z = 0)) = bI (decide (SLw.2 2 a = 260)) := by
            by_cases q1 : z = 0
            · by_cases q2 : SLw.2 2 a = 260
              · rw [decide_eq_true q1, decide_eq_true q2]; decide
              · exact absurd ⟨fun h => absurd q1 h, fun h => absurd h q2⟩ c5
            · by_cases q2 : SLw.2 2 a = 260
              · exact absurd ⟨fun _ => q2, fun _ => q1⟩ c5
              · rw [decide_eq_false q1, decide_eq_false q2]; decide
          refine jn_g (fun J => J 0) (br_y rfl ?_) (fun J hJ => rb_n eb hJ)
          rintro S29 rfl
          rw [hk3, h1]
          exact nxt _ _ (uS S8 2 (nI k'.length)) hs (by omega) (by omega) rfl (by omega) hst.2 hb1.2 h80
      · cases k' with
        | nil =>
          exfalso
          apply hne
          unfold xst
          rw [if_neg n281, if_neg n282, if_neg (fun q => q.elim c c'), if_neg c'', if_pos (show [z].length < 2 from (by decide : (1 : Nat) < 2))]
        | cons y k2 =>
          have hy := hbd.2.1
          have hs : xst (SLw.2 2) (SLw.2 3) φ a (z :: y :: k2) = (xop (SLw.2 2 a) y z).elim (some none) (fun v => some (some (a + 1, v :: k2))) := by
            unfold xst
            rw [if_neg n281, if_neg n282, if_neg (fun q => q.elim c c'), if_neg c'', if_neg (by rw [List.length_cons, List.length_cons]; omega)]
            rfl
          rw [List.length_cons] at hk54
          refine s_joins (h := k2.length) hk3 (by omega) (a := y) (b := z) (by unfold sm2; omega) (by unfold sm2; omega) hst.2.1 hst.1 (fun ex => ?_) (fun v ex hv => ?_)
          · rw [ex] at hs
            rw [hs] at hx
            refine rb_y rfl (hq0 ?_ S8 h80)
            cases res with
            | none => rfl
            | some p => exact absurd hx (by simp)
          · rw [ex] at hs
            unfold sml at hv
            refine rb_n (by decide) (nxt _ _ _ hs (by omega) (by omega) rfl (by rw [List.length_cons]; omega) ⟨?_, stk_cg hst.2.2 (fun i hi => ?_)⟩ ⟨by omega, hb1.2.2⟩ ?_)
            · rw [uS_2, uA_h]
            · rw [uS_2, uA_i (by omega)]; rfl
            · rw [uS_2, uA_o (by decide)]; exact h80
      · have hs : xst (SLw.2 2) (SLw.2 3) φ a (z :: k') = some (some (a + 1, (1 - z) :: k')) := by
          unfold xst
          rw [c'', if_neg (by decide), if_neg (by decide), if_neg (by decide), if_pos rfl, if_neg (by simp)]
          rfl
        refine s_top hk3 (by omega) ?_
        rintro S44 rfl
        rw [hk3, h1, hzt]
        refine s_push (h := k'.length) rfl (by omega) (nxt _ _ _ hs (by omega) (by omega) rfl hk54 ⟨?_, stk_cg hst.2 (fun i hi => ?_)⟩ ⟨by omega, hb1.2⟩ ?_)
        · rw [uS_2, uA_h, iZ_1, iZ_sub]
        · rw [uS_2, uA_i (by omega)]; rfl
        · rw [uS_2, uA_o (by decide)]; exact h80
  · have hs : xst (SLw.2 2) (SLw.2 3) φ a k = if k.length < 54 ∧ 0 ≤ (SLw.2 3 a).toInt ∧ (SLw.2 3 a).toInt < 8 then some (some (a + 1, φ (SLw.2 3 a).toNatClampNeg :: k)) else none := by
      unfold xst
      rw [e282, if_neg (by decide), if_pos rfl]
    by_cases c3 : k.length < 54 ∧ 0 ≤ (SLw.2 3 a).toInt ∧ (SLw.2 3 a).toInt < 8
    · rw [if_pos c3] at hs
      obtain ⟨n, hn, en⟩ : ∃ n, n < 8 ∧ SLw.2 3 a = nI n := ⟨(SLw.2 3 a).toInt.toNat, by omega, by rw [iZ_n, Int.toNat_of_nonneg c3.2.1]; exact iZ_as _⟩
      rw [en, nI_clamp (by omega)] at hs
      obtain ⟨p1, p2⟩ := hφ n hn
      unfold sml at p2
      rw [en, nI_clamp (by omega), h80, p1]
      refine jn_g (fun J => J (iZ (φ n))) (psh _ _ rfl c3.1 (by omega) hs) (fun J hJ => ?_)
      rw [jn_d]
      exact br_n (fun q => by have := (nI_ltI (b := 0) (by omega) (by decide)).mp q; omega) (le_b 8 n (by decide) (by omega) (fun c => absurd c (by omega)) (fun _ => ⟨vp_in_nI (by omega) (by decide), hJ⟩))
    · rw [if_neg c3] at hs
      exact absurd hs hne
  · have hs : xst (SLw.2 2) (SLw.2 3) φ a k = if k.length < 54 ∧ 0 ≤ (SLw.2 3 a).toInt ∧ (SLw.2 3 a).toInt ≤ 2000 then some (some (a + 1, (SLw.2 3 a).toInt :: k)) else none := by
      unfold xst
      rw [e281, if_pos rfl]
    by_cases c3 : k.length < 54 ∧ 0 ≤ (SLw.2 3 a).toInt ∧ (SLw.2 3 a).toInt ≤ 2000
    · rw [if_pos c3] at hs
      exact psh _ _ (iZ_as _) c3.1 (by omega) hs
    · rw [if_neg c3] at hs
      exact absurd hs hne
