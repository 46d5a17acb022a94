/-! ===== the class weighs the tales ===== -/
def wgX (S : Ob) (F : FtT) (o : Option (List ClT)) (x : Nat) : Prop := S.2 1 x = nI (qfF F x) ∧ S.2 2 x = nI (qfE F x) ∧ S.2 3 x = iZ (zaW o (phi F x (-1)) (qfB F x)) ∧ S.2 4 x = iZ (zaG o (phi F x (-1))) ∧ S.2 5 x = nI (setB (plB F o x) (qfK F))
def wgO (S S' : Ob) : Prop := S'.1 = S.1 ∧ ∀ k, k ≠ 1 → k ≠ 2 → k ≠ 3 → k ≠ 4 → k ≠ 5 → S'.2 k = S.2 k
def jdF (S : Ob) (F : FtT) (x : Nat) : Prop := ∀ k, k < 7 → S.2 0 k = iZ (phi F x (-1) k)
theorem phi_7 {F : FtT} {x : Nat} (y z : Int) {k : Nat} (hk : k < 7) : phi F x y k = phi F x z k := by
  unfold phi
  rcases (by omega : k = 0 ∨ k = 1 ∨ k = 2 ∨ k = 3 ∨ k = 4 ∨ k = 5 ∨ k = 6) with rfl | rfl | rfl | rfl | rfl | rfl | rfl <;> rfl
theorem uA_ne {S : Ob} {k i j a : Nat} {v : Int32} (h : j ≠ i) : (uA S k i v).2 a j = S.2 a j := by
  by_cases e : a = k
  · subst e; exact uA_i h
  · rw [uA_o e]
theorem wgX_u {S : Ob} {F : FtT} {o : Option (List ClT)} {x x' k : Nat} {v : Int32} (h : wgX S F o x') (hx : x' < x) : wgX (uA S k x v) F o x' := by
  have hx : x' ≠ x := by omega
  unfold wgX
  rw [uA_ne hx, uA_ne hx, uA_ne hx, uA_ne hx, uA_ne hx]
  exact h
theorem wgO.u {S S' : Ob} (h : wgO S S') {k x : Nat} {v : Int32} (hk : 1 ≤ k ∧ k ≤ 5) : wgO S (uA S' k x v) := ⟨h.1, fun j a b c d e => by rw [uA_o (by omega)]; exact h.2 j a b c d e⟩
set_option maxHeartbeats 2000000 in
theorem s_weigh {aLw : Nat → Nat} {SLw : Lw} {SB SP SJ : Ob} {Sls : Nat → Option Nat} {F : FtT} {Λ : List ClT} (hF : cF SB F) (hL : lawC SLw Λ) (hI : ∀ Q : Option Nat → Prop, Q (some (aLw 0)) → w_X6_lawInForce SB Sls Q) (hV : cV SP (plF F (some Λ))) : wkP (w_X3_weigh aLw SP SJ SB Sls SLw) SP (plF F (some Λ)) := by
  intro Q hq
  obtain ⟨ok, b4, b50, b51, b52, bx⟩ := id hF
  have hN := ok.1
  have hK := ok.2.2.1
  unfold w_X3_weigh
  refine ⟨fun c => ?_, fun c => hq SP SJ hV (hV.1 c) rfl⟩
  rintro S1 rfl S2 rfl
  refine jn_g (fun J => J (bI (qfT F))) ⟨nb _, by cases qfT F <;> rfl, ?_⟩ (fun J hJ => ?_)
  · intro S7 h7
    have e6 : S7.1 6 = nI (qfN F) := by rw [h7]; exact b4
    have e7 : S7.1 7 = bI (qfT F) := by rw [h7]; rfl
    have e9 : S7.1 9 = SP.1 9 := by rw [h7]; rfl
    have e17 : S7.1 17 = SP.1 17 := by rw [h7]; rfl
    have eA : S7.2 = SP.2 := by rw [h7]; rfl
    refine hI _ ⟨rfl, ?_⟩
    refine fo3 (qfN F) (by omega) (fun x S12 _ => wgO S7 S12 ∧ ∀ x', x' < x → wgX S12 F (some Λ) x') ⟨⟨rfl, fun _ _ _ _ _ _ => rfl⟩, fun x' h => absurd h (Nat.not_lt_zero x')⟩ ?_ ?_
    · rintro L x S12 S13 hx ⟨h12, hA⟩ ih
      obtain ⟨f0, f1, f2, f3⟩ := bx x hx
      have hvx : vp_in (nI x) 10 := vp_in_nI (by omega) (by decide)
      rw [nI_clamp (by omega), f0, f1, f2, f3, show S12.1 6 = nI (qfN F) from by rw [h12.1]; exact e6]
      refine br_n (fun q => by have := (nI_leI (by omega) (by omega)).mp q; omega) ⟨hvx, hvx, ?_⟩
      intro S17 k17
      refine ⟨hvx, hvx, ?_⟩
      intro S20 k20
      refine s_look hF hx (fun S21 j1 j2 j0 => ⟨hvx, ?_⟩)
      have hjd : ∀ k, k < 8 → S21.2 0 k = iZ (phi F x (-1) k) ∧ sml (phi F x (-1) k) := fun k hk => ⟨j0 k hk, phi_s ok hx ⟨by decide, by decide⟩ k⟩
      refine s_lastOf hL hjd (k := 1) (by decide) (lo := 0) (b := (qfB F x : Int)) (by decide) (by decide) iZ_0 (iZ_n _) (fun S25 e25 => ⟨hvx, ?_⟩)
      intro S28 k28
      refine s_lastOf hL (fun k hk => by rw [e25]; exact hjd k hk) (k := 2) (by decide) (lo := 1) (b := 1) (by decide) (by decide) iZ_1 iZ_1 (fun S30 e30 => ⟨hvx, ?_⟩)
      intro S33 k33
      refine ⟨hvx, ?_⟩
      intro S35 k35
      have hj30 : jdF S30 F x := fun k hk => by rw [e30, e25]; exact j0 k (by omega)
      have gO : wgO S7 S35 := by
        rw [k35, k33, k28, k20, k17]
        exact ((((h12.u (by decide)).u (by decide)).u (by decide)).u (by decide)).u (by decide)
      have gA : ∀ x', x' < x → wgX S35 F (some Λ) x' := fun x' h => by
        rw [k35, k33, k28, k20, k17]
        exact wgX_u (wgX_u (wgX_u (wgX_u (wgX_u (hA x' h) h) h) h) h) h
      have g1 : S35.2 1 x = nI (qfF F x) := by rw [k35, uA_o (by decide), k33, uA_o (by decide), k28, uA_o (by decide), k20, uA_o (by decide), k17, uA_h]
      have g2 : S35.2 2 x = nI (qfE F x) := by rw [k35, uA_o (by decide), k33, uA_o (by decide), k28, uA_o (by decide), k20, uA_h]
      have g3 : S35.2 3 x = iZ (zaW (some Λ) (phi F x (-1)) (qfB F x)) := by rw [k35, uA_o (by decide), k33, uA_o (by decide), k28, uA_h]; rfl
      have g4 : S35.2 4 x = iZ (zaG (some Λ) (phi F x (-1))) := by rw [k35, uA_o (by decide), k33, uA_h]; rfl
      have g5 : S35.2 5 x = nI (setB (plB F (some Λ) x) 0) := by rw [k35, uA_h]; rfl
      refine fo3 (qfK F) (by omega) (fun u S37 S38 => wgO S7 S37 ∧ (∀ x', x' < x → wgX S37 F (some Λ) x') ∧ S37.2 1 x = nI (qfF F x) ∧ S37.2 2 x = nI (qfE F x) ∧ S37.2 3 x = iZ (zaW (some Λ) (phi F x (-1)) (qfB F x)) ∧ S37.2 4 x = iZ (zaG (some Λ) (phi F x (-1))) ∧ S37.2 5 x = nI (setB (plB F (some Λ) x) u) ∧ jdF S38 F x) ⟨gO, gA, g1, g2, g3, g4, g5, hj30⟩ ?_ ?_
      · rintro L2 u S37 S38 hu ⟨wo, A, q1, q2, q3, q4, q5, hj⟩ ih2
        rw [b50]
        refine br_n (fun q => by have := (nI_leI (by omega) (by omega)).mp q; omega) ⟨hvx, ?_⟩
        have hs16 := (ok.2.2.2.2 x hx).2.2.2
        have keep : plB F (some Λ) x u = false → ∀ S44 : Ob, jdF S44 F x → ∀ v42 : Int32, v42 = nI u + 1 → L2 v42 S37 S44 := by
          rintro e S44 j44 v42 rfl
          rw [nI_1]
          exact ih2 _ _ ⟨wo, A, q1, q2, q3, q4, by rw [setB, if_neg (by rw [e]; decide)]; exact q5, j44⟩
        refine hb_b (by omega) (by omega) (fun e => keep (by unfold plB; rw [e]; rfl) S38 hj) (fun e => ?_)
        have hy : sml (u : Int) := by unfold sml; omega
        refine s_isBarred hL (φ := phi F x (u : Int)) (fun k hk => ⟨?_, phi_s ok hx hy k⟩) (fun S44 e44 => ?_)
        · rcases Nat.lt_or_ge k 7 with h | h
          · rw [uA_i (by omega), hj k h, phi_7 (-1) (u : Int) h]
          · have : k = 7 := by omega
            subst this
            rw [uA_h]
            exact iZ_n u
        · have j44 : jdF S44 F x := fun k hk => by rw [e44, uA_i (by omega)]; exact hj k hk
          refine ib_b (fun e2 => ⟨hvx, hvx, ?_⟩) (fun e2 => keep (by
            have e3 : zaB (some Λ) (phi F x (u : Int)) = true := e2
            unfold plB
            rw [e, e3]
            rfl) S44 j44)
          have e3 : zaB (some Λ) (phi F x (u : Int)) = false := e2
          rintro S49 rfl v50 rfl
          have hlt := setB_lt (plB F (some Λ) x) u
          have hp16 : 2 ^ u ≤ 2 ^ 3 := Nat.pow_le_pow_right (by decide) (by omega)
          obtain ⟨ob1, _⟩ := or_b u (by omega) (setB (plB F (some Λ) x) u) (by omega) hlt
          have e4 : plB F (some Λ) x u = true := by
            unfold plB
            rw [e, e3]
            rfl
          rw [nI_1, q5, ob1]
          refine ih2 _ _ ⟨wo.u (by decide), fun x' h => wgX_u (A x' h) h, ?_, ?_, ?_, ?_, ?_, j44⟩
          · rw [uA_o (by decide)]; exact q1
          · rw [uA_o (by decide)]; exact q2
          · rw [uA_o (by decide)]; exact q3
          · rw [uA_o (by decide)]; exact q4
          · rw [uA_h, setB, if_pos e4]
      · rintro L2 S37 S38 ⟨wo, A, q1, q2, q3, q4, q5, hj⟩
        rw [b50]
        refine br_y (Int32.le_refl _) ?_
        rintro v40 rfl
        rw [nI_1]
        refine ih _ _ ⟨wo, fun x' hx' => ?_⟩
        rcases Nat.lt_or_ge x' x with h | h
        · exact A x' h
        · rw [show x' = x by omega]
          exact ⟨q1, q2, q3, q4, q5⟩
    · rintro L S12 S13 ⟨h12, hA⟩
      rw [show S12.1 6 = nI (qfN F) from by rw [h12.1]; exact e6]
      refine br_y (Int32.le_refl _) ?_
      have p12 : cP S12 (plF F (some Λ)) := by
        refine ⟨plF_ok ok _, by rw [h12.1]; exact e6, by rw [h12.1]; exact e7, fun x hx => ?_⟩
        obtain ⟨a1, a2, a3, a4, a5⟩ := hA x hx
        exact ⟨a1.trans (iZ_n _), a2.trans (iZ_n _), a3, a4, a5⟩
      refine hq S12 S13 ⟨fun _ => p12, fun c9 => ⟨p12, ?_⟩⟩ p12 (by rw [h12.1]; exact e17)
      rw [h12.1, e9] at c9
      intro s hs
      have := (hV.2 c9).2 s hs
      unfold cR at this ⊢
      rw [h12.2 10 (by decide) (by decide) (by decide) (by decide) (by decide), h12.2 11 (by decide) (by decide) (by decide) (by decide) (by decide), h12.2 12 (by decide) (by decide) (by decide) (by decide) (by decide), h12.2 13 (by decide) (by decide) (by decide) (by decide) (by decide), eA]
      exact this
  · rw [b51]
    cases h : qfT F with
    | false => rw [h] at hJ; exact ⟨fun _ => hJ, fun q => absurd q (by decide)⟩
    | true => rw [h] at hJ; exact ⟨fun q => absurd rfl q, fun _ => hJ⟩
set_option maxHeartbeats 2000000 in
theorem s_weighN {SB SP SJ : Ob} {Sls : Nat → Option Nat} {F : FtT} (hF : cF SB F) (hI : ∀ Q : Option Nat → Prop, Q none → w_X6_lawInForce SB Sls Q) (hV : cV SP (plF F none)) : wkP (w_X3_weighN SP SJ SB Sls) SP (plF F none) := by
  intro Q hq
  obtain ⟨ok, b4, b50, b51, b52, bx⟩ := id hF
  have hN := ok.1
  have hK := ok.2.2.1
  unfold w_X3_weighN w_X1_lastOfN w_X1_isBarredN
  refine ⟨fun c => ?_, fun c => hq SP SJ hV (hV.1 c) rfl⟩
  rintro S1 rfl S2 rfl
  refine jn_g (fun J => J (bI (qfT F))) ⟨nb _, by cases qfT F <;> rfl, ?_⟩ (fun J hJ => ?_)
  · intro S7 h7
    have e6 : S7.1 6 = nI (qfN F) := by rw [h7]; exact b4
    have e7 : S7.1 7 = bI (qfT F) := by rw [h7]; rfl
    have e9 : S7.1 9 = SP.1 9 := by rw [h7]; rfl
    have e17 : S7.1 17 = SP.1 17 := by rw [h7]; rfl
    have eA : S7.2 = SP.2 := by rw [h7]; rfl
    refine hI _ ⟨rfl, ?_⟩
    refine fo3 (qfN F) (by omega) (fun x S12 _ => wgO S7 S12 ∧ ∀ x', x' < x → wgX S12 F none x') ⟨⟨rfl, fun _ _ _ _ _ _ => rfl⟩, fun x' h => absurd h (Nat.not_lt_zero x')⟩ ?_ ?_
    · rintro L x S12 S13 hx ⟨h12, hA⟩ ih
      obtain ⟨f0, f1, f2, f3⟩ := bx x hx
      have hvx : vp_in (nI x) 10 := vp_in_nI (by omega) (by decide)
      rw [nI_clamp (by omega), f0, f1, f2, f3, show S12.1 6 = nI (qfN F) from by rw [h12.1]; exact e6]
      refine br_n (fun q => by have := (nI_leI (by omega) (by omega)).mp q; omega) ⟨hvx, hvx, ?_⟩
      intro S17 k17
      refine ⟨hvx, hvx, ?_⟩
      intro S20 k20
      refine s_look hF hx (fun S21 j1 j2 j0 => ⟨hvx, ?_⟩)
      have hjd : ∀ k, k < 8 → S21.2 0 k = iZ (phi F x (-1) k) ∧ sml (phi F x (-1) k) := fun k hk => ⟨j0 k hk, phi_s ok hx ⟨by decide, by decide⟩ k⟩
      refine ⟨hvx, ?_⟩
      intro S28 k28
      refine ⟨hvx, ?_⟩
      intro S33 k33
      refine ⟨hvx, ?_⟩
      intro S35 k35
      have gO : wgO S7 S35 := by
        rw [k35, k33, k28, k20, k17]
        exact ((((h12.u (by decide)).u (by decide)).u (by decide)).u (by decide)).u (by decide)
      have gA : ∀ x', x' < x → wgX S35 F none x' := fun x' h => by
        rw [k35, k33, k28, k20, k17]
        exact wgX_u (wgX_u (wgX_u (wgX_u (wgX_u (hA x' h) h) h) h) h) h
      have g1 : S35.2 1 x = nI (qfF F x) := by rw [k35, uA_o (by decide), k33, uA_o (by decide), k28, uA_o (by decide), k20, uA_o (by decide), k17, uA_h]
      have g2 : S35.2 2 x = nI (qfE F x) := by rw [k35, uA_o (by decide), k33, uA_o (by decide), k28, uA_o (by decide), k20, uA_h]
      have g3 : S35.2 3 x = iZ (zaW none (phi F x (-1)) (qfB F x)) := by rw [k35, uA_o (by decide), k33, uA_o (by decide), k28, uA_h]; exact iZ_n _
      have g4 : S35.2 4 x = iZ (zaG none (phi F x (-1))) := by rw [k35, uA_o (by decide), k33, uA_h]; exact iZ_1
      have g5 : S35.2 5 x = nI (setB (plB F none x) 0) := by rw [k35, uA_h]; rfl
      refine fo2 (qfK F) (by omega) (fun u S37 => wgO S7 S37 ∧ (∀ x', x' < x → wgX S37 F none x') ∧ S37.2 1 x = nI (qfF F x) ∧ S37.2 2 x = nI (qfE F x) ∧ S37.2 3 x = iZ (zaW none (phi F x (-1)) (qfB F x)) ∧ S37.2 4 x = iZ (zaG none (phi F x (-1))) ∧ S37.2 5 x = nI (setB (plB F none x) u)) ⟨gO, gA, g1, g2, g3, g4, g5⟩ ?_ ?_
      · rintro L2 u S37 hu ⟨wo, A, q1, q2, q3, q4, q5⟩ ih2
        rw [b50]
        refine br_n (fun q => by have := (nI_leI (by omega) (by omega)).mp q; omega) ⟨hvx, ?_⟩
        have hs16 := (ok.2.2.2.2 x hx).2.2.2
        have keep : plB F none x u = false → ∀ v42 : Int32, v42 = nI u + 1 → L2 v42 S37 := by
          rintro e v42 rfl
          rw [nI_1]
          exact ih2 _ ⟨wo, A, q1, q2, q3, q4, by rw [setB, if_neg (by rw [e]; decide)]; exact q5⟩
        refine hb_b (by omega) (by omega) (fun e => keep (by unfold plB; rw [e]; rfl)) (fun e => ?_)
        refine rb_y rfl ⟨hvx, hvx, ?_⟩
        have e3 : zaB none (phi F x (u : Int)) = false := rfl
        rintro S49 rfl v50 rfl
        have hlt := setB_lt (plB F none x) u
        have hp16 : 2 ^ u ≤ 2 ^ 3 := Nat.pow_le_pow_right (by decide) (by omega)
        obtain ⟨ob1, _⟩ := or_b u (by omega) (setB (plB F none x) u) (by omega) hlt
        have e4 : plB F none x u = true := by
          unfold plB
          rw [e, e3]
          rfl
        rw [nI_1, q5, ob1]
        refine ih2 _ ⟨wo.u (by decide), fun x' h => wgX_u (A x' h) h, ?_, ?_, ?_, ?_, ?_⟩
        · rw [uA_o (by decide)]; exact q1
        · rw [uA_o (by decide)]; exact q2
        · rw [uA_o (by decide)]; exact q3
        · rw [uA_o (by decide)]; exact q4
        · rw [uA_h, setB, if_pos e4]
      · rintro L2 S37 ⟨wo, A, q1, q2, q3, q4, q5⟩
        rw [b50]
        refine br_y (Int32.le_refl _) ?_
        rintro v40 rfl
        rw [nI_1]
        refine ih _ _ ⟨wo, fun x' hx' => ?_⟩
        rcases Nat.lt_or_ge x' x with h | h
        · exact A x' h
        · rw [show x' = x by omega]
          exact ⟨q1, q2, q3, q4, q5⟩
    · rintro L S12 S13 ⟨h12, hA⟩
      rw [show S12.1 6 = nI (qfN F) from by rw [h12.1]; exact e6]
      refine br_y (Int32.le_refl _) ?_
      have p12 : cP S12 (plF F none) := by
        refine ⟨plF_ok ok _, by rw [h12.1]; exact e6, by rw [h12.1]; exact e7, fun x hx => ?_⟩
        obtain ⟨a1, a2, a3, a4, a5⟩ := hA x hx
        exact ⟨a1.trans (iZ_n _), a2.trans (iZ_n _), a3, a4, a5⟩
      refine hq S12 S13 ⟨fun _ => p12, fun c9 => ⟨p12, ?_⟩⟩ p12 (by rw [h12.1]; exact e17)
      rw [h12.1, e9] at c9
      intro s hs
      have := (hV.2 c9).2 s hs
      unfold cR at this ⊢
      rw [h12.2 10 (by decide) (by decide) (by decide) (by decide) (by decide), h12.2 11 (by decide) (by decide) (by decide) (by decide) (by decide), h12.2 12 (by decide) (by decide) (by decide) (by decide) (by decide), h12.2 13 (by decide) (by decide) (by decide) (by decide) (by decide), eA]
      exact this
  · rw [b51]
    cases h : qfT F with
    | false => rw [h] at hJ; exact ⟨fun _ => hJ, fun q => absurd q (by decide)⟩
    | true => rw [h] at hJ; exact ⟨fun q => absurd rfl q, fun _ => hJ⟩
theorem s_reckon {aLw : Nat → Nat} {SLw : Lw} {SB SP SJ : Ob} {Sls : Nat → Option Nat} {P : PlT} (hW : wkP (w_X3_weigh aLw SP SJ SB Sls SLw) SP P) (hV : cV SP P) : rkP (w_X3_reckon aLw SP SJ SB Sls SLw) SP P := by
  intro Q hq
  unfold w_X3_reckon
  refine ⟨fun c => hW _ (fun S1 S2 hcv hcp h17 => rk_core hcp (fun SP' e1 e2 p1 n1 => hq SP' S2 ⟨fun _ => p1, fun _ => ⟨p1, n1⟩⟩ p1 n1 ?_)), fun c => hq SP SJ hV (hV.2 c).1 (hV.2 c).2 rfl⟩
  rw [e1]
  exact h17
theorem s_reckonN {SB SP SJ : Ob} {Sls : Nat → Option Nat} {P : PlT} (hW : wkP (w_X3_weighN SP SJ SB Sls) SP P) (hV : cV SP P) : rkP (w_X3_reckonN SP SJ SB Sls) SP P := by
  intro Q hq
  unfold w_X3_reckonN
  refine ⟨fun c => hW _ (fun S1 S2 hcv hcp h17 => rk_core hcp (fun SP' e1 e2 p1 n1 => hq SP' S2 ⟨fun _ => p1, fun _ => ⟨p1, n1⟩⟩ p1 n1 ?_)), fun c => hq SP SJ hV (hV.2 c).1 (hV.2 c).2 rfl⟩
  rw [e1]
  exact h17
