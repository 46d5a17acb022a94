/-! ===== doubt and dated: one answer for both ===== -/
noncomputable def aDoubt (K : Nat → Int32) (n mm : Nat) (x : Int32) : Int32 :=
  if x < 0 then -1 else if x ≤ 2 then (if x = 0 then nI (pop (bsO K n mm (2 ^ mm)).2.1) else if x = 1 then nI (bsO K n mm (2 ^ mm)).2.1 else nI (bsO K n mm (2 ^ mm)).2.2) else -1
theorem cs_doubt {SO SDt SB Sme : Ob} {K : Nat → Int32} {x : Int32} {Q : Int32 → Ob → Prop} {n mm : Nat} (e : dEq SB Sme K n mm) (h : dK K n mm) (hq : ∀ S', Q (aDoubt K n mm x) S') : w_X8_doubt SO SDt SB Sme x Q := by
  have hm : mm ≤ 10 := h.2.2.2.1
  have h1 := p2_10 hm
  have hb := ((bs_inv K n mm (2 ^ mm)).2.2.2 (bs_end h)).2
  unfold w_X8_doubt
  unfold aDoubt at hq
  refine ⟨fun c => ?_, fun c => ⟨fun c2 => cs_leave e h (fun S' g1 g2 => ⟨fun c3 => ⟨fun c4 => ?_, fun c4 => ?_⟩, fun c3 => ?_⟩), fun c2 => ?_⟩⟩
  · rw [if_pos c] at hq; exact hq _
  · rw [if_neg c, if_pos c2, if_neg c3, if_neg c4] at hq; rw [g2]; exact hq _
  · rw [if_neg c, if_pos c2, if_neg c3, if_pos c4] at hq; rw [g1]; exact hq _
  · rw [if_neg c, if_pos c2, if_pos c3] at hq
    rw [g1]
    exact s_bitCount (by omega) (hq _)
  · rw [if_neg c, if_neg c2] at hq; exact hq _
theorem sM_onesE {x : Int32} {n : Nat} (e : x = nI n) (hn : n < 2 ^ 31) {Q : Int32 → Prop} (h : Q (nI (pop n))) : wM_ones x Q := by
  subst e
  exact sM_ones hn h
theorem dK_same {S S' : Ob} (h : sameB [38, 39] S S') : S'.2 3 = S.2 3 := h.2 3 (by decide)
set_option maxHeartbeats 1000000 in
theorem ms_doubt {S : Ob} {x : Int32} {Q : Int32 → Ob → Prop} {n mm : Nat} (h : dK (S.2 3) n mm) (hq : ∀ S', sameB [38, 39] S S' → Q (aDoubt (S.2 3) n mm x) S') : wM_doubt S x Q := by
  have hm : mm ≤ 10 := h.2.2.2.1
  have h1 := p2_10 hm
  have h2 : 1 ≤ 2 ^ mm := Nat.one_le_two_pow
  have h135 : S.2 3 135 = nI mm := h.2.2.1
  unfold wM_doubt
  unfold aDoubt at hq
  rw [sM_lies, bI_0]
  refine ⟨fun c => ?_, fun c => ?_⟩
  · have c : (decide (0 ≤ x) && decide (x ≤ 2)) = true := by simpa using c
    rw [Bool.and_eq_true, decide_eq_true_eq, decide_eq_true_eq] at c
    rw [if_neg (Int32.not_lt.mpr c.1), if_pos c.2] at hq
    obtain ⟨K, hK⟩ : ∃ K, K = S.2 3 := ⟨_, rfl⟩
    rw [← hK] at h hq h135
    refine wl4_i (fun x4 x3 x2 S6 => ∃ o, o ≤ 2 ^ mm ∧ x4 = nI o ∧ sameB [38, 39] S S6 ∧ (((bsO K n mm o).1 = 11 ∧ x2 = -1) ∨ ((bsO K n mm o).1 ≤ 10 ∧ x2 = nI (bsO K n mm o).2.1 ∧ x3 = nI (bsO K n mm o).2.2))) (fun x4 _ _ _ => 2 ^ mm - x4.toNatClampNeg) ?_ 0 0 (-1) S ⟨0, Nat.zero_le _, rfl, sameB.rf, Or.inl ⟨rfl, rfl⟩⟩
    rintro L x4 x3 x2 S6 ⟨o, ho, rfl, hs, hX⟩ ih
    have e6 : S6.2 3 = K := (dK_same hs).trans hK.symm
    obtain ⟨b1, b2, b3, b4⟩ := bs_inv K n mm o
    rw [e6, h135, shl_1 (by omega)]
    refine ⟨fun c2 => ?_, fun c2 => ?_⟩
    · have eo : o = 2 ^ mm := by have := (nI_leI (by omega) (by omega)).mp c2; omega
      subst eo
      have he := bs_end h
      obtain ⟨-, g1, g2⟩ := hX.resolve_left (fun q => by omega)
      refine ⟨fun c3 => ⟨fun c4 => ?_, fun c4 => ?_⟩, fun c3 => ?_⟩
      · rw [if_neg c3, if_neg c4] at hq; rw [g2]; exact hq _ hs
      · rw [if_neg c3, if_pos c4] at hq; rw [g1]; exact hq _ hs
      · rw [if_pos c3] at hq; rw [g1]; exact sM_ones (by omega) (hq _ hs)
    · have hlt : o < 2 ^ mm := by
        rcases Nat.lt_or_ge o (2 ^ mm) with q | q
        · exact q
        · exact absurd (nI_le q (by omega)) c2
      have hp := pop_le o
      have hne : ∀ b : Nat, b < 2 ^ 31 → ¬ nI b = -1 := by
        intro b hb e
        have h9 := nI_toInt hb
        rw [e] at h9
        have h8 : (-1 : Int32).toInt = -1 := by decide
        omega
      have next : ∀ (x3' x2' : Int32) (S2 : Ob), sameB [38, 39] S S2 → (((bsO K n mm (o + 1)).1 = 11 ∧ x2' = -1) ∨ ((bsO K n mm (o + 1)).1 ≤ 10 ∧ x2' = nI (bsO K n mm (o + 1)).2.1 ∧ x3' = nI (bsO K n mm (o + 1)).2.2)) → L (nI o + 1) x3' x2' S2 := by
        intro x3' x2' S2 g1 g2
        refine ih _ _ _ _ ⟨o + 1, by omega, by rw [nI_1], g1, g2⟩ ?_
        rw [nI_1, nI_clamp (by omega), nI_clamp (by omega)]; omega
      have hk := kpM_o hm hlt
      have hcg : ∀ z, solK K n mm (kpM (nI o)) z ↔ solK K n mm (kpO o) z := fun z => ⟨fun q => dSol_cg (fun _ _ => ⟨rfl, rfl⟩) (fun _ _ => ⟨rfl, rfl, rfl⟩) (fun i hi => (hk i hi).mpr) q, fun q => dSol_cg (fun _ _ => ⟨rfl, rfl⟩) (fun _ _ => ⟨rfl, rfl, rfl⟩) (fun i hi => (hk i hi).mp) q⟩
      -- behind the first join: the set isn't larger than the best one
      have body : (pop o ≤ (bsO K n mm o).1) → wM_agree S6 (nI o) (fun (r14 : Int32) (S15 : Ob) => ((¬ r14 = 0 → jn (fun (z17 : Unit) => ∀ v19 : Int32, v19 = 0 + 1 → ∀ v20 : Int32, v20 = nI o + 1 → L v20 v19 (nI o) S15) (fun J18 => ((x2 = (-1) → J18 ()) ∧ (¬ x2 = (-1) → wM_ones (nI o) (fun (r21 : Int32) => wM_ones x2 (fun (r23 : Int32) => ((r23 ≤ r21 → ∀ v25 : Int32, v25 = x3 + 1 → ∀ v26 : Int32, v26 = nI o + 1 → L v26 v25 x2 S15) ∧ (¬ r23 ≤ r21 → J18 ())))))))) ∧ (r14 = 0 → ∀ v29 : Int32, v29 = nI o + 1 → L v29 x3 x2 S15))) := by
        intro hle
        refine ms_agree (n := n) (mm := mm) (by rw [e6]; exact h) (fun S' g1 g2 _ _ => ⟨fun _ => ?_, fun q => absurd q (by decide)⟩) (fun g0 S' g1 => ⟨fun q => absurd rfl q, fun _ => ?_⟩)
        · rw [e6] at g2
          have hf : fea K n mm o := ⟨_, (hcg _).mp g2⟩
          have hs' := hs.tr g1
          have first : (pop o < (bsO K n mm o).1) → ∀ v19 : Int32, v19 = 0 + 1 → ∀ v20 : Int32, v20 = nI o + 1 → L v20 v19 (nI o) S' := by
            rintro hlt2 v19 rfl v20 rfl
            refine next _ _ _ hs' (Or.inr ?_)
            rw [bs_y hf, if_pos hlt2]
            exact ⟨hp, rfl, rfl⟩
          rw [jn_d]
          refine ⟨fun c3 => ?_, fun c3 => ?_⟩
          · refine first ?_
            rcases hX with ⟨g3, -⟩ | ⟨-, g3, -⟩
            · omega
            · rw [c3] at g3; exact absurd g3.symm (hne _ (by omega))
          · obtain ⟨g3, g4, g5⟩ := hX.resolve_left (fun q => c3 q.2)
            have hpb := (b4 g3).1
            refine sM_ones (by omega) ?_
            refine sM_onesE g4 (by omega) ⟨fun c5 => ?_, fun c5 => first ?_⟩
            · rintro v25 rfl v26 rfl
              have c5 : pop (bsO K n mm o).2.1 ≤ pop o := (nI_leI (by omega) (by omega)).mp c5
              refine next _ _ _ hs' (Or.inr ?_)
              rw [bs_y hf, if_neg (by omega), if_pos (by omega)]
              exact ⟨g3, g4, by rw [g5, nI_1]⟩
            · have c5 : ¬ pop (bsO K n mm o).2.1 ≤ pop o := fun q => c5 (nI_le q (by omega))
              omega
        · rintro v29 rfl
          have hf : ¬ fea K n mm o := by
            rintro ⟨z, hz⟩
            refine g0 ⟨z, ?_⟩
            rw [e6]
            exact (hcg z).mpr hz
          refine next _ _ _ (hs.tr g1) ?_
          rw [bs_n hf]
          exact hX
      rw [jn_d]
      refine ⟨fun c3 => body ?_, fun c3 => ?_⟩
      · rcases hX with ⟨g3, -⟩ | ⟨-, g3, -⟩
        · omega
        · rw [c3] at g3; exact absurd g3.symm (hne _ (by omega))
      · obtain ⟨g3, g4, g5⟩ := hX.resolve_left (fun q => c3 q.2)
        have hpb := (b4 g3).1
        refine sM_ones (by omega) ?_
        refine sM_onesE g4 (by omega) ⟨fun c5 => ?_, fun c5 => body ?_⟩
        · rintro v35 rfl
          have c5 : pop (bsO K n mm o).2.1 < pop o := (nI_ltI (by omega) (by omega)).mp c5
          refine next _ _ _ hs ?_
          by_cases hf : fea K n mm o
          · rw [bs_y hf, if_neg (by omega), if_neg (by omega)]; exact hX
          · rw [bs_n hf]; exact hX
        · have : ¬ pop (bsO K n mm o).2.1 < pop o := fun q => c5 (nI_lt q (by omega))
          omega
  · have c : (decide (0 ≤ x) && decide (x ≤ 2)) = false := c
    rw [Bool.and_eq_false_iff, decide_eq_false_iff_not, decide_eq_false_iff_not] at c
    by_cases c1 : x < 0
    · rw [if_pos c1] at hq; exact hq _ sameB.rf
    · rw [if_neg c1, if_neg (c.resolve_left (fun q => q (Int32.not_lt.mp c1)))] at hq; exact hq _ sameB.rf
