theorem eq10_ {m : Nat} (hm : m ≤ 10) : (nI m = 10) ↔ m = 10 := by
  refine ⟨fun c => ?_, fun c => by rw [c]; decide⟩
  have := congrArg Int32.toInt c
  rw [nI_toInt (by omega), show (10 : Int32).toInt = 10 from by decide] at this
  omega
theorem eq_mention {SO SB Sme S : Ob} {x1 x2 x3 : Int32} {R : Int32 → Ob → Ob → Int32 → Ob → Prop} {n mm : Nat} (hn : n ≤ 10) (hm : mm ≤ 10) (h4 : SB.1 4 = nI n) (h133 : S.2 3 133 = nI n) (h3 : Sme.1 3 = nI mm) (h135 : S.2 3 135 = nI mm)
    (hRef : ∀ k, 1 ≤ k → k < 7 → R (-nI k) (refC SO k) Sme (-nI k) (refM S k))
    (hAdd : ∀ a b, a < n → b < n → a ≠ b → x1 = nI a → x2 = nI b → 0 ≤ x3 → x3 ≤ 500 → mm < 10 → R (nI mm + 1) (uS SO 16 0) (add3 Sme mm x1 x2 x3) (nI mm + 1) (goodM (addK S 73 135 mm x1 x2 x3))) :
    w_X8_mention SO SB Sme x1 x2 x3 (fun r S' T' => wM_mention S x1 x2 x3 (fun r' S'' => R r S' T' r' S'')) := by
  have e1 : (-1 : Int32) = -nI 1 := by decide
  have e2 : (-2 : Int32) = -nI 2 := by decide
  have e3 : (-3 : Int32) = -nI 3 := by decide
  have e5 : (-5 : Int32) = -nI 5 := by decide
  have m1 : (decide (0 ≤ x3) && decide (x3 ≤ 500)) = false → w_X8_refuse SO (-1) (fun r S4 => wM_mention S x1 x2 x3 (fun r' S'' => R r S4 Sme r' S'')) := by
    intro c
    rw [e1]
    refine s_refuse (by decide) (by decide) ?_
    unfold wM_mention
    rw [sM_lies, bI_0, c]
    refine ⟨fun q => absurd rfl q, fun _ => ?_⟩
    rw [e1]
    exact sM_refuses (by decide) (hRef 1 (by decide) (by decide))
  unfold w_X8_mention
  rw [jn_d]
  refine ⟨fun c => m1 (by simp [Int32.not_le.mpr c]), fun c => ⟨fun c2 => ?_, fun c2 => m1 (by simp [c2])⟩⟩
  have hx3 : (decide (0 ≤ x3) && decide (x3 ≤ 500)) = true := by simp [Int32.not_lt.mp c, c2]
  have m2 : (decide (0 ≤ x1) && decide (x1 ≤ nI n - 1)) = false ∨ ((decide (0 ≤ x1) && decide (x1 ≤ nI n - 1)) = true ∧ (decide (0 ≤ x2) && decide (x2 ≤ nI n - 1)) = false) → w_X8_refuse SO (-2) (fun r S4 => wM_mention S x1 x2 x3 (fun r' S'' => R r S4 Sme r' S'')) := by
    intro c
    rw [e2]
    refine s_refuse (by decide) (by decide) ?_
    unfold wM_mention
    rw [sM_lies, bI_0, hx3]
    refine ⟨fun _ => ?_, fun q => absurd q (by decide)⟩
    rw [sM_isTale, h133, jn_d, bI_0]
    rcases c with c | ⟨c, c'⟩
    · rw [c]
      refine ⟨fun _ => ?_, fun q => absurd rfl q⟩
      rw [e2]
      exact sM_refuses (by decide) (hRef 2 (by decide) (by decide))
    · rw [c]
      refine ⟨fun q => absurd q (by decide), fun _ => ?_⟩
      rw [sM_isTale, h133, bI_0, c']
      refine ⟨fun q => absurd rfl q, fun _ => ?_⟩
      rw [e2]
      exact sM_refuses (by decide) (hRef 2 (by decide) (by decide))
  rw [s_has, h4, jn_d, bI_0]
  rcases is_tale x1 hn with ⟨a, ha, hx1, f1, f2⟩ | ⟨f1, f2⟩
  · rw [f1]
    refine ⟨fun q => absurd q (by decide), fun _ => ?_⟩
    rw [s_has, h4, bI_0]
    rcases is_tale x2 hn with ⟨b, hb, hx2, g1, g2⟩ | ⟨g1, g2⟩
    · rw [g1]
      have mm3 : ∀ {Q' : Int32 → Ob → Prop}, (¬ x1 = x2 → ∀ v12 : Int32, v12 = (S.2 3 135) → ((¬ v12 = 10 → vp_in (73 + (3 * v12)) 4945 ∧ ∀ S14 : Ob, S14 = uA S 3 (Int32.toNatClampNeg (73 + (3 * v12))) x1 → vp_in ((73 + (3 * v12)) + 1) 4945 ∧ ∀ S16 : Ob, S16 = uA S14 3 (Int32.toNatClampNeg ((73 + (3 * v12)) + 1)) x2 → vp_in ((73 + (3 * v12)) + 2) 4945 ∧ ∀ S18 : Ob, S18 = uA S16 3 (Int32.toNatClampNeg ((73 + (3 * v12)) + 2)) x3 → ∀ S19 : Ob, S19 = uA S18 3 135 ((S18.2 3 135) + 1) → wM_good S19 (v12 + 1) Q') ∧ (v12 = 10 → wM_refuses S (-5) Q'))) → (x1 = x2 → wM_refuses S (-3) Q') → wM_mention S x1 x2 x3 Q' := by
        intro Q' k1 k2
        unfold wM_mention
        rw [sM_lies, bI_0, hx3]
        refine ⟨fun _ => ?_, fun q => absurd q (by decide)⟩
        rw [sM_isTale, h133, jn_d, bI_0, f2]
        refine ⟨fun q => absurd q (by decide), fun _ => ?_⟩
        rw [sM_isTale, h133, bI_0, g2]
        exact ⟨fun _ => ⟨k1, k2⟩, fun q => absurd q (by decide)⟩
      refine ⟨fun _ => ⟨fun ne => ?_, fun eq => ?_⟩, fun q => absurd q (by decide)⟩
      · refine s_isFull h3 hm (fun lt => ⟨fun _ => ?_, fun q => absurd rfl q⟩) (fun eq => ⟨fun q => absurd q (by decide), fun _ => ?_⟩)
        · refine s_add h3 lt ?_
          rw [s_accept]
          refine mm3 (fun _ v12 hv => ⟨fun _ => ?_, fun q => ?_⟩) (fun q => absurd q ne)
          · rw [h135] at hv
            subst hv
            refine m_row (b := 73) h135 lt (by decide) (by decide) ?_ _ rfl
            rw [sM_good]
            exact hAdd a b ha hb (fun q => ne (by rw [hx1, hx2, q])) hx1 hx2 (Int32.not_lt.mp c) c2 lt
          · rw [hv, h135, eq10_ hm] at q
            omega
        · rw [e5]
          refine s_refuse (by decide) (by decide) ?_
          refine mm3 (fun _ v12 hv => ⟨fun q => ?_, fun q => ?_⟩) (fun q => absurd q ne)
          · rw [hv, h135, eq10_ hm] at q
            exact absurd eq q
          · rw [e5]
            exact sM_refuses (by decide) (hRef 5 (by decide) (by decide))
      · rw [e3]
        refine s_refuse (by decide) (by decide) ?_
        refine mm3 (fun q => absurd eq q) (fun _ => ?_)
        rw [e3]
        exact sM_refuses (by decide) (hRef 3 (by decide) (by decide))
    · rw [g1]
      exact ⟨fun q => absurd rfl q, fun _ => m2 (Or.inr ⟨f2, g2⟩)⟩
  · rw [f1]
    exact ⟨fun _ => m2 (Or.inl f2), fun q => absurd rfl q⟩
