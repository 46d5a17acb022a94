theorem lt4_ (x : Int32) : x < 4 ↔ x ≤ 3 := by
  rw [Int32.lt_iff_toInt_lt, Int32.le_iff_toInt_le, show (4 : Int32).toInt = 4 from by decide, show (3 : Int32).toInt = 3 from by decide]
  omega
theorem eq_claim {SO SB Scl S : Ob} {x1 x2 x3 : Int32} {R : Int32 → Ob → Ob → Int32 → Ob → Prop} {n mm : Nat} (hn : n ≤ 10) (hm : mm ≤ 10) (h4 : SB.1 4 = nI n) (h133 : S.2 3 133 = nI n) (h3 : Scl.1 3 = nI mm) (h136 : S.2 3 136 = nI mm)
    (hRef : ∀ k, 1 ≤ k → k < 7 → R (-nI k) (refC SO k) Scl (-nI k) (refM S k))
    (hAdd : ∀ a, a < n → x1 = nI a → 0 ≤ x2 → x2 ≤ 2000 → 0 ≤ x3 → x3 ≤ 3 → mm < 10 → R (nI mm + 1) (uS SO 16 0) (add3 Scl mm x1 x2 x3) (nI mm + 1) (goodM (addK S 103 136 mm x1 x2 x3))) :
    w_X8_claim SO SB Scl x1 x2 x3 (fun r S' T' => wM_claim S x1 x2 x3 (fun r' S'' => R r S' T' r' S'')) := by
  have e1 : (-1 : Int32) = -nI 1 := by decide
  have e2 : (-2 : Int32) = -nI 2 := by decide
  have e5 : (-5 : Int32) = -nI 5 := by decide
  have m1 : (decide (0 ≤ x2) && decide (x2 ≤ 2000)) = false ∨ (decide (0 ≤ x3) && decide (x3 ≤ 3)) = false → w_X8_refuse SO (-1) (fun r S4 => wM_claim S x1 x2 x3 (fun r' S'' => R r S4 Scl r' S'')) := by
    intro c
    rw [e1]
    refine s_refuse (by decide) (by decide) ?_
    unfold wM_claim
    rw [sM_lies, jn_d, bI_0, sM_lies, bI_0, e1]
    have hh := sM_refuses (S := S) (k := 1) (by decide) (Q := fun r' S'' => R (-nI 1) (refC SO 1) Scl r' S'') (hRef 1 (by decide) (by decide))
    exact ⟨fun _ => hh, fun q => ⟨fun q2 => (c.elim q q2).elim, fun _ => hh⟩⟩
  unfold w_X8_claim
  rw [jn_d]
  refine ⟨fun c => m1 (Or.inl (by simp [Int32.not_le.mpr c])), fun c => ⟨fun d => m1 (Or.inl (by simp [Int32.not_le.mpr d])), fun d => ⟨fun c' => m1 (Or.inr (by simp [Int32.not_le.mpr c'])), fun c' => ⟨fun d' => ?_, fun d' => m1 (Or.inr (by rw [lt4_] at d'; simp [d']))⟩⟩⟩⟩
  have c := Int32.not_lt.mp c
  have d := Int32.not_lt.mp d
  have c' := Int32.not_lt.mp c'
  rw [lt4_] at d'
  have hx2 : (decide (0 ≤ x2) && decide (x2 ≤ 2000)) = true := by simp [c, d]
  have hx3 : (decide (0 ≤ x3) && decide (x3 ≤ 3)) = true := by simp [c', d']
  have m0 : ∀ {Q' : Int32 → Ob → Prop}, wM_isTale S x1 (fun r10 => ((¬ r10 = 0 → ∀ v12 : Int32, v12 = (S.2 3 136) → ((¬ v12 = 10 → vp_in (103 + (3 * v12)) 4945 ∧ ∀ S14 : Ob, S14 = uA S 3 (Int32.toNatClampNeg (103 + (3 * v12))) x1 → vp_in ((103 + (3 * v12)) + 1) 4945 ∧ ∀ S16 : Ob, S16 = uA S14 3 (Int32.toNatClampNeg ((103 + (3 * v12)) + 1)) x2 → vp_in ((103 + (3 * v12)) + 2) 4945 ∧ ∀ S18 : Ob, S18 = uA S16 3 (Int32.toNatClampNeg ((103 + (3 * v12)) + 2)) x3 → ∀ S19 : Ob, S19 = uA S18 3 136 ((S18.2 3 136) + 1) → wM_good S19 (v12 + 1) Q') ∧ (v12 = 10 → wM_refuses S (-5) Q'))) ∧ (r10 = 0 → wM_refuses S (-2) Q'))) → wM_claim S x1 x2 x3 Q' := by
    intro Q' k1
    unfold wM_claim
    rw [sM_lies, jn_d, bI_0, hx2]
    refine ⟨fun q => absurd q (by decide), fun _ => ?_⟩
    rw [sM_lies, bI_0, hx3]
    exact ⟨fun _ => k1, fun q => absurd q (by decide)⟩
  rw [s_has, h4, bI_0]
  rcases is_tale x1 hn with ⟨a, ha, hx1, f1, f2⟩ | ⟨f1, f2⟩
  · rw [f1]
    refine ⟨fun _ => ?_, fun q => absurd q (by decide)⟩
    refine s_isFull h3 hm (fun lt => ⟨fun _ => ?_, fun q => absurd rfl q⟩) (fun eq => ⟨fun q => absurd q (by decide), fun _ => ?_⟩)
    · refine s_add h3 lt ?_
      rw [s_accept]
      refine m0 ?_
      rw [sM_isTale, h133, bI_0, f2]
      refine ⟨fun _ v12 hv => ⟨fun _ => ?_, fun q => ?_⟩, fun q => absurd q (by decide)⟩
      · rw [h136] at hv
        subst hv
        refine m_row (b := 103) h136 lt (by decide) (by decide) ?_ _ rfl
        rw [sM_good]
        exact hAdd a ha hx1 c d c' d' lt
      · rw [hv, h136, eq10_ hm] at q
        omega
    · rw [e5]
      refine s_refuse (by decide) (by decide) ?_
      refine m0 ?_
      rw [sM_isTale, h133, bI_0, f2]
      refine ⟨fun _ v12 hv => ⟨fun q => ?_, fun q => ?_⟩, fun q => absurd q (by decide)⟩
      · rw [hv, h136, eq10_ hm] at q
        exact absurd eq q
      · rw [e5]
        exact sM_refuses (by decide) (hRef 5 (by decide) (by decide))
  · rw [f1]
    refine ⟨fun q => absurd rfl q, fun _ => ?_⟩
    rw [e2]
    refine s_refuse (by decide) (by decide) ?_
    refine m0 ?_
    rw [sM_isTale, h133, bI_0, f2]
    refine ⟨fun q => absurd rfl q, fun _ => ?_⟩
    rw [e2]
    exact sM_refuses (by decide) (hRef 2 (by decide) (by decide))
