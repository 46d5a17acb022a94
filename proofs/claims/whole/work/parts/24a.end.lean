/-! ===== the tape: end ===== -/
theorem eq_end {SO S : Ob} {x : Int32} {R : Int32 → Ob → Int32 → Ob → Prop} (h : SO.1 4 = S.1 10) (hno : R (-1) SO (-1) S) (hy : 0 ≤ x → x ≤ S.1 10 → R x (uS SO 4 x) x (uS S 10 x)) : w_X8_end SO x (fun r S' => wM_end S x (fun r' S'' => R r S' r' S'')) := by
  have m1 : (decide (0 ≤ x) && decide (x ≤ S.1 10)) = false → wM_end S x (fun r' S'' => R (-1) SO r' S'') := by
    intro c
    unfold wM_end
    rw [sM_lies, bI_0, c]
    exact ⟨fun q => absurd rfl q, fun _ => hno⟩
  unfold w_X8_end
  rw [h]
  refine ⟨fun c => m1 (by simp [Int32.not_le.mpr c]), fun c => ⟨fun d => ?_, fun d => m1 (by simp [d])⟩⟩
  rintro S1 rfl
  unfold wM_end
  have hc := Int32.not_lt.mp c
  rw [sM_lies, bI_0, show (decide (0 ≤ x) && decide (x ≤ S.1 10)) = true from by simp [hc, d]]
  refine ⟨fun _ => ?_, fun q => absurd q (by decide)⟩
  rintro S3 rfl
  exact hy hc d
