/-- put is laid: the years stay in their order -/
def pOK (K : Nat → Int32) (t k : Nat) (v : Int32) : Prop := (k = 0 → v ≤ K (4 * t + 1)) ∧ (k = 1 → K (4 * t) ≤ v)
theorem ms_put {S : Ob} {t k n : Nat} {v : Int32} {Q : Int32 → Ob → Prop} (hk : k < 4) (ht : t < n) (hn : n ≤ 10) (h133 : S.2 3 133 = nI n) (hv : (decide (0 ≤ v) && decide (v ≤ pmax k)) = true)
    (hy : pOK (S.2 3) t k v → Q (S.2 3 (4 * t + k)) (goodM (uA S 3 (4 * t + k) v)))
    (hno : ¬ pOK (S.2 3) t k v → Q (-nI 1) (refM S 1)) : wM_put S (nI t) (nI k) v Q := by
  have e1 : (-1 : Int32) = -nI 1 := by decide
  have ef : (4 * nI t + nI k : Int32) = nI (4 * t + k) := by
    show nI 4 * nI t + nI k = _
    rw [pk_mul, nI_add]
  have h4 : k = 0 ∨ k = 1 ∨ k = 2 ∨ k = 3 := by omega
  have ho : (decide (0 ≤ nI t) && decide (nI t ≤ nI n - 1)) = true := by
    rcases is_tale (nI t) hn with ⟨j, hj, e, -, q⟩ | ⟨q, -⟩
    · exact q
    · refine absurd q ?_
      have a1 : (0 : Int32) ≤ nI t := by rw [Int32.le_iff_toInt_le, nI_toInt (by omega), show (0 : Int32).toInt = 0 from by decide]; omega
      have a2 : nI t < nI n := by rw [Int32.lt_iff_toInt_lt, nI_toInt (by omega), nI_toInt (by omega)]; omega
      simp [a1, a2]
  unfold wM_put
  rw [sM_lies, bI_0]
  refine jn_g (fun _ => True) trivial (fun J4 _ => ⟨fun c => ?_, fun _ => ?_⟩)
  · rcases h4 with rfl | rfl | rfl | rfl <;> exact absurd c (by decide)
  refine jn_g (fun J9 => J9 (pmax k)) ?_ (fun J9 h9 => ?_)
  · rw [sM_lies, bI_0, hv]
    refine ⟨fun _ => ?_, fun q => absurd q (by decide)⟩
    rw [sM_isTale, h133, bI_0, ho]
    refine ⟨fun _ => ?_, fun q => absurd q (by decide)⟩
    refine jn_g (fun J15 => ¬ pOK (S.2 3) t k v → J15 ()) (fun no => ?_) (fun J15 h15 => ?_)
    · rw [e1]
      exact sM_refuses (by decide) (hno no)
    refine jn_g (fun J20 => (k = 0 → v ≤ S.2 3 (4 * t + 1)) → J20 ()) (fun p0 => ?_) (fun J20 h20 => ?_)
    · refine jn_g (fun J22 => (k = 1 → S.2 3 (4 * t) ≤ v) → J22 ()) (fun p1 => ?_) (fun J22 h22 => ?_)
      · rw [sM_factOf (by omega), ef, nI_clamp (by omega)]
        refine ⟨vp_in_nI (by omega) (by decide), ?_⟩
        rintro S26 rfl
        rw [sM_good]
        exact hy ⟨p0, p1⟩
      · refine ⟨fun c => h22 (fun q => absurd (by rw [q]; rfl) c), fun c => ?_⟩
        have hf := @sM_factOf S t 0 (by omega)
        rw [show (0 : Int32) = nI 0 from rfl, hf]
        refine ⟨fun d => h22 (fun _ => d), fun d => h15 (fun q => d (q.2 ?_))⟩
        rcases h4 with rfl | rfl | rfl | rfl
        · exact absurd c (by decide)
        · rfl
        · exact absurd c (by decide)
        · exact absurd c (by decide)
    · refine ⟨fun c => h20 (fun q => absurd (by rw [q]; rfl) c), fun c => ?_⟩
      have hf := @sM_factOf S t 1 (by omega)
      rw [show (1 : Int32) = nI 1 from rfl, hf]
      refine ⟨fun d => h15 (fun q => absurd (q.1 ?_) (Int32.not_le.mpr d)), fun d => h20 (fun _ => Int32.not_lt.mp d)⟩
      rcases h4 with rfl | rfl | rfl | rfl
      · rfl
      · exact absurd c (by decide)
      · exact absurd c (by decide)
      · exact absurd c (by decide)
  · rcases h4 with rfl | rfl | rfl | rfl
    · exact ⟨fun c => absurd c (by decide), fun _ => h9⟩
    · exact ⟨fun c => absurd c (by decide), fun _ => h9⟩
    · exact ⟨fun _ => ⟨fun c => absurd rfl c, fun _ => h9⟩, fun c => absurd (by decide) c⟩
    · exact ⟨fun _ => ⟨fun _ => h9, fun c => absurd c (by decide)⟩, fun c => absurd (by decide) c⟩
