/-! ===== small calls: both answer alike ===== -/
def refC (SO : Ob) (k : Nat) : Ob := uA (uS SO 16 (-nI k)) 15 k (SO.2 15 k + 1)
def refM (S : Ob) (k : Nat) : Ob := uA (uS S 0 (-nI k)) 2 k (S.2 2 k + 1)
def goodM (S : Ob) : Ob := uS (uS S 0 0) 1 (S.1 1 + 1)
theorem s_refuse {SO : Ob} {k : Nat} (h1 : 1 ≤ k) (hk : k < 7) {Q : Int32 → Ob → Prop} (h : Q (-nI k) (refC SO k)) : w_X8_refuse SO (-nI k) Q := by
  unfold w_X8_refuse
  have e : -(-nI k) = nI k := Int32.neg_neg
  have en : (-nI k).toInt = -(k : Int) := by
    have hk' : k = 1 ∨ k = 2 ∨ k = 3 ∨ k = 4 ∨ k = 5 ∨ k = 6 := by omega
    rcases hk' with rfl | rfl | rfl | rfl | rfl | rfl <;> decide
  rintro S1 rfl
  rw [e, nI_clamp (by omega)]
  refine ⟨fun c => ?_, fun _ => ⟨fun c => ?_, fun _ => ⟨vp_in_nI hk (by decide), vp_in_nI hk (by decide), ?_⟩⟩⟩
  · have := Int32.le_iff_toInt_le.mp c
    have h0 : (0 : Int32).toInt = 0 := by decide
    omega
  · have := Int32.lt_iff_toInt_lt.mp c
    have h0 : (-6 : Int32).toInt = -6 := by decide
    omega
  · rintro S4 rfl
    exact h
theorem s_accept {SO : Ob} {v : Int32} {Q : Int32 → Ob → Prop} : w_X8_accept SO v Q = Q v (uS SO 16 0) := by
  unfold w_X8_accept
  simp
theorem eq_status {SO S : Ob} {R : Int32 → Int32 → Prop} (h : SO.1 16 = S.1 0) (hR : ∀ r, R r r) : w_X8_status SO (fun r => wM_status S (fun r' => R r r')) := by
  show R (SO.1 16) (S.1 0)
  rw [h]; exact hR _
theorem eq_fault {SO S : Ob} {R : Int32 → Int32 → Prop} (h : SO.1 6 = S.1 11) (hR : ∀ r, R r r) : w_X8_fault SO (fun r => wM_fault S (fun r' => R r r')) := by
  show R (SO.1 6) (S.1 11)
  rw [h]; exact hR _
theorem eq_mumbled {SO S : Ob} {R : Int32 → Int32 → Prop} (h : SO.1 7 = S.1 6) (hR : ∀ r, R r r) : w_X8_mumbled SO (fun r => wM_mumbled S (fun r' => R r r')) := by
  show R (SO.1 7) (S.1 6)
  rw [h]; exact hR _
theorem eq_hush {SO SB ST S : Ob} {R : Int32 → Ob → Int32 → Ob → Prop} (h : ST.1 3 = S.2 3 134) (hR : R (S.2 3 134) (uS ST 3 0) (S.2 3 134) (uS (uA S 3 134 0) 1 (S.1 1 + 1))) : w_X8_hush SO SB ST (fun r S' => wM_hush S (fun r' S'' => R r S' r' S'')) := by
  unfold w_X8_hush w_X7_drop wM_hush
  rintro v1 rfl S2 rfl v1' rfl S2' rfl S3 rfl
  rw [h]
  exact hR
theorem eq_forget {SO SB ST S : Ob} {R : Int32 → Ob → Int32 → Ob → Prop} (h : ST.1 3 = S.2 3 135) (hR : R (S.2 3 135) (uS ST 3 0) (S.2 3 135) (uS (uA S 3 135 0) 1 (S.1 1 + 1))) : w_X8_forget SO SB ST (fun r S' => wM_forget S (fun r' S'' => R r S' r' S'')) := by
  unfold w_X8_forget w_X7_drop wM_forget
  rintro v1 rfl S2 rfl v1' rfl S2' rfl S3 rfl
  rw [h]
  exact hR
theorem eq_clear {SO SB ST S : Ob} {R : Int32 → Ob → Int32 → Ob → Prop} (h : ST.1 3 = S.2 3 136) (hR : R (S.2 3 136) (uS ST 3 0) (S.2 3 136) (uS (uA S 3 136 0) 1 (S.1 1 + 1))) : w_X8_clear SO SB ST (fun r S' => wM_clear S (fun r' S'' => R r S' r' S'')) := by
  unfold w_X8_clear w_X7_drop wM_clear
  rintro v1 rfl S2 rfl v1' rfl S2' rfl S3 rfl
  rw [h]
  exact hR
set_option maxHeartbeats 1000000 in
theorem eq_count {SO SB Std Sme Scl S : Ob} {x : Int32} {R : Int32 → Int32 → Prop} (h0 : SB.1 4 = S.2 3 133) (h1 : SB.1 7 = S.2 3 137) (h2 : Std.1 3 = S.2 3 134) (h3 : Sme.1 3 = S.2 3 135) (h4 : Scl.1 3 = S.2 3 136) (h5 : SO.1 4 = S.1 10) (h6 : ∀ k, k < 7 → SO.2 15 k = S.2 2 k) (h7 : SB.1 8 = S.2 3 138) (h8 : ∀ k, k < 3 → SB.2 5 k = S.2 3 (40 + k)) (hR : ∀ r, R r r) : w_X8_count SO SB Std Sme Scl x (fun r => wM_count S x (fun r' => R r r')) := by
  unfold w_X8_count wM_count
  simp only [jn_d]
  intro v hv
  subst hv
  refine ⟨fun c => ?_, fun c => ?_, fun c => ?_, fun c => ?_, fun c => ?_, fun c => ?_, fun c => ?_, fun c => ?_, fun c => ?_, fun c => ?_, fun c => ?_, fun c => ?_, fun c => ?_, fun c => ?_, fun c => ?_, fun q0 q1 q2 q3 q4 q5 q6 q7 q8 q9 q10 q11 q12 q13 q14 => ?_⟩
  · subst c
    intro v' hv'
    subst hv'
    refine ⟨fun q => ?_, fun q => ?_, fun q => ?_, fun q => ?_, fun q => ?_, fun q => ?_, fun q => ?_, fun q => ?_, fun q => ?_, fun q => ?_, fun q => ?_, fun q => ?_, fun q => ?_, fun q => ?_, fun q => ?_, fun q0 q1 q2 q3 q4 q5 q6 q7 q8 q9 q10 q11 q12 q13 q14 => ?_⟩
    · have hh := h0
      rw [hh]
      exact hR _
    · exact absurd q (by decide)
    · exact absurd q (by decide)
    · exact absurd q (by decide)
    · exact absurd q (by decide)
    · exact absurd q (by decide)
    · exact absurd q (by decide)
    · exact absurd q (by decide)
    · exact absurd q (by decide)
    · exact absurd q (by decide)
    · exact absurd q (by decide)
    · exact absurd q (by decide)
    · exact absurd q (by decide)
    · exact absurd q (by decide)
    · exact absurd q (by decide)
    · exact absurd rfl q0
  · subst c
    intro v' hv'
    subst hv'
    refine ⟨fun q => ?_, fun q => ?_, fun q => ?_, fun q => ?_, fun q => ?_, fun q => ?_, fun q => ?_, fun q => ?_, fun q => ?_, fun q => ?_, fun q => ?_, fun q => ?_, fun q => ?_, fun q => ?_, fun q => ?_, fun q0 q1 q2 q3 q4 q5 q6 q7 q8 q9 q10 q11 q12 q13 q14 => ?_⟩
    · exact absurd q (by decide)
    · have hh := h1
      rw [hh]
      exact hR _
    · exact absurd q (by decide)
    · exact absurd q (by decide)
    · exact absurd q (by decide)
    · exact absurd q (by decide)
    · exact absurd q (by decide)
    · exact absurd q (by decide)
    · exact absurd q (by decide)
    · exact absurd q (by decide)
    · exact absurd q (by decide)
    · exact absurd q (by decide)
    · exact absurd q (by decide)
    · exact absurd q (by decide)
    · exact absurd q (by decide)
    · exact absurd rfl q1
  · subst c
    intro v' hv'
    subst hv'
    refine ⟨fun q => ?_, fun q => ?_, fun q => ?_, fun q => ?_, fun q => ?_, fun q => ?_, fun q => ?_, fun q => ?_, fun q => ?_, fun q => ?_, fun q => ?_, fun q => ?_, fun q => ?_, fun q => ?_, fun q => ?_, fun q0 q1 q2 q3 q4 q5 q6 q7 q8 q9 q10 q11 q12 q13 q14 => ?_⟩
    · exact absurd q (by decide)
    · exact absurd q (by decide)
    · have hh := h2
      rw [hh]
      exact hR _
    · exact absurd q (by decide)
    · exact absurd q (by decide)
    · exact absurd q (by decide)
    · exact absurd q (by decide)
    · exact absurd q (by decide)
    · exact absurd q (by decide)
    · exact absurd q (by decide)
    · exact absurd q (by decide)
    · exact absurd q (by decide)
    · exact absurd q (by decide)
    · exact absurd q (by decide)
    · exact absurd q (by decide)
    · exact absurd rfl q2
  · subst c
    intro v' hv'
    subst hv'
    refine ⟨fun q => ?_, fun q => ?_, fun q => ?_, fun q => ?_, fun q => ?_, fun q => ?_, fun q => ?_, fun q => ?_, fun q => ?_, fun q => ?_, fun q => ?_, fun q => ?_, fun q => ?_, fun q => ?_, fun q => ?_, fun q0 q1 q2 q3 q4 q5 q6 q7 q8 q9 q10 q11 q12 q13 q14 => ?_⟩
    · exact absurd q (by decide)
    · exact absurd q (by decide)
    · exact absurd q (by decide)
    · have hh := h3
      rw [hh]
      exact hR _
    · exact absurd q (by decide)
    · exact absurd q (by decide)
    · exact absurd q (by decide)
    · exact absurd q (by decide)
    · exact absurd q (by decide)
    · exact absurd q (by decide)
    · exact absurd q (by decide)
    · exact absurd q (by decide)
    · exact absurd q (by decide)
    · exact absurd q (by decide)
    · exact absurd q (by decide)
    · exact absurd rfl q3
  · subst c
    intro v' hv'
    subst hv'
    refine ⟨fun q => ?_, fun q => ?_, fun q => ?_, fun q => ?_, fun q => ?_, fun q => ?_, fun q => ?_, fun q => ?_, fun q => ?_, fun q => ?_, fun q => ?_, fun q => ?_, fun q => ?_, fun q => ?_, fun q => ?_, fun q0 q1 q2 q3 q4 q5 q6 q7 q8 q9 q10 q11 q12 q13 q14 => ?_⟩
    · exact absurd q (by decide)
    · exact absurd q (by decide)
    · exact absurd q (by decide)
    · exact absurd q (by decide)
    · have hh := h4
      rw [hh]
      exact hR _
    · exact absurd q (by decide)
    · exact absurd q (by decide)
    · exact absurd q (by decide)
    · exact absurd q (by decide)
    · exact absurd q (by decide)
    · exact absurd q (by decide)
    · exact absurd q (by decide)
    · exact absurd q (by decide)
    · exact absurd q (by decide)
    · exact absurd q (by decide)
    · exact absurd rfl q4
  · subst c
    intro v' hv'
    subst hv'
    refine ⟨fun q => ?_, fun q => ?_, fun q => ?_, fun q => ?_, fun q => ?_, fun q => ?_, fun q => ?_, fun q => ?_, fun q => ?_, fun q => ?_, fun q => ?_, fun q => ?_, fun q => ?_, fun q => ?_, fun q => ?_, fun q0 q1 q2 q3 q4 q5 q6 q7 q8 q9 q10 q11 q12 q13 q14 => ?_⟩
    · exact absurd q (by decide)
    · exact absurd q (by decide)
    · exact absurd q (by decide)
    · exact absurd q (by decide)
    · exact absurd q (by decide)
    · have hh := h5
      rw [hh]
      exact hR _
    · exact absurd q (by decide)
    · exact absurd q (by decide)
    · exact absurd q (by decide)
    · exact absurd q (by decide)
    · exact absurd q (by decide)
    · exact absurd q (by decide)
    · exact absurd q (by decide)
    · exact absurd q (by decide)
    · exact absurd q (by decide)
    · exact absurd rfl q5
  · subst c
    intro v' hv'
    subst hv'
    refine ⟨fun q => ?_, fun q => ?_, fun q => ?_, fun q => ?_, fun q => ?_, fun q => ?_, fun q => ?_, fun q => ?_, fun q => ?_, fun q => ?_, fun q => ?_, fun q => ?_, fun q => ?_, fun q => ?_, fun q => ?_, fun q0 q1 q2 q3 q4 q5 q6 q7 q8 q9 q10 q11 q12 q13 q14 => ?_⟩
    · exact absurd q (by decide)
    · exact absurd q (by decide)
    · exact absurd q (by decide)
    · exact absurd q (by decide)
    · exact absurd q (by decide)
    · exact absurd q (by decide)
    · have hh := h6 1 (by decide)
      have e : ((6 : Int32) - 5) = nI 1 := by decide
      rw [hh, e, nI_clamp (by decide)]
      exact ⟨vp_in_nI (by decide) (by decide), hR _⟩
    · exact absurd q (by decide)
    · exact absurd q (by decide)
    · exact absurd q (by decide)
    · exact absurd q (by decide)
    · exact absurd q (by decide)
    · exact absurd q (by decide)
    · exact absurd q (by decide)
    · exact absurd q (by decide)
    · exact absurd rfl q6
  · subst c
    intro v' hv'
    subst hv'
    refine ⟨fun q => ?_, fun q => ?_, fun q => ?_, fun q => ?_, fun q => ?_, fun q => ?_, fun q => ?_, fun q => ?_, fun q => ?_, fun q => ?_, fun q => ?_, fun q => ?_, fun q => ?_, fun q => ?_, fun q => ?_, fun q0 q1 q2 q3 q4 q5 q6 q7 q8 q9 q10 q11 q12 q13 q14 => ?_⟩
    · exact absurd q (by decide)
    · exact absurd q (by decide)
    · exact absurd q (by decide)
    · exact absurd q (by decide)
    · exact absurd q (by decide)
    · exact absurd q (by decide)
    · exact absurd q (by decide)
    · have hh := h6 2 (by decide)
      have e : ((7 : Int32) - 5) = nI 2 := by decide
      rw [hh, e, nI_clamp (by decide)]
      exact ⟨vp_in_nI (by decide) (by decide), hR _⟩
    · exact absurd q (by decide)
    · exact absurd q (by decide)
    · exact absurd q (by decide)
    · exact absurd q (by decide)
    · exact absurd q (by decide)
    · exact absurd q (by decide)
    · exact absurd q (by decide)
    · exact absurd rfl q7
  · subst c
    intro v' hv'
    subst hv'
    refine ⟨fun q => ?_, fun q => ?_, fun q => ?_, fun q => ?_, fun q => ?_, fun q => ?_, fun q => ?_, fun q => ?_, fun q => ?_, fun q => ?_, fun q => ?_, fun q => ?_, fun q => ?_, fun q => ?_, fun q => ?_, fun q0 q1 q2 q3 q4 q5 q6 q7 q8 q9 q10 q11 q12 q13 q14 => ?_⟩
    · exact absurd q (by decide)
    · exact absurd q (by decide)
    · exact absurd q (by decide)
    · exact absurd q (by decide)
    · exact absurd q (by decide)
    · exact absurd q (by decide)
    · exact absurd q (by decide)
    · exact absurd q (by decide)
    · have hh := h6 3 (by decide)
      have e : ((8 : Int32) - 5) = nI 3 := by decide
      rw [hh, e, nI_clamp (by decide)]
      exact ⟨vp_in_nI (by decide) (by decide), hR _⟩
    · exact absurd q (by decide)
    · exact absurd q (by decide)
    · exact absurd q (by decide)
    · exact absurd q (by decide)
    · exact absurd q (by decide)
    · exact absurd q (by decide)
    · exact absurd rfl q8
  · subst c
    intro v' hv'
    subst hv'
    refine ⟨fun q => ?_, fun q => ?_, fun q => ?_, fun q => ?_, fun q => ?_, fun q => ?_, fun q => ?_, fun q => ?_, fun q => ?_, fun q => ?_, fun q => ?_, fun q => ?_, fun q => ?_, fun q => ?_, fun q => ?_, fun q0 q1 q2 q3 q4 q5 q6 q7 q8 q9 q10 q11 q12 q13 q14 => ?_⟩
    · exact absurd q (by decide)
    · exact absurd q (by decide)
    · exact absurd q (by decide)
    · exact absurd q (by decide)
    · exact absurd q (by decide)
    · exact absurd q (by decide)
    · exact absurd q (by decide)
    · exact absurd q (by decide)
    · exact absurd q (by decide)
    · have hh := h6 5 (by decide)
      rw [hh]
      exact hR _
    · exact absurd q (by decide)
    · exact absurd q (by decide)
    · exact absurd q (by decide)
    · exact absurd q (by decide)
    · exact absurd q (by decide)
    · exact absurd rfl q9
  · subst c
    intro v' hv'
    subst hv'
    refine ⟨fun q => ?_, fun q => ?_, fun q => ?_, fun q => ?_, fun q => ?_, fun q => ?_, fun q => ?_, fun q => ?_, fun q => ?_, fun q => ?_, fun q => ?_, fun q => ?_, fun q => ?_, fun q => ?_, fun q => ?_, fun q0 q1 q2 q3 q4 q5 q6 q7 q8 q9 q10 q11 q12 q13 q14 => ?_⟩
    · exact absurd q (by decide)
    · exact absurd q (by decide)
    · exact absurd q (by decide)
    · exact absurd q (by decide)
    · exact absurd q (by decide)
    · exact absurd q (by decide)
    · exact absurd q (by decide)
    · exact absurd q (by decide)
    · exact absurd q (by decide)
    · exact absurd q (by decide)
    · have hh := h6 6 (by decide)
      rw [hh]
      exact hR _
    · exact absurd q (by decide)
    · exact absurd q (by decide)
    · exact absurd q (by decide)
    · exact absurd q (by decide)
    · exact absurd rfl q10
  · subst c
    intro v' hv'
    subst hv'
    refine ⟨fun q => ?_, fun q => ?_, fun q => ?_, fun q => ?_, fun q => ?_, fun q => ?_, fun q => ?_, fun q => ?_, fun q => ?_, fun q => ?_, fun q => ?_, fun q => ?_, fun q => ?_, fun q => ?_, fun q => ?_, fun q0 q1 q2 q3 q4 q5 q6 q7 q8 q9 q10 q11 q12 q13 q14 => ?_⟩
    · exact absurd q (by decide)
    · exact absurd q (by decide)
    · exact absurd q (by decide)
    · exact absurd q (by decide)
    · exact absurd q (by decide)
    · exact absurd q (by decide)
    · exact absurd q (by decide)
    · exact absurd q (by decide)
    · exact absurd q (by decide)
    · exact absurd q (by decide)
    · exact absurd q (by decide)
    · have hh := h7
      rw [hh]
      exact hR _
    · exact absurd q (by decide)
    · exact absurd q (by decide)
    · exact absurd q (by decide)
    · exact absurd rfl q11
  · subst c
    intro v' hv'
    subst hv'
    refine ⟨fun q => ?_, fun q => ?_, fun q => ?_, fun q => ?_, fun q => ?_, fun q => ?_, fun q => ?_, fun q => ?_, fun q => ?_, fun q => ?_, fun q => ?_, fun q => ?_, fun q => ?_, fun q => ?_, fun q => ?_, fun q0 q1 q2 q3 q4 q5 q6 q7 q8 q9 q10 q11 q12 q13 q14 => ?_⟩
    · exact absurd q (by decide)
    · exact absurd q (by decide)
    · exact absurd q (by decide)
    · exact absurd q (by decide)
    · exact absurd q (by decide)
    · exact absurd q (by decide)
    · exact absurd q (by decide)
    · exact absurd q (by decide)
    · exact absurd q (by decide)
    · exact absurd q (by decide)
    · exact absurd q (by decide)
    · exact absurd q (by decide)
    · have hh := h8 0 (by decide)
      have e : ((40 + (12 : Int32)) - 12) = nI 40 := by decide
      rw [hh, e, nI_clamp (by decide)]
      exact ⟨vp_in_nI (by decide) (by decide), hR _⟩
    · exact absurd q (by decide)
    · exact absurd q (by decide)
    · exact absurd rfl q12
  · subst c
    intro v' hv'
    subst hv'
    refine ⟨fun q => ?_, fun q => ?_, fun q => ?_, fun q => ?_, fun q => ?_, fun q => ?_, fun q => ?_, fun q => ?_, fun q => ?_, fun q => ?_, fun q => ?_, fun q => ?_, fun q => ?_, fun q => ?_, fun q => ?_, fun q0 q1 q2 q3 q4 q5 q6 q7 q8 q9 q10 q11 q12 q13 q14 => ?_⟩
    · exact absurd q (by decide)
    · exact absurd q (by decide)
    · exact absurd q (by decide)
    · exact absurd q (by decide)
    · exact absurd q (by decide)
    · exact absurd q (by decide)
    · exact absurd q (by decide)
    · exact absurd q (by decide)
    · exact absurd q (by decide)
    · exact absurd q (by decide)
    · exact absurd q (by decide)
    · exact absurd q (by decide)
    · exact absurd q (by decide)
    · have hh := h8 1 (by decide)
      have e : ((40 + (13 : Int32)) - 12) = nI 41 := by decide
      rw [hh, e, nI_clamp (by decide)]
      exact ⟨vp_in_nI (by decide) (by decide), hR _⟩
    · exact absurd q (by decide)
    · exact absurd rfl q13
  · subst c
    intro v' hv'
    subst hv'
    refine ⟨fun q => ?_, fun q => ?_, fun q => ?_, fun q => ?_, fun q => ?_, fun q => ?_, fun q => ?_, fun q => ?_, fun q => ?_, fun q => ?_, fun q => ?_, fun q => ?_, fun q => ?_, fun q => ?_, fun q => ?_, fun q0 q1 q2 q3 q4 q5 q6 q7 q8 q9 q10 q11 q12 q13 q14 => ?_⟩
    · exact absurd q (by decide)
    · exact absurd q (by decide)
    · exact absurd q (by decide)
    · exact absurd q (by decide)
    · exact absurd q (by decide)
    · exact absurd q (by decide)
    · exact absurd q (by decide)
    · exact absurd q (by decide)
    · exact absurd q (by decide)
    · exact absurd q (by decide)
    · exact absurd q (by decide)
    · exact absurd q (by decide)
    · exact absurd q (by decide)
    · exact absurd q (by decide)
    · have hh := h8 2 (by decide)
      have e : ((40 + (14 : Int32)) - 12) = nI 42 := by decide
      rw [hh, e, nI_clamp (by decide)]
      exact ⟨vp_in_nI (by decide) (by decide), hR _⟩
    · exact absurd rfl q14
  · intro v' hv'
    subst hv'
    refine ⟨fun c => ?_, fun c => ?_, fun c => ?_, fun c => ?_, fun c => ?_, fun c => ?_, fun c => ?_, fun c => ?_, fun c => ?_, fun c => ?_, fun c => ?_, fun c => ?_, fun c => ?_, fun c => ?_, fun c => ?_, fun _ _ _ _ _ _ _ _ _ _ _ _ _ _ _ => ?_⟩
    · exact absurd c q0
    · exact absurd c q1
    · exact absurd c q2
    · exact absurd c q3
    · exact absurd c q4
    · exact absurd c q5
    · exact absurd c q6
    · exact absurd c q7
    · exact absurd c q8
    · exact absurd c q9
    · exact absurd c q10
    · exact absurd c q11
    · exact absurd c q12
    · exact absurd c q13
    · exact absurd c q14
    · exact hR _
