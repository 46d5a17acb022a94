theorem jn_g {α : Sort _} {j : α} {b : α → Prop} (C : α → Prop) (hj : C j) (hb : ∀ J, C J → b J) : jn j b := hb j hj
def tlo (k : Nat) : Int32 := if k = 0 then 1 else 0
def thi (k : Nat) : Int32 := if k = 0 then 4 else if k = 1 then 1 else 9
def tOK (x1 x2 : Int32) : Prop := ∃ k, k < 3 ∧ x1 = nI k ∧ tlo k ≤ x2 ∧ x2 ≤ thi k
theorem tOK_0 {x2 : Int32} : tOK 0 x2 ↔ (1 ≤ x2 ∧ x2 ≤ 4) := by
  refine ⟨fun ⟨k, hk, e, q⟩ => ?_, fun q => ⟨0, by decide, rfl, q⟩⟩
  have : k = 0 ∨ k = 1 ∨ k = 2 := by omega
  rcases this with rfl | rfl | rfl
  · exact q
  · exact absurd e (by decide)
  · exact absurd e (by decide)
theorem tOK_1 {x2 : Int32} : tOK 1 x2 ↔ (0 ≤ x2 ∧ x2 ≤ 1) := by
  refine ⟨fun ⟨k, hk, e, q⟩ => ?_, fun q => ⟨1, by decide, rfl, q⟩⟩
  have : k = 0 ∨ k = 1 ∨ k = 2 := by omega
  rcases this with rfl | rfl | rfl
  · exact absurd e (by decide)
  · exact q
  · exact absurd e (by decide)
theorem tOK_2 {x2 : Int32} : tOK 2 x2 ↔ (0 ≤ x2 ∧ x2 ≤ 9) := by
  refine ⟨fun ⟨k, hk, e, q⟩ => ?_, fun q => ⟨2, by decide, rfl, q⟩⟩
  have : k = 0 ∨ k = 1 ∨ k = 2 := by omega
  rcases this with rfl | rfl | rfl
  · exact absurd e (by decide)
  · exact absurd e (by decide)
  · exact q
theorem cs_terms {SO SB SP : Ob} {x1 x2 : Int32} {Q : Int32 → Ob → Ob → Ob → Prop}
    (hy : tOK x1 x2 → ∀ k, k < 3 → x1 = nI k → Q (SB.2 5 k) (uS SO 16 0) (uA SB 5 k x2) (spoP SP))
    (hn : ¬ tOK x1 x2 → Q (-nI 1) (refC SO 1) SB SP) : w_X8_terms SO SB SP x1 x2 Q := by
  have e1 : (-1 : Int32) = -nI 1 := by decide
  unfold w_X8_terms
  refine jn_g (fun J2 => (tOK x1 x2 → J2 1) ∧ (¬ tOK x1 x2 → J2 0)) ⟨fun ok => ⟨fun _ => ?_, fun q => absurd q (by decide)⟩, fun no => ⟨fun q => absurd rfl q, fun _ => ?_⟩⟩ ?_
  · obtain ⟨k, hk, rfl, -⟩ := id ok
    have hv : vp_in (nI k) 3 := vp_in_nI hk (by decide)
    refine ⟨hv, ?_⟩
    rintro v4 rfl
    refine ⟨hv, ?_⟩
    rintro S6 rfl
    rw [s_spoil, s_accept, nI_clamp (by omega)]
    exact hy ok k hk rfl
  · rw [e1]
    exact s_refuse (by decide) (by decide) (hn no)
  rintro J2 ⟨hy2, hn2⟩
  refine jn_g (fun J17 => tOK x1 x2 → J17 ()) hy2 (fun J17 h17 => ?_)
  refine jn_g (fun J19 => ¬ (x1 = 0 ∧ tOK x1 x2) → J19 ()) (fun n0 => ?_) (fun J19 h19 => ?_)
  · refine jn_g (fun J21 => ¬ (x1 = 1 ∧ tOK x1 x2) → J21 ()) (fun n1 => ?_) (fun J21 h21 => ?_)
    · refine jn_g (fun J23 => ¬ (x1 = 2 ∧ tOK x1 x2) → J23 ()) (fun n2 => hn2 (fun q => ?_)) (fun J23 h23 => ?_)
      · obtain ⟨k, hk, e, -⟩ := id q
        have : k = 0 ∨ k = 1 ∨ k = 2 := by omega
        rcases this with rfl | rfl | rfl
        · exact n0 ⟨e, q⟩
        · exact n1 ⟨e, q⟩
        · exact n2 ⟨e, q⟩
      · refine ⟨fun c => h23 (fun q => c q.1), fun c => ?_⟩
        subst c
        rw [tOK_2] at h17 h23
        exact ⟨fun d => h23 (fun q => absurd q.2.1 (Int32.not_le.mpr d)), fun d => ⟨fun d2 => h23 (fun q => absurd q.2.2 (Int32.not_le.mpr d2)), fun d2 => h17 ⟨Int32.not_lt.mp d, Int32.not_lt.mp d2⟩⟩⟩
    · refine ⟨fun c => h21 (fun q => c q.1), fun c => ?_⟩
      subst c
      rw [tOK_1] at h17 h21
      exact ⟨fun d => h21 (fun q => absurd q.2.1 (Int32.not_le.mpr d)), fun d => ⟨fun d2 => h17 ⟨Int32.not_lt.mp d, d2⟩, fun d2 => h21 (fun q => d2 q.2.2)⟩⟩
  · refine ⟨fun c => h19 (fun q => c q.1), fun c => ?_⟩
    subst c
    rw [tOK_0] at h17 h19
    exact ⟨fun d => h19 (fun q => absurd q.2.1 (Int32.not_le.mpr d)), fun d => ⟨fun d2 => h17 ⟨Int32.not_lt.mp d, d2⟩, fun d2 => h19 (fun q => d2 q.2.2)⟩⟩
theorem ms_terms {S : Ob} {x1 x2 : Int32} {Q : Int32 → Ob → Prop}
    (hy : tOK x1 x2 → ∀ k, k < 3 → x1 = nI k → Q (S.2 3 (40 + k)) (goodM (uA S 3 (40 + k) x2)))
    (hn : ¬ tOK x1 x2 → Q (-nI 1) (refM S 1)) : wM_terms S x1 x2 Q := by
  have e1 : (-1 : Int32) = -nI 1 := by decide
  unfold wM_terms
  rw [sM_lies, bI_0]
  refine jn_g (fun J4 => ¬ tOK x1 x2 → J4 ()) (fun no => ?_) (fun J4 h4 => ?_)
  · rw [e1]
    exact sM_refuses (by decide) (hn no)
  refine ⟨fun c => h4 (fun ⟨k, hk, e, _⟩ => ?_), fun c => ?_⟩
  · have : k = 0 ∨ k = 1 ∨ k = 2 := by omega
    rcases this with rfl | rfl | rfl <;> (rw [e] at c; exact absurd c (by decide))
  have key : ∀ k, k < 3 → x1 = nI k → wM_lies x2 (tlo k) (thi k) (fun (r12 : Int32) => ((¬ r12 = 0 → vp_in (40 + x1) 4945 ∧ ∀ v15 : Int32, v15 = (S.2 3 (Int32.toNatClampNeg (40 + x1))) → vp_in (40 + x1) 4945 ∧ ∀ S17 : Ob, S17 = uA S 3 (Int32.toNatClampNeg (40 + x1)) x2 → wM_good S17 v15 (fun (r18 : Int32) (S19 : Ob) => Q r18 S19)) ∧ (r12 = 0 → J4 ()))) := by
    rintro k hk rfl
    have e40 : (40 + nI k : Int32) = nI (40 + k) := by show nI 40 + nI k = _; rw [nI_add]
    have hv : vp_in (nI (40 + k)) 4945 := vp_in_nI (by omega) (by decide)
    rw [sM_lies, bI_0, e40, nI_clamp (by omega)]
    refine ⟨fun d => ⟨hv, ?_⟩, fun d => h4 (fun ⟨k', hk', e, q⟩ => ?_)⟩
    · rintro v15 rfl
      refine ⟨hv, ?_⟩
      rintro S17 rfl
      rw [sM_good]
      have d' := bnf_ d
      rw [Bool.and_eq_true, decide_eq_true_eq, decide_eq_true_eq] at d'
      exact hy ⟨k, hk, rfl, d'⟩ k hk rfl
    · have ek : k' = k := by
        have := congrArg Int32.toInt e
        rw [nI_toInt (by omega), nI_toInt (by omega)] at this
        omega
      subst ek
      simp [q] at d
  have c' := bnf_ c
  rw [← e32_] at c'
  rcases is_tale x1 (n := 3) (by decide) with ⟨k, hk, e, -, -⟩ | ⟨-, f2⟩
  · have hk' := key k hk e
    have : k = 0 ∨ k = 1 ∨ k = 2 := by omega
    rcases this with rfl | rfl | rfl
    · subst e
      exact ⟨fun q => absurd rfl q, fun _ => ⟨fun q => absurd rfl q, fun _ => hk'⟩⟩
    · subst e
      exact ⟨fun _ => ⟨fun _ => ⟨fun q => absurd rfl q, fun _ => hk'⟩, fun q => absurd q (by decide)⟩, fun q => absurd q (by decide)⟩
    · subst e
      exact ⟨fun _ => ⟨fun _ => ⟨fun _ => hk', fun q => absurd q (by decide)⟩, fun q => absurd q (by decide)⟩, fun q => absurd q (by decide)⟩
  · rw [f2] at c'; exact absurd c' (by decide)
theorem eq_terms {SO SB SP S : Ob} {x1 x2 : Int32} {R : Int32 → Ob → Ob → Ob → Int32 → Ob → Prop} (h5 : ∀ k, k < 3 → SB.2 5 k = S.2 3 (40 + k))
    (hRef : R (-nI 1) (refC SO 1) SB SP (-nI 1) (refM S 1))
    (hSet : tOK x1 x2 → ∀ k, k < 3 → x1 = nI k → R (S.2 3 (40 + k)) (uS SO 16 0) (uA SB 5 k x2) (spoP SP) (S.2 3 (40 + k)) (goodM (uA S 3 (40 + k) x2))) :
    w_X8_terms SO SB SP x1 x2 (fun r S' B' P' => wM_terms S x1 x2 (fun r' S'' => R r S' B' P' r' S'')) := by
  refine cs_terms (fun ok k hk e => ms_terms (fun _ k' hk' e' => ?_) (fun no => absurd ok no)) (fun no => ms_terms (fun ok => absurd ok no) (fun _ => hRef))
  have ek : k' = k := by
    have := congrArg Int32.toInt (e'.symm.trans e)
    rw [nI_toInt (by omega), nI_toInt (by omega)] at this
    omega
  subst ek
  rw [h5 k' hk]
  exact hSet ok k' hk e
