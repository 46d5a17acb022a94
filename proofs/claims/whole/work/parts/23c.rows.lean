/-! ===== mention, claim: both answer alike ===== -/
def add3 (ST : Ob) (m : Nat) (a b c : Int32) : Ob := uS (uA (uA (uA ST 0 m a) 1 m b) 2 m c) 3 (nI m + 1)
def addK (S : Ob) (b cn m : Nat) (x y z : Int32) : Ob := uA (uA (uA (uA S 3 (b + 3 * m) x) 3 (b + 3 * m + 1) y) 3 (b + 3 * m + 2) z) 3 cn (nI m + 1)
theorem s_add {ST : Ob} {m : Nat} {x y z : Int32} {Q : Ob → Prop} (h : ST.1 3 = nI m) (hm : m < 10) (hq : Q (add3 ST m x y z)) : w_X7_add ST x y z Q := by
  unfold w_X7_add
  have hv : vp_in (nI m) 10 := vp_in_nI hm (by decide)
  rw [h]
  refine ⟨fun c => ?_, fun _ => ⟨hv, ?_⟩⟩
  · have := (nI_leI (a := 10) (b := m) (by omega) (by omega)).mp c
    omega
  · rintro S2 rfl
    have h2 : (uA ST 0 (Int32.toNatClampNeg (nI m)) x).1 3 = nI m := h
    rw [h2]
    refine ⟨hv, ?_⟩
    rintro S4 rfl
    have h4 : (uA (uA ST 0 (Int32.toNatClampNeg (nI m)) x) 1 (Int32.toNatClampNeg (nI m)) y).1 3 = nI m := h
    rw [h4]
    refine ⟨hv, ?_⟩
    rintro S6 rfl S7 rfl
    have h6 : (uA (uA (uA ST 0 (Int32.toNatClampNeg (nI m)) x) 1 (Int32.toNatClampNeg (nI m)) y) 2 (Int32.toNatClampNeg (nI m)) z).1 3 = nI m := h
    rw [h6, nI_clamp (by omega)]
    exact hq
theorem s_isFull {ST : Ob} {m : Nat} {Q : Int32 → Prop} (h : ST.1 3 = nI m) (hm : m ≤ 10) (h1 : m < 10 → Q 0) (h2 : m = 10 → Q 1) : w_X7_isFull ST Q := by
  unfold w_X7_isFull
  rw [h]
  refine ⟨fun c => h1 ?_, fun c => h2 ?_⟩
  · rcases Nat.lt_or_ge m 10 with q | q
    · exact q
    · have : m = 10 := by omega
      subst this
      exact absurd c (by decide)
  · rcases Nat.lt_or_ge m 10 with q | q
    · refine absurd ?_ c
      rw [Int32.lt_iff_toInt_lt, nI_toInt (by omega), show (10 : Int32).toInt = 10 from by decide]
      omega
    · omega
/-- the reference's row of three laid at the end -/
theorem m_row {S : Ob} {b cn m : Nat} {x y z : Int32} {Q : Ob → Prop} (h : S.2 3 cn = nI m) (hm : m < 10) (hb : b ≤ 103) (hcn : b + 30 ≤ cn) (hq : Q (addK S b cn m x y z)) : ∀ w : Int32, w = nI b + 3 * nI m → vp_in w 4945 ∧ ∀ S14 : Ob, S14 = uA S 3 (Int32.toNatClampNeg w) x → vp_in (w + 1) 4945 ∧ ∀ S16 : Ob, S16 = uA S14 3 (Int32.toNatClampNeg (w + 1)) y → vp_in (w + 2) 4945 ∧ ∀ S18 : Ob, S18 = uA S16 3 (Int32.toNatClampNeg (w + 2)) z → ∀ S19 : Ob, S19 = uA S18 3 cn ((S18.2 3 cn) + 1) → Q S19 := by
  intro w hw
  have e0 : w = nI (b + 3 * m) := by
    rw [hw]
    show nI b + nI 3 * nI m = _
    rw [pk_mul, nI_add]
  have e1 : w + 1 = nI (b + 3 * m + 1) := by rw [e0]; show nI _ + nI 1 = _; rw [nI_add]
  have e2 : w + 2 = nI (b + 3 * m + 2) := by rw [e0]; show nI _ + nI 2 = _; rw [nI_add]
  rw [e1, e2, e0, nI_clamp (by omega), nI_clamp (by omega), nI_clamp (by omega)]
  refine ⟨vp_in_nI (by omega) (by decide), ?_⟩
  rintro S14 rfl
  refine ⟨vp_in_nI (by omega) (by decide), ?_⟩
  rintro S16 rfl
  refine ⟨vp_in_nI (by omega) (by decide), ?_⟩
  rintro S18 rfl S19 rfl
  have hc : (uA (uA (uA S 3 (b + 3 * m) x) 3 (b + 3 * m + 1) y) 3 (b + 3 * m + 2) z).2 3 cn = nI m := by
    rw [uA_2, if_pos rfl]
    simp only [upd_d, uA_2, if_pos]
    rw [if_neg (by omega), if_neg (by omega), if_neg (by omega)]
    exact h
  rw [hc]
  exact hq
