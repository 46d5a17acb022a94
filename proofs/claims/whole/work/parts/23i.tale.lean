def addT (SB : Ob) (n : Nat) (a b c d : Int32) : Ob := uS (uA (uA (uA (uA SB 0 n a) 1 n b) 2 n c) 3 n d) 4 (nI n + 1)
def addF (S : Ob) (n : Nat) (a b c d : Int32) : Ob := uA (uA (uA (uA (uA S 3 (4 * n) a) 3 (4 * n + 1) b) 3 (4 * n + 2) c) 3 (4 * n + 3) d) 3 133 (nI n + 1)
theorem s_addT {SB : Ob} {n : Nat} {a b c d : Int32} {Q : Ob → Prop} (h : SB.1 4 = nI n) (hn : n < 10) (hq : Q (addT SB n a b c d)) : w_X6_add SB a b c d Q := by
  unfold w_X6_add
  have hv : vp_in (nI n) 10 := vp_in_nI hn (by decide)
  have e1 : ∀ {k i : Nat} {v : Int32} {S : Ob}, (uA S k i v).1 4 = S.1 4 := rfl
  rw [h]
  refine ⟨fun c => ?_, fun _ => ⟨hv, ?_⟩⟩
  · have := (nI_leI (a := 10) (b := n) (by omega) (by omega)).mp c
    omega
  · rintro S2 rfl
    rw [e1, h]
    refine ⟨hv, ?_⟩
    rintro S4 rfl
    rw [e1, e1, h]
    refine ⟨hv, ?_⟩
    rintro S6 rfl
    rw [e1, e1, e1, h]
    refine ⟨hv, ?_⟩
    rintro S8 rfl S9 rfl
    rw [e1, e1, e1, e1, h, nI_clamp (by omega)]
    exact hq
theorem m_adds {S : Ob} {n : Nat} {a b c d : Int32} {Q : Int32 → Ob → Prop} (h : S.2 3 133 = nI n) (hn : n < 10) (hq : Q (nI n + 1 - 1) (addF S n a b c d)) : wM_adds S a b c d Q := by
  unfold wM_adds
  rw [sM_tales, h]
  intro w hw
  have e0 : w = nI (4 * n) := by
    rw [hw]
    show nI 4 * nI n = _
    rw [pk_mul]
  have e1 : w + 1 = nI (4 * n + 1) := by rw [e0]; show nI _ + nI 1 = _; rw [nI_add]
  have e2 : w + 2 = nI (4 * n + 2) := by rw [e0]; show nI _ + nI 2 = _; rw [nI_add]
  have e3 : w + 3 = nI (4 * n + 3) := by rw [e0]; show nI _ + nI 3 = _; rw [nI_add]
  rw [e1, e2, e3, e0, nI_clamp (by omega), nI_clamp (by omega), nI_clamp (by omega), nI_clamp (by omega)]
  refine ⟨vp_in_nI (by omega) (by decide), ?_⟩
  rintro S5 rfl
  refine ⟨vp_in_nI (by omega) (by decide), ?_⟩
  rintro S7 rfl
  refine ⟨vp_in_nI (by omega) (by decide), ?_⟩
  rintro S9 rfl
  refine ⟨vp_in_nI (by omega) (by decide), ?_⟩
  rintro S11 rfl S12 rfl
  have hc : (uA (uA (uA (uA S 3 (4 * n) a) 3 (4 * n + 1) b) 3 (4 * n + 2) c) 3 (4 * n + 3) d).2 3 133 = nI n := by
    rw [uA_2, if_pos rfl]
    simp only [upd_d, uA_2, if_pos]
    rw [if_neg (by omega), if_neg (by omega), if_neg (by omega), if_neg (by omega)]
    exact h
  rw [hc, sM_tales]
  have hd : (uA (uA (uA (uA (uA S 3 (4 * n) a) 3 (4 * n + 1) b) 3 (4 * n + 2) c) 3 (4 * n + 3) d) 3 133 (nI n + 1)).2 3 133 = nI n + 1 := by
    rw [uA_2, if_pos rfl, upd_d, if_pos rfl]
  rw [hd]
  exact hq
theorem eq_tale {SO SB SP S : Ob} {a b c d : Int32} {R : Int32 → Ob → Ob → Ob → Int32 → Ob → Prop} {n : Nat} (hn : n ≤ 10) (h4 : SB.1 4 = nI n) (h133 : S.2 3 133 = nI n)
    (hRef : ∀ k, 1 ≤ k → k < 7 → R (-nI k) (refC SO k) SB SP (-nI k) (refM S k))
    (hAdd : n < 10 → ((decide (0 ≤ a) && decide (a ≤ 2000)) && ((decide (a ≤ b) && decide (b ≤ 2000)) && ((decide (0 ≤ c) && decide (c ≤ 99)) && (decide (0 ≤ d) && decide (d ≤ 15))))) = true → R (nI n + 1 - 1) (uS SO 16 0) (addT SB n a b c d) (spoP SP) (nI n + 1 - 1) (goodM (addF S n a b c d))) :
    w_X8_tale SO SB SP a b c d (fun r S' B' P' => wM_tale S a b c d (fun r' S'' => R r S' B' P' r' S'')) := by
  have e1 : (-1 : Int32) = -nI 1 := by decide
  have e5 : (-5 : Int32) = -nI 5 := by decide
  unfold w_X8_tale
  refine s_canBe ?_
  rw [bI_0]
  refine ⟨fun ok => ?_, fun no => ?_⟩
  · have ok' := bnf_ ok
    have m0 : ∀ {Q' : Int32 → Ob → Prop}, ((¬ nI n = 10 → wM_adds S a b c d (fun r5 S6 => wM_good S6 r5 Q')) ∧ (nI n = 10 → wM_refuses S (-5) Q')) → wM_tale S a b c d Q' := by
      intro Q' q
      unfold wM_tale
      rw [sM_canBe, bI_0, ok']
      refine ⟨fun _ => ?_, fun q => absurd q (by decide)⟩
      rw [sM_tales, h133]
      exact q
    rw [h4]
    refine ⟨fun lt => ?_, fun ge => ?_⟩
    · have hlt : n < 10 := by
        rcases Nat.lt_or_ge n 10 with q | q
        · exact q
        · have : n = 10 := by omega
          subst this
          exact absurd lt (by decide)
      refine s_addT h4 hlt ?_
      rw [s_spoil, s_accept]
      refine m0 ⟨fun _ => m_adds h133 hlt ?_, fun q => ?_⟩
      · rw [sM_good]
        exact hAdd hlt ok'
      · rw [eq10_ hn] at q
        omega
    · have hge : n = 10 := by
        rcases Nat.lt_or_ge n 10 with q | q
        · refine absurd ?_ ge
          rw [Int32.lt_iff_toInt_lt, nI_toInt (by omega), show (10 : Int32).toInt = 10 from by decide]
          omega
        · omega
      rw [e5]
      refine s_refuse (by decide) (by decide) (m0 ⟨fun q => absurd ((eq10_ hn).mpr hge) q, fun _ => ?_⟩)
      rw [e5]
      exact sM_refuses (by decide) (hRef 5 (by decide) (by decide))
  · rw [e1]
    refine s_refuse (by decide) (by decide) ?_
    show wM_tale S a b c d (fun r' S'' => R (-nI 1) (refC SO 1) SB SP r' S'')
    unfold wM_tale
    rw [sM_canBe, bI_0, no]
    refine ⟨fun q => absurd rfl q, fun _ => ?_⟩
    rw [e1]
    exact sM_refuses (by decide) (hRef 1 (by decide) (by decide))
