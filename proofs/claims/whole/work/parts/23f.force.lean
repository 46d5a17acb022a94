def spoP (SP : Ob) : Ob := uS (uS (uS SP 8 0) 9 0) 17 0
theorem s_spoil {SP : Ob} {Q : Ob → Prop} : w_X3_spoil SP Q = Q (spoP SP) := by
  unfold w_X3_spoil spoP
  simp
theorem lt_p1 {x : Int32} {l : Nat} (hl : l ≤ 100) : x < nI l ↔ x ≤ nI l - 1 := by
  have en : (nI l - 1).toInt = (l : Int) - 1 := by
    have := nI_toInt (n := l) (by omega)
    have h1 : (1 : Int32).toInt = 1 := by decide
    rw [fb_subI (by omega) (by omega)]
    omega
  rw [Int32.lt_iff_toInt_lt, Int32.le_iff_toInt_le, en, nI_toInt (by omega)]
  omega
theorem eq_force {SO SB SP S : Ob} {x : Int32} {R : Int32 → Ob → Ob → Ob → Int32 → Ob → Prop} {l : Nat} (hl : l ≤ 6) (h7 : SB.1 7 = nI l) (h137 : S.2 3 137 = nI l) (h8 : SB.1 8 = S.2 3 138)
    (hRef : ∀ k, 1 ≤ k → k < 7 → R (-nI k) (refC SO k) SB SP (-nI k) (refM S k))
    (hSet : (-1 : Int32) ≤ x → x < nI l → R (S.2 3 138) (uS SO 16 0) (uS SB 8 x) (spoP SP) (S.2 3 138) (goodM (uA S 3 138 x))) :
    w_X8_force SO SB SP x (fun r S' B' P' => wM_force S x (fun r' S'' => R r S' B' P' r' S'')) := by
  have e2 : (-2 : Int32) = -nI 2 := by decide
  have m1 : (decide (-1 ≤ x) && decide (x ≤ nI l - 1)) = false → w_X8_refuse SO (-2) (fun r S4 => wM_force S x (fun r' S'' => R r S4 SB SP r' S'')) := by
    intro c
    rw [e2]
    refine s_refuse (by decide) (by decide) ?_
    unfold wM_force
    rw [h137, sM_lies, bI_0, c]
    refine ⟨fun q => absurd rfl q, fun _ => ?_⟩
    rw [e2]
    exact sM_refuses (by decide) (hRef 2 (by decide) (by decide))
  unfold w_X8_force
  rw [jn_d, h7]
  refine ⟨fun c => m1 (by simp [Int32.not_le.mpr c]), fun c => ⟨fun d => ?_, fun d => m1 (by rw [lt_p1 (by omega)] at d; simp [d])⟩⟩
  rintro v6 rfl S7 rfl
  rw [s_spoil, s_accept]
  show wM_force S x (fun r' S'' => R (SB.1 8) (uS SO 16 0) (uS SB 8 x) (spoP SP) r' S'')
  unfold wM_force
  have hc := Int32.not_lt.mp c
  have hd := (lt_p1 (by omega)).mp d
  rw [h137, sM_lies, bI_0, show (decide (-1 ≤ x) && decide (x ≤ nI l - 1)) = true from by simp [hc, hd]]
  refine ⟨fun _ => ?_, fun q => absurd q (by decide)⟩
  rintro v3 rfl S4 rfl
  rw [sM_good, h8]
  exact hSet hc d
