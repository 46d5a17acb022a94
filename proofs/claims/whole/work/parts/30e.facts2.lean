/-! ===== how facts change ===== -/
def apF (F : FtT) (a b c d : Nat) : FtT := (qfN F + 1, qfK F, qfT F, qfZ F, fun y => if y = qfN F then a else qfF F y, fun y => if y = qfN F then b else qfE F y, fun y => if y = qfN F then c else qfB F y, fun y => if y = qfN F then d else qfS F y)
theorem apF_F {F : FtT} {a b c d y : Nat} : qfF (apF F a b c d) y = if y = qfN F then a else qfF F y := rfl
theorem apF_E {F : FtT} {a b c d y : Nat} : qfE (apF F a b c d) y = if y = qfN F then b else qfE F y := rfl
theorem apF_B {F : FtT} {a b c d y : Nat} : qfB (apF F a b c d) y = if y = qfN F then c else qfB F y := rfl
theorem apF_S {F : FtT} {a b c d y : Nat} : qfS (apF F a b c d) y = if y = qfN F then d else qfS F y := rfl
theorem apF_N {F : FtT} {a b c d : Nat} : qfN (apF F a b c d) = qfN F + 1 := rfl
theorem ap_tbF {SB : Ob} {kp : Nat → Int32} {F : FtT} (h : tbF SB kp F) (hn : qfN F < 10) {a b c d : Nat} (h1 : a ≤ b) (h2 : b ≤ 2000) (h3 : c ≤ 99) (h4 : d ≤ 15) : tbF (addT SB (qfN F) (nI a) (nI b) (nI c) (nI d)) ((addF (kO kp) (qfN F) (nI a) (nI b) (nI c) (nI d)).2 3) (apF F a b c d) := by
  obtain ⟨⟨ok, c4, c50, c51, c52, cx⟩, ⟨-, m133, m40, m41, m42, mx⟩⟩ := h
  have okn : okF (apF F a b c d) := by
    refine ⟨hn, ok.2.1, ok.2.2.1, ok.2.2.2.1, fun y hy => ?_⟩
    rw [apF_F, apF_E, apF_B, apF_S]
    rw [apF_N] at hy
    by_cases e : y = qfN F
    · rw [if_pos e, if_pos e, if_pos e, if_pos e]; omega
    · rw [if_neg e, if_neg e, if_neg e, if_neg e]; exact ok.2.2.2.2 y (by omega)
  have hk : (addF (kO kp) (qfN F) (nI a) (nI b) (nI c) (nI d)).2 3 = upd (upd (upd (upd (upd kp (4 * qfN F) (nI a)) (4 * qfN F + 1) (nI b)) (4 * qfN F + 2) (nI c)) (4 * qfN F + 3) (nI d)) 133 (nI (qfN F) + 1) := rfl
  refine ⟨⟨okn, ?_, c50, c51, c52, fun y hy => ?_⟩, okn, ?_, ?_, ?_, ?_, fun y hy => ?_⟩
  · show nI (qfN F) + 1 = _
    rw [nI_1]; rfl
  · have r0 : (addT SB (qfN F) (nI a) (nI b) (nI c) (nI d)).2 0 y = if y = qfN F then nI a else SB.2 0 y := rfl
    have r1 : (addT SB (qfN F) (nI a) (nI b) (nI c) (nI d)).2 1 y = if y = qfN F then nI b else SB.2 1 y := rfl
    have r2 : (addT SB (qfN F) (nI a) (nI b) (nI c) (nI d)).2 2 y = if y = qfN F then nI c else SB.2 2 y := rfl
    have r3 : (addT SB (qfN F) (nI a) (nI b) (nI c) (nI d)).2 3 y = if y = qfN F then nI d else SB.2 3 y := rfl
    rw [r0, r1, r2, r3, apF_F, apF_E, apF_B, apF_S]
    rw [apF_N] at hy
    by_cases e : y = qfN F
    · rw [if_pos e, if_pos e, if_pos e, if_pos e, if_pos e, if_pos e, if_pos e, if_pos e]; exact ⟨rfl, rfl, rfl, rfl⟩
    · rw [if_neg e, if_neg e, if_neg e, if_neg e, if_neg e, if_neg e, if_neg e, if_neg e]; exact cx y (by omega)
  · rw [hk, upd_h, nI_1]; rfl
  · rw [hk, upd_i (by omega), upd_i (by omega), upd_i (by omega), upd_i (by omega), upd_i (by omega)]; exact m40
  · rw [hk, upd_i (by omega), upd_i (by omega), upd_i (by omega), upd_i (by omega), upd_i (by omega)]; exact m41
  · rw [hk, upd_i (by omega), upd_i (by omega), upd_i (by omega), upd_i (by omega), upd_i (by omega)]; exact m42
  · rw [apF_N] at hy
    rw [hk, apF_F, apF_E, apF_B, apF_S]
    by_cases e : y = qfN F
    · subst e
      rw [if_pos rfl, if_pos rfl, if_pos rfl, if_pos rfl]
      refine ⟨?_, ?_, ?_, ?_⟩
      · rw [upd_i (by omega), upd_i (by omega), upd_i (by omega), upd_i (by omega), upd_h]
      · rw [upd_i (by omega), upd_i (by omega), upd_i (by omega), upd_h]
      · rw [upd_i (by omega), upd_i (by omega), upd_h]
      · rw [upd_i (by omega), upd_h]
    · rw [if_neg e, if_neg e, if_neg e, if_neg e]
      obtain ⟨q0, q1, q2, q3⟩ := mx y (by omega)
      refine ⟨?_, ?_, ?_, ?_⟩
      · rw [upd_i (by omega), upd_i (by omega), upd_i (by omega), upd_i (by omega), upd_i (by omega)]; exact q0
      · rw [upd_i (by omega), upd_i (by omega), upd_i (by omega), upd_i (by omega), upd_i (by omega)]; exact q1
      · rw [upd_i (by omega), upd_i (by omega), upd_i (by omega), upd_i (by omega), upd_i (by omega)]; exact q2
      · rw [upd_i (by omega), upd_i (by omega), upd_i (by omega), upd_i (by omega), upd_i (by omega)]; exact q3
theorem addF_o {kp : Nat → Int32} {n : Nat} {a b c d : Int32} {i : Nat} (hi : 43 ≤ i) (h133 : i ≠ 133) (hn : n < 10) : (addF (kO kp) n a b c d).2 3 i = kp i := by
  have hk : (addF (kO kp) n a b c d).2 3 = upd (upd (upd (upd (upd kp (4 * n) a) (4 * n + 1) b) (4 * n + 2) c) (4 * n + 3) d) 133 (nI n + 1) := rfl
  rw [hk, upd_i (by omega), upd_i (by omega), upd_i (by omega), upd_i (by omega), upd_i (by omega)]
def stF (F : FtT) (t k w : Nat) : FtT := (qfN F, qfK F, qfT F, qfZ F, fun y => if y = t ∧ k = 0 then w else qfF F y, fun y => if y = t ∧ k = 1 then w else qfE F y, fun y => if y = t ∧ k = 2 then w else qfB F y, fun y => if y = t ∧ k = 3 then w else qfS F y)
theorem st_tbF {SB : Ob} {kp : Nat → Int32} {F : FtT} (h : tbF SB kp F) {t k w : Nat} (ht : t < qfN F) (hk : k < 4) (h0 : k = 0 → w ≤ qfE F t) (h1 : k = 1 → qfF F t ≤ w ∧ w ≤ 2000) (h2 : k = 2 → w ≤ 99) (h3 : k = 3 → w ≤ 15) : tbF (uA SB k t (nI w)) (upd kp (4 * t + k) (nI w)) (stF F t k w) := by
  obtain ⟨⟨ok, c4, c50, c51, c52, cx⟩, ⟨-, m133, m40, m41, m42, mx⟩⟩ := h
  have h10 := ok.1
  have gF : ∀ y, qfF (stF F t k w) y = if y = t ∧ k = 0 then w else qfF F y := fun _ => rfl
  have gE : ∀ y, qfE (stF F t k w) y = if y = t ∧ k = 1 then w else qfE F y := fun _ => rfl
  have gB : ∀ y, qfB (stF F t k w) y = if y = t ∧ k = 2 then w else qfB F y := fun _ => rfl
  have gS : ∀ y, qfS (stF F t k w) y = if y = t ∧ k = 3 then w else qfS F y := fun _ => rfl
  have okn : okF (stF F t k w) := by
    refine ⟨ok.1, ok.2.1, ok.2.2.1, ok.2.2.2.1, fun y hy => ?_⟩
    rw [gF, gE, gB, gS]
    have hy : y < qfN F := hy
    have q := ok.2.2.2.2 y hy
    by_cases e : y = t
    · subst e
      rcases (by omega : k = 0 ∨ k = 1 ∨ k = 2 ∨ k = 3) with rfl | rfl | rfl | rfl
      · have := h0 rfl; simp; omega
      · have := h1 rfl; simp; omega
      · have := h2 rfl; simp; omega
      · have := h3 rfl; simp; omega
    · simp [e]; omega
  refine ⟨⟨okn, c4, ?_, ?_, ?_, fun y hy => ?_⟩, okn, ?_, ?_, ?_, ?_, fun y hy => ?_⟩
  · rw [uA_o (by omega)]; exact c50
  · rw [uA_o (by omega)]; exact c51
  · rw [uA_o (by omega)]; exact c52
  · have hy : y < qfN F := hy
    rw [gF, gE, gB, gS]
    obtain ⟨q0, q1, q2, q3⟩ := cx y hy
    have key : ∀ (j : Nat) (z : Nat), SB.2 j y = nI z → (uA SB k t (nI w)).2 j y = nI (if y = t ∧ k = j then w else z) := by
      intro j z hz
      by_cases e : y = t ∧ k = j
      · rw [if_pos e, e.1, e.2, uA_h]
      · rw [if_neg e]
        by_cases e2 : j = k
        · subst e2
          rw [uA_i (fun q => e ⟨q, rfl⟩)]; exact hz
        · rw [uA_o e2]; exact hz
    exact ⟨key 0 _ q0, key 1 _ q1, key 2 _ q2, key 3 _ q3⟩
  · rw [upd_i (by omega)]; exact m133
  · rw [upd_i (by omega)]; exact m40
  · rw [upd_i (by omega)]; exact m41
  · rw [upd_i (by omega)]; exact m42
  · have hy : y < qfN F := hy
    rw [gF, gE, gB, gS]
    obtain ⟨q0, q1, q2, q3⟩ := mx y hy
    have key : ∀ (j : Nat) (z : Nat), j < 4 → kp (4 * y + j) = nI z → upd kp (4 * t + k) (nI w) (4 * y + j) = nI (if y = t ∧ k = j then w else z) := by
      intro j z hj hz
      by_cases e : y = t ∧ k = j
      · rw [if_pos e, e.1, e.2, upd_h]
      · rw [if_neg e, upd_i (fun q => e (by omega))]; exact hz
    exact ⟨key 0 _ (by decide) q0, key 1 _ (by decide) q1, key 2 _ (by decide) q2, key 3 _ (by decide) q3⟩
def tmF (F : FtT) (k w : Nat) : FtT := (qfN F, if k = 0 then w else qfK F, if k = 1 then decide (w = 1) else qfT F, if k = 2 then w else qfZ F, F.2.2.2.2)
theorem tm_tbF {SB : Ob} {kp : Nat → Int32} {F : FtT} (h : tbF SB kp F) {k w : Nat} (hk : k < 3) (h0 : k = 0 → 1 ≤ w ∧ w ≤ 4) (h1 : k = 1 → w ≤ 1) (h2 : k = 2 → w ≤ 9) : tbF (uA SB 5 k (nI w)) (upd kp (40 + k) (nI w)) (tmF F k w) := by
  obtain ⟨⟨ok, c4, c50, c51, c52, cx⟩, ⟨-, m133, m40, m41, m42, mx⟩⟩ := h
  have h10 := ok.1
  have eb : w ≤ 1 → nI w = bI (decide (w = 1)) := fun q => by
    rcases (by omega : w = 0 ∨ w = 1) with rfl | rfl <;> rfl
  have gK : qfK (tmF F k w) = if k = 0 then w else qfK F := rfl
  have gT : qfT (tmF F k w) = if k = 1 then decide (w = 1) else qfT F := rfl
  have gZ : qfZ (tmF F k w) = if k = 2 then w else qfZ F := rfl
  have okn : okF (tmF F k w) := by
    refine ⟨ok.1, ?_, ?_, ?_, ok.2.2.2.2⟩
    · rw [gK]; split
      · rename_i q; exact (h0 q).1
      · exact ok.2.1
    · rw [gK]; split
      · rename_i q; exact (h0 q).2
      · exact ok.2.2.1
    · rw [gZ]; split
      · rename_i q; exact h2 q
      · exact ok.2.2.2.1
  refine ⟨⟨okn, c4, ?_, ?_, ?_, fun y hy => ?_⟩, okn, ?_, ?_, ?_, ?_, fun y hy => ?_⟩
  · rw [gK]; by_cases q : k = 0
    · subst q; rw [uA_h]; rfl
    · rw [uA_i (fun e => q e.symm), if_neg q]; exact c50
  · rw [gT]; by_cases q : k = 1
    · subst q; rw [uA_h]; exact eb (h1 rfl)
    · rw [uA_i (fun e => q e.symm), if_neg q]; exact c51
  · rw [gZ]; by_cases q : k = 2
    · subst q; rw [uA_h]; rfl
    · rw [uA_i (fun e => q e.symm), if_neg q]; exact c52
  · rw [uA_o (by decide), uA_o (by decide), uA_o (by decide), uA_o (by decide)]; exact cx y hy
  · rw [upd_i (by omega)]; exact m133
  · rw [gK]; by_cases q : k = 0
    · subst q; exact upd_h
    · rw [upd_i (by omega), if_neg q]; exact m40
  · rw [gT]; by_cases q : k = 1
    · subst q; exact upd_h.trans (eb (h1 rfl))
    · rw [upd_i (by omega), if_neg q]; exact m41
  · rw [gZ]; by_cases q : k = 2
    · subst q; exact upd_h
    · rw [upd_i (by omega), if_neg q]; exact m42
  · have hy : y < qfN F := hy
    rw [upd_i (by omega), upd_i (by omega), upd_i (by omega), upd_i (by omega)]; exact mx y hy
theorem i_ofR {x : Int32} {M : Nat} (hM : M < 2 ^ 31) (h : (decide (0 ≤ x) && decide (x ≤ nI M)) = true) : ∃ w, w ≤ M ∧ x = nI w := by
  rw [Bool.and_eq_true, decide_eq_true_eq, decide_eq_true_eq, fa_le, fa_le, nI_toInt hM] at h
  have e0 : (0 : Int32).toInt = 0 := by decide
  rw [e0] at h
  refine ⟨x.toInt.toNat, by omega, ?_⟩
  rw [iZ_n, Int.toNat_of_nonneg h.1]
  exact iZ_as x
