/-! ===== law: the pair ===== -/
def lawM (kp : Nat → Int32) (t : Nat) (Λ : List ClT) : Prop := ∃ K : TkT, okK K ∧ mLaw K = .inr Λ ∧ kp (139 + t) = nI (kN K) ∧ ∀ i, i < kN K → kp (145 + 400 * t + i) = nI (kC K i) ∧ vR (kp (2545 + 400 * t + i)) (kV K i)
def lwO (t : Nat) (kp kp' : Nat → Int32) : Prop := ∀ j, j ≠ 137 → j ≠ 139 + t → (j < 145 + 400 * t ∨ 545 + 400 * t ≤ j) → (j < 2545 + 400 * t ∨ 2945 + 400 * t ≤ j) → kp' j = kp j
def lwU (S S' : Ob) : Prop := (∀ k, k ≠ 10 → k ≠ 11 → k ≠ 15 → k ≠ 16 → k ≠ 17 → k ≠ 18 → S'.1 k = S.1 k) ∧ S'.1 10 = 0 ∧ ∀ k, k ≠ 3 → k ≠ 12 → k ≠ 13 → k ≠ 14 → S'.2 k = S.2 k
theorem m_reads {S : Ob} {T : Nat → Nat} (h7 : ∀ j, j < 70 → S.2 7 j = wordsB.getD j 0) (hT : ∀ i, i < 400 → S.2 8 i = iZ (sb (T i)) ∧ T i < 256) {m : Nat} (hm : m ≤ 400) (h10 : S.1 10 = nI m) {Q : Int32 → Ob → Prop}
    (hq1 : ∀ Λ, mLaw (tzK T m) = .inr Λ → ∀ S2, lwU S S2 → S2.2 3 = S.2 3 → S2.1 11 = -1 → tkM S2 (tzK T m) → S2.1 15 = nI (kN (tzK T m)) → Q 1 S2)
    (hq2 : ∀ f, mLaw (tzK T m) = .inl f → ∀ S2, lwU S S2 → S2.2 3 = S.2 3 → S2.1 11 = nI (kP (tzK T m) f) → Q 0 S2) : wM_reads S Q := by
  unfold wM_reads
  rw [h10]
  refine m_splits h7 hT hm (fun S1 s1 s2 s3 => ?_)
  rintro S3 rfl S4 rfl S5 rfl S6 rfl
  have tk : tkM (uS (uS (uS (uS S1 10 0) 16 0) 17 0) 18 (-1)) (tzK T m) := s2
  have u : ∀ S21, smR (uS (uS (uS (uS S1 10 0) 16 0) 17 0) 18 (-1)) S21 → lwU S S21 ∧ S21.2 3 = S.2 3 ∧ tkM S21 (tzK T m) ∧ S21.1 15 = nI (kN (tzK T m)) := by
    intro S21 h
    have e2 : S21.2 = S1.2 := h.1
    refine ⟨⟨fun k k1 k2 k3 k4 k5 k6 => ?_, ?_, fun k k1 k2 k3 k4 => ?_⟩, ?_, ?_, ?_⟩
    · rw [h.2 k k2 k4 k5 k6, uS_1, if_neg k6, uS_1, if_neg k5, uS_1, if_neg k4, uS_1, if_neg k1]
      exact s1.1 k k3
    · exact h.2 10 (by decide) (by decide) (by decide) (by decide)
    · rw [e2]; exact s1.2 k k2 k3 k4
    · rw [e2]; exact s1.2 3 (by decide) (by decide) (by decide)
    · unfold tkM at s2 ⊢
      rw [e2]; exact s2
    · exact (h.2 15 (by decide) (by decide) (by decide) (by decide)).trans s3
  refine a_readsL tk s3 ⟨⟨rfl, fun _ _ _ _ => rfl⟩, rfl, rfl, rfl, Nat.zero_le _, Nat.zero_le _⟩ (fun Λ h S21 h1 h2 => ?_) (fun f h S21 h1 h2 => ?_)
  · obtain ⟨u1, u2, u3, u4⟩ := u S21 h1
    exact hq1 Λ h S21 u1 u2 h2 u3 u4
  · obtain ⟨u1, u2, u3, u4⟩ := u S21 h1
    exact hq2 f h S21 u1 u2 h2
theorem s_read {SR : Ob} {Stp : Nat → Int32} {T : Nat → Nat} (hT : ∀ i, i < 400 → Stp i = nI (T i) ∧ T i < 256) {m : Nat} (hm : m ≤ 400) {Q : Option Lw → Ob → Prop} (hq1 : ∀ Λ, mLaw (tzK T m) = .inr Λ → ∀ L S16, lawC L Λ → S16.1 11 = -1 → Q (some L) S16) (hq2 : ∀ f, mLaw (tzK T m) = .inl f → f ≤ kN (tzK T m) → ∀ S16 : Ob, S16.1 11 = nI (kP (tzK T m) f) → Q none S16) : w_X4_read SR Stp (nI m) Q := by
  unfold w_X4_read
  refine s_split hT hm (fun S1 s1 s2 => ?_)
  rintro S3 rfl S4 rfl S5 rfl S6 rfl S7 rfl
  have hl : lwI (tzK T m) (tzD T m) (uS (uS (uS (uS (uS S1 3 0) 6 0) 9 0) 10 0) 11 (-1)) 0 0 0 [] := ⟨s1, rfl, rfl, rfl, rfl, rfl, Nat.zero_le _, Nat.zero_le _, Nat.zero_le _, Nat.zero_le _, rcS_0 _ _ _ _⟩
  exact b_readL hl hq1 hq2
set_option maxHeartbeats 1000000 in
theorem m_lawS {S2 : Ob} {K : TkT} (tk : tkM S2 K) (h15 : S2.1 15 = nI (kN K)) {t : Nat} (ht : t < 6) (h137 : S2.2 3 137 = nI t) {Λ : List ClT} (hΛ : mLaw K = .inr Λ) {Q : Int32 → Ob → Prop}
    (hq : ∀ S' : Ob, S'.1 = S2.1 → (∀ a, a ≠ 3 → S'.2 a = S2.2 a) → lwO t (S2.2 3) (S'.2 3) → S'.2 3 137 = nI (t + 1) → lawM (S'.2 3) t Λ → Q (nI t) (goodM S')) :
    ∀ v4 : Int32, v4 = (S2.2 3 137) → vp_in (139 + v4) 4945 ∧ ∀ S6 : Ob, S6 = uA S2 3 (Int32.toNatClampNeg (139 + v4)) (S2.1 15) → ∃ n, wl2 (fun L9 (x2_7 : Int32) (S8 : Ob) => (((S8.1 15) ≤ x2_7 → ∀ S10 : Ob, S10 = uA S8 3 137 ((S8.2 3 137) + 1) → wM_good S10 v4 (fun (r11 : Int32) (S12 : Ob) => Q r11 S12)) ∧ (¬ (S8.1 15) ≤ x2_7 → vp_in x2_7 401 ∧ vp_in ((145 + (400 * v4)) + x2_7) 4945 ∧ ∀ S16 : Ob, S16 = uA S8 3 (Int32.toNatClampNeg ((145 + (400 * v4)) + x2_7)) (S8.2 12 (Int32.toNatClampNeg x2_7)) → vp_in x2_7 401 ∧ vp_in ((2545 + (400 * v4)) + x2_7) 4945 ∧ ∀ S19 : Ob, S19 = uA S16 3 (Int32.toNatClampNeg ((2545 + (400 * v4)) + x2_7)) (S16.2 13 (Int32.toNatClampNeg x2_7)) → ∀ v20 : Int32, v20 = x2_7 + 1 → L9 v20 S19))) n 0 S6 := by
  have hn := tk.1.1
  rintro v4 rfl
  rw [h137, h15]
  have e1 : (139 + nI t : Int32) = nI (139 + t) := nI_add 139 t
  have ee : ∀ k, ((145 + (400 * nI t)) + nI k : Int32) = nI (145 + 400 * t + k) := fun k => by
    show nI 145 + nI 400 * nI t + nI k = _
    rw [pk_mul, nI_add, nI_add]
  have ef : ∀ k, ((2545 + (400 * nI t)) + nI k : Int32) = nI (2545 + 400 * t + k) := fun k => by
    show nI 2545 + nI 400 * nI t + nI k = _
    rw [pk_mul, nI_add, nI_add]
  rw [e1, nI_clamp (by omega)]
  refine ⟨vp_in_nI (by omega) (by decide), ?_⟩
  rintro S6 rfl
  refine fo2 (kN K) (by omega) (fun k S8 => S8.1 = S2.1 ∧ (∀ a, a ≠ 3 → S8.2 a = S2.2 a) ∧ lwO t (S2.2 3) (S8.2 3) ∧ S8.2 3 137 = nI t ∧ S8.2 3 (139 + t) = nI (kN K) ∧ ∀ i, i < k → S8.2 3 (145 + 400 * t + i) = nI (kC K i) ∧ vR (S8.2 3 (2545 + 400 * t + i)) (kV K i)) ?_ ?_ ?_
  · refine ⟨rfl, fun a ha => uA_o ha, fun j j1 j2 j3 j4 => uA_i j2, ?_, uA_h, fun i hi => absurd hi (Nat.not_lt_zero i)⟩
    rw [uA_i (by omega)]; exact h137
  · rintro L k S8 hk ⟨s1, s2, s3, s4, s5, s6⟩ ih
    rw [s1, h15]
    refine br_n (fun q => by have := (nI_leI (by omega) (by omega)).mp q; omega) ⟨vp_in_nI (by omega) (by decide), ?_⟩
    rw [ee, ef, nI_clamp (by omega : 145 + 400 * t + k < 2 ^ 31), nI_clamp (by omega : 2545 + 400 * t + k < 2 ^ 31), nI_clamp (by omega : k < 2 ^ 31)]
    refine ⟨vp_in_nI (by omega) (by decide), ?_⟩
    rintro S16 rfl
    refine ⟨vp_in_nI (by omega) (by decide), vp_in_nI (by omega) (by decide), ?_⟩
    rintro S19 rfl v20 rfl
    rw [nI_1]
    refine ih _ ⟨s1, fun a ha => ?_, fun j j1 j2 j3 j4 => ?_, ?_, ?_, fun i hi => ?_⟩
    · rw [uA_o ha, uA_o ha]; exact s2 a ha
    · rw [uA_i (by omega), uA_i (by omega)]; exact s3 j j1 j2 j3 j4
    · rw [uA_i (by omega), uA_i (by omega)]; exact s4
    · rw [uA_i (by omega), uA_i (by omega)]; exact s5
    · rw [uA_i (by omega : 145 + 400 * t + i ≠ 2545 + 400 * t + k)]
      by_cases q : i = k
      · rw [q, uA_h, uA_h, uA_o (by decide), s2 12 (by decide), s2 13 (by decide)]
        exact ⟨tk.2.1 k (by omega), tk.2.2.2 k hk⟩
      · rw [uA_i (by omega), uA_i (by omega), uA_i (by omega)]
        exact s6 i (by omega)
  · rintro L S8 ⟨s1, s2, s3, s4, s5, s6⟩
    rw [s1, h15, s4]
    refine br_y (Int32.le_refl _) ?_
    rintro S10 rfl
    rw [sM_good, nI_1]
    refine hq _ s1 (fun a ha => ?_) (fun j j1 j2 j3 j4 => ?_) uA_h ⟨K, tk.1, hΛ, ?_, fun i hi => ?_⟩
    · rw [uA_o ha]; exact s2 a ha
    · rw [uA_i j1]; exact s3 j j1 j2 j3 j4
    · rw [uA_i (by omega)]; exact s5
    · rw [uA_i (by omega), uA_i (by omega)]; exact s6 i hi
theorem eq_law {SO SR SB S : Ob} {Stp : Nat → Int32} {Sls : Nat → Option Nat} {T : Nat → Nat} (hT1 : ∀ i, i < 400 → Stp i = nI (T i) ∧ T i < 256) (hT2 : ∀ i, i < 400 → S.2 8 i = iZ (sb (T i))) (h7 : ∀ j, j < 70 → S.2 7 j = wordsB.getD j 0) {m t : Nat} (hm : m ≤ 400) (h4 : SO.1 4 = nI m) (h10 : S.1 10 = nI m) (ht : t ≤ 6) (hb : SB.1 7 = nI t) (h137 : S.2 3 137 = nI t)
    {R : Int32 → Option ((Nat → Nat) × Lw) → Ob → Ob → Ob → (Nat → Option Nat) → Int32 → Ob → Prop}
    (hR5 : t = 6 → R (-5) none (refC (uS SO 4 0) 5) SR SB Sls (-5) (refM (uS S 10 0) 5))
    (hR6 : t < 6 → ∀ f SR' S', lwU S S' → S'.2 3 = S.2 3 → S'.1 11 = f → R (-6) none (refC (uS (uS SO 4 0) 6 f) 6) SR' SB Sls (-6) (refM S' 6))
    (hRY : t < 6 → ∀ Λ L wl SR' S', lawC L Λ → lwU S S' → S'.1 11 = -1 → lwO t (S.2 3) (S'.2 3) → S'.2 3 137 = nI (t + 1) → lawM (S'.2 3) t Λ → R (nI t) (some (wl, L)) (uS (uS (uS SO 4 0) 6 (-1)) 16 0) SR' (uS SB 7 (nI (t + 1))) (va_up Sls t (some (wl 0))) (nI t) (goodM S')) :
    w_X8_law SO SR Stp SB Sls (fun r o SO' SR' SB' Sls' => wM_law S (fun r' S' => R r o SO' SR' SB' Sls' r' S')) := by
  have hT2' : ∀ i, i < 400 → S.2 8 i = iZ (sb (T i)) ∧ T i < 256 := fun i hi => ⟨hT2 i hi, (hT1 i hi).2⟩
  unfold w_X8_law
  rintro v1 rfl S2 rfl
  rw [h4, hb]
  rcases Nat.lt_or_ge t 6 with q | q
  · refine br_y ((nI_ltI (b := 6) (by omega) (by decide)).mpr q) (s_read hT1 hm (fun Λ hΛ L S4 hL hf => ?_) (fun f hΛ hfn S4 hf => ?_))
    · refine ⟨fun h => absurd h (by simp), ?_⟩
      rintro L' hL' wl S11 rfl
      injection hL' with hL'
      subst hL'
      refine ⟨vp_in_nI (by omega) (by decide), ?_⟩
      rintro S13 rfl S14 rfl
      rw [s_accept, hf]
      have er : ((uS SB 7 (nI t + 1)).1 7 - 1 : Int32) = nI t := by
        show (nI t + 1 - 1 : Int32) = nI t
        rw [nI_1]
        show nI (t + 1) - nI 1 = _
        rw [pk_sub (by omega)]
        rfl
      rw [er, nI_clamp (by omega), nI_1]
      unfold wM_law
      rw [h137]
      refine rb_n (fun h => by have := (nI_eq (b := 6) (by omega) (by decide)).mp h; omega) (m_reads h7 hT2' hm h10 (fun Λ2 h2 S2 u1 u2 u3 u4 u5 => ?_) (fun f h2 => absurd (h2.symm.trans hΛ) (by simp)))
      rw [hΛ] at h2
      injection h2 with h2
      subst h2
      refine rb_n (by decide) (m_lawS u4 u5 q (by rw [u2]; exact h137) hΛ (fun S' w1 w2 w3 w4 w5 => ?_))
      refine hRY q Λ L wl S4 S' hL ⟨fun k k1 k2 k3 k4 k5 k6 => by rw [w1]; exact u1.1 k k1 k2 k3 k4 k5 k6, by rw [w1]; exact u1.2.1, fun k k1 k2 k3 k4 => by rw [w2 k k1]; exact u1.2.2 k k1 k2 k3 k4⟩ (by rw [w1]; exact u3) (by rw [← u2]; exact w3) w4 w5
    · refine ⟨fun _ => ?_, fun L h => absurd h (by simp)⟩
      rintro S7 rfl
      refine s_refuse (k := 6) (by decide) (by decide) ?_
      unfold wM_law
      rw [h137, hf]
      refine rb_n (fun h => by have := (nI_eq (b := 6) (by omega) (by decide)).mp h; omega) (m_reads h7 hT2' hm h10 (fun Λ2 h2 => absurd (h2.symm.trans hΛ) (by simp)) (fun f2 h2 S2 u1 u2 u3 => ?_))
      rw [hΛ] at h2
      injection h2 with h2
      subst h2
      exact rb_y rfl (sM_refuses (k := 6) (by decide) (hR6 q _ S4 S2 u1 u2 u3))
  · have e6 : t = 6 := by omega
    refine br_n (fun h => by have := (nI_ltI (b := 6) (by omega) (by decide)).mp h; omega) (s_refuse (k := 5) (by decide) (by decide) ?_)
    unfold wM_law
    rw [h137, e6]
    refine rb_y rfl ?_
    rintro S26 rfl
    exact sM_refuses (k := 5) (by decide) (hR5 e6)
