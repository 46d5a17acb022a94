/-! ===== texts of laws: the reference's split, whole ===== -/
def smS (S S' : Ob) : Prop := (∀ k, k ≠ 15 → S'.1 k = S.1 k) ∧ ∀ k, k ≠ 12 → k ≠ 13 → k ≠ 14 → S'.2 k = S.2 k
set_option maxHeartbeats 1000000 in
theorem m_splits {S : Ob} {T : Nat → Nat} (h7 : ∀ j, j < 70 → S.2 7 j = wordsB.getD j 0) (hT : ∀ i, i < 400 → S.2 8 i = iZ (sb (T i)) ∧ T i < 256) {m : Nat} (hm : m ≤ 400) {Q : Ob → Prop} (hq : ∀ S10, smS S S10 → tkM S10 (tzK T m) → S10.1 15 = nI (kN (tzK T m)) → Q S10) : wM_splits S (nI m) Q := by
  have hT' : ∀ i, i < 400 → T i < 256 := fun i hi => (hT i hi).2
  unfold wM_splits
  rintro S1 rfl
  refine wl2_i (fun x2 S3 => ∃ j, x2 = nI (tzN T m j).1 ∧ S3.1 15 = nI (tzN T m j).2.1 ∧ smS S S3 ∧ ∀ i, i < (tzN T m j).2.1 → S3.2 12 i = nI ((tzN T m j).2.2.1 i) ∧ S3.2 14 i = nI ((tzN T m j).2.2.2.2.2 i) ∧ vR (S3.2 13 i) ((tzN T m j).2.2.2.2.1 i)) (fun x2 _ => 400 - x2.toNatClampNeg) ?_ _ _ ⟨0, rfl, rfl, ⟨fun k hk => by rw [uS_1, if_neg hk], fun _ _ _ _ => rfl⟩, fun i hi => absurd hi (Nat.not_lt_zero i)⟩
  rintro L x2 S3 ⟨j, rfl, h15, sm, hA⟩ ih
  obtain ⟨a1, a2, a3, a4, a5, a6, a7⟩ := tz_inv hT' hm j
  have hstep : tzN T m (j + 1) = tzS T m (tzN T m j) := rfl
  refine le_b m _ (by omega) (by omega) (fun c => ?_) (fun c => ?_)
  · have e := tz_one hT' hm c
    rw [e] at hA a3 a4 a5 h15
    rw [e] at a1
    have hv : vp_in (nI (tzN T m m).2.1) 401 := vp_in_nI (by omega) (by decide)
    rw [h15, nI_clamp (by omega : (tzN T m m).2.1 < 2 ^ 31)]
    refine ⟨hv, ?_⟩
    rintro S6 rfl
    rw [uA_1, h15, nI_clamp (by omega : (tzN T m m).2.1 < 2 ^ 31)]
    refine ⟨hv, ?_⟩
    rintro S8 rfl
    rw [uA_1, uA_1, h15, nI_clamp (by omega : (tzN T m m).2.1 < 2 ^ 31)]
    refine ⟨hv, ?_⟩
    rintro S10 rfl
    refine hq _ ⟨sm.1, fun k k1 k2 k3 => ?_⟩ ⟨tzK_ok hT' hm, fun i hi => ?_, fun i hi => ?_, fun i hi => ?_⟩ h15
    · rw [uA_o k2, uA_o k1, uA_o k3]; exact sm.2 k k1 k2 k3
    · have hi' : i ≤ (tzN T m m).2.1 := hi
      show _ = nI ((tzN T m m).2.2.1 i)
      rw [uA_o (by decide)]
      by_cases q : i = (tzN T m m).2.1
      · rw [q, uA_h, a4 _ (Nat.le_refl _)]; rfl
      · rw [uA_i q, uA_o (by decide)]
        exact (hA i (by omega)).1
    · have hi' : i ≤ (tzN T m m).2.1 := hi
      show _ = nI (if i = (tzN T m m).2.1 then m else (tzN T m m).2.2.2.2.2 i)
      rw [uA_o (by decide), uA_o (by decide)]
      by_cases q : i = (tzN T m m).2.1
      · rw [if_pos q, q, uA_h]
      · rw [if_neg q, uA_i q]
        exact (hA i (by omega)).2.1
    · have hi' : i < (tzN T m m).2.1 := hi
      show vR _ ((tzN T m m).2.2.2.2.1 i)
      rw [uA_i (by omega), uA_o (by decide), uA_o (by decide)]
      exact (hA i hi').2.2
  · generalize hσ : tzN T m j = σ at a1 a2 a3 a4 a5 a6 a7 hA hstep c h15 ih
    have t8 : S3.2 8 = S.2 8 := sm.2 8 (by decide) (by decide) (by decide)
    have hT3 : ∀ i, i < 400 → S3.2 8 i = iZ (sb (T i)) ∧ T i < 256 := fun i hi => by rw [t8]; exact hT i hi
    obtain ⟨t1, t2⟩ := hT3 σ.1 (by omega)
    refine ⟨vp_in_nI (by omega) (by decide), ?_⟩
    rw [nI_clamp (by omega), t1, h15, nI_clamp (by omega : σ.2.1 < 2 ^ 31)]
    rintro v12 rfl
    have rr : -128 ≤ sb (T σ.1) ∧ sb (T σ.1) < 128 := by unfold sb; split <;> omega
    have r32 : sb (T σ.1) = 32 ↔ T σ.1 = 32 := by unfold sb; split <;> omega
    obtain ⟨x1, x2⟩ := tkE_s (T := T) (m := m) (k := σ.1) (by omega)
    refine zqe_b _ 32 (by omega) (fun e32 => ?_) (fun e32 => ?_)
    · have e32 := r32.mp e32
      have es : tzN T m (j + 1) = (σ.1 + 1, σ.2) := by rw [hstep]; exact tzS_b (by omega) e32
      rintro v rfl
      rw [nI_1]
      refine ih _ _ ⟨j + 1, by rw [es], by rw [es]; exact h15, sm, fun i hi => ?_⟩ (by rw [nI_clamp (by omega), nI_clamp (by omega)]; omega)
      rw [es] at hi ⊢
      exact hA i hi
    · have e32 : T σ.1 ≠ 32 := fun q => e32 (r32.mpr q)
      have es : tzN T m (j + 1) = (tkE T m σ.1, σ.2.1 + 1, (fun j => if j = σ.2.1 then tkO T m σ.1 else σ.2.2.1 j), (fun j => if j = σ.2.1 then tkD T m σ.1 else σ.2.2.2.1 j), (fun j => if j = σ.2.1 then tkV T m σ.1 else σ.2.2.2.2.1 j), (fun j => if j = σ.2.1 then σ.1 else σ.2.2.2.2.2 j)) := by rw [hstep]; exact tzS_t (by omega) e32
      have hv : vp_in (nI σ.2.1) 401 := vp_in_nI (by omega) (by decide)
      rintro v13 rfl
      rw [nI_1]
      refine sM_isSmallB t2 ?_
      refine jn_g (fun J => (LT (T σ.1) = true → J (nI (tkE T m σ.1))) ∧ (LT (T σ.1) = false → J (nI (σ.1 + 1)))) ?_ (fun J hJ => ?_)
      rotate_left
      · refine bi_b (fun q => hJ.2 q) (fun q => m_runL hT3 (by omega) hm ?_)
        have := hJ.1 q
        unfold tkE at this
        rw [if_pos q, re_n (by omega) q] at this
        exact this
      have main : vp_in (nI σ.2.1) 401 ∧ ∀ S23 : Ob, S23 = uA S3 14 σ.2.1 (nI σ.1) → vp_in (S23.1 15) 401 ∧ ∀ S25 : Ob, S25 = uA S23 13 (Int32.toNatClampNeg (S23.1 15)) 0 → wM_isSmall (iZ (sb (T σ.1))) (fun (r26 : Int32) => jn (fun (t28 : Int32) => vp_in (S25.1 15) 401 ∧ ∀ S31 : Ob, S31 = uA S25 12 (Int32.toNatClampNeg (S25.1 15)) t28 → ∃ n, wl2 (fun L34 (x5_32 : Int32) (S33 : Ob) => jn (fun (z35 : Unit) => ∀ S37 : Ob, S37 = uS S33 15 ((S33.1 15) + 1) → L (nI (tkE T m σ.1)) S37) (fun J36 => ((nI (tkE T m σ.1) ≤ x5_32 → J36 ()) ∧ (¬ nI (tkE T m σ.1) ≤ x5_32 → wM_isDigit (iZ (sb (T σ.1))) (fun (r38 : Int32) => ((r38 = 0 → J36 ()) ∧ (¬ r38 = 0 → vp_in (S33.1 15) 401 ∧ jn (fun (t41 : Int32) => vp_in (S33.1 15) 401 ∧ ∀ S44 : Ob, S44 = uA S33 13 (Int32.toNatClampNeg (S33.1 15)) t41 → ∀ v45 : Int32, v45 = x5_32 + 1 → L34 v45 S44) (fun J42 => (((S33.2 13 (Int32.toNatClampNeg (S33.1 15))) ≤ 1000000 → vp_in (S33.1 15) 401 ∧ vp_in x5_32 400 ∧ J42 (((10 * (S33.2 13 (Int32.toNatClampNeg (S33.1 15)))) + (S33.2 8 (Int32.toNatClampNeg x5_32))) - 48)) ∧ (¬ (S33.2 13 (Int32.toNatClampNeg (S33.1 15))) ≤ 1000000 → vp_in (S33.1 15) 401 ∧ J42 (S33.2 13 (Int32.toNatClampNeg (S33.1 15))))))))))))) n (nI σ.1) S31) (fun J29 => ((r26 = 0 → wM_isDigit (iZ (sb (T σ.1))) (fun (r52 : Int32) => ((r52 = 0 → J29 (100 + (iZ (sb (T σ.1)) &&& 255))) ∧ (¬ r52 = 0 → J29 50)))) ∧ (¬ r26 = 0 → wM_wordOf S25 (nI σ.1) (nI (tkE T m σ.1)) (fun (r55 : Int32) => J29 r55))))) := by
        refine ⟨hv, ?_⟩
        rintro S23 rfl
        rw [uA_1, h15, nI_clamp (by omega : σ.2.1 < 2 ^ 31)]
        refine ⟨hv, ?_⟩
        rintro S25 rfl
        rw [uA_1, uA_1, h15, nI_clamp (by omega : σ.2.1 < 2 ^ 31)]
        refine sM_isSmallB t2 (jn_g (fun J => J (nI (tkO T m σ.1))) ⟨hv, ?_⟩ (fun J hJ => ?_))
        · rintro S31 rfl
          have X := @m_val (uA (uA (uA S3 14 σ.2.1 (nI σ.1)) 13 σ.2.1 0) 12 σ.2.1 (nI (tkO T m σ.1))) T ?_ σ.1 (tkE T m σ.1) σ.2.1 (by omega) (by omega) (by omega) h15 ?_ ?_ L ?_
          · obtain ⟨n, X⟩ := X
            refine ⟨n, ?_⟩
            exact X
          · intro i hi
            rw [uA_o (by decide), uA_o (by decide), uA_o (by decide)]
            exact hT3 i hi
          · rw [uA_o (by decide), uA_h]
          · intro hd j h1 h2
            have : tkE T m σ.1 = reF DG T m σ.1 := by
              unfold tkE
              rw [if_neg (fun q => by rw [LD q] at hd; exact absurd hd (by decide)), if_pos hd]
            rw [this] at h2
            exact (re_s (pr := DG) (T := T) (by omega)).2.2.1 j h1 h2
          · rintro S33 s1 s2 s3 s4 S37 rfl
            rw [s1]
            show L _ (uS S33 15 (S3.1 15 + 1))
            rw [h15, nI_1]
            refine ih _ _ ⟨j + 1, by rw [es], by rw [es]; rfl, ⟨fun k hk => ?_, fun k k1 k2 k3 => ?_⟩, fun i hi => ?_⟩ (by rw [nI_clamp (by omega), nI_clamp (by omega)]; omega)
            · rw [uS_1, if_neg hk, s1]
              exact sm.1 k hk
            · rw [uS_2, s2 k k2, uA_o k1, uA_o k2, uA_o k3]
              exact sm.2 k k1 k2 k3
            · rw [es] at hi ⊢
              have hi' : i < σ.2.1 + 1 := hi
              show (uS S33 15 _).2 12 i = nI (if i = σ.2.1 then tkO T m σ.1 else σ.2.2.1 i) ∧ (uS S33 15 _).2 14 i = nI (if i = σ.2.1 then σ.1 else σ.2.2.2.2.2 i) ∧ vR ((uS S33 15 _).2 13 i) (if i = σ.2.1 then tkV T m σ.1 else σ.2.2.2.2.1 i)
              rw [uS_2, s2 12 (by decide), s2 14 (by decide), uA_o (show 14 ≠ 12 by decide), uA_o (show 14 ≠ 13 by decide)]
              by_cases q : i = σ.2.1
              · rw [if_pos q, if_pos q, if_pos q, q, uA_h, uA_h]
                exact ⟨rfl, rfl, s4⟩
              · rw [if_neg q, if_neg q, if_neg q, s3 i q, uA_i q, uA_i q, uA_o (show 12 ≠ 13 by decide), uA_o (show 12 ≠ 14 by decide), uA_o (show 13 ≠ 12 by decide), uA_i q, uA_o (show 13 ≠ 14 by decide)]
                exact hA i (by omega)
        · refine bi_b (fun q => sM_isDigitB t2 (bi_b (fun q2 => ?_) (fun q2 => ?_))) (fun q => ?_)
          · unfold tkO at hJ
            rw [if_neg (by rw [q]; decide), if_neg (by rw [q2]; decide), ← nI_add] at hJ
            rw [sb_and _ t2]
            exact hJ
          · unfold tkO at hJ
            rw [if_neg (by rw [q]; decide), if_pos q2] at hJ
            exact hJ
          · unfold tkO at hJ
            rw [if_pos q] at hJ
            refine m_wordOf (T := T) ?_ ?_ (by omega) (by omega) hJ
            · intro j hj
              rw [uA_o (by decide), uA_o (by decide), sm.2 7 (by decide) (by decide) (by decide)]
              exact h7 j hj
            · intro i hi
              rw [uA_o (by decide), uA_o (by decide)]
              exact hT3 i hi
      refine ⟨fun q => ?_, fun q => ?_⟩
      · refine sM_isDigitB t2 ?_
        rw [LD q]
        exact bi_b (fun _ => main) (fun q => absurd q (by decide))
      · refine sM_isDigitB t2 (jn_g (fun J => J (nI (tkE T m σ.1))) main (fun J hJ => bi_b (fun q2 => ?_) (fun q2 => m_runD hT3 (by omega) hm ?_)))
        · unfold tkE at hJ
          rw [if_neg (by rw [q]; decide), if_neg (by rw [q2]; decide)] at hJ
          exact hJ
        · unfold tkE at hJ
          rw [if_neg (by rw [q]; decide), if_pos q2, re_n (by omega) q2] at hJ
          exact hJ
