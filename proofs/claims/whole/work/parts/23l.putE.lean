theorem eq_put {aB : Nat → Nat} {SO SB SP S : Ob} {x1 x2 x3 : Int32} {R : Int32 → Ob → Ob → Ob → Int32 → Ob → Prop} {n : Nat} (hd : ∀ i j, 1 ≤ i → i ≤ 4 → 1 ≤ j → j ≤ 4 → aB i = aB j → i = j) (hn : n ≤ 10) (h4 : SB.1 4 = nI n) (h133 : S.2 3 133 = nI n) (hf : ∀ t, t < n → ∀ k, k < 4 → SB.2 k t = S.2 3 (4 * t + k))
    (hRef : ∀ k, 1 ≤ k → k < 7 → R (-nI k) (refC SO k) SB SP (-nI k) (refM S k))
    (hSet : ∀ t k, t < n → k < 4 → x1 = nI t → x2 = nI k → (decide (0 ≤ x3) && decide (x3 ≤ pmax k)) = true → pOK (S.2 3) t k x3 → R (S.2 3 (4 * t + k)) (uS SO 16 0) (uA SB k t x3) (spoP SP) (S.2 3 (4 * t + k)) (goodM (uA S 3 (4 * t + k) x3))) :
    w_X8_put aB SO SB SP x1 x2 x3 (fun r S' B' P' => wM_put S x1 x2 x3 (fun r' S'' => R r S' B' P' r' S'')) := by
  have e1 : (-1 : Int32) = -nI 1 := by decide
  have e2 : (-2 : Int32) = -nI 2 := by decide
  have e43 : nI 4 - 1 = (3 : Int32) := by decide
  rcases is_tale x2 (n := 4) (by decide) with ⟨k, hk, rfl, f1, f2⟩ | ⟨f1, f2⟩
  · have hk4 : k = 0 ∨ k = 1 ∨ k = 2 ∨ k = 3 := by omega
    rw [e43] at f2
    have mv : ∀ {Q' : Int32 → Ob → Prop}, (decide (0 ≤ x3) && decide (x3 ≤ pmax k)) = false → wM_refuses S (-1) Q' → wM_put S x1 (nI k) x3 Q' := by
      intro Q' c q
      unfold wM_put
      rw [sM_lies, bI_0, f2]
      refine jn_g (fun J4 => J4 ()) q (fun J4 h4 => ⟨fun q => absurd q (by decide), fun _ => ?_⟩)
      refine jn_g (fun J9 => J9 (pmax k)) ?_ (fun J9 h9 => ?_)
      · rw [sM_lies, bI_0, c]
        exact ⟨fun q => absurd rfl q, fun _ => h4⟩
      · rcases hk4 with rfl | rfl | rfl | rfl
        · exact ⟨fun c => absurd c (by decide), fun _ => h9⟩
        · exact ⟨fun c => absurd c (by decide), fun _ => h9⟩
        · exact ⟨fun _ => ⟨fun c => absurd rfl c, fun _ => h9⟩, fun c => absurd (by decide) c⟩
        · exact ⟨fun _ => ⟨fun _ => h9, fun c => absurd c (by decide)⟩, fun c => absurd (by decide) c⟩
    have mt : ∀ {Q' : Int32 → Ob → Prop}, (decide (0 ≤ x3) && decide (x3 ≤ pmax k)) = true → (decide (0 ≤ x1) && decide (x1 ≤ nI n - 1)) = false → wM_refuses S (-2) Q' → wM_put S x1 (nI k) x3 Q' := by
      intro Q' c ct q
      unfold wM_put
      rw [sM_lies, bI_0, f2]
      refine jn_g (fun _ => True) trivial (fun J4 _ => ⟨fun q => absurd q (by decide), fun _ => ?_⟩)
      refine jn_g (fun J9 => J9 (pmax k)) ?_ (fun J9 h9 => ?_)
      · rw [sM_lies, bI_0, c]
        refine ⟨fun _ => ?_, fun q => absurd q (by decide)⟩
        rw [sM_isTale, h133, bI_0, ct]
        exact ⟨fun q => absurd rfl q, fun _ => q⟩
      · rcases hk4 with rfl | rfl | rfl | rfl
        · exact ⟨fun c => absurd c (by decide), fun _ => h9⟩
        · exact ⟨fun c => absurd c (by decide), fun _ => h9⟩
        · exact ⟨fun _ => ⟨fun c => absurd rfl c, fun _ => h9⟩, fun c => absurd (by decide) c⟩
        · exact ⟨fun _ => ⟨fun _ => h9, fun c => absurd c (by decide)⟩, fun c => absurd (by decide) c⟩
    cases hv : (decide (0 ≤ x3) && decide (x3 ≤ pmax k))
    · unfold w_X8_put
      refine s_canPut hk ?_
      rw [bI_0, hv]
      refine ⟨fun q => absurd rfl q, fun _ => ?_⟩
      rw [e1]
      refine s_refuse (by decide) (by decide) (mv hv ?_)
      rw [e1]
      exact sM_refuses (by decide) (hRef 1 (by decide) (by decide))
    · rcases is_tale x1 hn with ⟨t, ht, rfl, g1, g2⟩ | ⟨g1, g2⟩
      · have hc : ((k = 0 → x3 ≤ SB.2 1 t) ∧ (k = 1 → SB.2 0 t ≤ x3)) ↔ pOK (S.2 3) t k x3 := by
          rw [hf t ht 1 (by decide), hf t ht 0 (by decide)]
          exact Iff.rfl
        refine cs_put hd hk ht hn h4 hv (fun ok => ?_) (fun no => ?_)
        · refine ms_put hk ht hn h133 hv (fun ok' => ?_) (fun no => absurd (hc.mp ok) no)
          rw [hf t ht k hk]
          exact hSet t k ht hk rfl rfl hv ok'
        · exact ms_put hk ht hn h133 hv (fun ok' => absurd (hc.mpr ok') no) (fun _ => hRef 1 (by decide) (by decide))
      · unfold w_X8_put
        refine s_canPut hk ?_
        rw [bI_0, hv]
        refine ⟨fun _ => ?_, fun q => absurd q (by decide)⟩
        rw [s_has, h4, bI_0, g1]
        refine ⟨fun q => absurd rfl q, fun _ => ?_⟩
        rw [e2]
        refine s_refuse (by decide) (by decide) (mt hv g2 ?_)
        rw [e2]
        exact sM_refuses (by decide) (hRef 2 (by decide) (by decide))
  · rw [e43] at f2
    have f2' := f2
    rw [Bool.and_eq_false_iff, decide_eq_false_iff_not, decide_eq_false_iff_not] at f2'
    unfold w_X8_put w_X6_canPut
    have fin : w_X8_refuse SO (-1) (fun r S4 => wM_put S x1 x2 x3 (fun r' S'' => R r S4 SB SP r' S'')) := by
      rw [e1]
      refine s_refuse (by decide) (by decide) ?_
      unfold wM_put
      rw [sM_lies, bI_0, f2]
      refine jn_g (fun J4 => J4 ()) ?_ (fun J4 h4 => ⟨fun _ => h4, fun q => absurd rfl q⟩)
      rw [e1]
      exact sM_refuses (by decide) (hRef 1 (by decide) (by decide))
    have z : (¬ (0 : Int32) = 0 → False) := fun q => q rfl
    refine ⟨fun _ => ⟨fun q => absurd rfl q, fun _ => fin⟩, fun c => ⟨fun _ => ⟨fun q => absurd rfl q, fun _ => fin⟩, fun d => ?_⟩⟩
    exact (f2'.elim (fun q => q (Int32.not_lt.mp c)) (fun q => q (Int32.not_lt.mp d))).elim
