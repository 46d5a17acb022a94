theorem cs_put {aB : Nat → Nat} {SO SB SP : Ob} {t k n : Nat} {v : Int32} {Q : Int32 → Ob → Ob → Ob → Prop} (hd : ∀ i j, 1 ≤ i → i ≤ 4 → 1 ≤ j → j ≤ 4 → aB i = aB j → i = j) (hk : k < 4) (ht : t < n) (hn : n ≤ 10) (h4 : SB.1 4 = nI n) (hv : (decide (0 ≤ v) && decide (v ≤ pmax k)) = true)
    (hy : (k = 0 → v ≤ SB.2 1 t) ∧ (k = 1 → SB.2 0 t ≤ v) → Q (SB.2 k t) (uS SO 16 0) (uA SB k t v) (spoP SP))
    (hno : ¬ ((k = 0 → v ≤ SB.2 1 t) ∧ (k = 1 → SB.2 0 t ≤ v)) → Q (-nI 1) (refC SO 1) SB SP) : w_X8_put aB SO SB SP (nI t) (nI k) v Q := by
  have e1 : (-1 : Int32) = -nI 1 := by decide
  have hk4 : k = 0 ∨ k = 1 ∨ k = 2 ∨ k = 3 := by omega
  have hv10 : vp_in (nI t) 10 := vp_in_nI (by omega) (by decide)
  have ho : (decide (0 ≤ nI t) && decide (nI t < nI n)) = true := by
    have a1 : (0 : Int32) ≤ nI t := by rw [Int32.le_iff_toInt_le, nI_toInt (by omega), show (0 : Int32).toInt = 0 from by decide]; omega
    have a2 : nI t < nI n := by rw [Int32.lt_iff_toInt_lt, nI_toInt (by omega), nI_toInt (by omega)]; omega
    simp [a1, a2]
  unfold w_X8_put
  refine s_canPut hk ?_
  rw [bI_0, hv]
  refine ⟨fun _ => ?_, fun q => absurd q (by decide)⟩
  rw [s_has, h4, bI_0, ho]
  refine ⟨fun _ => ?_, fun q => absurd q (by decide)⟩
  rw [nI_clamp (by omega)]
  refine jn_g (fun J6 => ¬ ((k = 0 → v ≤ SB.2 1 t) ∧ (k = 1 → SB.2 0 t ≤ v)) → J6 ()) (fun no => ?_) (fun J6 h6 => ?_)
  · rw [e1]
    exact s_refuse (by decide) (by decide) (hno no)
  refine jn_g (fun J11 => (k = 0 → v ≤ SB.2 1 t) → J11 ()) (fun p0 => ?_) (fun J11 h11 => ?_)
  · refine jn_g (fun J13 => (k = 1 → SB.2 0 t ≤ v) → J13 ()) (fun p1 => ?_) (fun J13 h13 => ?_)
    · have hf := hy ⟨p0, p1⟩
      have ne : ∀ {i j : Nat} {P : Prop}, 1 ≤ i → i ≤ 4 → 1 ≤ j → j ≤ 4 → i ≠ j → some (aB i) = some (aB j) → P := fun a b c d e q => absurd (hd _ _ a b c d (Option.some.inj q)) e
      have fin : vp_in (nI t) 10 ∧ ∀ v18 : Int32, v18 = SB.2 k t → vp_in (nI t) 10 ∧ ∀ S20 : Ob, S20 = uA SB k t v → w_X3_spoil SP (fun S21 => w_X8_accept SO v18 (fun r23 S24 => Q r23 S24 S20 S21)) := by
        refine ⟨hv10, ?_⟩
        rintro v18 rfl
        refine ⟨hv10, ?_⟩
        rintro S20 rfl
        rw [s_spoil, s_accept]
        exact hf
      unfold w_X6_column
      rcases hk4 with rfl | rfl | rfl | rfl
      · exact ⟨fun q => absurd rfl q, fun _ => ⟨Or.inl rfl, fun _ => fin, ne (i := 1) (j := 2) (by decide) (by decide) (by decide) (by decide) (by decide), ne (i := 1) (j := 3) (by decide) (by decide) (by decide) (by decide) (by decide), ne (i := 1) (j := 4) (by decide) (by decide) (by decide) (by decide) (by decide)⟩⟩
      · exact ⟨fun _ => ⟨fun q => absurd rfl q, fun _ => ⟨Or.inr (Or.inl rfl), ne (i := 2) (j := 1) (by decide) (by decide) (by decide) (by decide) (by decide), fun _ => fin, ne (i := 2) (j := 3) (by decide) (by decide) (by decide) (by decide) (by decide), ne (i := 2) (j := 4) (by decide) (by decide) (by decide) (by decide) (by decide)⟩⟩, fun q => absurd q (by decide)⟩
      · exact ⟨fun _ => ⟨fun _ => ⟨fun q => absurd rfl q, fun _ => ⟨Or.inr (Or.inr (Or.inl rfl)), ne (i := 3) (j := 1) (by decide) (by decide) (by decide) (by decide) (by decide), ne (i := 3) (j := 2) (by decide) (by decide) (by decide) (by decide) (by decide), fun _ => fin, ne (i := 3) (j := 4) (by decide) (by decide) (by decide) (by decide) (by decide)⟩⟩, fun q => absurd q (by decide)⟩, fun q => absurd q (by decide)⟩
      · exact ⟨fun _ => ⟨fun _ => ⟨fun _ => ⟨Or.inr (Or.inr (Or.inr rfl)), ne (i := 4) (j := 1) (by decide) (by decide) (by decide) (by decide) (by decide), ne (i := 4) (j := 2) (by decide) (by decide) (by decide) (by decide) (by decide), ne (i := 4) (j := 3) (by decide) (by decide) (by decide) (by decide) (by decide), fun _ => fin⟩, fun q => absurd q (by decide)⟩, fun q => absurd q (by decide)⟩, fun q => absurd q (by decide)⟩
    · refine ⟨fun c => h13 (fun q => absurd (by rw [q]; rfl) c), fun c => ⟨hv10, fun d => h13 (fun _ => d), fun d => h6 (fun q => d (q.2 ?_))⟩⟩
      rcases hk4 with rfl | rfl | rfl | rfl
      · exact absurd c (by decide)
      · rfl
      · exact absurd c (by decide)
      · exact absurd c (by decide)
  · refine ⟨fun c => h11 (fun q => absurd (by rw [q]; rfl) c), fun c => ⟨hv10, fun d => h6 (fun q => absurd (q.1 ?_) (Int32.not_le.mpr d)), fun d => h11 (fun _ => Int32.not_lt.mp d)⟩⟩
    rcases hk4 with rfl | rfl | rfl | rfl
    · rfl
    · exact absurd c (by decide)
    · exact absurd c (by decide)
    · exact absurd c (by decide)
