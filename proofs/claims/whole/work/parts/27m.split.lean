/-! ===== texts of laws: both split them alike ===== -/
set_option maxHeartbeats 1000000 in
theorem s_split {SR : Ob} {Stp : Nat → Int32} {T : Nat → Nat} (hT : ∀ i, i < 400 → Stp i = nI (T i) ∧ T i < 256) {m : Nat} (hm : m ≤ 400) {Q : Ob → Prop} (hq : ∀ S11, tkC S11 (tzK T m) (tzD T m) → S11.1 = SR.1 → Q S11) : w_X4_split SR Stp (nI m) Q := by
  have hT' : ∀ i, i < 400 → T i < 256 := fun i hi => (hT i hi).2
  unfold w_X4_split
  refine wl4_i (fun x5 x4 x3 S4 => ∃ j, j ≤ 400 ∧ x5 = nI j ∧ x4 = nI (tzN T m j).1 ∧ x3 = nI (tzN T m j).2.1 ∧ S4.1 = SR.1 ∧ ∀ i, i < (tzN T m j).2.1 → S4.2 0 i = nI ((tzN T m j).2.2.2.1 i) ∧ S4.2 2 i = nI ((tzN T m j).2.2.2.2.2 i) ∧ ((tzN T m j).2.2.1 i = 50 → S4.2 1 i = nI ((tzN T m j).2.2.2.2.1 i))) (fun x5 _ _ _ => 400 - x5.toNatClampNeg) ?_ _ _ _ _ ⟨0, by omega, rfl, rfl, rfl, rfl, fun i hi => absurd hi (Nat.not_lt_zero i)⟩
  rintro L x5 x4 x3 S4 ⟨j, hj, rfl, rfl, rfl, hS1, hA⟩ ih
  obtain ⟨a1, a2, a3, a4, a5, a6, a7⟩ := tz_inv hT' hm j
  have hstep : tzN T m (j + 1) = tzS T m (tzN T m j) := rfl
  have fin : m ≤ (tzN T m j).1 → (vp_in (nI (tzN T m j).2.1) 401 ∧ ∀ S9 : Ob, S9 = uA S4 0 (Int32.toNatClampNeg (nI (tzN T m j).2.1)) 283 → vp_in (nI (tzN T m j).2.1) 401 ∧ ∀ S11 : Ob, S11 = uA S9 2 (Int32.toNatClampNeg (nI (tzN T m j).2.1)) (nI m) → Q S11) := by
    intro hk
    have e := tz_one hT' hm hk
    rw [e] at hA a3 a4 a5 ⊢
    rw [e] at a1
    have hv : vp_in (nI (tzN T m m).2.1) 401 := vp_in_nI (by omega) (by decide)
    refine ⟨hv, ?_⟩
    rintro S9 rfl
    refine ⟨hv, ?_⟩
    rintro S11 rfl
    rw [nI_clamp (by omega)]
    refine hq _ ⟨tzK_ok hT' hm, fun i hi => ?_, fun i hi hc => ?_, ?_, fun i hi => ?_⟩ hS1
    · have hi' : i ≤ (tzN T m m).2.1 := hi
      show (if i = (tzN T m m).2.1 then 283 else S4.2 0 i) = nI (tzD T m i) ∧ tzD T m i ≤ 283 ∧ cm (tzD T m i) = (tzN T m m).2.2.1 i ∧ (if i = (tzN T m m).2.1 then nI m else S4.2 2 i) = nI (if i = (tzN T m m).2.1 then m else (tzN T m m).2.2.2.2.2 i)
      unfold tzD
      by_cases q : i = (tzN T m m).2.1
      · rw [if_pos q, if_pos q, if_pos q, if_pos q]
        refine ⟨rfl, by decide, ?_, rfl⟩
        rw [a4 i (by omega)]; rfl
      · rw [if_neg q, if_neg q, if_neg q, if_neg q]
        obtain ⟨b1, b2, b3⟩ := hA i (by omega)
        obtain ⟨c1, c2, c3⟩ := a5 i (by omega)
        exact ⟨b1, by omega, c1, b2⟩
    · exact (hA i hi).2.2 hc
    · show (if (tzN T m m).2.1 = (tzN T m m).2.1 then 283 else _) = 283
      rw [if_pos rfl]
    · have hi' : i < (tzN T m m).2.1 := hi
      unfold tzD
      rw [if_neg (by omega)]
      have := (a5 i hi').2.1
      omega
  rw [jn_d]
  refine le_b 400 j (by decide) (by omega) (fun c => fin (by omega)) (fun c => le_b m _ (by omega) (by omega) (fun c2 => fin c2) (fun c2 => ?_))
  generalize hσ : tzN T m j = σ at a1 a2 a3 a4 a5 a6 a7 hA hstep c2
  obtain ⟨t1, t2⟩ := hT σ.1 (by omega)
  have hvi : vp_in (nI σ.2.1) 401 := vp_in_nI (by omega) (by decide)
  rintro v12 rfl
  refine ⟨vp_in_nI (by omega) (by decide), ?_⟩
  rw [nI_clamp (by omega), nI_clamp (by omega), t1]
  rintro v14 rfl
  refine s_isLetter t2 ?_
  refine jn_g (fun J => ∀ S18 : Ob, S18.1 = S4.1 → (∀ i, i < σ.2.1 → S18.2 0 i = S4.2 0 i ∧ S18.2 1 i = S4.2 1 i ∧ S18.2 2 i = S4.2 2 i) → S18.2 0 σ.2.1 = nI (tkD T m σ.1) → (tkO T m σ.1 = 50 → S18.2 1 σ.2.1 = nI (tkV T m σ.1)) → J (nI (tkE T m σ.1)) S18) (fun S18 g1 g2 g3 g4 => ⟨hvi, ?_⟩) (fun J hJ => ?_)
  · rintro S21 rfl
    refine eq_b _ 32 (by omega) (by decide) (fun e32 => ?_) (fun e32 => ?_)
    · rintro v22 rfl
      rw [nI_1]
      have e1 : tkE T m σ.1 = σ.1 + 1 := by
        unfold tkE
        rw [e32, if_neg (by decide), if_neg (by decide)]
      have es : tzN T m (j + 1) = (σ.1 + 1, σ.2) := by rw [hstep]; exact tzS_b c2 e32
      refine ih _ _ _ _ ⟨j + 1, by omega, rfl, by rw [es, e1], by rw [es], g1.trans hS1, fun i hi => ?_⟩ (by rw [nI_clamp (by omega), nI_clamp (by omega)]; omega)
      rw [es] at hi ⊢
      have hi' : i < σ.2.1 := hi
      obtain ⟨b1, b2, b3⟩ := hA i hi'
      obtain ⟨d1, d2, d3⟩ := g2 i hi'
      refine ⟨d1.trans b1, ?_, fun hc => d2.trans (b3 hc)⟩
      show (if i = σ.2.1 then nI σ.1 else S18.2 2 i) = _
      rw [if_neg (by omega), d3]
      exact b2
    · rintro v23 rfl v24 rfl
      rw [nI_1, nI_1]
      have es : tzN T m (j + 1) = (tkE T m σ.1, σ.2.1 + 1, (fun j => if j = σ.2.1 then tkO T m σ.1 else σ.2.2.1 j), (fun j => if j = σ.2.1 then tkD T m σ.1 else σ.2.2.2.1 j), (fun j => if j = σ.2.1 then tkV T m σ.1 else σ.2.2.2.2.1 j), (fun j => if j = σ.2.1 then σ.1 else σ.2.2.2.2.2 j)) := by rw [hstep]; exact tzS_t c2 e32
      refine ih _ _ _ _ ⟨j + 1, by omega, rfl, by rw [es], by rw [es], g1.trans hS1, fun i hi => ?_⟩ (by rw [nI_clamp (by omega), nI_clamp (by omega)]; omega)
      rw [es] at hi ⊢
      have hi' : i < σ.2.1 + 1 := hi
      show S18.2 0 i = nI (if i = σ.2.1 then tkD T m σ.1 else σ.2.2.2.1 i) ∧ (if i = σ.2.1 then nI σ.1 else S18.2 2 i) = nI (if i = σ.2.1 then σ.1 else σ.2.2.2.2.2 i) ∧ ((if i = σ.2.1 then tkO T m σ.1 else σ.2.2.1 i) = 50 → S18.2 1 i = nI (if i = σ.2.1 then tkV T m σ.1 else σ.2.2.2.2.1 i))
      by_cases q : i = σ.2.1
      · rw [if_pos q, if_pos q, if_pos q, if_pos q, if_pos q, q]
        exact ⟨g3, rfl, g4⟩
      · rw [if_neg q, if_neg q, if_neg q, if_neg q, if_neg q]
        obtain ⟨b1, b2, b3⟩ := hA i (by omega)
        obtain ⟨d1, d2, d3⟩ := g2 i (by omega)
        exact ⟨d1.trans b1, d3.trans b2, fun hc => d2.trans (b3 hc)⟩
  · have r0 : ∀ (S0 : Ob) A i, (uA S0 0 σ.2.1 A).2 0 i = if i = σ.2.1 then A else S0.2 0 i := fun S0 A i => rfl
    have r1 : ∀ (S0 : Ob) A i, (uA S0 1 σ.2.1 A).2 1 i = if i = σ.2.1 then A else S0.2 1 i := fun S0 A i => rfl
    refine bi_b (fun eL => s_isDigit t2 (bi_b (fun eD => ⟨hvi, ?_⟩) (fun eD => s_runEnd hT (Nat.le_of_lt c2) hm false ⟨hvi, ?_⟩))) (fun eL => s_runEnd hT (Nat.le_of_lt c2) hm true ?_)
    · rintro S29 rfl
      have e1 : tkE T m σ.1 = σ.1 + 1 := by
        unfold tkE
        rw [if_neg (by rw [eL]; decide), if_neg (by rw [eD]; decide)]
      have e2 : tkD T m σ.1 = T σ.1 := by
        unfold tkD
        rw [if_neg (by rw [eL]; decide), if_neg (by rw [eD]; decide)]
      have e3 : tkO T m σ.1 ≠ 50 := by
        unfold tkO
        rw [if_neg (by rw [eL]; decide), if_neg (by rw [eD]; decide)]
        omega
      have := hJ (uA S4 0 σ.2.1 (nI (T σ.1))) rfl (fun i hi => ⟨by rw [r0, if_neg (by omega)], rfl, rfl⟩) (by rw [r0, if_pos rfl, e2]) (fun q => absurd q e3)
      rw [e1, ← nI_1] at this
      exact this
    · rintro S33 rfl
      have e1 : tkE T m σ.1 = reF DG T m σ.1 := by
        unfold tkE
        rw [if_neg (by rw [eL]; decide), if_pos eD]
      have e2 : tkD T m σ.1 = 281 := by
        unfold tkD
        rw [if_neg (by rw [eL]; decide), if_pos eD]
      have e3 : tkV T m σ.1 = vcF T σ.1 (reF DG T m σ.1 - σ.1) := by
        unfold tkV
        rw [if_pos eD, e1]
      obtain ⟨s1, s2, s3, s4⟩ := re_s (pr := DG) (T := T) (Nat.le_of_lt c2)
      refine s_valueOf hT s1 (by omega) s3 ⟨hvi, ?_⟩
      rintro S37 rfl
      have := hJ (uA (uA S4 0 σ.2.1 281) 1 σ.2.1 (nI (vcF T σ.1 (reF DG T m σ.1 - σ.1)))) rfl (fun i hi => ⟨by show (if i = σ.2.1 then _ else S4.2 0 i) = _; rw [if_neg (by omega)], by rw [r1, if_neg (by omega)]; rfl, rfl⟩) (by show (if σ.2.1 = σ.2.1 then _ else S4.2 0 σ.2.1) = _; rw [if_pos rfl, e2]; rfl) (fun _ => by rw [r1, if_pos rfl, e3])
      rw [e1] at this
      exact this
    · have e1 : tkE T m σ.1 = reF LT T m σ.1 := by
        unfold tkE
        rw [if_pos eL]
      have e2 : tkD T m σ.1 = if wdN T σ.1 (reF LT T m σ.1) < 15 then 256 + wdN T σ.1 (reF LT T m σ.1) else 280 := by
        unfold tkD
        rw [if_pos eL, e1]
      have e3 : tkO T m σ.1 ≠ 50 := by
        unfold tkO
        rw [if_pos eL]
        split <;> omega
      obtain ⟨s1, s2, s3, s4⟩ := re_s (pr := LT) (T := T) (Nat.le_of_lt c2)
      refine s_wordOf hT s1 (by show reF LT T m σ.1 ≤ 400; omega) ⟨hvi, ?_⟩
      rintro S44 rfl
      have := hJ (uA S4 0 σ.2.1 (nI (if wdN T σ.1 (reF LT T m σ.1) < 15 then 256 + wdN T σ.1 (reF LT T m σ.1) else 280))) rfl (fun i hi => ⟨by rw [r0, if_neg (by omega)], rfl, rfl⟩) (by rw [r0, if_pos rfl, e2]) (fun q => absurd q e3)
      rw [e1] at this
      exact this
