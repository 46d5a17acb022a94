/-! ===== rows of tales off the tape: the reference ===== -/
theorem sb255 : ∀ t, t < 256 → iZ (sb t) &&& 255 = nI t := by decide +kernel
theorem sb99 : ∀ t, t < 256 → (decide (0 ≤ iZ (sb t)) && decide (iZ (sb t) ≤ 99)) = decide (t ≤ 99) ∧ (decide (0 ≤ iZ (sb t)) && decide (iZ (sb t) ≤ 15)) = decide (t ≤ 15) ∧ (t ≤ 99 → iZ (sb t) = nI t) := by decide +kernel
theorem rk_n (T : Nat → Nat) {n : Nat} {kp : Nat → Int32} (h : kp 133 = nI n) : ∀ j, rwK T n kp j 133 = nI (rwN T n j)
  | 0 => h
  | j + 1 => by
    have ih := rk_n T h j
    rw [rwK, rwN]
    split
    · show nI (rwN T n j) + 1 = _
      rw [nI_1]
    · exact ih
theorem m_pair {S : Ob} {T : Nat → Nat} (hT : ∀ i, i < 400 → T i < 256 ∧ S.2 8 i = iZ (sb (T i))) {i : Nat} (hi : i + 1 < 400) {Q : Int32 → Prop} (hq : Q (nI (T i * 256 + T (i + 1)))) : wM_pair S (nI i) Q := by
  have e1 : nI i + 1 = nI (i + 1) := nI_add i 1
  obtain ⟨b0, t0⟩ := hT i (by omega)
  obtain ⟨b1, t1⟩ := hT (i + 1) (by omega)
  unfold wM_pair
  rw [e1, nI_clamp (by omega), nI_clamp (by omega), t0, t1, sb255 _ b0, sb255 _ b1]
  refine ⟨vp_in_nI (by omega) (by decide), vp_in_nI (by omega) (by decide), ?_⟩
  rw [show nI (T i) * 256 = nI (T i * 256) from pk_mul _ 256, nI_add]
  exact hq
def rwS (S S8 : Ob) (T : Nat → Nat) (n t j : Nat) : Prop := (∀ k, k ≠ 6 → S8.1 k = (uS S 10 0).1 k) ∧ S8.1 6 = nI (t + (j - (rwN T n j - n))) ∧ (∀ k, k ≠ 3 → S8.2 k = S.2 k) ∧ S8.2 3 = rwK T n (S.2 3) j
set_option maxHeartbeats 1000000 in
theorem ms_row {S : Ob} {T : Nat → Nat} {m n : Nat} (h10 : S.1 10 = nI m) (hm : m ≤ 400) (hT : ∀ i, i < 400 → T i < 256 ∧ S.2 8 i = iZ (sb (T i))) (hb : S.2 3 133 = nI n) (hn : n ≤ 10) {Q : Int32 → Ob → Prop} (hq0 : m = 0 → Q (-nI 6) (refM (uS S 10 0) 6)) (hq : 0 < m → ∀ S', rwS S S' T n (if m % 6 = 0 then 0 else 1) (m / 6) → Q (nI (rwN T n (m / 6) - n)) (goodM S')) : wM_row S Q := by
  unfold wM_row
  rintro v1 rfl S2 rfl
  rw [h10]
  refine qe_b m 0 (by omega) (by decide) (fun c => sM_refuses (k := 6) (by decide) (hq0 c)) (fun c => ?_)
  refine jn_g (fun J => J (nI (if m % 6 = 0 then 0 else 1))) ?_ (fun J hJ => ?_)
  · rintro S5 rfl
    generalize ht : (if m % 6 = 0 then 0 else 1) = t at hq
    have ht1 : t ≤ 1 := by rw [← ht]; split <;> omega
    refine wl3_i (fun x3 x2 S8 => ∃ j, x3 = nI (6 * j) ∧ 6 * j ≤ m ∧ x2 = nI (rwN T n j - n) ∧ rwS S S8 T n t j) (fun x3 _ _ => 1000 - x3.toNatClampNeg) ?_ _ _ _ ⟨0, rfl, by omega, by rw [rwN, Nat.sub_self]; rfl, fun k hk => by rw [uS_1, if_neg hk], by rw [rwN, Nat.sub_self]; rfl, fun _ _ => rfl, rfl⟩
    rintro L x3 x2 S8 ⟨j, rfl, hjm, rfl, s1, s6, sA, s3⟩ ih
    have r := rwN_r T hn j
    have e2 : nI (6 * j) + 2 = nI (6 * j + 2) := nI_add _ 2
    have e4 : nI (6 * j) + 4 = nI (6 * j + 4) := nI_add _ 4
    have e5 : nI (6 * j) + 5 = nI (6 * j + 5) := nI_add _ 5
    have e6 : nI (6 * j) + 6 = nI (6 * (j + 1)) := nI_add _ 6
    rw [e2, e4, e5, e6]
    refine lt_b m (6 * (j + 1)) (by omega) (by omega) (fun c2 => ?_) (fun c2 => ?_)
    · have ej : j = m / 6 := by omega
      subst ej
      rw [sM_good]
      exact hq (by omega) S8 ⟨s1, s6, sA, s3⟩
    · rw [sM_tales, s3, rk_n T hb j]
      have hT8 : ∀ i, i < 400 → T i < 256 ∧ S8.2 8 i = iZ (sb (T i)) := fun i hi => by rw [sA 8 (by decide)]; exact hT i hi
      obtain ⟨b2, t2⟩ := hT8 (6 * j) (by omega)
      obtain ⟨b3, t3⟩ := hT8 (6 * j + 1) (by omega)
      obtain ⟨b6, t6⟩ := hT8 (6 * j + 2) (by omega)
      obtain ⟨b7, t7⟩ := hT8 (6 * j + 3) (by omega)
      obtain ⟨b4, t4⟩ := hT8 (6 * j + 4) (by omega)
      obtain ⟨b5, t5⟩ := hT8 (6 * j + 5) (by omega)
      rw [nI_clamp (by omega), nI_clamp (by omega), t4, t5]
      have v4 : vp_in (nI (6 * j + 4)) 400 := vp_in_nI (by omega) (by decide)
      have v5 : vp_in (nI (6 * j + 5)) 400 := vp_in_nI (by omega) (by decide)
      have nx : ∀ (S17 : Ob) (x : Nat), rwS S (uS S17 6 (nI x)) T n t (j + 1) → ∀ (v21 : Int32), v21 = nI (rwN T n (j + 1) - n) → ∀ S24 : Ob, S24 = uS S17 6 (nI x) → ∀ v25 : Int32, v25 = nI (6 * (j + 1)) → L v25 v21 S24 := by
        rintro S17 x hx v21 rfl S24 rfl v25 rfl
        exact ih _ _ _ ⟨j + 1, rfl, by omega, rfl, hx⟩ (by rw [nI_clamp (by omega), nI_clamp (by omega)]; omega)
      refine jn_g (fun J2 => ((rwN T n j < 10 ∧ rwY T j = true) → J2 1) ∧ (¬ (rwN T n j < 10 ∧ rwY T j = true) → J2 0)) ?_ (fun J2 hJ2 => ?_)
      · refine ⟨fun ok => ?_, fun no => ?_⟩
        · have yi := rwY_i ok.2
          refine jn_g (fun J3 => ∀ S17 : Ob, S17 = addF S8 (rwN T n j) (nI (rwA T j)) (nI (rwB T j)) (nI (T (6 * j + 4))) (nI (T (6 * j + 5))) → J3 S17) ?_ (fun J3 hJ3 => ?_)
          · rintro S17 rfl
            refine jn_g (fun J4 => J4 1) ?_ (fun J4 hJ4 => br_n (by decide) hJ4)
            rintro v21 rfl
            refine jn_g (fun J5 => J5 0) ?_ (fun J5 hJ5 => br_n (by decide) hJ5)
            rintro S24 rfl v25 rfl
            rw [show (addF S8 (rwN T n j) (nI (rwA T j)) (nI (rwB T j)) (nI (T (6 * j + 4))) (nI (T (6 * j + 5)))).1 6 = S8.1 6 from rfl, s6, nI_1, show nI (t + (j - (rwN T n j - n))) + 0 = nI (t + (j - (rwN T n j - n))) from Int32.add_zero _]
            refine nx _ _ ⟨fun k hk => ?_, ?_, fun k hk => ?_, ?_⟩ _ ?_ _ rfl _ rfl
            · rw [uS_1, if_neg hk]; exact s1 k hk
            · rw [uS_1, if_pos rfl, rwN, if_pos ok, show j + 1 - (rwN T n j + 1 - n) = j - (rwN T n j - n) by omega]
            · show (addF S8 _ _ _ _ _).2 k = _
              unfold addF
              rw [uA_o hk, uA_o hk, uA_o hk, uA_o hk, uA_o hk]
              exact sA k hk
            · rw [rwK, if_pos ok, ← s3]
              rfl
            · rw [rwN, if_pos ok, show rwN T n j + 1 - n = rwN T n j - n + 1 by omega]
          · refine br_n (by decide) (m_pair hT8 (by omega) (m_pair hT8 (by omega) ⟨v4, v5, ?_⟩))
            rw [(sb99 _ b4).2.2 yi.2.2.1, (sb99 _ b5).2.2 (by omega)]
            exact m_adds (by rw [s3]; exact rk_n T hb j) ok.1 (hJ3 _ rfl)
        · refine jn_g (fun J3 => J3 S8) ?_ (fun J3 hJ3 => br_y rfl hJ3)
          refine jn_g (fun J4 => J4 0) ?_ (fun J4 hJ4 => br_y rfl hJ4)
          rintro v21 rfl
          refine jn_g (fun J5 => J5 1) ?_ (fun J5 hJ5 => br_y rfl hJ5)
          rintro S24 rfl v25 rfl
          rw [s6, nI_1, show nI (rwN T n j - n) + 0 = nI (rwN T n j - n) from Int32.add_zero _]
          refine nx _ _ ⟨fun k hk => ?_, ?_, fun k hk => ?_, ?_⟩ _ ?_ _ rfl _ rfl
          · rw [uS_1, if_neg hk]; exact s1 k hk
          · rw [uS_1, if_pos rfl, rwN, if_neg no, show t + (j + 1 - (rwN T n j - n)) = t + (j - (rwN T n j - n)) + 1 by omega]
          · exact sA k hk
          · rw [rwK, if_neg no, ← s3]
            rfl
          · rw [rwN, if_neg no]
      · refine jn_g (fun J3 => ¬ (rwN T n j < 10 ∧ rwY T j = true) → J3 ()) hJ2.2 (fun J3 hJ3 => ?_)
        refine le_b 10 (rwN T n j) (by decide) (by omega) (fun q => hJ3 (fun q2 => by omega)) (fun q => ?_)
        refine m_pair hT8 (by omega) (m_pair hT8 (by omega) ⟨v4, v5, ?_⟩)
        have cb := cbN (a := T (6 * j) * 256 + T (6 * j + 1)) (b := T (6 * j + 2) * 256 + T (6 * j + 3)) (c := T (6 * j + 4)) (d := T (6 * j + 5)) (by omega) (by omega) (by omega) (by omega)
        have e0 : ∀ {x : Nat}, x < 2 ^ 31 → decide ((0 : Int32) ≤ nI x) = true := fun {x} h => decide_eq_true ((nI_leI (a := 0) (by decide) h).mpr (Nat.zero_le _))
        have e1 : ∀ {x y : Nat}, x < 2 ^ 31 → y < 2 ^ 31 → decide (nI x ≤ nI y) = decide (x ≤ y) := fun {x y} h1 h2 => by rw [Bool.eq_iff_iff, decide_eq_true_eq, decide_eq_true_eq, nI_leI h1 h2]
        have c4 : decide (nI (T (6 * j + 4)) ≤ 99) = decide (T (6 * j + 4) ≤ 99) := e1 (by omega) (by decide)
        have c5 : decide (nI (T (6 * j + 5)) ≤ 15) = decide (T (6 * j + 5) ≤ 15) := e1 (by omega) (by decide)
        rw [e0 (x := T (6 * j + 4)) (by omega), e0 (x := T (6 * j + 5)) (by omega), Bool.true_and, Bool.true_and, c4, c5] at cb
        rw [sM_canBe, (sb99 _ b4).1, (sb99 _ b5).2.1, cb]
        exact bi_b (fun q2 => hJ3 (fun q3 => by have h := q3.2; unfold rwY rwA rwB at h; rw [q2] at h; exact absurd h (by decide))) (fun q2 => hJ2.1 ⟨q, q2⟩)
  · rw [show nI m - nI m / 6 * 6 = nI (m % 6) from pk_rem (d := 6) (by omega) (by decide) (by decide)]
    refine qe_b (m % 6) 0 (by omega) (by decide) (fun q => ?_) (fun q => ?_)
    · rw [if_pos q] at hJ; exact hJ
    · rw [if_neg q] at hJ; exact hJ
theorem rw_G (G : Ob → (Nat → Int32) → Nat → Prop) (hGa : ∀ SB kp n a b c d, G SB kp n → n < 10 → a ≤ b → b ≤ 2000 → c ≤ 99 → d ≤ 15 → G (addT SB n (nI a) (nI b) (nI c) (nI d)) ((addF (kO kp) n (nI a) (nI b) (nI c) (nI d)).2 3) (n + 1)) {T : Nat → Nat} {n : Nat} {SB : Ob} {kp : Nat → Int32} (h : G SB kp n) : ∀ j, G (rwC T n SB j) (rwK T n kp j) (rwN T n j)
  | 0 => h
  | j + 1 => by
    have ih := rw_G G hGa (T := T) h j
    rw [rwC, rwK, rwN]
    by_cases c : rwN T n j < 10 ∧ rwY T j = true
    · have yi := rwY_i c.2
      rw [if_pos c, if_pos c, if_pos c]
      exact hGa _ _ _ _ _ _ _ ih c.1 yi.1 yi.2.1 yi.2.2.1 yi.2.2.2
    · rw [if_neg c, if_neg c, if_neg c]
      exact ih
theorem eq_row {SO SB SP S : Ob} {Stp : Nat → Int32} {m n : Nat} (G : Ob → (Nat → Int32) → Nat → Prop) (hGa : ∀ SB kp n a b c d, G SB kp n → n < 10 → a ≤ b → b ≤ 2000 → c ≤ 99 → d ≤ 15 → G (addT SB n (nI a) (nI b) (nI c) (nI d)) ((addF (kO kp) n (nI a) (nI b) (nI c) (nI d)).2 3) (n + 1)) (hG : G SB (S.2 3) n) (hn : n ≤ 10) (h4b : SB.1 4 = nI n) (h133 : S.2 3 133 = nI n) (hm : m ≤ 400) (h4 : SO.1 4 = nI m) (h10 : S.1 10 = nI m) (hT : ∀ i, i < 400 → bR (Stp i) (S.2 8 i)) {R : Int32 → Ob → Ob → Ob → Int32 → Ob → Prop}
    (hR0 : m = 0 → R (-nI 6) (refC SO 6) SB SP (-nI 6) (refM (uS S 10 0) 6))
    (hR : ∀ r lost SB' S' n', G SB' (S'.2 3) n' → (∀ k, k ≠ 6 → k ≠ 10 → S'.1 k = S.1 k) → S'.1 10 = 0 → S'.1 6 = lost → (∀ k, k ≠ 3 → S'.2 k = S.2 k) → R r (uS (uS (uS SO 4 0) 7 lost) 16 0) SB' (spoP SP) r (goodM S')) :
    w_X8_row SO Stp SB SP (fun r SO' SB' SP' => wM_row S (fun r' S' => R r SO' SB' SP' r' S')) := by
  have hT1 : ∀ i, i < 400 → Stp i = nI (Stp i).toNatClampNeg ∧ (Stp i).toNatClampNeg < 256 := fun i hi => by
    obtain ⟨t, a, b, c⟩ := hT i hi
    rw [b, nI_clamp (by omega)]
    exact ⟨rfl, a⟩
  have hT2 : ∀ i, i < 400 → (Stp i).toNatClampNeg < 256 ∧ S.2 8 i = iZ (sb (Stp i).toNatClampNeg) := fun i hi => by
    obtain ⟨t, a, b, c⟩ := hT i hi
    rw [b, nI_clamp (by omega)]
    exact ⟨a, c⟩
  refine cs_row (T := fun i => (Stp i).toNatClampNeg) h4 hm hT1 h4b hn (fun c => ?_) (fun c => ?_)
  · exact ms_row (T := fun i => (Stp i).toNatClampNeg) h10 hm hT2 h133 hn (fun _ => hR0 c) (fun c2 => absurd c2 (by omega))
  · refine ms_row (T := fun i => (Stp i).toNatClampNeg) h10 hm hT2 h133 hn (fun c2 => absurd c2 (by omega)) (fun _ S' hs => ?_)
    obtain ⟨s1, s6, sA, s3⟩ := hs
    refine hR _ _ _ S' _ (by rw [s3]; exact rw_G G hGa hG (m / 6)) (fun k k6 k10 => ?_) ?_ s6 sA
    · rw [s1 k k6, uS_1, if_neg k10]
    · rw [s1 10 (by decide)]; rfl
