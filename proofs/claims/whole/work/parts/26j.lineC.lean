/-! ===== the order of a set: the class's line ===== -/
def lnR1 (S : Ob) (P : PlT) (D : LnT) (i : Nat) : Prop := S.1 3 = nI i ∧ ∀ j, j < i → S.2 0 j = nI (lnT P D j) ∧ S.2 1 j = iZ (lnQ P D (j + 1)).2.1
def lnR2 (S : Ob) (P : PlT) (D : LnT) (l m i : Nat) : Prop := lnR1 S P D m ∧ ∀ j, j < i → S.2 2 j = nI (lsF P D l (j + 1))
theorem lnT_n {P : PlT} (hp : okP P) {D : LnT} (h : okL P D) {j : Nat} (hj : j < pop D.1) : lnT P D j < qpN P := by
  obtain ⟨g1, g2, g3⟩ := lnQ_s hp h j (by omega)
  exact (lnK_s hp g1 (g3 hj)).1
set_option maxHeartbeats 1000000 in
theorem s_nameTellers {SP Sli : Ob} {P : PlT} (h : cP SP P) {D : LnT} (hD : okL P D) {l : Nat} (hl : l < 5) (ha : D.2.2 = 2 ^ l) (hR : lnR1 Sli P D (pop D.1)) {Q : Ob → Ob → Prop}
    (hq : ∀ SP' Sli', SP'.1 = SP.1 → (∀ k, k ≠ 14 → SP'.2 k = SP.2 k) → lnR2 Sli' P D l (pop D.1) (pop D.1) → Q SP' Sli') : w_X3_nameTellers SP Sli (nI l) Q := by
  have okp := h.1
  have h10 := okp.1
  have hm10 := pop_le D.1
  generalize hm : pop D.1 = m at hR hm10 hq
  unfold w_X3_nameTellers
  rw [hR.1]
  rintro v1 rfl
  have e1 : nI m - 1 = iZ ((m : Int) - 1) := by rw [iZ_n, iZ_1, iZ_sub]
  rw [e1]
  refine wl3_i (fun x4 x3 S4 => ∃ k, k ≤ m ∧ x4 = iZ ((k : Int) - 1) ∧ S4.1 = SP.1 ∧ (∀ j, j ≠ 14 → S4.2 j = SP.2 j) ∧ (∀ j, k ≤ j → j < m → S4.2 14 j = nI (wbF P D (m - 1 - j))) ∧ (k < m → x3 = nI (wbF P D (m - 1 - k))))
    (fun x4 _ _ => (x4.toInt + 1).toNat) ?_ _ _ _ ⟨m, Nat.le_refl _, rfl, rfl, fun _ _ => rfl, fun j h1 h2 => absurd h2 (by omega), fun q => absurd q (by omega)⟩
  rintro L x4 x3 S4 ⟨k, hk, rfl, hA, hB, hE, hx3⟩ ih
  have hc4 : cP S4 P := cP_same (ks := [14]) h (by rw [hA]) (by rw [hA]) (fun j hj => hB j (fun e => hj (by rw [e]; decide))) (by decide)
  have hlt0 : (iZ ((k : Int) - 1) < 0) ↔ k = 0 := by
    rw [iZ_0, iZ_lt (by omega) (by omega) (by omega) (by omega)]
    omega
  rw [hlt0]
  refine ⟨fun c => ?_, fun c => ?_⟩
  · subst c
    refine fo3 m (by omega) (fun i x S8 => x = nI (lsF P D l i) ∧ lnR2 S8 P D l m i) ⟨rfl, hR, fun j hj => absurd hj (Nat.not_lt_zero j)⟩ ?_ ?_
    · rintro L2 i x S8 hi ⟨rfl, hR8, h28⟩ ih2
      have hv : vp_in (nI i) 10 := vp_in_nI (by omega) (by decide)
      obtain ⟨q1, -⟩ := ls_s okp hD hl ha i (by omega)
      obtain ⟨w1, -⟩ := wb_s okp hD (m - 1 - i) (by omega)
      rw [hR8.1]
      refine br_n (fun q => by have := (nI_leI (by omega) (by omega)).mp q; omega) ?_
      refine jn_g (fun J => ∀ b, b < 16 → (∀ u, u < 4 → hb b u = (hb (wbF P D (m - 1 - i)) u && mayN P (lsF P D l i) u)) → J (nI b)) ?_ (fun J hJ => ?_)
      · intro b hb16 hbb
        refine s_lowestBit (by omega) ⟨hv, ?_⟩
        rintro S15 rfl v rfl
        have e : fa_first (hb b) 4 = lsF P D l (i + 1) := by
          rw [lsF, hm]
          exact ff_cong hbb
        rw [nI_1, nI_clamp (by omega), e]
        have r2 : ∀ j, (uA S8 2 i (nI (lsF P D l (i + 1)))).2 2 j = if j = i then nI (lsF P D l (i + 1)) else S8.2 2 j := fun j => rfl
        refine ih2 _ _ ⟨rfl, hR8, fun j hj => ?_⟩
        rw [r2]
        by_cases q : j = i
        · rw [if_pos q, q]
        · rw [if_neg q]
          exact h28 j (by omega)
      · rw [hc4.2.2.1, nI_clamp (by omega), hE i (Nat.zero_le _) hi]
        refine bi_b (fun c => ⟨hv, ?_⟩) (fun c => ⟨hv, ?_⟩)
        · rw [shl_1 (by omega), sd_I]
          refine hJ _ (Nat.lt_of_le_of_lt (sd_le _ _) w1) (fun u hu => ?_)
          rw [hb_sd (by omega), hb_2, mayN, c, Bool.false_or]
          by_cases q : u = lsF P D l i
          · rw [decide_eq_true q, decide_eq_true q.symm]
          · rw [decide_eq_false q, decide_eq_false (fun e => q e.symm)]
        · refine hJ _ w1 (fun u hu => ?_)
          rw [mayN, c, Bool.true_or, Bool.and_true]
    · rintro L2 x S8 ⟨rfl, hR8, h28⟩
      rw [hR8.1]
      exact br_y (Int32.le_refl _) (hq S4 S8 hA hB ⟨hR8, h28⟩)
  · obtain ⟨i, rfl⟩ : ∃ i, k = i + 1 := ⟨k - 1, by omega⟩
    have ek : iZ (((i + 1 : Nat) : Int) - 1) = nI i := by
      rw [iZ_n]
      congr 1
      omega
    have hv : vp_in (nI i) 10 := vp_in_nI (by omega) (by decide)
    have htn := lnT_n okp hD (j := i) (by omega)
    rw [ek]
    refine jn_g (fun J => J (bI (decide (i + 1 = m)))) ?_ (fun J hJ => ?_)
    · refine jn_g (fun J => ∀ b, b = wbF P D (m - 1 - i) → J (nI b)) ?_ (fun J hJ => ?_)
      · rintro b rfl
        refine ⟨hv, ?_⟩
        rintro S26 rfl v rfl
        have em : nI i + (-1) = iZ ((i : Int) - 1) := by
          rw [iZ_n, iZ_m1, iZ_add]
          congr 1
        rw [nI_clamp (by omega), em]
        have r14 : ∀ j, (uA S4 14 i (nI (wbF P D (m - 1 - i)))).2 14 j = if j = i then nI (wbF P D (m - 1 - i)) else S4.2 14 j := fun j => rfl
        refine ih _ _ _ ⟨i, by omega, rfl, hA, fun j hj => ?_, fun j h1 h2 => ?_, fun _ => rfl⟩ ?_
        · rw [uA_2, if_neg hj]
          exact hB j hj
        · rw [r14]
          by_cases q : j = i
          · rw [if_pos q, q]
          · rw [if_neg q]
            exact hE j (by omega) h2
        · rw [iZ_T (by omega) (by omega), iZ_T (by omega) (by omega)]
          omega
      · rw [nI_clamp (by omega), (hR.2 i (by omega)).1]
        refine bi_b (fun c2 => ⟨hv, ?_⟩) (fun c2 => ⟨hv, vp_in_nI (by omega) (by decide), ?_⟩)
        · rw [decide_eq_false_iff_not] at c2
          obtain ⟨w1, -⟩ := wb_s okp hD (m - 1 - (i + 1)) (by omega)
          rw [hx3 (by omega)]
          refine s_leaders hc4 htn (by omega) (hJ _ ?_)
          rw [show m - 1 - i = (m - 1 - (i + 1)) + 1 by omega, wbF, hm, show m - 2 - (m - 1 - (i + 1)) = i by omega]
        · rw [decide_eq_true_eq] at c2
          rw [nI_clamp (by omega), (hc4.2.2.2 _ htn).2.2.2.2]
          refine hJ _ ?_
          rw [show m - 1 - i = 0 by omega, wbF, hm, show m - 1 = i by omega]
    · have e1' : iZ ((m : Int) - 1) = nI (m - 1) := by
        rw [iZ_n]
        congr 1
        omega
      rw [e1']
      refine qe_b _ _ (by omega) (by omega) (fun q => ?_) (fun q => ?_)
      · rw [decide_eq_true (by omega)] at hJ; exact hJ
      · rw [decide_eq_false (by omega)] at hJ; exact hJ
set_option maxHeartbeats 1000000 in
theorem s_lineUp {SP SB Std Sli : Ob} {P : PlT} {T : TdT} (h : cP SP P) (hN : ndC SP P (2 ^ qpN P)) (ok : okT (qpN P) T) (hT : cT Std T) {s : Nat} (hD : okL P (s, lyC T, 2 ^ qlT T)) {Q : Ob → Ob → Prop}
    (hq : ∀ SP' Sli', SP'.1 = SP.1 → (∀ k, k ≠ 14 → SP'.2 k = SP.2 k) → lnR2 Sli' P (s, lyC T, 2 ^ qlT T) (qlT T) (pop s) (pop s) → Q SP' Sli') : w_X3_lineUp SP SB Std Sli (nI s) Q := by
  have okp := h.1
  have h10 := okp.1
  have hp := p10 h10
  have hl5 := lT_5 ok
  have hm10 := pop_le s
  unfold w_X3_lineUp
  refine s_lastYear ok hT (s_lastTeller ok hT ?_)
  rintro v5 rfl
  unfold w_X7_drop
  rintro r6 - S7 rfl
  rw [shl_1 (by omega)]
  have hs : s = ((s, lyC T, 2 ^ qlT T) : LnT).1 := rfl
  have hy : lyC T = ((s, lyC T, 2 ^ qlT T) : LnT).2.1 := rfl
  have ha : 2 ^ qlT T = ((s, lyC T, 2 ^ qlT T) : LnT).2.2 := rfl
  generalize ((s, lyC T, 2 ^ qlT T) : LnT) = D at hD hq hs hy ha
  rw [hs, hy, ha]
  rw [hs] at hq hm10
  have hpn : pop D.1 ≤ qpN P := by
    have hD1 := hD.1
    rw [pop_ct, show 10 = qpN P + (10 - qpN P) by omega, fb_ct_split]
    have e2 : fb_ct (fun k => hb D.1 (qpN P + k)) (10 - qpN P) = 0 := fb_ct_zero.mpr (fun k hk => hb_bigN hD1 (by omega))
    have := fb_ct_le (hb D.1) (qpN P)
    omega
  have fin : ∀ S13 : Ob, lnR1 S13 P D (pop D.1) → w_X6_lastTeller SB Std (fun r17 => w_X3_nameTellers SP S13 r17 (fun S19 S20 => Q S19 S20)) := by
    intro S13 h13
    exact s_lastTeller ok hT (s_nameTellers h hD hl5 ha.symm h13 hq)
  rw [h.2.1]
  refine fo5 (qpN P) (by omega) (fun i x6 x5 x4 S13 => i ≤ pop D.1 ∧ x6 = nI (lnQ P D i).2.2 ∧ x5 = iZ (lnQ P D i).2.1 ∧ x4 = nI (lnQ P D i).1 ∧ lnR1 S13 P D i) ⟨Nat.zero_le _, rfl, rfl, rfl, rfl, fun j hj => absurd hj (Nat.not_lt_zero j)⟩ ?_ ?_
  · rintro L i x6 x5 x4 S13 hi ⟨him, rfl, rfl, rfl, hR⟩ ih
    obtain ⟨g1, g2, g3⟩ := lnQ_s okp hD i him
    have g11 := g1.1
    rw [jn_d]
    refine br_n (fun q => by have := (nI_leI (by omega) (by omega)).mp q; omega) ⟨fun c => ?_, fun c => ?_⟩
    · have e0 : (lnQ P D i).1 = 0 := (nI_eq (a := (lnQ P D i).1) (b := 0) (by omega) (by decide)).mp c
      have : i = pop D.1 := by
        rw [e0, pop_z] at g2
        omega
      rw [this] at hR
      exact fin _ hR
    · have h0 : (lnQ P D i).1 ≠ 0 := fun q => c (by rw [q]; rfl)
      obtain ⟨a, ⟨b1, b2, b3⟩, -⟩ := lnK_s okp g1 h0
      have him' : i < pop D.1 := by
        rcases Nat.lt_or_ge i (pop D.1) with q | q
        · exact q
        · have : i = pop D.1 := by omega
          rw [this] at h0
          exact absurd (lnQ_e okp hD) h0
      refine s_firstTale h hN g1 h0 (rb_n (nI_m1 (by omega)) (s_yearOf h a g1.2.1 (s_followers h a (by have := g1.2.2.1; omega) ?_)))
      rintro v28 rfl
      rw [yN, if_pos b2, rm_I (by omega)]
      refine s_add hR.1 (by omega) ?_
      rintro v31 rfl
      rw [nI_1]
      have r0 : ∀ a b c j, (add3 S13 i a b c).2 0 j = if j = i then a else S13.2 0 j := fun a b c j => rfl
      have r1 : ∀ a b c j, (add3 S13 i a b c).2 1 j = if j = i then b else S13.2 1 j := fun a b c j => rfl
      refine ih _ _ _ _ ⟨him', rfl, rfl, rfl, ?_, fun j hj => ?_⟩
      · show nI i + 1 = _
        rw [nI_1]
      · rw [r0, r1]
        by_cases q : j = i
        · rw [if_pos q, if_pos q, q]
          exact ⟨rfl, rfl⟩
        · rw [if_neg q, if_neg q]
          exact hR.2 j (by omega)
  · rintro L x6 x5 x4 S13 ⟨him, rfl, rfl, rfl, hR⟩
    rw [jn_d]
    have : qpN P = pop D.1 := by omega
    rw [this] at hR
    exact br_y (Int32.le_refl _) (fin _ hR)
