/-! ===== draw: both answer alike ===== -/
theorem drE_one {P : PlT} {D : DrT} {N N' : Nat} (h : drE P D N) (h' : drE P D N') : N = N' := by
  rcases Nat.lt_trichotomy N N' with q | q | q
  · have := h'.1 N q
    have := h.2
    omega
  · exact q
  · have := h.1 N' q
    have := h'.2
    omega
theorem drE_sim {P : PlT} (okp : okP P) {D D' : DrT} (h : simD D D') {N : Nat} (hN : drE P D N) : drE P D' N := by
  refine ⟨fun j hj => ?_, ?_⟩
  · rw [← simD_C okp (simD_q okp h j (fun i hi => hN.1 i (by omega)))]
    exact hN.1 j hj
  · rw [← simD_C okp (simD_q okp h N hN.1)]
    exact hN.2
theorem ev_same {P : PlT} (okp : okP P) {D D' : DrT} (h : simD D D') {N : Nat} (hN : drE P D N) {j : Nat} (hj : j < N) : drT P D j = drT P D' j ∧ drQ P D (j + 1) = drQ P D' (j + 1) := by
  have hs := simD_q okp h j (fun i hi => hN.1 i (by omega))
  refine ⟨?_, simD_N okp hs (hN.1 j hj)⟩
  unfold drT
  rw [simD_K okp hs (hN.1 j hj)]
set_option maxHeartbeats 2000000 in
theorem cs_draw {aLw : Nat → Nat} {SLw : Lw} {SO SB SP SJ Std Sev : Ob} {Sch : Nat → Int32} {Sls : Nat → Option Nat} {P : PlT} {T : TdT} (okp : okP P) (ok : okT (qpN P) T) (hT : cT Std T) (h4 : SB.1 4 = nI (qpN P)) (hW : wkP (w_X3_weigh aLw SP SJ SB Sls SLw) SP P) {seed : Nat} (hs : seed ≤ 1000000) {Q : Int32 → Ob → Ob → Ob → (Nat → Int32) → Ob → Prop}
    (hq : ∀ N SP' SJ' Sch' Sev', cV SP' P → SP'.1 17 = SP.1 17 → N ≤ 10 → drE P (qtS T, lyC T, qlT T, seed) N → evR Sev' P (qtS T, lyC T, qlT T, seed) N → Q (nI N) (uS SO 16 0) SP' SJ' Sch' Sev') : w_X8_draw aLw SO SB Sls SP SJ Std Sch Sev SLw (nI seed) Q := by
  have h10 := okp.1
  have okd : okD (qtS T, lyC T, qlT T, seed) := ⟨tS_1024 ok, lyC_R ok, lT_5 ok, by show seed ≤ 1000002; omega⟩
  have hun0 := Nat.lt_of_lt_of_le (uT_lt (qpN P) T) (p10 h10)
  generalize hD : ((qtS T, lyC T, qlT T, seed) : DrT) = D at hq okd
  have d1 : qtS T = D.1 := by rw [← hD]
  have d2 : lyC T = D.2.1 := by rw [← hD]
  have d3 : qlT T = D.2.2.1 := by rw [← hD]
  have d4 : seed = D.2.2.2 := by rw [← hD]
  unfold w_X8_draw
  rw [jn_d]
  refine br_n (nI_pos (by omega)) (le_b seed 1000000 (by omega) (by decide) (fun _ => hW _ (fun SP' SJ' cv cp c17 => ?_)) (fun q => absurd q (by omega)))
  unfold w_X7_drop
  rintro r9 - S10 rfl
  refine s_untold ok hT h4 (s_lastYear ok hT (s_lastTeller ok hT ?_))
  rw [d2, d3, d4]
  refine wl7_i (fun x6 x5 x4 x3 x2 S23 S24 => ∃ i, x6 = nI i ∧ i ≤ 10 ∧ (∀ j, j < i → 0 < drC P (drQ P D j)) ∧ x5 = nI (drQ P D i).2.2.2 ∧ x4 = nI (drQ P D i).2.2.1 ∧ x3 = iZ (drQ P D i).2.1 ∧ (∃ un, x2 = nI un ∧ un < 1024 ∧ ∀ t, t < qpN P → hb un t = !hb (drQ P D i).1 t) ∧ evR S24 P D i)
    (fun x6 _ _ _ _ _ _ => 10 - x6.toNatClampNeg) ?_ _ _ _ _ _ _ _ ⟨0, rfl, by decide, fun j hj => absurd hj (Nat.not_lt_zero j), rfl, rfl, rfl, ⟨quT (qpN P) T, rfl, hun0, fun t ht => by rw [hb_uT (by omega), decide_eq_true ht, Bool.true_and, d1]; rfl⟩, rfl, fun j hj => absurd hj (Nat.not_lt_zero j)⟩
  rintro L x6 x5 x4 x3 x2 S23 S24 ⟨i, rfl, hi, hC, rfl, rfl, rfl, ⟨un, rfl, hun, hu⟩, hE⟩ ih
  have okd' := okD_q okp okd i hC
  obtain ⟨k1, k2, k3, k4⟩ := id okd'
  have fin : ∀ Sx : Nat → Int32, drC P (drQ P D i) = 0 → w_X8_accept SO (S24.1 3) (fun r28 S29 => Q r28 S29 SP' SJ' Sx S24) := by
    intro Sx hz
    rw [s_accept, hE.1]
    exact hq i SP' SJ' Sx S24 cv c17 hi ⟨hC, hz⟩ hE
  rw [jn_d]
  refine le_b 10 i (by decide) (by omega) (fun c => fin _ ?_) (fun c => s_listChoices cp okd' hun hu (fun S32 hch => ?_))
  · rcases Nat.eq_zero_or_pos (drC P (drQ P D i)) with q | q
    · exact q
    · have := drQ_9 okp hC q
      omega
  · have hcle : drC P (drQ P D i) ≤ 4 * qpN P := fb_ct_le _ _
    rcases Nat.eq_zero_or_pos (drC P (drQ P D i)) with q | q
    · rw [q]
      exact br_n (by decide) (fin _ q)
    · refine br_y (nI_lt (a := 0) q (by omega)) ?_
      rw [dr64 k4]
      rintro v34 rfl
      have hsl : drS (drQ P D i).2.2.2 < 1000003 := Nat.mod_lt _ (by decide)
      have hjl : drS (drQ P D i).2.2.2 % drC P (drQ P D i) < drC P (drQ P D i) := Nat.mod_lt _ q
      obtain ⟨g1, g2, g3⟩ := drK_s q
      rw [pk_rem (by omega) q (by omega)]
      refine ⟨nI_ne0 q (by omega), vp_in_nI (by omega) (by decide), ?_⟩
      rw [nI_clamp (by omega), ← g3, hch _ g1 g2]
      rintro v37 rfl v38 e38 v39 e39
      have e38' : v38 = nI (drK P (drQ P D i) / 4) := by
        rw [e38]; exact pk_div (d := 4) (by omega) (by decide) (by decide)
      have e39' : v39 = nI (drK P (drQ P D i) % 4) := by
        rw [e39]; exact pk_rem (d := 4) (by omega) (by decide) (by decide)
      subst e38' e39'
      have hf := (drP_t g2).2
      have hnot := (drP_t g2).1
      have ht : drK P (drQ P D i) / 4 < qpN P := by omega
      refine s_yearOf cp ht k2 ?_
      rw [yN, if_pos hf]
      rintro v42 rfl
      have hi9 := drQ_9 okp hC q
      refine s_add hE.1 (by omega) ?_
      rintro v45 rfl
      rw [rm_I (by omega), nI_1]
      refine ih _ _ _ _ _ _ _ ⟨i + 1, rfl, by omega, fun j hj => ?_, rfl, rfl, rfl, ⟨rm un (drK P (drQ P D i) / 4), rfl, Nat.lt_of_le_of_lt (sd_le _ _) hun, fun t ht' => ?_⟩, ?_, fun j hj => ?_⟩ (by rw [nI_clamp (by omega), nI_clamp (by omega)]; omega)
      · rcases Nat.lt_or_ge j i with d | d
        · exact hC j d
        · have : j = i := by omega
          subst this
          exact q
      · rw [hb_rm (by omega), hu t ht']
        show _ = !hb ((drQ P D i).1 ||| 2 ^ (drK P (drQ P D i) / 4)) t
        rw [hb_or, Bool.not_or]
      · show nI i + 1 = _
        rw [nI_1]
      · have r0 : ∀ a b c, (add3 S24 i a b c).2 0 j = if j = i then a else S24.2 0 j := fun a b c => rfl
        have r1 : ∀ a b c, (add3 S24 i a b c).2 1 j = if j = i then b else S24.2 1 j := fun a b c => rfl
        have r2 : ∀ a b c, (add3 S24 i a b c).2 2 j = if j = i then c else S24.2 2 j := fun a b c => rfl
        rw [r0, r1, r2]
        by_cases e : j = i
        · subst e
          rw [if_pos rfl, if_pos rfl, if_pos rfl]
          exact ⟨rfl, rfl, rfl⟩
        · rw [if_neg e, if_neg e, if_neg e]
          exact hE.2 j (by omega)
theorem eq_draw {aLw : Nat → Nat} {SLw : Lw} {SO SB SP SJ Std Sev S : Ob} {Sch : Nat → Int32} {Sls : Nat → Option Nat} {P : PlT} {T : TdT} {q : Nat} {x1 : Int32} {R : Int32 → Ob → Ob → Ob → (Nat → Int32) → Ob → Int32 → Ob → Prop} (hp : pB SB Std S P T q) (hW : wkP (w_X3_weigh aLw SP SJ SB Sls SLw) SP P) (hL : lkP S P)
    (hR1 : R (-nI 1) (refC SO 1) SP SJ Sch Sev (-nI 1) (refM S 1))
    (hR : ∀ N SP' SJ' Sch' Sev' S'', cV SP' P → SP'.1 17 = SP.1 17 → (∀ k, k ∉ scS → k ≠ 41 → S''.1 k = S.1 k) → (S''.1 29 = S.1 29 ∨ S''.1 29 = S.1 1) → (∀ k, k ∉ scA → k ≠ 40 → S''.2 k = S.2 k) → mP S'' P → ndM S'' P (2 ^ qpN P) → rowE Sev' (S''.2 40) 0 N → S''.1 41 = nI N → R (nI N) (uS SO 16 0) SP' SJ' Sch' Sev' (nI N) (goodM S'')) : w_X8_draw aLw SO SB Sls SP SJ Std Sch Sev SLw x1 (fun r SO' SP' SJ' Sch' Sev' => wM_draw S x1 (fun r' S' => R r SO' SP' SJ' Sch' Sev' r' S')) := by
  obtain ⟨okp, ok, hT, hmT, h4, hn, -, -, -⟩ := hp
  have no : (decide (0 ≤ x1) && decide (x1 ≤ 1000000)) = false → w_X8_refuse SO (-1) (fun r3 S4 => wM_draw S x1 (fun r' S' => R r3 S4 SP SJ Sch Sev r' S')) := fun hf => s_refuse (k := 1) (by decide) (by decide) (m_drawNo hf hR1)
  by_cases c : x1 < 0
  · unfold w_X8_draw
    rw [jn_d]
    exact br_y c (no (by rw [decide_eq_false (Int32.not_le.mpr c)]; rfl))
  · by_cases c2 : x1 ≤ 1000000
    · obtain ⟨seed, hs, rfl⟩ := nI_of2 (M := 1000000) (n := 1000000) (by decide) c c2
      refine cs_draw okp ok hT h4 hW hs (fun N SP' SJ' Sch' Sev' cv c17 hN hE hv => ms_draw okp ok hmT hL hs (fun N' S'' a1 a29 a2 a3 a4 a5 a6 a7 a8 => ?_))
      have sim : simD (qtS T, lyC T, qlT T, seed) (qtS T, lyM T, qlT T, seed) := ⟨rfl, rfl, ly_same T⟩
      have e : N' = N := drE_one a7 (drE_sim okp sim hE)
      subst e
      refine hR _ _ _ _ _ _ cv c17 a1 a29 a2 a3 a4 ⟨hv.1, hN, by decide, fun j hj => ?_⟩ a5
      obtain ⟨b1, b2, b3⟩ := hv.2 j hj
      obtain ⟨d1, d2, d3⟩ := a8 j hj
      obtain ⟨e1, e2⟩ := ev_same okp sim hE hj
      rw [Nat.zero_add, b1, b2, b3, d1, d2, d3, e1, e2]
      exact ⟨rfl, rfl, rfl⟩
    · unfold w_X8_draw
      rw [jn_d]
      exact br_n c (br_n c2 (no (by rw [decide_eq_false c2, Bool.and_false])))
set_option maxHeartbeats 2000000 in
theorem cs_drawN {SO SB SP SJ Std Sev : Ob} {Sch : Nat → Int32} {Sls : Nat → Option Nat} {P : PlT} {T : TdT} (okp : okP P) (ok : okT (qpN P) T) (hT : cT Std T) (h4 : SB.1 4 = nI (qpN P)) (hW : wkP (w_X3_weighN SP SJ SB Sls) SP P) {seed : Nat} (hs : seed ≤ 1000000) {Q : Int32 → Ob → Ob → Ob → (Nat → Int32) → Ob → Prop}
    (hq : ∀ N SP' SJ' Sch' Sev', cV SP' P → SP'.1 17 = SP.1 17 → N ≤ 10 → drE P (qtS T, lyC T, qlT T, seed) N → evR Sev' P (qtS T, lyC T, qlT T, seed) N → Q (nI N) (uS SO 16 0) SP' SJ' Sch' Sev') : w_X8_drawN SO SB Sls SP SJ Std Sch Sev (nI seed) Q := by
  have h10 := okp.1
  have okd : okD (qtS T, lyC T, qlT T, seed) := ⟨tS_1024 ok, lyC_R ok, lT_5 ok, by show seed ≤ 1000002; omega⟩
  have hun0 := Nat.lt_of_lt_of_le (uT_lt (qpN P) T) (p10 h10)
  generalize hD : ((qtS T, lyC T, qlT T, seed) : DrT) = D at hq okd
  have d1 : qtS T = D.1 := by rw [← hD]
  have d2 : lyC T = D.2.1 := by rw [← hD]
  have d3 : qlT T = D.2.2.1 := by rw [← hD]
  have d4 : seed = D.2.2.2 := by rw [← hD]
  unfold w_X8_drawN
  rw [jn_d]
  refine br_n (nI_pos (by omega)) (le_b seed 1000000 (by omega) (by decide) (fun _ => hW _ (fun SP' SJ' cv cp c17 => ?_)) (fun q => absurd q (by omega)))
  unfold w_X7_drop
  rintro r9 - S10 rfl
  refine s_untold ok hT h4 (s_lastYear ok hT (s_lastTeller ok hT ?_))
  rw [d2, d3, d4]
  refine wl7_i (fun x6 x5 x4 x3 x2 S23 S24 => ∃ i, x6 = nI i ∧ i ≤ 10 ∧ (∀ j, j < i → 0 < drC P (drQ P D j)) ∧ x5 = nI (drQ P D i).2.2.2 ∧ x4 = nI (drQ P D i).2.2.1 ∧ x3 = iZ (drQ P D i).2.1 ∧ (∃ un, x2 = nI un ∧ un < 1024 ∧ ∀ t, t < qpN P → hb un t = !hb (drQ P D i).1 t) ∧ evR S24 P D i)
    (fun x6 _ _ _ _ _ _ => 10 - x6.toNatClampNeg) ?_ _ _ _ _ _ _ _ ⟨0, rfl, by decide, fun j hj => absurd hj (Nat.not_lt_zero j), rfl, rfl, rfl, ⟨quT (qpN P) T, rfl, hun0, fun t ht => by rw [hb_uT (by omega), decide_eq_true ht, Bool.true_and, d1]; rfl⟩, rfl, fun j hj => absurd hj (Nat.not_lt_zero j)⟩
  rintro L x6 x5 x4 x3 x2 S23 S24 ⟨i, rfl, hi, hC, rfl, rfl, rfl, ⟨un, rfl, hun, hu⟩, hE⟩ ih
  have okd' := okD_q okp okd i hC
  obtain ⟨k1, k2, k3, k4⟩ := id okd'
  have fin : ∀ Sx : Nat → Int32, drC P (drQ P D i) = 0 → w_X8_accept SO (S24.1 3) (fun r28 S29 => Q r28 S29 SP' SJ' Sx S24) := by
    intro Sx hz
    rw [s_accept, hE.1]
    exact hq i SP' SJ' Sx S24 cv c17 hi ⟨hC, hz⟩ hE
  rw [jn_d]
  refine le_b 10 i (by decide) (by omega) (fun c => fin _ ?_) (fun c => s_listChoices cp okd' hun hu (fun S32 hch => ?_))
  · rcases Nat.eq_zero_or_pos (drC P (drQ P D i)) with q | q
    · exact q
    · have := drQ_9 okp hC q
      omega
  · have hcle : drC P (drQ P D i) ≤ 4 * qpN P := fb_ct_le _ _
    rcases Nat.eq_zero_or_pos (drC P (drQ P D i)) with q | q
    · rw [q]
      exact br_n (by decide) (fin _ q)
    · refine br_y (nI_lt (a := 0) q (by omega)) ?_
      rw [dr64 k4]
      rintro v34 rfl
      have hsl : drS (drQ P D i).2.2.2 < 1000003 := Nat.mod_lt _ (by decide)
      have hjl : drS (drQ P D i).2.2.2 % drC P (drQ P D i) < drC P (drQ P D i) := Nat.mod_lt _ q
      obtain ⟨g1, g2, g3⟩ := drK_s q
      rw [pk_rem (by omega) q (by omega)]
      refine ⟨nI_ne0 q (by omega), vp_in_nI (by omega) (by decide), ?_⟩
      rw [nI_clamp (by omega), ← g3, hch _ g1 g2]
      rintro v37 rfl v38 e38 v39 e39
      have e38' : v38 = nI (drK P (drQ P D i) / 4) := by
        rw [e38]; exact pk_div (d := 4) (by omega) (by decide) (by decide)
      have e39' : v39 = nI (drK P (drQ P D i) % 4) := by
        rw [e39]; exact pk_rem (d := 4) (by omega) (by decide) (by decide)
      subst e38' e39'
      have hf := (drP_t g2).2
      have hnot := (drP_t g2).1
      have ht : drK P (drQ P D i) / 4 < qpN P := by omega
      refine s_yearOf cp ht k2 ?_
      rw [yN, if_pos hf]
      rintro v42 rfl
      have hi9 := drQ_9 okp hC q
      refine s_add hE.1 (by omega) ?_
      rintro v45 rfl
      rw [rm_I (by omega), nI_1]
      refine ih _ _ _ _ _ _ _ ⟨i + 1, rfl, by omega, fun j hj => ?_, rfl, rfl, rfl, ⟨rm un (drK P (drQ P D i) / 4), rfl, Nat.lt_of_le_of_lt (sd_le _ _) hun, fun t ht' => ?_⟩, ?_, fun j hj => ?_⟩ (by rw [nI_clamp (by omega), nI_clamp (by omega)]; omega)
      · rcases Nat.lt_or_ge j i with d | d
        · exact hC j d
        · have : j = i := by omega
          subst this
          exact q
      · rw [hb_rm (by omega), hu t ht']
        show _ = !hb ((drQ P D i).1 ||| 2 ^ (drK P (drQ P D i) / 4)) t
        rw [hb_or, Bool.not_or]
      · show nI i + 1 = _
        rw [nI_1]
      · have r0 : ∀ a b c, (add3 S24 i a b c).2 0 j = if j = i then a else S24.2 0 j := fun a b c => rfl
        have r1 : ∀ a b c, (add3 S24 i a b c).2 1 j = if j = i then b else S24.2 1 j := fun a b c => rfl
        have r2 : ∀ a b c, (add3 S24 i a b c).2 2 j = if j = i then c else S24.2 2 j := fun a b c => rfl
        rw [r0, r1, r2]
        by_cases e : j = i
        · subst e
          rw [if_pos rfl, if_pos rfl, if_pos rfl]
          exact ⟨rfl, rfl, rfl⟩
        · rw [if_neg e, if_neg e, if_neg e]
          exact hE.2 j (by omega)
theorem eq_drawN {SO SB SP SJ Std Sev S : Ob} {Sch : Nat → Int32} {Sls : Nat → Option Nat} {P : PlT} {T : TdT} {q : Nat} {x1 : Int32} {R : Int32 → Ob → Ob → Ob → (Nat → Int32) → Ob → Int32 → Ob → Prop} (hp : pB SB Std S P T q) (hW : wkP (w_X3_weighN SP SJ SB Sls) SP P) (hL : lkP S P)
    (hR1 : R (-nI 1) (refC SO 1) SP SJ Sch Sev (-nI 1) (refM S 1))
    (hR : ∀ N SP' SJ' Sch' Sev' S'', cV SP' P → SP'.1 17 = SP.1 17 → (∀ k, k ∉ scS → k ≠ 41 → S''.1 k = S.1 k) → (S''.1 29 = S.1 29 ∨ S''.1 29 = S.1 1) → (∀ k, k ∉ scA → k ≠ 40 → S''.2 k = S.2 k) → mP S'' P → ndM S'' P (2 ^ qpN P) → rowE Sev' (S''.2 40) 0 N → S''.1 41 = nI N → R (nI N) (uS SO 16 0) SP' SJ' Sch' Sev' (nI N) (goodM S'')) : w_X8_drawN SO SB Sls SP SJ Std Sch Sev x1 (fun r SO' SP' SJ' Sch' Sev' => wM_draw S x1 (fun r' S' => R r SO' SP' SJ' Sch' Sev' r' S')) := by
  obtain ⟨okp, ok, hT, hmT, h4, hn, -, -, -⟩ := hp
  have no : (decide (0 ≤ x1) && decide (x1 ≤ 1000000)) = false → w_X8_refuse SO (-1) (fun r3 S4 => wM_draw S x1 (fun r' S' => R r3 S4 SP SJ Sch Sev r' S')) := fun hf => s_refuse (k := 1) (by decide) (by decide) (m_drawNo hf hR1)
  by_cases c : x1 < 0
  · unfold w_X8_drawN
    rw [jn_d]
    exact br_y c (no (by rw [decide_eq_false (Int32.not_le.mpr c)]; rfl))
  · by_cases c2 : x1 ≤ 1000000
    · obtain ⟨seed, hs, rfl⟩ := nI_of2 (M := 1000000) (n := 1000000) (by decide) c c2
      refine cs_drawN okp ok hT h4 hW hs (fun N SP' SJ' Sch' Sev' cv c17 hN hE hv => ms_draw okp ok hmT hL hs (fun N' S'' a1 a29 a2 a3 a4 a5 a6 a7 a8 => ?_))
      have sim : simD (qtS T, lyC T, qlT T, seed) (qtS T, lyM T, qlT T, seed) := ⟨rfl, rfl, ly_same T⟩
      have e : N' = N := drE_one a7 (drE_sim okp sim hE)
      subst e
      refine hR _ _ _ _ _ _ cv c17 a1 a29 a2 a3 a4 ⟨hv.1, hN, by decide, fun j hj => ?_⟩ a5
      obtain ⟨b1, b2, b3⟩ := hv.2 j hj
      obtain ⟨d1, d2, d3⟩ := a8 j hj
      obtain ⟨e1, e2⟩ := ev_same okp sim hE hj
      rw [Nat.zero_add, b1, b2, b3, d1, d2, d3, e1, e2]
      exact ⟨rfl, rfl, rfl⟩
    · unfold w_X8_drawN
      rw [jn_d]
      exact br_n c (br_n c2 (no (by rw [decide_eq_false c2, Bool.and_false])))
