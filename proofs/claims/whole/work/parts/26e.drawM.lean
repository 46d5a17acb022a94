/-! ===== an evening by draws: both ===== -/
def evR (Sev : Ob) (P : PlT) (D : DrT) (i : Nat) : Prop := Sev.1 3 = nI i ∧ ∀ j, j < i → Sev.2 0 j = nI (drT P D j) ∧ Sev.2 1 j = iZ (drQ P D (j + 1)).2.1 ∧ Sev.2 2 j = nI (drQ P D (j + 1)).2.2.1
def evM (A : Nat → Int32) (P : PlT) (D : DrT) (i : Nat) : Prop := ∀ j, j < i → A (3 * j) = nI (drT P D j) ∧ A (3 * j + 1) = iZ (drQ P D (j + 1)).2.1 ∧ A (3 * j + 2) = nI (drQ P D (j + 1)).2.2.1
def drE (P : PlT) (D : DrT) (N : Nat) : Prop := (∀ j, j < N → 0 < drC P (drQ P D j)) ∧ drC P (drQ P D N) = 0
set_option maxHeartbeats 2000000 in
theorem ms_draw {S : Ob} {P : PlT} {T : TdT} (okp : okP P) (ok : okT (qpN P) T) (hmT : mT S T) (hL : lkP S P) {seed : Nat} (hs : seed ≤ 1000000) {Q : Int32 → Ob → Prop}
    (hq : ∀ N S'', (∀ k, k ∉ scS → k ≠ 41 → S''.1 k = S.1 k) → (S''.1 29 = S.1 29 ∨ S''.1 29 = S.1 1) → (∀ k, k ∉ scA → k ≠ 40 → S''.2 k = S.2 k) → mP S'' P → ndM S'' P (2 ^ qpN P) → S''.1 41 = nI N → N ≤ 10 → drE P (qtS T, lyM T, qlT T, seed) N → evM (S''.2 40) P (qtS T, lyM T, qlT T, seed) N → Q (nI N) (goodM S'')) : wM_draw S (nI seed) Q := by
  have h10 := okp.1
  have l1 : (decide ((0 : Int32) ≤ nI seed) && decide (nI seed ≤ 1000000)) = true := by
    have h1 : nI seed ≤ (1000000 : Int32) := nI_le (b := 1000000) (by omega) (by decide)
    rw [decide_eq_true (nI_pos' (by omega)), decide_eq_true h1]; rfl
  have okd : okD (qtS T, lyM T, qlT T, seed) := ⟨tS_1024 ok, lyM_R ok, lT_5 ok, by show seed ≤ 1000002; omega⟩
  generalize hD : ((qtS T, lyM T, qlT T, seed) : DrT) = D at hq okd
  have d1 : qtS T = D.1 := by rw [← hD]
  have d2 : lyM T = D.2.1 := by rw [← hD]
  have d3 : qlT T = D.2.2.1 := by rw [← hD]
  have d4 : seed = D.2.2.2 := by rw [← hD]
  unfold wM_draw
  rw [sM_lies, l1]
  refine ib_b (fun q => absurd q (by decide)) (fun _ => hL _ (fun S' lk mp nd mv => ?_))
  rintro S5 rfl S6 rfl
  have hmT5 := mT_lk hmT lk
  have hmT6 : mT (uS (uS S' 42 (nI seed)) 41 0) T := hmT5
  refine m_toldSet ok hmT6 (m_lastYear ok hmT6 (m_lastTeller ok hmT6 ?_))
  rw [d1, d2, d3, d4]
  refine wl5_i (fun x5 x4 x3 x2 S17 => ∃ i, (∀ j, j < i → 0 < drC P (drQ P D j)) ∧ (x5 = 1 ∨ (x5 = 0 ∧ drC P (drQ P D i) = 0)) ∧ x4 = nI (drQ P D i).2.2.1 ∧ x3 = iZ (drQ P D i).2.1 ∧ x2 = nI (drQ P D i).1 ∧ (∀ k, k ≠ 42 → k ≠ 41 → S17.1 k = S'.1 k) ∧ (∀ k, k ≠ 40 → S17.2 k = S'.2 k) ∧ S17.1 42 = nI (drQ P D i).2.2.2 ∧ S17.1 41 = nI i ∧ evM (S17.2 40) P D i)
    (fun x5 _ _ _ S17 => if x5 = 0 then 0 else 12 - (S17.1 41).toNatClampNeg) ?_ _ _ _ _ _ ⟨0, fun j hj => absurd hj (Nat.not_lt_zero j), Or.inl rfl, rfl, rfl, rfl, fun k q1 q2 => by rw [uS_1, if_neg q2, uS_1, if_neg q1], fun k _ => rfl, rfl, rfl, fun j hj => absurd hj (Nat.not_lt_zero j)⟩
  rintro L x5 x4 x3 x2 S17 ⟨i, hC, hx5, rfl, rfl, rfl, hA, hB, h42, h41, hE⟩ ih
  have okd' := okD_q okp okd i hC
  obtain ⟨k1, k2, k3, k4⟩ := id okd'
  have hi10 := drQ_10 okp hC
  have mp17 : mP S17 P := by
    unfold mP
    rw [hB 3 (by decide), hB 26 (by decide), hB 27 (by decide), hB 28 (by decide)]
    exact mp
  have nd17 : ndM S17 P (2 ^ qpN P) := by
    unfold ndM
    rw [hB 30 (by decide)]
    exact nd
  rcases hx5 with rfl | ⟨rfl, hz⟩
  · refine br_n (by decide) ?_
    have edq : ∀ k, k < 40 → (nI k / 4 : Int32) = nI (k / 4) ∧ (nI k - nI k / 4 * 4 : Int32) = nI (k % 4) := fun k hk => ⟨pk_div (d := 4) (by omega) (by decide) (by decide), pk_rem (d := 4) (by omega) (by decide) (by decide)⟩
    refine fo2 (4 * qpN P) (by omega) (fun k x => x = nI (fb_ct (drP P (drQ P D i)) k)) rfl ?_ ?_
    · rintro L2 k x hk rfl ih2
      obtain ⟨q1, q2⟩ := edq k (by omega)
      have e4 : (4 * nI (qpN P) : Int32) = nI (4 * qpN P) := pk_mul 4 _
      rw [sM_tales, mp17.2.1, e4, q2, q1]
      refine br_n (fun q => by have := (nI_leI (by omega) (by omega)).mp q; omega) (m_canNext mp17 (by omega) (by omega) k1 k3 k2 ?_)
      show (bI (drP P (drQ P D i) k) = 0 → _) ∧ (¬ bI (drP P (drQ P D i) k) = 0 → _)
      refine bi_b (fun c => ?_) (fun c => ?_)
      · rintro v rfl w rfl
        rw [nI_1]
        refine ih2 _ ?_
        rw [fb_ct_succ, c]
        exact Int32.add_zero _
      · rintro v rfl w rfl
        rw [nI_1, nI_1]
        refine ih2 _ ?_
        rw [fb_ct_succ, c]; rfl
    · rintro L2 x rfl
      have e4 : (4 * nI (qpN P) : Int32) = nI (4 * qpN P) := pk_mul 4 _
      have hcle : drC P (drQ P D i) ≤ 4 * qpN P := fb_ct_le _ _
      rw [sM_tales, mp17.2.1, e4]
      refine br_y (Int32.le_refl _) ?_
      rw [jn_d]
      refine le_b (drC P (drQ P D i)) 0 (by omega) (by decide) (fun c => rb_y rfl ?_) (fun c => rb_n (by decide) ?_)
      · refine ih _ _ _ _ _ ⟨i, hC, Or.inr ⟨rfl, by omega⟩, rfl, rfl, rfl, hA, hB, h42, h41, hE⟩ ?_
        rw [if_pos rfl, if_neg (by decide), h41, nI_clamp (by omega)]
        omega
      · have hi9 := drQ_9 okp hC c
        unfold wM_draws
        rw [h42, dr64' k4]
        rintro S30 rfl
        have e42 : (uS S17 42 (nI (drS (drQ P D i).2.2.2))).1 42 = nI (drS (drQ P D i).2.2.2) := rfl
        have hsl : drS (drQ P D i).2.2.2 < 1000003 := Nat.mod_lt _ (by decide)
        rw [e42]
        refine ⟨nI_ne0 (n := drC P (drQ P D i)) c (by omega), ?_⟩
        show ∃ n, wl2 _ n 0 (nI (drS (drQ P D i).2.2.2) - nI (drS (drQ P D i).2.2.2) / nI (drC P (drQ P D i)) * nI (drC P (drQ P D i)))
        rw [pk_rem (by omega) c (by omega)]
        obtain ⟨g1, g2, g3⟩ := drK_s c
        have hjl : drS (drQ P D i).2.2.2 % drC P (drQ P D i) < drC P (drQ P D i) := Nat.mod_lt _ c
        have mp30 : mP (uS S17 42 (nI (drS (drQ P D i).2.2.2))) P := mp17
        refine wl2_i (fun x8 x7 => ∃ k, k ≤ drK P (drQ P D i) ∧ x8 = nI k ∧ x7 = nI (drS (drQ P D i).2.2.2 % drC P (drQ P D i) - fb_ct (drP P (drQ P D i)) k)) (fun x8 _ => 40 - x8.toNatClampNeg) ?_ _ _ ⟨0, Nat.zero_le _, rfl, by rw [show fb_ct (drP P (drQ P D i)) 0 = 0 from rfl, Nat.sub_zero]⟩
        rintro L3 x8 x7 ⟨k, hk, rfl, rfl⟩ ih3
        obtain ⟨q1, q2⟩ := edq k (by omega)
        have hkm := fb_ct_mono (drP P (drQ P D i)) hk
        rw [q2, q1]
        refine m_canNext mp30 (by omega) (by omega) k1 k3 k2 ?_
        show jn _ _
        refine jn_g (fun J => k < drK P (drQ P D i) → J ()) ?_ (fun J hJ => ?_)
        · intro hlt
          refine m_canNext mp30 (by omega) (by omega) k1 k3 k2 ?_
          show (bI (drP P (drQ P D i) k) = 0 → _) ∧ (¬ bI (drP P (drQ P D i) k) = 0 → _)
          refine bi_b (fun c2 => ?_) (fun c2 => ?_)
          · rintro v rfl w rfl
            rw [nI_1]
            refine ih3 _ _ ⟨k + 1, hlt, rfl, ?_⟩ (by rw [nI_clamp (by omega), nI_clamp (by omega)]; omega)
            rw [fb_ct_succ, c2, Int32.sub_zero, if_neg (by decide), Nat.add_zero]
          · rintro v rfl w rfl
            have hlt2 := ct_lt hlt c2
            rw [nI_1]
            refine ih3 _ _ ⟨k + 1, hlt, rfl, ?_⟩ (by rw [nI_clamp (by omega), nI_clamp (by omega)]; omega)
            rw [fb_ct_succ, c2, show (1 : Int32) = nI 1 from rfl, pk_sub (by omega), if_pos rfl, Nat.sub_sub]
        · show (bI (drP P (drQ P D i) k) = 0 → _) ∧ (¬ bI (drP P (drQ P D i) k) = 0 → _)
          refine bi_b (fun c2 => hJ ?_) (fun c2 => le_b _ 0 (by omega) (by decide) (fun c3 => ?_) (fun c3 => hJ ?_))
          · rcases Nat.lt_or_ge k (drK P (drQ P D i)) with d | d
            · exact d
            · have : k = drK P (drQ P D i) := by omega
              rw [this, g2] at c2
              exact absurd c2 (by decide)
          · have ek : k = drK P (drQ P D i) := drK_u c c2 (by omega)
            refine m_yearBehind mp30 (by omega) k2 ?_
            rintro v48 rfl v49 rfl
            have e41 : ∀ v : Int32, (uS S17 42 v).1 41 = nI i := fun v => h41
            have i0 : (3 * nI i : Int32) = nI (3 * i) := pk_mul 3 i
            have i1 : (nI (3 * i) + 1 : Int32) = nI (3 * i + 1) := nI_1 _
            have i2 : (nI (3 * i) + 2 : Int32) = nI (3 * i + 2) := nI_add _ 2
            rw [e41, i0, or_1 (by omega), nI_clamp (by omega)]
            refine ⟨vp_in_nI (by omega) (by decide), ?_⟩
            rintro S51 rfl
            show vp_in (3 * S17.1 41 + 1) 30 ∧ _
            rw [h41, i0, i1]
            refine ⟨vp_in_nI (by omega) (by decide), ?_⟩
            intro S53 e53
            have e53' : S53 = uA (uA (uS S17 42 (nI (drS (drQ P D i).2.2.2))) 40 (3 * i) (nI (k / 4))) 40 (3 * i + 1) (iZ (yB P (k / 4) (drQ P D i).2.1)) := by
              rw [e53]
              show uA _ 40 (Int32.toNatClampNeg (3 * S17.1 41 + 1)) _ = _
              rw [h41, i0, i1, nI_clamp (by omega)]
            subst e53'
            clear e53
            show vp_in (3 * S17.1 41 + 2) 30 ∧ _
            rw [h41, i0, i2]
            refine ⟨vp_in_nI (by omega) (by decide), ?_⟩
            intro S55 e55
            have e55' : S55 = uA (uA (uA (uS S17 42 (nI (drS (drQ P D i).2.2.2))) 40 (3 * i) (nI (k / 4))) 40 (3 * i + 1) (iZ (yB P (k / 4) (drQ P D i).2.1))) 40 (3 * i + 2) (nI (k % 4)) := by
              rw [e55]
              show uA _ 40 (Int32.toNatClampNeg (3 * S17.1 41 + 2)) _ = _
              rw [h41, i0, i2, nI_clamp (by omega)]
            subst e55'
            clear e55
            intro S56 e56
            have e56' : S56 = uS (uA (uA (uA (uS S17 42 (nI (drS (drQ P D i).2.2.2))) 40 (3 * i) (nI (k / 4))) 40 (3 * i + 1) (iZ (yB P (k / 4) (drQ P D i).2.1))) 40 (3 * i + 2) (nI (k % 4))) 41 (nI (i + 1)) := by
              rw [e56]
              show uS _ 41 (S17.1 41 + 1) = _
              rw [h41, nI_1]
            subst e56'
            clear e56
            have r40 : ∀ j, (uS (uA (uA (uA (uS S17 42 (nI (drS (drQ P D i).2.2.2))) 40 (3 * i) (nI (k / 4))) 40 (3 * i + 1) (iZ (yB P (k / 4) (drQ P D i).2.1))) 40 (3 * i + 2) (nI (k % 4))) 41 (nI (i + 1))).2 40 j = if j = 3 * i + 2 then nI (k % 4) else if j = 3 * i + 1 then iZ (yB P (k / 4) (drQ P D i).2.1) else if j = 3 * i then nI (k / 4) else S17.2 40 j := fun j => rfl
            have hstep : drQ P D (i + 1) = (((drQ P D i).1 ||| 2 ^ (k / 4), yB P (k / 4) (drQ P D i).2.1, k % 4, drS (drQ P D i).2.2.2) : DrT) := by
              show drN P (drQ P D i) = _
              rw [drN, ← ek]
            refine ih _ _ _ _ _ ⟨i + 1, fun j hj => ?_, Or.inl rfl, by rw [hstep], by rw [hstep], by rw [hstep], fun j p1 p2 => ?_, fun j p1 => ?_, by rw [hstep]; rfl, rfl, fun j hj => ?_⟩ ?_
            · rcases Nat.lt_or_ge j i with d | d
              · exact hC j d
              · have : j = i := by omega
                subst this
                exact c
            · rw [uS_1, if_neg p2]
              show (uS S17 42 _).1 j = _
              rw [uS_1, if_neg p1]
              exact hA j p1 p2
            · show (uA (uA (uA (uS S17 42 _) 40 _ _) 40 _ _) 40 _ _).2 j = _
              rw [uA_2, if_neg p1, uA_2, if_neg p1, uA_2, if_neg p1]
              exact hB j p1
            · rw [r40, r40, r40]
              rcases Nat.lt_or_ge j i with d | d
              · rw [if_neg (by omega), if_neg (by omega), if_neg (by omega), if_neg (by omega), if_neg (by omega), if_neg (by omega), if_neg (by omega), if_neg (by omega), if_neg (by omega)]
                exact hE j d
              · have : j = i := by omega
                subst this
                rw [if_neg (by omega), if_neg (by omega), if_pos rfl, if_neg (by omega), if_pos rfl, if_pos rfl]
                exact ⟨by rw [drT, ← ek], by rw [hstep], by rw [hstep]⟩
            · show (if (1 : Int32) = 0 then 0 else 12 - (nI (i + 1)).toNatClampNeg) < _
              rw [if_neg (by decide), if_neg (by decide), h41, nI_clamp (by omega), nI_clamp (by omega)]
              omega
          · rcases Nat.lt_or_ge k (drK P (drQ P D i)) with d | d
            · exact d
            · have : k = drK P (drQ P D i) := by omega
              rw [this, g3] at c3
              omega
  · refine br_y rfl ?_
    rw [sM_good, h41]
    refine hq i S17 (fun k p1 p2 => ?_) (by rw [hA 29 (by decide) (by decide)]; exact lk.1.2) (fun k p1 p2 => ?_) mp17 nd17 h41 hi10 ⟨hC, hz⟩ hE
    · rw [hA k (fun e => p1 (by rw [e]; decide)) p2]
      exact lk.1.1 k p1
    · rw [hB k p2]
      exact lk.2 k p1
theorem m_drawNo {S : Ob} {x1 : Int32} (h : (decide (0 ≤ x1) && decide (x1 ≤ 1000000)) = false) {Q : Int32 → Ob → Prop} (hq : Q (-nI 1) (refM S 1)) : wM_draw S x1 Q := by
  unfold wM_draw
  rw [sM_lies, h]
  exact ib_b (fun _ => sM_refuses (k := 1) (by decide) hq) (fun q => absurd q (by decide))
