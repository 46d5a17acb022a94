/-! ===== a winter: both ===== -/
def srR (SP : Ob) (P : PlT) (SSn : Nat → Nat → Int32) : Prop := ∃ k, k ≤ 3 ∧ SP.1 17 = nI k ∧ (∀ e, e ≤ k → snE SSn P e) ∧ ∀ L, L < 1024 → SSn 0 L = 0
set_option maxHeartbeats 1000000 in
theorem s_layS {SSn : Nat → Nat → Int32} {SP : Ob} {P : PlT} (h : cP SP P) (hN : ndC SP P (2 ^ qpN P)) (hs : srR SP P SSn) {u : Nat} (hu : u ≤ 3) {Q : (Nat → Nat → Int32) → Ob → Prop}
    (hq : ∀ SSn' SP', SP'.2 = SP.2 → (∀ j, j ≠ 17 → SP'.1 j = SP.1 j) → srR SP' P SSn' → (∀ e, e ≤ u → snE SSn' P e) → Q SSn' SP') : w_X5_lay SSn SP (nI u) Q := by
  have okp := h.1
  have h10 := okp.1
  have hp := p10 h10
  unfold w_X5_lay
  refine wl3_i (fun x S2 S3 => ∃ e k, 1 ≤ e ∧ e ≤ 4 ∧ x = nI e ∧ S3.2 = SP.2 ∧ (∀ j, j ≠ 17 → S3.1 j = SP.1 j) ∧ e - 1 ≤ k ∧ k ≤ 3 ∧ S3.1 17 = nI k ∧ (∀ e', e' ≤ k → snE S2 P e') ∧ ∀ L, L < 1024 → S2 0 L = 0) (fun x _ _ => 4 - x.toNatClampNeg) ?_ _ _ _ ?_
  · rintro L x S2 S3 ⟨e, k, he1, he4, rfl, hA, hB, hek, hk3, h17, hE, hZ⟩ ih
    have c3 : cP S3 P := cP_same (ks := []) h (hB 6 (by decide)) (hB 7 (by decide)) (fun j _ => by rw [hA]) (by decide)
    have n3 : ndC S3 P (2 ^ qpN P) := fun s hs => by unfold cR; rw [hA]; exact hN s hs
    have fin : u ≤ k → Q S2 S3 := fun q => hq S2 S3 hA hB ⟨k, hk3, h17, hE, hZ⟩ (fun e' he' => hE e' (by omega))
    refine le_b 4 e (by decide) (by omega) (fun c => fin (by omega)) (fun c => ⟨fun c2 => ?_, fun c2 => ?_⟩)
    · have := (nI_ltI (by omega) (by omega)).mp c2
      exact fin (by omega)
    · rw [h17]
      refine le_b e k (by omega) (by omega) (fun c3' => ?_) (fun c3' => ?_)
      · rintro v rfl
        rw [nI_1]
        exact ih _ _ _ ⟨e + 1, k, by omega, by omega, rfl, hA, hB, by omega, hk3, h17, hE, hZ⟩ (by rw [nI_clamp (by omega), nI_clamp (by omega)]; omega)
      · have ek : e = k + 1 := by omega
        subst ek
        rw [c3.2.1, shl_1 (by omega)]
        refine fo2 (2 ^ qpN P) (by omega) (fun l S7 => (∀ l', l' < l → S7 (k + 1) l' = iZ (mo P (k + 1) l')) ∧ ∀ e', e' ≠ k + 1 → S7 e' = S2 e') ⟨fun l' hl => absurd hl (Nat.not_lt_zero l'), fun _ _ => rfl⟩ ?_ ?_
        · rintro L8 l S7 hl ⟨hI, hO⟩ ih8
          refine br_n (fun q => by have := (nI_leI (by omega) (by omega)).mp q; omega) ⟨vp_in_nI (by omega) (by decide), s_most c3 n3 (e := k) (by omega) (fun l' hl' => by rw [hO k (by omega)]; exact hE k (Nat.le_refl _) l' hl') hl ⟨vp_in_nI (by omega) (by decide), ?_⟩⟩
          rintro S15 rfl v rfl
          rw [nI_1, nI_clamp (by omega), nI_clamp (by omega)]
          refine ih8 _ ⟨fun l' hl' => ?_, fun e' he' => ?_⟩
          · show (if k + 1 = k + 1 then upd (S7 (k + 1)) l _ else S7 (k + 1)) l' = _
            rw [if_pos rfl, upd_d]
            by_cases q : l' = l
            · rw [if_pos q, q]
            · rw [if_neg q]
              exact hI l' (by omega)
          · show (if e' = k + 1 then _ else S7 e') = _
            rw [if_neg he']
            exact hO e' he'
        · rintro L8 S7 ⟨hI, hO⟩
          refine br_y (Int32.le_refl _) ?_
          rintro S9 rfl v rfl
          rw [nI_1]
          refine ih _ _ _ ⟨k + 1 + 1, k + 1, by omega, by omega, rfl, hA, fun j hj => by rw [uS_1, if_neg hj]; exact hB j hj, by omega, by omega, rfl, fun e' he' => ?_, fun l hl => ?_⟩ (by rw [nI_clamp (by omega), nI_clamp (by omega)]; omega)
          · intro l hl
            by_cases q : e' = k + 1
            · rw [q]; exact hI l hl
            · rw [hO e' q]; exact hE e' (by omega) l hl
          · rw [hO 0 (by omega)]; exact hZ l hl
  · obtain ⟨k, hk, h17, hE, hZ⟩ := hs
    exact ⟨1, k, by decide, by decide, rfl, rfl, fun _ _ => rfl, by omega, hk, h17, hE, hZ⟩
noncomputable def wsq (P : PlT) (ev : Nat) : Nat → Nat × Nat
  | 0 => (2 ^ qpN P - 1, 0)
  | k + 1 => (sd (wsq P ev k).1 (wsq P ev k).2, lwF P (ev - k - 1) (sd (wsq P ev k).1 (wsq P ev k).2))
theorem wsq_l (P : PlT) (ev : Nat) : ∀ k, (wsq P ev k).1 < 2 ^ qpN P
  | 0 => by
    have := Nat.two_pow_pos (qpN P)
    show 2 ^ qpN P - 1 < _
    omega
  | k + 1 => Nat.lt_of_le_of_lt (sd_le _ _) (wsq_l P ev k)
noncomputable def wnA (P : PlT) (ev : Nat) (i : Int) : Int32 := if i = -1 then iZ (mo P ev (2 ^ qpN P - 1)) else nI (wsq P ev (i.toNat + 1)).2
set_option maxHeartbeats 1000000 in
theorem win_core {SSn : Nat → Nat → Int32} {S1 SB : Ob} {P : PlT} (h : cP S1 P) (hN : ndC S1 P (2 ^ qpN P)) (hs : srR S1 P SSn) (h4 : SB.1 4 = nI (qpN P)) {ev : Nat} (he1 : 1 ≤ ev) (he4 : ev ≤ 4) {i : Int} (hi1 : -1 ≤ i) (hi2 : i < ev) {Q : Int32 → (Nat → Nat → Int32) → Ob → Prop}
    (hq : ∀ SSn' SP', SP'.2 = S1.2 → (∀ j, j ≠ 17 → SP'.1 j = S1.1 j) → srR SP' P SSn' → Q (wnA P ev i) SSn' SP') :
    w_X5_lay SSn S1 (nI ev - 1) (fun (S4 : (Nat → Nat → Int32)) (S5 : Ob) => w_X6_all SB (fun (r7 : Int32) => ((¬ iZ i = (-1) → ∃ n, wl3 (fun L12 (x5_9 : Int32) (x4_10 : Int32) (x3_11 : Int32) => ((iZ i < x5_9 → Q x4_10 S4 S5) ∧ (¬ iZ i < x5_9 → ∀ v13 : Int32, v13 = (x3_11 &&& (x4_10 ^^^ (-1))) → w_X5_lowest S4 S5 (nI ev - x5_9) v13 (fun (r14 : Int32) => ∀ v16 : Int32, v16 = x5_9 + 1 → L12 v16 r14 v13)))) n 0 0 r7) ∧ (iZ i = (-1) → w_X5_most S4 S5 (nI ev) r7 (fun (r18 : Int32) => Q r18 S4 S5))))) := by
  have okp := h.1
  have h10 := okp.1
  have hp := p10 h10
  have hpos := Nat.two_pow_pos (qpN P)
  obtain ⟨d, rfl⟩ : ∃ d, ev = d + 1 := ⟨ev - 1, by omega⟩
  rw [nI_pred]
  refine s_layS h hN hs (u := d) (by omega) (fun S4 S5 a1 a2 a3 a4 => ?_)
  have c5 : cP S5 P := cP_same (ks := []) h (a2 6 (by decide)) (a2 7 (by decide)) (fun j _ => by rw [a1]) (by decide)
  have n5 : ndC S5 P (2 ^ qpN P) := fun s hs => by unfold cR; rw [a1]; exact hN s hs
  have fin := hq S4 S5 a1 a2 a3
  have eall : nI (2 ^ qpN P) - 1 = nI (2 ^ qpN P - 1) := pk_sub (b := 1) (by omega)
  unfold w_X6_all
  rw [h4, shl_1 (by omega), eall]
  have him : iZ i = -1 ↔ i = -1 := by rw [iZ_m1, iZ_eq (by omega) (by omega) (by omega) (by omega)]
  rw [him]
  unfold wnA at fin
  refine ⟨fun c => ?_, fun c => s_most c5 n5 (by omega) (a4 d (Nat.le_refl _)) (by omega) ?_⟩
  · rw [if_neg c] at fin
    obtain ⟨m, rfl⟩ : ∃ m : Nat, i = m := ⟨i.toNat, by omega⟩
    rw [← iZ_n]
    refine fo3 (m + 1) (by omega) (fun k x4 x3 => x4 = nI (wsq P (d + 1) k).2 ∧ x3 = nI (wsq P (d + 1) k).1) ⟨rfl, rfl⟩ ?_ ?_
    · rintro L k x4 x3 hk ⟨rfl, rfl⟩ ih
      refine br_n (fun q => by have := (nI_ltI (by omega) (by omega)).mp q; omega) ?_
      rintro v13 rfl
      have ev' : nI (d + 1) - nI k = nI ((d - k) + 1) := by
        rw [pk_sub (by omega)]
        congr 1
        omega
      rw [sd_I, ev']
      refine s_lowest c5 n5 (by omega) (a4 (d - k) (by omega)) (Nat.lt_of_le_of_lt (sd_le _ _) (wsq_l P _ k)) ?_
      rintro v16 rfl
      rw [nI_1]
      refine ih _ _ ⟨?_, rfl⟩
      show nI (lwF P (d - k) _) = nI (lwF P (d + 1 - k - 1) _)
      rw [show d + 1 - k - 1 = d - k by omega]
    · rintro L x4 x3 ⟨rfl, rfl⟩
      refine br_y (nI_lt (by omega) (by omega)) ?_
      rw [Int.toNat_natCast] at fin
      exact fin
  · rw [if_pos c] at fin; exact fin
/-! the reference -/
theorem m_isEvening {S : Ob} {P : PlT} (h : mP S P) (hN : ndM S P (2 ^ qpN P)) {s : Nat} (hs : s < 2 ^ qpN P) {Q : Int32 → Prop} (h1 : Cn P s 4 10000 → Q 1) (h0 : ¬ Cn P s 4 10000 → Q 0) : wM_isEvening S (nI s) Q := by
  have h10 := h.1.1
  have hp := p10 h10
  obtain ⟨v, ev, hv0, hv1, hvC⟩ := hN s hs 4 (by decide)
  have ei : (5 * nI s + 4 : Int32) = nI (5 * s + 4) := by
    show nI 5 * nI s + nI 4 = _
    rw [pk_mul, nI_add]
  unfold wM_isEvening
  rw [ei, nI_clamp (by omega), ev]
  have hC := hvC 999999 ⟨by decide, by decide⟩
  refine ⟨vp_in_nI (by omega) (by decide), zle_b 1000000 v (by omega) (fun c => h0 (fun q => ?_)) (fun c => h1 (Cn_far h.1 (y := 999999) (by decide) (by decide) (hC.mp (by omega))))⟩
  have := hC.mpr (Cn_far h.1 (by decide) (by decide) q)
  omega
def moM (S : Ob) (P : PlT) (m : Nat) : Prop := ∀ e, e < m → ∀ L, L < 2 ^ qpN P → S.2 37 (1024 * e + L) = iZ (mo P e L)
set_option maxHeartbeats 2000000 in
theorem m_winters {S : Ob} {P : PlT} (h : mP S P) (hN : ndM S P (2 ^ qpN P)) {ev : Nat} (hev : ev ≤ 4) {Q : Ob → Prop} (hq : ∀ S', sameB [37] S S' → moM S' P (ev + 1) → Q S') : wM_winters S (nI ev) Q := by
  have okp := h.1
  have h10 := okp.1
  have hp := p10 h10
  have mp' : ∀ {S2 : Ob}, sameB [37] S S2 → mP S2 P := fun hs => mP_same h hs (by decide) (by decide) (by decide) (by decide)
  have nd' : ∀ {S2 : Ob}, sameB [37] S S2 → ndM S2 P (2 ^ qpN P) := fun hs => by unfold ndM; rw [hs.2 30 (by decide)]; exact hN
  have r37 : ∀ (S0 : Ob) i A j, (uA S0 37 i A).2 37 j = if j = i then A else S0.2 37 j := fun S0 i A j => rfl
  unfold wM_winters
  rw [sM_tales, h.2.1]
  rintro v3 e3
  rw [shl_1 (by omega)] at e3
  subst e3
  refine fo2 (2 ^ qpN P) (by omega) (fun l S5 => sameB [37] S S5 ∧ ∀ l', l' < l → S5.2 37 l' = 0) ⟨sameB.rf, fun l' hl => absurd hl (Nat.not_lt_zero l')⟩ ?_ ?_
  · rintro L l S5 hl ⟨hs5, hz⟩ ih
    refine br_n (fun q => by have := (nI_leI (by omega) (by omega)).mp q; omega) ⟨vp_in_nI (by omega) (by decide), ?_⟩
    rintro S36 rfl v rfl
    rw [nI_1, nI_clamp (by omega)]
    refine ih _ ⟨hs5.uA (by decide), fun l' hl' => ?_⟩
    rw [r37]
    by_cases q : l' = l
    · rw [if_pos q]
    · rw [if_neg q]; exact hz l' (by omega)
  · rintro L S5 ⟨hs5, hz⟩
    refine br_y (Int32.le_refl _) ?_
    refine fo2x 1 (ev + 1) (by omega) (by omega) (fun e S8 => sameB [37] S S8 ∧ moM S8 P e) ⟨hs5, fun e he l hl => ?_⟩ ?_ ?_
    · rw [show e = 0 by omega, Nat.mul_zero, Nat.zero_add, hz l hl]; exact iZ_0
    · rintro L9 e S8 he1 he ⟨hs8, hM⟩ ih9
      obtain ⟨d, rfl⟩ : ∃ d, e = d + 1 := ⟨e - 1, by omega⟩
      refine br_n (fun q => by have := (nI_ltI (by omega) (by omega)).mp q; omega) ?_
      refine fo2 (2 ^ qpN P) (by omega) (fun l S11 => sameB [37] S S11 ∧ moM S11 P (d + 1) ∧ ∀ l', l' < l → S11.2 37 (1024 * (d + 1) + l') = iZ (mo P (d + 1) l')) ⟨hs8, hM, fun l' hl => absurd hl (Nat.not_lt_zero l')⟩ ?_ ?_
      · rintro L12 l S11 hl ⟨hs11, hM11, hI⟩ ih12
        have m11 := mp' hs11
        have n11 := nd' hs11
        refine br_n (fun q => by have := (nI_leI (by omega) (by omega)).mp q; omega) ?_
        refine fo2 (l + 1) (by omega) (fun s x => x = iZ (mxF (evB P l) (fun s => wsm P s + mo P d (sd l s)) s)) rfl ?_ ?_
        · rintro L16 s x hs rfl ih16
          have hsn : s < 2 ^ qpN P := by omega
          have stay : ¬ (s &&& l = s ∧ Cn P s 4 10000) → ∀ v : Int32, v = nI s + 1 → L16 v (iZ (mxF (evB P l) (fun s => wsm P s + mo P d (sd l s)) s)) := by
            rintro hno v rfl
            rw [nI_1]
            refine ih16 _ ?_
            rw [mxF, if_neg (evB_f hno)]
          refine br_n (nI_nlt (by omega) (by omega)) ?_
          rw [sd_I, nI_z (Nat.lt_of_le_of_lt (sd_le _ _) (by omega)), sd_sb (by omega)]
          refine ⟨fun c => stay (fun q => c q.1), fun c => m_isEvening m11 n11 hsn (fun c2 => br_n (by decide) (m_worthOf m11 (by omega) ?_)) (fun c2 => br_y rfl (stay (fun q => c2 q.2)))⟩
          have hdl : sd l s < 2 ^ qpN P := Nat.lt_of_le_of_lt (sd_le _ _) hl
          have ei : (1024 * (nI (d + 1) - 1) + (nI l &&& (nI s ^^^ (-1))) : Int32) = nI (1024 * d + sd l s) := by
            rw [nI_pred, sd_I]
            show nI 1024 * nI d + nI (sd l s) = _
            rw [pk_mul, nI_add]
          rw [ei, nI_clamp (by omega), hM11 d (by omega) _ hdl, iZ_add, sM_greater]
          refine ⟨vp_in_nI (by omega) (by decide), ?_⟩
          rintro v rfl
          rw [nI_1]
          refine ih16 _ ?_
          have b1 := mxF_0 (evB P l) (fun s => wsm P s + mo P d (sd l s)) s
          have b2 := wsm_r okp s
          have b3 := mo_0 P d (sd l s)
          have b4 := mo_ws okp d (sd l s)
          have b5 := wsm_r okp (sd l s)
          have b6 : mxF (evB P l) (fun s => wsm P s + mo P d (sd l s)) s ≤ 19980 := by
            rcases mxF_at (evB P l) (fun s => wsm P s + mo P d (sd l s)) s with q | ⟨s', q1, q2, q3⟩
            · omega
            · rw [q3]
              have a2 := wsm_r okp s'
              have a4 := mo_ws okp d (sd l s')
              have a5 := wsm_r okp (sd l s')
              show wsm P s' + mo P d (sd l s') ≤ 19980
              omega
          rw [mxF, if_pos (evB_t.mpr ⟨c, c2⟩)]
          by_cases q : mxF (evB P l) (fun s => wsm P s + mo P d (sd l s)) s ≤ wsm P s + mo P d (sd l s)
          · rw [if_pos ((iZ_le (by omega) (by omega) (by omega) (by omega)).mpr q), if_pos q]
          · rw [if_neg (fun q2 => q ((iZ_le (by omega) (by omega) (by omega) (by omega)).mp q2)), if_neg q]
        · rintro L16 x rfl
          have ei : (1024 * nI (d + 1) + nI l : Int32) = nI (1024 * (d + 1) + l) := by
            show nI 1024 * nI (d + 1) + nI l = _
            rw [pk_mul, nI_add]
          rw [ei, nI_clamp (by omega)]
          refine br_y (nI_lt (by omega) (by omega)) ⟨vp_in_nI (by omega) (by decide), ?_⟩
          rintro S18 rfl v rfl
          rw [nI_1]
          refine ih12 _ ⟨hs11.uA (by decide), fun e' he' l' hl' => ?_, fun l' hl' => ?_⟩
          · rw [r37, if_neg (by omega)]
            exact hM11 e' he' l' hl'
          · rw [r37]
            by_cases q : l' = l
            · rw [q, if_pos rfl, mo_s]
            · rw [if_neg (by omega)]
              exact hI l' (by omega)
      · rintro L12 S11 ⟨hs11, hM11, hI⟩
        refine br_y (Int32.le_refl _) ?_
        rintro v rfl
        rw [nI_1]
        refine ih9 _ ⟨hs11, fun e' he' l' hl' => ?_⟩
        rcases Nat.lt_or_ge e' (d + 1) with q | q
        · exact hM11 e' q l' hl'
        · rw [show e' = d + 1 by omega]
          exact hI l' hl'
    · rintro L9 S8 ⟨hs8, hM⟩
      exact br_y (nI_lt (by omega) (by omega)) (hq S8 hs8 hM)
set_option maxHeartbeats 2000000 in
theorem ms_winter {S : Ob} {P : PlT} (okp : okP P) (hL : lkP S P) {ev : Nat} (he1 : 1 ≤ ev) (he4 : ev ≤ 4) {i : Int} (hi1 : -1 ≤ i) (hi2 : i < ev) {Q : Int32 → Ob → Prop} (hq : ∀ S', lkU S S' → mV S' P → Q (wnA P ev i) S') : wM_winter S (nI ev) (iZ i) Q := by
  have h10 := okp.1
  have hp := p10 h10
  have hpos := Nat.two_pow_pos (qpN P)
  have l1 : (decide ((1 : Int32) ≤ nI ev) && decide (nI ev ≤ 4)) = true := by
    have q1 : (1 : Int32) ≤ nI ev := nI_le (a := 1) he1 (by omega)
    have q2 : nI ev ≤ (4 : Int32) := nI_le (b := 4) he4 (by decide)
    rw [decide_eq_true q1, decide_eq_true q2]; rfl
  unfold wM_winter
  rw [sM_lies, l1]
  refine bi_b (fun q => absurd q (by decide)) (fun _ => ?_)
  have him : iZ i = -1 ↔ i = -1 := by rw [iZ_m1, iZ_eq (by omega) (by omega) (by omega) (by omega)]
  rw [him]
  refine jn_g (fun J => J ()) ?_ (fun J hJ => ⟨fun _ => hJ, fun c => ?_⟩)
  · refine hL _ (fun S' lk mp nd mv => m_winters mp nd he4 (fun S7 hs7 hM => ?_))
    have m7 : mP S7 P := mP_same mp hs7 (by decide) (by decide) (by decide) (by decide)
    have n7 : ndM S7 P (2 ^ qpN P) := by unfold ndM; rw [hs7.2 30 (by decide)]; exact nd
    have fin := hq S7 (lk.tr (lkU.sB hs7 (by decide))) (fun _ => ⟨m7, n7⟩)
    unfold wnA at fin
    rw [sM_tales, m7.2.1]
    have eall : nI (2 ^ qpN P) - 1 = nI (2 ^ qpN P - 1) := pk_sub (b := 1) (by omega)
    rintro v11 e11
    rw [shl_1 (by omega), eall] at e11
    subst e11
    refine ⟨fun c => ?_, fun c => ?_⟩
    · rw [if_neg c] at fin
      obtain ⟨m, rfl⟩ : ∃ m : Nat, i = m := ⟨i.toNat, by omega⟩
      rw [← iZ_n]
      refine fo3 (m + 1) (by omega) (fun k x4 x3 => x4 = nI (wsq P ev k).2 ∧ x3 = nI (wsq P ev k).1) ⟨rfl, rfl⟩ ?_ ?_
      · rintro L k x4 x3 hk ⟨rfl, rfl⟩ ih
        refine br_n (fun q => by have := (nI_ltI (by omega) (by omega)).mp q; omega) ?_
        rintro v16 rfl v17 rfl
        obtain ⟨d, hd⟩ : ∃ d, ev - k = d + 1 := ⟨ev - k - 1, by omega⟩
        have ev' : nI ev - nI k = nI (d + 1) := by rw [pk_sub (by omega), hd]
        rw [sd_I, ev', nI_pred]
        have hwl : sd (wsq P ev k).1 (wsq P ev k).2 < 2 ^ qpN P := Nat.lt_of_le_of_lt (sd_le _ _) (wsq_l P ev k)
        have hnext : wsq P ev (k + 1) = (sd (wsq P ev k).1 (wsq P ev k).2, lwF P d (sd (wsq P ev k).1 (wsq P ev k).2)) := by rw [wsq, show ev - k - 1 = d by omega]
        generalize sd (wsq P ev k).1 (wsq P ev k).2 = W at hwl hnext ⊢
        obtain ⟨⟨l1, l2, l3, l4⟩, l5⟩ := lwF_s (P := P) (e := d) (L := W) (by omega)
        refine wl1_i (fun x => ∃ s, s ≤ lwF P d W ∧ x = nI s) (fun x => 1024 - x.toNatClampNeg) ?_ _ ⟨0, Nat.zero_le _, rfl⟩
        rintro L4 x ⟨s, hs, rfl⟩ ih4
        have hsn : s < 2 ^ qpN P := by omega
        have stay : ¬ (s &&& W = s ∧ Cn P s 4 10000 ∧ wsm P s + mo P d (sd W s) = mo P (d + 1) W) → ∀ v : Int32, v = nI s + 1 → L4 v := by
          rintro hz v rfl
          rw [nI_1]
          have : s ≠ lwF P d W := fun q => hz (by rw [q]; exact ⟨l2, l3, l4⟩)
          exact ih4 _ ⟨s + 1, by omega, rfl⟩ (by rw [nI_clamp (by omega), nI_clamp (by omega)]; omega)
        rw [sd_I, nI_z (Nat.lt_of_le_of_lt (sd_le _ _) (by omega)), sd_sb (by omega)]
        refine ⟨fun c1 => stay (fun q => c1 q.1), fun c1 => m_isEvening m7 n7 hsn (fun c2 => br_n (by decide) (m_worthOf m7 (by omega) ?_)) (fun c2 => br_y rfl (stay (fun q => c2 q.2.1)))⟩
        have hdl : sd W s < 2 ^ qpN P := Nat.lt_of_le_of_lt (sd_le _ _) hwl
        have ei : (1024 * nI d + (nI W &&& (nI s ^^^ (-1))) : Int32) = nI (1024 * d + sd W s) := by
          rw [sd_I]
          show nI 1024 * nI d + nI (sd W s) = _
          rw [pk_mul, nI_add]
        have ei2 : (1024 * nI (d + 1) + nI W : Int32) = nI (1024 * (d + 1) + W) := by
          show nI 1024 * nI (d + 1) + nI W = _
          rw [pk_mul, nI_add]
        rw [ei, ei2, nI_clamp (by omega), nI_clamp (by omega), hM d (by omega) _ hdl, hM (d + 1) (by omega) _ hwl, iZ_add]
        have b2 := wsm_r okp s
        have b3 := mo_0 P d (sd W s)
        have b4 := mo_ws okp d (sd W s)
        have b5 := wsm_r okp (sd W s)
        have b6 := mo_0 P (d + 1) W
        have b7 := mo_ws okp (d + 1) W
        have b8 := wsm_r okp W
        refine ⟨vp_in_nI (by omega) (by decide), vp_in_nI (by omega) (by decide), zeq_b _ _ (by omega) (fun c3 => ?_) (fun c3 => stay (fun q => c3 q.2.2))⟩
        rintro v28 rfl
        rw [nI_1]
        have es : s = lwF P d W := by
          rcases Nat.lt_or_ge s (lwF P d W) with q | q
          · exact absurd ⟨c1, c2, c3⟩ (l5 s q)
          · omega
        refine ih _ _ ⟨?_, ?_⟩
        · rw [hnext, es]
        · rw [hnext]
      · rintro L x4 x3 ⟨rfl, rfl⟩
        refine br_y (nI_lt (by omega) (by omega)) ?_
        rw [Int.toNat_natCast] at fin
        exact fin
    · rw [if_pos c] at fin
      have ei : (1024 * nI ev + nI (2 ^ qpN P - 1) : Int32) = nI (1024 * ev + (2 ^ qpN P - 1)) := by
        show nI 1024 * nI ev + nI (2 ^ qpN P - 1) = _
        rw [pk_mul, nI_add]
      rw [ei, nI_clamp (by omega), hM ev (by omega) _ (by omega)]
      exact ⟨vp_in_nI (by omega) (by decide), fin⟩
  · have e1 : nI ev - 1 = nI (ev - 1) := pk_sub (b := 1) he1
    have l2 : (decide ((0 : Int32) ≤ iZ i) && decide (iZ i ≤ nI ev - 1)) = true := by
      rw [e1, iZ_n (ev - 1), iZ_0]
      rw [decide_eq_true ((iZ_le (by omega) (by omega) (by omega) (by omega)).mpr (by omega)), decide_eq_true ((iZ_le (by omega) (by omega) (by omega) (by omega)).mpr (by omega))]; rfl
    rw [sM_lies, l2]
    exact ib_b (fun q => absurd q (by decide)) (fun _ => hJ)
theorem m_winterNo {S : Ob} {a b : Int} (ha : -2147483648 ≤ a ∧ a < 2147483648) (hb' : -2147483648 ≤ b ∧ b < 2147483648) (h : ¬ (1 ≤ a ∧ a ≤ 4 ∧ -1 ≤ b ∧ b < a)) {Q : Int32 → Ob → Prop} (hq : Q (-1) S) : wM_winter S (iZ a) (iZ b) Q := by
  unfold wM_winter
  rw [sM_lies]
  refine bi_b (fun _ => hq) (fun c => ?_)
  rw [Bool.and_eq_true, decide_eq_true_eq, decide_eq_true_eq, iZ_1, show (4 : Int32) = iZ 4 from rfl, iZ_le (by omega) (by omega) (by omega) (by omega), iZ_le (by omega) (by omega) (by omega) (by omega)] at c
  rw [jn_d, iZ_1, iZ_neg]
  refine zeq_b _ _ (by omega) (fun c2 => absurd c2 (by omega)) (fun c2 => ?_)
  rw [iZ_sub, iZ_0, sM_lies]
  refine ib_b (fun _ => hq) (fun c3 => ?_)
  rw [Bool.and_eq_true, decide_eq_true_eq, decide_eq_true_eq, iZ_le (by omega) (by omega) (by omega) (by omega), iZ_le (by omega) (by omega) (by omega) (by omega)] at c3
  omega
set_option maxHeartbeats 1000000 in
theorem eq_winter {aLw : Nat → Nat} {SLw : Lw} {SO SB SP SJ S : Ob} {Sls : Nat → Option Nat} {P : PlT} {x1 x2 : Int32} {SSn : Nat → Nat → Int32} {R : Int32 → Ob → Ob → (Nat → Nat → Int32) → Int32 → Ob → Prop} (okp : okP P) (h4 : SB.1 4 = nI (qpN P)) (hW : rkP (w_X3_reckon aLw SP SJ SB Sls SLw) SP P) (hL : lkP S P) (hcv : cV SP P) (hmv : mV S P) (hs : srR SP P SSn)
    (hRn : R (-1) SP SJ SSn (-1) S)
    (hR : ∀ r SP' SJ' SSn' S', cV SP' P → mV S' P → lkU S S' → srR SP' P SSn' → R r SP' SJ' SSn' r S') : w_X8_winter aLw SO SB Sls SP SJ SLw SSn x1 x2 (fun r SP' SJ' SSn' => wM_winter S x1 x2 (fun r' S' => R r SP' SJ' SSn' r' S')) := by
  have ra := fb_rng x1
  have rb := fb_rng x2
  have ea := iZ_as x1
  have eb := iZ_as x2
  generalize x1.toInt = a at ra ea
  generalize x2.toInt = b at rb eb
  subst ea eb
  have bad : ¬ (1 ≤ a ∧ a ≤ 4 ∧ -1 ≤ b ∧ b < a) → wM_winter S (iZ a) (iZ b) (fun r' S' => R (-1) SP SJ SSn r' S') := fun q => m_winterNo ra rb q hRn
  unfold w_X8_winter
  have l1 : (iZ a < 1) ↔ a < 1 := by rw [iZ_1, iZ_lt (by omega) (by omega) (by omega) (by omega)]
  have l2 : (4 < iZ a) ↔ 4 < a := by rw [show (4 : Int32) = iZ 4 from rfl, iZ_lt (by omega) (by omega) (by omega) (by omega)]
  have l3 : (iZ b < -1) ↔ b < -1 := by rw [iZ_m1, iZ_lt (by omega) (by omega) (by omega) (by omega)]
  have l4 : (iZ b < iZ a) ↔ b < a := iZ_lt (by omega) (by omega) (by omega) (by omega)
  rw [l1, l2, l3, l4]
  refine ⟨fun c => bad (by omega), fun c => ⟨fun c2 => bad (by omega), fun c2 => ⟨fun c3 => bad (by omega), fun c3 => ⟨fun c4 => hW _ (fun SP' SJ' cv cp cn c17 => ?_), fun c4 => bad (by omega)⟩⟩⟩⟩
  obtain ⟨ev, rfl⟩ : ∃ ev : Nat, a = ev := ⟨a.toNat, by omega⟩
  rw [← iZ_n]
  refine win_core cp cn (by obtain ⟨k, k1, k2, k3⟩ := hs; exact ⟨k, k1, c17.trans k2, k3⟩) h4 (ev := ev) (by omega) (by omega) (i := b) (by omega) (by omega) (Q := fun r S4 S5 => wM_winter S (nI ev) (iZ b) (fun r' S' => R r S5 SJ' S4 r' S')) (fun SSn' SP2 a1 a2 a3 => ms_winter okp hL (by omega) (by omega) (by omega) (by omega) (fun S' lk mv => ?_))
  have cp2 : cP SP2 P := cP_same (ks := []) cp (a2 6 (by decide)) (a2 7 (by decide)) (fun j _ => by rw [a1]) (by decide)
  have cv2 : cV SP2 P := ⟨fun _ => cp2, fun _ => ⟨cp2, fun s' hs' => by unfold cR; rw [a1]; exact cn s' hs'⟩⟩
  exact hR _ _ _ _ _ cv2 mv lk a3
set_option maxHeartbeats 1000000 in
theorem eq_winterN {SO SB SP SJ S : Ob} {Sls : Nat → Option Nat} {P : PlT} {x1 x2 : Int32} {SSn : Nat → Nat → Int32} {R : Int32 → Ob → Ob → (Nat → Nat → Int32) → Int32 → Ob → Prop} (okp : okP P) (h4 : SB.1 4 = nI (qpN P)) (hW : rkP (w_X3_reckonN SP SJ SB Sls) SP P) (hL : lkP S P) (hcv : cV SP P) (hmv : mV S P) (hs : srR SP P SSn)
    (hRn : R (-1) SP SJ SSn (-1) S)
    (hR : ∀ r SP' SJ' SSn' S', cV SP' P → mV S' P → lkU S S' → srR SP' P SSn' → R r SP' SJ' SSn' r S') : w_X8_winterN SO SB Sls SP SJ SSn x1 x2 (fun r SP' SJ' SSn' => wM_winter S x1 x2 (fun r' S' => R r SP' SJ' SSn' r' S')) := by
  have ra := fb_rng x1
  have rb := fb_rng x2
  have ea := iZ_as x1
  have eb := iZ_as x2
  generalize x1.toInt = a at ra ea
  generalize x2.toInt = b at rb eb
  subst ea eb
  have bad : ¬ (1 ≤ a ∧ a ≤ 4 ∧ -1 ≤ b ∧ b < a) → wM_winter S (iZ a) (iZ b) (fun r' S' => R (-1) SP SJ SSn r' S') := fun q => m_winterNo ra rb q hRn
  unfold w_X8_winterN
  have l1 : (iZ a < 1) ↔ a < 1 := by rw [iZ_1, iZ_lt (by omega) (by omega) (by omega) (by omega)]
  have l2 : (4 < iZ a) ↔ 4 < a := by rw [show (4 : Int32) = iZ 4 from rfl, iZ_lt (by omega) (by omega) (by omega) (by omega)]
  have l3 : (iZ b < -1) ↔ b < -1 := by rw [iZ_m1, iZ_lt (by omega) (by omega) (by omega) (by omega)]
  have l4 : (iZ b < iZ a) ↔ b < a := iZ_lt (by omega) (by omega) (by omega) (by omega)
  rw [l1, l2, l3, l4]
  refine ⟨fun c => bad (by omega), fun c => ⟨fun c2 => bad (by omega), fun c2 => ⟨fun c3 => bad (by omega), fun c3 => ⟨fun c4 => hW _ (fun SP' SJ' cv cp cn c17 => ?_), fun c4 => bad (by omega)⟩⟩⟩⟩
  obtain ⟨ev, rfl⟩ : ∃ ev : Nat, a = ev := ⟨a.toNat, by omega⟩
  rw [← iZ_n]
  refine win_core cp cn (by obtain ⟨k, k1, k2, k3⟩ := hs; exact ⟨k, k1, c17.trans k2, k3⟩) h4 (ev := ev) (by omega) (by omega) (i := b) (by omega) (by omega) (Q := fun r S4 S5 => wM_winter S (nI ev) (iZ b) (fun r' S' => R r S5 SJ' S4 r' S')) (fun SSn' SP2 a1 a2 a3 => ms_winter okp hL (by omega) (by omega) (by omega) (by omega) (fun S' lk mv => ?_))
  have cp2 : cP SP2 P := cP_same (ks := []) cp (a2 6 (by decide)) (a2 7 (by decide)) (fun j _ => by rw [a1]) (by decide)
  have cv2 : cV SP2 P := ⟨fun _ => cp2, fun _ => ⟨cp2, fun s' hs' => by unfold cR; rw [a1]; exact cn s' hs'⟩⟩
  exact hR _ _ _ _ _ cv2 mv lk a3
set_option maxHeartbeats 1000000 in
theorem eq_winterA {aLw : Nat → Nat} {SLw : Lw} {SO SB SP SJ S : Ob} {Sls : Nat → Option Nat} {P : PlT} {x1 x2 : Int32} {R : Int32 → Option ((Nat → Nat) × (Nat → Nat → Int32)) → Ob → Ob → Int32 → Ob → Prop} (okp : okP P) (h4 : SB.1 4 = nI (qpN P)) (hW : rkP (w_X3_reckon aLw SP SJ SB Sls SLw) SP P) (hL : lkP S P) (hcv : cV SP P) (hmv : mV S P) (h17 : SP.1 17 = 0)
    (hRn : R (-1) none SP SJ (-1) S)
    (hR : ∀ r SP' SJ' SSn' S', ∀ us : Nat → Nat → Nat, cV SP' P → mV S' P → lkU S S' → srR SP' P SSn' → R r (some (us 0, SSn')) SP' SJ' r S') : w_X8_winterA aLw SO SB Sls SP SJ SLw x1 x2 (fun r So SP' SJ' => wM_winter S x1 x2 (fun r' S' => R r So SP' SJ' r' S')) := by
  have ra := fb_rng x1
  have rb := fb_rng x2
  have ea := iZ_as x1
  have eb := iZ_as x2
  generalize x1.toInt = a at ra ea
  generalize x2.toInt = b at rb eb
  subst ea eb
  have bad : ¬ (1 ≤ a ∧ a ≤ 4 ∧ -1 ≤ b ∧ b < a) → wM_winter S (iZ a) (iZ b) (fun r' S' => R (-1) none SP SJ r' S') := fun q => m_winterNo ra rb q hRn
  unfold w_X8_winterA
  have l1 : (iZ a < 1) ↔ a < 1 := by rw [iZ_1, iZ_lt (by omega) (by omega) (by omega) (by omega)]
  have l2 : (4 < iZ a) ↔ 4 < a := by rw [show (4 : Int32) = iZ 4 from rfl, iZ_lt (by omega) (by omega) (by omega) (by omega)]
  have l3 : (iZ b < -1) ↔ b < -1 := by rw [iZ_m1, iZ_lt (by omega) (by omega) (by omega) (by omega)]
  have l4 : (iZ b < iZ a) ↔ b < a := iZ_lt (by omega) (by omega) (by omega) (by omega)
  rw [l1, l2, l3, l4]
  refine ⟨fun c => bad (by omega), fun c => ⟨fun c2 => bad (by omega), fun c2 => ⟨fun c3 => bad (by omega), fun c3 => ⟨fun c4 => hW _ (fun SP' SJ' cv cp cn c17 => ?_), fun c4 => bad (by omega)⟩⟩⟩⟩
  obtain ⟨ev, rfl⟩ : ∃ ev : Nat, a = ev := ⟨a.toNat, by omega⟩
  rw [← iZ_n]
  intro us
  refine win_core cp cn ⟨0, by decide, c17.trans h17, fun e he L hL => by rw [show e = 0 by omega]; exact iZ_0, fun _ _ => rfl⟩ h4 (ev := ev) (by omega) (by omega) (i := b) (by omega) (by omega) (Q := fun r S4 S5 => wM_winter S (nI ev) (iZ b) (fun r' S' => R r (some (us 0, S4)) S5 SJ' r' S')) (fun SSn' SP2 a1 a2 a3 => ms_winter okp hL (by omega) (by omega) (by omega) (by omega) (fun S' lk mv => ?_))
  have cp2 : cP SP2 P := cP_same (ks := []) cp (a2 6 (by decide)) (a2 7 (by decide)) (fun j _ => by rw [a1]) (by decide)
  have cv2 : cV SP2 P := ⟨fun _ => cp2, fun _ => ⟨cp2, fun s' hs' => by unfold cR; rw [a1]; exact cn s' hs'⟩⟩
  exact hR _ _ _ _ _ us cv2 mv lk a3
set_option maxHeartbeats 1000000 in
theorem eq_winterNA {SO SB SP SJ S : Ob} {Sls : Nat → Option Nat} {P : PlT} {x1 x2 : Int32} {R : Int32 → Option ((Nat → Nat) × (Nat → Nat → Int32)) → Ob → Ob → Int32 → Ob → Prop} (okp : okP P) (h4 : SB.1 4 = nI (qpN P)) (hW : rkP (w_X3_reckonN SP SJ SB Sls) SP P) (hL : lkP S P) (hcv : cV SP P) (hmv : mV S P) (h17 : SP.1 17 = 0)
    (hRn : R (-1) none SP SJ (-1) S)
    (hR : ∀ r SP' SJ' SSn' S', ∀ us : Nat → Nat → Nat, cV SP' P → mV S' P → lkU S S' → srR SP' P SSn' → R r (some (us 0, SSn')) SP' SJ' r S') : w_X8_winterNA SO SB Sls SP SJ x1 x2 (fun r So SP' SJ' => wM_winter S x1 x2 (fun r' S' => R r So SP' SJ' r' S')) := by
  have ra := fb_rng x1
  have rb := fb_rng x2
  have ea := iZ_as x1
  have eb := iZ_as x2
  generalize x1.toInt = a at ra ea
  generalize x2.toInt = b at rb eb
  subst ea eb
  have bad : ¬ (1 ≤ a ∧ a ≤ 4 ∧ -1 ≤ b ∧ b < a) → wM_winter S (iZ a) (iZ b) (fun r' S' => R (-1) none SP SJ r' S') := fun q => m_winterNo ra rb q hRn
  unfold w_X8_winterNA
  have l1 : (iZ a < 1) ↔ a < 1 := by rw [iZ_1, iZ_lt (by omega) (by omega) (by omega) (by omega)]
  have l2 : (4 < iZ a) ↔ 4 < a := by rw [show (4 : Int32) = iZ 4 from rfl, iZ_lt (by omega) (by omega) (by omega) (by omega)]
  have l3 : (iZ b < -1) ↔ b < -1 := by rw [iZ_m1, iZ_lt (by omega) (by omega) (by omega) (by omega)]
  have l4 : (iZ b < iZ a) ↔ b < a := iZ_lt (by omega) (by omega) (by omega) (by omega)
  rw [l1, l2, l3, l4]
  refine ⟨fun c => bad (by omega), fun c => ⟨fun c2 => bad (by omega), fun c2 => ⟨fun c3 => bad (by omega), fun c3 => ⟨fun c4 => hW _ (fun SP' SJ' cv cp cn c17 => ?_), fun c4 => bad (by omega)⟩⟩⟩⟩
  obtain ⟨ev, rfl⟩ : ∃ ev : Nat, a = ev := ⟨a.toNat, by omega⟩
  rw [← iZ_n]
  intro us
  refine win_core cp cn ⟨0, by decide, c17.trans h17, fun e he L hL => by rw [show e = 0 by omega]; exact iZ_0, fun _ _ => rfl⟩ h4 (ev := ev) (by omega) (by omega) (i := b) (by omega) (by omega) (Q := fun r S4 S5 => wM_winter S (nI ev) (iZ b) (fun r' S' => R r (some (us 0, S4)) S5 SJ' r' S')) (fun SSn' SP2 a1 a2 a3 => ms_winter okp hL (by omega) (by omega) (by omega) (by omega) (fun S' lk mv => ?_))
  have cp2 : cP SP2 P := cP_same (ks := []) cp (a2 6 (by decide)) (a2 7 (by decide)) (fun j _ => by rw [a1]) (by decide)
  have cv2 : cV SP2 P := ⟨fun _ => cp2, fun _ => ⟨cp2, fun s' hs' => by unfold cR; rw [a1]; exact cn s' hs'⟩⟩
  exact hR _ _ _ _ _ us cv2 mv lk a3
