/-! ===== best sets ===== -/
noncomputable def cnd (P : PlT) (T : TdT) (s : Nat) : Bool := @decide (s &&& qtS T = 0 ∧ Cn P s (qlT T) (lyC T)) (Classical.propDecidable _)
theorem cnd_t {P : PlT} {T : TdT} {s : Nat} : cnd P T s = true ↔ s &&& qtS T = 0 ∧ Cn P s (qlT T) (lyC T) := by unfold cnd; exact @decide_eq_true_iff _ (Classical.propDecidable _)
theorem cnd_f {P : PlT} {T : TdT} {s : Nat} : cnd P T s = false ↔ ¬ (s &&& qtS T = 0 ∧ Cn P s (qlT T) (lyC T)) := by
  rw [← cnd_t]
  cases cnd P T s <;> simp
theorem cnd_0 {P : PlT} {T : TdT} : cnd P T 0 = true := cnd_t.mpr ⟨Nat.zero_and _, Cn_0⟩
def vV (P : PlT) (b : Bool) (s : Nat) : Int := wsm P s + (if b = true then (pop s : Int) * 10000 else 0)
theorem vV_r {P : PlT} (h : okP P) (b : Bool) (s : Nat) : 0 ≤ vV P b s ∧ vV P b s ≤ 109990 := by
  have h1 := wsm_r h s
  have h2 := pop_le s
  unfold vV
  split <;> omega
def bst (P : PlT) (T : TdT) (b : Bool) (m c k : Nat) : Prop := c < m ∧ cnd P T c = true ∧ (∀ s, s < m → cnd P T s = true → vV P b s ≤ vV P b c) ∧ (∀ s, s < c → cnd P T s = true → vV P b s < vV P b c) ∧ k = fb_ct (fun s => cnd P T s && decide (vV P b s = vV P b c)) m
theorem bst_0 {P : PlT} {T : TdT} {b : Bool} : bst P T b 1 0 1 := by
  refine ⟨by decide, cnd_0, fun s hs _ => ?_, fun s hs => absurd hs (Nat.not_lt_zero s), ?_⟩
  · have : s = 0 := by omega
    subst this
    exact Int.le_refl _
  · rw [fb_ct_succ, cnd_0, decide_eq_true rfl]; rfl
theorem bst_k {P : PlT} {T : TdT} {b : Bool} {m c k : Nat} (h : bst P T b m c k) : k ≤ m := by rw [h.2.2.2.2]; exact fb_ct_le _ _
theorem bst_skip {P : PlT} {T : TdT} {b : Bool} {m c k : Nat} (h : bst P T b m c k) (hm : cnd P T m = false) : bst P T b (m + 1) c k := by
  obtain ⟨h1, h2, h3, h4, h5⟩ := h
  refine ⟨by omega, h2, fun s hs hc => ?_, h4, ?_⟩
  · rcases Nat.lt_or_ge s m with q | q
    · exact h3 s q hc
    · have : s = m := by omega
      subst this
      rw [hm] at hc; exact absurd hc (by decide)
  · rw [fb_ct_succ, hm, ← h5]; rfl
theorem bst_less {P : PlT} {T : TdT} {b : Bool} {m c k : Nat} (h : bst P T b m c k) (hv : vV P b m < vV P b c) : bst P T b (m + 1) c k := by
  obtain ⟨h1, h2, h3, h4, h5⟩ := h
  refine ⟨by omega, h2, fun s hs hc => ?_, h4, ?_⟩
  · rcases Nat.lt_or_ge s m with q | q
    · exact h3 s q hc
    · have : s = m := by omega
      subst this
      omega
  · rw [fb_ct_succ, decide_eq_false (by omega), Bool.and_false, ← h5]; rfl
theorem bst_same {P : PlT} {T : TdT} {b : Bool} {m c k : Nat} (h : bst P T b m c k) (hm : cnd P T m = true) (hv : vV P b m = vV P b c) : bst P T b (m + 1) c (k + 1) := by
  obtain ⟨h1, h2, h3, h4, h5⟩ := h
  refine ⟨by omega, h2, fun s hs hc => ?_, h4, ?_⟩
  · rcases Nat.lt_or_ge s m with q | q
    · exact h3 s q hc
    · have : s = m := by omega
      subst this
      omega
  · rw [fb_ct_succ, hm, decide_eq_true hv, ← h5]; rfl
theorem bst_more {P : PlT} {T : TdT} {b : Bool} {m c k : Nat} (h : bst P T b m c k) (hm : cnd P T m = true) (hv : vV P b c < vV P b m) : bst P T b (m + 1) m 1 := by
  obtain ⟨h1, h2, h3, h4, h5⟩ := h
  have hz : fb_ct (fun s => cnd P T s && decide (vV P b s = vV P b m)) m = 0 := by
    rw [fb_ct_zero]
    intro s hs
    cases e : cnd P T s
    · rfl
    · have := h3 s hs e
      rw [decide_eq_false (by omega)]; rfl
  refine ⟨by omega, hm, fun s hs hc => ?_, fun s hs hc => ?_, ?_⟩
  · rcases Nat.lt_or_ge s m with q | q
    · have := h3 s q hc
      omega
    · have : s = m := by omega
      subst this
      omega
  · have := h3 s hs hc
    omega
  · rw [fb_ct_succ, hz, hm, decide_eq_true rfl]; rfl
theorem bst_one {P : PlT} {T : TdT} {b : Bool} {m c k c' k' : Nat} (h : bst P T b m c k) (h' : bst P T b m c' k') : c = c' ∧ k = k' := by
  obtain ⟨h1, h2, h3, h4, h5⟩ := h
  obtain ⟨g1, g2, g3, g4, g5⟩ := h'
  have e1 := h3 c' g1 g2
  have e2 := g3 c h1 h2
  have e : c = c' := by
    rcases Nat.lt_trichotomy c c' with q | q | q
    · have := g4 c q h2; omega
    · exact q
    · have := h4 c' q g2; omega
  subst e
  exact ⟨rfl, by rw [h5, g5]⟩
theorem lyC_C {n : Nat} {T : TdT} (h : okT n T) : yC (lyC T) := by
  unfold lyC
  split
  · exact ⟨by decide, by decide⟩
  · have := h.2.1 (qtM T - 1) (by omega)
    exact ⟨this.2.1, by omega⟩
theorem and_z {s u : Nat} (hs : s < 2 ^ 32) : (nI s &&& nI u) = 0 ↔ s &&& u = 0 := by rw [fa_and, nI_z (Nat.lt_of_le_of_lt Nat.and_le_left hs)]
set_option maxHeartbeats 1000000 in
theorem s_choose {SP SB Std : Ob} {P : PlT} {T : TdT} (hc : cP SP P) (hN : ndC SP P (2 ^ qpN P)) (ok : okT (qpN P) T) (hT : cT Std T) (b : Bool) {Q : Ob → Prop}
    (hq : ∀ (S' : Ob) c k, S'.2 = SP.2 → (∀ j, j ≠ 15 → j ≠ 16 → S'.1 j = SP.1 j) → bst P T b (2 ^ qpN P) c k → S'.1 15 = nI c → S'.1 16 = nI k → Q S') : w_X3_choose SP SB Std (bI b) Q := by
  have hok := hc.1
  have h10 := hok.1
  have hp := p10 h10
  have hTS := tS_1024 ok
  unfold w_X3_choose
  refine s_toldSet ok hT (s_lastYear ok hT (s_lastTeller ok hT ?_))
  refine fo3 (2 ^ qpN P) (by omega) (fun s x6 S9 => S9.2 = SP.2 ∧ (∀ j, j ≠ 15 → j ≠ 16 → S9.1 j = SP.1 j) ∧ ((s = 0 ∧ x6 = iZ (-1)) ∨ ∃ c k, bst P T b s c k ∧ x6 = iZ (vV P b c) ∧ S9.1 15 = nI c ∧ S9.1 16 = nI k)) ⟨rfl, fun _ _ _ => rfl, Or.inl ⟨rfl, iZ_m1⟩⟩ ?_ ?_
  · rintro L s x6 S9 hs ⟨hA, hB, hI⟩ ih
    have hc9 : cP S9 P := cP_same (ks := []) hc (hB 6 (by decide) (by decide)) (hB 7 (by decide) (by decide)) (fun k _ => by rw [hA]) (by decide)
    have hcR : cR S9 P s := by unfold cR; rw [hA]; exact hN s hs
    have hV := vV_r hok b s
    have skip : cnd P T s = false → ∀ v : Int32, v = nI s + 1 → L v x6 S9 := by
      rintro hf v rfl
      rw [nI_1]
      refine ih _ _ ⟨hA, hB, Or.inr ?_⟩
      rcases hI with ⟨rfl, _⟩ | ⟨c, k, hb, hx, h15, h16⟩
      · rw [cnd_0] at hf; exact absurd hf (by decide)
      · exact ⟨c, k, bst_skip hb hf, hx, h15, h16⟩
    rw [hc9.2.1, shl_1 (by omega)]
    refine br_n (fun q => by have := (nI_leI (by omega) (by omega)).mp q; omega) ?_
    rw [and_z (by omega)]
    refine ⟨fun c => skip (cnd_f.mpr (fun q => c q.1)), fun c => s_fits hc9 hs hcR (lT_5 ok) (lyC_C ok) (fun c2 => rb_n (by decide) ?_) (fun c2 => rb_y rfl (skip (cnd_f.mpr (fun q => c2 q.2))))⟩
    have hcd : cnd P T s = true := cnd_t.mpr ⟨c, c2⟩
    refine ⟨vp_in_nI (by omega) (by decide), jn_g (fun J => ∀ t, t = iZ (vV P b s - wsm P s) → J t) ?_ ?_⟩
    · rintro t rfl v rfl
      rw [nI_clamp (by omega), hcR.1, iZ_add, show wsm P s + (vV P b s - wsm P s) = vV P b s by omega]
      rcases hI with ⟨rfl, rfl⟩ | ⟨c, k, hb, rfl, h15, h16⟩
      · refine zle_b _ _ (by omega) (fun q => absurd q (by omega)) (fun q => ?_)
        rintro S22 rfl S23 rfl w rfl
        rw [nI_1]
        refine ih _ _ ⟨hA, fun j q1 q2 => ?_, Or.inr ⟨0, 1, bst_0, rfl, rfl, rfl⟩⟩
        rw [uS_1, if_neg q2, uS_1, if_neg q1]
        exact hB j q1 q2
      · have hVc := vV_r hok b c
        refine zle_b _ _ (by omega) (fun q => zqe_b _ _ (by omega) (fun q2 => ?_) (fun q2 => ?_)) (fun q => ?_)
        · rintro S19 rfl w rfl
          rw [nI_1]
          have hk := bst_k hb
          refine ih _ _ ⟨hA, fun j q1 q2 => ?_, Or.inr ⟨c, k + 1, bst_same hb hcd q2, rfl, h15, ?_⟩⟩
          · rw [uS_1, if_neg q2]
            exact hB j q1 q2
          · rw [uS_1, if_pos rfl, h16, nI_1]
        · rintro w rfl
          rw [nI_1]
          exact ih _ _ ⟨hA, hB, Or.inr ⟨c, k, bst_less hb (by omega), rfl, h15, h16⟩⟩
        · rintro S22 rfl S23 rfl w rfl
          rw [nI_1]
          refine ih _ _ ⟨hA, fun j q1 q2 => ?_, Or.inr ⟨s, 1, bst_more hb hcd q, rfl, rfl, rfl⟩⟩
          rw [uS_1, if_neg q2, uS_1, if_neg q1]
          exact hB j q1 q2
    · intro J hJ
      refine bi_b (fun q => hJ _ ?_) (fun q => s_bitCount (by omega) (hJ _ ?_))
      · rw [vV, if_neg (by rw [q]; decide), show wsm P s + 0 - wsm P s = 0 by omega]; exact iZ_0
      · rw [vV, if_pos q, show wsm P s + (pop s : Int) * 10000 - wsm P s = (pop s : Int) * 10000 by omega, iZ_n, ← iZ_mul]; rfl
  · rintro L x6 S9 ⟨hA, hB, hI⟩
    have hc9 : cP S9 P := cP_same (ks := []) hc (hB 6 (by decide) (by decide)) (hB 7 (by decide) (by decide)) (fun k _ => by rw [hA]) (by decide)
    rw [hc9.2.1, shl_1 (by omega)]
    refine br_y (Int32.le_refl _) ?_
    rcases hI with ⟨h0, _⟩ | ⟨c, k, hb, hx, h15, h16⟩
    · exact absurd h0 (by have := Nat.two_pow_pos (qpN P); omega)
    · exact hq S9 c k hA hB hb h15 h16
/-! the reference -/
theorem m_worthOf {S : Ob} {P : PlT} (h : mP S P) {s : Nat} (hs : s < 1024) {Q : Int32 → Prop} (hq : Q (iZ (wsm P s))) : wM_worthOf S (nI s) Q := by
  have h10 := h.1.1
  unfold wM_worthOf
  refine fo2 (qpN P) (by omega) (fun t x => x = iZ (ws P s t)) rfl ?_ ?_
  · rintro L t x ht rfl ih
    rw [sM_tales, h.2.1]
    refine br_n (fun q => by have := (nI_leI (by omega) (by omega)).mp q; omega) ?_
    rw [sM_isInB (by omega) (by omega)]
    refine bi_b (fun c => ?_) (fun c => ⟨mP_in h ht, ?_⟩)
    · rintro v rfl w rfl
      rw [nI_1]
      refine ih _ ?_
      rw [ws, if_neg (by rw [c]; decide), Int.add_zero]
      exact Int32.add_zero _
    · rintro v rfl w rfl
      rw [nI_1, nI_clamp (by omega), (h.2.2.2 t ht).2.2.1, iZ_add]
      refine ih _ ?_
      rw [ws, if_pos c]
  · rintro L x rfl
    rw [sM_tales, h.2.1]
    exact br_y (Int32.le_refl _) hq
theorem m_goesOn {S : Ob} {P : PlT} {T : TdT} (h : mP S P) (hN : ndM S P (2 ^ qpN P)) (ok : okT (qpN P) T) (hT : mT S T) {s : Nat} (hs : s < 2 ^ qpN P) {Q : Int32 → Prop} (h1 : Cn P s (qlT T) (lyC T) → Q 1) (h0 : ¬ Cn P s (qlT T) (lyC T) → Q 0) : wM_goesOn S (nI s) Q := by
  have h10 := h.1.1
  have hp := p10 h10
  have hl5 := lT_5 ok
  unfold wM_goesOn
  have ei : (5 * nI s + nI (qlT T) : Int32) = nI (5 * s + qlT T) := by
    show nI 5 * nI s + nI (qlT T) = _
    rw [pk_mul, nI_add]
  obtain ⟨v, ev, hv0, hv1, hvC⟩ := hN s hs (qlT T) hl5
  have hly := lyM_R ok
  obtain ⟨y0, y1⟩ := id hly
  refine m_lastTeller ok hT ?_
  rw [ei, nI_clamp (by omega), ev]
  refine ⟨vp_in_nI (by omega) (by decide), m_lastYear ok hT (zlt_b _ _ (by omega) (fun c => h0 (fun q => ?_)) (fun c => m_lastTeller ok hT ?_))⟩
  · have q' := (Cn_ly h.1 T).mp q
    rcases Classical.em (lyM T = 1000000) with e | e
    · omega
    · have := (hvC (lyM T) ⟨y0, by omega⟩).mpr q'
      omega
  · rw [ei, nI_clamp (by omega), ev]
    refine ⟨vp_in_nI (by omega) (by decide), zle_b 1000000 v (by omega) (fun c2 => h0 (fun q => ?_)) (fun c2 => h1 ?_)⟩
    · have q' : Cn P s (qlT T) (lyM T) := (Cn_ly h.1 T).mp q
      rcases Classical.em (lyM T = 1000000) with e | e
      · have q3 : Cn P s (qlT T) 999999 := Cn_far h.1 (by omega) (by decide) q'
        have := (hvC 999999 ⟨by decide, by decide⟩).mpr q3
        omega
      · have := (hvC (lyM T) ⟨y0, by omega⟩).mpr q'
        omega
    · refine (Cn_ly h.1 T).mpr ?_
      rcases Classical.em (lyM T = 1000000) with e | e
      · have q3 := (hvC 999999 ⟨by decide, by decide⟩).mp (by omega)
        exact Cn_far h.1 (by decide) (by omega) q3
      · exact (hvC (lyM T) ⟨y0, by omega⟩).mp c
