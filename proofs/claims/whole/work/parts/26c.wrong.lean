/-! ===== claims: wrong, liars ===== -/
def okC (n : Nat) (C : TdT) : Prop := n ≤ 10 ∧ qtM C ≤ 10 ∧ ∀ i, i < qtM C → qtF C i < n ∧ 0 ≤ qtY C i ∧ qtY C i ≤ 2000 ∧ qtU C i < 4
def mC (S : Ob) (C : TdT) : Prop := S.2 3 136 = nI (qtM C) ∧ ∀ i, i < qtM C → S.2 3 (103 + 3 * i) = nI (qtF C i) ∧ S.2 3 (103 + 3 * i + 1) = iZ (qtY C i) ∧ S.2 3 (103 + 3 * i + 2) = nI (qtU C i)
theorem mC_lk {S S' : Ob} {C : TdT} (h : mC S C) (hl : lkU S S') : mC S' C := by
  unfold mC
  rw [hl.2 3 (by decide)]
  exact h
def fwS (C : TdT) (lo : Int) : Nat → Nat × Int × Nat
  | 0 => (0, 10000, 4)
  | i + 1 => if (i : Int) = lo then fwS C lo i else ((fwS C lo i).1 ||| 2 ^ qtF C i, qtY C i, qtU C i)
def fwG (P : PlT) (set : Nat) (a : Int) (l t : Nat) (y : Int) (u : Nat) : Prop := hb set t = false ∧ hb (qpA P t) u = true ∧ mayN P l u = true ∧ qpF P t ≤ y ∧ y ≤ qpE P t ∧ y ≤ a - qpG P t
def fwB (P : PlT) (C : TdT) (lo : Int) (i : Nat) : Prop := (i : Int) ≠ lo ∧ ¬ fwG P (fwS C lo i).1 (fwS C lo i).2.1 (fwS C lo i).2.2 (qtF C i) (qtY C i) (qtU C i)
theorem fwS_r {n : Nat} {C : TdT} (h : okC n C) (lo : Int) : ∀ i, i ≤ qtM C → (fwS C lo i).1 < 2 ^ 10 ∧ 0 ≤ (fwS C lo i).2.1 ∧ (fwS C lo i).2.1 ≤ 10000 ∧ (fwS C lo i).2.2 < 5
  | 0, _ => ⟨Nat.two_pow_pos 10, show (0 : Int) ≤ 10000 by decide, show (10000 : Int) ≤ 10000 by decide, show 4 < 5 by decide⟩
  | i + 1, hi => by
    have ih := fwS_r h lo i (by omega)
    have hc := h.2.2 i (by omega)
    have hn := h.1
    rw [fwS]
    split
    · exact ih
    · exact ⟨or_lt ih.1 (by omega), hc.2.1, Int.le_trans hc.2.2.1 (by decide), Nat.lt_succ_of_lt hc.2.2.2⟩
/-- the answer: the first that is wrong -/
noncomputable def wr (P : PlT) (C : TdT) (lo : Int) : Int32 := @dite _ (∃ i, i < qtM C ∧ fwB P C lo i ∧ ∀ j, j < i → ¬ fwB P C lo j) (Classical.propDecidable _) (fun h => nI (Classical.choose h)) (fun _ => -1)
theorem wr_i {P : PlT} {C : TdT} {lo : Int} {i : Nat} (hi : i < qtM C) (h : fwB P C lo i) (h2 : ∀ j, j < i → ¬ fwB P C lo j) : wr P C lo = nI i := by
  have hx : ∃ i, i < qtM C ∧ fwB P C lo i ∧ ∀ j, j < i → ¬ fwB P C lo j := ⟨i, hi, h, h2⟩
  unfold wr
  rw [dif_pos hx]
  have hs := Classical.choose_spec hx
  rw [fb_first_one hs.2.1 hs.2.2 h h2]
theorem wr_n {P : PlT} {C : TdT} {lo : Int} (h2 : ∀ j, j < qtM C → ¬ fwB P C lo j) : wr P C lo = -1 := by
  unfold wr
  rw [dif_neg]
  rintro ⟨i, hi, h, _⟩
  exact h2 i hi h
theorem wr_ne {P : PlT} {C : TdT} {lo : Int} (hm : qtM C ≤ 10) (h : ¬ wr P C lo = -1) : ∃ i, i < 10 ∧ wr P C lo = nI i := by
  rcases Classical.em (∃ i, i < qtM C ∧ fwB P C lo i ∧ ∀ j, j < i → ¬ fwB P C lo j) with ⟨i, hi, h1, h2⟩ | q
  · exact ⟨i, by omega, wr_i hi h1 h2⟩
  · exact absurd (by unfold wr; rw [dif_neg q]) h
set_option maxHeartbeats 1000000 in
theorem s_firstWrong {SP Scl : Ob} {P : PlT} {C : TdT} (h : cP SP P) (ok : okC (qpN P) C) (hC : cT Scl C) {lo : Int} (hlo : -1 ≤ lo ∧ lo ≤ 10) {x : Int32} (hx : x = iZ lo) {Q : Int32 → Prop} (hq : Q (wr P C lo)) : w_X3_firstWrong SP Scl x Q := by
  subst hx
  have okp := h.1
  have h10 := ok.1
  have hm := ok.2.1
  unfold w_X3_firstWrong
  rw [hC.1]
  refine fo4 (qtM C) (by omega) (fun i x5 x4 x3 => x5 = nI (fwS C lo i).2.2 ∧ x4 = iZ (fwS C lo i).2.1 ∧ x3 = nI (fwS C lo i).1 ∧ ∀ j, j < i → ¬ fwB P C lo j) ⟨rfl, rfl, rfl, fun j hj => absurd hj (Nat.not_lt_zero j)⟩ ?_ ?_
  · rintro L i x5 x4 x3 hi ⟨rfl, rfl, rfl, hI⟩ ih
    obtain ⟨r1, r2, r3, r4⟩ := fwS_r ok lo i (by omega)
    obtain ⟨c1, c2, c3, c4⟩ := ok.2.2 i hi
    obtain ⟨a1, a2, a3⟩ := hC.2 i hi
    have hv : vp_in (nI i) 10 := vp_in_nI (by omega) (by decide)
    have hvt : vp_in (nI (qtF C i)) 10 := vp_in_nI (by omega) (by decide)
    refine br_n (fun q => by have := (nI_leI (by omega) (by omega)).mp q; omega) ?_
    have hbd := okp.2 _ c1
    obtain ⟨e1, e2, e3, e4, e5⟩ := h.2.2.2 _ c1
    have estep : ¬ (i : Int) = lo → fwS C lo (i + 1) = ((fwS C lo i).1 ||| 2 ^ qtF C i, qtY C i, qtU C i) := fun q => by rw [fwS, if_neg q]
    rw [iZ_n i]
    refine zqe_b _ _ (by omega) (fun c => ?_) (fun c => ?_)
    · rintro v rfl
      rw [← iZ_n, nI_1]
      have e : fwS C lo (i + 1) = fwS C lo i := by rw [fwS, if_pos c]
      refine ih _ _ _ ⟨by rw [e], by rw [e], by rw [e], fun j hj => ?_⟩
      rcases Nat.lt_or_ge j i with d | d
      · exact hI j d
      · have : j = i := by omega
        subst this
        exact fun q => q.1 c
    · rw [← iZ_n, nI_clamp (by omega), a1, a2, a3]
      refine ⟨hv, ?_⟩
      rintro v7 rfl
      refine ⟨hv, ?_⟩
      rintro v9 rfl
      refine ⟨hvt, ?_⟩
      rw [nI_clamp (by omega), e1, e2, e4, iZ_sub]
      have wrong : ¬ fwG P (fwS C lo i).1 (fwS C lo i).2.1 (fwS C lo i).2.2 (qtF C i) (qtY C i) (qtU C i) → Q (nI i) := fun q => by
        rw [← wr_i hi ⟨c, q⟩ hI]; exact hq
      have hfl := flw_hb okp c1 (p32 r4).1 (p32 r4).2 c4
      rw [any_1 r4] at hfl
      have hfl16 := flw_lt okp c1 (2 ^ (fwS C lo i).2.2)
      refine jn_g (fun J => ∀ b : Bool, (b = true ↔ qpF P (qtF C i) ≤ qtY C i ∧ qtY C i ≤ qpE P (qtF C i) ∧ qtY C i ≤ (fwS C lo i).2.1 - qpG P (qtF C i)) → J (bI b)) ?_ (fun J hJ => jn_g (fun J => ¬ (qpF P (qtF C i) ≤ qtY C i ∧ qtY C i ≤ qpE P (qtF C i) ∧ qtY C i ≤ (fwS C lo i).2.1 - qpG P (qtF C i)) → J ()) (fun hno => hJ false ⟨fun q => absurd q (by decide), fun q => absurd q hno⟩) (fun J2 hJ2 => ?_))
      · intro b hb'
        rw [shl_1 (by omega)]
        refine s_followers h c1 (by have := (p32 r4).1; omega) ⟨hv, jn_g (fun J => J (bI (hb (flw P (qtF C i) (2 ^ (fwS C lo i).2.2)) (qtU C i)))) ?_ (fun J hJ => hb_b (by omega) (by omega) (fun q => by rw [q] at hJ; exact hJ) (fun q => by rw [q] at hJ; exact hJ))⟩
        refine bi_b (fun q => wrong (fun g => by have := hb'.mpr ⟨g.2.2.2.1, g.2.2.2.2⟩; rw [q] at this; exact absurd this (by decide))) (fun q => ?_)
        rw [hfl]
        refine bi_b (fun q2 => wrong (fun g => by rw [g.2.1, g.2.2.1] at q2; exact absurd q2 (by decide))) (fun q2 => hb_b (by omega) (by omega) (fun q3 => ?_) (fun q3 => wrong (fun g => by rw [g.1] at q3; exact absurd q3 (by decide))))
        rw [Bool.and_eq_true] at q2
        rintro v18 rfl
        refine ⟨hv, ?_⟩
        rintro v20 rfl v21 rfl
        rw [nI_1, or_1 (by omega)]
        refine ih _ _ _ ⟨by rw [estep c], by rw [estep c], by rw [estep c], fun j hj => ?_⟩
        rcases Nat.lt_or_ge j i with d | d
        · exact hI j d
        · have : j = i := by omega
          subst this
          exact fun g => g.2 ⟨q3, q2.1, q2.2, (hb'.mp q).1, (hb'.mp q).2.1, (hb'.mp q).2.2⟩
      · refine zlt_b _ _ (by omega) (fun q => hJ2 (by omega)) (fun q => ⟨hvt, zlt_b _ _ (by omega) (fun q2 => hJ2 (by omega)) (fun q2 => ⟨hvt, zlt_b _ _ (by omega) (fun q3 => hJ2 (by omega)) (fun q3 => hJ true ⟨fun _ => ⟨q, q2, q3⟩, fun _ => rfl⟩)⟩)⟩)
  · rintro L x5 x4 x3 ⟨rfl, rfl, rfl, hI⟩
    refine br_y (Int32.le_refl _) ?_
    rw [← wr_n hI]
    exact hq
set_option maxHeartbeats 1000000 in
theorem m_wrongBut {S : Ob} {P : PlT} {C : TdT} (h : mP S P) (ok : okC (qpN P) C) (hC : mC S C) {lo : Int} (hlo : -1 ≤ lo ∧ lo ≤ 10) {x : Int32} (hx : x = iZ lo) {Q : Int32 → Prop} (hq : Q (wr P C lo)) : wM_wrongBut S x Q := by
  subst hx
  have okp := h.1
  have h10 := ok.1
  have hm := ok.2.1
  unfold wM_wrongBut
  rw [hC.1]
  refine fo4 (qtM C) (by omega) (fun i x4 x3 x2 => ∃ a : Int, x4 = iZ a ∧ (a = (fwS C lo i).2.1 ∨ ((fwS C lo i).2.1 = 10000 ∧ a = 1000000)) ∧ x3 = nI (fwS C lo i).2.2 ∧ x2 = nI (fwS C lo i).1 ∧ ∀ j, j < i → ¬ fwB P C lo j) ⟨1000000, rfl, Or.inr ⟨rfl, rfl⟩, rfl, rfl, fun j hj => absurd hj (Nat.not_lt_zero j)⟩ ?_ ?_
  · rintro L i x4 x3 x2 hi ⟨a, rfl, ha, rfl, rfl, hI⟩ ih
    obtain ⟨r1, r2, r3, r4⟩ := fwS_r ok lo i (by omega)
    obtain ⟨c1, c2, c3, c4⟩ := ok.2.2 i hi
    obtain ⟨a1, a2, a3⟩ := hC.2 i hi
    refine br_n (fun q => by have := (nI_leI (by omega) (by omega)).mp q; omega) ?_
    have hbd := okp.2 _ c1
    have hA : qpA P (qtF C i) < 16 := hbd.2.2.2.2.2.2.2
    have hvt : vp_in (nI (qtF C i)) 10 := vp_in_nI (by omega) (by decide)
    obtain ⟨e1, e2, e3, e4, e5⟩ := h.2.2.2 _ c1
    have estep : ¬ (i : Int) = lo → fwS C lo (i + 1) = ((fwS C lo i).1 ||| 2 ^ qtF C i, qtY C i, qtU C i) := fun q => by rw [fwS, if_neg q]
    rw [iZ_n i]
    refine zqe_b _ _ (by omega) (fun c => ?_) (fun c => ?_)
    · rintro v rfl
      rw [← iZ_n, nI_1]
      have e : fwS C lo (i + 1) = fwS C lo i := by rw [fwS, if_pos c]
      refine ih _ _ _ ⟨a, rfl, by rw [e]; exact ha, by rw [e], by rw [e], fun j hj => ?_⟩
      rcases Nat.lt_or_ge j i with d | d
      · exact hI j d
      · have : j = i := by omega
        subst this
        exact fun q => q.1 c
    · have i0 : (103 + 3 * nI i : Int32) = nI (103 + 3 * i) := by
        show nI 103 + nI 3 * nI i = _
        rw [pk_mul, nI_add]
      have i1 : (nI (103 + 3 * i) + 1 : Int32) = nI (103 + 3 * i + 1) := nI_1 _
      have i2 : (nI (103 + 3 * i) + 2 : Int32) = nI (103 + 3 * i + 2) := nI_add _ 2
      rw [← iZ_n, i0, i1, i2, nI_clamp (by omega), nI_clamp (by omega), nI_clamp (by omega), a1, a2, a3]
      refine ⟨vp_in_nI (by omega) (by decide), ?_⟩
      rintro v7 rfl
      refine ⟨vp_in_nI (by omega) (by decide), ?_⟩
      rintro v9 rfl
      refine ⟨vp_in_nI (by omega) (by decide), ?_⟩
      rintro v11 rfl
      have wrong : ¬ fwG P (fwS C lo i).1 (fwS C lo i).2.1 (fwS C lo i).2.2 (qtF C i) (qtY C i) (qtU C i) → Q (nI i) := fun q => by
        rw [← wr_i hi ⟨c, q⟩ hI]; exact hq
      rw [sM_isInB (by omega) (by omega)]
      refine ib_b (fun q1 => ⟨hvt, ?_⟩) (fun q1 => wrong (fun g => by rw [g.1] at q1; exact absurd q1 (by decide)))
      rw [nI_clamp (by omega), e5, sM_isInB (by omega) (by omega)]
      refine bi_b (fun q2 => wrong (fun g => by rw [g.2.1] at q2; exact absurd q2 (by decide))) (fun q2 => m_mayNext h (by omega) (by omega) (bi_b (fun q3 => wrong (fun g => by rw [g.2.2.1] at q3; exact absurd q3 (by decide))) (fun q3 => ?_)))
      rw [m_f0 h c1, m_f1 h c1, sM_lies, e4, iZ_sub]
      refine bi_b (fun q4 => wrong (fun g => ?_)) (fun q4 => ⟨hvt, ?_⟩)
      · rw [decide_eq_true ((iZ_le (by omega) (by omega) (by omega) (by omega)).mpr g.2.2.2.1), decide_eq_true ((iZ_le (by omega) (by omega) (by omega) (by omega)).mpr g.2.2.2.2.1)] at q4
        exact absurd q4 (by decide)
      · rw [Bool.and_eq_true, decide_eq_true_eq, decide_eq_true_eq, iZ_le (by omega) (by omega) (by omega) (by omega), iZ_le (by omega) (by omega) (by omega) (by omega)] at q4
        refine zle_b _ _ (by omega) (fun q5 => ?_) (fun q5 => wrong (fun g => by have := g.2.2.2.2.2; omega))
        rintro v26 rfl v27 rfl
        rw [nI_1, or_1 (by omega)]
        refine ih _ _ _ ⟨qtY C i, rfl, Or.inl (by rw [estep c]), by rw [estep c], by rw [estep c], fun j hj => ?_⟩
        rcases Nat.lt_or_ge j i with d | d
        · exact hI j d
        · have : j = i := by omega
          subst this
          exact fun g => g.2 ⟨q1, q2, q3, q4.1, q4.2, by omega⟩
  · rintro L x4 x3 x2 ⟨a, rfl, ha, rfl, rfl, hI⟩
    refine br_y (Int32.le_refl _) ?_
    rw [← wr_n hI]
    exact hq
noncomputable def lrF (P : PlT) (C : TdT) : Nat → Nat
  | 0 => 0
  | i + 1 => @ite _ (wr P C i = -1) (Classical.propDecidable _) (lrF P C i ||| 2 ^ i) (lrF P C i)
theorem lrF_lt (P : PlT) (C : TdT) : ∀ i, i ≤ 10 → lrF P C i < 2 ^ 10
  | 0, _ => Nat.two_pow_pos 10
  | i + 1, hi => by
    have ih := lrF_lt P C i (by omega)
    rw [lrF]
    by_cases q : wr P C i = -1
    · rw [if_pos q]; exact or_lt ih (by omega)
    · rw [if_neg q]; exact ih
theorem m_liars {S : Ob} {P : PlT} {C : TdT} (ok : okC (qpN P) C) (hC : mC S C) (hL : lkP S P) {Q : Int32 → Ob → Prop} (hq : ∀ S', mV S' P → lkU S S' → Q (nI (lrF P C (qtM C))) S') : wM_liars S Q := by
  have hm := ok.2.1
  unfold wM_liars
  refine hL _ (fun S' lk mp nd mv => ?_)
  have hC' := mC_lk hC lk
  rw [hC'.1]
  refine fo2 (qtM C) (by omega) (fun i x => x = nI (lrF P C i)) rfl ?_ ?_
  · rintro L i x hi rfl ih
    have hlt := lrF_lt P C i (by omega)
    refine br_n (fun q => by have := (nI_leI (by omega) (by omega)).mp q; omega) (m_wrongBut mp ok hC' (lo := i) (by omega) (iZ_n i) ⟨fun c => ?_, fun c => ?_⟩)
    · rintro v rfl w rfl
      rw [nI_1]
      refine ih _ ?_
      rw [lrF, if_neg c]
      show nI _ ||| nI 0 = _
      rw [fa_or, Nat.or_zero]
    · rintro v rfl w rfl
      rw [nI_1, or_1 (by omega)]
      refine ih _ ?_
      rw [lrF, if_pos c]
  · rintro L x rfl
    exact br_y (Int32.le_refl _) (hq S' mv lk)
theorem eq_wrong {aLw : Nat → Nat} {SLw : Lw} {SO SB SP SJ Scl S : Ob} {Sls : Nat → Option Nat} {P : PlT} {C : TdT} {R : Int32 → Ob → Ob → Int32 → Ob → Prop} (ok : okC (qpN P) C) (hC : cT Scl C) (hmC : mC S C) (hW : wkP (w_X3_weigh aLw SP SJ SB Sls SLw) SP P) (hL : lkP S P)
    (hR : ∀ r SP' SJ' S', cV SP' P → mV S' P → lkU S S' → SP'.1 17 = SP.1 17 → R r SP' SJ' r S') : w_X8_wrong aLw SO SB Sls SP SJ Scl SLw (fun r SP' SJ' => wM_wrong S (fun r' S' => R r SP' SJ' r' S')) := by
  unfold w_X8_wrong
  refine hW _ (fun SP' SJ' cv cp c17 => s_firstWrong cp ok hC (lo := -1) (by omega) iZ_m1 ?_)
  show wM_wrong _ _
  unfold wM_wrong
  exact hL _ (fun S' lk mp nd mv => m_wrongBut mp ok (mC_lk hmC lk) (lo := -1) (by omega) iZ_m1 (hR _ _ _ _ cv mv lk c17))
theorem eq_liars {aLw : Nat → Nat} {SLw : Lw} {SO SB SP SJ Scl S : Ob} {Sls : Nat → Option Nat} {P : PlT} {C : TdT} {R : Int32 → Ob → Ob → Int32 → Ob → Prop} (ok : okC (qpN P) C) (hC : cT Scl C) (hmC : mC S C) (hW : wkP (w_X3_weigh aLw SP SJ SB Sls SLw) SP P) (hL : lkP S P)
    (hR : ∀ r SP' SJ' S', cV SP' P → mV S' P → lkU S S' → SP'.1 17 = SP.1 17 → R r SP' SJ' r S') : w_X8_liars aLw SO SB Sls SP SJ Scl SLw (fun r SP' SJ' => wM_liars S (fun r' S' => R r SP' SJ' r' S')) := by
  have hm := ok.2.1
  unfold w_X8_liars
  refine hW _ (fun SP' SJ' cv cp c17 => ?_)
  rw [hC.1]
  refine fo2 (qtM C) (by omega) (fun i x => x = nI (lrF P C i)) rfl ?_ ?_
  · rintro L i x hi rfl ih
    refine br_n (fun q => by have := (nI_leI (by omega) (by omega)).mp q; omega) (s_firstWrong cp ok hC (lo := i) (by omega) (iZ_n i) ⟨fun c => ?_, fun c => ?_⟩)
    · rintro v rfl
      rw [nI_1]
      refine ih _ ?_
      rw [lrF, if_neg c]
    · rintro v rfl w rfl
      rw [nI_1, or_1 (by omega)]
      refine ih _ ?_
      rw [lrF, if_pos c]
  · rintro L x rfl
    exact br_y (Int32.le_refl _) (m_liars ok hmC hL (fun S' mv lk => hR _ _ _ _ cv mv lk c17))
theorem eq_wrongN {SO SB SP SJ Scl S : Ob} {Sls : Nat → Option Nat} {P : PlT} {C : TdT} {R : Int32 → Ob → Ob → Int32 → Ob → Prop} (ok : okC (qpN P) C) (hC : cT Scl C) (hmC : mC S C) (hW : wkP (w_X3_weighN SP SJ SB Sls) SP P) (hL : lkP S P)
    (hR : ∀ r SP' SJ' S', cV SP' P → mV S' P → lkU S S' → SP'.1 17 = SP.1 17 → R r SP' SJ' r S') : w_X8_wrongN SO SB Sls SP SJ Scl (fun r SP' SJ' => wM_wrong S (fun r' S' => R r SP' SJ' r' S')) := by
  unfold w_X8_wrongN
  refine hW _ (fun SP' SJ' cv cp c17 => s_firstWrong cp ok hC (lo := -1) (by omega) iZ_m1 ?_)
  show wM_wrong _ _
  unfold wM_wrong
  exact hL _ (fun S' lk mp nd mv => m_wrongBut mp ok (mC_lk hmC lk) (lo := -1) (by omega) iZ_m1 (hR _ _ _ _ cv mv lk c17))
theorem eq_liarsN {SO SB SP SJ Scl S : Ob} {Sls : Nat → Option Nat} {P : PlT} {C : TdT} {R : Int32 → Ob → Ob → Int32 → Ob → Prop} (ok : okC (qpN P) C) (hC : cT Scl C) (hmC : mC S C) (hW : wkP (w_X3_weighN SP SJ SB Sls) SP P) (hL : lkP S P)
    (hR : ∀ r SP' SJ' S', cV SP' P → mV S' P → lkU S S' → SP'.1 17 = SP.1 17 → R r SP' SJ' r S') : w_X8_liarsN SO SB Sls SP SJ Scl (fun r SP' SJ' => wM_liars S (fun r' S' => R r SP' SJ' r' S')) := by
  have hm := ok.2.1
  unfold w_X8_liarsN
  refine hW _ (fun SP' SJ' cv cp c17 => ?_)
  rw [hC.1]
  refine fo2 (qtM C) (by omega) (fun i x => x = nI (lrF P C i)) rfl ?_ ?_
  · rintro L i x hi rfl ih
    refine br_n (fun q => by have := (nI_leI (by omega) (by omega)).mp q; omega) (s_firstWrong cp ok hC (lo := i) (by omega) (iZ_n i) ⟨fun c => ?_, fun c => ?_⟩)
    · rintro v rfl
      rw [nI_1]
      refine ih _ ?_
      rw [lrF, if_neg c]
    · rintro v rfl w rfl
      rw [nI_1, or_1 (by omega)]
      refine ih _ ?_
      rw [lrF, if_pos c]
  · rintro L x rfl
    exact br_y (Int32.le_refl _) (m_liars ok hmC hL (fun S' mv lk => hR _ _ _ _ cv mv lk c17))
