/-! ===== pairs over a plan: of, can, tell, open, goes, best ===== -/
def pB (SB Std S : Ob) (P : PlT) (T : TdT) (q : Nat) : Prop := okP P ∧ okT (qpN P) T ∧ cT Std T ∧ mT S T ∧ SB.1 4 = nI (qpN P) ∧ S.2 3 133 = nI (qpN P) ∧ SB.2 5 0 = nI q ∧ S.2 3 40 = nI q ∧ q ≤ 4
theorem s_seats {SB : Ob} {t : Int32} {Q : Int32 → Prop} : w_X6_seats SB t Q = Q (bI (decide (0 ≤ t) && decide (t < SB.2 5 0))) := by
  unfold w_X6_seats
  by_cases h1 : t < 0
  · have : ¬ 0 ≤ t := Int32.not_le.mpr h1
    simp [h1, this, bI]
  · have h1' : 0 ≤ t := Int32.not_lt.mp h1
    by_cases h2 : SB.2 5 0 ≤ t
    · have h3 : ¬ t < SB.2 5 0 := Int32.not_lt.mpr h2
      simp [h1, h1', h2, h3, bI]
    · simp [h1, h1', h2, Int32.not_le.mp h2, bI]
theorem isS_0 {n : Nat} {T : TdT} (ok : okT n T) {s : Nat} (h : isS n T s) : (nI s &&& (nI (quT n T) ^^^ (-1))) = 0 := by
  have := p10 ok.1
  have := h.1
  rw [sd_I, nI_z (Nat.lt_of_le_of_lt (sd_le _ _) (by omega)), sd_0 (by omega) ok.1 (tS_lt ok)]
  exact h
theorem any_1 {P : PlT} {l u : Nat} (hl : l < 5) : anyN P (2 ^ l) u = mayN P l u := by
  rw [Bool.eq_iff_iff, anyN_t]
  constructor
  · rintro ⟨k, hk, h1, h2⟩
    rw [hb_2, decide_eq_true_eq] at h1
    rw [← h1]; exact h2
  · intro h
    exact ⟨l, hl, by rw [hb_2]; exact decide_eq_true rfl, h⟩
theorem p32 {l : Nat} (hl : l < 5) : 2 ^ l < 32 ∧ 2 ^ l ≠ 0 := by
  have : l = 0 ∨ l = 1 ∨ l = 2 ∨ l = 3 ∨ l = 4 := by omega
  rcases this with rfl | rfl | rfl | rfl | rfl <;> decide
theorem eq_goes {aLw : Nat → Nat} {SLw : Lw} {SO SB SP SJ Std S : Ob} {Sls : Nat → Option Nat} {P : PlT} {T : TdT} {q : Nat} {x1 : Int32} {R : Int32 → Ob → Ob → Int32 → Ob → Prop} (hp : pB SB Std S P T q) (hW : rkP (w_X3_reckon aLw SP SJ SB Sls SLw) SP P) (hL : lkP S P) (hcv : cV SP P) (hmv : mV S P)
    (hR : ∀ r SP' SJ' S', cV SP' P → mV S' P → lkU S S' → SP'.1 17 = SP.1 17 → R r SP' SJ' r S') : w_X8_goes aLw SO SB Sls SP SJ Std SLw x1 (fun r SP' SJ' => wM_goes S x1 (fun r' S' => R r SP' SJ' r' S')) := by
  obtain ⟨okp, ok, hT, hmT, h4, hn, -, -, -⟩ := hp
  unfold w_X8_goes
  refine s_untold ok hT h4 ?_
  rcases set_cases ok x1 with ⟨s, hs, e, h1, h2, h3⟩ | ⟨h1, h2⟩
  · refine br_y h1 (hW _ (fun SP' SJ' cv cp cn c17 => s_lastYear ok hT (s_lastTeller ok hT ?_)))
    subst e
    refine s_fits cp hs.1 (cn s hs.1) (lT_5 ok) (lyC_C ok) (fun c => br_n (by decide) ?_) (fun c => br_y rfl ?_)
    · unfold wM_goes
      exact m_isSetN ok hmT hn hs.1 (fun _ => rb_n (by decide) (hL _ (fun S' lk mp nd mv => m_goesOn mp nd ok (mT_lk hmT lk) hs.1 (fun _ => br_n (by decide) (hR _ _ _ _ cv mv lk c17)) (fun q => absurd c q)))) (fun q => absurd hs.2 q)
    · unfold wM_goes
      exact m_isSetN ok hmT hn hs.1 (fun _ => rb_n (by decide) (hL _ (fun S' lk mp nd mv => m_goesOn mp nd ok (mT_lk hmT lk) hs.1 (fun q => absurd q c) (fun _ => br_y rfl (hR _ _ _ _ cv mv lk c17))))) (fun q => absurd hs.2 q)
  · refine br_n h1 ?_
    unfold wM_goes
    exact m_isSet ok hmT hn (fun s hs e => absurd (by rw [e]; exact isS_0 ok hs) h1) (fun _ => rb_y rfl (hR _ _ _ _ hcv hmv lkU.rf rfl))
theorem eq_goesN {SO SB SP SJ Std S : Ob} {Sls : Nat → Option Nat} {P : PlT} {T : TdT} {q : Nat} {x1 : Int32} {R : Int32 → Ob → Ob → Int32 → Ob → Prop} (hp : pB SB Std S P T q) (hW : rkP (w_X3_reckonN SP SJ SB Sls) SP P) (hL : lkP S P) (hcv : cV SP P) (hmv : mV S P)
    (hR : ∀ r SP' SJ' S', cV SP' P → mV S' P → lkU S S' → SP'.1 17 = SP.1 17 → R r SP' SJ' r S') : w_X8_goesN SO SB Sls SP SJ Std x1 (fun r SP' SJ' => wM_goes S x1 (fun r' S' => R r SP' SJ' r' S')) := by
  obtain ⟨okp, ok, hT, hmT, h4, hn, -, -, -⟩ := hp
  unfold w_X8_goesN
  refine s_untold ok hT h4 ?_
  rcases set_cases ok x1 with ⟨s, hs, e, h1, h2, h3⟩ | ⟨h1, h2⟩
  · refine br_y h1 (hW _ (fun SP' SJ' cv cp cn c17 => s_lastYear ok hT (s_lastTeller ok hT ?_)))
    subst e
    refine s_fits cp hs.1 (cn s hs.1) (lT_5 ok) (lyC_C ok) (fun c => br_n (by decide) ?_) (fun c => br_y rfl ?_)
    · unfold wM_goes
      exact m_isSetN ok hmT hn hs.1 (fun _ => rb_n (by decide) (hL _ (fun S' lk mp nd mv => m_goesOn mp nd ok (mT_lk hmT lk) hs.1 (fun _ => br_n (by decide) (hR _ _ _ _ cv mv lk c17)) (fun q => absurd c q)))) (fun q => absurd hs.2 q)
    · unfold wM_goes
      exact m_isSetN ok hmT hn hs.1 (fun _ => rb_n (by decide) (hL _ (fun S' lk mp nd mv => m_goesOn mp nd ok (mT_lk hmT lk) hs.1 (fun q => absurd q c) (fun _ => br_y rfl (hR _ _ _ _ cv mv lk c17))))) (fun q => absurd hs.2 q)
  · refine br_n h1 ?_
    unfold wM_goes
    exact m_isSet ok hmT hn (fun s hs e => absurd (by rw [e]; exact isS_0 ok hs) h1) (fun _ => rb_y rfl (hR _ _ _ _ hcv hmv lkU.rf rfl))
theorem eq_best {aLw : Nat → Nat} {SLw : Lw} {SO SB SP SJ Std S : Ob} {Sls : Nat → Option Nat} {P : PlT} {T : TdT} {q : Nat} {x1 x2 : Int32} {R : Int32 → Ob → Ob → Int32 → Ob → Prop} (hp : pB SB Std S P T q) (hW : rkP (w_X3_reckon aLw SP SJ SB Sls SLw) SP P) (hL : lkP S P) (hcv : cV SP P) (hmv : mV S P)
    (hR : ∀ r SP' SJ' S', cV SP' P → mV S' P → lkU S S' → SP'.1 17 = SP.1 17 → R r SP' SJ' r S') : w_X8_best aLw SO SB Sls SP SJ Std SLw x1 x2 (fun r SP' SJ' => wM_best S x1 x2 (fun r' S' => R r SP' SJ' r' S')) := by
  obtain ⟨okp, ok, hT, hmT, h4, hn, -, -, -⟩ := hp
  have hp10 := p10 ok.1
  unfold w_X8_best
  have bad : (decide (0 ≤ x1) && decide (x1 ≤ 1)) = false ∨ (decide (0 ≤ x2) && decide (x2 ≤ 3)) = false → wM_best S x1 x2 (fun r' S' => R (-1) SP SJ r' S') := by
    intro hb
    unfold wM_best
    rw [sM_lies]
    refine bi_b (fun _ => hR _ _ _ _ hcv hmv lkU.rf rfl) (fun c => ?_)
    rw [sM_lies]
    refine ib_b (fun _ => hR _ _ _ _ hcv hmv lkU.rf rfl) (fun c2 => ?_)
    rcases hb with hb | hb
    · rw [hb] at c; exact absurd c (by decide)
    · rw [hb] at c2; exact absurd c2 (by decide)
  refine ⟨fun c => bad (Or.inl (by rw [decide_eq_false (Int32.not_le.mpr c)]; rfl)), fun c => ⟨fun c2 => bad (Or.inl (by rw [decide_eq_false (Int32.not_le.mpr c2), Bool.and_false])), fun c2 => ⟨fun c3 => bad (Or.inr (by rw [decide_eq_false (Int32.not_le.mpr c3)]; rfl)), fun c3 => ⟨fun c4 => ?_, fun c4 => bad (Or.inr (by rw [decide_eq_false c4, Bool.and_false]))⟩⟩⟩⟩
  have hx1 : x1 = bI (decide (x1 = 1)) := by
    have q1 := Int32.le_iff_toInt_le.mp (Int32.not_lt.mp c)
    have q2 := Int32.le_iff_toInt_le.mp (Int32.not_lt.mp c2)
    have h0 : (0 : Int32).toInt = 0 := by decide
    have h1 : (1 : Int32).toInt = 1 := by decide
    by_cases e : x1 = 1
    · rw [decide_eq_true e, e]; rfl
    · rw [decide_eq_false e]
      have : x1.toInt ≠ 1 := fun q => e (Int32.toInt_inj.mp (by rw [q, h1]))
      exact Int32.toInt_inj.mp (by rw [show (bI false).toInt = 0 from by decide]; omega)
  have l1 : (decide (0 ≤ x1) && decide (x1 ≤ 1)) = true := by rw [decide_eq_true (Int32.not_lt.mp c), decide_eq_true (Int32.not_lt.mp c2)]; rfl
  have l2 : (decide (0 ≤ x2) && decide (x2 ≤ 3)) = true := by rw [decide_eq_true (Int32.not_lt.mp c3), decide_eq_true c4]; rfl
  refine hW _ (fun SP' SJ' cv cp cn c17 => jn_g (fun J => ∀ t, t = bI (decide (x1 = 1)) → J t) ?_ (fun J hJ => ⟨fun e => hJ _ (by rw [decide_eq_false e]; rfl), fun e => hJ _ (by rw [decide_eq_true e]; rfl)⟩))
  rintro t rfl
  refine s_choose cp cn ok hT (decide (x1 = 1)) (fun S6 ch k hS2 hS1 hb h15 h16 => ?_)
  have hch : ch < 1024 := by have := hb.1; omega
  have cp6 : cP S6 P := cP_same (ks := []) cp (hS1 6 (by decide) (by decide)) (hS1 7 (by decide) (by decide)) (fun k _ => by rw [hS2]) (by decide)
  have cv6 : cV S6 P := by
    refine ⟨fun _ => cp6, fun q => ⟨cp6, fun s hs => ?_⟩⟩
    unfold cR
    rw [hS2]
    exact cn s hs
  have c176 : S6.1 17 = SP.1 17 := (hS1 17 (by decide) (by decide)).trans c17
  have mod : ∀ r : Int32, ((x2 = 0 ∧ r = iZ (wsm P ch)) ∨ (x2 = 1 ∧ r = nI (pop ch)) ∨ (x2 = 2 ∧ r = nI ch) ∨ (¬ x2 = 0 ∧ ¬ x2 = 1 ∧ ¬ x2 = 2 ∧ r = nI k)) → wM_best S x1 x2 (fun r' S' => R r S6 SJ' r' S') := by
    intro r hr
    unfold wM_best
    rw [sM_lies, l1]
    refine bi_b (fun q => absurd q (by decide)) (fun _ => ?_)
    rw [sM_lies, l2]
    refine ib_b (fun q => absurd q (by decide)) (fun _ => hL _ (fun S' lk mp nd mv => m_bestSet mp nd ok (mT_lk hmT lk) (decide (x1 = 1)) hx1 (fun S8 c' k' a1 a2 a3 a4 => ?_)))
    obtain ⟨e1, e2⟩ := bst_one a3 hb
    subst e1 e2
    have mp8 : mP S8 P := by unfold mP; rw [a1]; exact mp
    have lk8 : lkU S S8 := by
      refine ⟨⟨fun j hj => (a2 j (fun e => hj (by rw [e]; decide))).trans (lk.1.1 j hj), by rw [a2 29 (by decide)]; exact lk.1.2⟩, fun j hj => ?_⟩
      rw [a1]; exact lk.2 j hj
    have mv8 : mV S8 P := fun _ => ⟨mp8, by unfold ndM; rw [a1]; exact nd⟩
    have fin : ∀ r', r = r' → R r S6 SJ' r' S8 := fun r' e => by rw [← e]; exact hR _ _ _ _ cv6 mv8 lk8 c176
    refine ⟨fun q0 => ⟨fun q1 => ⟨fun q2 => fin _ ?_, fun q2 => fin _ ?_⟩, fun q1 => sM_ones (by omega) (fin _ ?_)⟩, fun q0 => m_worthOf mp8 (by omega) (fin _ ?_)⟩
    · rcases hr with h | h | h | h
      · exact absurd h.1 q0
      · exact absurd h.1 q1
      · exact absurd h.1 q2
      · rw [h.2.2.2, a4]
    · rcases hr with h | h | h | h
      · exact absurd h.1 q0
      · exact absurd h.1 q1
      · exact h.2
      · exact absurd q2 h.2.2.1
    · rcases hr with h | h | h | h
      · exact absurd h.1 q0
      · exact h.2
      · rw [h.1] at q1; exact absurd q1 (by decide)
      · exact absurd q1 h.2.1
    · rcases hr with h | h | h | h
      · exact h.2
      · rw [h.1] at q0; exact absurd q0 (by decide)
      · rw [h.1] at q0; exact absurd q0 (by decide)
      · exact absurd q0 h.1
  rw [h15, h16]
  refine ⟨fun q0 => ⟨fun q1 => ⟨fun q2 => mod _ (Or.inr (Or.inr (Or.inr ⟨q0, q1, q2, rfl⟩))), fun q2 => mod _ (Or.inr (Or.inr (Or.inl ⟨q2, rfl⟩)))⟩, fun q1 => s_bitCount hch (mod _ (Or.inr (Or.inl ⟨q1, rfl⟩)))⟩, fun q0 => ⟨vp_in_nI hch (by decide), ?_⟩⟩
  rw [nI_clamp (by omega), hS2, (cn ch hb.1).1]
  exact mod _ (Or.inl ⟨q0, rfl⟩)
theorem eq_bestN {SO SB SP SJ Std S : Ob} {Sls : Nat → Option Nat} {P : PlT} {T : TdT} {q : Nat} {x1 x2 : Int32} {R : Int32 → Ob → Ob → Int32 → Ob → Prop} (hp : pB SB Std S P T q) (hW : rkP (w_X3_reckonN SP SJ SB Sls) SP P) (hL : lkP S P) (hcv : cV SP P) (hmv : mV S P)
    (hR : ∀ r SP' SJ' S', cV SP' P → mV S' P → lkU S S' → SP'.1 17 = SP.1 17 → R r SP' SJ' r S') : w_X8_bestN SO SB Sls SP SJ Std x1 x2 (fun r SP' SJ' => wM_best S x1 x2 (fun r' S' => R r SP' SJ' r' S')) := by
  obtain ⟨okp, ok, hT, hmT, h4, hn, -, -, -⟩ := hp
  have hp10 := p10 ok.1
  unfold w_X8_bestN
  have bad : (decide (0 ≤ x1) && decide (x1 ≤ 1)) = false ∨ (decide (0 ≤ x2) && decide (x2 ≤ 3)) = false → wM_best S x1 x2 (fun r' S' => R (-1) SP SJ r' S') := by
    intro hb
    unfold wM_best
    rw [sM_lies]
    refine bi_b (fun _ => hR _ _ _ _ hcv hmv lkU.rf rfl) (fun c => ?_)
    rw [sM_lies]
    refine ib_b (fun _ => hR _ _ _ _ hcv hmv lkU.rf rfl) (fun c2 => ?_)
    rcases hb with hb | hb
    · rw [hb] at c; exact absurd c (by decide)
    · rw [hb] at c2; exact absurd c2 (by decide)
  refine ⟨fun c => bad (Or.inl (by rw [decide_eq_false (Int32.not_le.mpr c)]; rfl)), fun c => ⟨fun c2 => bad (Or.inl (by rw [decide_eq_false (Int32.not_le.mpr c2), Bool.and_false])), fun c2 => ⟨fun c3 => bad (Or.inr (by rw [decide_eq_false (Int32.not_le.mpr c3)]; rfl)), fun c3 => ⟨fun c4 => ?_, fun c4 => bad (Or.inr (by rw [decide_eq_false c4, Bool.and_false]))⟩⟩⟩⟩
  have hx1 : x1 = bI (decide (x1 = 1)) := by
    have q1 := Int32.le_iff_toInt_le.mp (Int32.not_lt.mp c)
    have q2 := Int32.le_iff_toInt_le.mp (Int32.not_lt.mp c2)
    have h0 : (0 : Int32).toInt = 0 := by decide
    have h1 : (1 : Int32).toInt = 1 := by decide
    by_cases e : x1 = 1
    · rw [decide_eq_true e, e]; rfl
    · rw [decide_eq_false e]
      have : x1.toInt ≠ 1 := fun q => e (Int32.toInt_inj.mp (by rw [q, h1]))
      exact Int32.toInt_inj.mp (by rw [show (bI false).toInt = 0 from by decide]; omega)
  have l1 : (decide (0 ≤ x1) && decide (x1 ≤ 1)) = true := by rw [decide_eq_true (Int32.not_lt.mp c), decide_eq_true (Int32.not_lt.mp c2)]; rfl
  have l2 : (decide (0 ≤ x2) && decide (x2 ≤ 3)) = true := by rw [decide_eq_true (Int32.not_lt.mp c3), decide_eq_true c4]; rfl
  refine hW _ (fun SP' SJ' cv cp cn c17 => jn_g (fun J => ∀ t, t = bI (decide (x1 = 1)) → J t) ?_ (fun J hJ => ⟨fun e => hJ _ (by rw [decide_eq_false e]; rfl), fun e => hJ _ (by rw [decide_eq_true e]; rfl)⟩))
  rintro t rfl
  refine s_choose cp cn ok hT (decide (x1 = 1)) (fun S6 ch k hS2 hS1 hb h15 h16 => ?_)
  have hch : ch < 1024 := by have := hb.1; omega
  have cp6 : cP S6 P := cP_same (ks := []) cp (hS1 6 (by decide) (by decide)) (hS1 7 (by decide) (by decide)) (fun k _ => by rw [hS2]) (by decide)
  have cv6 : cV S6 P := by
    refine ⟨fun _ => cp6, fun q => ⟨cp6, fun s hs => ?_⟩⟩
    unfold cR
    rw [hS2]
    exact cn s hs
  have c176 : S6.1 17 = SP.1 17 := (hS1 17 (by decide) (by decide)).trans c17
  have mod : ∀ r : Int32, ((x2 = 0 ∧ r = iZ (wsm P ch)) ∨ (x2 = 1 ∧ r = nI (pop ch)) ∨ (x2 = 2 ∧ r = nI ch) ∨ (¬ x2 = 0 ∧ ¬ x2 = 1 ∧ ¬ x2 = 2 ∧ r = nI k)) → wM_best S x1 x2 (fun r' S' => R r S6 SJ' r' S') := by
    intro r hr
    unfold wM_best
    rw [sM_lies, l1]
    refine bi_b (fun q => absurd q (by decide)) (fun _ => ?_)
    rw [sM_lies, l2]
    refine ib_b (fun q => absurd q (by decide)) (fun _ => hL _ (fun S' lk mp nd mv => m_bestSet mp nd ok (mT_lk hmT lk) (decide (x1 = 1)) hx1 (fun S8 c' k' a1 a2 a3 a4 => ?_)))
    obtain ⟨e1, e2⟩ := bst_one a3 hb
    subst e1 e2
    have mp8 : mP S8 P := by unfold mP; rw [a1]; exact mp
    have lk8 : lkU S S8 := by
      refine ⟨⟨fun j hj => (a2 j (fun e => hj (by rw [e]; decide))).trans (lk.1.1 j hj), by rw [a2 29 (by decide)]; exact lk.1.2⟩, fun j hj => ?_⟩
      rw [a1]; exact lk.2 j hj
    have mv8 : mV S8 P := fun _ => ⟨mp8, by unfold ndM; rw [a1]; exact nd⟩
    have fin : ∀ r', r = r' → R r S6 SJ' r' S8 := fun r' e => by rw [← e]; exact hR _ _ _ _ cv6 mv8 lk8 c176
    refine ⟨fun q0 => ⟨fun q1 => ⟨fun q2 => fin _ ?_, fun q2 => fin _ ?_⟩, fun q1 => sM_ones (by omega) (fin _ ?_)⟩, fun q0 => m_worthOf mp8 (by omega) (fin _ ?_)⟩
    · rcases hr with h | h | h | h
      · exact absurd h.1 q0
      · exact absurd h.1 q1
      · exact absurd h.1 q2
      · rw [h.2.2.2, a4]
    · rcases hr with h | h | h | h
      · exact absurd h.1 q0
      · exact absurd h.1 q1
      · exact h.2
      · exact absurd q2 h.2.2.1
    · rcases hr with h | h | h | h
      · exact absurd h.1 q0
      · exact h.2
      · rw [h.1] at q1; exact absurd q1 (by decide)
      · exact absurd q1 h.2.1
    · rcases hr with h | h | h | h
      · exact h.2
      · rw [h.1] at q0; exact absurd q0 (by decide)
      · rw [h.1] at q0; exact absurd q0 (by decide)
      · exact absurd q0 h.1
  rw [h15, h16]
  refine ⟨fun q0 => ⟨fun q1 => ⟨fun q2 => mod _ (Or.inr (Or.inr (Or.inr ⟨q0, q1, q2, rfl⟩))), fun q2 => mod _ (Or.inr (Or.inr (Or.inl ⟨q2, rfl⟩)))⟩, fun q1 => s_bitCount hch (mod _ (Or.inr (Or.inl ⟨q1, rfl⟩)))⟩, fun q0 => ⟨vp_in_nI hch (by decide), ?_⟩⟩
  rw [nI_clamp (by omega), hS2, (cn ch hb.1).1]
  exact mod _ (Or.inl ⟨q0, rfl⟩)
