/-! ===== pairs over a plan: of, can, tell, open ===== -/
theorem s_column {aB : Nat → Nat} {SB : Ob} {k : Nat} (hk : k < 4) {Q : Option Nat → Prop} (hq : Q (some (aB (k + 1)))) : w_X6_column aB SB (nI k) Q := by
  unfold w_X6_column
  have : k = 0 ∨ k = 1 ∨ k = 2 ∨ k = 3 := by omega
  rcases this with rfl | rfl | rfl | rfl
  · exact rb_y rfl hq
  · exact rb_n (by decide) (rb_y rfl hq)
  · exact rb_n (by decide) (rb_n (by decide) (rb_y rfl hq))
  · exact rb_n (by decide) (rb_n (by decide) (rb_n (by decide) hq))
theorem col4 {aB : Nat → Nat} (hd : ∀ i j, 1 ≤ i → i ≤ 4 → 1 ≤ j → j ≤ 4 → aB i = aB j → i = j) {A : Nat → Prop} {k : Nat} (hk : k < 4) (h : A k) : (some (aB (k + 1)) = some (aB 1) ∨ some (aB (k + 1)) = some (aB 2) ∨ some (aB (k + 1)) = some (aB 3) ∨ some (aB (k + 1)) = some (aB 4)) ∧ ((some (aB (k + 1)) = some (aB 1) → A 0) ∧ (some (aB (k + 1)) = some (aB 2) → A 1) ∧ (some (aB (k + 1)) = some (aB 3) → A 2) ∧ (some (aB (k + 1)) = some (aB 4) → A 3)) := by
  have hi : ∀ j, 1 ≤ j → j ≤ 4 → some (aB (k + 1)) = some (aB j) → k + 1 = j := fun j h1 h2 e => hd _ _ (by omega) (by omega) h1 h2 (Option.some.inj e)
  refine ⟨?_, fun e => ?_, fun e => ?_, fun e => ?_, fun e => ?_⟩
  · have : k = 0 ∨ k = 1 ∨ k = 2 ∨ k = 3 := by omega
    rcases this with rfl | rfl | rfl | rfl
    · exact Or.inl rfl
    · exact Or.inr (Or.inl rfl)
    · exact Or.inr (Or.inr (Or.inl rfl))
    · exact Or.inr (Or.inr (Or.inr rfl))
  · have := hi 1 (by decide) (by decide) e
    rw [show (0 : Nat) = k by omega]; exact h
  · have := hi 2 (by decide) (by decide) e
    rw [show (1 : Nat) = k by omega]; exact h
  · have := hi 3 (by decide) (by decide) e
    rw [show (2 : Nat) = k by omega]; exact h
  · have := hi 4 (by decide) (by decide) e
    rw [show (3 : Nat) = k by omega]; exact h
theorem e65_ : nI 6 - 1 = (5 : Int32) := by decide
theorem eq_of {aB : Nat → Nat} {aLw : Nat → Nat} {SLw : Lw} {SO SB SP SJ Std S : Ob} {Sls : Nat → Option Nat} {P : PlT} {T : TdT} {q : Nat} {x1 x2 : Int32} {R : Int32 → Ob → Ob → Int32 → Ob → Prop} (hd : ∀ i j, 1 ≤ i → i ≤ 4 → 1 ≤ j → j ≤ 4 → aB i = aB j → i = j) (hp : pB SB Std S P T q) (hf : ∀ t, t < qpN P → ∀ k, k < 4 → SB.2 k t = S.2 3 (4 * t + k)) (hW : wkP (w_X3_weigh aLw SP SJ SB Sls SLw) SP P) (hL : lkP S P) (hcv : cV SP P) (hmv : mV S P)
    (hR : ∀ r SP' SJ' S', cV SP' P → mV S' P → lkU S S' → SP'.1 17 = SP.1 17 → R r SP' SJ' r S') : w_X8_of aB aLw SO SB Sls SP SJ SLw x1 x2 (fun r SP' SJ' => wM_of S x1 x2 (fun r' S' => R r SP' SJ' r' S')) := by
  obtain ⟨okp, ok, hT, hmT, h4, hn, -, -, -⟩ := hp
  have h10 := ok.1
  unfold w_X8_of
  have bad : (decide (0 ≤ x1) && decide (x1 ≤ nI (qpN P) - 1)) = false ∨ (decide (0 ≤ x2) && decide (x2 ≤ 5)) = false → wM_of S x1 x2 (fun r' S' => R (-1) SP SJ r' S') := by
    intro hb
    unfold wM_of
    rw [sM_isTale, hn]
    refine bi_b (fun _ => hR _ _ _ _ hcv hmv lkU.rf rfl) (fun c => ?_)
    rw [sM_lies]
    refine ib_b (fun _ => hR _ _ _ _ hcv hmv lkU.rf rfl) (fun c2 => ?_)
    rcases hb with hb | hb
    · rw [hb] at c; exact absurd c (by decide)
    · rw [hb] at c2; exact absurd c2 (by decide)
  rw [s_has, h4]
  rcases is_tale x1 h10 with ⟨t, ht, rfl, e1, e2⟩ | ⟨e1, e2⟩
  · rw [e1]
    refine bi_b (fun q => absurd q (by decide)) (fun _ => ?_)
    rcases is_tale x2 (n := 6) (by decide) with ⟨k, hk, rfl, f1, f2⟩ | ⟨f1, f2⟩
    · rw [e65_] at f2
      have hv : vp_in (nI t) 10 := vp_in_nI (by omega) (by decide)
      refine br_n (nI_pos (by omega)) (le_b k 5 (by omega) (by decide) (fun _ => le_b 4 k (by decide) (by omega) (fun c4 => hW _ (fun SP' SJ' cv cp c17 => ?_)) (fun c4 => s_column c4 ?_)) (fun q => absurd q (by omega)))
      · have mod : ∀ r : Int32, (k = 4 ∧ r = iZ (qpW P t)) ∨ (k = 5 ∧ r = iZ (qpG P t)) → wM_of S (nI t) (nI k) (fun r' S' => R r SP' SJ' r' S') := by
          intro r hr
          unfold wM_of
          rw [sM_isTale, hn, e2]
          refine bi_b (fun q => absurd q (by decide)) (fun _ => ?_)
          rw [sM_lies, f2]
          refine ib_b (fun q => absurd q (by decide)) (fun _ => le_b 4 k (by decide) (by omega) (fun _ => hL _ (fun S' lk mp nd mv => ?_)) (fun q => absurd q (by omega)))
          rw [nI_clamp (by omega), (mp.2.2.2 t ht).2.2.1, (mp.2.2.2 t ht).2.2.2.1]
          rcases hr with ⟨rfl, rfl⟩ | ⟨rfl, rfl⟩
          · exact rb_y rfl ⟨hv, hR _ _ _ _ cv mv lk c17⟩
          · exact rb_n (by decide) ⟨hv, hR _ _ _ _ cv mv lk c17⟩
        rw [nI_clamp (by omega), (cp.2.2.2 t ht).2.2.1, (cp.2.2.2 t ht).2.2.2.1]
        have : k = 4 ∨ k = 5 := by omega
        rcases this with rfl | rfl
        · exact rb_y rfl ⟨hv, mod _ (Or.inl ⟨rfl, rfl⟩)⟩
        · exact rb_n (by decide) ⟨hv, mod _ (Or.inr ⟨rfl, rfl⟩)⟩
      · rw [nI_clamp (by omega)]
        refine col4 hd (A := fun k' => vp_in (nI t) 10 ∧ wM_of S (nI t) (nI k) (fun r' S' => R (SB.2 k' t) SP SJ r' S')) c4 ⟨hv, ?_⟩
        rw [hf t ht k c4]
        unfold wM_of
        rw [sM_isTale, hn, e2]
        refine bi_b (fun q => absurd q (by decide)) (fun _ => ?_)
        rw [sM_lies, f2]
        refine ib_b (fun q => absurd q (by decide)) (fun _ => le_b 4 k (by decide) (by omega) (fun q => absurd q (by omega)) (fun _ => ?_))
        rw [sM_factOf (by omega)]
        exact hR _ _ _ _ hcv hmv lkU.rf rfl
    · rw [e65_] at f2
      refine ⟨fun _ => bad (Or.inr f2), fun q => ⟨fun q2 => ?_, fun _ => bad (Or.inr f2)⟩⟩
      rw [decide_eq_true (Int32.not_lt.mp q), decide_eq_true q2] at f2
      exact absurd f2 (by decide)
  · rw [e1]
    exact bi_b (fun _ => bad (Or.inl e2)) (fun q => absurd q (by decide))
theorem eq_ofN {aB : Nat → Nat} {SO SB SP SJ Std S : Ob} {Sls : Nat → Option Nat} {P : PlT} {T : TdT} {q : Nat} {x1 x2 : Int32} {R : Int32 → Ob → Ob → Int32 → Ob → Prop} (hd : ∀ i j, 1 ≤ i → i ≤ 4 → 1 ≤ j → j ≤ 4 → aB i = aB j → i = j) (hp : pB SB Std S P T q) (hf : ∀ t, t < qpN P → ∀ k, k < 4 → SB.2 k t = S.2 3 (4 * t + k)) (hW : wkP (w_X3_weighN SP SJ SB Sls) SP P) (hL : lkP S P) (hcv : cV SP P) (hmv : mV S P)
    (hR : ∀ r SP' SJ' S', cV SP' P → mV S' P → lkU S S' → SP'.1 17 = SP.1 17 → R r SP' SJ' r S') : w_X8_ofN aB SO SB Sls SP SJ x1 x2 (fun r SP' SJ' => wM_of S x1 x2 (fun r' S' => R r SP' SJ' r' S')) := by
  obtain ⟨okp, ok, hT, hmT, h4, hn, -, -, -⟩ := hp
  have h10 := ok.1
  unfold w_X8_ofN
  have bad : (decide (0 ≤ x1) && decide (x1 ≤ nI (qpN P) - 1)) = false ∨ (decide (0 ≤ x2) && decide (x2 ≤ 5)) = false → wM_of S x1 x2 (fun r' S' => R (-1) SP SJ r' S') := by
    intro hb
    unfold wM_of
    rw [sM_isTale, hn]
    refine bi_b (fun _ => hR _ _ _ _ hcv hmv lkU.rf rfl) (fun c => ?_)
    rw [sM_lies]
    refine ib_b (fun _ => hR _ _ _ _ hcv hmv lkU.rf rfl) (fun c2 => ?_)
    rcases hb with hb | hb
    · rw [hb] at c; exact absurd c (by decide)
    · rw [hb] at c2; exact absurd c2 (by decide)
  rw [s_has, h4]
  rcases is_tale x1 h10 with ⟨t, ht, rfl, e1, e2⟩ | ⟨e1, e2⟩
  · rw [e1]
    refine bi_b (fun q => absurd q (by decide)) (fun _ => ?_)
    rcases is_tale x2 (n := 6) (by decide) with ⟨k, hk, rfl, f1, f2⟩ | ⟨f1, f2⟩
    · rw [e65_] at f2
      have hv : vp_in (nI t) 10 := vp_in_nI (by omega) (by decide)
      refine br_n (nI_pos (by omega)) (le_b k 5 (by omega) (by decide) (fun _ => le_b 4 k (by decide) (by omega) (fun c4 => hW _ (fun SP' SJ' cv cp c17 => ?_)) (fun c4 => s_column c4 ?_)) (fun q => absurd q (by omega)))
      · have mod : ∀ r : Int32, (k = 4 ∧ r = iZ (qpW P t)) ∨ (k = 5 ∧ r = iZ (qpG P t)) → wM_of S (nI t) (nI k) (fun r' S' => R r SP' SJ' r' S') := by
          intro r hr
          unfold wM_of
          rw [sM_isTale, hn, e2]
          refine bi_b (fun q => absurd q (by decide)) (fun _ => ?_)
          rw [sM_lies, f2]
          refine ib_b (fun q => absurd q (by decide)) (fun _ => le_b 4 k (by decide) (by omega) (fun _ => hL _ (fun S' lk mp nd mv => ?_)) (fun q => absurd q (by omega)))
          rw [nI_clamp (by omega), (mp.2.2.2 t ht).2.2.1, (mp.2.2.2 t ht).2.2.2.1]
          rcases hr with ⟨rfl, rfl⟩ | ⟨rfl, rfl⟩
          · exact rb_y rfl ⟨hv, hR _ _ _ _ cv mv lk c17⟩
          · exact rb_n (by decide) ⟨hv, hR _ _ _ _ cv mv lk c17⟩
        rw [nI_clamp (by omega), (cp.2.2.2 t ht).2.2.1, (cp.2.2.2 t ht).2.2.2.1]
        have : k = 4 ∨ k = 5 := by omega
        rcases this with rfl | rfl
        · exact rb_y rfl ⟨hv, mod _ (Or.inl ⟨rfl, rfl⟩)⟩
        · exact rb_n (by decide) ⟨hv, mod _ (Or.inr ⟨rfl, rfl⟩)⟩
      · rw [nI_clamp (by omega)]
        refine col4 hd (A := fun k' => vp_in (nI t) 10 ∧ wM_of S (nI t) (nI k) (fun r' S' => R (SB.2 k' t) SP SJ r' S')) c4 ⟨hv, ?_⟩
        rw [hf t ht k c4]
        unfold wM_of
        rw [sM_isTale, hn, e2]
        refine bi_b (fun q => absurd q (by decide)) (fun _ => ?_)
        rw [sM_lies, f2]
        refine ib_b (fun q => absurd q (by decide)) (fun _ => le_b 4 k (by decide) (by omega) (fun q => absurd q (by omega)) (fun _ => ?_))
        rw [sM_factOf (by omega)]
        exact hR _ _ _ _ hcv hmv lkU.rf rfl
    · rw [e65_] at f2
      refine ⟨fun _ => bad (Or.inr f2), fun q => ⟨fun q2 => ?_, fun _ => bad (Or.inr f2)⟩⟩
      rw [decide_eq_true (Int32.not_lt.mp q), decide_eq_true q2] at f2
      exact absurd f2 (by decide)
  · rw [e1]
    exact bi_b (fun _ => bad (Or.inl e2)) (fun q => absurd q (by decide))
theorem eq_can {aLw : Nat → Nat} {SLw : Lw} {SO SB SP SJ Std S : Ob} {Sls : Nat → Option Nat} {P : PlT} {T : TdT} {q : Nat} {x1 x2 : Int32} {R : Int32 → Ob → Ob → Int32 → Ob → Prop} (hp : pB SB Std S P T q) (hW : wkP (w_X3_weigh aLw SP SJ SB Sls SLw) SP P) (hL : lkP S P) (hcv : cV SP P) (hmv : mV S P)
    (hR : ∀ r SP' SJ' S', cV SP' P → mV S' P → lkU S S' → SP'.1 17 = SP.1 17 → R r SP' SJ' r S') : w_X8_can aLw SO SB Sls SP SJ SLw x1 x2 (fun r SP' SJ' => wM_can S x1 x2 (fun r' S' => R r SP' SJ' r' S')) := by
  obtain ⟨okp, ok, hT, hmT, h4, hn, h5, h40, hq⟩ := hp
  have h10 := ok.1
  unfold w_X8_can
  have bad : (decide (0 ≤ x1) && decide (x1 ≤ nI (qpN P) - 1)) = false ∨ (decide (0 ≤ x2) && decide (x2 ≤ nI q - 1)) = false → wM_can S x1 x2 (fun r' S' => R (-1) SP SJ r' S') := by
    intro hb
    unfold wM_can
    rw [sM_isTale, hn]
    refine bi_b (fun _ => hR _ _ _ _ hcv hmv lkU.rf rfl) (fun c => ?_)
    rw [sM_isTeller, h40]
    refine ib_b (fun _ => hR _ _ _ _ hcv hmv lkU.rf rfl) (fun c2 => ?_)
    rcases hb with hb | hb
    · rw [hb] at c; exact absurd c (by decide)
    · rw [hb] at c2; exact absurd c2 (by decide)
  rw [s_has, h4]
  rcases is_tale x1 h10 with ⟨t, ht, rfl, e1, e2⟩ | ⟨e1, e2⟩
  · rw [e1]
    refine bi_b (fun q => absurd q (by decide)) (fun _ => ?_)
    rw [s_seats, h5]
    rcases is_tale x2 (n := q) (by omega) with ⟨u, hu, rfl, f1, f2⟩ | ⟨f1, f2⟩
    · have hv : vp_in (nI t) 10 := vp_in_nI (by omega) (by decide)
      have hA : qpA P t < 16 := (okp.2 t ht).2.2.2.2.2.2.2
      rw [f1]
      refine ib_b (fun q => absurd q (by decide)) (fun _ => hW _ (fun SP' SJ' cv cp c17 => ⟨hv, ?_⟩))
      rw [nI_clamp (by omega), (cp.2.2.2 t ht).2.2.2.2, bit_n (by omega) (by omega)]
      show wM_can _ _ _ _
      unfold wM_can
      rw [sM_isTale, hn, e2]
      refine bi_b (fun q => absurd q (by decide)) (fun _ => ?_)
      rw [sM_isTeller, h40, f2]
      refine ib_b (fun q => absurd q (by decide)) (fun _ => hL _ (fun S' lk mp nd mv => ⟨hv, ?_⟩))
      rw [nI_clamp (by omega), (mp.2.2.2 t ht).2.2.2.2, sM_isInB (by omega) (by omega)]
      refine bi_b (fun q => ?_) (fun q => ?_)
      · rw [hb, decide_eq_false_iff_not] at q
        rw [show qpA P t / 2 ^ u % 2 = 0 by omega]
        exact hR _ _ _ _ cv mv lk c17
      · rw [hb, decide_eq_true_eq] at q
        rw [q]
        exact hR _ _ _ _ cv mv lk c17
    · rw [f1]
      exact ib_b (fun _ => bad (Or.inr f2)) (fun q => absurd q (by decide))
  · rw [e1]
    exact bi_b (fun _ => bad (Or.inl e2)) (fun q => absurd q (by decide))
theorem eq_canN {SO SB SP SJ Std S : Ob} {Sls : Nat → Option Nat} {P : PlT} {T : TdT} {q : Nat} {x1 x2 : Int32} {R : Int32 → Ob → Ob → Int32 → Ob → Prop} (hp : pB SB Std S P T q) (hW : wkP (w_X3_weighN SP SJ SB Sls) SP P) (hL : lkP S P) (hcv : cV SP P) (hmv : mV S P)
    (hR : ∀ r SP' SJ' S', cV SP' P → mV S' P → lkU S S' → SP'.1 17 = SP.1 17 → R r SP' SJ' r S') : w_X8_canN SO SB Sls SP SJ x1 x2 (fun r SP' SJ' => wM_can S x1 x2 (fun r' S' => R r SP' SJ' r' S')) := by
  obtain ⟨okp, ok, hT, hmT, h4, hn, h5, h40, hq⟩ := hp
  have h10 := ok.1
  unfold w_X8_canN
  have bad : (decide (0 ≤ x1) && decide (x1 ≤ nI (qpN P) - 1)) = false ∨ (decide (0 ≤ x2) && decide (x2 ≤ nI q - 1)) = false → wM_can S x1 x2 (fun r' S' => R (-1) SP SJ r' S') := by
    intro hb
    unfold wM_can
    rw [sM_isTale, hn]
    refine bi_b (fun _ => hR _ _ _ _ hcv hmv lkU.rf rfl) (fun c => ?_)
    rw [sM_isTeller, h40]
    refine ib_b (fun _ => hR _ _ _ _ hcv hmv lkU.rf rfl) (fun c2 => ?_)
    rcases hb with hb | hb
    · rw [hb] at c; exact absurd c (by decide)
    · rw [hb] at c2; exact absurd c2 (by decide)
  rw [s_has, h4]
  rcases is_tale x1 h10 with ⟨t, ht, rfl, e1, e2⟩ | ⟨e1, e2⟩
  · rw [e1]
    refine bi_b (fun q => absurd q (by decide)) (fun _ => ?_)
    rw [s_seats, h5]
    rcases is_tale x2 (n := q) (by omega) with ⟨u, hu, rfl, f1, f2⟩ | ⟨f1, f2⟩
    · have hv : vp_in (nI t) 10 := vp_in_nI (by omega) (by decide)
      have hA : qpA P t < 16 := (okp.2 t ht).2.2.2.2.2.2.2
      rw [f1]
      refine ib_b (fun q => absurd q (by decide)) (fun _ => hW _ (fun SP' SJ' cv cp c17 => ⟨hv, ?_⟩))
      rw [nI_clamp (by omega), (cp.2.2.2 t ht).2.2.2.2, bit_n (by omega) (by omega)]
      show wM_can _ _ _ _
      unfold wM_can
      rw [sM_isTale, hn, e2]
      refine bi_b (fun q => absurd q (by decide)) (fun _ => ?_)
      rw [sM_isTeller, h40, f2]
      refine ib_b (fun q => absurd q (by decide)) (fun _ => hL _ (fun S' lk mp nd mv => ⟨hv, ?_⟩))
      rw [nI_clamp (by omega), (mp.2.2.2 t ht).2.2.2.2, sM_isInB (by omega) (by omega)]
      refine bi_b (fun q => ?_) (fun q => ?_)
      · rw [hb, decide_eq_false_iff_not] at q
        rw [show qpA P t / 2 ^ u % 2 = 0 by omega]
        exact hR _ _ _ _ cv mv lk c17
      · rw [hb, decide_eq_true_eq] at q
        rw [q]
        exact hR _ _ _ _ cv mv lk c17
    · rw [f1]
      exact ib_b (fun _ => bad (Or.inr f2)) (fun q => absurd q (by decide))
  · rw [e1]
    exact bi_b (fun _ => bad (Or.inl e2)) (fun q => absurd q (by decide))
set_option maxHeartbeats 1000000 in
theorem eq_tell {aLw : Nat → Nat} {SLw : Lw} {SO SB SP SJ Std S : Ob} {Sls : Nat → Option Nat} {P : PlT} {T : TdT} {q : Nat} {x1 x2 : Int32} {R : Int32 → Ob → Ob → Ob → Ob → Int32 → Ob → Prop} (hp : pB SB Std S P T q) (hW : wkP (w_X3_weigh aLw SP SJ SB Sls SLw) SP P) (hL : lkP S P)
    (hR1 : ∀ k, 1 ≤ k → k ≤ 2 → R (-nI k) (refC SO k) SP SJ Std (-nI k) (refM S k))
    (hR3 : ∀ SP' SJ' S', cV SP' P → mV S' P → lkU S S' → SP'.1 17 = SP.1 17 → R (-nI 3) (refC SO 3) SP' SJ' Std (-nI 3) (refM S' 3))
    (hR : ∀ SP' SJ' S' t u y, cV SP' P → mV S' P → lkU S S' → SP'.1 17 = SP.1 17 → t < qpN P → u < 4 → 0 ≤ y → y ≤ 2000 → hb (qtS T) t = false → qtM T < qpN P → R (iZ y) (uS SO 16 0) SP' SJ' (add3 Std (qtM T) (nI t) (iZ y) (nI u)) (iZ y) (goodM (addK S' 43 134 (qtM T) (nI t) (iZ y) (nI u)))) : w_X8_tell aLw SO SB Sls SP SJ Std SLw x1 x2 (fun r SO' SP' SJ' Std' => wM_tell S x1 x2 (fun r' S' => R r SO' SP' SJ' Std' r' S')) := by
  obtain ⟨okp, ok, hT, hmT, h4, hn, h5, h40, hq⟩ := hp
  have h10 := ok.1
  have hm := okT_m ok
  have hTS := tS_1024 ok
  have hl5 := lT_5 ok
  unfold w_X8_tell
  rw [s_seats, h5]
  rcases is_tale x2 (n := q) (by omega) with ⟨u, hu, rfl, f1, f2⟩ | ⟨f1, f2⟩
  · rw [f1]
    refine ib_b (fun q => absurd q (by decide)) (fun _ => ?_)
    rw [s_has, h4]
    rcases is_tale x1 h10 with ⟨t, ht, rfl, e1, e2⟩ | ⟨e1, e2⟩
    · rw [e1]
      have hA : qpA P t < 16 := (okp.2 t ht).2.2.2.2.2.2.2
      obtain ⟨y1, y2⟩ := ly_y okp ht T
      have hfl := flw_hb okp ht (p32 hl5).1 (p32 hl5).2 (show u < 4 by omega)
      rw [any_1 hl5] at hfl
      have hfl16 := flw_lt okp ht (2 ^ qlT T)
      refine ib_b (fun q => absurd q (by decide)) (fun _ => hW _ (fun SP' SJ' cv cp c17 => s_lastYear ok hT (s_yearOf cp ht (lyC_R ok) (s_lastTeller ok hT ?_))))
      rw [shl_1 (by omega)]
      refine s_followers cp ht (by have := (p32 hl5).1; omega) (s_toldSet ok hT ?_)
      have mod : ∀ (r : Int32) (SO' Std' : Ob), (cN P t u (qtS T) (lyM T) (qlT T) = false → ∀ S', mV S' P → lkU S S' → R r SO' SP' SJ' Std' (-nI 3) (refM S' 3)) → (cN P t u (qtS T) (lyM T) (qlT T) = true → qtM T < qpN P → ∀ S', mV S' P → lkU S S' → R r SO' SP' SJ' Std' (iZ (yB P t (lyM T))) (goodM (addK S' 43 134 (qtM T) (nI t) (iZ (yB P t (lyM T))) (nI u)))) → wM_tell S (nI t) (nI u) (fun r' S' => R r SO' SP' SJ' Std' r' S') := by
        intro r SO' Std' g1 g2
        unfold wM_tell
        rw [sM_isTeller, h40, f2]
        refine ib_b (fun q => absurd q (by decide)) (fun _ => ?_)
        rw [sM_isTale, hn, e2]
        refine ib_b (fun q => absurd q (by decide)) (fun _ => hL _ (fun S' lk mp nd mv => ?_))
        have hmT' := mT_lk hmT lk
        refine m_toldSet ok hmT' (m_lastYear ok hmT' (m_lastTeller ok hmT' (m_canNext mp ht (by omega) hTS hl5 (lyM_R ok) (ib_b (fun c => ?_) (fun c => m_lastYear ok hmT' (m_yearBehind mp ht (lyM_R ok) ?_))))))
        · exact sM_refuses (k := 3) (by decide) (g1 c S' mv lk)
        · have hmn : qtM T < qpN P := by
            rcases Nat.lt_or_ge (qtM T) (qpN P) with q | q
            · exact q
            · obtain ⟨i, hi, ei⟩ := fb_onto (n := qpN P) (f := qtF T) (fun i hi => (ok.2.1 i (by omega)).1) (fun i j h1 h2 => ok.2.2 i j h1 (by omega)) ht
              have : hb (qtS T) t = true := (hb_tsF _ _ _).mpr ⟨i, by omega, ei⟩
              rw [cN, this, Bool.not_true, Bool.false_and] at c
              exact absurd c (by decide)
          rw [hmT'.1]
          refine m_row (cn := 134) hmT'.1 (by omega) (by decide) (by decide) ?_
          rw [sM_good]
          exact g2 c hmn S' mv lk
      have hcN : cN P t u (qtS T) (lyM T) (qlT T) = (!hb (qtS T) t && (hb (flw P t (2 ^ qlT T)) u && fB P t (lyC T))) := by
        rw [cN, hfl, y2, Bool.and_assoc]
      have hno : cN P t u (qtS T) (lyM T) (qlT T) = false → w_X8_refuse SO (-3) (fun r20 S21 => wM_tell S (nI t) (nI u) (fun r' S' => R r20 S21 SP' SJ' Std r' S')) := by
        intro hf
        exact s_refuse (k := 3) (by decide) (by decide) (mod _ _ _ (fun _ S' mv lk => hR3 _ _ _ cv mv lk c17) (fun q => by rw [hf] at q; exact absurd q (by decide)))
      rw [jn_d]
      refine bh_b (by omega) (by omega) (fun c1 => ?_) (fun c1 => hno (by rw [hcN, c1]; rfl))
      have hyr := yB_r okp ht (lyC_R ok)
      rw [iZ_m1]
      refine zeq_b _ _ (by unfold yN; split <;> omega) (fun c2 => hno ?_) (fun c2 => bh_b (by omega) (by omega) (fun c3 => hno (by rw [hcN, c3, Bool.false_and, Bool.and_false])) (fun c3 => ?_))
      · have : fB P t (lyC T) = false := by
          cases e : fB P t (lyC T)
          · rfl
          · have := yB_f okp ht e
            rw [yN, if_pos e] at c2
            omega
        rw [hcN, this, Bool.and_false, Bool.and_false]
      · have hf : fB P t (lyC T) = true := by
          cases e : fB P t (lyC T)
          · rw [yN, if_neg (by rw [e]; decide)] at c2; exact absurd rfl c2
          · rfl
        have hy := yB_f okp ht hf
        have hyes : cN P t u (qtS T) (lyM T) (qlT T) = true := by rw [hcN, c1, c3, hf]; rfl
        rw [yN, if_pos hf]
        have hmn : qtM T < qpN P := by
            rcases Nat.lt_or_ge (qtM T) (qpN P) with q | q
            · exact q
            · obtain ⟨i, hi, ei⟩ := fb_onto (n := qpN P) (f := qtF T) (fun i hi => (ok.2.1 i (by omega)).1) (fun i j h1 h2 => ok.2.2 i j h1 (by omega)) ht
              have : hb (qtS T) t = true := (hb_tsF _ _ _).mpr ⟨i, by omega, ei⟩
              rw [c1] at this
              exact absurd this (by decide)
        refine s_add hT.1 (by omega) ?_
        rw [s_accept]
        refine mod _ _ _ (fun q => by rw [hyes] at q; exact absurd q (by decide)) (fun _ _ S' mv lk => ?_)
        rw [y1] at hy ⊢
        exact hR _ _ _ _ _ _ cv mv lk c17 ht (by omega) hy.1 hy.2 c1 hmn
    · rw [e1]
      refine ib_b (fun _ => s_refuse (k := 2) (by decide) (by decide) ?_) (fun q => absurd q (by decide))
      show wM_tell _ _ _ _
      unfold wM_tell
      rw [sM_isTeller, h40, f2]
      refine ib_b (fun q => absurd q (by decide)) (fun _ => ?_)
      rw [sM_isTale, hn, e2]
      exact ib_b (fun _ => sM_refuses (k := 2) (by decide) (hR1 2 (by decide) (by decide))) (fun q => absurd q (by decide))
  · rw [f1]
    refine ib_b (fun _ => s_refuse (k := 1) (by decide) (by decide) ?_) (fun q => absurd q (by decide))
    show wM_tell _ _ _ _
    unfold wM_tell
    rw [sM_isTeller, h40, f2]
    exact ib_b (fun _ => sM_refuses (k := 1) (by decide) (hR1 1 (by decide) (by decide))) (fun q => absurd q (by decide))
set_option maxHeartbeats 1000000 in
theorem eq_tellN {SO SB SP SJ Std S : Ob} {Sls : Nat → Option Nat} {P : PlT} {T : TdT} {q : Nat} {x1 x2 : Int32} {R : Int32 → Ob → Ob → Ob → Ob → Int32 → Ob → Prop} (hp : pB SB Std S P T q) (hW : wkP (w_X3_weighN SP SJ SB Sls) SP P) (hL : lkP S P)
    (hR1 : ∀ k, 1 ≤ k → k ≤ 2 → R (-nI k) (refC SO k) SP SJ Std (-nI k) (refM S k))
    (hR3 : ∀ SP' SJ' S', cV SP' P → mV S' P → lkU S S' → SP'.1 17 = SP.1 17 → R (-nI 3) (refC SO 3) SP' SJ' Std (-nI 3) (refM S' 3))
    (hR : ∀ SP' SJ' S' t u y, cV SP' P → mV S' P → lkU S S' → SP'.1 17 = SP.1 17 → t < qpN P → u < 4 → 0 ≤ y → y ≤ 2000 → hb (qtS T) t = false → qtM T < qpN P → R (iZ y) (uS SO 16 0) SP' SJ' (add3 Std (qtM T) (nI t) (iZ y) (nI u)) (iZ y) (goodM (addK S' 43 134 (qtM T) (nI t) (iZ y) (nI u)))) : w_X8_tellN SO SB Sls SP SJ Std x1 x2 (fun r SO' SP' SJ' Std' => wM_tell S x1 x2 (fun r' S' => R r SO' SP' SJ' Std' r' S')) := by
  obtain ⟨okp, ok, hT, hmT, h4, hn, h5, h40, hq⟩ := hp
  have h10 := ok.1
  have hm := okT_m ok
  have hTS := tS_1024 ok
  have hl5 := lT_5 ok
  unfold w_X8_tellN
  rw [s_seats, h5]
  rcases is_tale x2 (n := q) (by omega) with ⟨u, hu, rfl, f1, f2⟩ | ⟨f1, f2⟩
  · rw [f1]
    refine ib_b (fun q => absurd q (by decide)) (fun _ => ?_)
    rw [s_has, h4]
    rcases is_tale x1 h10 with ⟨t, ht, rfl, e1, e2⟩ | ⟨e1, e2⟩
    · rw [e1]
      have hA : qpA P t < 16 := (okp.2 t ht).2.2.2.2.2.2.2
      obtain ⟨y1, y2⟩ := ly_y okp ht T
      have hfl := flw_hb okp ht (p32 hl5).1 (p32 hl5).2 (show u < 4 by omega)
      rw [any_1 hl5] at hfl
      have hfl16 := flw_lt okp ht (2 ^ qlT T)
      refine ib_b (fun q => absurd q (by decide)) (fun _ => hW _ (fun SP' SJ' cv cp c17 => s_lastYear ok hT (s_yearOf cp ht (lyC_R ok) (s_lastTeller ok hT ?_))))
      rw [shl_1 (by omega)]
      refine s_followers cp ht (by have := (p32 hl5).1; omega) (s_toldSet ok hT ?_)
      have mod : ∀ (r : Int32) (SO' Std' : Ob), (cN P t u (qtS T) (lyM T) (qlT T) = false → ∀ S', mV S' P → lkU S S' → R r SO' SP' SJ' Std' (-nI 3) (refM S' 3)) → (cN P t u (qtS T) (lyM T) (qlT T) = true → qtM T < qpN P → ∀ S', mV S' P → lkU S S' → R r SO' SP' SJ' Std' (iZ (yB P t (lyM T))) (goodM (addK S' 43 134 (qtM T) (nI t) (iZ (yB P t (lyM T))) (nI u)))) → wM_tell S (nI t) (nI u) (fun r' S' => R r SO' SP' SJ' Std' r' S') := by
        intro r SO' Std' g1 g2
        unfold wM_tell
        rw [sM_isTeller, h40, f2]
        refine ib_b (fun q => absurd q (by decide)) (fun _ => ?_)
        rw [sM_isTale, hn, e2]
        refine ib_b (fun q => absurd q (by decide)) (fun _ => hL _ (fun S' lk mp nd mv => ?_))
        have hmT' := mT_lk hmT lk
        refine m_toldSet ok hmT' (m_lastYear ok hmT' (m_lastTeller ok hmT' (m_canNext mp ht (by omega) hTS hl5 (lyM_R ok) (ib_b (fun c => ?_) (fun c => m_lastYear ok hmT' (m_yearBehind mp ht (lyM_R ok) ?_))))))
        · exact sM_refuses (k := 3) (by decide) (g1 c S' mv lk)
        · have hmn : qtM T < qpN P := by
            rcases Nat.lt_or_ge (qtM T) (qpN P) with q | q
            · exact q
            · obtain ⟨i, hi, ei⟩ := fb_onto (n := qpN P) (f := qtF T) (fun i hi => (ok.2.1 i (by omega)).1) (fun i j h1 h2 => ok.2.2 i j h1 (by omega)) ht
              have : hb (qtS T) t = true := (hb_tsF _ _ _).mpr ⟨i, by omega, ei⟩
              rw [cN, this, Bool.not_true, Bool.false_and] at c
              exact absurd c (by decide)
          rw [hmT'.1]
          refine m_row (cn := 134) hmT'.1 (by omega) (by decide) (by decide) ?_
          rw [sM_good]
          exact g2 c hmn S' mv lk
      have hcN : cN P t u (qtS T) (lyM T) (qlT T) = (!hb (qtS T) t && (hb (flw P t (2 ^ qlT T)) u && fB P t (lyC T))) := by
        rw [cN, hfl, y2, Bool.and_assoc]
      have hno : cN P t u (qtS T) (lyM T) (qlT T) = false → w_X8_refuse SO (-3) (fun r20 S21 => wM_tell S (nI t) (nI u) (fun r' S' => R r20 S21 SP' SJ' Std r' S')) := by
        intro hf
        exact s_refuse (k := 3) (by decide) (by decide) (mod _ _ _ (fun _ S' mv lk => hR3 _ _ _ cv mv lk c17) (fun q => by rw [hf] at q; exact absurd q (by decide)))
      rw [jn_d]
      refine bh_b (by omega) (by omega) (fun c1 => ?_) (fun c1 => hno (by rw [hcN, c1]; rfl))
      have hyr := yB_r okp ht (lyC_R ok)
      rw [iZ_m1]
      refine zeq_b _ _ (by unfold yN; split <;> omega) (fun c2 => hno ?_) (fun c2 => bh_b (by omega) (by omega) (fun c3 => hno (by rw [hcN, c3, Bool.false_and, Bool.and_false])) (fun c3 => ?_))
      · have : fB P t (lyC T) = false := by
          cases e : fB P t (lyC T)
          · rfl
          · have := yB_f okp ht e
            rw [yN, if_pos e] at c2
            omega
        rw [hcN, this, Bool.and_false, Bool.and_false]
      · have hf : fB P t (lyC T) = true := by
          cases e : fB P t (lyC T)
          · rw [yN, if_neg (by rw [e]; decide)] at c2; exact absurd rfl c2
          · rfl
        have hy := yB_f okp ht hf
        have hyes : cN P t u (qtS T) (lyM T) (qlT T) = true := by rw [hcN, c1, c3, hf]; rfl
        rw [yN, if_pos hf]
        have hmn : qtM T < qpN P := by
            rcases Nat.lt_or_ge (qtM T) (qpN P) with q | q
            · exact q
            · obtain ⟨i, hi, ei⟩ := fb_onto (n := qpN P) (f := qtF T) (fun i hi => (ok.2.1 i (by omega)).1) (fun i j h1 h2 => ok.2.2 i j h1 (by omega)) ht
              have : hb (qtS T) t = true := (hb_tsF _ _ _).mpr ⟨i, by omega, ei⟩
              rw [c1] at this
              exact absurd this (by decide)
        refine s_add hT.1 (by omega) ?_
        rw [s_accept]
        refine mod _ _ _ (fun q => by rw [hyes] at q; exact absurd q (by decide)) (fun _ _ S' mv lk => ?_)
        rw [y1] at hy ⊢
        exact hR _ _ _ _ _ _ cv mv lk c17 ht (by omega) hy.1 hy.2 c1 hmn
    · rw [e1]
      refine ib_b (fun _ => s_refuse (k := 2) (by decide) (by decide) ?_) (fun q => absurd q (by decide))
      show wM_tell _ _ _ _
      unfold wM_tell
      rw [sM_isTeller, h40, f2]
      refine ib_b (fun q => absurd q (by decide)) (fun _ => ?_)
      rw [sM_isTale, hn, e2]
      exact ib_b (fun _ => sM_refuses (k := 2) (by decide) (hR1 2 (by decide) (by decide))) (fun q => absurd q (by decide))
  · rw [f1]
    refine ib_b (fun _ => s_refuse (k := 1) (by decide) (by decide) ?_) (fun q => absurd q (by decide))
    show wM_tell _ _ _ _
    unfold wM_tell
    rw [sM_isTeller, h40, f2]
    exact ib_b (fun _ => sM_refuses (k := 1) (by decide) (hR1 1 (by decide) (by decide))) (fun q => absurd q (by decide))
/-- tales that can be told next -/
def opB (P : PlT) (T : TdT) (t : Nat) : Prop := hb (qtS T) t = false ∧ fB P t (lyC T) = true ∧ ∃ u, u < 4 ∧ hb (flw P t (2 ^ qlT T)) u = true
theorem m_open {S : Ob} {P : PlT} {T : TdT} (okp : okP P) (ok : okT (qpN P) T) (hmT : mT S T) (hL : lkP S P) {Q : Int32 → Ob → Prop} (hq : ∀ r S', r < 2 ^ 10 → (∀ t, t < 10 → (hb r t = true ↔ t < qpN P ∧ opB P T t)) → mV S' P → lkU S S' → Q (nI r) S') : wM_open S Q := by
  have h10 := ok.1
  have hTS := tS_1024 ok
  have hl5 := lT_5 ok
  unfold wM_open
  refine hL _ (fun S' lk mp nd mv => ?_)
  have hmT' := mT_lk hmT lk
  refine fo2 (qpN P) (by omega) (fun n x => ∃ r, r < 2 ^ 10 ∧ x = nI r ∧ ∀ t, t < 10 → (hb r t = true ↔ t < n ∧ opB P T t)) ⟨0, by decide, rfl, fun t ht => by rw [hb_z]; exact ⟨fun q => absurd q (by decide), fun q => absurd q.1 (Nat.not_lt_zero t)⟩⟩ ?_ ?_
  · rintro L n x hn ⟨r, hr, rfl, hI⟩ ih
    obtain ⟨y1, y2⟩ := ly_y okp hn T
    rw [sM_tales, mp.2.1]
    refine br_n (fun q => by have := (nI_leI (by omega) (by omega)).mp q; omega) ?_
    refine fo2 4 (by decide) (fun u x => ∃ r', r' < 2 ^ 10 ∧ x = nI r' ∧ ∀ t, t < 10 → (hb r' t = true ↔ hb r t = true ∨ (t = n ∧ ∃ u', u' < u ∧ cN P n u' (qtS T) (lyM T) (qlT T) = true))) ⟨r, hr, rfl, fun t ht => ⟨Or.inl, fun q => q.elim id (fun ⟨_, u', q, _⟩ => absurd q (Nat.not_lt_zero u'))⟩⟩ ?_ ?_
    · rintro L2 u x hu ⟨r', hr', rfl, hI'⟩ ih2
      refine br_n (fun q => by have := (nI_leI (a := 4) (b := u) (by decide) (by omega)).mp q; omega) ?_
      refine m_toldSet ok hmT' (m_lastYear ok hmT' (m_lastTeller ok hmT' (m_canNext mp hn (by omega) hTS hl5 (lyM_R ok) (bi_b (fun c => ?_) (fun c => ?_)))))
      · rintro v rfl
        rw [nI_1]
        refine ih2 _ ⟨r', hr', rfl, fun t ht => (hI' t ht).trans ⟨fun q => q.imp id (fun ⟨e, u', q1, q2⟩ => ⟨e, u', by omega, q2⟩), fun q => q.imp id (fun ⟨e, u', q1, q2⟩ => ⟨e, u', ?_, q2⟩)⟩⟩
        rcases Nat.lt_or_ge u' u with d | d
        · exact d
        · have : u' = u := by omega
          subst this
          rw [c] at q2; exact absurd q2 (by decide)
      · rintro v rfl w rfl
        rw [nI_1, or_1 (by omega)]
        refine ih2 _ ⟨r' ||| 2 ^ n, or_lt hr' (by omega), rfl, fun t ht => ?_⟩
        rw [hb_or, Bool.or_eq_true, decide_eq_true_eq, hI' t ht]
        constructor
        · rintro ((q | ⟨e, u', q1, q2⟩) | q)
          · exact Or.inl q
          · exact Or.inr ⟨e, u', by omega, q2⟩
          · exact Or.inr ⟨q, u, by omega, c⟩
        · rintro (q | ⟨e, u', q1, q2⟩)
          · exact Or.inl (Or.inl q)
          · exact Or.inr e
    · rintro L2 x ⟨r', hr', rfl, hI'⟩
      refine br_y (Int32.le_refl _) ?_
      rintro v rfl
      rw [nI_1]
      refine ih _ ⟨r', hr', rfl, fun t ht => ?_⟩
      rw [hI' t ht, hI t ht]
      have key : (∃ u', u' < 4 ∧ cN P n u' (qtS T) (lyM T) (qlT T) = true) ↔ opB P T n := by
        unfold opB cN
        constructor
        · rintro ⟨u, hu, h⟩
          rw [Bool.and_eq_true, Bool.and_eq_true, Bool.and_eq_true] at h
          refine ⟨by simpa using h.1, by rw [y2]; exact h.2.2.2, u, hu, ?_⟩
          rw [flw_hb okp hn (p32 hl5).1 (p32 hl5).2 hu, any_1 hl5, h.2.1, h.2.2.1]; rfl
        · rintro ⟨h1, h2, u, hu, h3⟩
          refine ⟨u, hu, ?_⟩
          rw [flw_hb okp hn (p32 hl5).1 (p32 hl5).2 hu, any_1 hl5, Bool.and_eq_true] at h3
          rw [h1, h3.1, h3.2, ← y2, h2]; rfl
      constructor
      · rintro (⟨q1, q2⟩ | ⟨rfl, q⟩)
        · exact ⟨by omega, q2⟩
        · exact ⟨by omega, key.mp q⟩
      · rintro ⟨q1, q2⟩
        rcases Nat.lt_or_ge t n with d | d
        · exact Or.inl ⟨d, q2⟩
        · have : t = n := by omega
          subst this
          exact Or.inr ⟨rfl, key.mpr q2⟩
  · rintro L x ⟨r, hr, rfl, hI⟩
    rw [sM_tales, mp.2.1]
    exact br_y (Int32.le_refl _) (hq r S' hr hI mv lk)
set_option maxHeartbeats 1000000 in
theorem eq_open {aLw : Nat → Nat} {SLw : Lw} {SO SB SP SJ Std S : Ob} {Sls : Nat → Option Nat} {P : PlT} {T : TdT} {q : Nat} {R : Int32 → Ob → Ob → Int32 → Ob → Prop} (hp : pB SB Std S P T q) (hW : wkP (w_X3_weigh aLw SP SJ SB Sls SLw) SP P) (hL : lkP S P)
    (hR : ∀ r SP' SJ' S', cV SP' P → mV S' P → lkU S S' → SP'.1 17 = SP.1 17 → R r SP' SJ' r S') : w_X8_open aLw SO SB Sls SP SJ Std SLw (fun r SP' SJ' => wM_open S (fun r' S' => R r SP' SJ' r' S')) := by
  obtain ⟨okp, ok, hT, hmT, h4, hn, h5, h40, hq⟩ := hp
  have h10 := ok.1
  have hl5 := lT_5 ok
  have huT := Nat.lt_of_lt_of_le (uT_lt (qpN P) T) (p10 h10)
  unfold w_X8_open
  refine hW _ (fun SP' SJ' cv cp c17 => s_untold ok hT h4 ?_)
  refine fo2 (qpN P) (by omega) (fun n x => ∃ r, r < 2 ^ 10 ∧ x = nI r ∧ ∀ t, t < 10 → (hb r t = true ↔ t < n ∧ opB P T t)) ⟨0, by decide, rfl, fun t ht => by rw [hb_z]; exact ⟨fun q => absurd q (by decide), fun q => absurd q.1 (Nat.not_lt_zero t)⟩⟩ ?_ ?_
  · rintro L n x hn ⟨r, hr, rfl, hI⟩ ih
    have hfl16 := flw_lt okp hn (2 ^ qlT T)
    rw [h4]
    refine br_n (fun q => by have := (nI_leI (by omega) (by omega)).mp q; omega) (s_lastYear ok hT (s_yearOf cp hn (lyC_R ok) ?_))
    have stay : ¬ opB P T n → ∀ v : Int32, v = nI n + 1 → L v (nI r) := by
      rintro hno v rfl
      rw [nI_1]
      refine ih _ ⟨r, hr, rfl, fun t ht => (hI t ht).trans ⟨fun q => ⟨by omega, q.2⟩, fun q => ⟨?_, q.2⟩⟩⟩
      rcases Nat.lt_or_ge t n with d | d
      · exact d
      · have : t = n := by omega
        subst this
        exact absurd q.2 hno
    have hyr := yB_r okp hn (lyC_R ok)
    refine jn_g (fun J => ∀ b : Bool, (b = true ↔ fB P n (lyC T) = true ∧ ∃ u, u < 4 ∧ hb (flw P n (2 ^ qlT T)) u = true) → J (bI b)) ?_ (fun J hJ => jn_g (fun J => ¬ (fB P n (lyC T) = true ∧ ∃ u, u < 4 ∧ hb (flw P n (2 ^ qlT T)) u = true) → J ()) (fun hno => hJ false ⟨fun q => absurd q (by decide), fun q => absurd q hno⟩) (fun J2 hJ2 => ?_))
    · intro b hb'
      refine bi_b (fun c => stay (fun q => by have := hb'.mpr q.2; rw [c] at this; exact absurd this (by decide))) (fun c => hb_b (by omega) (by omega) (fun c2 => stay (fun q => ?_)) (fun c2 => ?_))
      · rw [hb_uT (by omega), q.1, decide_eq_true hn] at c2
        exact absurd c2 (by decide)
      · rw [hb_uT (by omega), decide_eq_true hn, Bool.true_and] at c2
        have hop : opB P T n := ⟨by simpa using c2, hb'.mp c⟩
        rintro v rfl w rfl
        rw [nI_1, or_1 (by omega)]
        refine ih _ ⟨r ||| 2 ^ n, or_lt hr (by omega), rfl, fun t ht => ?_⟩
        rw [hb_or, Bool.or_eq_true, decide_eq_true_eq, hI t ht]
        constructor
        · rintro (q | rfl)
          · exact ⟨by omega, q.2⟩
          · exact ⟨by omega, hop⟩
        · rintro ⟨q1, q2⟩
          rcases Nat.lt_or_ge t n with d | d
          · exact Or.inl ⟨d, q2⟩
          · exact Or.inr (by omega)
    · rw [iZ_m1]
      refine zeq_b _ _ (by unfold yN; split <;> omega) (fun c => hJ2 (fun q => ?_)) (fun c => s_lastTeller ok hT ?_)
      · have := yB_f okp hn q.1
        rw [yN, if_pos q.1] at c
        omega
      · have hf : fB P n (lyC T) = true := by
          cases e : fB P n (lyC T)
          · rw [yN, if_neg (by rw [e]; decide)] at c; exact absurd rfl c
          · rfl
        rw [shl_1 (by omega)]
        refine s_followers cp hn (by have := (p32 hl5).1; omega) (eq_b _ 0 (by omega) (by decide) (fun c2 => hJ2 (fun q => ?_)) (fun c2 => hJ true ⟨fun _ => ⟨hf, ?_⟩, fun _ => rfl⟩))
        · obtain ⟨_, u, _, h⟩ := q
          rw [c2, hb_z] at h
          exact absurd h (by decide)
        · obtain ⟨k, hk⟩ := hb_ne c2
          exact ⟨k, hb_in (N := 4) (by omega) hk, hk⟩
  · rintro L x ⟨r, hr, rfl, hI⟩
    rw [h4]
    refine br_y (Int32.le_refl _) (m_open okp ok hmT hL (fun r' S' hr' hI' mv lk => ?_))
    have : r' = r := hb_ext hr' hr (fun k hk => by rw [Bool.eq_iff_iff, hI' k hk, hI k hk])
    rw [this]
    exact hR _ _ _ _ cv mv lk c17
set_option maxHeartbeats 1000000 in
theorem eq_openN {SO SB SP SJ Std S : Ob} {Sls : Nat → Option Nat} {P : PlT} {T : TdT} {q : Nat} {R : Int32 → Ob → Ob → Int32 → Ob → Prop} (hp : pB SB Std S P T q) (hW : wkP (w_X3_weighN SP SJ SB Sls) SP P) (hL : lkP S P)
    (hR : ∀ r SP' SJ' S', cV SP' P → mV S' P → lkU S S' → SP'.1 17 = SP.1 17 → R r SP' SJ' r S') : w_X8_openN SO SB Sls SP SJ Std (fun r SP' SJ' => wM_open S (fun r' S' => R r SP' SJ' r' S')) := by
  obtain ⟨okp, ok, hT, hmT, h4, hn, h5, h40, hq⟩ := hp
  have h10 := ok.1
  have hl5 := lT_5 ok
  have huT := Nat.lt_of_lt_of_le (uT_lt (qpN P) T) (p10 h10)
  unfold w_X8_openN
  refine hW _ (fun SP' SJ' cv cp c17 => s_untold ok hT h4 ?_)
  refine fo2 (qpN P) (by omega) (fun n x => ∃ r, r < 2 ^ 10 ∧ x = nI r ∧ ∀ t, t < 10 → (hb r t = true ↔ t < n ∧ opB P T t)) ⟨0, by decide, rfl, fun t ht => by rw [hb_z]; exact ⟨fun q => absurd q (by decide), fun q => absurd q.1 (Nat.not_lt_zero t)⟩⟩ ?_ ?_
  · rintro L n x hn ⟨r, hr, rfl, hI⟩ ih
    have hfl16 := flw_lt okp hn (2 ^ qlT T)
    rw [h4]
    refine br_n (fun q => by have := (nI_leI (by omega) (by omega)).mp q; omega) (s_lastYear ok hT (s_yearOf cp hn (lyC_R ok) ?_))
    have stay : ¬ opB P T n → ∀ v : Int32, v = nI n + 1 → L v (nI r) := by
      rintro hno v rfl
      rw [nI_1]
      refine ih _ ⟨r, hr, rfl, fun t ht => (hI t ht).trans ⟨fun q => ⟨by omega, q.2⟩, fun q => ⟨?_, q.2⟩⟩⟩
      rcases Nat.lt_or_ge t n with d | d
      · exact d
      · have : t = n := by omega
        subst this
        exact absurd q.2 hno
    have hyr := yB_r okp hn (lyC_R ok)
    refine jn_g (fun J => ∀ b : Bool, (b = true ↔ fB P n (lyC T) = true ∧ ∃ u, u < 4 ∧ hb (flw P n (2 ^ qlT T)) u = true) → J (bI b)) ?_ (fun J hJ => jn_g (fun J => ¬ (fB P n (lyC T) = true ∧ ∃ u, u < 4 ∧ hb (flw P n (2 ^ qlT T)) u = true) → J ()) (fun hno => hJ false ⟨fun q => absurd q (by decide), fun q => absurd q hno⟩) (fun J2 hJ2 => ?_))
    · intro b hb'
      refine bi_b (fun c => stay (fun q => by have := hb'.mpr q.2; rw [c] at this; exact absurd this (by decide))) (fun c => hb_b (by omega) (by omega) (fun c2 => stay (fun q => ?_)) (fun c2 => ?_))
      · rw [hb_uT (by omega), q.1, decide_eq_true hn] at c2
        exact absurd c2 (by decide)
      · rw [hb_uT (by omega), decide_eq_true hn, Bool.true_and] at c2
        have hop : opB P T n := ⟨by simpa using c2, hb'.mp c⟩
        rintro v rfl w rfl
        rw [nI_1, or_1 (by omega)]
        refine ih _ ⟨r ||| 2 ^ n, or_lt hr (by omega), rfl, fun t ht => ?_⟩
        rw [hb_or, Bool.or_eq_true, decide_eq_true_eq, hI t ht]
        constructor
        · rintro (q | rfl)
          · exact ⟨by omega, q.2⟩
          · exact ⟨by omega, hop⟩
        · rintro ⟨q1, q2⟩
          rcases Nat.lt_or_ge t n with d | d
          · exact Or.inl ⟨d, q2⟩
          · exact Or.inr (by omega)
    · rw [iZ_m1]
      refine zeq_b _ _ (by unfold yN; split <;> omega) (fun c => hJ2 (fun q => ?_)) (fun c => s_lastTeller ok hT ?_)
      · have := yB_f okp hn q.1
        rw [yN, if_pos q.1] at c
        omega
      · have hf : fB P n (lyC T) = true := by
          cases e : fB P n (lyC T)
          · rw [yN, if_neg (by rw [e]; decide)] at c; exact absurd rfl c
          · rfl
        rw [shl_1 (by omega)]
        refine s_followers cp hn (by have := (p32 hl5).1; omega) (eq_b _ 0 (by omega) (by decide) (fun c2 => hJ2 (fun q => ?_)) (fun c2 => hJ true ⟨fun _ => ⟨hf, ?_⟩, fun _ => rfl⟩))
        · obtain ⟨_, u, _, h⟩ := q
          rw [c2, hb_z] at h
          exact absurd h (by decide)
        · obtain ⟨k, hk⟩ := hb_ne c2
          exact ⟨k, hb_in (N := 4) (by omega) hk, hk⟩
  · rintro L x ⟨r, hr, rfl, hI⟩
    rw [h4]
    refine br_y (Int32.le_refl _) (m_open okp ok hmT hL (fun r' S' hr' hI' mv lk => ?_))
    have : r' = r := hb_ext hr' hr (fun k hk => by rw [Bool.eq_iff_iff, hI' k hk, hI k hk])
    rw [this]
    exact hR _ _ _ _ cv mv lk c17
