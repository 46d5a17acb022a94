/-! ===== orders, duel: both answer alike ===== -/
set_option maxHeartbeats 1000000 in
theorem m_wins {S : Ob} {P : PlT} (h : mP S P) : ∀ d s set y u, s < 2 ^ qpN P → set < 1024 → (∀ t, t < qpN P → hb s t = !hb set t) → yR y → u < 2 → pop s + 1 ≤ d → ∀ {Q : Int32 → Prop}, Q (bI (wnF P d s y u)) → wM_wins d S (nI set) (iZ y) (nI u) Q := by
  intro d
  have okp := h.1
  have h10 := okp.1
  have hp := p10 h10
  induction d with
  | zero => intro s set y u _ _ _ _ _ hd; omega
  | succ d ihd =>
    intro s set y u hs hset hrel hy hu hd Q hq
    show ∃ n, wl1 _ n 0
    refine fo1 (qpN P) (by omega) (fun t => ∀ t', t' < t → wnP P d s y u t' = false) (fun t' ht' => absurd ht' (Nat.not_lt_zero t')) ?_ ?_
    · rintro L t ht hI ih
      have hA : qpA P t < 16 := (okp.2 t ht).2.2.2.2.2.2.2
      have hv := mP_in h ht
      have stay : wnP P d s y u t = false → ∀ v : Int32, v = nI t + 1 → L v := by
        rintro hz v rfl
        rw [nI_1]
        refine ih (fun t' ht' => ?_)
        rcases Nat.lt_or_ge t' t with q | q
        · exact hI t' q
        · have : t' = t := by omega
          subst this
          exact hz
      rw [sM_tales, h.2.1]
      refine br_n (fun q => by have := (nI_leI (by omega) (by omega)).mp q; omega) ?_
      rw [sM_isInB (by omega) (by omega)]
      have hr := hrel t ht
      refine ib_b (fun c1 => ⟨hv, ?_⟩) (fun c1 => stay (by rw [wnP, hr, c1]; rfl))
      rw [c1] at hr
      rw [nI_clamp (by omega), (h.2.2.2 t ht).2.2.2.2, sM_isInB (by omega) (by omega)]
      refine bi_b (fun c2 => stay (by rw [wnP, c2]; simp)) (fun c2 => m_fits h ht hy (bi_b (fun c3 => stay (by rw [wnP, c3]; simp)) (fun c3 => m_yearBehind h ht hy ?_)))
      have e1 : (1 - nI u : Int32) = nI (1 - u) := pk_sub (a := 1) (by omega)
      have hpr := pop_rm (s := s) (by omega) hr
      rw [e1, or_1 (by omega)]
      refine ihd (rm s t) (set ||| 2 ^ t) _ _ (Nat.lt_of_le_of_lt (sd_le _ _) hs) (or_lt (N := 10) hset (by omega)) (fun k hk => ?_) (yB_R okp ht c3) (by omega) (by omega) (ib_b (fun q => ?_) (fun q => stay (by rw [wnP, q]; simp)))
      · rw [hb_rm (by omega), hb_or, hrel k hk, Bool.not_or]
      · have : wnF P (d + 1) s y u = true := wnF_t.mpr ⟨t, ht, by rw [wnP, hr, c2, c3, q]; rfl⟩
        rw [this] at hq
        exact hq
    · rintro L hI
      rw [sM_tales, h.2.1]
      refine br_y (Int32.le_refl _) ?_
      have : wnF P (d + 1) s y u = false := by
        cases e : wnF P (d + 1) s y u
        · rfl
        · obtain ⟨t, ht, h'⟩ := wnF_t.mp e
          rw [hI t ht] at h'
          exact absurd h' (by decide)
      rw [this] at hq
      exact hq
/-- the reference's look downwards for the lowest -/
def dnR (p : Nat → Bool) (n k : Nat) (f : Int) : Prop := (f = -1 ∧ ∀ t, k ≤ t → t < n → p t = false) ∨ ∃ t, k ≤ t ∧ t < n ∧ f = t ∧ p t = true ∧ ∀ t', k ≤ t' → t' < t → p t' = false
theorem dnR_y {p : Nat → Bool} {n k : Nat} {f : Int} (hk : k < n) (h : dnR p n (k + 1) f) (hp : p k = true) : dnR p n k k := Or.inr ⟨k, Nat.le_refl _, hk, rfl, hp, fun t' h1 h2 => absurd h2 (by omega)⟩
theorem dnR_n {p : Nat → Bool} {n k : Nat} {f : Int} (h : dnR p n (k + 1) f) (hp : p k = false) : dnR p n k f := by
  rcases h with ⟨h1, h2⟩ | ⟨t, h1, h2, h3, h4, h5⟩
  · refine Or.inl ⟨h1, fun t ht1 ht2 => ?_⟩
    rcases Nat.lt_or_ge k t with q | q
    · exact h2 t q ht2
    · rw [show t = k by omega]; exact hp
  · refine Or.inr ⟨t, by omega, h2, h3, h4, fun t' ht1 ht2 => ?_⟩
    rcases Nat.lt_or_ge k t' with q | q
    · exact h5 t' q ht2
    · rw [show t' = k by omega]; exact hp
theorem wnR_ly {P : PlT} (okp : okP P) {T : TdT} {s u : Nat} {r : Int32} (hs : s < 2 ^ qpN P) {d e : Nat} (hd : 8 ≤ d) (he : 8 ≤ e) (h7 : pop s ≤ 7) (h : wnR P d s (lyC T) u r) {f : Int} (hf : dnR (wnP P e s (lyM T) u) (qpN P) 0 f) : r = iZ f := by
  have h10 := okp.1
  have hp := p10 h10
  have key : ∀ t, t < qpN P → wnP P d s (lyC T) u t = wnP P e s (lyM T) u t := by
    intro t ht
    obtain ⟨y1, y2⟩ := ly_y okp ht T
    unfold wnP
    cases c : hb s t
    · rw [Bool.false_and, Bool.false_and]
    · have hpr := pop_rm (s := s) (by omega) c
      rw [y1, y2, wn_fuel h10 d e (rm s t) (yB P t (lyM T)) (1 - u) (Nat.lt_of_le_of_lt (sd_le _ _) (by omega)) (by omega) (by omega)]
  rcases h with ⟨h1, rfl⟩ | ⟨t, ht, h1, h2, rfl⟩
  · rcases hf with ⟨rfl, -⟩ | ⟨t, -, ht, -, g, -⟩
    · exact iZ_m1
    · rw [← key t ht] at g
      have := wnF_t.mpr ⟨t, ht, g⟩
      rw [h1] at this
      exact absurd this (by decide)
  · rcases hf with ⟨-, g⟩ | ⟨t', -, ht', rfl, g, g2⟩
    · have := g t (Nat.zero_le _) ht
      rw [← key t ht, h1] at this
      exact absurd this (by decide)
    · have : t = t' := fb_first_one (p := fun t => wnP P d s (lyC T) u t = true) h1 (fun k hk q => by rw [h2 k hk] at q; exact absurd q (by decide)) (by show _ = true; rw [key t' ht']; exact g) (fun k hk q => by rw [key k (by omega), g2 k (Nat.zero_le _) hk] at q; exact absurd q (by decide))
      rw [this, iZ_n]
set_option maxHeartbeats 1000000 in
theorem eq_orders {aLw : Nat → Nat} {SLw : Lw} {SO SB SP SJ Std S : Ob} {Sls : Nat → Option Nat} {P : PlT} {T : TdT} {q : Nat} {x1 : Int32} {R : Int32 → Ob → Ob → Int32 → Ob → Prop} (hp : pB SB Std S P T q) (hW : wkP (w_X3_weigh aLw SP SJ SB Sls SLw) SP P) (hL : lkP S P) (hcv : cV SP P) (hmv : mV S P)
    (hR : ∀ r SP' SJ' S', cV SP' P → mV S' P → lkU S S' → SP'.1 17 = SP.1 17 → R r SP' SJ' r S') : w_X8_orders aLw SO SB Sls SP SJ Std SLw x1 (fun r SP' SJ' => wM_orders S x1 (fun r' S' => R r SP' SJ' r' S')) := by
  obtain ⟨okp, ok, hT, hmT, h4, hn, -, -, -⟩ := hp
  have hp10 := p10 ok.1
  have hl5 := lT_5 ok
  unfold w_X8_orders
  refine s_untold ok hT h4 ?_
  rcases set_cases ok x1 with ⟨s, hs, e, h1, h2, h3⟩ | ⟨h1, h2⟩
  · subst e
    have hs1 := hs.1
    have hpl := pop_le s
    refine rb_y h1 (s_bitCount (by omega) (le_b _ 7 (by omega) (by decide) (fun c => hW _ (fun SP' SJ' cv cp c17 => s_lastYear ok hT (s_lastTeller ok hT ?_))) (fun c => ?_)))
    · rw [shl_1 (by omega)]
      refine s_rows (dep := 0) cp 12 s _ _ (by omega) (lyC_R ok) (p32 hl5).1 (by omega) (by omega) ?_
      show wM_orders _ _ _
      unfold wM_orders
      refine m_isSetN ok hmT hn hs.1 (fun _ => br_n (by decide) (sM_ones (by omega) (le_b _ 7 (by omega) (by decide) (fun _ => hL _ (fun S' lk mp nd mv => ?_)) (fun q => absurd q (by omega))))) (fun q => absurd hs.2 q)
      rintro S7 rfl
      have hmT5 := mT_lk hmT lk
      have hmT7 : mT (uS S' 36 0) T := hmT5
      refine m_lastYear ok hmT7 (m_lastTeller ok hmT7 ?_)
      rw [shl_1 (by omega)]
      refine m_counts 12 (uS S' 36 0) s _ _ mp (by omega) (lyM_R ok) (p32 hl5).1 (p32 hl5).2 (by omega) (fun S12 a1 a2 a3 => ?_)
      have e36 : S12.1 36 = nI (rcF P 12 s (lyC T) (2 ^ qlT T)) := by
        rw [a3, rcF_ly okp]
        show (0 : Int32) + _ = _
        rw [Int32.zero_add]
      rw [e36]
      refine hR _ _ _ _ cv (fun _ => ⟨?_, ?_⟩) ⟨⟨fun k hk => ?_, by rw [a2 29 (by decide), uS_1, if_neg (by decide)]; exact lk.1.2⟩, fun k hk => ?_⟩ c17
      · unfold mP
        rw [a1]
        exact mp
      · unfold ndM
        rw [a1]
        exact nd
      · rw [a2 k (fun e => hk (by rw [e]; decide)), uS_1, if_neg (fun e => hk (by rw [e]; decide))]
        exact lk.1.1 k hk
      · rw [a1]
        exact lk.2 k hk
    · show wM_orders _ _ _
      unfold wM_orders
      exact m_isSetN ok hmT hn hs.1 (fun _ => br_n (by decide) (sM_ones (by omega) (le_b _ 7 (by omega) (by decide) (fun q => absurd q (by omega)) (fun _ => hR _ _ _ _ hcv hmv lkU.rf rfl)))) (fun q => absurd hs.2 q)
  · refine rb_n h1 ?_
    show wM_orders _ _ _
    unfold wM_orders
    exact m_isSet ok hmT hn (fun s hs e => absurd (by rw [e]; exact isS_0 ok hs) h1) (fun _ => br_y rfl (hR _ _ _ _ hcv hmv lkU.rf rfl))
set_option maxHeartbeats 1000000 in
theorem eq_ordersN {SO SB SP SJ Std S : Ob} {Sls : Nat → Option Nat} {P : PlT} {T : TdT} {q : Nat} {x1 : Int32} {R : Int32 → Ob → Ob → Int32 → Ob → Prop} (hp : pB SB Std S P T q) (hW : wkP (w_X3_weighN SP SJ SB Sls) SP P) (hL : lkP S P) (hcv : cV SP P) (hmv : mV S P)
    (hR : ∀ r SP' SJ' S', cV SP' P → mV S' P → lkU S S' → SP'.1 17 = SP.1 17 → R r SP' SJ' r S') : w_X8_ordersN SO SB Sls SP SJ Std x1 (fun r SP' SJ' => wM_orders S x1 (fun r' S' => R r SP' SJ' r' S')) := by
  obtain ⟨okp, ok, hT, hmT, h4, hn, -, -, -⟩ := hp
  have hp10 := p10 ok.1
  have hl5 := lT_5 ok
  unfold w_X8_ordersN
  refine s_untold ok hT h4 ?_
  rcases set_cases ok x1 with ⟨s, hs, e, h1, h2, h3⟩ | ⟨h1, h2⟩
  · subst e
    have hs1 := hs.1
    have hpl := pop_le s
    refine rb_y h1 (s_bitCount (by omega) (le_b _ 7 (by omega) (by decide) (fun c => hW _ (fun SP' SJ' cv cp c17 => s_lastYear ok hT (s_lastTeller ok hT ?_))) (fun c => ?_)))
    · rw [shl_1 (by omega)]
      refine s_rows (dep := 0) cp 12 s _ _ (by omega) (lyC_R ok) (p32 hl5).1 (by omega) (by omega) ?_
      show wM_orders _ _ _
      unfold wM_orders
      refine m_isSetN ok hmT hn hs.1 (fun _ => br_n (by decide) (sM_ones (by omega) (le_b _ 7 (by omega) (by decide) (fun _ => hL _ (fun S' lk mp nd mv => ?_)) (fun q => absurd q (by omega))))) (fun q => absurd hs.2 q)
      rintro S7 rfl
      have hmT5 := mT_lk hmT lk
      have hmT7 : mT (uS S' 36 0) T := hmT5
      refine m_lastYear ok hmT7 (m_lastTeller ok hmT7 ?_)
      rw [shl_1 (by omega)]
      refine m_counts 12 (uS S' 36 0) s _ _ mp (by omega) (lyM_R ok) (p32 hl5).1 (p32 hl5).2 (by omega) (fun S12 a1 a2 a3 => ?_)
      have e36 : S12.1 36 = nI (rcF P 12 s (lyC T) (2 ^ qlT T)) := by
        rw [a3, rcF_ly okp]
        show (0 : Int32) + _ = _
        rw [Int32.zero_add]
      rw [e36]
      refine hR _ _ _ _ cv (fun _ => ⟨?_, ?_⟩) ⟨⟨fun k hk => ?_, by rw [a2 29 (by decide), uS_1, if_neg (by decide)]; exact lk.1.2⟩, fun k hk => ?_⟩ c17
      · unfold mP
        rw [a1]
        exact mp
      · unfold ndM
        rw [a1]
        exact nd
      · rw [a2 k (fun e => hk (by rw [e]; decide)), uS_1, if_neg (fun e => hk (by rw [e]; decide))]
        exact lk.1.1 k hk
      · rw [a1]
        exact lk.2 k hk
    · show wM_orders _ _ _
      unfold wM_orders
      exact m_isSetN ok hmT hn hs.1 (fun _ => br_n (by decide) (sM_ones (by omega) (le_b _ 7 (by omega) (by decide) (fun q => absurd q (by omega)) (fun _ => hR _ _ _ _ hcv hmv lkU.rf rfl)))) (fun q => absurd hs.2 q)
  · refine rb_n h1 ?_
    show wM_orders _ _ _
    unfold wM_orders
    exact m_isSet ok hmT hn (fun s hs e => absurd (by rw [e]; exact isS_0 ok hs) h1) (fun _ => br_y rfl (hR _ _ _ _ hcv hmv lkU.rf rfl))
set_option maxHeartbeats 1000000 in
theorem eq_duel {aLw : Nat → Nat} {SLw : Lw} {SO SB SP SJ Std S : Ob} {Sls : Nat → Option Nat} {P : PlT} {T : TdT} {q : Nat} {x1 : Int32} {R : Int32 → Ob → Ob → Int32 → Ob → Prop} (hp : pB SB Std S P T q) (hW : wkP (w_X3_weigh aLw SP SJ SB Sls SLw) SP P) (hL : lkP S P) (hcv : cV SP P) (hmv : mV S P)
    (hR : ∀ r SP' SJ' S', cV SP' P → mV S' P → lkU S S' → SP'.1 17 = SP.1 17 → R r SP' SJ' r S') : w_X8_duel aLw SO SB Sls SP SJ Std SLw x1 (fun r SP' SJ' => wM_duel S x1 (fun r' S' => R r SP' SJ' r' S')) := by
  obtain ⟨okp, ok, hT, hmT, h4, hn, -, -, -⟩ := hp
  have h10 := ok.1
  have hp10 := p10 ok.1
  have hl5 := lT_5 ok
  have hul := uT_lt (qpN P) T
  have hpu := pop_uT ok
  have hTS := tS_1024 ok
  have bad : (decide (0 ≤ x1) && decide (x1 ≤ 1)) = false ∨ 7 < pop (quT (qpN P) T) → wM_duel S x1 (fun r' S' => R (-1) SP SJ r' S') := by
    intro hb'
    unfold wM_duel
    rw [sM_lies]
    refine bi_b (fun _ => hR _ _ _ _ hcv hmv lkU.rf rfl) (fun c => ?_)
    rw [sM_tales, hn, hmT.1, pk_sub (by omega)]
    refine le_b _ 7 (by omega) (by decide) (fun q => ?_) (fun _ => hR _ _ _ _ hcv hmv lkU.rf rfl)
    rcases hb' with q2 | q2
    · rw [q2] at c; exact absurd c (by decide)
    · omega
  unfold w_X8_duel
  refine s_untold ok hT h4 ⟨fun c => bad (Or.inl (by rw [decide_eq_false (Int32.not_le.mpr c)]; rfl)), fun c => ⟨fun c2 => bad (Or.inl (by rw [decide_eq_false (Int32.not_le.mpr c2), Bool.and_false])), fun c2 => s_bitCount (by omega) (le_b _ 7 (by have := pop_le (quT (qpN P) T); omega) (by decide) (fun c3 => hW _ (fun SP' SJ' cv cp c17 => s_lastTeller ok hT ?_)) (fun c3 => bad (Or.inr c3)))⟩⟩
  have l1 : (decide (0 ≤ x1) && decide (x1 ≤ 1)) = true := by rw [decide_eq_true (Int32.not_lt.mp c), decide_eq_true (Int32.not_lt.mp c2)]; rfl
  refine jn_g (fun J => ∀ u, u < 2 → ((qlT T = 0 ∧ u = 1) ∨ (qlT T ≠ 0 ∧ u = 0)) → J (nI u)) ?_ (fun J hJ => qe_b _ 0 (by omega) (by decide) (fun e => hJ 1 (by decide) (Or.inl ⟨e, rfl⟩)) (fun e => hJ 0 (by decide) (Or.inr ⟨e, rfl⟩)))
  intro u hu hu'
  refine s_lastYear ok hT (s_winning (dep := 0) cp 11 (quT (qpN P) T) _ _ hul (lyC_R ok) hu (by omega) (by omega) (fun r14 hr => ?_))
  have e1 : (1 - nI u : Int32) = nI (1 - u) := pk_sub (a := 1) (by omega)
  have mod : ∀ r : Int32, (∀ f : Int, r14 = iZ f → -1 ≤ f → f < 10 → ((¬ x1 = 1 ∧ f ≠ -1 ∧ r = nI u) ∨ (¬ x1 = 1 ∧ f = -1 ∧ r = nI (1 - u)) ∨ (x1 = 1 ∧ r = iZ f))) → wM_duel S x1 (fun r' S' => R r SP' SJ' r' S') := by
    intro r hr'
    unfold wM_duel
    rw [sM_lies, l1]
    refine bi_b (fun q => absurd q (by decide)) (fun _ => ?_)
    rw [sM_tales, hn, hmT.1, pk_sub (by omega)]
    refine le_b _ 7 (by omega) (by decide) (fun _ => hL _ (fun S' lk mp nd mv => ?_)) (fun q => absurd q (by omega))
    have hmT5 := mT_lk hmT lk
    refine m_lastTeller ok hmT5 ?_
    refine jn_g (fun J => J (nI u)) ?_ (fun J hJ => qe_b _ 0 (by omega) (by decide) (fun e => ?_) (fun e => ?_))
    · refine m_toldSet ok hmT5 ?_
      rw [sM_tales, mp.2.1]
      rintro v15 rfl
      rw [iZ_n (qpN P), iZ_1, iZ_sub]
      refine wl2_i (fun x5 x4 => ∃ k f, k ≤ qpN P ∧ x5 = iZ ((k : Int) - 1) ∧ x4 = iZ f ∧ -1 ≤ f ∧ f < 10 ∧ dnR (wnP P 12 (quT (qpN P) T) (lyM T) u) (qpN P) k f) (fun x5 _ => (x5.toInt + 1).toNat) ?_ _ _ ⟨qpN P, -1, Nat.le_refl _, rfl, iZ_m1, by decide, by decide, Or.inl ⟨rfl, fun t h1 h2 => absurd h2 (by omega)⟩⟩
      rintro L x5 x4 ⟨k, f, hk, rfl, rfl, hf1, hf2, hI⟩ ih
      rw [iZ_0]
      refine zlt_b _ _ (by omega) (fun c4 => ?_) (fun c4 => ?_)
      · have hk0 : k = 0 := by omega
        subst hk0
        have hrf := wnR_ly okp hul (by decide) (by decide) (by omega) hr hI
        have fin : ∀ r', r = r' → R r SP' SJ' r' S' := fun r' e => by rw [← e]; exact hR _ _ _ _ cv mv lk c17
        rw [← iZ_1]
        refine ⟨fun q1 => ?_, fun q1 => fin _ ?_⟩
        · rw [iZ_m1]
          refine zqe_b _ _ (by omega) (fun q2 => ?_) (fun q2 => fin _ ?_)
          · rw [e1]
            refine fin _ ?_
            rcases hr' f hrf hf1 hf2 with g | g | g
            · exact absurd q2 g.2.1
            · exact g.2.2
            · exact absurd g.1 q1
          · rcases hr' f hrf hf1 hf2 with g | g | g
            · exact g.2.2
            · exact absurd g.2.1 q2
            · exact absurd g.1 q1
        · rcases hr' f hrf hf1 hf2 with g | g | g
          · exact absurd q1 g.1
          · exact absurd q1 g.1
          · exact g.2
      · obtain ⟨t, rfl⟩ : ∃ t, k = t + 1 := ⟨k - 1, by omega⟩
        have ek : iZ (((t + 1 : Nat) : Int) - 1) = nI t := by
          rw [iZ_n]
          congr 1
          omega
        have ht : t < qpN P := by omega
        have hA : qpA P t < 16 := (okp.2 t ht).2.2.2.2.2.2.2
        have hbu : hb (quT (qpN P) T) t = !hb (qtS T) t := by rw [hb_uT (by omega), decide_eq_true ht, Bool.true_and]
        have nxt : ∀ f', -1 ≤ f' → f' < 10 → dnR (wnP P 12 (quT (qpN P) T) (lyM T) u) (qpN P) t f' → L (nI t + (-iZ 1)) (iZ f') := by
          intro f' g1 g2 hd'
          have em : nI t + (-iZ 1) = iZ ((t : Int) - 1) := by
            rw [iZ_n, iZ_neg, iZ_add]
            congr 1
          rw [em]
          refine ih _ _ ⟨t, f', by omega, rfl, rfl, g1, g2, hd'⟩ ?_
          rw [iZ_T (by omega) (by omega), iZ_T (by omega) (by omega)]
          omega
        have stay : wnP P 12 (quT (qpN P) T) (lyM T) u t = false → ∀ v : Int32, v = nI t + (-iZ 1) → L v (iZ f) := by
          rintro hz v rfl
          exact nxt f hf1 hf2 (dnR_n hI hz)
        rw [ek, sM_isInB (by omega) (by omega)]
        rw [← iZ_0]
        refine ib_b (fun c5 => ⟨mP_in mp ht, ?_⟩) (fun c5 => stay (by rw [wnP, hbu, c5]; rfl))
        rw [nI_clamp (by omega), (mp.2.2.2 t ht).2.2.2.2, sM_isInB (by omega) (by omega)]
        refine bi_b (fun c6 => stay (by rw [wnP, c6]; simp)) (fun c6 => m_lastYear ok hmT5 (m_fits mp ht (lyM_R ok) (bi_b (fun c7 => stay (by rw [wnP, c7]; simp)) (fun c7 => m_lastYear ok hmT5 (m_yearBehind mp ht (lyM_R ok) ?_)))))
        have hbt : hb (quT (qpN P) T) t = true := by rw [hbu, c5]; rfl
        have hpr := pop_rm (s := quT (qpN P) T) (by omega) hbt
        rw [← iZ_1, e1, or_1 (by omega)]
        refine m_wins mp 12 (rm (quT (qpN P) T) t) (qtS T ||| 2 ^ t) _ _ (Nat.lt_of_le_of_lt (sd_le _ _) hul) (or_lt (N := 10) hTS (by omega)) (fun k hk => ?_) (yB_R okp ht c7) (by omega) (by omega) (ib_b (fun c8 => ?_) (fun c8 => ?_))
        · rw [hb_rm (by omega), hb_or, hb_uT (by omega), decide_eq_true hk, Bool.true_and, Bool.not_or]
        · rintro v rfl
          rw [iZ_1]
          have := nxt t (by omega) (by omega) (dnR_y ht hI (by rw [wnP, hbt, c6, c7, c8]; rfl))
          rw [← iZ_n] at this
          exact this
        · rw [iZ_1]
          exact stay (by rw [wnP, c8]; simp)
    · rcases hu' with g | g
      · rw [g.2] at hJ; exact hJ
      · exact absurd e g.1
    · rcases hu' with g | g
      · exact absurd g.1 e
      · rw [g.2] at hJ; exact hJ
  have hf0 : ∀ f : Int, r14 = iZ f → -1 ≤ f → f < 10 → (r14 = -1 ↔ f = -1) := fun f e g1 g2 => by
    rw [e, iZ_m1, iZ_eq (by omega) (by omega) (by omega) (by omega)]
  refine ⟨fun q1 => ⟨fun q2 => mod _ (fun f e g1 g2 => Or.inl ⟨q1, fun q3 => q2 ((hf0 f e g1 g2).mpr q3), rfl⟩), fun q2 => ?_⟩, fun q1 => mod _ (fun f e g1 g2 => Or.inr (Or.inr ⟨q1, e⟩))⟩
  rw [e1]
  exact mod _ (fun f e g1 g2 => Or.inr (Or.inl ⟨q1, (hf0 f e g1 g2).mp q2, rfl⟩))
set_option maxHeartbeats 1000000 in
theorem eq_duelN {SO SB SP SJ Std S : Ob} {Sls : Nat → Option Nat} {P : PlT} {T : TdT} {q : Nat} {x1 : Int32} {R : Int32 → Ob → Ob → Int32 → Ob → Prop} (hp : pB SB Std S P T q) (hW : wkP (w_X3_weighN SP SJ SB Sls) SP P) (hL : lkP S P) (hcv : cV SP P) (hmv : mV S P)
    (hR : ∀ r SP' SJ' S', cV SP' P → mV S' P → lkU S S' → SP'.1 17 = SP.1 17 → R r SP' SJ' r S') : w_X8_duelN SO SB Sls SP SJ Std x1 (fun r SP' SJ' => wM_duel S x1 (fun r' S' => R r SP' SJ' r' S')) := by
  obtain ⟨okp, ok, hT, hmT, h4, hn, -, -, -⟩ := hp
  have h10 := ok.1
  have hp10 := p10 ok.1
  have hl5 := lT_5 ok
  have hul := uT_lt (qpN P) T
  have hpu := pop_uT ok
  have hTS := tS_1024 ok
  have bad : (decide (0 ≤ x1) && decide (x1 ≤ 1)) = false ∨ 7 < pop (quT (qpN P) T) → wM_duel S x1 (fun r' S' => R (-1) SP SJ r' S') := by
    intro hb'
    unfold wM_duel
    rw [sM_lies]
    refine bi_b (fun _ => hR _ _ _ _ hcv hmv lkU.rf rfl) (fun c => ?_)
    rw [sM_tales, hn, hmT.1, pk_sub (by omega)]
    refine le_b _ 7 (by omega) (by decide) (fun q => ?_) (fun _ => hR _ _ _ _ hcv hmv lkU.rf rfl)
    rcases hb' with q2 | q2
    · rw [q2] at c; exact absurd c (by decide)
    · omega
  unfold w_X8_duelN
  refine s_untold ok hT h4 ⟨fun c => bad (Or.inl (by rw [decide_eq_false (Int32.not_le.mpr c)]; rfl)), fun c => ⟨fun c2 => bad (Or.inl (by rw [decide_eq_false (Int32.not_le.mpr c2), Bool.and_false])), fun c2 => s_bitCount (by omega) (le_b _ 7 (by have := pop_le (quT (qpN P) T); omega) (by decide) (fun c3 => hW _ (fun SP' SJ' cv cp c17 => s_lastTeller ok hT ?_)) (fun c3 => bad (Or.inr c3)))⟩⟩
  have l1 : (decide (0 ≤ x1) && decide (x1 ≤ 1)) = true := by rw [decide_eq_true (Int32.not_lt.mp c), decide_eq_true (Int32.not_lt.mp c2)]; rfl
  refine jn_g (fun J => ∀ u, u < 2 → ((qlT T = 0 ∧ u = 1) ∨ (qlT T ≠ 0 ∧ u = 0)) → J (nI u)) ?_ (fun J hJ => qe_b _ 0 (by omega) (by decide) (fun e => hJ 1 (by decide) (Or.inl ⟨e, rfl⟩)) (fun e => hJ 0 (by decide) (Or.inr ⟨e, rfl⟩)))
  intro u hu hu'
  refine s_lastYear ok hT (s_winning (dep := 0) cp 11 (quT (qpN P) T) _ _ hul (lyC_R ok) hu (by omega) (by omega) (fun r14 hr => ?_))
  have e1 : (1 - nI u : Int32) = nI (1 - u) := pk_sub (a := 1) (by omega)
  have mod : ∀ r : Int32, (∀ f : Int, r14 = iZ f → -1 ≤ f → f < 10 → ((¬ x1 = 1 ∧ f ≠ -1 ∧ r = nI u) ∨ (¬ x1 = 1 ∧ f = -1 ∧ r = nI (1 - u)) ∨ (x1 = 1 ∧ r = iZ f))) → wM_duel S x1 (fun r' S' => R r SP' SJ' r' S') := by
    intro r hr'
    unfold wM_duel
    rw [sM_lies, l1]
    refine bi_b (fun q => absurd q (by decide)) (fun _ => ?_)
    rw [sM_tales, hn, hmT.1, pk_sub (by omega)]
    refine le_b _ 7 (by omega) (by decide) (fun _ => hL _ (fun S' lk mp nd mv => ?_)) (fun q => absurd q (by omega))
    have hmT5 := mT_lk hmT lk
    refine m_lastTeller ok hmT5 ?_
    refine jn_g (fun J => J (nI u)) ?_ (fun J hJ => qe_b _ 0 (by omega) (by decide) (fun e => ?_) (fun e => ?_))
    · refine m_toldSet ok hmT5 ?_
      rw [sM_tales, mp.2.1]
      rintro v15 rfl
      rw [iZ_n (qpN P), iZ_1, iZ_sub]
      refine wl2_i (fun x5 x4 => ∃ k f, k ≤ qpN P ∧ x5 = iZ ((k : Int) - 1) ∧ x4 = iZ f ∧ -1 ≤ f ∧ f < 10 ∧ dnR (wnP P 12 (quT (qpN P) T) (lyM T) u) (qpN P) k f) (fun x5 _ => (x5.toInt + 1).toNat) ?_ _ _ ⟨qpN P, -1, Nat.le_refl _, rfl, iZ_m1, by decide, by decide, Or.inl ⟨rfl, fun t h1 h2 => absurd h2 (by omega)⟩⟩
      rintro L x5 x4 ⟨k, f, hk, rfl, rfl, hf1, hf2, hI⟩ ih
      rw [iZ_0]
      refine zlt_b _ _ (by omega) (fun c4 => ?_) (fun c4 => ?_)
      · have hk0 : k = 0 := by omega
        subst hk0
        have hrf := wnR_ly okp hul (by decide) (by decide) (by omega) hr hI
        have fin : ∀ r', r = r' → R r SP' SJ' r' S' := fun r' e => by rw [← e]; exact hR _ _ _ _ cv mv lk c17
        rw [← iZ_1]
        refine ⟨fun q1 => ?_, fun q1 => fin _ ?_⟩
        · rw [iZ_m1]
          refine zqe_b _ _ (by omega) (fun q2 => ?_) (fun q2 => fin _ ?_)
          · rw [e1]
            refine fin _ ?_
            rcases hr' f hrf hf1 hf2 with g | g | g
            · exact absurd q2 g.2.1
            · exact g.2.2
            · exact absurd g.1 q1
          · rcases hr' f hrf hf1 hf2 with g | g | g
            · exact g.2.2
            · exact absurd g.2.1 q2
            · exact absurd g.1 q1
        · rcases hr' f hrf hf1 hf2 with g | g | g
          · exact absurd q1 g.1
          · exact absurd q1 g.1
          · exact g.2
      · obtain ⟨t, rfl⟩ : ∃ t, k = t + 1 := ⟨k - 1, by omega⟩
        have ek : iZ (((t + 1 : Nat) : Int) - 1) = nI t := by
          rw [iZ_n]
          congr 1
          omega
        have ht : t < qpN P := by omega
        have hA : qpA P t < 16 := (okp.2 t ht).2.2.2.2.2.2.2
        have hbu : hb (quT (qpN P) T) t = !hb (qtS T) t := by rw [hb_uT (by omega), decide_eq_true ht, Bool.true_and]
        have nxt : ∀ f', -1 ≤ f' → f' < 10 → dnR (wnP P 12 (quT (qpN P) T) (lyM T) u) (qpN P) t f' → L (nI t + (-iZ 1)) (iZ f') := by
          intro f' g1 g2 hd'
          have em : nI t + (-iZ 1) = iZ ((t : Int) - 1) := by
            rw [iZ_n, iZ_neg, iZ_add]
            congr 1
          rw [em]
          refine ih _ _ ⟨t, f', by omega, rfl, rfl, g1, g2, hd'⟩ ?_
          rw [iZ_T (by omega) (by omega), iZ_T (by omega) (by omega)]
          omega
        have stay : wnP P 12 (quT (qpN P) T) (lyM T) u t = false → ∀ v : Int32, v = nI t + (-iZ 1) → L v (iZ f) := by
          rintro hz v rfl
          exact nxt f hf1 hf2 (dnR_n hI hz)
        rw [ek, sM_isInB (by omega) (by omega)]
        rw [← iZ_0]
        refine ib_b (fun c5 => ⟨mP_in mp ht, ?_⟩) (fun c5 => stay (by rw [wnP, hbu, c5]; rfl))
        rw [nI_clamp (by omega), (mp.2.2.2 t ht).2.2.2.2, sM_isInB (by omega) (by omega)]
        refine bi_b (fun c6 => stay (by rw [wnP, c6]; simp)) (fun c6 => m_lastYear ok hmT5 (m_fits mp ht (lyM_R ok) (bi_b (fun c7 => stay (by rw [wnP, c7]; simp)) (fun c7 => m_lastYear ok hmT5 (m_yearBehind mp ht (lyM_R ok) ?_)))))
        have hbt : hb (quT (qpN P) T) t = true := by rw [hbu, c5]; rfl
        have hpr := pop_rm (s := quT (qpN P) T) (by omega) hbt
        rw [← iZ_1, e1, or_1 (by omega)]
        refine m_wins mp 12 (rm (quT (qpN P) T) t) (qtS T ||| 2 ^ t) _ _ (Nat.lt_of_le_of_lt (sd_le _ _) hul) (or_lt (N := 10) hTS (by omega)) (fun k hk => ?_) (yB_R okp ht c7) (by omega) (by omega) (ib_b (fun c8 => ?_) (fun c8 => ?_))
        · rw [hb_rm (by omega), hb_or, hb_uT (by omega), decide_eq_true hk, Bool.true_and, Bool.not_or]
        · rintro v rfl
          rw [iZ_1]
          have := nxt t (by omega) (by omega) (dnR_y ht hI (by rw [wnP, hbt, c6, c7, c8]; rfl))
          rw [← iZ_n] at this
          exact this
        · rw [iZ_1]
          exact stay (by rw [wnP, c8]; simp)
    · rcases hu' with g | g
      · rw [g.2] at hJ; exact hJ
      · exact absurd e g.1
    · rcases hu' with g | g
      · exact absurd g.1 e
      · rw [g.2] at hJ; exact hJ
  have hf0 : ∀ f : Int, r14 = iZ f → -1 ≤ f → f < 10 → (r14 = -1 ↔ f = -1) := fun f e g1 g2 => by
    rw [e, iZ_m1, iZ_eq (by omega) (by omega) (by omega) (by omega)]
  refine ⟨fun q1 => ⟨fun q2 => mod _ (fun f e g1 g2 => Or.inl ⟨q1, fun q3 => q2 ((hf0 f e g1 g2).mpr q3), rfl⟩), fun q2 => ?_⟩, fun q1 => mod _ (fun f e g1 g2 => Or.inr (Or.inr ⟨q1, e⟩))⟩
  rw [e1]
  exact mod _ (fun f e g1 g2 => Or.inr (Or.inl ⟨q1, (hf0 f e g1 g2).mp q2, rfl⟩))
