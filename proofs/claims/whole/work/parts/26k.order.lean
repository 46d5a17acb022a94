/-! ===== the order of a set: the reference, and both ===== -/
def simY (y y' : Int) : Prop := y = y' ∨ (3000 ≤ y ∧ 3000 ≤ y')
theorem simY_t {P : PlT} (hp : okP P) {t : Nat} (ht : t < qpN P) {y y' : Int} (h : simY y y') : fB P t y' = fB P t y ∧ yB P t y' = yB P t y := by
  rcases h with e | ⟨e1, e2⟩
  · rw [e]; exact ⟨rfl, rfl⟩
  · exact ⟨fB_far hp ht e2 e1, yB_far hp ht e2 e1⟩
theorem m_goOnBy {S : Ob} {P : PlT} (h : mP S P) (hN : ndM S P (2 ^ qpN P)) {w r : Nat} (hw : w < 16) (hr : r < 2 ^ qpN P) {y : Int} (hy0 : 0 ≤ y) (hy1 : y ≤ 2000) {Q : Int32 → Prop} (hq : ∀ b, b < 2 ^ 4 → (∀ u, u < 4 → (hb b u = true ↔ hb w u = true ∧ Cn P r u y)) → Q (nI b)) : wM_goOnBy S (nI w) (nI r) (iZ y) Q := by
  have h10 := h.1.1
  have hp := p10 h10
  unfold wM_goOnBy
  refine fo2 4 (by decide) (fun u x => ∃ b, b < 2 ^ 4 ∧ x = nI b ∧ ∀ v, v < 4 → (hb b v = true ↔ v < u ∧ hb w v = true ∧ Cn P r v y)) ⟨0, by decide, rfl, fun v _ => by rw [hb_z]; exact ⟨fun q => absurd q (by decide), fun q => absurd q.1 (Nat.not_lt_zero v)⟩⟩ ?_ ?_
  · rintro L u x hu ⟨b, hb', rfl, hI⟩ ih
    have stay : ¬ (hb w u = true ∧ Cn P r u y) → ∀ v : Int32, v = nI u + 1 → L v (nI b) := by
      rintro hz v rfl
      rw [nI_1]
      refine ih _ ⟨b, hb', rfl, fun v hv => (hI v hv).trans ⟨fun q => ⟨by omega, q.2⟩, fun q => ⟨?_, q.2⟩⟩⟩
      rcases Nat.lt_or_ge v u with d | d
      · exact d
      · have : v = u := by omega
        subst this
        exact absurd q.2 hz
    refine br_n (fun q => by have := (nI_leI (a := 4) (b := u) (by decide) (by omega)).mp q; omega) ?_
    rw [sM_isInB (by omega) (by omega)]
    have ei : (5 * nI r + nI u : Int32) = nI (5 * r + u) := by
      show nI 5 * nI r + nI u = _
      rw [pk_mul, nI_add]
    obtain ⟨v, ev, hv0, hv1, hvC⟩ := hN r hr u (by omega)
    rw [ei, nI_clamp (by omega), ev]
    refine bi_b (fun c => stay (fun q => by rw [c] at q; exact absurd q.1 (by decide))) (fun c => ⟨vp_in_nI (by omega) (by decide), zlt_b _ _ (by omega) (fun c2 => stay (fun q => ?_)) (fun c2 => ?_)⟩)
    · have := (hvC y ⟨hy0, by omega⟩).mpr q.2
      omega
    · have hC : Cn P r u y := (hvC y ⟨hy0, by omega⟩).mp c2
      rintro v9 rfl v10 rfl
      rw [nI_1, or_1 (by omega)]
      refine ih _ ⟨b ||| 2 ^ u, or_lt hb' hu, rfl, fun v hv => ?_⟩
      rw [hb_or, Bool.or_eq_true, decide_eq_true_eq, hI v hv]
      constructor
      · rintro (q | rfl)
        · exact ⟨by omega, q.2⟩
        · exact ⟨by omega, c, hC⟩
      · rintro ⟨q1, q2⟩
        rcases Nat.lt_or_ge v u with d | d
        · exact Or.inl ⟨d, q2⟩
        · exact Or.inr (by omega)
  · rintro L x ⟨b, hb', rfl, hI⟩
    exact br_y (Int32.le_refl _) (hq b hb' (fun u hu => (hI u hu).trans ⟨fun q => q.2, fun q => ⟨hu, q⟩⟩))
theorem m_leadsOn {S : Ob} {P : PlT} (h : mP S P) {l w : Nat} (hl : l < 5) (hw : w < 16) {Q : Int32 → Prop} (h1 : (∃ u, u < 4 ∧ hb w u = true ∧ mayN P l u = true) → Q 1) (h0 : ¬ (∃ u, u < 4 ∧ hb w u = true ∧ mayN P l u = true) → Q 0) : wM_leadsOn S (nI l) (nI w) Q := by
  unfold wM_leadsOn
  refine fo1 4 (by decide) (fun u => ∀ v, v < u → ¬ (hb w v = true ∧ mayN P l v = true)) (fun v hv => absurd hv (Nat.not_lt_zero v)) ?_ ?_
  · rintro L u hu hI ih
    have stay : ¬ (hb w u = true ∧ mayN P l u = true) → ∀ v : Int32, v = nI u + 1 → L v := by
      rintro hz v rfl
      rw [nI_1]
      refine ih (fun v hv => ?_)
      rcases Nat.lt_or_ge v u with d | d
      · exact hI v d
      · rw [show v = u by omega]; exact hz
    refine br_n (fun q => by have := (nI_leI (a := 4) (b := u) (by decide) (by omega)).mp q; omega) ?_
    rw [sM_isInB (by omega) (by omega)]
    exact bi_b (fun c => stay (fun q => by rw [c] at q; exact absurd q.1 (by decide))) (fun c => m_mayNext h (by omega) (by omega) (bi_b (fun c2 => stay (fun q => by rw [c2] at q; exact absurd q.2 (by decide))) (fun c2 => h1 ⟨u, hu, c, c2⟩)))
  · rintro L hI
    exact br_y (Int32.le_refl _) (h0 (fun ⟨u, hu, q⟩ => hI u hu q))
/-- those of a set by whom what is left goes on -/
def goB (P : PlT) (D : LnT) (b : Nat) : Prop := b < 32 ∧ ∀ l, l < 5 → (hb b l = true ↔ hb D.2.2 l = true ∧ Cn P D.1 l D.2.1)
theorem goB_0 {P : PlT} {D : LnT} (h : okL P D) {b : Nat} (hb' : goB P D b) : b ≠ 0 := by
  obtain ⟨l, h1, h2, h3⟩ := h.2.2.2
  intro e
  have := (hb'.2 l h1).mpr ⟨h2, h3⟩
  rw [e, hb_z] at this
  exact absurd this (by decide)
theorem goB_u {P : PlT} (hp : okP P) {D : LnT} (h : okL P D) (h0 : D.1 ≠ 0) {b : Nat} (hb' : goB P D b) {t u : Nat} (ht : t < qpN P) (hu : u < 4) (h1 : hb D.1 t = true) (hf : fB P t D.2.1 = true) : (hb (flw P t b) u = true ∧ Cn P (rm D.1 t) u (yB P t D.2.1)) ↔ (hb (flw P t D.2.2) u = true ∧ Cn P (rm D.1 t) u (yB P t D.2.1)) := by
  rw [flw_hb hp ht hb'.1 (goB_0 h hb') hu, flw_hb hp ht h.2.2.1 (okL_0 h) hu, Bool.and_eq_true, Bool.and_eq_true, anyN_t, anyN_t]
  constructor
  · rintro ⟨⟨q1, l, q2, q3, q4⟩, q5⟩
    exact ⟨⟨q1, l, q2, ((hb'.2 l q2).mp q3).1, q4⟩, q5⟩
  · rintro ⟨⟨q1, l, q2, q3, q4⟩, q5⟩
    exact ⟨⟨q1, l, q2, (hb'.2 l q2).mpr ⟨q3, (Cn_s hp.1 h0).mpr ⟨t, u, ht, hu, h1, q1, q4, hf, q5⟩⟩, q4⟩, q5⟩
def od1 (S : Ob) (P : PlT) (D : LnT) (i : Nat) : Prop := ∀ j, j < i → S.2 32 j = nI (lnT P D j) ∧ S.2 33 j = iZ (lnQ P D (j + 1)).2.1
set_option maxHeartbeats 2000000 in
theorem m_find {S : Ob} {P : PlT} (h : mP S P) (hN : ndM S P (2 ^ qpN P)) {D : LnT} (hD : okL P D) (h0 : D.1 ≠ 0) {b : Nat} (hb' : goB P D b) {y' : Int} (hy' : yR y') (hsy : simY D.2.1 y') {F : Int32 → Int32 → Prop}
    (hq : ∀ b'', goB P (lnN P D) b'' → F (nI b'') (nI (lnK P D))) :
    ∃ n, wl2 (fun L69 (x8_67 : Int32) (x7_68 : Int32) => ((¬ x8_67 = 0 → F x8_67 x7_68) ∧ (x8_67 = 0 → ∀ v78 : Int32, v78 = x7_68 + 1 → wM_isIn (nI D.1) v78 (fun (r79 : Int32) => ((r79 = 0 → L69 x8_67 v78) ∧ (¬ r79 = 0 → wM_fits S v78 (iZ y') (fun (r81 : Int32) => ((r81 = 0 → L69 x8_67 v78) ∧ (¬ r81 = 0 → wM_nexts S v78 (nI b) (fun (r83 : Int32) => wM_yearBehind S v78 (iZ y') (fun (r85 : Int32) => wM_goOnBy S r83 (nI D.1 &&& (((1 : Int32) <<< (v78 &&& 31)) ^^^ (-1))) r85 (fun (r87 : Int32) => L69 r87 v78)))))))))))) n 0 (-1) := by
  have okp := h.1
  have h10 := okp.1
  have hp := p10 h10
  have hD1 := hD.1
  obtain ⟨a, bld, c⟩ := lnK_s okp hD h0
  have hbn := goB_0 hD hb'
  have hb32 := hb'.1
  refine wl2_i (fun x8 x7 => (∃ t : Nat, t ≤ lnK P D ∧ x8 = 0 ∧ x7 = iZ ((t : Int) - 1)) ∨ (x7 = nI (lnK P D) ∧ ∃ b'', b'' ≠ 0 ∧ x8 = nI b'' ∧ goB P (lnN P D) b'')) (fun x8 x7 => if x8 = 0 then 12 - (x7.toInt + 1).toNat else 0) ?_ _ _ (Or.inl ⟨0, Nat.zero_le _, rfl, iZ_m1⟩)
  rintro L x8 x7 hI ih
  rcases hI with ⟨t, ht, rfl, rfl⟩ | ⟨rfl, b'', hb0, rfl, hg⟩
  · refine rb_y rfl ?_
    rintro v78 e78
    have e78' : v78 = nI t := by
      rw [e78, iZ_1, iZ_add, iZ_n]
      congr 1
      omega
    subst e78'
    clear e78
    have htn : t < qpN P := by omega
    obtain ⟨y1, y2⟩ := simY_t okp htn hsy
    have eT : (nI t).toInt = (t : Int) := nI_toInt (by omega)
    have hT' : (iZ ((t : Int) - 1)).toInt = (t : Int) - 1 := iZ_T (by omega) (by omega)
    have stay : ¬ ld P D t → L 0 (nI t) := by
      intro hz
      have : t ≠ lnK P D := fun q => hz (by rw [q]; exact bld)
      refine ih _ _ (Or.inl ⟨t + 1, by omega, rfl, ?_⟩) ?_
      · rw [iZ_n]
        congr 1
        omega
      · rw [if_pos rfl, if_pos rfl, eT, hT']
        omega
    rw [sM_isInB (by omega) (by omega)]
    refine bi_b (fun c1 => stay (fun q => by rw [q.1] at c1; exact absurd c1 (by decide))) (fun c1 => m_fits h htn hy' ?_)
    rw [y1]
    refine bi_b (fun c2 => stay (fun q => by rw [q.2.1] at c2; exact absurd c2 (by decide))) (fun c2 => m_nexts h htn hb32 hbn (m_yearBehind h htn hy' ?_))
    have hyf := yB_f okp htn c2
    have hrl : rm D.1 t < 2 ^ qpN P := Nat.lt_of_le_of_lt (sd_le _ _) hD1
    rw [y2, rm_I (by omega)]
    refine m_goOnBy h hN (flw_lt okp htn _) hrl hyf.1 hyf.2 (fun b'' hb16 hbb => ?_)
    rcases Nat.eq_zero_or_pos b'' with z | z
    · subst z
      refine stay (fun q => ?_)
      obtain ⟨u, q1, q2, q3⟩ := q.2.2
      have := (hbb u q1).mpr ((goB_u okp hD h0 hb' htn q1 c1 c2).mpr ⟨q2, q3⟩)
      rw [hb_z] at this
      exact absurd this (by decide)
    · have hld : ld P D t := by
        obtain ⟨u, hu⟩ := hb_ne (s := b'') (by omega)
        have hu4 := hb_in (N := 4) hb16 hu
        have := (goB_u okp hD h0 hb' htn hu4 c1 c2).mp ((hbb u hu4).mp hu)
        exact ⟨c1, c2, u, hu4, this.1, this.2⟩
      have et : t = lnK P D := by
        rcases Nat.lt_or_ge t (lnK P D) with q | q
        · exact absurd hld (c t q)
        · omega
      refine ih _ _ (Or.inr ⟨by rw [et], b'', by omega, rfl, by omega, fun u hu => ?_⟩) ?_
      · rcases Nat.lt_or_ge u 4 with d | d
        · rw [hbb u d, goB_u okp hD h0 hb' htn d c1 c2, et]
          exact Iff.rfl
        · have e4 : u = 4 := by omega
          subst e4
          have z1 : hb b'' 4 = false := hb_big hb16
          have z2 : hb (lnN P D).2.2 4 = false := hb_big (flw_lt okp a _)
          rw [z1, z2]
          exact ⟨fun q => absurd q (by decide), fun q => absurd q.1 (by decide)⟩
      · rw [if_pos rfl, if_neg (nI_ne0 z (by omega)), hT']
        omega
  · exact rb_n (nI_ne0 (by omega) (by have := hg.1; omega)) (hq b'' hg)
set_option maxHeartbeats 2000000 in
theorem m_orders0 {S : Ob} {P : PlT} {T : TdT} (h : mP S P) (hN : ndM S P (2 ^ qpN P)) (ok : okT (qpN P) T) (hT : mT S T) {s : Nat} (hD : okL P (s, lyC T, 2 ^ qlT T)) {Q : Ob → Prop}
    (hq : ∀ S' : Ob, sameB [32, 33, 34, 35] S S' → od1 S' P (s, lyC T, 2 ^ qlT T) (pop s) → (∀ j, j < pop s → S'.2 34 j = nI (lsF P (s, lyC T, 2 ^ qlT T) (qlT T) (j + 1))) → Q S') : wM_orders0 S (nI s) Q := by
  have okp := h.1
  have h10 := okp.1
  have hp := p10 h10
  have hl5 := lT_5 ok
  have hm10 := pop_le s
  have hs31 : s < 2 ^ 31 := by have := hD.1; show s < 2147483648; have h2 : s < 2 ^ qpN P := this; omega
  unfold wM_orders0
  refine m_lastYear ok hT (m_lastTeller ok hT ?_)
  rintro v5 rfl
  refine sM_ones hs31 ?_
  rw [shl_1 (by omega)]
  have hs : s = ((s, lyC T, 2 ^ qlT T) : LnT).1 := rfl
  have hy : lyC T = ((s, lyC T, 2 ^ qlT T) : LnT).2.1 := rfl
  have ha : 2 ^ qlT T = ((s, lyC T, 2 ^ qlT T) : LnT).2.2 := rfl
  have hsy0 : simY ((s, lyC T, 2 ^ qlT T) : LnT).2.1 (lyM T) := ly_same T
  generalize ((s, lyC T, 2 ^ qlT T) : LnT) = D at hD hq hs hy ha hsy0
  rw [hs]
  rw [hs] at hq hm10
  generalize hm : pop D.1 = m at hm10 hq
  -- the tales and years
  refine fo5 m (by omega) (fun i x4 x3 x2 S12 => ∃ b y', x4 = nI b ∧ goB P (lnQ P D i) b ∧ x3 = iZ y' ∧ yR y' ∧ simY (lnQ P D i).2.1 y' ∧ x2 = nI (lnQ P D i).1 ∧ sameB [32, 33, 34, 35] S S12 ∧ od1 S12 P D i) ⟨2 ^ qlT T, lyM T, rfl, ⟨(p32 hl5).1, fun l hl => ?_⟩, rfl, lyM_R ok, hsy0, rfl, sameB.rf, fun j hj => absurd hj (Nat.not_lt_zero j)⟩ ?_ ?_
  · show _ ↔ hb D.2.2 l = true ∧ Cn P D.1 l D.2.1
    rw [← ha]
    refine ⟨fun q => ⟨q, ?_⟩, fun q => q.1⟩
    obtain ⟨l', h1, h2, h3⟩ := hD.2.2.2
    rw [← ha, hb_2, decide_eq_true_eq] at h2
    rw [hb_2, decide_eq_true_eq] at q
    rw [q, ← h2]; exact h3
  · rintro L i x4 x3 x2 S12 hi ⟨b, y', rfl, hg, rfl, hy', hsy, rfl, hsm, hod⟩ ih
    obtain ⟨g1, g2, g3⟩ := lnQ_s okp hD i (by omega)
    have h12 : mP S12 P := mP_same h hsm (by decide) (by decide) (by decide) (by decide)
    have hN12 : ndM S12 P (2 ^ qpN P) := by unfold ndM; rw [hsm.2 30 (by decide)]; exact hN
    obtain ⟨a, ⟨b1, b2, b3⟩, -⟩ := lnK_s okp g1 (g3 (by omega))
    obtain ⟨y1, y2⟩ := simY_t okp a hsy
    have hv : vp_in (nI i) 10 := vp_in_nI (by omega) (by decide)
    refine br_n (fun q => by have := (nI_leI (by omega) (by omega)).mp q; omega) (m_find h12 hN12 g1 (g3 (by omega)) hg hy' hsy (fun b'' hg'' => ⟨hv, ?_⟩))
    rintro S71 rfl
    have h71 : mP (uA S12 32 (Int32.toNatClampNeg (nI i)) (nI (lnK P (lnQ P D i)))) P := mP_same h (hsm.uA (by decide)) (by decide) (by decide) (by decide) (by decide)
    refine m_yearBehind h71 a hy' ⟨hv, ?_⟩
    rintro S75 rfl v76 rfl v77 rfl
    rw [nI_1, rm_I (by omega), y2, nI_clamp (by omega)]
    have r32 : ∀ A B j, (uA (uA S12 32 i A) 33 i B).2 32 j = if j = i then A else S12.2 32 j := fun A B j => rfl
    have r33 : ∀ A B j, (uA (uA S12 32 i A) 33 i B).2 33 j = if j = i then B else S12.2 33 j := fun A B j => rfl
    refine ih _ _ _ _ ⟨b'', yB P (lnK P (lnQ P D i)) (lnQ P D i).2.1, rfl, hg'', rfl, yB_R okp a b2, Or.inl rfl, rfl, (hsm.uA (by decide)).uA (by decide), fun j hj => ?_⟩
    rw [r32, r33]
    by_cases q : j = i
    · rw [if_pos q, if_pos q, q]
      exact ⟨rfl, rfl⟩
    · rw [if_neg q, if_neg q]
      exact hod j (by omega)
  · rintro L x4 x3 x2 S12 ⟨b, y', rfl, hg, rfl, hy', hsy, rfl, hsm, hod⟩
    refine br_y (Int32.le_refl _) ⟨vp_in_nI (by omega) (by decide), ?_⟩
    rintro S15 rfl v16 rfl
    have e1 : nI m - 1 = iZ ((m : Int) - 1) := by rw [iZ_n, iZ_1, iZ_sub]
    rw [e1, nI_clamp (by omega)]
    -- who can tell, from the end
    refine wl2_i (fun x6 S18 => ∃ k, k ≤ m ∧ x6 = iZ ((k : Int) - 1) ∧ sameB [32, 33, 34, 35] S S18 ∧ od1 S18 P D m ∧ ∀ j, k ≤ j → j < m → S18.2 35 j = nI (wbF P D (m - 1 - j)))
      (fun x6 _ => (x6.toInt + 1).toNat) ?_ _ _ ⟨m, Nat.le_refl _, rfl, hsm.uA (by decide), hod, fun j h1 h2 => absurd h2 (by omega)⟩
    rintro L2 x6 S18 ⟨k, hk, rfl, hs18, hod18, hE⟩ ih2
    have h18 : mP S18 P := mP_same h hs18 (by decide) (by decide) (by decide) (by decide)
    have hT18 : mT S18 T := by unfold mT; rw [hs18.2 3 (by decide)]; exact hT
    have hlt0 : (iZ ((k : Int) - 1) < 0) ↔ k = 0 := by
      rw [iZ_0, iZ_lt (by omega) (by omega) (by omega) (by omega)]
      omega
    rw [hlt0]
    refine ⟨fun c => m_lastTeller ok hT18 ?_, fun c => ?_⟩
    · subst c
      refine fo3 m (by omega) (fun i x S24 => x = nI (lsF P D (qlT T) i) ∧ sameB [32, 33, 34, 35] S S24 ∧ od1 S24 P D m ∧ (∀ j, j < m → S24.2 35 j = nI (wbF P D (m - 1 - j))) ∧ ∀ j, j < i → S24.2 34 j = nI (lsF P D (qlT T) (j + 1))) ⟨rfl, hs18, hod18, fun j hj => hE j (Nat.zero_le _) hj, fun j hj => absurd hj (Nat.not_lt_zero j)⟩ ?_ ?_
      · rintro L3 i x S24 hi ⟨rfl, hs24, hod24, hE24, h34⟩ ih3
        have h24 : mP S24 P := mP_same h hs24 (by decide) (by decide) (by decide) (by decide)
        obtain ⟨q1, u0, q2, q3, q4⟩ := ls_s okp hD hl5 ha.symm i (by omega)
        obtain ⟨w1, -⟩ := wb_s okp hD (m - 1 - i) (by omega)
        rw [hm] at q3
        have hls : lsF P D (qlT T) (i + 1) = fa_first (fun u => hb (wbF P D (m - 1 - i)) u && mayN P (lsF P D (qlT T) i) u) 4 := by rw [lsF, hm]
        have hlt : lsF P D (qlT T) (i + 1) < 4 := by rw [hls]; exact (ff_lt _ _).mpr ⟨u0, q2, by rw [q3, q4]; rfl⟩
        have hyes : (hb (wbF P D (m - 1 - i)) (lsF P D (qlT T) (i + 1)) && mayN P (lsF P D (qlT T) i) (lsF P D (qlT T) (i + 1))) = true := by
          have := fa_first_yes (fun u => hb (wbF P D (m - 1 - i)) u && mayN P (lsF P D (qlT T) i) u) 4 (by rw [← hls]; exact hlt)
          rw [← hls] at this
          exact this
        refine br_n (fun q => by have := (nI_leI (by omega) (by omega)).mp q; omega) ?_
        refine wl1_i (fun x8 => ∃ u, u ≤ lsF P D (qlT T) (i + 1) ∧ x8 = nI u) (fun x8 => 5 - x8.toNatClampNeg) ?_ _ ⟨0, Nat.zero_le _, rfl⟩
        rintro L4 x8 ⟨u, hu, rfl⟩ ih4
        have stay : (hb (wbF P D (m - 1 - i)) u && mayN P (lsF P D (qlT T) i) u) = false → ∀ v : Int32, v = nI u + 1 → L4 v := by
          rintro hz v rfl
          rw [nI_1]
          have : u ≠ lsF P D (qlT T) (i + 1) := fun q => by rw [← q, hz] at hyes; exact absurd hyes (by decide)
          exact ih4 _ ⟨u + 1, by omega, rfl⟩ (by rw [nI_clamp (by omega), nI_clamp (by omega)]; omega)
        rw [nI_clamp (by omega), hE24 i hi, sM_isInB (by omega) (by omega)]
        refine ⟨vp_in_nI (by omega) (by decide), bi_b (fun c1 => stay (by rw [c1]; rfl)) (fun c1 => m_mayNext h24 (by omega) (by omega) (ib_b (fun c2 => stay (by rw [c2, Bool.and_false])) (fun c2 => ⟨vp_in_nI (by omega) (by decide), ?_⟩)))⟩
        have eu : lsF P D (qlT T) (i + 1) = u := by
          rcases Nat.lt_or_ge u (lsF P D (qlT T) (i + 1)) with d | d
          · have := fa_first_no (fun u => hb (wbF P D (m - 1 - i)) u && mayN P (lsF P D (qlT T) i) u) 4 u (by rw [← hls]; exact d)
            rw [c1, c2] at this
            exact absurd this (by decide)
          · omega
        rintro S35 rfl v36 rfl
        rw [nI_1]
        have r34 : ∀ A j, (uA S24 34 i A).2 34 j = if j = i then A else S24.2 34 j := fun A j => rfl
        refine ih3 _ _ ⟨by rw [eu], hs24.uA (by decide), hod24, hE24, fun j hj => ?_⟩
        rw [r34]
        by_cases q : j = i
        · rw [if_pos q, q, eu]
        · rw [if_neg q]
          exact h34 j (by omega)
      · rintro L3 x S24 ⟨rfl, hs24, hod24, hE24, h34⟩
        exact br_y (Int32.le_refl _) (hq S24 hs24 hod24 h34)
    · obtain ⟨i, rfl⟩ : ∃ i, k = i + 1 := ⟨k - 1, by omega⟩
      have ek : iZ (((i + 1 : Nat) : Int) - 1) = nI i := by
        rw [iZ_n]
        congr 1
        omega
      have htn := lnT_n okp hD (j := i) (by omega)
      have hA : qpA P (lnT P D i) < 16 := (okp.2 _ htn).2.2.2.2.2.2.2
      rw [ek]
      refine ⟨vp_in_nI (by omega) (by decide), ?_⟩
      rintro S42 rfl
      rw [nI_clamp (by omega)]
      have e1' : iZ ((m : Int) - 1) = nI (m - 1) := by
        rw [iZ_n]
        congr 1
        omega
      have r35 : ∀ (S0 : Ob) A j, (uA S0 35 i A).2 35 j = if j = i then A else S0.2 35 j := fun S0 A j => rfl
      refine fo2 4 (by decide) (fun u S44 => sameB [32, 33, 34, 35] S S44 ∧ od1 S44 P D m ∧ (∀ j, i < j → j < m → S44.2 35 j = nI (wbF P D (m - 1 - j))) ∧ ∃ r, r < 2 ^ 4 ∧ S44.2 35 i = nI r ∧ ∀ v, v < 4 → (hb r v = true ↔ v < u ∧ hb (qpA P (lnT P D i)) v = true ∧ (i + 1 = m ∨ ∃ w, w < 4 ∧ hb (wbF P D (m - 1 - (i + 1))) w = true ∧ mayN P v w = true))) ⟨hs18.uA (by decide), hod18, fun j h1 h2 => by rw [r35, if_neg (by omega)]; exact hE j (by omega) h2, 0, by decide, by rw [r35, if_pos rfl]; rfl, fun v _ => by rw [hb_z]; exact ⟨fun q => absurd q (by decide), fun q => absurd q.1 (Nat.not_lt_zero v)⟩⟩ ?_ ?_
      · rintro L3 u S44 hu ⟨hs44, hod44, hE44, r, hr, hri, hrb⟩ ih3
        have h44 : mP S44 P := mP_same h hs44 (by decide) (by decide) (by decide) (by decide)
        have stay : ¬ (hb (qpA P (lnT P D i)) u = true ∧ (i + 1 = m ∨ ∃ w, w < 4 ∧ hb (wbF P D (m - 1 - (i + 1))) w = true ∧ mayN P u w = true)) → ∀ v : Int32, v = nI u + 1 → L3 v S44 := by
          rintro hz v rfl
          rw [nI_1]
          refine ih3 _ ⟨hs44, hod44, hE44, r, hr, hri, fun v hv => (hrb v hv).trans ⟨fun q => ⟨by omega, q.2⟩, fun q => ⟨?_, q.2⟩⟩⟩
          rcases Nat.lt_or_ge v u with d | d
          · exact d
          · have : v = u := by omega
            subst this
            exact absurd q.2 hz
        refine br_n (fun q => by have := (nI_leI (a := 4) (b := u) (by decide) (by omega)).mp q; omega) ⟨vp_in_nI (by omega) (by decide), ?_⟩
        rw [(hod44 i (by omega)).1]
        refine ⟨vp_in_nI (by omega) (by decide), ?_⟩
        rw [nI_clamp (by omega), (h44.2.2.2 _ htn).2.2.2.2, sM_isInB (by omega) (by omega)]
        refine bi_b (fun c1 => stay (fun q => by rw [c1] at q; exact absurd q.1 (by decide))) (fun c1 => ?_)
        refine jn_g (fun J => (i + 1 = m ∨ ∃ w, w < 4 ∧ hb (wbF P D (m - 1 - (i + 1))) w = true ∧ mayN P u w = true) → J ()) ?_ (fun J hJ => ?_)
        · intro hy2
          refine ⟨vp_in_nI (by omega) (by decide), vp_in_nI (by omega) (by decide), ?_⟩
          rintro S56 rfl v57 rfl
          rw [nI_1, hri, or_1 (by omega)]
          refine ih3 _ ⟨hs44.uA (by decide), hod44, fun j h1 h2 => by rw [r35, if_neg (by omega)]; exact hE44 j h1 h2, r ||| 2 ^ u, or_lt hr hu, by rw [r35, if_pos rfl], fun v hv => ?_⟩
          rw [hb_or, Bool.or_eq_true, decide_eq_true_eq, hrb v hv]
          constructor
          · rintro (q | rfl)
            · exact ⟨by omega, q.2⟩
            · exact ⟨by omega, c1, hy2⟩
          · rintro ⟨q1, q2⟩
            rcases Nat.lt_or_ge v u with d | d
            · exact Or.inl ⟨d, q2⟩
            · exact Or.inr (by omega)
        · rw [e1']
          refine eq_b _ _ (by omega) (by omega) (fun q => hJ (Or.inl (by omega))) (fun q => ?_)
          rw [nI_1]
          refine ⟨vp_in_nI (by omega) (by decide), ?_⟩
          obtain ⟨w1, -⟩ := wb_s okp hD (m - 1 - (i + 1)) (by omega)
          rw [nI_clamp (by omega), hE44 (i + 1) (by omega) (by omega)]
          exact m_leadsOn h44 (by omega) w1 (fun q2 => br_n (by decide) (hJ (Or.inr q2))) (fun q2 => br_y rfl (stay (fun q3 => q3.2.elim (fun q4 => q (by omega)) q2)))
      · rintro L3 S44 ⟨hs44, hod44, hE44, r, hr, hri, hrb⟩
        refine br_y (Int32.le_refl _) ?_
        rintro v46 rfl
        have em : nI i + (-1) = iZ ((i : Int) - 1) := by
          rw [iZ_n, iZ_m1, iZ_add]
          congr 1
        have er : r = wbF P D (m - 1 - i) := by
          refine hb_ext hr (wb_s okp hD (m - 1 - i) (by omega)).1 (fun v hv => ?_)
          rw [Bool.eq_iff_iff, hrb v hv]
          rcases Classical.em (i + 1 = m) with q | q
          · rw [show m - 1 - i = 0 by omega, wbF, hm, show m - 1 = i by omega]
            exact ⟨fun q2 => q2.2.1, fun q2 => ⟨hv, q2, Or.inl q⟩⟩
          · obtain ⟨w1, -⟩ := wb_s okp hD (m - 1 - (i + 1)) (by omega)
            rw [show m - 1 - i = (m - 1 - (i + 1)) + 1 by omega, wbF, hm, show m - 2 - (m - 1 - (i + 1)) = i by omega]
            rw [flw_hb okp htn (by omega) (wb_0 okp hD (by omega)) hv, Bool.and_eq_true, anyN_t]
            constructor
            · rintro ⟨-, q2, q3⟩
              refine ⟨q2, ?_⟩
              obtain ⟨w, q4, q5, q6⟩ := q3.resolve_left q
              exact ⟨w, by omega, q5, by rw [mayN_c]; exact q6⟩
            · rintro ⟨q2, w, q4, q5, q6⟩
              exact ⟨hv, q2, Or.inr ⟨w, hb_in (N := 4) w1 q5, q5, by rw [mayN_c]; exact q6⟩⟩
        rw [em]
        refine ih2 _ _ ⟨i, by omega, rfl, hs44, hod44, fun j h1 h2 => ?_⟩ ?_
        · rcases Nat.eq_or_lt_of_le h1 with q | q
          · rw [← q, hri, er]
          · exact hE44 j q h2
        · rw [iZ_T (by omega) (by omega), iZ_T (by omega) (by omega)]
          omega
theorem s_at3 {ST : Ob} {m : Nat} {x w : Int32} {Q : Int32 → Prop} (h3 : ST.1 3 = nI m) (hm : m ≤ 10) (hy : ∀ i k, i < m → k < 3 → x = nI i → w = nI k → (decide (0 ≤ x) && decide (x ≤ nI m - 1)) = true → (decide (0 ≤ w) && decide (w ≤ 2)) = true → Q (ST.2 k i)) (hno : ((decide (0 ≤ x) && decide (x ≤ nI m - 1)) = false ∨ (decide (0 ≤ w) && decide (w ≤ 2)) = false) → Q (-1)) : w_X7_at ST x w Q := by
  unfold w_X7_at
  rw [h3]
  rcases is_tale x hm with ⟨j, hj, rfl, e1, e2⟩ | ⟨e1, e2⟩
  · have hj10 : vp_in (nI j) 10 := vp_in_nI (by omega) (by decide)
    refine br_n (nI_pos (by omega)) (le_b _ _ (by omega) (by omega) (fun q => absurd q (by omega)) (fun _ => ?_))
    rw [nI_clamp (by omega)]
    rcases is_tale w (n := 3) (by decide) with ⟨k, hk, rfl, f1, f2⟩ | ⟨f1, f2⟩
    · rw [e32_] at f2
      refine br_n (nI_pos (by omega)) (le_b _ 2 (by omega) (by decide) (fun _ => ?_) (fun q => absurd q (by omega)))
      have hk3 : k = 0 ∨ k = 1 ∨ k = 2 := by omega
      rcases hk3 with rfl | rfl | rfl
      · exact rb_y rfl ⟨hj10, hy j 0 hj (by decide) rfl rfl e2 f2⟩
      · exact rb_n (by decide) (rb_y rfl ⟨hj10, hy j 1 hj (by decide) rfl rfl e2 f2⟩)
      · exact rb_n (by decide) (rb_n (by decide) ⟨hj10, hy j 2 hj (by decide) rfl rfl e2 f2⟩)
    · rw [e32_] at f2
      refine ⟨fun _ => hno (Or.inr f2), fun c => ⟨fun c2 => ?_, fun _ => hno (Or.inr f2)⟩⟩
      rw [decide_eq_true (Int32.not_lt.mp c), decide_eq_true c2] at f2
      exact absurd f2 (by decide)
  · refine ⟨fun _ => hno (Or.inl e2), fun c => ⟨fun _ => hno (Or.inl e2), fun c2 => ?_⟩⟩
    rw [decide_eq_true (Int32.not_lt.mp c), decide_eq_true (Int32.not_le.mp c2)] at e1
    exact absurd e1 (by decide)
set_option maxHeartbeats 1000000 in
theorem eq_order {aLw : Nat → Nat} {SLw : Lw} {SO SB SP SJ Std Sli S : Ob} {Sls : Nat → Option Nat} {P : PlT} {T : TdT} {q : Nat} {x1 x2 x3 : Int32} {R : Int32 → Ob → Ob → Ob → Int32 → Ob → Prop} (hp : pB SB Std S P T q) (hW : rkP (w_X3_reckon aLw SP SJ SB Sls SLw) SP P) (hL : lkP S P) (hcv : cV SP P) (hmv : mV S P)
    (hR : ∀ r SP' SJ' Sli' S', cV SP' P → mV S' P → lkU S S' → SP'.1 17 = SP.1 17 → R r SP' SJ' Sli' r S') : w_X8_order aLw SO SB Sls SP SJ Std Sli SLw x1 x2 x3 (fun r SP' SJ' Sli' => wM_order S x1 x2 x3 (fun r' S' => R r SP' SJ' Sli' r' S')) := by
  obtain ⟨okp, ok, hT, hmT, h4, hn, -, -, -⟩ := hp
  have hp10 := p10 ok.1
  have hl5 := lT_5 ok
  unfold w_X8_order
  refine s_untold ok hT h4 ?_
  rcases set_cases ok x1 with ⟨s, hs, e, h1, h2, h3⟩ | ⟨h1, h2⟩
  · subst e
    have hs1 := hs.1
    have hpl := pop_le s
    refine br_y h1 (hW _ (fun SP' SJ' cv cp cn c17 => s_lastYear ok hT (s_lastTeller ok hT (s_fits cp hs.1 (cn s hs.1) (lT_5 ok) (lyC_C ok) (fun c => rb_n (by decide) ?_) (fun c => rb_y rfl ?_)))))
    · have hD : okL P (s, lyC T, 2 ^ qlT T) := ⟨hs1, lyC_R ok, (p32 hl5).1, qlT T, hl5, by show hb (2 ^ qlT T) (qlT T) = true; rw [hb_2]; exact decide_eq_true rfl, c⟩
      refine s_lineUp cp cn ok hT hD (fun SP2 Sli' a1 a2 a3 => ?_)
      have cp2 : cP SP2 P := cP_same (ks := [14]) cp (by rw [a1]) (by rw [a1]) (fun j hj => a2 j (fun e => hj (by rw [e]; decide))) (by decide)
      have cv2 : cV SP2 P := ⟨fun _ => cp2, fun _ => ⟨cp2, fun s' hs' => by unfold cR; rw [a2 10 (by decide), a2 11 (by decide), a2 12 (by decide), a2 13 (by decide)]; exact cn s' hs'⟩⟩
      have c172 : SP2.1 17 = SP.1 17 := by rw [a1]; exact c17
      have mod : ∀ r : Int32, ((((decide (0 ≤ x2) && decide (x2 ≤ nI (pop s) - 1)) = false ∨ (decide (0 ≤ x3) && decide (x3 ≤ 2)) = false) ∧ r = -1) ∨ (∃ i k, i < pop s ∧ k < 3 ∧ x2 = nI i ∧ x3 = nI k ∧ (decide (0 ≤ x2) && decide (x2 ≤ nI (pop s) - 1)) = true ∧ (decide (0 ≤ x3) && decide (x3 ≤ 2)) = true ∧ r = Sli'.2 k i)) → wM_order S (nI s) x2 x3 (fun r' S' => R r SP2 SJ' Sli' r' S') := by
        intro r hr
        unfold wM_order
        refine m_isSetN ok hmT hn hs1 (fun _ => br_n (by decide) ?_) (fun q => absurd hs.2 q)
        rw [sM_lies]
        refine ib_b (fun f3 => ?_) (fun f3 => hL _ (fun S' lk mp nd mv => m_goesOn mp nd ok (mT_lk hmT lk) hs1 (fun _ => br_n (by decide) (sM_ones (by omega) ?_)) (fun q => absurd c q)))
        · rcases hr with ⟨-, rfl⟩ | ⟨i, k, -, -, -, -, -, g, -⟩
          · exact hR _ _ _ _ _ cv2 hmv lkU.rf c172
          · rw [f3] at g; exact absurd g (by decide)
        · rw [sM_lies]
          refine ib_b (fun f2 => ?_) (fun f2 => m_orders0 mp nd ok (mT_lk hmT lk) hD (fun S13 b1 b2 b3 => ?_))
          · rcases hr with ⟨-, rfl⟩ | ⟨i, k, -, -, -, -, g, -, -⟩
            · exact hR _ _ _ _ _ cv2 mv lk c172
            · rw [f2] at g; exact absurd g (by decide)
          · have mp13 : mP S13 P := mP_same mp b1 (by decide) (by decide) (by decide) (by decide)
            have mv13 : mV S13 P := fun _ => ⟨mp13, by unfold ndM; rw [b1.2 30 (by decide)]; exact nd⟩
            have lk13 : lkU S S13 := lk.tr (lkU.sB b1 (by decide))
            rcases hr with ⟨g, -⟩ | ⟨i, k, hi, hk, rfl, rfl, -, -, rfl⟩
            · rcases g with g | g
              · rw [f2] at g; exact absurd g (by decide)
              · rw [f3] at g; exact absurd g (by decide)
            · have hv : vp_in (nI i) 10 := vp_in_nI (by omega) (by decide)
              obtain ⟨d1, d2⟩ := b2 i hi
              have d3 := b3 i hi
              obtain ⟨f1, f2'⟩ := a3.1.2 i hi
              have f3' := a3.2 i hi
              rw [nI_clamp (by omega), d1, d2, d3]
              have hk3 : k = 0 ∨ k = 1 ∨ k = 2 := by omega
              rcases hk3 with rfl | rfl | rfl
              · refine rb_y rfl ⟨hv, ?_⟩
                rw [f1]
                exact hR _ _ _ _ _ cv2 mv13 lk13 c172
              · refine rb_n (by decide) (rb_y rfl ⟨hv, ?_⟩)
                rw [f2']
                exact hR _ _ _ _ _ cv2 mv13 lk13 c172
              · refine rb_n (by decide) (rb_n (by decide) ⟨hv, ?_⟩)
                rw [f3']
                exact hR _ _ _ _ _ cv2 mv13 lk13 c172
      exact s_at3 a3.1.1 hpl (fun i k hi hk e2 e3 g1 g2 => mod _ (Or.inr ⟨i, k, hi, hk, e2, e3, g1, g2, rfl⟩)) (fun g => mod _ (Or.inl ⟨g, rfl⟩))
    · show wM_order _ _ _ _ _
      unfold wM_order
      refine m_isSetN ok hmT hn hs1 (fun _ => br_n (by decide) ?_) (fun q => absurd hs.2 q)
      rw [sM_lies]
      exact ib_b (fun _ => hR _ _ _ _ _ cv hmv lkU.rf c17) (fun _ => hL _ (fun S' lk mp nd mv => m_goesOn mp nd ok (mT_lk hmT lk) hs1 (fun q => absurd q c) (fun _ => br_y rfl (hR _ _ _ _ _ cv mv lk c17))))
  · refine br_n h1 ?_
    show wM_order _ _ _ _ _
    unfold wM_order
    exact m_isSet ok hmT hn (fun s hs e => absurd (by rw [e]; exact isS_0 ok hs) h1) (fun _ => br_y rfl (hR _ _ _ _ _ hcv hmv lkU.rf rfl))
set_option maxHeartbeats 1000000 in
theorem eq_orderN {SO SB SP SJ Std Sli S : Ob} {Sls : Nat → Option Nat} {P : PlT} {T : TdT} {q : Nat} {x1 x2 x3 : Int32} {R : Int32 → Ob → Ob → Ob → Int32 → Ob → Prop} (hp : pB SB Std S P T q) (hW : rkP (w_X3_reckonN SP SJ SB Sls) SP P) (hL : lkP S P) (hcv : cV SP P) (hmv : mV S P)
    (hR : ∀ r SP' SJ' Sli' S', cV SP' P → mV S' P → lkU S S' → SP'.1 17 = SP.1 17 → R r SP' SJ' Sli' r S') : w_X8_orderN SO SB Sls SP SJ Std Sli x1 x2 x3 (fun r SP' SJ' Sli' => wM_order S x1 x2 x3 (fun r' S' => R r SP' SJ' Sli' r' S')) := by
  obtain ⟨okp, ok, hT, hmT, h4, hn, -, -, -⟩ := hp
  have hp10 := p10 ok.1
  have hl5 := lT_5 ok
  unfold w_X8_orderN
  refine s_untold ok hT h4 ?_
  rcases set_cases ok x1 with ⟨s, hs, e, h1, h2, h3⟩ | ⟨h1, h2⟩
  · subst e
    have hs1 := hs.1
    have hpl := pop_le s
    refine br_y h1 (hW _ (fun SP' SJ' cv cp cn c17 => s_lastYear ok hT (s_lastTeller ok hT (s_fits cp hs.1 (cn s hs.1) (lT_5 ok) (lyC_C ok) (fun c => rb_n (by decide) ?_) (fun c => rb_y rfl ?_)))))
    · have hD : okL P (s, lyC T, 2 ^ qlT T) := ⟨hs1, lyC_R ok, (p32 hl5).1, qlT T, hl5, by show hb (2 ^ qlT T) (qlT T) = true; rw [hb_2]; exact decide_eq_true rfl, c⟩
      refine s_lineUp cp cn ok hT hD (fun SP2 Sli' a1 a2 a3 => ?_)
      have cp2 : cP SP2 P := cP_same (ks := [14]) cp (by rw [a1]) (by rw [a1]) (fun j hj => a2 j (fun e => hj (by rw [e]; decide))) (by decide)
      have cv2 : cV SP2 P := ⟨fun _ => cp2, fun _ => ⟨cp2, fun s' hs' => by unfold cR; rw [a2 10 (by decide), a2 11 (by decide), a2 12 (by decide), a2 13 (by decide)]; exact cn s' hs'⟩⟩
      have c172 : SP2.1 17 = SP.1 17 := by rw [a1]; exact c17
      have mod : ∀ r : Int32, ((((decide (0 ≤ x2) && decide (x2 ≤ nI (pop s) - 1)) = false ∨ (decide (0 ≤ x3) && decide (x3 ≤ 2)) = false) ∧ r = -1) ∨ (∃ i k, i < pop s ∧ k < 3 ∧ x2 = nI i ∧ x3 = nI k ∧ (decide (0 ≤ x2) && decide (x2 ≤ nI (pop s) - 1)) = true ∧ (decide (0 ≤ x3) && decide (x3 ≤ 2)) = true ∧ r = Sli'.2 k i)) → wM_order S (nI s) x2 x3 (fun r' S' => R r SP2 SJ' Sli' r' S') := by
        intro r hr
        unfold wM_order
        refine m_isSetN ok hmT hn hs1 (fun _ => br_n (by decide) ?_) (fun q => absurd hs.2 q)
        rw [sM_lies]
        refine ib_b (fun f3 => ?_) (fun f3 => hL _ (fun S' lk mp nd mv => m_goesOn mp nd ok (mT_lk hmT lk) hs1 (fun _ => br_n (by decide) (sM_ones (by omega) ?_)) (fun q => absurd c q)))
        · rcases hr with ⟨-, rfl⟩ | ⟨i, k, -, -, -, -, -, g, -⟩
          · exact hR _ _ _ _ _ cv2 hmv lkU.rf c172
          · rw [f3] at g; exact absurd g (by decide)
        · rw [sM_lies]
          refine ib_b (fun f2 => ?_) (fun f2 => m_orders0 mp nd ok (mT_lk hmT lk) hD (fun S13 b1 b2 b3 => ?_))
          · rcases hr with ⟨-, rfl⟩ | ⟨i, k, -, -, -, -, g, -, -⟩
            · exact hR _ _ _ _ _ cv2 mv lk c172
            · rw [f2] at g; exact absurd g (by decide)
          · have mp13 : mP S13 P := mP_same mp b1 (by decide) (by decide) (by decide) (by decide)
            have mv13 : mV S13 P := fun _ => ⟨mp13, by unfold ndM; rw [b1.2 30 (by decide)]; exact nd⟩
            have lk13 : lkU S S13 := lk.tr (lkU.sB b1 (by decide))
            rcases hr with ⟨g, -⟩ | ⟨i, k, hi, hk, rfl, rfl, -, -, rfl⟩
            · rcases g with g | g
              · rw [f2] at g; exact absurd g (by decide)
              · rw [f3] at g; exact absurd g (by decide)
            · have hv : vp_in (nI i) 10 := vp_in_nI (by omega) (by decide)
              obtain ⟨d1, d2⟩ := b2 i hi
              have d3 := b3 i hi
              obtain ⟨f1, f2'⟩ := a3.1.2 i hi
              have f3' := a3.2 i hi
              rw [nI_clamp (by omega), d1, d2, d3]
              have hk3 : k = 0 ∨ k = 1 ∨ k = 2 := by omega
              rcases hk3 with rfl | rfl | rfl
              · refine rb_y rfl ⟨hv, ?_⟩
                rw [f1]
                exact hR _ _ _ _ _ cv2 mv13 lk13 c172
              · refine rb_n (by decide) (rb_y rfl ⟨hv, ?_⟩)
                rw [f2']
                exact hR _ _ _ _ _ cv2 mv13 lk13 c172
              · refine rb_n (by decide) (rb_n (by decide) ⟨hv, ?_⟩)
                rw [f3']
                exact hR _ _ _ _ _ cv2 mv13 lk13 c172
      exact s_at3 a3.1.1 hpl (fun i k hi hk e2 e3 g1 g2 => mod _ (Or.inr ⟨i, k, hi, hk, e2, e3, g1, g2, rfl⟩)) (fun g => mod _ (Or.inl ⟨g, rfl⟩))
    · show wM_order _ _ _ _ _
      unfold wM_order
      refine m_isSetN ok hmT hn hs1 (fun _ => br_n (by decide) ?_) (fun q => absurd hs.2 q)
      rw [sM_lies]
      exact ib_b (fun _ => hR _ _ _ _ _ cv hmv lkU.rf c17) (fun _ => hL _ (fun S' lk mp nd mv => m_goesOn mp nd ok (mT_lk hmT lk) hs1 (fun q => absurd q c) (fun _ => br_y rfl (hR _ _ _ _ _ cv mv lk c17))))
  · refine br_n h1 ?_
    show wM_order _ _ _ _ _
    unfold wM_order
    exact m_isSet ok hmT hn (fun s hs e => absurd (by rw [e]; exact isS_0 ok hs) h1) (fun _ => br_y rfl (hR _ _ _ _ _ hcv hmv lkU.rf rfl))
