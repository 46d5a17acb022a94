/-! ===== from which year on a set can be told: the reference's table ===== -/
def yT (y : Int) : Prop := 0 ≤ y ∧ y < 1000000
def isN (P : PlT) (s l : Nat) (v : Int) : Prop := 0 ≤ v ∧ v ≤ 1000000 ∧ ∀ y, yT y → (v ≤ y ↔ Cn P s l y)
def ndM (S : Ob) (P : PlT) (m : Nat) : Prop := ∀ s, s < m → ∀ l, l < 5 → ∃ v, S.2 30 (5 * s + l) = iZ v ∧ isN P s l v
def BB (P : PlT) (s : Nat) (t u : Nat) (y : Int) : Prop := fB P t y = true ∧ Cn P (rm s t) u (yB P t y)
/-- a tale told by some one, ahead of what is left, from the year on that is needed there -/
theorem BB_v {P : PlT} (h : okP P) {s t u : Nat} (ht : t < qpN P) {v : Int} {y : Int} (hv : ∀ y, 0 ≤ y → y ≤ 2000 → (v ≤ y ↔ Cn P (rm s t) u y)) : BB P s t u y ↔ (qpF P t ≤ qpE P t ∧ v ≤ qpE P t) ∧ qpF P t ≤ y - qpG P t ∧ v ≤ y - qpG P t := by
  unfold BB
  constructor
  · rintro ⟨h1, h2⟩
    have hr := yB_f h ht h1
    have h3 := (hv _ hr.1 hr.2).mpr h2
    have h4 := fB_t.mp h1
    have h5 := yB_le.mp h3
    exact ⟨⟨h4.1, h5.1⟩, h4.2, h5.2⟩
  · rintro ⟨⟨h1, h2⟩, h3, h4⟩
    have hf : fB P t y = true := fB_t.mpr ⟨h1, h3⟩
    have hr := yB_f h ht hf
    exact ⟨hf, (hv _ hr.1 hr.2).mp (yB_le.mpr ⟨h2, h4⟩)⟩
theorem m_f0 {S : Ob} {P : PlT} (h : mP S P) {t : Nat} (ht : t < qpN P) {Q : Int32 → Prop} : wM_factOf S (nI t) 0 Q = Q (iZ (qpF P t)) := by
  have h10 := h.1.1
  rw [show (0 : Int32) = nI 0 from rfl, sM_factOf (by omega), Nat.add_zero, (h.2.2.2 t ht).1]
theorem m_f1 {S : Ob} {P : PlT} (h : mP S P) {t : Nat} (ht : t < qpN P) {Q : Int32 → Prop} : wM_factOf S (nI t) 1 Q = Q (iZ (qpE P t)) := by
  have h10 := h.1.1
  rw [show (1 : Int32) = nI 1 from rfl, sM_factOf (by omega), (h.2.2.2 t ht).2.1]
set_option maxHeartbeats 1000000 in
theorem m_needOf {S : Ob} {P : PlT} (h : mP S P) {s l : Nat} (hs : s < 2 ^ qpN P) (h0 : s ≠ 0) (hl : l < 5) (hT : ndM S P s) {Q : Int32 → Prop} (hq : ∀ v, isN P s l v → Q (iZ v)) : wM_needOf S (nI s) (nI l) Q := by
  have hok := h.1
  have h10 := hok.1
  have hp := p10 h10
  unfold wM_needOf
  refine fo2 (qpN P) (by omega) (fun t x => ∃ b : Int, x = iZ b ∧ 0 ≤ b ∧ b ≤ 1000000 ∧ ∀ y, yT y → (b ≤ y ↔ ∃ t' u, t' < t ∧ u < 4 ∧ hb s t' = true ∧ hb (qpA P t') u = true ∧ mayN P l u = true ∧ BB P s t' u y)) ⟨1000000, rfl, by decide, by decide, fun y hy => ⟨fun q => by have := hy.2; omega, fun ⟨t', u, q, _⟩ => absurd q (Nat.not_lt_zero _)⟩⟩ ?_ ?_
  · rintro L t x ht ⟨b, rfl, hb0, hb1, hI⟩ ih
    have hv := mP_in h ht
    have hbd := hok.2 t ht
    obtain ⟨e1, e2, e3, e4, e5⟩ := h.2.2.2 t ht
    rw [sM_tales, h.2.1]
    refine br_n (fun q => by have := (nI_leI (by omega) (by omega)).mp q; omega) ?_
    refine fo2 4 (by decide) (fun u x => ∃ b' : Int, x = iZ b' ∧ 0 ≤ b' ∧ b' ≤ 1000000 ∧ ∀ y, yT y → (b' ≤ y ↔ b ≤ y ∨ ∃ u', u' < u ∧ hb s t = true ∧ hb (qpA P t) u' = true ∧ mayN P l u' = true ∧ BB P s t u' y)) ⟨b, rfl, hb0, hb1, fun y hy => ⟨Or.inl, fun q => q.elim id (fun ⟨u', q, _⟩ => absurd q (Nat.not_lt_zero _))⟩⟩ ?_ ?_
    · rintro L2 u x hu ⟨b', rfl, hb0', hb1', hI'⟩ ih2
      have e45 : qpA P t < 16 := hbd.2.2.2.2.2.2.2
      have stay : (∀ y, yT y → ¬ (hb s t = true ∧ hb (qpA P t) u = true ∧ mayN P l u = true ∧ BB P s t u y)) → ∀ v : Int32, v = nI u + 1 → L2 v (iZ b') := by
        rintro hno v rfl
        rw [nI_1]
        refine ih2 _ ⟨b', rfl, hb0', hb1', fun y hy => (hI' y hy).trans ⟨fun q => q.imp id (fun ⟨u', q1, q2⟩ => ⟨u', by omega, q2⟩), fun q => q.imp id (fun ⟨u', q1, q2⟩ => ⟨u', ?_, q2⟩)⟩⟩
        rcases Nat.lt_or_ge u' u with c | c
        · exact c
        · have : u' = u := by omega
          subst this
          exact absurd q2 (hno y hy)
      refine br_n (fun q => by have := (nI_leI (a := 4) (b := u) (by decide) (by omega)).mp q; omega) ?_
      rw [sM_isInB (by omega) (by omega)]
      refine bi_b (fun c => stay (fun y hy q => by rw [c] at q; exact absurd q.1 (by decide))) (fun c => ⟨hv, ?_⟩)
      rw [nI_clamp (by omega), e5, sM_isInB (by omega) (by omega)]
      refine bi_b (fun c2 => stay (fun y hy q => by rw [c2] at q; exact absurd q.2.1 (by decide))) (fun c2 => m_mayNext h (by omega) (by omega) (ib_b (fun c3 => stay (fun y hy q => by rw [c3] at q; exact absurd q.2.2.1 (by decide))) (fun c3 => ?_)))
      rw [m_f0 h ht]
      have hr : rm s t < s := rm_lt (by omega) c
      have ei : (5 * (nI s &&& (((1 : Int32) <<< (nI t &&& 31)) ^^^ (-1))) + nI u : Int32) = nI (5 * rm s t + u) := by
        rw [rm_I (by omega)]
        show nI 5 * nI (rm s t) + nI u = _
        rw [pk_mul, nI_add]
      rw [ei, nI_clamp (by omega)]
      refine ⟨vp_in_nI (by omega) (by decide), ?_⟩
      obtain ⟨v, ev, hv0, hv1, hvC⟩ := hT (rm s t) hr u (by omega)
      rw [ev, sM_greater]
      have hB := fun y => BB_v (u := u) (y := y) hok ht (s := s) (v := v) (fun y h1 h2 => hvC y ⟨h1, by omega⟩)
      obtain ⟨g, eg, hg⟩ : ∃ g : Int, (if iZ (qpF P t) ≤ iZ v then iZ v else iZ (qpF P t)) = iZ g ∧ ((qpF P t ≤ v ∧ g = v) ∨ (v < qpF P t ∧ g = qpF P t)) := by
        by_cases q : qpF P t ≤ v
        · exact ⟨v, if_pos ((iZ_le (by omega) (by omega) (by omega) (by omega)).mpr q), Or.inl ⟨q, rfl⟩⟩
        · exact ⟨qpF P t, if_neg (fun q2 => q ((iZ_le (by omega) (by omega) (by omega) (by omega)).mp q2)), Or.inr ⟨by omega, rfl⟩⟩
      rw [eg, m_f1 h ht, e4]
      refine zlt_b _ _ (by omega) (fun c4 => stay (fun y hy q => ?_)) (fun c4 => ⟨hv, ?_⟩)
      · have := (hB y).mp q.2.2.2
        omega
      · rw [iZ_add, sM_lesser]
        rintro w rfl
        obtain ⟨m, em, hm⟩ : ∃ m : Int, (if iZ (g + qpG P t) ≤ iZ b' then iZ (g + qpG P t) else iZ b') = iZ m ∧ ((g + qpG P t ≤ b' ∧ m = g + qpG P t) ∨ (b' < g + qpG P t ∧ m = b')) := by
          by_cases q : g + qpG P t ≤ b'
          · exact ⟨_, if_pos ((iZ_le (by omega) (by omega) (by omega) (by omega)).mpr q), Or.inl ⟨q, rfl⟩⟩
          · exact ⟨_, if_neg (fun q2 => q ((iZ_le (by omega) (by omega) (by omega) (by omega)).mp q2)), Or.inr ⟨by omega, rfl⟩⟩
        rw [em, nI_1]
        refine ih2 _ ⟨m, rfl, by omega, by omega, fun y hy => ?_⟩
        have h1 := hI' y hy
        have h2 : g + qpG P t ≤ y ↔ BB P s t u y := by
          clear h1
          rw [hB y]
          omega
        constructor
        · intro q
          rcases hm with ⟨m1, m2⟩ | ⟨m1, m2⟩
          · exact Or.inr ⟨u, by omega, c, c2, c3, h2.mp (by omega)⟩
          · rcases h1.mp (by omega) with q | ⟨u', q1, q2⟩
            · exact Or.inl q
            · exact Or.inr ⟨u', by omega, q2⟩
        · rintro (q | ⟨u', q1, q2⟩)
          · have := h1.mpr (Or.inl q)
            clear h1
            omega
          · rcases Nat.lt_or_ge u' u with d | d
            · have := h1.mpr (Or.inr ⟨u', d, q2⟩)
              clear h1
              omega
            · have : u' = u := by omega
              subst this
              have := h2.mpr q2.2.2.2
              clear h1
              omega
    · rintro L2 x ⟨b', rfl, hb0', hb1', hI'⟩
      refine br_y (Int32.le_refl _) ?_
      rintro v rfl
      rw [nI_1]
      refine ih _ ⟨b', rfl, hb0', hb1', fun y hy => ?_⟩
      rw [hI' y hy, hI y hy]
      constructor
      · rintro (⟨t', u, q1, q2⟩ | ⟨u, q1, q2⟩)
        · exact ⟨t', u, by omega, q2⟩
        · exact ⟨t, u, by omega, q1, q2⟩
      · rintro ⟨t', u, q1, q2, q3⟩
        rcases Nat.lt_or_ge t' t with d | d
        · exact Or.inl ⟨t', u, d, q2, q3⟩
        · have : t' = t := by omega
          subst this
          exact Or.inr ⟨u, q2, q3⟩
  · rintro L x ⟨b, rfl, hb0, hb1, hI⟩
    rw [sM_tales, h.2.1]
    refine br_y (Int32.le_refl _) (hq b ⟨hb0, hb1, fun y hy => ?_⟩)
    rw [hI y hy, Cn_s h10 h0]
    exact Iff.rfl
theorem mP_same {S S' : Ob} {P : PlT} {ks : List Nat} (h : mP S P) (hs : sameB ks S S') (h3 : 3 ∉ ks) (h26 : 26 ∉ ks) (h27 : 27 ∉ ks) (h28 : 28 ∉ ks) : mP S' P := by
  unfold mP
  rw [hs.2 3 h3, hs.2 26 h26, hs.2 27 h27, hs.2 28 h28]
  exact h
set_option maxHeartbeats 1000000 in
theorem m_needs {S : Ob} {P : PlT} (h : mP S P) {Q : Ob → Prop} (hq : ∀ S', sameB [30] S S' → ndM S' P (2 ^ qpN P) → Q S') : wM_needs S Q := by
  have h10 := h.1.1
  have hp := p10 h10
  unfold wM_needs
  refine fo2 (2 ^ qpN P) (by omega) (fun s S2 => sameB [30] S S2 ∧ ndM S2 P s) ⟨sameB.rf, fun s hs => absurd hs (Nat.not_lt_zero s)⟩ ?_ ?_
  · rintro L s S2 hs ⟨hsm, hN⟩ ih
    have h2 : mP S2 P := mP_same h hsm (by decide) (by decide) (by decide) (by decide)
    rw [sM_tales, h2.2.1, shl_1 (by omega)]
    refine br_n (fun q => by have := (nI_leI (by omega) (by omega)).mp q; omega) ?_
    refine fo2 5 (by decide) (fun l S7 => sameB [30] S S7 ∧ ndM S7 P s ∧ ∀ l', l' < l → ∃ v, S7.2 30 (5 * s + l') = iZ v ∧ isN P s l' v) ⟨hsm, hN, fun l' hl => absurd hl (Nat.not_lt_zero l')⟩ ?_ ?_
    · rintro L2 l S7 hl ⟨hs7, hN7, hl7⟩ ih2
      have h7 : mP S7 P := mP_same h hs7 (by decide) (by decide) (by decide) (by decide)
      refine br_n (fun q => by have := (nI_ltI (a := 4) (b := l) (by decide) (by omega)).mp q; omega) ?_
      have key : ∀ v, isN P s l v → vp_in ((5 * nI s) + nI l) 5120 ∧ ∀ S13 : Ob, S13 = uA S7 30 (Int32.toNatClampNeg ((5 * nI s) + nI l)) (iZ v) → ∀ v14 : Int32, v14 = nI l + 1 → L2 v14 S13 := by
        intro v hv
        have ei : (5 * nI s + nI l : Int32) = nI (5 * s + l) := by
          show nI 5 * nI s + nI l = _
          rw [pk_mul, nI_add]
        rw [ei, nI_clamp (by omega)]
        refine ⟨vp_in_nI (by omega) (by decide), ?_⟩
        rintro S13 rfl w rfl
        rw [nI_1]
        have er : ∀ j, (uA S7 30 (5 * s + l) (iZ v)).2 30 j = if j = 5 * s + l then iZ v else S7.2 30 j := by
          intro j
          rw [uA_2, if_pos rfl, upd_d]
        refine ih2 _ ⟨hs7.uA (by decide), fun s' hs' l' hl' => ?_, fun l' hl' => ?_⟩
        · rw [er, if_neg (by omega)]
          exact hN7 s' hs' l' hl'
        · rw [er]
          by_cases e : l' = l
          · subst e
            rw [if_pos rfl]
            exact ⟨v, rfl, hv⟩
          · rw [if_neg (by omega)]
            exact hl7 l' (by omega)
      rw [jn_d]
      refine qe_b s 0 (by omega) (by decide) (fun c => ?_) (fun c => ?_)
      · subst c
        exact key 0 ⟨by decide, by decide, fun y hy => ⟨fun _ => Cn_0, fun _ => hy.1⟩⟩
      · exact m_needOf h7 hs c hl hN7 (fun v hv => key v hv)
    · rintro L2 S7 ⟨hs7, hN7, hl7⟩
      refine br_y (by decide) ?_
      rintro v rfl
      rw [nI_1]
      refine ih _ ⟨hs7, fun s' hs' l' hl' => ?_⟩
      rcases Nat.lt_or_ge s' s with d | d
      · exact hN7 s' d l' hl'
      · have : s' = s := by omega
        subst this
        exact hl7 l' hl'
  · rintro L S2 ⟨hsm, hN⟩
    have h2 : mP S2 P := mP_same h hsm (by decide) (by decide) (by decide) (by decide)
    rw [sM_tales, h2.2.1, shl_1 (by omega)]
    exact br_y (Int32.le_refl _) (hq S2 hsm hN)
