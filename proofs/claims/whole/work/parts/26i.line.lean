/-! ===== the order of a set: pure, and the class's line ===== -/
theorem ff_cong {p q : Nat → Bool} : ∀ {n : Nat}, (∀ k, k < n → p k = q k) → fa_first p n = fa_first q n
  | 0, _ => rfl
  | n + 1, h => by
    have ih := ff_cong (p := p) (q := q) (n := n) (fun k hk => h k (by omega))
    unfold fa_first
    rw [ih, h n (by omega)]
theorem ff_eq {p : Nat → Bool} {n i : Nat} (hi : i < n) (h : p i = true) (h2 : ∀ j, j < i → p j = false) : fa_first p n = i := by
  have hl : fa_first p n < n := (ff_lt p n).mpr ⟨i, hi, h⟩
  have h3 := fa_first_yes p n hl
  have h4 := fa_first_no p n
  rcases Nat.lt_trichotomy (fa_first p n) i with q | q | q
  · rw [h2 _ q] at h3; exact absurd h3 (by decide)
  · exact q
  · have := h4 i q
    rw [h] at this; exact absurd this (by decide)
abbrev LnT := Nat × Int × Nat
def ld (P : PlT) (D : LnT) (t : Nat) : Prop := hb D.1 t = true ∧ fB P t D.2.1 = true ∧ ∃ u, u < 4 ∧ hb (flw P t D.2.2) u = true ∧ Cn P (rm D.1 t) u (yB P t D.2.1)
noncomputable def ldB (P : PlT) (D : LnT) (t : Nat) : Bool := @decide (ld P D t) (Classical.propDecidable _)
theorem ldB_t {P : PlT} {D : LnT} {t : Nat} : ldB P D t = true ↔ ld P D t := by unfold ldB; exact @decide_eq_true_iff _ (Classical.propDecidable _)
theorem ldB_f {P : PlT} {D : LnT} {t : Nat} (h : ¬ ld P D t) : ldB P D t = false := by
  cases e : ldB P D t
  · rfl
  · exact absurd (ldB_t.mp e) h
noncomputable def lnK (P : PlT) (D : LnT) : Nat := fa_first (ldB P D) (qpN P)
noncomputable def lnN (P : PlT) (D : LnT) : LnT := (rm D.1 (lnK P D), yB P (lnK P D) D.2.1, flw P (lnK P D) D.2.2)
noncomputable def lnQ (P : PlT) (D : LnT) : Nat → LnT
  | 0 => D
  | i + 1 => lnN P (lnQ P D i)
/-- a state from which all that is left can be told -/
def okL (P : PlT) (D : LnT) : Prop := D.1 < 2 ^ qpN P ∧ yR D.2.1 ∧ D.2.2 < 32 ∧ ∃ l, l < 5 ∧ hb D.2.2 l = true ∧ Cn P D.1 l D.2.1
theorem okL_0 {P : PlT} {D : LnT} (h : okL P D) : D.2.2 ≠ 0 := by
  obtain ⟨l, _, h2, _⟩ := h.2.2.2
  intro e
  rw [e, hb_z] at h2
  exact absurd h2 (by decide)
theorem lnK_s {P : PlT} (hp : okP P) {D : LnT} (h : okL P D) (h0 : D.1 ≠ 0) : lnK P D < qpN P ∧ ld P D (lnK P D) ∧ ∀ t, t < lnK P D → ¬ ld P D t := by
  have hn0 := okL_0 h
  obtain ⟨h1, h2, h3, l, hl, hbl, hC⟩ := h
  obtain ⟨t, u, a1, a2, a3, a4, a5, a6, a7⟩ := (Cn_s hp.1 h0).mp hC
  have hld : ld P D t := ⟨a3, a6, u, a2, by rw [flw_hb hp a1 h3 hn0 a2, a4, Bool.true_and, anyN_t]; exact ⟨l, hl, hbl, a5⟩, a7⟩
  have hlt : lnK P D < qpN P := (ff_lt _ _).mpr ⟨t, a1, ldB_t.mpr hld⟩
  refine ⟨hlt, ldB_t.mp (fa_first_yes _ _ hlt), fun t' ht' q => ?_⟩
  have := fa_first_no (ldB P D) (qpN P) t' ht'
  rw [ldB_t.mpr q] at this
  exact absurd this (by decide)
theorem okL_n {P : PlT} (hp : okP P) {D : LnT} (h : okL P D) (h0 : D.1 ≠ 0) : okL P (lnN P D) ∧ (lnN P D).2.2 < 16 ∧ pop (lnN P D).1 + 1 = pop D.1 := by
  obtain ⟨a, ⟨b1, b2, u, b3, b4, b5⟩, c⟩ := lnK_s hp h h0
  have h10 := hp.1
  have hf := flw_lt hp a D.2.2
  refine ⟨⟨Nat.lt_of_le_of_lt (sd_le _ _) h.1, yB_R hp a b2, ?_, u, by omega, b4, b5⟩, hf, pop_rm (by omega) b1⟩
  show flw P (lnK P D) D.2.2 < 32
  omega
theorem pop_z : pop 0 = 0 := by rw [pop_ct]; exact fb_ct_zero.mpr (fun k _ => hb_z k)
theorem lnQ_s {P : PlT} (hp : okP P) {D : LnT} (h : okL P D) : ∀ i, i ≤ pop D.1 → okL P (lnQ P D i) ∧ pop (lnQ P D i).1 + i = pop D.1 ∧ (i < pop D.1 → (lnQ P D i).1 ≠ 0)
  | 0, _ => ⟨h, rfl, fun q e => by
      have e' : D.1 = 0 := e
      rw [e', pop_z] at q
      exact absurd q (Nat.not_lt_zero 0)⟩
  | i + 1, hi => by
    obtain ⟨g1, g2, g3⟩ := lnQ_s hp h i (by omega)
    obtain ⟨k1, k2, k3⟩ := okL_n hp g1 (g3 (by omega))
    have e : pop (lnQ P D (i + 1)).1 + (i + 1) = pop D.1 := by
      show pop (lnN P (lnQ P D i)).1 + (i + 1) = _
      omega
    refine ⟨k1, e, fun q e2 => ?_⟩
    rw [e2, pop_z] at e
    omega
theorem lnQ_e {P : PlT} (hp : okP P) {D : LnT} (h : okL P D) : (lnQ P D (pop D.1)).1 = 0 := by
  obtain ⟨g1, g2, -⟩ := lnQ_s hp h (pop D.1) (Nat.le_refl _)
  have := p10 hp.1
  rcases Nat.eq_zero_or_pos (lnQ P D (pop D.1)).1 with q | q
  · exact q
  · have h1 := g1.1
    have := pop_pos (s := (lnQ P D (pop D.1)).1) (by omega) (by omega)
    omega
noncomputable def lnT (P : PlT) (D : LnT) (i : Nat) : Nat := lnK P (lnQ P D i)
/-- tellers who can tell the j-th from the end so that the rest goes on -/
noncomputable def wbF (P : PlT) (D : LnT) : Nat → Nat
  | 0 => qpA P (lnT P D (pop D.1 - 1))
  | j + 1 => flw P (lnT P D (pop D.1 - 2 - j)) (wbF P D j)
noncomputable def lsF (P : PlT) (D : LnT) (l : Nat) : Nat → Nat
  | 0 => l
  | k + 1 => fa_first (fun u => hb (wbF P D (pop D.1 - 1 - k)) u && mayN P (lsF P D l k) u) 4
theorem mayN_c (P : PlT) (l u : Nat) : mayN P l u = mayN P u l := by
  unfold mayN
  by_cases q : l = u
  · rw [q]
  · rw [decide_eq_false q, decide_eq_false (fun e => q e.symm)]
/-- the chain: some one of those who can tell a tale has one ahead of him -/
theorem wb_s {P : PlT} (hp : okP P) {D : LnT} (h : okL P D) : ∀ j, j < pop D.1 → wbF P D j < 16 ∧ ∃ v, v < 4 ∧ hb (wbF P D j) v = true ∧ hb (lnQ P D (pop D.1 - j)).2.2 v = true
  | 0, hj => by
    obtain ⟨g1, g2, g3⟩ := lnQ_s hp h (pop D.1 - 1) (by omega)
    obtain ⟨a, ⟨b1, b2, u, b3, b4, b5⟩, c⟩ := lnK_s hp g1 (g3 (by omega))
    have hA : qpA P (lnT P D (pop D.1 - 1)) < 16 := (hp.2 _ a).2.2.2.2.2.2.2
    refine ⟨hA, u, b3, ?_, ?_⟩
    · rw [flw_hb hp a g1.2.2.1 (okL_0 g1) b3, Bool.and_eq_true] at b4
      exact b4.1
    · rw [Nat.sub_zero]
      obtain ⟨m, hm⟩ : ∃ m, pop D.1 = m + 1 := ⟨pop D.1 - 1, by omega⟩
      rw [hm] at b4 ⊢
      exact b4
  | j + 1, hj => by
    obtain ⟨i1, v, i2, i3, i4⟩ := wb_s hp h j (by omega)
    obtain ⟨m, hm⟩ : ∃ m, pop D.1 - j = m + 1 + 1 := ⟨pop D.1 - j - 2, by omega⟩
    obtain ⟨g1, g2, g3⟩ := lnQ_s hp h m (by omega)
    obtain ⟨f1, f2, f3⟩ := lnQ_s hp h (m + 1) (by omega)
    obtain ⟨a, -, -⟩ := lnK_s hp f1 (f3 (by omega))
    obtain ⟨a', -, -⟩ := lnK_s hp g1 (g3 (by omega))
    have e1 : pop D.1 - 2 - j = m := by omega
    have e2 : pop D.1 - (j + 1) = m + 1 := by omega
    have hb0 : wbF P D j ≠ 0 := by
      intro q
      rw [q, hb_z] at i3
      exact absurd i3 (by decide)
    rw [hm] at i4
    have i5 : hb (flw P (lnK P (lnQ P D (m + 1))) (lnQ P D (m + 1)).2.2) v = true := i4
    rw [flw_hb hp a f1.2.2.1 (okL_0 f1) i2, Bool.and_eq_true, anyN_t] at i5
    obtain ⟨l, hl, q1, q2⟩ := i5.2
    have q1' : hb (flw P (lnK P (lnQ P D m)) (lnQ P D m).2.2) l = true := q1
    have hl4 : l < 4 := hb_in (N := 4) (flw_lt hp a' _) q1'
    have q3 := q1'
    rw [flw_hb hp a' g1.2.2.1 (okL_0 g1) hl4, Bool.and_eq_true] at q3
    rw [wbF, e1, e2]
    refine ⟨flw_lt hp a' _, l, hl4, ?_, q1⟩
    show hb (flw P (lnK P (lnQ P D m)) (wbF P D j)) l = true
    rw [flw_hb hp a' (by omega) hb0 hl4, q3.1, Bool.true_and, anyN_t]
    exact ⟨v, by omega, i3, by rw [mayN_c]; exact q2⟩
theorem wb_0 {P : PlT} (hp : okP P) {D : LnT} (h : okL P D) {j : Nat} (hj : j < pop D.1) : wbF P D j ≠ 0 := by
  obtain ⟨_, v, _, i3, _⟩ := wb_s hp h j hj
  intro q
  rw [q, hb_z] at i3
  exact absurd i3 (by decide)
/-- there is always one who can tell next -/
theorem ls_s {P : PlT} (hp : okP P) {D : LnT} (h : okL P D) {l : Nat} (hl : l < 5) (ha : D.2.2 = 2 ^ l) : ∀ k, k < pop D.1 → (lsF P D l k < 5 ∧ ∃ u, u < 4 ∧ hb (wbF P D (pop D.1 - 1 - k)) u = true ∧ mayN P (lsF P D l k) u = true)
  | 0, hk => by
    refine ⟨hl, ?_⟩
    obtain ⟨m, hm⟩ : ∃ m, pop D.1 = m + 1 := ⟨pop D.1 - 1, by omega⟩
    obtain ⟨-, v, i2, i3, i4⟩ := wb_s hp h (pop D.1 - 1) (by omega)
    rw [show pop D.1 - (pop D.1 - 1) = 0 + 1 by omega] at i4
    obtain ⟨g1, g2, g3⟩ := lnQ_s hp h 0 (by omega)
    obtain ⟨a, -, -⟩ := lnK_s hp g1 (g3 (by omega))
    have i5 : hb (flw P (lnK P D) D.2.2) v = true := i4
    have a' : lnK P D < qpN P := a
    rw [flw_hb hp a' h.2.2.1 (okL_0 h) i2, ha, any_1 hl, Bool.and_eq_true] at i5
    exact ⟨v, i2, by rw [Nat.sub_zero]; exact i3, i5.2⟩
  | k + 1, hk => by
    obtain ⟨i1, u, i2, i3, i4⟩ := ls_s hp h hl ha k (by omega)
    have hlt : lsF P D l (k + 1) < 4 := (ff_lt _ _).mpr ⟨u, i2, by rw [i3, i4]; rfl⟩
    refine ⟨by omega, ?_⟩
    have hy := fa_first_yes _ _ hlt
    rw [Bool.and_eq_true] at hy
    have hy1 : hb (wbF P D (pop D.1 - 1 - k)) (lsF P D l (k + 1)) = true := hy.1
    obtain ⟨j, hj⟩ : ∃ j, pop D.1 - 1 - k = j + 1 := ⟨pop D.1 - 2 - k, by omega⟩
    obtain ⟨g1, g2, g3⟩ := lnQ_s hp h (pop D.1 - 2 - j) (by omega)
    obtain ⟨a, -, -⟩ := lnK_s hp g1 (g3 (by omega))
    have hw := (wb_s hp h j (by omega)).1
    rw [hj, wbF] at hy1
    have hy2 : hb (flw P (lnK P (lnQ P D (pop D.1 - 2 - j))) (wbF P D j)) (lsF P D l (k + 1)) = true := hy1
    rw [flw_hb hp a (by omega) (wb_0 hp h (by omega)) hlt, Bool.and_eq_true, anyN_t] at hy2
    obtain ⟨v, hv, q1, q2⟩ := hy2.2
    refine ⟨v, hb_in (N := 4) hw q1, ?_, by rw [mayN_c]; exact q2⟩
    rw [show pop D.1 - 1 - (k + 1) = j by omega]
    exact q1
/-! the class -/
theorem s_leadsOn {SP : Ob} {P : PlT} (h : cP SP P) (hN : ndC SP P (2 ^ qpN P)) {D : LnT} (hD : okL P D) {t : Nat} (ht : t < qpN P) (hb1 : hb D.1 t = true) {Q : Int32 → Prop} (hy : ld P D t → Q 1) (hno : ¬ ld P D t → Q 0) : w_X3_leadsOn SP (nI t) (nI (rm D.1 t)) (iZ D.2.1) (nI D.2.2) Q := by
  have okp := h.1
  have h10 := okp.1
  have hp := p10 h10
  have hD1 := hD.1
  have hD3 := hD.2.2.1
  have hfl16 := flw_lt okp ht D.2.2
  have hrl : rm D.1 t < 2 ^ qpN P := Nat.lt_of_le_of_lt (sd_le _ _) hD1
  have hyr := yB_r okp ht hD.2.1
  unfold w_X3_leadsOn
  refine s_yearOf h ht hD.2.1 (s_followers h ht (by omega) ?_)
  refine fo1 4 (by decide) (fun u => ¬ (fB P t D.2.1 = true ∧ ∃ u', u' < u ∧ hb (flw P t D.2.2) u' = true ∧ Cn P (rm D.1 t) u' (yB P t D.2.1))) (fun q => by obtain ⟨_, u', q, _⟩ := q; exact Nat.not_lt_zero _ q) ?_ ?_
  · rintro L u hu hI ih
    have stay : ¬ (fB P t D.2.1 = true ∧ hb (flw P t D.2.2) u = true ∧ Cn P (rm D.1 t) u (yB P t D.2.1)) → ∀ v : Int32, v = nI u + 1 → L v := by
      rintro hz v rfl
      rw [nI_1]
      refine ih (fun ⟨q1, u', q2, q3⟩ => ?_)
      rcases Nat.lt_or_ge u' u with d | d
      · exact hI ⟨q1, u', d, q3⟩
      · have : u' = u := by omega
        subst this
        exact hz ⟨q1, q3⟩
    refine br_n (fun q => by have := (nI_leI (a := 4) (b := u) (by decide) (by omega)).mp q; omega) (zm_b _ (by unfold yN; split <;> omega) (fun c => stay (fun q => ?_)) (fun c => hb_b (by omega) (by omega) (fun c2 => stay (fun q => by rw [c2] at q; exact absurd q.2.1 (by decide))) (fun c2 => ?_)))
    · have := yB_f okp ht q.1
      rw [yN, if_pos q.1] at c
      omega
    · have hf : fB P t D.2.1 = true := by
        cases e : fB P t D.2.1
        · rw [yN, if_neg (by rw [e]; decide)] at c; exact absurd rfl c
        · rfl
      have hyf := yB_f okp ht hf
      rw [yN, if_pos hf]
      exact s_fits h hrl (hN _ hrl) (by omega) ⟨hyf.1, by omega⟩ (fun q => br_n (by decide) (hy ⟨hb1, hf, u, hu, c2, q⟩)) (fun q => br_y rfl (stay (fun q2 => q q2.2.2)))
  · rintro L hI
    exact br_y (Int32.le_refl _) (hno (fun q => hI ⟨q.2.1, q.2.2⟩))
theorem s_firstTale {SP : Ob} {P : PlT} (h : cP SP P) (hN : ndC SP P (2 ^ qpN P)) {D : LnT} (hD : okL P D) (h0 : D.1 ≠ 0) {Q : Int32 → Prop} (hq : Q (nI (lnK P D))) : w_X3_firstTale SP (nI D.1) (iZ D.2.1) (nI D.2.2) Q := by
  have okp := h.1
  have h10 := okp.1
  have hp := p10 h10
  have hD1 := hD.1
  unfold w_X3_firstTale
  rw [h.2.1]
  refine fo1 (qpN P) (by omega) (fun t => ∀ t', t' < t → ¬ ld P D t') (fun t' ht' => absurd ht' (Nat.not_lt_zero t')) ?_ ?_
  · rintro L t ht hI ih
    have stay : ¬ ld P D t → ∀ v : Int32, v = nI t + 1 → L v := by
      rintro hz v rfl
      rw [nI_1]
      refine ih (fun t' ht' => ?_)
      rcases Nat.lt_or_ge t' t with q | q
      · exact hI t' q
      · have : t' = t := by omega
        subst this
        exact hz
    refine br_n (fun q => by have := (nI_leI (by omega) (by omega)).mp q; omega) (hb_b (by omega) (by omega) (fun c => stay (fun q => by rw [q.1] at c; exact absurd c (by decide))) (fun c => ?_))
    rw [rm_I (by omega)]
    refine s_leadsOn h hN hD ht c (fun q => br_n (by decide) ?_) (fun q => br_y rfl (stay q))
    have : lnK P D = t := ff_eq ht (ldB_t.mpr q) (fun j hj => ldB_f (hI j hj))
    rw [← this]; exact hq
  · rintro L hI
    obtain ⟨a, b, _⟩ := lnK_s okp hD h0
    exact absurd b (hI _ a)
theorem s_lowestBit {b : Nat} (hb' : b < 1024) {Q : Int32 → Prop} (hq : Q (nI (fa_first (hb b) 4))) : w_X3_lowestBit (nI b) Q := by
  unfold w_X3_lowestBit
  refine fo1 4 (by decide) (fun u => ∀ j, j < u → hb b j = false) (fun j hj => absurd hj (Nat.not_lt_zero j)) ?_ ?_
  · rintro L u hu hI ih
    refine br_n (fun q => by have := (nI_leI (a := 4) (b := u) (by decide) (by omega)).mp q; omega) (hb_b (by omega) (by omega) (fun c => ?_) (fun c => ?_))
    · rintro v rfl
      rw [nI_1]
      refine ih (fun j hj => ?_)
      rcases Nat.lt_or_ge j u with q | q
      · exact hI j q
      · rw [show j = u by omega]; exact c
    · rw [ff_eq hu c hI] at hq; exact hq
  · rintro L hI
    refine br_y (Int32.le_refl _) ?_
    have : fa_first (hb b) 4 = 4 := by
      have h1 := fa_first_le (hb b) 4
      rcases Nat.lt_or_ge (fa_first (hb b) 4) 4 with q | q
      · have := fa_first_yes _ _ q
        rw [hI _ q] at this
        exact absurd this (by decide)
      · omega
    rw [this] at hq
    exact hq
