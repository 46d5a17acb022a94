/-! ===== what was told; sets that go on ===== -/
abbrev TdT := Nat × (Nat → Nat) × (Nat → Int) × (Nat → Nat)
def qtM (T : TdT) : Nat := T.1
def qtF (T : TdT) (i : Nat) : Nat := T.2.1 i
def qtY (T : TdT) (i : Nat) : Int := T.2.2.1 i
def qtU (T : TdT) (i : Nat) : Nat := T.2.2.2 i
def okT (n : Nat) (T : TdT) : Prop := n ≤ 10 ∧ (∀ i, i < qtM T → qtF T i < n ∧ 0 ≤ qtY T i ∧ qtY T i ≤ 2000 ∧ qtU T i < 4) ∧ ∀ i j, i < j → j < qtM T → qtF T i ≠ qtF T j
def cT (Std : Ob) (T : TdT) : Prop := Std.1 3 = nI (qtM T) ∧ ∀ i, i < qtM T → Std.2 0 i = nI (qtF T i) ∧ Std.2 1 i = iZ (qtY T i) ∧ Std.2 2 i = nI (qtU T i)
def mT (S : Ob) (T : TdT) : Prop := S.2 3 134 = nI (qtM T) ∧ ∀ i, i < qtM T → S.2 3 (43 + 3 * i) = nI (qtF T i) ∧ S.2 3 (43 + 3 * i + 1) = iZ (qtY T i) ∧ S.2 3 (43 + 3 * i + 2) = nI (qtU T i)
theorem okT_m {n : Nat} {T : TdT} (h : okT n T) : qtM T ≤ n := fb_holes n (qtM T) (qtF T) (fun i hi => (h.2.1 i hi).1) h.2.2
def tsF (f : Nat → Nat) : Nat → Nat
  | 0 => 0
  | i + 1 => tsF f i ||| 2 ^ f i
def qtS (T : TdT) : Nat := tsF (qtF T) (qtM T)
theorem hb_tsF (f : Nat → Nat) (k : Nat) : ∀ m, (hb (tsF f m) k = true ↔ ∃ i, i < m ∧ f i = k)
  | 0 => by
    rw [tsF, hb_z]
    exact ⟨fun q => absurd q (by decide), fun ⟨i, hi, _⟩ => absurd hi (Nat.not_lt_zero i)⟩
  | m + 1 => by
    rw [tsF, hb_or, Bool.or_eq_true, decide_eq_true_eq, hb_tsF f k m]
    constructor
    · rintro (⟨i, hi, e⟩ | e)
      · exact ⟨i, by omega, e⟩
      · exact ⟨m, by omega, e.symm⟩
    · rintro ⟨i, hi, e⟩
      rcases Nat.lt_or_ge i m with q | q
      · exact Or.inl ⟨i, q, e⟩
      · have : i = m := by omega
        subst this
        exact Or.inr e.symm
theorem tsF_lt {f : Nat → Nat} {N : Nat} : ∀ m, (∀ i, i < m → f i < N) → tsF f m < 2 ^ N
  | 0, _ => Nat.two_pow_pos N
  | m + 1, h => or_lt (tsF_lt m (fun i hi => h i (by omega))) (h m (by omega))
theorem tS_lt {n : Nat} {T : TdT} (h : okT n T) : qtS T < 2 ^ n := tsF_lt _ (fun i hi => (h.2.1 i hi).1)
theorem tS_1024 {n : Nat} {T : TdT} (h : okT n T) : qtS T < 1024 := Nat.lt_of_lt_of_le (tS_lt h) (p10 h.1)
def lyC (T : TdT) : Int := if qtM T = 0 then 10000 else qtY T (qtM T - 1)
def lyM (T : TdT) : Int := if qtM T = 0 then 1000000 else qtY T (qtM T - 1)
def qlT (T : TdT) : Nat := if qtM T = 0 then 4 else qtU T (qtM T - 1)
theorem lyC_R {n : Nat} {T : TdT} (h : okT n T) : yR (lyC T) := by
  unfold lyC
  split
  · exact ⟨by decide, by decide⟩
  · have := h.2.1 (qtM T - 1) (by omega)
    exact ⟨this.2.1, by omega⟩
theorem lyM_R {n : Nat} {T : TdT} (h : okT n T) : yR (lyM T) := by
  unfold lyM
  split
  · exact ⟨by decide, by decide⟩
  · have := h.2.1 (qtM T - 1) (by omega)
    exact ⟨this.2.1, by omega⟩
theorem ly_same (T : TdT) : lyC T = lyM T ∨ (3000 ≤ lyC T ∧ 3000 ≤ lyM T) := by
  unfold lyC lyM
  split
  · exact Or.inr ⟨by decide, by decide⟩
  · exact Or.inl rfl
theorem ly_y {P : PlT} (h : okP P) {t : Nat} (ht : t < qpN P) (T : TdT) : yB P t (lyC T) = yB P t (lyM T) ∧ fB P t (lyC T) = fB P t (lyM T) := by
  rcases ly_same T with e | ⟨e1, e2⟩
  · rw [e]; exact ⟨rfl, rfl⟩
  · exact ⟨yB_far h ht e1 e2, fB_far h ht e1 e2⟩
theorem lT_5 {n : Nat} {T : TdT} (h : okT n T) : qlT T < 5 := by
  unfold qlT
  split
  · decide
  · have := h.2.1 (qtM T - 1) (by omega)
    omega
def quT (n : Nat) (T : TdT) : Nat := sd (2 ^ n - 1) (qtS T)
theorem uT_lt (n : Nat) (T : TdT) : quT n T < 2 ^ n := Nat.lt_of_le_of_lt (sd_le _ _) (by have := Nat.two_pow_pos n; omega)
theorem hb_uT {n : Nat} {T : TdT} {k : Nat} (hk : k < 32) : hb (quT n T) k = (decide (k < n) && !hb (qtS T) k) := by rw [quT, hb_sd hk, hb_all]
/-! the class -/
theorem s_toldSet {SB Std : Ob} {n : Nat} {T : TdT} (ok : okT n T) (h : cT Std T) {Q : Int32 → Prop} (hq : Q (nI (qtS T))) : w_X6_toldSet SB Std Q := by
  have hm := okT_m ok
  have h10 := ok.1
  unfold w_X6_toldSet
  rw [h.1]
  refine fo2 (qtM T) (by omega) (fun i x => x = nI (tsF (qtF T) i)) rfl ?_ ?_
  · rintro L i x hi rfl ih
    refine br_n (fun q => by have := (nI_leI (by omega) (by omega)).mp q; omega) ⟨vp_in_nI (by omega) (by decide), ?_⟩
    rintro v rfl w rfl
    rw [nI_clamp (by omega), (h.2 i hi).1, or_1 (by have := (ok.2.1 i hi).1; omega), nI_1]
    exact ih _ rfl
  · rintro L x rfl
    exact br_y (Int32.le_refl _) hq
theorem s_lastYear {SB Std : Ob} {n : Nat} {T : TdT} (ok : okT n T) (h : cT Std T) {Q : Int32 → Prop} (hq : Q (iZ (lyC T))) : w_X6_lastYear SB Std Q := by
  have hm := okT_m ok
  have h10 := ok.1
  unfold w_X6_lastYear
  rw [h.1]
  unfold lyC at hq
  refine le_b (qtM T) 0 (by omega) (by decide) (fun c => ?_) (fun c => ?_)
  · rw [if_pos (by omega)] at hq; exact hq
  · rw [if_neg (by omega)] at hq
    rw [show (1 : Int32) = nI 1 from rfl, pk_sub (by omega), nI_clamp (by omega), (h.2 (qtM T - 1) (by omega)).2.1]
    exact ⟨vp_in_nI (by omega) (by decide), hq⟩
theorem s_lastTeller {SB Std : Ob} {n : Nat} {T : TdT} (ok : okT n T) (h : cT Std T) {Q : Int32 → Prop} (hq : Q (nI (qlT T))) : w_X6_lastTeller SB Std Q := by
  have hm := okT_m ok
  have h10 := ok.1
  unfold w_X6_lastTeller
  rw [h.1]
  unfold qlT at hq
  refine le_b (qtM T) 0 (by omega) (by decide) (fun c => ?_) (fun c => ?_)
  · rw [if_pos (by omega)] at hq; exact hq
  · rw [if_neg (by omega)] at hq
    rw [show (1 : Int32) = nI 1 from rfl, pk_sub (by omega), nI_clamp (by omega), (h.2 (qtM T - 1) (by omega)).2.2]
    exact ⟨vp_in_nI (by omega) (by decide), hq⟩
theorem s_untold {SB Std : Ob} {n : Nat} {T : TdT} (ok : okT n T) (h : cT Std T) (h4 : SB.1 4 = nI n) {Q : Int32 → Prop} (hq : Q (nI (quT n T))) : w_X6_untold SB Std Q := by
  have h10 := ok.1
  unfold w_X6_untold w_X6_all
  have e1 : nI (2 ^ n) - 1 = nI (2 ^ n - 1) := pk_sub (b := 1) Nat.one_le_two_pow
  rw [h4, shl_1 (by omega), e1]
  refine s_toldSet ok h ?_
  rw [sd_I]
  exact hq
/-! the reference -/
theorem m_toldSet {S : Ob} {n : Nat} {T : TdT} (ok : okT n T) (h : mT S T) {Q : Int32 → Prop} (hq : Q (nI (qtS T))) : wM_toldSet S Q := by
  have hm := okT_m ok
  have h10 := ok.1
  unfold wM_toldSet
  rw [h.1]
  refine fo2 (qtM T) (by omega) (fun i x => x = nI (tsF (qtF T) i)) rfl ?_ ?_
  · rintro L i x hi rfl ih
    have e : (43 + 3 * nI i : Int32) = nI (43 + 3 * i) := by
      show nI 43 + nI 3 * nI i = _
      rw [pk_mul, nI_add]
    rw [e]
    refine br_n (fun q => by have := (nI_leI (by omega) (by omega)).mp q; omega) ⟨vp_in_nI (by omega) (by decide), ?_⟩
    rintro v rfl w rfl
    rw [nI_clamp (by omega), (h.2 i hi).1, or_1 (by have := (ok.2.1 i hi).1; omega), nI_1]
    exact ih _ rfl
  · rintro L x rfl
    exact br_y (Int32.le_refl _) hq
theorem m_lastYear {S : Ob} {n : Nat} {T : TdT} (ok : okT n T) (h : mT S T) {Q : Int32 → Prop} (hq : Q (iZ (lyM T))) : wM_lastYear S Q := by
  have hm := okT_m ok
  have h10 := ok.1
  unfold wM_lastYear
  rw [h.1]
  unfold lyM at hq
  refine qe_b (qtM T) 0 (by omega) (by decide) (fun c => ?_) (fun c => ?_)
  · rw [if_pos c] at hq; exact hq
  · rw [if_neg c] at hq
    have e : (43 + 3 * nI (qtM T) - 2 : Int32) = nI (43 + 3 * (qtM T - 1) + 1) := by
      show nI 43 + nI 3 * nI (qtM T) - nI 2 = _
      rw [pk_mul, nI_add, pk_sub (by omega)]
      congr 1
      omega
    rw [e, nI_clamp (by omega), (h.2 (qtM T - 1) (by omega)).2.1]
    exact ⟨vp_in_nI (by omega) (by decide), hq⟩
theorem m_lastTeller {S : Ob} {n : Nat} {T : TdT} (ok : okT n T) (h : mT S T) {Q : Int32 → Prop} (hq : Q (nI (qlT T))) : wM_lastTeller S Q := by
  have hm := okT_m ok
  have h10 := ok.1
  unfold wM_lastTeller
  rw [h.1]
  unfold qlT at hq
  refine qe_b (qtM T) 0 (by omega) (by decide) (fun c => ?_) (fun c => ?_)
  · rw [if_pos c] at hq; exact hq
  · rw [if_neg c] at hq
    have e : (43 + 3 * nI (qtM T) - 1 : Int32) = nI (43 + 3 * (qtM T - 1) + 2) := by
      show nI 43 + nI 3 * nI (qtM T) - nI 1 = _
      rw [pk_mul, nI_add, pk_sub (by omega)]
      congr 1
      omega
    rw [e, nI_clamp (by omega), (h.2 (qtM T - 1) (by omega)).2.2]
    exact ⟨vp_in_nI (by omega) (by decide), hq⟩
/-! a set of tales that aren't told: as both ask it -/
def isS (n : Nat) (T : TdT) (s : Nat) : Prop := s < 2 ^ n ∧ s &&& qtS T = 0
theorem sd_0 {x n : Nat} {T : TdT} (hx : x < 2 ^ 32) (hn : n ≤ 10) (hT : qtS T < 2 ^ n) : sd x (quT n T) = 0 ↔ isS n T x := by
  constructor
  · intro h
    have hb0 : ∀ k, k < 32 → hb x k = true → k < n ∧ hb (qtS T) k = false := by
      intro k hk hx1
      have := hb_sd (a := x) (b := quT n T) hk
      rw [h, hb_z, hx1, hb_uT hk] at this
      simp at this
      exact ⟨this.1, by rw [this.2]⟩
    have hlt : x < 2 ^ n := by
      refine hb_lt (fun k hk => ?_)
      cases e : hb x k
      · rfl
      · have hk32 := hb_in hx e
        have := (hb0 k hk32 e).1
        omega
    refine ⟨hlt, ?_⟩
    have ha : x &&& qtS T < 2 ^ n := Nat.lt_of_le_of_lt Nat.and_le_left hlt
    refine hb_ext ha (Nat.two_pow_pos n) (fun k hk => ?_)
    rw [hb_and, hb_z]
    cases e : hb x k
    · rfl
    · rw [(hb0 k (by omega) e).2]; rfl
  · rintro ⟨h1, h2⟩
    have ha : sd x (quT n T) < 2 ^ n := Nat.lt_of_le_of_lt (sd_le _ _) h1
    refine hb_ext ha (Nat.two_pow_pos n) (fun k hk => ?_)
    have h3 : hb (x &&& qtS T) k = false := by rw [h2, hb_z]
    rw [hb_and] at h3
    rw [hb_sd (by omega), hb_uT (by omega), hb_z]
    cases e : hb x k
    · rfl
    · rw [e, Bool.true_and] at h3
      rw [h3, decide_eq_true hk]; rfl
theorem set_cases {n : Nat} {T : TdT} (ok : okT n T) (x : Int32) :
    (∃ s, isS n T s ∧ x = nI s ∧ (x &&& (nI (quT n T) ^^^ (-1))) = 0 ∧ (decide (0 ≤ x) && decide (x ≤ nI (2 ^ n) - 1)) = true ∧ (x &&& nI (qtS T)) = 0)
    ∨ (¬ (x &&& (nI (quT n T) ^^^ (-1))) = 0 ∧ ((decide (0 ≤ x) && decide (x ≤ nI (2 ^ n) - 1)) = false ∨ ¬ (x &&& nI (qtS T)) = 0)) := by
  have hn := ok.1
  have hT := tS_lt ok
  have hp := p10 hn
  have hX : x.toBitVec.toNat < 2 ^ 32 := x.toBitVec.isLt
  have e := nI_bv x
  generalize x.toBitVec.toNat = X at hX e
  subst e
  rw [sd_I, nI_z (Nat.lt_of_le_of_lt (sd_le _ _) hX), sd_0 hX hn hT, fa_and, nI_z (Nat.lt_of_le_of_lt Nat.and_le_left hX), show (1 : Int32) = nI 1 from rfl, pk_sub (Nat.one_le_two_pow)]
  by_cases c : isS n T X
  · refine Or.inl ⟨X, c, rfl, c, ?_, c.2⟩
    have := c.1
    rw [decide_eq_true (nI_pos' (by omega)), decide_eq_true (nI_le (by omega) (by omega))]; rfl
  · refine Or.inr ⟨c, ?_⟩
    rcases Nat.lt_or_ge X (2 ^ n) with q | q
    · exact Or.inr (fun q2 => c ⟨q, q2⟩)
    · refine Or.inl ?_
      rcases Nat.lt_or_ge X (2 ^ 31) with d | d
      · have : ¬ nI X ≤ nI (2 ^ n - 1) := fun q2 => by have := (nI_leI (by omega) (by omega)).mp q2; omega
        rw [decide_eq_false this, Bool.and_false]
      · have : ¬ (0 : Int32) ≤ nI X := by
          intro q2
          have h1 := Int32.le_iff_toInt_le.mp q2
          have h0 : (0 : Int32).toInt = 0 := by decide
          have h2 : (nI X).toInt = (X : Int) - 4294967296 := by
            have : nI X = iZ ((X : Int) - 4294967296) := by
              rw [iZ_n, ← iZ_sub, show iZ 4294967296 = 0 from by decide, Int32.sub_zero]
            rw [this]
            exact iZ_T (by omega) (by omega)
          omega
        rw [decide_eq_false this, Bool.false_and]
theorem m_isSet {S : Ob} {n : Nat} {T : TdT} (ok : okT n T) (h : mT S T) (hn : S.2 3 133 = nI n) {x : Int32} {Q : Int32 → Prop} (hy : ∀ s, isS n T s → x = nI s → Q 1) (hno : ¬ (x &&& (nI (quT n T) ^^^ (-1))) = 0 → Q 0) : wM_isSet S x Q := by
  have h10 := ok.1
  unfold wM_isSet
  rw [sM_tales, hn, shl_1 (by omega), sM_lies]
  rcases set_cases ok x with ⟨s, hs, e, h1, h2, h3⟩ | ⟨h1, h2⟩
  · rw [h2]
    refine bi_b (fun c => absurd c (by decide)) (fun _ => m_toldSet ok h (rb_y h3 (hy s hs e)))
  · refine bi_b (fun _ => hno h1) (fun c => m_toldSet ok h ⟨fun _ => hno h1, fun q => ?_⟩)
    rcases h2 with h2 | h2
    · rw [h2] at c; exact absurd c (by decide)
    · exact absurd q h2
theorem m_isSetN {S : Ob} {n : Nat} {T : TdT} (ok : okT n T) (h : mT S T) (hn : S.2 3 133 = nI n) {s : Nat} (hs : s < 2 ^ n) {Q : Int32 → Prop} (hy : s &&& qtS T = 0 → Q 1) (hno : s &&& qtS T ≠ 0 → Q 0) : wM_isSet S (nI s) Q := by
  have hp := p10 ok.1
  refine m_isSet ok h hn (fun s' hs' e => hy ?_) (fun q => hno (fun q2 => q ?_))
  · have : s = s' := (nI_eq (by omega) (by have := hs'.1; omega)).mp e
    rw [this]; exact hs'.2
  · rw [sd_I, nI_z (Nat.lt_of_le_of_lt (sd_le _ _) (by omega)), sd_0 (by omega) ok.1 (tS_lt ok)]
    exact ⟨hs, q2⟩
/-! ===== a set can be told behind a year and a teller ===== -/
def Cf (P : PlT) : Nat → Nat → Nat → Int → Prop
  | 0 => fun s _ _ => s = 0
  | d + 1 => fun s l y => s = 0 ∨ ∃ t u, t < qpN P ∧ u < 4 ∧ hb s t = true ∧ hb (qpA P t) u = true ∧ mayN P l u = true ∧ fB P t y = true ∧ Cf P d (rm s t) u (yB P t y)
def Cn (P : PlT) (s l : Nat) (y : Int) : Prop := Cf P s s l y
theorem Cf_0 {P : PlT} {d l : Nat} {y : Int} : Cf P d 0 l y := by
  cases d
  · exact rfl
  · exact Or.inl rfl
theorem Cf_eq {P : PlT} (hn : qpN P ≤ 10) : ∀ N d d' s, d ≤ N → d' ≤ N → s ≤ d → s ≤ d' → ∀ l y, Cf P d s l y → Cf P d' s l y := by
  intro N
  induction N with
  | zero =>
    intro d d' s h1 h2 h3 h4 l y h
    have e1 : d = d' := by omega
    subst e1
    exact h
  | succ N ih =>
    intro d d' s h1 h2 h3 h4 l y h
    by_cases hs : s = 0
    · subst hs; exact Cf_0
    · obtain ⟨e, rfl⟩ : ∃ e, d = e + 1 := ⟨d - 1, by omega⟩
      obtain ⟨e', rfl⟩ : ∃ e', d' = e' + 1 := ⟨d' - 1, by omega⟩
      rcases h with h | ⟨t, u, a1, a2, a3, a4, a5, a6, a7⟩
      · exact absurd h hs
      · have := rm_lt (by omega) a3
        exact Or.inr ⟨t, u, a1, a2, a3, a4, a5, a6, ih e e' _ (by omega) (by omega) (by omega) (by omega) _ _ a7⟩
theorem Cn_0 {P : PlT} {l : Nat} {y : Int} : Cn P 0 l y := Cf_0
theorem Cn_s {P : PlT} (hn : qpN P ≤ 10) {s l : Nat} {y : Int} (hs : s ≠ 0) : Cn P s l y ↔ ∃ t u, t < qpN P ∧ u < 4 ∧ hb s t = true ∧ hb (qpA P t) u = true ∧ mayN P l u = true ∧ fB P t y = true ∧ Cn P (rm s t) u (yB P t y) := by
  obtain ⟨e, rfl⟩ : ∃ e, s = e + 1 := ⟨s - 1, by omega⟩
  unfold Cn
  constructor
  · rintro (h | ⟨t, u, a1, a2, a3, a4, a5, a6, a7⟩)
    · exact absurd h hs
    · have := rm_lt (by omega) a3
      exact ⟨t, u, a1, a2, a3, a4, a5, a6, Cf_eq hn e _ _ _ (Nat.le_refl _) (by omega) (by omega) (Nat.le_refl _) _ _ a7⟩
  · rintro ⟨t, u, a1, a2, a3, a4, a5, a6, a7⟩
    have := rm_lt (by omega) a3
    exact Or.inr ⟨t, u, a1, a2, a3, a4, a5, a6, Cf_eq hn e _ _ _ (by omega) (Nat.le_refl _) (Nat.le_refl _) (by omega) _ _ a7⟩
theorem Cn_tw {P : PlT} (hn : qpN P ≤ 10) (ht : qpT P = true) {s l l' : Nat} {y : Int} : Cn P s l y → Cn P s l' y := by
  by_cases hs : s = 0
  · subst hs; exact fun _ => Cn_0
  · rw [Cn_s hn hs, Cn_s hn hs]
    rintro ⟨t, u, a1, a2, a3, a4, a5, a6, a7⟩
    exact ⟨t, u, a1, a2, a3, a4, by rw [mayN, ht]; rfl, a6, a7⟩
theorem Cn_far {P : PlT} (h : okP P) {s l : Nat} {y y' : Int} (h1 : 3000 ≤ y) (h2 : 3000 ≤ y') : Cn P s l y → Cn P s l y' := by
  by_cases hs : s = 0
  · subst hs; exact fun _ => Cn_0
  · rw [Cn_s h.1 hs, Cn_s h.1 hs]
    rintro ⟨t, u, a1, a2, a3, a4, a5, a6, a7⟩
    exact ⟨t, u, a1, a2, a3, a4, a5, by rw [fB_far h a1 h2 h1]; exact a6, by rw [yB_far h a1 h2 h1]; exact a7⟩
theorem Cn_ly {P : PlT} (h : okP P) {s l : Nat} (T : TdT) : Cn P s l (lyC T) ↔ Cn P s l (lyM T) := by
  rcases ly_same T with e | ⟨e1, e2⟩
  · rw [e]
  · exact ⟨Cn_far h e1 e2, Cn_far h e2 e1⟩
