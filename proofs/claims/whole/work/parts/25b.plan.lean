/-! ===== plans: what both sides know of tales when they are weighed ===== -/
abbrev PlT := Nat × Bool × (Nat → Int) × (Nat → Int) × (Nat → Int) × (Nat → Int) × (Nat → Nat)
def qpN (P : PlT) : Nat := P.1
def qpT (P : PlT) : Bool := P.2.1
def qpF (P : PlT) (t : Nat) : Int := P.2.2.1 t
def qpE (P : PlT) (t : Nat) : Int := P.2.2.2.1 t
def qpW (P : PlT) (t : Nat) : Int := P.2.2.2.2.1 t
def qpG (P : PlT) (t : Nat) : Int := P.2.2.2.2.2.1 t
def qpA (P : PlT) (t : Nat) : Nat := P.2.2.2.2.2.2 t
def okP (P : PlT) : Prop := qpN P ≤ 10 ∧ ∀ t, t < qpN P → 0 ≤ qpF P t ∧ qpF P t ≤ qpE P t ∧ qpE P t ≤ 2000 ∧ 0 ≤ qpW P t ∧ qpW P t ≤ 999 ∧ 1 ≤ qpG P t ∧ qpG P t ≤ 999 ∧ qpA P t < 16
def cP (SP : Ob) (P : PlT) : Prop := okP P ∧ SP.1 6 = nI (qpN P) ∧ SP.1 7 = bI (qpT P) ∧ ∀ t, t < qpN P → SP.2 1 t = iZ (qpF P t) ∧ SP.2 2 t = iZ (qpE P t) ∧ SP.2 3 t = iZ (qpW P t) ∧ SP.2 4 t = iZ (qpG P t) ∧ SP.2 5 t = nI (qpA P t)
def mP (S : Ob) (P : PlT) : Prop := okP P ∧ S.2 3 133 = nI (qpN P) ∧ S.2 3 41 = bI (qpT P) ∧ ∀ t, t < qpN P → S.2 3 (4 * t) = iZ (qpF P t) ∧ S.2 3 (4 * t + 1) = iZ (qpE P t) ∧ S.2 26 t = iZ (qpW P t) ∧ S.2 27 t = iZ (qpG P t) ∧ S.2 28 t = nI (qpA P t)
def mayN (P : PlT) (l u : Nat) : Bool := qpT P || !decide (l = u)
def yB (P : PlT) (t : Nat) (y : Int) : Int := if y - qpG P t < qpE P t then y - qpG P t else qpE P t
def fB (P : PlT) (t : Nat) (y : Int) : Bool := decide (qpF P t ≤ yB P t y)
def yN (P : PlT) (t : Nat) (y : Int) : Int := if fB P t y = true then yB P t y else -1
def yR (y : Int) : Prop := 0 ≤ y ∧ y ≤ 1000000
theorem yB_le {P : PlT} {t : Nat} {x y : Int} : x ≤ yB P t y ↔ x ≤ qpE P t ∧ x ≤ y - qpG P t := by
  unfold yB
  split <;> omega
theorem fB_t {P : PlT} {t : Nat} {y : Int} : fB P t y = true ↔ qpF P t ≤ qpE P t ∧ qpF P t ≤ y - qpG P t := by
  rw [fB, decide_eq_true_eq, yB_le]
theorem yB_r {P : PlT} (h : okP P) {t : Nat} (ht : t < qpN P) {y : Int} (hy : yR y) : -1000 ≤ yB P t y ∧ yB P t y ≤ 2000 := by
  have := h.2 t ht
  obtain ⟨h1, h2⟩ := hy
  unfold yB
  split <;> omega
theorem yB_f {P : PlT} (h : okP P) {t : Nat} (ht : t < qpN P) {y : Int} (hf : fB P t y = true) : 0 ≤ yB P t y ∧ yB P t y ≤ 2000 := by
  have := h.2 t ht
  rw [fB, decide_eq_true_eq] at hf
  have h2 : yB P t y ≤ qpE P t := (yB_le.mp (Int.le_refl _)).1
  omega
theorem yB_R {P : PlT} (h : okP P) {t : Nat} (ht : t < qpN P) {y : Int} (hf : fB P t y = true) : yR (yB P t y) := by
  have := yB_f h ht hf
  exact ⟨this.1, by omega⟩
/-- years so late that they say no more -/
theorem yB_far {P : PlT} (h : okP P) {t : Nat} (ht : t < qpN P) {y y' : Int} (h1 : 3000 ≤ y) (h2 : 3000 ≤ y') : yB P t y = yB P t y' := by
  have := h.2 t ht
  unfold yB
  rw [if_neg (by omega), if_neg (by omega)]
theorem fB_far {P : PlT} (h : okP P) {t : Nat} (ht : t < qpN P) {y y' : Int} (h1 : 3000 ≤ y) (h2 : 3000 ≤ y') : fB P t y = fB P t y' := by
  rw [fB, fB, yB_far h ht h1 h2]
/-! the class -/
theorem cP_in {SP : Ob} {P : PlT} (h : cP SP P) {t : Nat} (ht : t < qpN P) : vp_in (nI t) 10 := vp_in_nI (Nat.lt_of_lt_of_le ht h.1.1) (by decide)
theorem mP_in {S : Ob} {P : PlT} (h : mP S P) {t : Nat} (ht : t < qpN P) : vp_in (nI t) 10 := vp_in_nI (Nat.lt_of_lt_of_le ht h.1.1) (by decide)
theorem s_yearOf {SP : Ob} {P : PlT} (h : cP SP P) {t : Nat} (ht : t < qpN P) {y : Int} (hy : yR y) {Q : Int32 → Prop} (hq : Q (iZ (yN P t y))) : w_X3_yearOf SP (nI t) (iZ y) Q := by
  have hv := cP_in h ht
  obtain ⟨hok, h6, h7, hr⟩ := h
  have hb := hok.2 t ht
  have h10 := hok.1
  obtain ⟨e1, e2, e3, e4, e5⟩ := hr t ht
  obtain ⟨hy1, hy2⟩ := hy
  unfold w_X3_yearOf
  rw [nI_clamp (by omega), e1, e2, e4, iZ_sub]
  refine ⟨hv, hv, ?_⟩
  rintro v rfl
  have ey : (if iZ (y - qpG P t) < iZ (qpE P t) then iZ (y - qpG P t) else iZ (qpE P t)) = iZ (yB P t y) := by
    unfold yB
    by_cases c : y - qpG P t < qpE P t
    · rw [if_pos ((iZ_lt (by omega) (by omega) (by omega) (by omega)).mpr c), if_pos c]
    · rw [if_neg (fun q => c ((iZ_lt (by omega) (by omega) (by omega) (by omega)).mp q)), if_neg c]
  rw [ey]
  have hyr := yB_r hok ht ⟨hy1, hy2⟩
  unfold yN fB at hq
  refine ⟨hv, zle_b _ _ (by omega) (fun c => ?_) (fun c => ?_)⟩
  · rw [if_pos (decide_eq_true c)] at hq; exact hq
  · rw [if_neg (by rw [decide_eq_true_eq]; omega)] at hq; rw [iZ_m1]; exact hq
def flw (P : PlT) (t a : Nat) : Nat := if qpT P = true ∨ 1 < pop a then qpA P t else sd (qpA P t) a
theorem s_followers {SP : Ob} {P : PlT} (h : cP SP P) {t : Nat} (ht : t < qpN P) {a : Nat} (ha : a < 1024) {Q : Int32 → Prop} (hq : Q (nI (flw P t a))) : w_X3_followers SP (nI t) (nI a) Q := by
  have hv := cP_in h ht
  obtain ⟨hok, h6, h7, hr⟩ := h
  have h10 := hok.1
  obtain ⟨e1, e2, e3, e4, e5⟩ := hr t ht
  unfold w_X3_followers
  rw [nI_clamp (by omega), e5, h7]
  unfold flw at hq
  refine ib_b (fun c => ?_) (fun c => ⟨hv, ?_⟩)
  · refine s_bitCount ha (le_b (pop a) 1 (by have := pop_le a; omega) (by decide) (fun c2 => ⟨hv, ?_⟩) (fun c2 => ⟨hv, ?_⟩))
    · rw [if_neg (by rintro (q | q); rw [c] at q; exact absurd q (by decide); omega)] at hq
      rw [sd_I]; exact hq
    · rw [if_pos (Or.inr c2)] at hq; exact hq
  · rw [if_pos (Or.inl c)] at hq; exact hq
theorem s_leaders {SP : Ob} {P : PlT} (h : cP SP P) {t : Nat} (ht : t < qpN P) {a : Nat} (ha : a < 1024) {Q : Int32 → Prop} (hq : Q (nI (flw P t a))) : w_X3_leaders SP (nI t) (nI a) Q := s_followers h ht ha hq
/-- some one of those ahead lets him tell -/
def anyN (P : PlT) (a u : Nat) : Bool := (hb a 0 && mayN P 0 u) || ((hb a 1 && mayN P 1 u) || ((hb a 2 && mayN P 2 u) || ((hb a 3 && mayN P 3 u) || (hb a 4 && mayN P 4 u))))
theorem any_all : ∀ a, a < 32 → ∀ u, u < 4 → a ≠ 0 → (∀ A, A < 16 → hb (if 1 < pop a then A else sd A a) u = (hb A u && ((hb a 0 && !decide (0 = u)) || ((hb a 1 && !decide (1 = u)) || ((hb a 2 && !decide (2 = u)) || ((hb a 3 && !decide (3 = u)) || (hb a 4 && !decide (4 = u)))))))) := by decide +kernel
theorem any_tw : ∀ a, a < 32 → a ≠ 0 → (hb a 0 || (hb a 1 || (hb a 2 || (hb a 3 || hb a 4)))) = true := by decide +kernel
theorem flw_hb {P : PlT} (h : okP P) {t : Nat} (ht : t < qpN P) {a u : Nat} (ha : a < 32) (h0 : a ≠ 0) (hu : u < 4) : hb (flw P t a) u = (hb (qpA P t) u && anyN P a u) := by
  have hA : qpA P t < 16 := (h.2 t ht).2.2.2.2.2.2.2
  unfold flw anyN mayN
  cases e : qpT P
  · simp only [Bool.false_or]
    rw [← any_all a ha u hu h0 _ hA]
    simp only [Bool.false_eq_true, false_or]
  · simp only [Bool.true_or, Bool.and_true, any_tw a ha h0, if_true, true_or]
theorem flw_lt {P : PlT} (h : okP P) {t : Nat} (ht : t < qpN P) (a : Nat) : flw P t a < 16 := by
  have hA : qpA P t < 16 := (h.2 t ht).2.2.2.2.2.2.2
  unfold flw
  split
  · exact hA
  · exact Nat.lt_of_le_of_lt (sd_le _ _) hA
/-! the reference -/
theorem m_mayNext {S : Ob} {P : PlT} (h : mP S P) {l u : Nat} (hl : l < 2 ^ 31) (hu : u < 2 ^ 31) {Q : Int32 → Prop} (hq : Q (bI (mayN P l u))) : wM_mayNext S (nI l) (nI u) Q := by
  obtain ⟨hok, h1, h2, hr⟩ := h
  unfold wM_mayNext
  rw [h2, bI_1]
  unfold mayN at hq
  refine ⟨fun c => ?_, fun c => eq_b _ _ hl hu (fun c2 => ?_) (fun c2 => ?_)⟩
  · rw [c] at hq; exact hq
  · rw [show qpT P = false from by cases e : qpT P; rfl; exact absurd e c, decide_eq_true c2] at hq; exact hq
  · rw [decide_eq_false c2, Bool.not_false, Bool.or_true] at hq; exact hq
theorem m_yearBehind {S : Ob} {P : PlT} (h : mP S P) {t : Nat} (ht : t < qpN P) {y : Int} (hy : yR y) {Q : Int32 → Prop} (hq : Q (iZ (yB P t y))) : wM_yearBehind S (nI t) (iZ y) Q := by
  have hv := mP_in h ht
  obtain ⟨hok, h1, h2, hr⟩ := h
  have hb := hok.2 t ht
  have h10 := hok.1
  obtain ⟨e1, e2, e3, e4, e5⟩ := hr t ht
  obtain ⟨hy1, hy2⟩ := hy
  unfold wM_yearBehind
  rw [show (1 : Int32) = nI 1 from rfl, sM_factOf (by omega), e2, nI_clamp (by omega), e4, iZ_sub, sM_lesser]
  refine ⟨hv, ?_⟩
  have ey : (if iZ (y - qpG P t) ≤ iZ (qpE P t) then iZ (y - qpG P t) else iZ (qpE P t)) = iZ (yB P t y) := by
    unfold yB
    by_cases c : y - qpG P t ≤ qpE P t
    · rw [if_pos ((iZ_le (by omega) (by omega) (by omega) (by omega)).mpr c)]
      by_cases c2 : y - qpG P t < qpE P t
      · rw [if_pos c2]
      · rw [if_neg c2]; congr 1; omega
    · rw [if_neg (fun q => c ((iZ_le (by omega) (by omega) (by omega) (by omega)).mp q)), if_neg (by omega)]
  rw [ey]
  exact hq
theorem m_fits {S : Ob} {P : PlT} (h : mP S P) {t : Nat} (ht : t < qpN P) {y : Int} (hy : yR y) {Q : Int32 → Prop} (hq : Q (bI (fB P t y))) : wM_fits S (nI t) (iZ y) Q := by
  have hyr := yB_r h.1 ht hy
  unfold wM_fits
  refine m_yearBehind h ht hy ?_
  obtain ⟨hok, h1, h2, hr⟩ := h
  have hb := hok.2 t ht
  have h10 := hok.1
  obtain ⟨e1, e2, e3, e4, e5⟩ := hr t ht
  rw [show (0 : Int32) = nI 0 from rfl, sM_factOf (by omega), Nat.add_zero, e1]
  unfold fB at hq
  refine zlt_b _ _ (by omega) (fun c => ?_) (fun c => ?_)
  · rw [decide_eq_false (by omega)] at hq; exact hq
  · rw [decide_eq_true c] at hq; exact hq
def cN (P : PlT) (t u set : Nat) (y : Int) (l : Nat) : Bool := !hb set t && (hb (qpA P t) u && (mayN P l u && fB P t y))
theorem m_canNext {S : Ob} {P : PlT} (h : mP S P) {t : Nat} (ht : t < qpN P) {u set l : Nat} (hu : u < 4) (hs : set < 1024) (hl : l < 5) {y : Int} (hy : yR y) {Q : Int32 → Prop} (hq : Q (bI (cN P t u set y l))) : wM_canNext S (nI t) (nI u) (nI set) (iZ y) (nI l) Q := by
  have hv := mP_in h ht
  have h10 := h.1.1
  have hA : qpA P t < 16 := (h.1.2 t ht).2.2.2.2.2.2.2
  unfold wM_canNext
  rw [sM_isInB (by omega) (by omega)]
  unfold cN at hq
  refine ib_b (fun c => ⟨hv, ?_⟩) (fun c => ?_)
  · rw [c, Bool.not_false, Bool.true_and] at hq
    rw [nI_clamp (by omega), (h.2.2.2 t ht).2.2.2.2, sM_isInB (by omega) (by omega)]
    refine bi_b (fun c2 => ?_) (fun c2 => m_mayNext h (by omega) (by omega) (bi_b (fun c3 => ?_) (fun c3 => m_fits h ht hy (bi_b (fun c4 => ?_) (fun c4 => ?_)))))
    · rw [c2] at hq; exact hq
    · rw [c2, c3] at hq; exact hq
    · rw [c2, c3, c4] at hq; exact hq
    · rw [c2, c3, c4] at hq; exact hq
  · rw [c] at hq; exact hq
/-- who can tell next, in the reference: the same set -/
theorem ff_lt (p : Nat → Bool) : ∀ n, (fa_first p n < n ↔ ∃ k, k < n ∧ p k = true)
  | 0 => ⟨fun h => absurd h (Nat.not_lt_zero _), fun ⟨_, h, _⟩ => absurd h (Nat.not_lt_zero _)⟩
  | n + 1 => by
    constructor
    · intro h
      exact ⟨_, h, fa_first_yes p (n + 1) h⟩
    · rintro ⟨k, hk, hp⟩
      rcases Nat.lt_or_ge (fa_first p (n + 1)) (n + 1) with q | q
      · exact q
      · have := fa_first_no p (n + 1) k (by omega)
        rw [hp] at this
        exact absurd this (by decide)
theorem anyN_t {P : PlT} {a u : Nat} : anyN P a u = true ↔ ∃ l, l < 5 ∧ hb a l = true ∧ mayN P l u = true := by
  unfold anyN
  simp only [Bool.or_eq_true, Bool.and_eq_true]
  constructor
  · rintro (h | h | h | h | h)
    · exact ⟨0, by decide, h⟩
    · exact ⟨1, by decide, h⟩
    · exact ⟨2, by decide, h⟩
    · exact ⟨3, by decide, h⟩
    · exact ⟨4, by decide, h⟩
  · rintro ⟨l, hl, h⟩
    have : l = 0 ∨ l = 1 ∨ l = 2 ∨ l = 3 ∨ l = 4 := by omega
    rcases this with rfl | rfl | rfl | rfl | rfl
    · exact Or.inl h
    · exact Or.inr (Or.inl h)
    · exact Or.inr (Or.inr (Or.inl h))
    · exact Or.inr (Or.inr (Or.inr (Or.inl h)))
    · exact Or.inr (Or.inr (Or.inr (Or.inr h)))
theorem m_nexts {S : Ob} {P : PlT} (h : mP S P) {t : Nat} (ht : t < qpN P) {a : Nat} (ha : a < 32) (h0 : a ≠ 0) {Q : Int32 → Prop} (hq : Q (nI (flw P t a))) : wM_nexts S (nI t) (nI a) Q := by
  have hv := mP_in h ht
  have h10 := h.1.1
  have hA : qpA P t < 16 := (h.1.2 t ht).2.2.2.2.2.2.2
  unfold wM_nexts
  -- r: bits of those whom one of the first l lets tell
  refine fo2 5 (by decide) (fun l x => ∃ r, r < 2 ^ 4 ∧ x = nI r ∧ ∀ u, u < 4 → (hb r u = true ↔ hb (qpA P t) u = true ∧ ∃ k, k < l ∧ hb a k = true ∧ mayN P k u = true)) ⟨0, by decide, rfl, fun u hu => by rw [hb_z]; exact ⟨fun q => absurd q (by decide), fun ⟨_, k, hk, _⟩ => absurd hk (Nat.not_lt_zero k)⟩⟩ ?_ ?_
  · rintro L l x hl ⟨r, hr, rfl, hI⟩ ih
    refine br_n (fun q => ?_) ?_
    · have := (nI_ltI (a := 4) (b := l) (by decide) (by omega)).mp q
      omega
    · refine fo2 4 (by decide) (fun u x => ∃ r', r' < 2 ^ 4 ∧ x = nI r' ∧ ∀ v, v < 4 → (hb r' v = true ↔ hb r v = true ∨ (v < u ∧ hb a l = true ∧ hb (qpA P t) v = true ∧ mayN P l v = true))) ⟨r, hr, rfl, fun v hv => ⟨Or.inl, fun q => q.elim id (fun q => absurd q.1 (Nat.not_lt_zero v))⟩⟩ ?_ ?_
      · rintro L2 u x hu ⟨r', hr', rfl, hI'⟩ ih2
        refine br_n (fun q => by have := (nI_leI (a := 4) (b := u) (by decide) (by omega)).mp q; omega) ?_
        have stay : (¬ (hb a l = true ∧ hb (qpA P t) u = true ∧ mayN P l u = true)) → ∀ v : Int32, v = nI u + 1 → L2 v (nI r') := by
          rintro hno v rfl
          rw [nI_1]
          refine ih2 _ ⟨r', hr', rfl, fun v hv => (hI' v hv).trans ⟨fun q => q.imp id (fun q => ⟨by omega, q.2⟩), fun q => q.imp id (fun q => ⟨?_, q.2⟩)⟩⟩
          rcases Nat.lt_or_ge v u with c | c
          · exact c
          · have : v = u := by omega
            subst this
            exact absurd q.2 hno
        rw [sM_isInB (by omega) (by omega)]
        refine bi_b (fun c => stay (fun q => by rw [c] at q; exact absurd q.1 (by decide))) (fun c => ⟨hv, ?_⟩)
        rw [nI_clamp (by omega), (h.2.2.2 t ht).2.2.2.2, sM_isInB (by omega) (by omega)]
        refine bi_b (fun c2 => stay (fun q => by rw [c2] at q; exact absurd q.2.1 (by decide))) (fun c2 => m_mayNext h (by omega) (by omega) (bi_b (fun c3 => stay (fun q => by rw [c3] at q; exact absurd q.2.2 (by decide))) (fun c3 => ?_)))
        rintro v rfl w rfl
        rw [nI_1, or_1 (by omega)]
        refine ih2 _ ⟨r' ||| 2 ^ u, or_lt hr' hu, rfl, fun v hv => ?_⟩
        rw [hb_or, Bool.or_eq_true, decide_eq_true_eq, hI' v hv]
        constructor
        · rintro ((q | q) | rfl)
          · exact Or.inl q
          · exact Or.inr ⟨by omega, q.2⟩
          · exact Or.inr ⟨by omega, c, c2, c3⟩
        · rintro (q | q)
          · exact Or.inl (Or.inl q)
          · rcases Nat.lt_or_ge v u with d | d
            · exact Or.inl (Or.inr ⟨d, q.2⟩)
            · exact Or.inr (by omega)
      · rintro L2 x ⟨r', hr', rfl, hI'⟩
        refine br_y (Int32.le_refl _) ?_
        rintro v rfl
        rw [nI_1]
        refine ih _ ⟨r', hr', rfl, fun u hu => ?_⟩
        rw [hI' u hu, hI u hu]
        constructor
        · rintro (⟨q1, k, hk, q2⟩ | ⟨_, q1, q2, q3⟩)
          · exact ⟨q1, k, by omega, q2⟩
          · exact ⟨q2, l, by omega, q1, q3⟩
        · rintro ⟨q1, k, hk, q2, q3⟩
          rcases Nat.lt_or_ge k l with d | d
          · exact Or.inl ⟨q1, k, d, q2, q3⟩
          · have : k = l := by omega
            subst this
            exact Or.inr ⟨hu, q2, q1, q3⟩
  · rintro L x ⟨r, hr, rfl, hI⟩
    refine br_y (by decide) ?_
    have : r = flw P t a := by
      refine hb_ext hr (flw_lt h.1 ht a) (fun u hu => ?_)
      rw [Bool.eq_iff_iff, hI u hu, flw_hb h.1 ht ha h0 hu, Bool.and_eq_true, anyN_t]
    rw [this]
    exact hq
