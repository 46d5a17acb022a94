/-! ===== from which year on a set can be told: the class's tables ===== -/
def yC (y : Int) : Prop := 0 ≤ y ∧ y < 100000
def isC (P : PlT) (s l : Nat) (v : Int) : Prop := 0 ≤ v ∧ v ≤ 100000 ∧ ∀ y, yC y → (v ≤ y ↔ Cn P s l y)
def ws (P : PlT) (s : Nat) : Nat → Int
  | 0 => 0
  | t + 1 => ws P s t + (if hb s t = true then qpW P t else 0)
theorem ws_r {P : PlT} (h : okP P) (s : Nat) : ∀ t, t ≤ qpN P → 0 ≤ ws P s t ∧ ws P s t ≤ 999 * t
  | 0, _ => ⟨Int.le_refl 0, Int.le_refl 0⟩
  | t + 1, ht => by
    have ih := ws_r h s t (by omega)
    have := h.2 t (by omega)
    rw [ws]
    split <;> omega
def wsm (P : PlT) (s : Nat) : Int := ws P s (qpN P)
theorem wsm_r {P : PlT} (h : okP P) (s : Nat) : 0 ≤ wsm P s ∧ wsm P s ≤ 9990 := by
  have := ws_r h s (qpN P) (Nat.le_refl _)
  have h10 := h.1
  unfold wsm
  omega
def cR (SP : Ob) (P : PlT) (s : Nat) : Prop := SP.2 10 s = iZ (wsm P s) ∧ ∃ lo ot w : Int, SP.2 11 s = iZ lo ∧ SP.2 12 s = iZ w ∧ SP.2 13 s = iZ ot ∧ (-1 ≤ w ∧ w ≤ 3) ∧ (0 ≤ lo ∧ lo ≤ 100000) ∧ (0 ≤ ot ∧ ot ≤ 100000) ∧ ∀ l : Nat, l < 5 → ∀ y, yC y → ((if w = (l : Int) then ot else lo) ≤ y ↔ Cn P s l y)
def ndC (SP : Ob) (P : PlT) (m : Nat) : Prop := ∀ s, s < m → cR SP P s
theorem s_yearNeeded {SP : Ob} {P : PlT} {s l : Nat} (hs : s < 1024) (h : cR SP P s) (hl : l < 5) {Q : Int32 → Prop} (hq : ∀ v, isC P s l v → Q (iZ v)) : w_X3_yearNeeded SP (nI s) (nI l) Q := by
  obtain ⟨-, lo, ot, w, e1, e2, e3, hw, hlo, hot, hC⟩ := h
  have hv : vp_in (nI s) 1024 := vp_in_nI hs (by decide)
  have hl' := hC l hl
  unfold w_X3_yearNeeded
  rw [nI_clamp (by omega), e1, e2, e3, iZ_n l]
  refine ⟨hv, zqe_b _ _ (by omega) (fun c => ⟨hv, hq _ ⟨hot.1, hot.2, fun y hy => ?_⟩⟩) (fun c => ⟨hv, hq _ ⟨hlo.1, hlo.2, fun y hy => ?_⟩⟩)⟩
  · have := hl' y hy
    rw [if_pos c] at this
    exact this
  · have := hl' y hy
    rw [if_neg c] at this
    exact this
theorem s_fits {SP : Ob} {P : PlT} (hc : cP SP P) {s l : Nat} (hs : s < 2 ^ qpN P) (h : cR SP P s) (hl : l < 5) {y : Int} (hy : yC y) {Q : Int32 → Prop} (hy1 : Cn P s l y → Q 1) (hy0 : ¬ Cn P s l y → Q 0) : w_X3_fits SP (nI s) (iZ y) (nI l) Q := by
  have h10 := hc.1.1
  have hp := p10 h10
  obtain ⟨h1, h2⟩ := id hy
  unfold w_X3_fits
  rw [hc.2.1, shl_1 (by omega)]
  refine br_n (nI_pos (by omega)) (br_n (fun q => by have := (nI_leI (by omega) (by omega)).mp q; omega) (s_yearNeeded (by omega) h hl (fun v hv => ?_)))
  have := hv.1
  have := hv.2.1
  refine zlt_b _ _ (by omega) (fun c => hy0 (fun q => ?_)) (fun c => hy1 ((hv.2.2 y hy).mp c))
  have := (hv.2.2 y hy).mpr q
  omega
theorem s_yearAhead {SP : Ob} {P : PlT} (h : cP SP P) {t : Nat} (ht : t < qpN P) {v : Int} (h0 : 0 ≤ v) (h1 : v ≤ 100000) {Q : Int32 → Prop}
    (hq : ∀ r, 0 ≤ r → r ≤ 100000 → ((r = 100000 ∧ (qpE P t < qpF P t ∨ qpE P t < v)) ∨ (qpF P t ≤ r - qpG P t ∧ v ≤ r - qpG P t ∧ (r - qpG P t = qpF P t ∨ r - qpG P t = v) ∧ r - qpG P t ≤ qpE P t)) → Q (iZ r)) : w_X3_yearAhead SP (nI t) (iZ v) Q := by
  have hv := cP_in h ht
  have hb := h.1.2 t ht
  have h10 := h.1.1
  obtain ⟨e1, e2, e3, e4, e5⟩ := h.2.2.2 t ht
  unfold w_X3_yearAhead
  rw [nI_clamp (by omega), e1, e2, e4]
  refine ⟨hv, ?_⟩
  rintro g rfl
  obtain ⟨g, eg, hg⟩ : ∃ g : Int, (if iZ (qpF P t) < iZ v then iZ v else iZ (qpF P t)) = iZ g ∧ ((qpF P t < v ∧ g = v) ∨ (v ≤ qpF P t ∧ g = qpF P t)) := by
    by_cases q : qpF P t < v
    · exact ⟨v, if_pos ((iZ_lt (by omega) (by omega) (by omega) (by omega)).mpr q), Or.inl ⟨q, rfl⟩⟩
    · exact ⟨qpF P t, if_neg (fun q2 => q ((iZ_lt (by omega) (by omega) (by omega) (by omega)).mp q2)), Or.inr ⟨by omega, rfl⟩⟩
  rw [eg, iZ_add]
  refine ⟨hv, zle_b _ _ (by omega) (fun c => ⟨hv, hq _ (by omega) (by omega) (Or.inr (by omega))⟩) (fun c => hq 100000 (by omega) (by omega) (Or.inl (by omega)))⟩
/-! the least, who begins it, the least if another begins -/
def rI (P : PlT) (s : Nat) (D : Nat → Nat → Prop) (nx w lo : Int) : Prop := (0 ≤ nx ∧ nx ≤ 100000) ∧ (0 ≤ lo ∧ lo ≤ 100000) ∧ (-1 ≤ w ∧ w ≤ 3) ∧ (∀ y, yC y → (lo ≤ y ↔ ∃ t u, D t u ∧ BB P s t u y)) ∧ (∀ y, yC y → (nx ≤ y ↔ ∃ t u, D t u ∧ (u : Int) ≠ w ∧ BB P s t u y)) ∧ (∀ y, yC y → lo ≤ y → ∃ t u, D t u ∧ (u : Int) = w ∧ BB P s t u y)
theorem exD {D D' R : Nat → Nat → Prop} {t0 u0 : Nat} (hD : ∀ t u, D' t u ↔ D t u ∨ (t = t0 ∧ u = u0)) : (∃ t u, D' t u ∧ R t u) ↔ (∃ t u, D t u ∧ R t u) ∨ R t0 u0 := by
  constructor
  · rintro ⟨t, u, h, hR⟩
    rcases (hD t u).mp h with h | ⟨rfl, rfl⟩
    · exact Or.inl ⟨t, u, h, hR⟩
    · exact Or.inr hR
  · rintro (⟨t, u, h, hR⟩ | hR)
    · exact ⟨t, u, (hD t u).mpr (Or.inl h), hR⟩
    · exact ⟨t0, u0, (hD _ _).mpr (Or.inr ⟨rfl, rfl⟩), hR⟩
theorem rI_cg {P : PlT} {s : Nat} {D D' : Nat → Nat → Prop} {nx w lo : Int} (hD : ∀ t u, D' t u ↔ D t u) (h : rI P s D nx w lo) : rI P s D' nx w lo := by
  have : D' = D := by
    funext t u
    exact propext (hD t u)
  rw [this]; exact h
theorem rI_a {P : PlT} {s : Nat} {D D' : Nat → Nat → Prop} {nx w lo v : Int} {t0 u0 : Nat} (h : rI P s D nx w lo) (hD : ∀ t u, D' t u ↔ D t u ∨ (t = t0 ∧ u = u0)) (hv : 0 ≤ v ∧ v ≤ 100000) (hb : ∀ y, yC y → (v ≤ y ↔ BB P s t0 u0 y)) (e : (u0 : Int) = w) {m : Int} (hm : (v < lo ∧ m = v) ∨ (lo ≤ v ∧ m = lo)) : rI P s D' nx w m := by
  obtain ⟨h1, h2, h3, h4, h5, h6⟩ := h
  refine ⟨h1, by omega, h3, fun y hy => ?_, fun y hy => ?_, fun y hy hl => ?_⟩
  · rw [exD hD, ← h4 y hy, ← hb y hy]
    omega
  · rw [exD hD, h5 y hy]
    exact ⟨Or.inl, fun q => q.elim id (fun q => absurd e q.1)⟩
  · rw [exD hD]
    rcases Classical.em (lo ≤ y) with q | q
    · exact Or.inl (h6 y hy q)
    · exact Or.inr ⟨e, (hb y hy).mp (by omega)⟩
theorem rI_b {P : PlT} {s : Nat} {D D' : Nat → Nat → Prop} {nx w lo v : Int} {t0 u0 : Nat} (h : rI P s D nx w lo) (hD : ∀ t u, D' t u ↔ D t u ∨ (t = t0 ∧ u = u0)) (hv : 0 ≤ v ∧ v ≤ 100000) (hb : ∀ y, yC y → (v ≤ y ↔ BB P s t0 u0 y)) (e : (u0 : Int) ≠ w) (hu : u0 < 4) (hl : v < lo) : rI P s D' lo (u0 : Int) v := by
  obtain ⟨h1, h2, h3, h4, h5, h6⟩ := h
  refine ⟨h2, hv, by omega, fun y hy => ?_, fun y hy => ?_, fun y hy hl => ?_⟩
  · rw [exD hD, ← h4 y hy, ← hb y hy]
    omega
  · rw [exD hD]
    constructor
    · intro q
      obtain ⟨t, u, q1, q2, q3⟩ := h6 y hy q
      exact Or.inl ⟨t, u, q1, by omega, q3⟩
    · rintro (⟨t, u, q1, q2, q3⟩ | q)
      · exact (h4 y hy).mpr ⟨t, u, q1, q3⟩
      · exact absurd rfl q.1
  · rw [exD hD]
    exact Or.inr ⟨rfl, (hb y hy).mp hl⟩
theorem rI_c {P : PlT} {s : Nat} {D D' : Nat → Nat → Prop} {nx w lo v : Int} {t0 u0 : Nat} (h : rI P s D nx w lo) (hD : ∀ t u, D' t u ↔ D t u ∨ (t = t0 ∧ u = u0)) (hv : 0 ≤ v ∧ v ≤ 100000) (hb : ∀ y, yC y → (v ≤ y ↔ BB P s t0 u0 y)) (e : (u0 : Int) ≠ w) (hl : lo ≤ v) {m : Int} (hm : (v < nx ∧ m = v) ∨ (nx ≤ v ∧ m = nx)) : rI P s D' m w lo := by
  obtain ⟨h1, h2, h3, h4, h5, h6⟩ := h
  refine ⟨by omega, h2, h3, fun y hy => ?_, fun y hy => ?_, fun y hy hl => ?_⟩
  · rw [exD hD, ← h4 y hy, ← hb y hy]
    omega
  · rw [exD hD, ← h5 y hy, ← hb y hy]
    constructor
    · intro q
      rcases hm with ⟨m1, m2⟩ | ⟨m1, m2⟩
      · exact Or.inr ⟨e, by omega⟩
      · exact Or.inl (by omega)
    · rintro (q | q)
      · omega
      · have := q.2
        omega
  · rw [exD hD]
    exact Or.inl (h6 y hy hl)
def lb (A : Nat) : Nat := if hb A 0 = true then 1 else if hb A 1 = true then 2 else if hb A 2 = true then 4 else if hb A 3 = true then 8 else 0
theorem lb_all : ∀ A, A < 16 → (nI A &&& (-nI A) = nI (lb A) ∧ lb A < 16 ∧ ∀ u, u < 4 → (hb (lb A) u = true → hb A u = true) ∧ (hb A u = true → (hb (lb A) 0 = true ∨ hb (lb A) 1 = true ∨ hb (lb A) 2 = true ∨ hb (lb A) 3 = true))) := by decide +kernel
/-- tellers that the class looks at -/
def qtl (P : PlT) (t : Nat) : Nat := if qpT P = true then lb (qpA P t) else qpA P t
theorem tl_lt {P : PlT} (h : okP P) {t : Nat} (ht : t < qpN P) : qtl P t < 16 := by
  have hA : qpA P t < 16 := (h.2 t ht).2.2.2.2.2.2.2
  unfold qtl
  split
  · exact (lb_all _ hA).2.1
  · exact hA
/-- pairs of tale and teller ahead of (t, u) -/
def DD (P : PlT) (s t u : Nat) : Nat → Nat → Prop := fun t' u' => (t' < t ∨ (t' = t ∧ u' < u)) ∧ t' < qpN P ∧ u' < 4 ∧ hb s t' = true ∧ hb (qtl P t') u' = true
theorem rI_end {P : PlT} (h : okP P) {s : Nat} (hs : s ≠ 0) {nx w lo : Int} (hr : rI P s (DD P s (qpN P) 0) nx w lo) : ∀ l : Nat, l < 5 → ∀ y, yC y → ((if w = (l : Int) then (if qpT P = true then lo else nx) else lo) ≤ y ↔ Cn P s l y) := by
  intro l hl y hy
  obtain ⟨h1, h2, h3, h4, h5, h6⟩ := hr
  rw [Cn_s h.1 hs]
  have hlt : ∀ t u, DD P s (qpN P) 0 t u ↔ t < qpN P ∧ u < 4 ∧ hb s t = true ∧ hb (qtl P t) u = true := by
    intro t u
    constructor
    · rintro ⟨-, q⟩; exact q
    · rintro ⟨q1, q2⟩; exact ⟨Or.inl q1, q1, q2⟩
  by_cases e : qpT P = true
  · rw [if_pos e]
    have : (if w = (l : Int) then lo else lo) = lo := by split <;> rfl
    rw [this, h4 y hy]
    constructor
    · rintro ⟨t, u, hd, hb'⟩
      obtain ⟨q1, q2, q3, q4⟩ := (hlt t u).mp hd
      have hA : qpA P t < 16 := (h.2 t q1).2.2.2.2.2.2.2
      rw [qtl, if_pos e] at q4
      exact ⟨t, u, q1, q2, q3, ((lb_all _ hA).2.2 u q2).1 q4, by rw [mayN, e]; rfl, hb'⟩
    · rintro ⟨t, u, q1, q2, q3, q4, q5, q6, q7⟩
      have hA : qpA P t < 16 := (h.2 t q1).2.2.2.2.2.2.2
      have hx : ∀ u', u' < 4 → hb (lb (qpA P t)) u' = true → ∃ t u, DD P s (qpN P) 0 t u ∧ BB P s t u y := fun u' hu' h' => ⟨t, u', (hlt _ _).mpr ⟨q1, hu', q3, by rw [qtl, if_pos e]; exact h'⟩, q6, Cn_tw h.1 e q7⟩
      rcases ((lb_all _ hA).2.2 u q2).2 q4 with q | q | q | q
      · exact hx 0 (by decide) q
      · exact hx 1 (by decide) q
      · exact hx 2 (by decide) q
      · exact hx 3 (by decide) q
  · have e' : qpT P = false := by cases q : qpT P; rfl; exact absurd q e
    rw [if_neg e]
    have hlt' : ∀ t u, DD P s (qpN P) 0 t u ↔ t < qpN P ∧ u < 4 ∧ hb s t = true ∧ hb (qpA P t) u = true := by
      intro t u
      rw [hlt, qtl, if_neg e]
    have hm : ∀ u, mayN P l u = true ↔ ¬ l = u := by
      intro u
      rw [mayN, e', Bool.false_or]
      simp
    by_cases c : w = (l : Int)
    · rw [if_pos c, h5 y hy]
      constructor
      · rintro ⟨t, u, hd, q, hb'⟩
        obtain ⟨q1, q2, q3, q4⟩ := (hlt' t u).mp hd
        exact ⟨t, u, q1, q2, q3, q4, (hm u).mpr (by omega), hb'⟩
      · rintro ⟨t, u, q1, q2, q3, q4, q5, q6⟩
        have := (hm u).mp q5
        exact ⟨t, u, (hlt' t u).mpr ⟨q1, q2, q3, q4⟩, by omega, q6⟩
    · rw [if_neg c]
      constructor
      · intro q
        obtain ⟨t, u, hd, q, hb'⟩ := h6 y hy q
        obtain ⟨q1, q2, q3, q4⟩ := (hlt' t u).mp hd
        exact ⟨t, u, q1, q2, q3, q4, (hm u).mpr (by omega), hb'⟩
      · rintro ⟨t, u, q1, q2, q3, q4, q5, q6⟩
        exact (h4 y hy).mpr ⟨t, u, (hlt' t u).mpr ⟨q1, q2, q3, q4⟩, q6⟩
theorem hb_shr0 {A k j : Nat} (h : A / 2 ^ k = 0) (hj : k ≤ j) : hb A j = false := by
  have : A < 2 ^ k := by
    have := Nat.two_pow_pos k
    rcases Nat.div_eq_zero_iff.mp h with q | q
    · omega
    · exact q
  exact hb_bigN this hj
set_option maxHeartbeats 1000000 in
theorem rk_in {SP : Ob} {P : PlT} (h : cP SP P) {s t : Nat} (hs : s < 2 ^ qpN P) (ht : t < qpN P) (hst : hb s t = true) (hN : ndC SP P s) {nx w lo : Int} (hr : rI P s (DD P s t 0) nx w lo) {L6 : Int32 → Int32 → Int32 → Int32 → Int32 → Prop} {v19 v22 v20 : Int32} (e22 : v22 = nI (qtl P t)) (e20 : v20 = nI (rm s t))
    (hL : ∀ nx' w' lo', rI P s (DD P s (t + 1) 0) nx' w' lo' → L6 (nI (t + 1)) v19 (iZ nx') (iZ w') (iZ lo')) :
    ∃ n, wl4 (fun L27 (x9_23 : Int32) (x4_24 : Int32) (x3_25 : Int32) (x2_26 : Int32) => ((4 ≤ x9_23 → ∀ v28 : Int32, v28 = nI t + 1 → L6 v28 v19 x4_24 x3_25 x2_26) ∧ (¬ 4 ≤ x9_23 → (((v22 >>> (x9_23 &&& 31)) = 0 → ∀ v29 : Int32, v29 = nI t + 1 → L6 v29 v19 x4_24 x3_25 x2_26) ∧ (¬ (v22 >>> (x9_23 &&& 31)) = 0 → ((¬ ((v22 >>> (x9_23 &&& 31)) &&& 1) = 0 → w_X3_yearNeeded SP v20 x9_23 (fun (r30 : Int32) => w_X3_yearAhead SP (nI t) r30 (fun (r32 : Int32) => ((¬ x9_23 = x3_25 → ((x2_26 ≤ r32 → ((x4_24 ≤ r32 → ∀ v34 : Int32, v34 = x9_23 + 1 → L27 v34 x4_24 x3_25 x2_26) ∧ (¬ x4_24 ≤ r32 → ∀ v35 : Int32, v35 = x9_23 + 1 → L27 v35 r32 x3_25 x2_26))) ∧ (¬ x2_26 ≤ r32 → ∀ v37 : Int32, v37 = x9_23 + 1 → L27 v37 x2_26 x9_23 r32))) ∧ (x9_23 = x3_25 → ∀ v39 : Int32, v39 = (if r32 < x2_26 then r32 else x2_26) → ∀ v40 : Int32, v40 = x9_23 + 1 → L27 v40 x4_24 x3_25 v39))))) ∧ (((v22 >>> (x9_23 &&& 31)) &&& 1) = 0 → ∀ v42 : Int32, v42 = x9_23 + 1 → L27 v42 x4_24 x3_25 x2_26))))))) n 0 (iZ nx) (iZ w) (iZ lo) := by
  have hok := h.1
  have h10 := hok.1
  have hp := p10 h10
  have hA := tl_lt hok ht
  have hr' : rm s t < s := rm_lt (by omega) hst
  subst e22 e20
  have fin : ∀ u nx' w' lo', (∀ j, u ≤ j → j < 4 → hb (qtl P t) j = false) → rI P s (DD P s t u) nx' w' lo' → rI P s (DD P s (t + 1) 0) nx' w' lo' := by
    intro u nx' w' lo' hz hI
    refine rI_cg (fun t' u' => ?_) hI
    unfold DD
    constructor
    · rintro ⟨q1, q2, q3, q4, q5⟩
      refine ⟨?_, q2, q3, q4, q5⟩
      rcases Nat.lt_or_ge t' t with d | d
      · exact Or.inl d
      · have e : t' = t := by omega
        subst e
        refine Or.inr ⟨rfl, ?_⟩
        rcases Nat.lt_or_ge u' u with d2 | d2
        · exact d2
        · rw [hz u' d2 q3] at q5; exact absurd q5 (by decide)
    · rintro ⟨q1, q2⟩
      exact ⟨Or.inl (by omega), q2⟩
  refine fo4 4 (by decide) (fun u x4 x3 x2 => ∃ nx' w' lo', x4 = iZ nx' ∧ x3 = iZ w' ∧ x2 = iZ lo' ∧ rI P s (DD P s t u) nx' w' lo') ⟨nx, w, lo, rfl, rfl, rfl, hr⟩ ?_ ?_
  · rintro L u x4 x3 x2 hu ⟨nx', w', lo', rfl, rfl, rfl, hI⟩ ih
    refine br_n (fun q => by have := (nI_leI (a := 4) (b := u) (by decide) (by omega)).mp q; omega) ?_
    have e0 : ((nI (qtl P t) >>> (nI u &&& 31)) = 0) ↔ qtl P t / 2 ^ u = 0 := by
      rw [shr_n (by omega) (by omega)]
      exact nI_eq (by have := Nat.div_le_self (qtl P t) (2 ^ u); omega) (by decide)
    refine ⟨fun c => ?_, fun _ => bh_b (by omega) (by omega) (fun c => ?_) (fun c => ?_)⟩
    · rintro v rfl
      rw [nI_1]
      exact hL _ _ _ (fin u _ _ _ (fun j hj _ => hb_shr0 (e0.mp c) hj) hI)
    · rintro v rfl
      rw [nI_1]
      refine ih _ _ _ ⟨nx', w', lo', rfl, rfl, rfl, rI_cg (fun t' u' => ?_) hI⟩
      unfold DD
      constructor
      · rintro ⟨q1, q2, q3, q4, q5⟩
        refine ⟨q1.imp id (fun q => ⟨q.1, ?_⟩), q2, q3, q4, q5⟩
        rcases Nat.lt_or_ge u' u with d | d
        · exact d
        · have e1 : u' = u := by omega
          have e2 := q.1
          subst e1 e2
          rw [c] at q5; exact absurd q5 (by decide)
      · rintro ⟨q1, q2⟩
        exact ⟨q1.imp id (fun q => ⟨q.1, by omega⟩), q2⟩
    · have hD : ∀ t' u', DD P s t (u + 1) t' u' ↔ DD P s t u t' u' ∨ (t' = t ∧ u' = u) := by
        intro t' u'
        unfold DD
        constructor
        · rintro ⟨q1, q2, q3, q4, q5⟩
          rcases q1 with q | ⟨q, q6⟩
          · exact Or.inl ⟨Or.inl q, q2, q3, q4, q5⟩
          · rcases Nat.lt_or_ge u' u with d | d
            · exact Or.inl ⟨Or.inr ⟨q, d⟩, q2, q3, q4, q5⟩
            · exact Or.inr ⟨q, by omega⟩
        · rintro (⟨q1, q2⟩ | ⟨q1, q2⟩)
          · exact ⟨q1.imp id (fun q => ⟨q.1, by omega⟩), q2⟩
          · subst q1 q2
            exact ⟨Or.inr ⟨rfl, by omega⟩, ht, hu, hst, c⟩
      refine s_yearNeeded (by omega) (hN _ hr') (by omega) (fun v hv => s_yearAhead h ht hv.1 hv.2.1 (fun r r0 r1 hrr => ?_))
      have hbd := hok.2 t ht
      have hBB : ∀ y, yC y → (r ≤ y ↔ BB P s t u y) := by
        intro y hy
        rw [BB_v hok ht (v := v) (fun y h1 h2 => hv.2.2 y ⟨h1, by omega⟩)]
        have := hy.2
        omega
      obtain ⟨i1, i2, i3, i4, i5, i6⟩ := id hI
      rw [iZ_n u]
      refine zqe_b _ _ (by omega) (fun c3 => ?_) (fun c3 => zle_b _ _ (by omega) (fun c4 => zle_b _ _ (by omega) (fun c5 => ?_) (fun c5 => ?_)) (fun c4 => ?_))
      · rintro m rfl k rfl
        rw [← iZ_n, nI_1]
        obtain ⟨m, em, hm⟩ : ∃ m : Int, (if iZ r < iZ lo' then iZ r else iZ lo') = iZ m ∧ ((r < lo' ∧ m = r) ∨ (lo' ≤ r ∧ m = lo')) := by
          by_cases q : r < lo'
          · exact ⟨r, if_pos ((iZ_lt (by omega) (by omega) (by omega) (by omega)).mpr q), Or.inl ⟨q, rfl⟩⟩
          · exact ⟨lo', if_neg (fun q2 => q ((iZ_lt (by omega) (by omega) (by omega) (by omega)).mp q2)), Or.inr ⟨by omega, rfl⟩⟩
        rw [em]
        exact ih _ _ _ ⟨nx', w', m, rfl, rfl, rfl, rI_a hI hD ⟨r0, r1⟩ hBB c3 hm⟩
      · rintro k rfl
        rw [← iZ_n, nI_1]
        exact ih _ _ _ ⟨nx', w', lo', rfl, rfl, rfl, rI_c hI hD ⟨r0, r1⟩ hBB c3 c4 (Or.inr ⟨c5, rfl⟩)⟩
      · rintro k rfl
        rw [← iZ_n, nI_1]
        exact ih _ _ _ ⟨r, w', lo', rfl, rfl, rfl, rI_c hI hD ⟨r0, r1⟩ hBB c3 c4 (Or.inl ⟨c5, rfl⟩)⟩
      · rintro k rfl
        rw [← iZ_n, nI_1]
        exact ih _ _ _ ⟨lo', u, r, rfl, iZ_n u, rfl, rI_b hI hD ⟨r0, r1⟩ hBB c3 hu c4⟩
  · rintro L x4 x3 x2 ⟨nx', w', lo', rfl, rfl, rfl, hI⟩
    refine br_y (Int32.le_refl _) ?_
    rintro v rfl
    rw [nI_1]
    exact hL _ _ _ (fin 4 _ _ _ (fun j hj hj4 => by omega) hI)
