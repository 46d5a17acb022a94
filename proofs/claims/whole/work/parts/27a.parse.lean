/-! ===== texts of laws: what they say, told once for both ===== -/
abbrev Den := (Nat → Int) → Option Int
abbrev PrT := Sum Nat (Nat × Nat × Den)
def bnd (v : Int) : Option Int := if v ≤ 1000000000 ∧ -1000000000 ≤ v then some v else none
def dO2 (f : Int → Int → Option Int) (D E : Den) : Den := fun φ => (D φ).bind (fun a => (E φ).bind (fun b => f a b))
def cbMul (k : Nat) : Den → Den → Den := dO2 (if k = 142 then (fun a b => bnd (a * b)) else (fun a b => if b = 0 then none else bnd (a.tdiv b)))
def cbAdd (k : Nat) : Den → Den → Den := dO2 (if k = 143 then (fun a b => bnd (a + b)) else (fun a b => bnd (a - b)))
def cbAnd (_k : Nat) (D E : Den) : Den := fun φ => (D φ).bind (fun a => if a = 0 then some 0 else E φ)
def cbOr (_k : Nat) (D E : Den) : Den := fun φ => (D φ).bind (fun a => if a = 0 then E φ else some a)
def cmpD (k : Nat) : Den → Den → Den := dO2 (fun a b => some (if k = 160 then (if a < b then 1 else 0) else if k = 162 then (if b < a then 1 else 0) else (if a = b then 1 else 0)))
def dNot (b : Bool) (D : Den) : Den := fun φ => (D φ).bind (fun a => some (if b = true then 1 - a else a))
def ioMul (k : Nat) : Bool := decide (k = 142 ∨ k = 147)
def ioAdd (k : Nat) : Bool := decide (k = 143 ∨ k = 145)
def ioAnd (k : Nat) : Bool := decide (k = 6)
def ioOr (k : Nat) : Bool := decide (k = 5)
def lp (c : Nat → Nat) (io : Nat → Bool) (cb : Nat → Den → Den → Den) (nx : Nat → Nat → PrT) : Nat → Nat → Nat → Den → PrT
  | 0, q, lv, D => .inr (q, lv, D)
  | f + 1, q, lv, D => if io (c q) = true then Sum.elim .inl (fun r => lp c io cb nx f r.1 r.2.1 (cb (c q) D r.2.2)) (nx (q + 1) lv) else .inr (q, lv, D)
def incP (nx : Nat → Nat → PrT) : Prop := ∀ p lv r, nx p lv = .inr r → p ≤ r.1
theorem lp_fuel {c : Nat → Nat} {io : Nat → Bool} {cb : Nat → Den → Den → Den} {nx : Nat → Nat → PrT} (hz : ∀ q, 401 ≤ q → io (c q) = false) (hi : incP nx) : ∀ f f' q lv D, 401 ≤ q + f → 401 ≤ q + f' → lp c io cb nx f q lv D = lp c io cb nx f' q lv D := by
  intro f
  induction f with
  | zero =>
    intro f' q lv D h1 h2
    have hq := hz q (by omega)
    cases f' with
    | zero => rfl
    | succ g => rw [lp, lp, if_neg (by rw [hq]; decide)]
  | succ f ih =>
    intro f' q lv D h1 h2
    by_cases hq : io (c q) = true
    · have hlt : q < 401 := by
        rcases Nat.lt_or_ge q 401 with a | a
        · exact a
        · rw [hz q a] at hq; exact absurd hq (by decide)
      obtain ⟨g, rfl⟩ : ∃ g, f' = g + 1 := ⟨f' - 1, by omega⟩
      rw [lp, lp, if_pos hq, if_pos hq]
      cases e : nx (q + 1) lv with
      | inl a => rfl
      | inr r =>
        have := hi _ _ _ e
        exact ih g r.1 r.2.1 _ (by omega) (by omega)
    · cases f' with
      | zero => rw [lp, lp, if_neg hq]
      | succ g => rw [lp, lp, if_neg hq, if_neg hq]
theorem lp_s {c : Nat → Nat} {io : Nat → Bool} {cb : Nat → Den → Den → Den} {nx : Nat → Nat → PrT} (hz : ∀ q, 401 ≤ q → io (c q) = false) (hi : incP nx) (q lv : Nat) (D : Den) : lp c io cb nx 401 q lv D = if io (c q) = true then Sum.elim .inl (fun r => lp c io cb nx 401 r.1 r.2.1 (cb (c q) D r.2.2)) (nx (q + 1) lv) else .inr (q, lv, D) := by
  rw [lp]
  by_cases hq : io (c q) = true
  · rw [if_pos hq, if_pos hq]
    cases e : nx (q + 1) lv with
    | inl a => rw [Sum.elim_inl, Sum.elim_inl]
    | inr r =>
      have := hi _ _ _ e
      rw [Sum.elim_inr, Sum.elim_inr]
      exact lp_fuel hz hi 400 401 r.1 r.2.1 _ (by omega) (by omega)
  · rw [if_neg hq, if_neg hq]
theorem lp_inc {c : Nat → Nat} {io : Nat → Bool} {cb : Nat → Den → Den → Den} {nx : Nat → Nat → PrT} (hi : incP nx) : ∀ f q lv D r, lp c io cb nx f q lv D = .inr r → q ≤ r.1 := by
  intro f
  induction f with
  | zero => intro q lv D r h; rw [lp] at h; cases h; exact Nat.le_refl _
  | succ f ih =>
    intro q lv D r h
    rw [lp] at h
    by_cases hq : io (c q) = true
    · rw [if_pos hq] at h
      cases e : nx (q + 1) lv with
      | inl a => rw [e] at h; exact absurd h (by simp)
      | inr r' =>
        rw [e] at h
        have h1 := hi _ _ _ e
        have h2 := ih _ _ _ _ h
        omega
    · rw [if_neg hq] at h
      cases h
      exact Nat.le_refl _
/-- a number, a word, or a sum in brackets -/
def mPart (c w : Nat → Nat) (rec : Nat → Nat → Nat → PrT) (deep p lv : Nat) : PrT :=
  if c p = 191 then (if deep = 8 then .inl p else Sum.elim .inl (fun r => if c r.1 = 193 then .inr (r.1 + 1, r.2.1, r.2.2) else .inl r.1) (rec (deep + 1) (p + 1) lv))
  else if (c p = 50 ∧ w p ≤ 2000) ∨ (8 ≤ c p ∧ c p ≤ 15) then (if lv = 50 then .inl p else .inr (p + 1, lv + 1, fun φ => some (if c p = 50 then (w p : Int) else φ (c p - 8))))
  else .inl p
def mTerm (c w : Nat → Nat) (rec : Nat → Nat → Nat → PrT) (deep p lv : Nat) : PrT :=
  Sum.elim .inl (fun r => lp c ioMul cbMul (mPart c w rec deep) 401 r.1 r.2.1 r.2.2) (mPart c w rec deep p lv)
def mSum (c w : Nat → Nat) : Nat → Nat → Nat → Nat → PrT
  | 0 => fun _ p _ => .inl p
  | d + 1 => fun deep p lv => Sum.elim .inl (fun r => lp c ioAdd cbAdd (mTerm c w (mSum c w d) deep) 401 r.1 r.2.1 r.2.2) (mTerm c w (mSum c w d) deep p lv)
theorem mSum_s {c w : Nat → Nat} {d deep p lv : Nat} : mSum c w (d + 1) deep p lv = Sum.elim .inl (fun r => lp c ioAdd cbAdd (mTerm c w (mSum c w d) deep) 401 r.1 r.2.1 r.2.2) (mTerm c w (mSum c w d) deep p lv) := rfl
/-- the "not"s ahead: where they end, whether they are odd -/
def nLp (c : Nat → Nat) : Nat → Nat → Bool → Nat × Bool
  | 0, p, b => (p, b)
  | f + 1, p, b => if c p = 7 then nLp c f (p + 1) (!b) else (p, b)
def mPos (c w : Nat → Nat) (rec : Nat → Nat → Nat → PrT) (deep p lv : Nat) : PrT :=
  if c p = 140 then (if deep = 8 then .inl p else Sum.elim .inl (fun r => if c r.1 = 141 then .inr (r.1 + 1, r.2.1, r.2.2) else .inl r.1) (rec (deep + 1) (p + 1) lv))
  else Sum.elim .inl (fun r => if c r.1 = 160 ∨ c r.1 = 162 ∨ c r.1 = 161 then Sum.elim .inl (fun r2 => .inr (r2.1, r2.2.1, cmpD (c r.1) r.2.2 r2.2.2)) (mSum c w 12 deep (r.1 + 1) r.2.1) else .inl r.1) (mSum c w 12 deep p lv)
def mPlain (c w : Nat → Nat) (rec : Nat → Nat → Nat → PrT) (deep p lv : Nat) : PrT :=
  Sum.elim .inl (fun r => .inr (r.1, r.2.1, dNot (nLp c 401 p false).2 r.2.2)) (mPos c w rec deep (nLp c 401 p false).1 lv)
def mBoth (c w : Nat → Nat) (rec : Nat → Nat → Nat → PrT) (deep p lv : Nat) : PrT :=
  Sum.elim .inl (fun r => lp c ioAnd cbAnd (mPlain c w rec deep) 401 r.1 r.2.1 r.2.2) (mPlain c w rec deep p lv)
def mTest (c w : Nat → Nat) : Nat → Nat → Nat → Nat → PrT
  | 0 => fun _ p _ => .inl p
  | d + 1 => fun deep p lv => Sum.elim .inl (fun r => lp c ioOr cbOr (mBoth c w (mTest c w d) deep) 401 r.1 r.2.1 r.2.2) (mBoth c w (mTest c w d) deep p lv)
theorem mTest_s {c w : Nat → Nat} {d deep p lv : Nat} : mTest c w (d + 1) deep p lv = Sum.elim .inl (fun r => lp c ioOr cbOr (mBoth c w (mTest c w d) deep) 401 r.1 r.2.1 r.2.2) (mBoth c w (mTest c w d) deep p lv) := rfl
theorem el_inr {α : Type} {x : PrT} {f : Nat × Nat × Den → Sum Nat α} {r : α} (h : Sum.elim .inl f x = .inr r) : ∃ y, x = .inr y ∧ f y = .inr r := by
  cases x with
  | inl a => exact absurd h (by simp)
  | inr y => exact ⟨y, rfl, h⟩
theorem inc_part {c w : Nat → Nat} {rec : Nat → Nat → Nat → PrT} {deep : Nat} (hr : incP (rec (deep + 1))) : ∀ p lv r, mPart c w rec deep p lv = .inr r → p + 1 ≤ r.1 := by
  intro p lv r h
  unfold mPart at h
  split at h
  · split at h
    · exact absurd h (by simp)
    · obtain ⟨y, e, h⟩ := el_inr h
      have := hr _ _ _ e
      split at h
      · cases h
        show p + 1 ≤ y.1 + 1
        omega
      · exact absurd h (by simp)
  · split at h
    · split at h
      · exact absurd h (by simp)
      · cases h; exact Nat.le_refl _
    · exact absurd h (by simp)
theorem inc_term {c w : Nat → Nat} {rec : Nat → Nat → Nat → PrT} {deep : Nat} (hr : incP (rec (deep + 1))) : ∀ p lv r, mTerm c w rec deep p lv = .inr r → p + 1 ≤ r.1 := by
  intro p lv r h
  unfold mTerm at h
  obtain ⟨y, e, h⟩ := el_inr h
  have h1 := inc_part hr _ _ _ e
  have h2 := lp_inc (fun p lv r h => by have := inc_part hr p lv r h; omega) _ _ _ _ _ h
  omega
theorem inc_sum {c w : Nat → Nat} : ∀ d deep p lv r, mSum c w d deep p lv = .inr r → p + 1 ≤ r.1 := by
  intro d
  induction d with
  | zero => intro deep p lv r h; exact absurd h (by simp [mSum])
  | succ d ih =>
    intro deep p lv r h
    rw [mSum_s] at h
    have hr : incP (mSum c w d (deep + 1)) := fun p lv r h => by have := ih (deep + 1) p lv r h; omega
    obtain ⟨y, e, h⟩ := el_inr h
    have h1 := inc_term hr _ _ _ e
    have h2 := lp_inc (fun p lv r h => by have := inc_term hr p lv r h; omega) _ _ _ _ _ h
    omega
theorem nLp_le (c : Nat → Nat) : ∀ f p b, p ≤ (nLp c f p b).1
  | 0, p, b => Nat.le_refl _
  | f + 1, p, b => by
    rw [nLp]
    split
    · have := nLp_le c f (p + 1) (!b)
      omega
    · exact Nat.le_refl _
theorem inc_pos {c w : Nat → Nat} {rec : Nat → Nat → Nat → PrT} {deep : Nat} (hr : incP (rec (deep + 1))) : ∀ p lv r, mPos c w rec deep p lv = .inr r → p + 1 ≤ r.1 := by
  intro p lv r h
  unfold mPos at h
  split at h
  · split at h
    · exact absurd h (by simp)
    · obtain ⟨y, e, h⟩ := el_inr h
      have := hr _ _ _ e
      split at h
      · cases h
        show p + 1 ≤ y.1 + 1
        omega
      · exact absurd h (by simp)
  · obtain ⟨y, e, h⟩ := el_inr h
    have h1 := inc_sum _ _ _ _ _ e
    split at h
    · obtain ⟨y2, e2, h⟩ := el_inr h
      have h2 := inc_sum _ _ _ _ _ e2
      cases h
      show p + 1 ≤ y2.1
      omega
    · exact absurd h (by simp)
theorem inc_plain {c w : Nat → Nat} {rec : Nat → Nat → Nat → PrT} {deep : Nat} (hr : incP (rec (deep + 1))) : ∀ p lv r, mPlain c w rec deep p lv = .inr r → p + 1 ≤ r.1 := by
  intro p lv r h
  unfold mPlain at h
  obtain ⟨y, e, h⟩ := el_inr h
  have h1 := inc_pos hr _ _ _ e
  have h2 := nLp_le c 401 p false
  cases h
  show p + 1 ≤ y.1
  omega
theorem inc_both {c w : Nat → Nat} {rec : Nat → Nat → Nat → PrT} {deep : Nat} (hr : incP (rec (deep + 1))) : ∀ p lv r, mBoth c w rec deep p lv = .inr r → p + 1 ≤ r.1 := by
  intro p lv r h
  unfold mBoth at h
  obtain ⟨y, e, h⟩ := el_inr h
  have h1 := inc_plain hr _ _ _ e
  have h2 := lp_inc (fun p lv r h => by have := inc_plain hr p lv r h; omega) _ _ _ _ _ h
  omega
theorem inc_test {c w : Nat → Nat} : ∀ d deep p lv r, mTest c w d deep p lv = .inr r → p + 1 ≤ r.1 := by
  intro d
  induction d with
  | zero => intro deep p lv r h; exact absurd h (by simp [mTest])
  | succ d ih =>
    intro deep p lv r h
    rw [mTest_s] at h
    have hr : incP (mTest c w d (deep + 1)) := fun p lv r h => by have := ih (deep + 1) p lv r h; omega
    obtain ⟨y, e, h⟩ := el_inr h
    have h1 := inc_both hr _ _ _ e
    have h2 := lp_inc (fun p lv r h => by have := inc_both hr p lv r h; omega) _ _ _ _ _ h
    omega
/-! tokens -/
abbrev TkT := Nat × (Nat → Nat) × (Nat → Nat) × (Nat → Nat)
def kN (K : TkT) : Nat := K.1
def kC (K : TkT) (i : Nat) : Nat := K.2.1 i
def kV (K : TkT) (i : Nat) : Nat := K.2.2.1 i
def kP (K : TkT) (i : Nat) : Nat := K.2.2.2 i
def okK (K : TkT) : Prop := kN K ≤ 400 ∧ (∀ i, kN K ≤ i → kC K i = 0) ∧ (∀ i, kC K i ≤ 355) ∧ (∀ i, kP K i ≤ 400) ∧ ∀ i, kV K i ≤ 2001
theorem okK_i {K : TkT} (h : okK K) {p : Nat} (hp : kC K p ≠ 0) : p < kN K := by
  rcases Nat.lt_or_ge p (kN K) with q | q
  · exact q
  · exact absurd (h.2.1 p q) hp
theorem okK_z {K : TkT} (h : okK K) {io : Nat → Bool} (h0 : io 0 = false) : ∀ q, 401 ≤ q → io (kC K q) = false := fun q hq => by rw [h.2.1 q (by have := h.1; omega)]; exact h0
