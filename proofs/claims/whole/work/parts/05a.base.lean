/-! ===== combinators of the predicates: a join, a loop ===== -/
def jn {α : Sort _} (j : α) (b : α → Prop) : Prop := b j
theorem jn_e {α : Sort _} {j : α} {b : α → Prop} (h : jn j b) : ∃ J, J = j ∧ b J := ⟨j, rfl, h⟩
def wl1 {A1 : Type} (b : (A1 → Prop) → A1 → Prop) : Nat → A1 → Prop
  | 0 => fun _ => False
  | n + 1 => fun x1 => b (wl1 b n) x1
def wl2 {A1 A2 : Type} (b : (A1 → A2 → Prop) → A1 → A2 → Prop) : Nat → A1 → A2 → Prop
  | 0 => fun _ _ => False
  | n + 1 => fun x1 x2 => b (wl2 b n) x1 x2
def wl3 {A1 A2 A3 : Type} (b : (A1 → A2 → A3 → Prop) → A1 → A2 → A3 → Prop) : Nat → A1 → A2 → A3 → Prop
  | 0 => fun _ _ _ => False
  | n + 1 => fun x1 x2 x3 => b (wl3 b n) x1 x2 x3
def wl4 {A1 A2 A3 A4 : Type} (b : (A1 → A2 → A3 → A4 → Prop) → A1 → A2 → A3 → A4 → Prop) : Nat → A1 → A2 → A3 → A4 → Prop
  | 0 => fun _ _ _ _ => False
  | n + 1 => fun x1 x2 x3 x4 => b (wl4 b n) x1 x2 x3 x4
def wl5 {A1 A2 A3 A4 A5 : Type} (b : (A1 → A2 → A3 → A4 → A5 → Prop) → A1 → A2 → A3 → A4 → A5 → Prop) : Nat → A1 → A2 → A3 → A4 → A5 → Prop
  | 0 => fun _ _ _ _ _ => False
  | n + 1 => fun x1 x2 x3 x4 x5 => b (wl5 b n) x1 x2 x3 x4 x5
def wl6 {A1 A2 A3 A4 A5 A6 : Type} (b : (A1 → A2 → A3 → A4 → A5 → A6 → Prop) → A1 → A2 → A3 → A4 → A5 → A6 → Prop) : Nat → A1 → A2 → A3 → A4 → A5 → A6 → Prop
  | 0 => fun _ _ _ _ _ _ => False
  | n + 1 => fun x1 x2 x3 x4 x5 x6 => b (wl6 b n) x1 x2 x3 x4 x5 x6
def wl7 {A1 A2 A3 A4 A5 A6 A7 : Type} (b : (A1 → A2 → A3 → A4 → A5 → A6 → A7 → Prop) → A1 → A2 → A3 → A4 → A5 → A6 → A7 → Prop) : Nat → A1 → A2 → A3 → A4 → A5 → A6 → A7 → Prop
  | 0 => fun _ _ _ _ _ _ _ => False
  | n + 1 => fun x1 x2 x3 x4 x5 x6 x7 => b (wl7 b n) x1 x2 x3 x4 x5 x6 x7
theorem wl1_ind {A1 : Type} {b : (A1 → Prop) → A1 → Prop} {G : A1 → Prop} (hs : ∀ L : A1 → Prop, (∀ x1, L x1 → G x1) → ∀ x1, b L x1 → G x1) : ∀ x1, (∃ n, wl1 b n x1) → G x1 := by
  rintro x1 ⟨n, h⟩
  induction n generalizing x1 with
  | zero => exact h.elim
  | succ n ih => exact hs _ ih _ h
theorem wl2_ind {A1 A2 : Type} {b : (A1 → A2 → Prop) → A1 → A2 → Prop} {G : A1 → A2 → Prop} (hs : ∀ L : A1 → A2 → Prop, (∀ x1 x2, L x1 x2 → G x1 x2) → ∀ x1 x2, b L x1 x2 → G x1 x2) : ∀ x1 x2, (∃ n, wl2 b n x1 x2) → G x1 x2 := by
  rintro x1 x2 ⟨n, h⟩
  induction n generalizing x1 x2 with
  | zero => exact h.elim
  | succ n ih => exact hs _ ih _ _ h
theorem wl3_ind {A1 A2 A3 : Type} {b : (A1 → A2 → A3 → Prop) → A1 → A2 → A3 → Prop} {G : A1 → A2 → A3 → Prop} (hs : ∀ L : A1 → A2 → A3 → Prop, (∀ x1 x2 x3, L x1 x2 x3 → G x1 x2 x3) → ∀ x1 x2 x3, b L x1 x2 x3 → G x1 x2 x3) : ∀ x1 x2 x3, (∃ n, wl3 b n x1 x2 x3) → G x1 x2 x3 := by
  rintro x1 x2 x3 ⟨n, h⟩
  induction n generalizing x1 x2 x3 with
  | zero => exact h.elim
  | succ n ih => exact hs _ ih _ _ _ h
theorem wl4_ind {A1 A2 A3 A4 : Type} {b : (A1 → A2 → A3 → A4 → Prop) → A1 → A2 → A3 → A4 → Prop} {G : A1 → A2 → A3 → A4 → Prop} (hs : ∀ L : A1 → A2 → A3 → A4 → Prop, (∀ x1 x2 x3 x4, L x1 x2 x3 x4 → G x1 x2 x3 x4) → ∀ x1 x2 x3 x4, b L x1 x2 x3 x4 → G x1 x2 x3 x4) : ∀ x1 x2 x3 x4, (∃ n, wl4 b n x1 x2 x3 x4) → G x1 x2 x3 x4 := by
  rintro x1 x2 x3 x4 ⟨n, h⟩
  induction n generalizing x1 x2 x3 x4 with
  | zero => exact h.elim
  | succ n ih => exact hs _ ih _ _ _ _ h
theorem wl5_ind {A1 A2 A3 A4 A5 : Type} {b : (A1 → A2 → A3 → A4 → A5 → Prop) → A1 → A2 → A3 → A4 → A5 → Prop} {G : A1 → A2 → A3 → A4 → A5 → Prop} (hs : ∀ L : A1 → A2 → A3 → A4 → A5 → Prop, (∀ x1 x2 x3 x4 x5, L x1 x2 x3 x4 x5 → G x1 x2 x3 x4 x5) → ∀ x1 x2 x3 x4 x5, b L x1 x2 x3 x4 x5 → G x1 x2 x3 x4 x5) : ∀ x1 x2 x3 x4 x5, (∃ n, wl5 b n x1 x2 x3 x4 x5) → G x1 x2 x3 x4 x5 := by
  rintro x1 x2 x3 x4 x5 ⟨n, h⟩
  induction n generalizing x1 x2 x3 x4 x5 with
  | zero => exact h.elim
  | succ n ih => exact hs _ ih _ _ _ _ _ h
theorem wl6_ind {A1 A2 A3 A4 A5 A6 : Type} {b : (A1 → A2 → A3 → A4 → A5 → A6 → Prop) → A1 → A2 → A3 → A4 → A5 → A6 → Prop} {G : A1 → A2 → A3 → A4 → A5 → A6 → Prop} (hs : ∀ L : A1 → A2 → A3 → A4 → A5 → A6 → Prop, (∀ x1 x2 x3 x4 x5 x6, L x1 x2 x3 x4 x5 x6 → G x1 x2 x3 x4 x5 x6) → ∀ x1 x2 x3 x4 x5 x6, b L x1 x2 x3 x4 x5 x6 → G x1 x2 x3 x4 x5 x6) : ∀ x1 x2 x3 x4 x5 x6, (∃ n, wl6 b n x1 x2 x3 x4 x5 x6) → G x1 x2 x3 x4 x5 x6 := by
  rintro x1 x2 x3 x4 x5 x6 ⟨n, h⟩
  induction n generalizing x1 x2 x3 x4 x5 x6 with
  | zero => exact h.elim
  | succ n ih => exact hs _ ih _ _ _ _ _ _ h
theorem wl7_ind {A1 A2 A3 A4 A5 A6 A7 : Type} {b : (A1 → A2 → A3 → A4 → A5 → A6 → A7 → Prop) → A1 → A2 → A3 → A4 → A5 → A6 → A7 → Prop} {G : A1 → A2 → A3 → A4 → A5 → A6 → A7 → Prop} (hs : ∀ L : A1 → A2 → A3 → A4 → A5 → A6 → A7 → Prop, (∀ x1 x2 x3 x4 x5 x6 x7, L x1 x2 x3 x4 x5 x6 x7 → G x1 x2 x3 x4 x5 x6 x7) → ∀ x1 x2 x3 x4 x5 x6 x7, b L x1 x2 x3 x4 x5 x6 x7 → G x1 x2 x3 x4 x5 x6 x7) : ∀ x1 x2 x3 x4 x5 x6 x7, (∃ n, wl7 b n x1 x2 x3 x4 x5 x6 x7) → G x1 x2 x3 x4 x5 x6 x7 := by
  rintro x1 x2 x3 x4 x5 x6 x7 ⟨n, h⟩
  induction n generalizing x1 x2 x3 x4 x5 x6 x7 with
  | zero => exact h.elim
  | succ n ih => exact hs _ ih _ _ _ _ _ _ _ h
