/-! ===== dating: years that agree, the least ones, how fast they are found ===== -/
def sm (f : Nat → Nat) : Nat → Nat
  | 0 => 0
  | n + 1 => sm f n + f n
theorem sm_le {f g : Nat → Nat} : ∀ {n : Nat}, (∀ t, t < n → f t ≤ g t) → sm f n ≤ sm g n
  | 0, _ => Nat.le_refl _
  | n + 1, h => Nat.add_le_add (sm_le (fun t ht => h t (by omega))) (h n (by omega))
theorem sm_lt {f g : Nat → Nat} : ∀ {n : Nat}, (∀ t, t < n → f t ≤ g t) → (∃ t, t < n ∧ f t < g t) → sm f n < sm g n
  | 0, _, h => by obtain ⟨t, ht, -⟩ := h; omega
  | n + 1, h, hx => by
    obtain ⟨t, ht, hl⟩ := hx
    have h1 : sm f n ≤ sm g n := sm_le (fun t ht => h t (by omega))
    have h2 := h n (by omega)
    show sm f n + f n < sm g n + g n
    by_cases e : t = n
    · subst e; omega
    · have := sm_lt (n := n) (fun t ht => h t (by omega)) ⟨t, by omega, hl⟩
      omega
theorem sm_cong {f g : Nat → Nat} {n : Nat} (h : ∀ t, t < n → f t = g t) : sm f n = sm g n :=
  Nat.le_antisymm (sm_le (fun t ht => Nat.le_of_eq (h t ht))) (sm_le (fun t ht => Nat.le_of_eq (h t ht).symm))
theorem sm_one {f : Nat → Nat} (hf : ∀ t, f t ≤ 1) : ∀ n : Nat, sm f n ≤ n
  | 0 => Nat.le_refl _
  | n + 1 => by have := sm_one hf n; have := hf n; show sm f n + f n ≤ n + 1; omega
theorem sm_full {f : Nat → Nat} (hf : ∀ t, f t ≤ 1) {n : Nat} (h : sm f n = n) : ∀ t, t < n → f t = 1 := by
  intro t ht
  by_cases e : f t = 1
  · exact e
  · have h1 : sm f n < sm (fun _ => 1) n := sm_lt (fun t _ => hf t) ⟨t, ht, by have := hf t; show f t < 1; omega⟩
    have h2 : sm (fun _ => 1) n = n := by
      clear h1 ht h
      induction n with
      | zero => rfl
      | succ n ih => show sm (fun _ => 1) n + 1 = n + 1; omega
    omega
section DATES
variable {n mm : Nat} {fr tv : Nat → Int} {o y : Nat → Nat} {w : Nat → Int} {kp : Nat → Prop}
def dSol (n mm : Nat) (fr tv : Nat → Int) (o y : Nat → Nat) (w : Nat → Int) (kp : Nat → Prop) (x : Nat → Int) : Prop :=
  (∀ t, t < n → fr t ≤ x t ∧ x t ≤ tv t) ∧ ∀ i, i < mm → kp i → x (o i) + w i ≤ x (y i)
theorem dMin {x z : Nat → Int} (hx : dSol n mm fr tv o y w kp x) (hz : dSol n mm fr tv o y w kp z) : dSol n mm fr tv o y w kp (fun t => if x t ≤ z t then x t else z t) := by
  refine ⟨fun t ht => ?_, fun i hi hk => ?_⟩
  · have h1 := hx.1 t ht
    have h2 := hz.1 t ht
    show fr t ≤ (if x t ≤ z t then x t else z t) ∧ (if x t ≤ z t then x t else z t) ≤ tv t
    split <;> omega
  · have h1 := hx.2 i hi hk
    have h2 := hz.2 i hi hk
    show (if x (o i) ≤ z (o i) then x (o i) else z (o i)) + w i ≤ (if x (y i) ≤ z (y i) then x (y i) else z (y i))
    split <;> split <;> omega
theorem dLeast (hf : ∀ t, t < n → 0 ≤ fr t) (h : ∃ x, dSol n mm fr tv o y w kp x) : ∃ d, dSol n mm fr tv o y w kp d ∧ ∀ z, dSol n mm fr tv o y w kp z → ∀ t, t < n → d t ≤ z t := by
  obtain ⟨x0, hx0⟩ := h
  obtain ⟨k, ⟨d, hd, hk⟩, hmin⟩ := pk_least (fun k => ∃ x, dSol n mm fr tv o y w kp x ∧ sm (fun t => (x t).toNat) n = k) ⟨_, x0, hx0, rfl⟩
  refine ⟨d, hd, fun z hz t ht => ?_⟩
  by_cases hle : d t ≤ z t
  · exact hle
  · exfalso
    refine hmin _ ?_ ⟨_, dMin hd hz, rfl⟩
    rw [← hk]
    refine sm_lt (fun s hs => ?_) ⟨t, ht, ?_⟩
    · have h1 := hd.1 s hs
      have h2 := hf s hs
      show (if d s ≤ z s then d s else z s).toNat ≤ (d s).toNat
      split <;> omega
    · have h1 := hd.1 t ht
      have h2 := hz.1 t ht
      have h3 := hf t ht
      show (if d t ≤ z t then d t else z t).toNat < (d t).toNat
      rw [if_neg hle]
      omega
/-- where some year isn't the least one yet, a mention leads from a tale that has its own to one that has not -/
theorem dTight (hf : ∀ t, t < n → 0 ≤ fr t) (ho : ∀ i, i < mm → o i < n ∧ y i < n) {d e : Nat → Int} (hd : dSol n mm fr tv o y w kp d) (hl : ∀ z, dSol n mm fr tv o y w kp z → ∀ t, t < n → d t ≤ z t) (he : ∀ t, t < n → fr t ≤ e t ∧ e t ≤ d t) (hx : ∃ t, t < n ∧ e t < d t) :
    ∃ i, i < mm ∧ kp i ∧ e (o i) = d (o i) ∧ e (y i) < d (y i) ∧ d (o i) + w i = d (y i) := by
  apply Classical.byContradiction
  intro hno
  obtain ⟨t, ht, hlt⟩ := hx
  have hs : dSol n mm fr tv o y w kp (fun t => if e t < d t then d t - 1 else d t) := by
    refine ⟨fun s hs => ?_, fun i hi hk => ?_⟩
    · have h1 := hd.1 s hs
      have h2 := he s hs
      show fr s ≤ (if e s < d s then d s - 1 else d s) ∧ (if e s < d s then d s - 1 else d s) ≤ tv s
      split <;> omega
    · have h1 := hd.2 i hi hk
      have h2 := he _ (ho i hi).1
      show (if e (o i) < d (o i) then d (o i) - 1 else d (o i)) + w i ≤ (if e (y i) < d (y i) then d (y i) - 1 else d (y i))
      by_cases c1 : e (o i) < d (o i)
      · rw [if_pos c1]; split <;> omega
      · rw [if_neg c1]
        by_cases c2 : e (y i) < d (y i)
        · rw [if_pos c2]
          have h3 : ¬ d (o i) + w i = d (y i) := fun hq => hno ⟨i, hi, hk, by omega, c2, hq⟩
          omega
        · rw [if_neg c2]; omega
  have := hl _ hs t ht
  rw [if_pos hlt] at this
  omega
end DATES
def dCnt (e d : Nat → Int) : Nat → Nat := sm (fun t => if e t = d t then 1 else 0)
