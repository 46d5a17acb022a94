/-! ===== pure part: rules for loops, states, small methods of the reference ===== -/
theorem wl1_i {A1 : Type} {f : (A1 → Prop) → A1 → Prop} (I : A1 → Prop) (μ : A1 → Nat) (hs : ∀ (L : A1 → Prop) a1, I a1 → (∀ b1, I b1 → μ b1 < μ a1 → L b1) → f L a1) : ∀ a1, I a1 → ∃ n, wl1 f n a1 := by
  have key : ∀ (n : Nat) a1, I a1 → μ a1 < n → wl1 f n a1 := by
    intro n
    induction n with
    | zero => intro a1 _ h; exact absurd h (Nat.not_lt_zero _)
    | succ n ih => intro a1 hI hm; exact hs _ a1 hI (fun b1 hb hl => ih b1 hb (by omega))
  intro a1 hI
  exact ⟨_, key _ a1 hI (Nat.lt_succ_self _)⟩
theorem wl2_i {A1 A2 : Type} {f : (A1 → A2 → Prop) → A1 → A2 → Prop} (I : A1 → A2 → Prop) (μ : A1 → A2 → Nat) (hs : ∀ (L : A1 → A2 → Prop) a1 a2, I a1 a2 → (∀ b1 b2, I b1 b2 → μ b1 b2 < μ a1 a2 → L b1 b2) → f L a1 a2) : ∀ a1 a2, I a1 a2 → ∃ n, wl2 f n a1 a2 := by
  have key : ∀ (n : Nat) a1 a2, I a1 a2 → μ a1 a2 < n → wl2 f n a1 a2 := by
    intro n
    induction n with
    | zero => intro a1 a2 _ h; exact absurd h (Nat.not_lt_zero _)
    | succ n ih => intro a1 a2 hI hm; exact hs _ a1 a2 hI (fun b1 b2 hb hl => ih b1 b2 hb (by omega))
  intro a1 a2 hI
  exact ⟨_, key _ a1 a2 hI (Nat.lt_succ_self _)⟩
theorem wl3_i {A1 A2 A3 : Type} {f : (A1 → A2 → A3 → Prop) → A1 → A2 → A3 → Prop} (I : A1 → A2 → A3 → Prop) (μ : A1 → A2 → A3 → Nat) (hs : ∀ (L : A1 → A2 → A3 → Prop) a1 a2 a3, I a1 a2 a3 → (∀ b1 b2 b3, I b1 b2 b3 → μ b1 b2 b3 < μ a1 a2 a3 → L b1 b2 b3) → f L a1 a2 a3) : ∀ a1 a2 a3, I a1 a2 a3 → ∃ n, wl3 f n a1 a2 a3 := by
  have key : ∀ (n : Nat) a1 a2 a3, I a1 a2 a3 → μ a1 a2 a3 < n → wl3 f n a1 a2 a3 := by
    intro n
    induction n with
    | zero => intro a1 a2 a3 _ h; exact absurd h (Nat.not_lt_zero _)
    | succ n ih => intro a1 a2 a3 hI hm; exact hs _ a1 a2 a3 hI (fun b1 b2 b3 hb hl => ih b1 b2 b3 hb (by omega))
  intro a1 a2 a3 hI
  exact ⟨_, key _ a1 a2 a3 hI (Nat.lt_succ_self _)⟩
theorem wl4_i {A1 A2 A3 A4 : Type} {f : (A1 → A2 → A3 → A4 → Prop) → A1 → A2 → A3 → A4 → Prop} (I : A1 → A2 → A3 → A4 → Prop) (μ : A1 → A2 → A3 → A4 → Nat) (hs : ∀ (L : A1 → A2 → A3 → A4 → Prop) a1 a2 a3 a4, I a1 a2 a3 a4 → (∀ b1 b2 b3 b4, I b1 b2 b3 b4 → μ b1 b2 b3 b4 < μ a1 a2 a3 a4 → L b1 b2 b3 b4) → f L a1 a2 a3 a4) : ∀ a1 a2 a3 a4, I a1 a2 a3 a4 → ∃ n, wl4 f n a1 a2 a3 a4 := by
  have key : ∀ (n : Nat) a1 a2 a3 a4, I a1 a2 a3 a4 → μ a1 a2 a3 a4 < n → wl4 f n a1 a2 a3 a4 := by
    intro n
    induction n with
    | zero => intro a1 a2 a3 a4 _ h; exact absurd h (Nat.not_lt_zero _)
    | succ n ih => intro a1 a2 a3 a4 hI hm; exact hs _ a1 a2 a3 a4 hI (fun b1 b2 b3 b4 hb hl => ih b1 b2 b3 b4 hb (by omega))
  intro a1 a2 a3 a4 hI
  exact ⟨_, key _ a1 a2 a3 a4 hI (Nat.lt_succ_self _)⟩
theorem wl5_i {A1 A2 A3 A4 A5 : Type} {f : (A1 → A2 → A3 → A4 → A5 → Prop) → A1 → A2 → A3 → A4 → A5 → Prop} (I : A1 → A2 → A3 → A4 → A5 → Prop) (μ : A1 → A2 → A3 → A4 → A5 → Nat) (hs : ∀ (L : A1 → A2 → A3 → A4 → A5 → Prop) a1 a2 a3 a4 a5, I a1 a2 a3 a4 a5 → (∀ b1 b2 b3 b4 b5, I b1 b2 b3 b4 b5 → μ b1 b2 b3 b4 b5 < μ a1 a2 a3 a4 a5 → L b1 b2 b3 b4 b5) → f L a1 a2 a3 a4 a5) : ∀ a1 a2 a3 a4 a5, I a1 a2 a3 a4 a5 → ∃ n, wl5 f n a1 a2 a3 a4 a5 := by
  have key : ∀ (n : Nat) a1 a2 a3 a4 a5, I a1 a2 a3 a4 a5 → μ a1 a2 a3 a4 a5 < n → wl5 f n a1 a2 a3 a4 a5 := by
    intro n
    induction n with
    | zero => intro a1 a2 a3 a4 a5 _ h; exact absurd h (Nat.not_lt_zero _)
    | succ n ih => intro a1 a2 a3 a4 a5 hI hm; exact hs _ a1 a2 a3 a4 a5 hI (fun b1 b2 b3 b4 b5 hb hl => ih b1 b2 b3 b4 b5 hb (by omega))
  intro a1 a2 a3 a4 a5 hI
  exact ⟨_, key _ a1 a2 a3 a4 a5 hI (Nat.lt_succ_self _)⟩
theorem wl6_i {A1 A2 A3 A4 A5 A6 : Type} {f : (A1 → A2 → A3 → A4 → A5 → A6 → Prop) → A1 → A2 → A3 → A4 → A5 → A6 → Prop} (I : A1 → A2 → A3 → A4 → A5 → A6 → Prop) (μ : A1 → A2 → A3 → A4 → A5 → A6 → Nat) (hs : ∀ (L : A1 → A2 → A3 → A4 → A5 → A6 → Prop) a1 a2 a3 a4 a5 a6, I a1 a2 a3 a4 a5 a6 → (∀ b1 b2 b3 b4 b5 b6, I b1 b2 b3 b4 b5 b6 → μ b1 b2 b3 b4 b5 b6 < μ a1 a2 a3 a4 a5 a6 → L b1 b2 b3 b4 b5 b6) → f L a1 a2 a3 a4 a5 a6) : ∀ a1 a2 a3 a4 a5 a6, I a1 a2 a3 a4 a5 a6 → ∃ n, wl6 f n a1 a2 a3 a4 a5 a6 := by
  have key : ∀ (n : Nat) a1 a2 a3 a4 a5 a6, I a1 a2 a3 a4 a5 a6 → μ a1 a2 a3 a4 a5 a6 < n → wl6 f n a1 a2 a3 a4 a5 a6 := by
    intro n
    induction n with
    | zero => intro a1 a2 a3 a4 a5 a6 _ h; exact absurd h (Nat.not_lt_zero _)
    | succ n ih => intro a1 a2 a3 a4 a5 a6 hI hm; exact hs _ a1 a2 a3 a4 a5 a6 hI (fun b1 b2 b3 b4 b5 b6 hb hl => ih b1 b2 b3 b4 b5 b6 hb (by omega))
  intro a1 a2 a3 a4 a5 a6 hI
  exact ⟨_, key _ a1 a2 a3 a4 a5 a6 hI (Nat.lt_succ_self _)⟩
theorem wl7_i {A1 A2 A3 A4 A5 A6 A7 : Type} {f : (A1 → A2 → A3 → A4 → A5 → A6 → A7 → Prop) → A1 → A2 → A3 → A4 → A5 → A6 → A7 → Prop} (I : A1 → A2 → A3 → A4 → A5 → A6 → A7 → Prop) (μ : A1 → A2 → A3 → A4 → A5 → A6 → A7 → Nat) (hs : ∀ (L : A1 → A2 → A3 → A4 → A5 → A6 → A7 → Prop) a1 a2 a3 a4 a5 a6 a7, I a1 a2 a3 a4 a5 a6 a7 → (∀ b1 b2 b3 b4 b5 b6 b7, I b1 b2 b3 b4 b5 b6 b7 → μ b1 b2 b3 b4 b5 b6 b7 < μ a1 a2 a3 a4 a5 a6 a7 → L b1 b2 b3 b4 b5 b6 b7) → f L a1 a2 a3 a4 a5 a6 a7) : ∀ a1 a2 a3 a4 a5 a6 a7, I a1 a2 a3 a4 a5 a6 a7 → ∃ n, wl7 f n a1 a2 a3 a4 a5 a6 a7 := by
  have key : ∀ (n : Nat) a1 a2 a3 a4 a5 a6 a7, I a1 a2 a3 a4 a5 a6 a7 → μ a1 a2 a3 a4 a5 a6 a7 < n → wl7 f n a1 a2 a3 a4 a5 a6 a7 := by
    intro n
    induction n with
    | zero => intro a1 a2 a3 a4 a5 a6 a7 _ h; exact absurd h (Nat.not_lt_zero _)
    | succ n ih => intro a1 a2 a3 a4 a5 a6 a7 hI hm; exact hs _ a1 a2 a3 a4 a5 a6 a7 hI (fun b1 b2 b3 b4 b5 b6 b7 hb hl => ih b1 b2 b3 b4 b5 b6 b7 hb (by omega))
  intro a1 a2 a3 a4 a5 a6 a7 hI
  exact ⟨_, key _ a1 a2 a3 a4 a5 a6 a7 hI (Nat.lt_succ_self _)⟩
theorem jn_d {α : Sort _} {j : α} {b : α → Prop} : jn j b = b j := rfl
theorem uS_1 {S : Ob} {k j : Nat} {v : Int32} : (uS S k v).1 j = if j = k then v else S.1 j := rfl
theorem uS_2 {S : Ob} {k : Nat} {v : Int32} : (uS S k v).2 = S.2 := rfl
theorem uA_1 {S : Ob} {k i : Nat} {v : Int32} : (uA S k i v).1 = S.1 := rfl
theorem uA_2 {S : Ob} {k i j : Nat} {v : Int32} : (uA S k i v).2 j = if j = k then upd (S.2 k) i v else S.2 j := rfl
theorem uR_1 {S : Ob} {k : Nat} {f : Nat → Int32} : (uR S k f).1 = S.1 := rfl
theorem uR_2 {S : Ob} {k j : Nat} {f : Nat → Int32} : (uR S k f).2 j = if j = k then f else S.2 j := rfl
theorem upd_d {f : Nat → Int32} {k j : Nat} {v : Int32} : upd f k v j = if j = k then v else f j := rfl
def bI (b : Bool) : Int32 := if b then 1 else 0
theorem bI_0 {b : Bool} : (bI b = 0) = (b = false) := by cases b <;> simp [bI]
theorem bI_1 {b : Bool} : (bI b = 1) = (b = true) := by cases b <;> simp [bI]
theorem bI_t : bI true = 1 := rfl
theorem bI_f : bI false = 0 := rfl
theorem bI_nar {b : Bool} : (narrow .boolean (.int (bI b)) = .int (bI b)) = True := by cases b <;> simp [bI] <;> rfl
theorem bI_fit {b : Bool} : (fits .boolean (.int (bI b)) = true) = True := by cases b <;> simp [bI] <;> rfl
theorem br2 {c : Prop} [Decidable c] {A B : Prop} : ((c → A) ∧ (¬ c → B)) = (if c then A else B) := by
  by_cases h : c <;> simp [h]
theorem br2n {c : Prop} [Decidable c] {A B : Prop} : ((¬ c → A) ∧ (c → B)) = (if c then B else A) := by
  by_cases h : c <;> simp [h]
theorem sM_lies {a b c : Int32} {Q : Int32 → Prop} : wM_lies a b c Q = Q (bI (decide (b ≤ a) && decide (a ≤ c))) := by
  unfold wM_lies
  by_cases h1 : a < b
  · have : ¬ b ≤ a := Int32.not_le.mpr h1
    simp [h1, this, bI]
  · by_cases h2 : c < a
    · have h3 : ¬ a ≤ c := Int32.not_le.mpr h2
      simp [h1, h2, h3, bI]
    · simp [h1, h2, Int32.not_lt.mp h1, Int32.not_lt.mp h2, bI]
theorem sM_isIn {a b : Int32} {Q : Int32 → Prop} : wM_isIn a b Q = Q (bI (decide ((a >>> (b &&& 31)) &&& 1 = 1))) := by
  unfold wM_isIn
  by_cases h : (a >>> (b &&& 31)) &&& 1 = 1 <;> simp [h, bI]
theorem sM_lesser {a b : Int32} {Q : Int32 → Prop} : wM_lesser a b Q = Q (if b ≤ a then b else a) := by
  unfold wM_lesser
  by_cases h : b ≤ a <;> simp [h]
theorem sM_greater {a b : Int32} {Q : Int32 → Prop} : wM_greater a b Q = Q (if a ≤ b then b else a) := by
  unfold wM_greater
  by_cases h : a ≤ b <;> simp [h]
theorem sM_tales {S : Ob} {Q : Int32 → Prop} : wM_tales S Q = Q (S.2 3 133) := rfl
theorem sM_isTale {S : Ob} {t : Int32} {Q : Int32 → Prop} : wM_isTale S t Q = Q (bI (decide (0 ≤ t) && decide (t ≤ S.2 3 133 - 1))) := by
  unfold wM_isTale
  simp only [sM_tales, sM_lies, bI_nar, true_and]
theorem sM_isTeller {S : Ob} {t : Int32} {Q : Int32 → Prop} : wM_isTeller S t Q = Q (bI (decide (0 ≤ t) && decide (t ≤ S.2 3 40 - 1))) := by
  unfold wM_isTeller
  simp only [sM_lies, bI_nar, true_and]
theorem sM_canBe {a b c d : Int32} {Q : Int32 → Prop} : wM_canBe a b c d Q = Q (bI ((decide (0 ≤ a) && decide (a ≤ 2000)) && ((decide (a ≤ b) && decide (b ≤ 2000)) && ((decide (0 ≤ c) && decide (c ≤ 99)) && (decide (0 ≤ d) && decide (d ≤ 15)))))) := by
  unfold wM_canBe
  simp only [sM_lies, bI_0]
  generalize (decide (0 ≤ a) && decide (a ≤ 2000)) = p1
  generalize (decide (a ≤ b) && decide (b ≤ 2000)) = p2
  generalize (decide (0 ≤ c) && decide (c ≤ 99)) = p3
  generalize (decide (0 ≤ d) && decide (d ≤ 15)) = p4
  cases p1 <;> cases p2 <;> cases p3 <;> cases p4 <;> simp [bI]
theorem sM_good {S : Ob} {v : Int32} {Q : Int32 → Ob → Prop} : wM_good S v Q = Q v (uS (uS S 0 0) 1 (S.1 1 + 1)) := by
  unfold wM_good
  simp [uS_1]
theorem sM_refuses {S : Ob} {k : Nat} (hk : k < 7) {Q : Int32 → Ob → Prop} (h : Q (-nI k) (uA (uS S 0 (-nI k)) 2 k (S.2 2 k + 1))) : wM_refuses S (-nI k) Q := by
  unfold wM_refuses
  have e : -(-nI k) = nI k := Int32.neg_neg
  rintro S1 rfl
  rw [e, nI_clamp (by omega)]
  exact ⟨vp_in_nI hk (by decide), vp_in_nI hk (by decide), fun S4 h4 => by rw [h4]; exact h⟩
