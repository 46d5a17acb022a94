def pmax (k : Nat) : Int32 := if k < 2 then 2000 else if k = 2 then 99 else 15
theorem s_canPut {k : Nat} (hk : k < 4) {v : Int32} {Q : Int32 → Prop} (hq : Q (bI (decide (0 ≤ v) && decide (v ≤ pmax k)))) : w_X6_canPut (nI k) v Q := by
  have h4 : k = 0 ∨ k = 1 ∨ k = 2 ∨ k = 3 := by omega
  have fin : ∀ m : Int32, pmax k = m → 0 ≤ v → ((m < v → Q 0) ∧ (¬ m < v → Q 1)) := by
    intro m em h0
    rw [em] at hq
    refine ⟨fun c => ?_, fun c => ?_⟩
    · rw [show (decide (0 ≤ v) && decide (v ≤ m)) = false from by simp [Int32.not_le.mpr c]] at hq
      exact hq
    · rw [show (decide (0 ≤ v) && decide (v ≤ m)) = true from by simp [h0, Int32.not_lt.mp c]] at hq
      exact hq
  have neg : ¬ 0 ≤ v → Q 0 := by
    intro c
    rw [show (decide (0 ≤ v) && decide (v ≤ pmax k)) = false from by simp [c]] at hq
    exact hq
  unfold w_X6_canPut
  rcases h4 with rfl | rfl | rfl | rfl
  · exact ⟨fun c => absurd c (by decide), fun _ => ⟨fun c => absurd c (by decide), fun _ => ⟨fun h0 => ⟨fun c => absurd c (by decide), fun _ => fin _ rfl h0⟩, neg⟩⟩⟩
  · exact ⟨fun c => absurd c (by decide), fun _ => ⟨fun c => absurd c (by decide), fun _ => ⟨fun h0 => ⟨fun c => absurd c (by decide), fun _ => fin _ rfl h0⟩, neg⟩⟩⟩
  · exact ⟨fun c => absurd c (by decide), fun _ => ⟨fun c => absurd c (by decide), fun _ => ⟨fun h0 => ⟨fun _ => ⟨fun c => absurd rfl c, fun _ => fin 99 rfl h0⟩, fun c => absurd (by decide) c⟩, neg⟩⟩⟩
  · exact ⟨fun c => absurd c (by decide), fun _ => ⟨fun c => absurd c (by decide), fun _ => ⟨fun h0 => ⟨fun _ => ⟨fun _ => fin 15 rfl h0, fun c => absurd c (by decide)⟩, fun c => absurd (by decide) c⟩, neg⟩⟩⟩
theorem s_canBe {a b c d : Int32} {Q : Int32 → Prop} (hq : Q (bI ((decide (0 ≤ a) && decide (a ≤ 2000)) && ((decide (a ≤ b) && decide (b ≤ 2000)) && ((decide (0 ≤ c) && decide (c ≤ 99)) && (decide (0 ≤ d) && decide (d ≤ 15))))))) : w_X6_canBe a b c d Q := by
  unfold w_X6_canBe
  refine s_canPut (k := 0) (by decide) ?_
  rw [show pmax 0 = 2000 from rfl, bI_0]
  refine ⟨fun c0 => by rw [c0] at hq; exact hq, fun c0 => ?_⟩
  have c0 := bnf_ c0
  rw [c0, Bool.true_and] at hq
  rw [Bool.and_eq_true, decide_eq_true_eq, decide_eq_true_eq] at c0
  refine s_canPut (k := 1) (by decide) ?_
  rw [show pmax 1 = 2000 from rfl, bI_0]
  refine ⟨fun c1 => ?_, fun c1 => ⟨fun c2 => ?_, fun c2 => ?_⟩⟩
  · rw [Bool.and_eq_false_iff, decide_eq_false_iff_not, decide_eq_false_iff_not] at c1
    have : (decide (a ≤ b) && decide (b ≤ 2000)) = false := by
      rw [Bool.and_eq_false_iff, decide_eq_false_iff_not, decide_eq_false_iff_not]
      exact c1.imp (fun q q2 => q (Int32.le_trans c0.1 q2)) id
    rw [this] at hq
    exact hq
  · rw [show (decide (a ≤ b) && decide (b ≤ 2000)) = false from by simp [Int32.not_le.mpr c2]] at hq
    exact hq
  · have c1 := bnf_ c1
    rw [Bool.and_eq_true, decide_eq_true_eq, decide_eq_true_eq] at c1
    rw [show (decide (a ≤ b) && decide (b ≤ 2000)) = true from by simp [Int32.not_lt.mp c2, c1.2], Bool.true_and] at hq
    refine s_canPut (k := 2) (by decide) ?_
    rw [show pmax 2 = 99 from rfl, bI_0]
    refine ⟨fun c3 => by rw [c3] at hq; exact hq, fun c3 => ?_⟩
    rw [bnf_ c3, Bool.true_and] at hq
    refine s_canPut (k := 3) (by decide) ?_
    rw [show pmax 3 = 15 from rfl, bI_0]
    refine ⟨fun c4 => by rw [c4] at hq; exact hq, fun c4 => ?_⟩
    rw [bnf_ c4] at hq
    exact hq
