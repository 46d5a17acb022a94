/-! ===== rows of three: what both read of them ===== -/
def rowE (ST : Ob) (A : Nat → Int32) (b n : Nat) : Prop := ST.1 3 = nI n ∧ n ≤ 10 ∧ b ≤ 4000 ∧ ∀ i, i < n → ST.2 0 i = A (b + 3 * i) ∧ ST.2 1 i = A (b + 3 * i + 1) ∧ ST.2 2 i = A (b + 3 * i + 2)
def vAt (A : Nat → Int32) (b n : Nat) (x w : Int32) : Int32 := if (decide (0 ≤ x) && decide (x ≤ nI n - 1)) = true ∧ (decide (0 ≤ w) && decide (w ≤ 2)) = true then A (Int32.toNatClampNeg (nI b + 3 * x + w)) else -1
theorem bnf_ {b : Bool} (h : ¬ b = false) : b = true := by cases b; exact absurd rfl h; rfl
theorem e32_ : nI 3 - 1 = (2 : Int32) := by decide
theorem s_at {ST : Ob} {A : Nat → Int32} {b n : Nat} {x w : Int32} {Q : Int32 → Prop} (e : rowE ST A b n) (hq : Q (vAt A b n x w)) : w_X7_at ST x w Q := by
  obtain ⟨h3, hn, hb, hr⟩ := e
  unfold w_X7_at
  rw [h3]
  rcases is_tale x hn with ⟨j, hj, rfl, e1, e2⟩ | ⟨e1, e2⟩
  · have e1' := e1
    rw [Bool.and_eq_true, decide_eq_true_eq, decide_eq_true_eq] at e1'
    have hj10 : vp_in (nI j) 10 := vp_in_nI (by omega) (by decide)
    refine ⟨fun c => absurd c (Int32.not_lt.mpr e1'.1), fun _ => ⟨fun c => absurd c (Int32.not_le.mpr e1'.2), fun _ => ?_⟩⟩
    rw [nI_clamp (by omega)]
    rcases is_tale w (n := 3) (by decide) with ⟨k, hk, rfl, f1, f2⟩ | ⟨f1, f2⟩
    · rw [e32_] at f2
      have hv : vAt A b n (nI j) (nI k) = A (b + 3 * j + k) := by
        unfold vAt
        rw [if_pos ⟨e2, f2⟩, ix3, nI_clamp (by omega)]
      rw [hv] at hq
      have hj' := hr j hj
      rw [Bool.and_eq_true, decide_eq_true_eq, decide_eq_true_eq] at f2
      refine ⟨fun c => absurd c (Int32.not_lt.mpr f2.1), fun _ => ⟨fun _ => ?_, fun c => absurd f2.2 c⟩⟩
      have hk3 : k = 0 ∨ k = 1 ∨ k = 2 := by omega
      rcases hk3 with rfl | rfl | rfl
      · exact ⟨fun c => absurd rfl c, fun _ => ⟨hj10, by rw [hj'.1]; exact hq⟩⟩
      · exact ⟨fun _ => ⟨fun c => absurd rfl c, fun _ => ⟨hj10, by rw [hj'.2.1]; exact hq⟩⟩, fun c => absurd c (by decide)⟩
      · exact ⟨fun _ => ⟨fun _ => ⟨hj10, by rw [hj'.2.2]; exact hq⟩, fun c => absurd c (by decide)⟩, fun c => absurd c (by decide)⟩
    · rw [e32_] at f2
      have hv : vAt A b n (nI j) w = -1 := by
        unfold vAt
        rw [if_neg (fun q => by rw [f2] at q; exact absurd q.2 (by decide))]
      rw [hv] at hq
      refine ⟨fun _ => hq, fun c => ⟨fun c2 => ?_, fun _ => hq⟩⟩
      rw [Bool.and_eq_false_iff, decide_eq_false_iff_not, decide_eq_false_iff_not] at f2
      exact (f2.elim (fun q => q (Int32.not_lt.mp c)) (fun q => q c2)).elim
  · have hv : vAt A b n x w = -1 := by
      unfold vAt
      rw [if_neg (fun q => by rw [e2] at q; exact absurd q.1 (by decide))]
    rw [hv] at hq
    rw [Bool.and_eq_false_iff, decide_eq_false_iff_not, decide_eq_false_iff_not] at e1
    exact ⟨fun _ => hq, fun c => ⟨fun _ => hq, fun c2 => (e1.elim (fun q => q (Int32.not_lt.mp c)) (fun q => q (Int32.not_le.mp c2))).elim⟩⟩
theorem at_in {b n : Nat} {N : Nat} {x w : Int32} (hn : n ≤ 10) (hN : b + 30 ≤ N) (h31 : N < 2147483648) (h1 : (decide (0 ≤ x) && decide (x ≤ nI n - 1)) = true) (h2 : (decide (0 ≤ w) && decide (w ≤ 2)) = true) : vp_in (nI b + 3 * x + w) N := by
  rcases is_tale x hn with ⟨j, hj, rfl, -, -⟩ | ⟨-, e2⟩
  · rw [← e32_] at h2
    rcases is_tale w (n := 3) (by decide) with ⟨k, hk, rfl, -, -⟩ | ⟨-, f2⟩
    · rw [ix3]
      exact vp_in_nI (by omega) h31
    · rw [f2] at h2; exact absurd h2 (by decide)
  · rw [e2] at h1; exact absurd h1 (by decide)
theorem sM_heard {S : Ob} {n : Nat} {x w : Int32} {Q : Int32 → Prop} (hn : n ≤ 10) (h : S.2 3 134 = nI n) (hq : Q (vAt (S.2 3) 43 n x w)) : wM_heard S x w Q := by
  unfold wM_heard
  rw [h, sM_lies, bI_0]
  unfold vAt at hq
  refine ⟨fun c => ?_, fun c => ?_⟩
  · rw [if_neg (fun q => by rw [c] at q; exact absurd q.1 (by decide))] at hq; exact hq
  · rw [sM_lies, bI_0]
    refine ⟨fun c2 => ?_, fun c2 => ?_⟩
    · rw [if_neg (fun q => by rw [c2] at q; exact absurd q.2 (by decide))] at hq; exact hq
    · rw [if_pos ⟨bnf_ c, bnf_ c2⟩] at hq
      exact ⟨at_in (b := 43) hn (by decide) (by decide) (bnf_ c) (bnf_ c2), hq⟩
theorem sM_drawn {S : Ob} {n : Nat} {x w : Int32} {Q : Int32 → Prop} (hn : n ≤ 10) (h : S.1 41 = nI n) (hq : Q (vAt (S.2 40) 0 n x w)) : wM_drawn S x w Q := by
  have e0 : (nI 0 + 3 * x + w : Int32) = 3 * x + w := by rw [show nI 0 = 0 from rfl, Int32.zero_add]
  unfold wM_drawn
  rw [h, sM_lies, bI_0]
  unfold vAt at hq
  rw [e0] at hq
  refine ⟨fun c => ?_, fun c => ?_⟩
  · rw [if_neg (fun q => by rw [c] at q; exact absurd q.1 (by decide))] at hq; exact hq
  · rw [sM_lies, bI_0]
    refine ⟨fun c2 => ?_, fun c2 => ?_⟩
    · rw [if_neg (fun q => by rw [c2] at q; exact absurd q.2 (by decide))] at hq; exact hq
    · rw [if_pos ⟨bnf_ c, bnf_ c2⟩] at hq
      exact ⟨by have := at_in (b := 0) (N := 30) hn (by decide) (by decide) (bnf_ c) (bnf_ c2); rw [e0] at this; exact this, hq⟩
theorem eq_heard {SO SB Std S : Ob} {x w : Int32} {R : Int32 → Int32 → Prop} {n : Nat} (e : rowE Std (S.2 3) 43 n) (h : S.2 3 134 = nI n) (hR : ∀ r, R r r) : w_X8_heard SO SB Std x w (fun r => wM_heard S x w (fun r' => R r r')) :=
  s_at e (sM_heard e.2.1 h (hR _))
theorem eq_drawn {SO Sev S : Ob} {x w : Int32} {R : Int32 → Int32 → Prop} {n : Nat} (e : rowE Sev (S.2 40) 0 n) (h : S.1 41 = nI n) (hR : ∀ r, R r r) : w_X8_drawn SO Sev x w (fun r => wM_drawn S x w (fun r' => R r r')) :=
  s_at e (sM_drawn e.2.1 h (hR _))
