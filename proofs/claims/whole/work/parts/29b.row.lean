/-! ===== rows of tales off the tape ===== -/
def kO (kp : Nat → Int32) : Ob := (fun _ => 0, fun _ => kp)
def rwA (T : Nat → Nat) (j : Nat) : Nat := T (6 * j) * 256 + T (6 * j + 1)
def rwB (T : Nat → Nat) (j : Nat) : Nat := T (6 * j + 2) * 256 + T (6 * j + 3)
def rwY (T : Nat → Nat) (j : Nat) : Bool := decide (rwA T j ≤ rwB T j) && (decide (rwB T j ≤ 2000) && (decide (T (6 * j + 4) ≤ 99) && decide (T (6 * j + 5) ≤ 15)))
def rwN (T : Nat → Nat) (n : Nat) : Nat → Nat
  | 0 => n
  | j + 1 => if rwN T n j < 10 ∧ rwY T j = true then rwN T n j + 1 else rwN T n j
def rwC (T : Nat → Nat) (n : Nat) (SB : Ob) : Nat → Ob
  | 0 => SB
  | j + 1 => if rwN T n j < 10 ∧ rwY T j = true then addT (rwC T n SB j) (rwN T n j) (nI (rwA T j)) (nI (rwB T j)) (nI (T (6 * j + 4))) (nI (T (6 * j + 5))) else rwC T n SB j
def rwK (T : Nat → Nat) (n : Nat) (kp : Nat → Int32) : Nat → Nat → Int32
  | 0 => kp
  | j + 1 => if rwN T n j < 10 ∧ rwY T j = true then (addF (kO (rwK T n kp j)) (rwN T n j) (nI (rwA T j)) (nI (rwB T j)) (nI (T (6 * j + 4))) (nI (T (6 * j + 5)))).2 3 else rwK T n kp j
theorem rwN_r (T : Nat → Nat) {n : Nat} (hn : n ≤ 10) : ∀ j, n ≤ rwN T n j ∧ rwN T n j ≤ n + j ∧ rwN T n j ≤ 10
  | 0 => by rw [rwN]; omega
  | j + 1 => by
    have := rwN_r T hn j
    rw [rwN]
    split
    · rename_i h; omega
    · omega
theorem rwY_i {T : Nat → Nat} {j : Nat} (h : rwY T j = true) : rwA T j ≤ rwB T j ∧ rwB T j ≤ 2000 ∧ T (6 * j + 4) ≤ 99 ∧ T (6 * j + 5) ≤ 15 := by
  unfold rwY at h
  simpa using h
theorem lt_b (a b : Nat) (ha : a < 2 ^ 31) (hb : b < 2 ^ 31) {A B : Prop} (f : a < b → A) (g : b ≤ a → B) : (nI a < nI b → A) ∧ (¬ nI a < nI b → B) := by
  rw [nI_ltI ha hb]
  exact ⟨f, fun q => g (by omega)⟩
theorem cbN {a b c d : Nat} (ha : a < 2 ^ 31) (hb : b < 2 ^ 31) (hc : c < 2 ^ 31) (hd : d < 2 ^ 31) : ((decide (0 ≤ nI a) && decide (nI a ≤ 2000)) && ((decide (nI a ≤ nI b) && decide (nI b ≤ 2000)) && ((decide (0 ≤ nI c) && decide (nI c ≤ 99)) && (decide (0 ≤ nI d) && decide (nI d ≤ 15))))) = (decide (a ≤ b) && (decide (b ≤ 2000) && (decide (c ≤ 99) && decide (d ≤ 15)))) := by
  have e0 : ∀ {x : Nat}, x < 2 ^ 31 → decide ((0 : Int32) ≤ nI x) = true := fun {x} h => decide_eq_true ((nI_leI (a := 0) (by decide) h).mpr (Nat.zero_le _))
  rw [e0 ha, e0 hc, e0 hd, Bool.true_and, Bool.true_and, Bool.true_and]
  have e1 : ∀ {x y : Nat}, x < 2 ^ 31 → y < 2 ^ 31 → decide (nI x ≤ nI y) = decide (x ≤ y) := fun {x y} h1 h2 => by rw [Bool.eq_iff_iff, decide_eq_true_eq, decide_eq_true_eq, nI_leI h1 h2]
  have e2 : decide (nI a ≤ 2000) = decide (a ≤ 2000) := e1 ha (by decide)
  have e3 : decide (nI b ≤ 2000) = decide (b ≤ 2000) := e1 hb (by decide)
  have e4 : decide (nI c ≤ 99) = decide (c ≤ 99) := e1 hc (by decide)
  have e5 : decide (nI d ≤ 15) = decide (d ≤ 15) := e1 hd (by decide)
  rw [e2, e3, e4, e5, e1 ha hb]
  by_cases q1 : a ≤ b
  · by_cases q2 : b ≤ 2000
    · rw [decide_eq_true (by omega : a ≤ 2000)]
      simp only [q1, q2, decide_true, Bool.true_and]
    · simp only [q2, decide_false, Bool.false_and, Bool.and_false]
  · simp only [q1, decide_false, Bool.false_and, Bool.and_false]
theorem s_comes {SO SB : Ob} {Stp : Nat → Int32} {T : Nat → Nat} {m n j : Nat} (h4 : SO.1 4 = nI m) (hm : m ≤ 400) (hT : ∀ i, i < 400 → Stp i = nI (T i) ∧ T i < 256) (hb : SB.1 4 = nI n) (hn : n ≤ 10) (hj : 6 * j < m) {Q : Int32 → Ob → Prop} (hq0 : (m < 6 * j + 6 ∨ ¬ (n < 10 ∧ rwY T j = true)) → Q 0 SB) (hq1 : 6 * j + 6 ≤ m → n < 10 ∧ rwY T j = true → Q 1 (addT SB n (nI (rwA T j)) (nI (rwB T j)) (nI (T (6 * j + 4))) (nI (T (6 * j + 5))))) : w_X8_comesFrom SO Stp SB (nI (6 * j)) Q := by
  have e : ∀ k, nI (6 * j) + nI k = nI (6 * j + k) := fun k => nI_add _ _
  have e1 : nI (6 * j) + 1 = nI (6 * j + 1) := e 1
  have e2 : nI (6 * j) + 2 = nI (6 * j + 2) := e 2
  have e3 : nI (6 * j) + 3 = nI (6 * j + 3) := e 3
  have e4 : nI (6 * j) + 4 = nI (6 * j + 4) := e 4
  have e5 : nI (6 * j) + 5 = nI (6 * j + 5) := e 5
  have e6 : nI (6 * j) + 6 = nI (6 * j + 6) := e 6
  unfold w_X8_comesFrom
  rw [h4, e1, e2, e3, e4, e5, e6, hb]
  refine br_n (fun q => by have := (nI_ltI (b := 0) (by omega) (by decide)).mp q; omega) (lt_b m (6 * j + 6) (by omega) (by omega) (fun c => hq0 (Or.inl c)) (fun c => ?_))
  refine lt_b n 10 (by omega) (by decide) (fun hn10 => ?_) (fun c2 => hq0 (Or.inr (fun q => by omega)))
  obtain ⟨t0, b0⟩ := hT (6 * j) (by omega)
  obtain ⟨t1, b1⟩ := hT (6 * j + 1) (by omega)
  obtain ⟨t2, b2⟩ := hT (6 * j + 2) (by omega)
  obtain ⟨t3, b3⟩ := hT (6 * j + 3) (by omega)
  obtain ⟨t4, b4⟩ := hT (6 * j + 4) (by omega)
  obtain ⟨t5, b5⟩ := hT (6 * j + 5) (by omega)
  have pr : ∀ a b : Nat, nI a * 256 + nI b = nI (a * 256 + b) := fun a b => by
    show nI a * nI 256 + nI b = _
    rw [pk_mul, nI_add]
  rw [nI_clamp (by omega), nI_clamp (by omega), nI_clamp (by omega), nI_clamp (by omega), nI_clamp (by omega), nI_clamp (by omega), t0, t1, t2, t3, t4, t5, pr, pr]
  refine ⟨vp_in_nI (by omega) (by decide), vp_in_nI (by omega) (by decide), ?_⟩
  rintro v3 rfl
  refine ⟨vp_in_nI (by omega) (by decide), vp_in_nI (by omega) (by decide), ?_⟩
  rintro v6 rfl
  refine ⟨vp_in_nI (by omega) (by decide), ?_⟩
  rintro v8 rfl
  refine ⟨vp_in_nI (by omega) (by decide), ?_⟩
  rintro v10 rfl
  refine s_canBe ?_
  rw [cbN (by omega) (by omega) (by omega) (by omega)]
  refine ib_b (fun c3 => hq0 (Or.inr (fun q => ?_))) (fun c3 => s_addT hb hn10 (hq1 c ⟨hn10, c3⟩))
  have h := q.2
  unfold rwY rwA rwB at h
  rw [c3] at h
  exact absurd h (by decide)
theorem rw_n (T : Nat → Nat) {n : Nat} {SB : Ob} (h : SB.1 4 = nI n) : ∀ j, (rwC T n SB j).1 4 = nI (rwN T n j)
  | 0 => h
  | j + 1 => by
    have ih := rw_n T h j
    rw [rwC, rwN]
    split
    · show nI (rwN T n j) + 1 = _
      rw [nI_1]
    · exact ih
set_option maxHeartbeats 1000000 in
theorem cs_row {SO SB SP : Ob} {Stp : Nat → Int32} {T : Nat → Nat} {m n : Nat} (h4 : SO.1 4 = nI m) (hm : m ≤ 400) (hT : ∀ i, i < 400 → Stp i = nI (T i) ∧ T i < 256) (hb : SB.1 4 = nI n) (hn : n ≤ 10) {Q : Int32 → Ob → Ob → Ob → Prop} (hq0 : m = 0 → Q (-nI 6) (refC SO 6) SB SP) (hq : 0 < m → Q (nI (rwN T n (m / 6) - n)) (uS (uS (uS SO 4 0) 7 (nI ((if m % 6 = 0 then 0 else 1) + (m / 6 - (rwN T n (m / 6) - n))))) 16 0) (rwC T n SB (m / 6)) (spoP SP)) : w_X8_row SO Stp SB SP Q := by
  unfold w_X8_row
  rw [h4]
  refine qe_b m 0 (by omega) (by decide) (fun c => s_refuse (k := 6) (by decide) (by decide) (hq0 c)) (fun c => ?_)
  refine wl4_i (fun x3 x2 x1 S4 => ∃ j, x3 = nI (6 * j) ∧ ((j ≤ m / 6 ∧ x2 = nI (j - (rwN T n j - n)) ∧ x1 = nI (rwN T n j - n) ∧ S4 = rwC T n SB j) ∨ (j = m / 6 + 1 ∧ m % 6 ≠ 0 ∧ x2 = nI (m / 6 - (rwN T n (m / 6) - n) + 1) ∧ x1 = nI (rwN T n (m / 6) - n) ∧ S4 = rwC T n SB (m / 6)))) (fun x3 _ _ _ => 1000 - x3.toNatClampNeg) ?_ _ _ _ _ ⟨0, rfl, Or.inl ⟨Nat.zero_le _, by rw [rwN, Nat.sub_self]; rfl, by rw [rwN, Nat.sub_self]; rfl, rfl⟩⟩
  rintro L x3 x2 x1 S4 ⟨j, rfl, hI⟩ ih
  have r := rwN_r T hn j
  have rJ := rwN_r T hn (m / 6)
  have e6 : nI (6 * j) + 6 = nI (6 * (j + 1)) := nI_add _ 6
  refine le_b m (6 * j) (by omega) (by omega) (fun c2 => ?_) (fun c2 => ?_)
  · rintro S6 rfl S7 rfl
    rw [s_spoil, s_accept]
    have := hq (by omega)
    rcases hI with ⟨a, rfl, rfl, rfl⟩ | ⟨a, b, rfl, rfl, rfl⟩
    · have ej : j = m / 6 := by omega
      subst ej
      rw [if_pos (by omega), Nat.zero_add] at this
      exact this
    · rw [if_neg b, Nat.add_comm] at this
      exact this
  · rcases hI with ⟨a, rfl, rfl, rfl⟩ | ⟨a, b, rfl, rfl, rfl⟩
    · have hn' := rw_n T hb j
      have mx : ∀ b : Nat, b ≤ 400 → (nI (6 * j)).toNatClampNeg = 6 * j := fun _ _ => nI_clamp (by omega)
      refine s_comes h4 hm hT hn' r.2.2 c2 (fun w => br_y rfl ?_) (fun w ok => br_n (by decide) ?_)
      · rintro v16 rfl v17 rfl
        rw [e6, nI_1]
        refine ih _ _ _ _ ⟨j + 1, rfl, ?_⟩ (by rw [nI_clamp (by omega), nI_clamp (by omega)]; omega)
        rcases Nat.lt_or_ge m (6 * j + 6) with d | d
        · have ej : j = m / 6 := by omega
          subst ej
          exact Or.inr ⟨rfl, by omega, rfl, rfl, rfl⟩
        · have w' : ¬ (rwN T n j < 10 ∧ rwY T j = true) := w.elim (fun q => absurd q (by omega)) id
          refine Or.inl ⟨by omega, ?_, ?_, ?_⟩
          · rw [rwN, if_neg w', show j - (rwN T n j - n) + 1 = j + 1 - (rwN T n j - n) by omega]
          · rw [rwN, if_neg w']
          · rw [rwC, if_neg w']
      · rintro v18 rfl v19 rfl
        rw [e6, nI_1]
        refine ih _ _ _ _ ⟨j + 1, rfl, Or.inl ⟨by omega, ?_, ?_, ?_⟩⟩ (by rw [nI_clamp (by omega), nI_clamp (by omega)]; omega)
        · rw [rwN, if_pos ok, show j + 1 - (rwN T n j + 1 - n) = j - (rwN T n j - n) by omega]
        · rw [rwN, if_pos ok, show rwN T n j + 1 - n = rwN T n j - n + 1 by omega]
        · rw [rwC, if_pos ok]
    · exact absurd c2 (by omega)
