/-! ===== the class asks the clauses of a law ===== -/
theorem tk_s {α : Type} : ∀ (l : List α) (i : Nat) (x : α), l[i]? = some x → l.take (i + 1) = l.take i ++ [x]
  | [], i, x, h => absurd h (by simp)
  | a :: l, 0, x, h => by
    have h : some a = some x := h
    injection h with h
    rw [h, List.take_succ_cons, List.take_zero, List.take_zero]
    rfl
  | a :: l, i + 1, x, h => by
    have h : l[i]? = some x := h
    rw [List.take_succ_cons, List.take_succ_cons, tk_s l i x h]
    rfl
theorem clpC {v lo : Int} (hv : sm2 v) (h : 0 ≤ lo ∧ lo ≤ 1) : (if iZ lo < (if (999 : Int32) < iZ v then 999 else iZ v) then (if (999 : Int32) < iZ v then 999 else iZ v) else iZ lo) = iZ (clp lo v) := by
  have l9 : (999 : Int32) = iZ 999 := by decide
  unfold sm2 at hv
  unfold clp
  rw [l9]
  rcases (by omega : v < lo ∨ (lo ≤ v ∧ v ≤ 999) ∨ 999 < v) with q | q | q
  · rw [if_neg (fun h1 : iZ 999 < iZ v => by have := (iZ_lt (by omega) (by omega) (by omega) (by omega)).mp h1; omega), if_neg (fun h1 : iZ lo < iZ v => by have := (iZ_lt (by omega) (by omega) (by omega) (by omega)).mp h1; omega), if_pos q]
  · rw [if_neg (fun h1 : iZ 999 < iZ v => by have := (iZ_lt (by omega) (by omega) (by omega) (by omega)).mp h1; omega), if_neg (by omega : ¬ v < lo), if_pos q.2]
    by_cases q2 : lo < v
    · rw [if_pos ((iZ_lt (by omega) (by omega) (by omega) (by omega)).mpr q2)]
    · rw [show v = lo by omega]
      split <;> rfl
  · rw [if_pos ((iZ_lt (by omega) (by omega) (by omega) (by omega)).mpr q : iZ 999 < iZ v), if_pos ((iZ_lt (by omega) (by omega) (by omega) (by omega)).mpr (by omega) : iZ lo < iZ 999), if_neg (by omega : ¬ v < lo), if_neg (by omega : ¬ v ≤ 999)]
theorem s_isOf {SLw : Lw} {Λ : List ClT} (hL : lawC SLw Λ) {i : Nat} {cl : ClT} (hi : Λ[i]? = some cl) {k : Nat} (hk : k < 1000) {x2 : Int32} (hx : x2 = nI (255 + k)) {Q : Int32 → Prop} (h0 : cl.1 ≠ k → Q 0) (h1 : cl.1 = k → Q 1) : w_X2_isOf SLw (nI i) x2 Q := by
  obtain ⟨l0, l1, l12, len, h424, l2, l3, E, E0, El, Eb, hc⟩ := hL
  have hil : i < Λ.length := by
    rcases Nat.lt_or_ge i Λ.length with q | q
    · exact q
    · rw [List.getElem?_eq_none q] at hi; exact absurd hi (by simp)
  obtain ⟨c1, c2, c3, c4, c5, _⟩ := hc i cl hi
  unfold w_X2_isOf
  rw [l0, nI_clamp (by omega), c1, hx]
  refine br_n (fun q => by have := (nI_ltI (b := 0) (by omega) (by decide)).mp q; omega) ?_
  refine br_n (fun q => by have := (nI_leI (by omega) (by omega)).mp q; omega) ⟨vp_in_nI hil (by omega), qe_b (255 + cl.1) (255 + k) (by omega) (by omega) (fun e => h1 (by omega)) (fun e => h0 (fun e2 => e (by omega)))⟩
theorem s_lastOf {SJ : Ob} {SLw : Lw} {Λ : List ClT} (hL : lawC SLw Λ) {φ : Nat → Int} (hφ : ∀ k, k < 8 → SJ.2 0 k = iZ (φ k) ∧ sml (φ k)) {k : Nat} (hk : k < 4) {lo b : Int} (hlo : 0 ≤ lo ∧ lo ≤ 1) {x2 x3 x4 : Int32} (h2 : x2 = nI (255 + k)) (h3 : x3 = iZ lo) (h4 : x4 = iZ b) {Q : Int32 → Ob → Prop} (hq : ∀ S' : Ob, S'.2 0 = SJ.2 0 → Q (iZ (fdW k lo φ Λ b)) S') : w_X1_lastOf SJ SLw x2 x3 x4 Q := by
  subst h3 h4
  have h12 := hL.2.2.1
  unfold w_X1_lastOf
  refine fo3 Λ.length (by omega) (fun i x5 S3 => x5 = iZ (fdW k lo φ (Λ.take i) b) ∧ S3.2 0 = SJ.2 0) ⟨by rw [List.take_zero]; rfl, rfl⟩ ?_ ?_
  · rintro L i x5 S3 hi ⟨rfl, h0⟩ ih
    obtain ⟨cl, hcl⟩ : ∃ cl, Λ[i]? = some cl := ⟨_, List.getElem?_eq_getElem hi⟩
    rw [hL.1]
    refine br_n (fun q => by have := (nI_leI (by omega) (by omega)).mp q; omega) ?_
    have ft : fdW k lo φ (Λ.take (i + 1)) b = stW k lo φ (fdW k lo φ (Λ.take i) b) cl := by rw [tk_s _ _ _ hcl, fdW_a]
    have same : stW k lo φ (fdW k lo φ (Λ.take i) b) cl = fdW k lo φ (Λ.take i) b → ∀ S9 : Ob, S9.2 0 = SJ.2 0 → ∀ v7 : Int32, v7 = nI i + 1 → L v7 (iZ (fdW k lo φ (Λ.take i) b)) S9 := by
      rintro e S9 h9 v7 rfl
      rw [nI_1]
      exact ih _ _ ⟨by rw [ft, e], h9⟩
    refine s_isOf hL hcl (by omega) h2 (fun c => br_y rfl (same (by unfold stW; rw [if_neg c]) S3 h0)) (fun c => br_n (by decide) ?_)
    refine s_holds hL (fun j hj => by rw [h0]; exact hφ j hj) hcl (fun e S8 h8 => br_y rfl (same (by unfold stW; rw [if_pos c, e]; rfl) S8 (h8.trans h0))) (fun v e S8 h8 h1 hv => br_n (by decide) ?_)
    rintro v12 rfl v13 rfl
    rw [nI_1, h1, clpC hv hlo]
    exact ih _ _ ⟨by rw [ft]; unfold stW; rw [if_pos c, e]; rfl, h8.trans h0⟩
  · rintro L x5 S3 ⟨rfl, h0⟩
    rw [hL.1]
    refine br_y (Int32.le_refl _) ?_
    rw [List.take_length]
    exact hq S3 h0
theorem fdB_t {φ : Nat → Int} : ∀ (M : List ClT), M.foldl (stB φ) true = true
  | [] => rfl
  | cl :: M => by
    rw [List.foldl_cons, show stB φ true cl = true from rfl]
    exact fdB_t M
theorem s_isBarred {SJ : Ob} {SLw : Lw} {Λ : List ClT} (hL : lawC SLw Λ) {φ : Nat → Int} {x2 : Int32} (hφ : ∀ k, k < 8 → (uA SJ 0 7 x2).2 0 k = iZ (φ k) ∧ sml (φ k)) {Q : Int32 → Ob → Prop} (hq : ∀ S' : Ob, S'.2 0 = (uA SJ 0 7 x2).2 0 → Q (bI (fdB φ Λ)) S') : w_X1_isBarred SJ SLw x2 Q := by
  have h12 := hL.2.2.1
  unfold w_X1_isBarred
  rintro S1 rfl
  refine fo2 Λ.length (by omega) (fun i S3 => S3.2 0 = (uA SJ 0 7 x2).2 0 ∧ fdB φ (Λ.take i) = false) ⟨rfl, by rw [List.take_zero]; rfl⟩ ?_ ?_
  · rintro L i S3 hi ⟨h0, hb⟩ ih
    obtain ⟨cl, hcl⟩ : ∃ cl, Λ[i]? = some cl := ⟨_, List.getElem?_eq_getElem hi⟩
    rw [hL.1]
    refine br_n (fun q => by have := (nI_leI (by omega) (by omega)).mp q; omega) ?_
    have ft : fdB φ (Λ.take (i + 1)) = stB φ false cl := by rw [tk_s _ _ _ hcl, fdB_a, hb]
    have same : stB φ false cl = false → ∀ S9 : Ob, S9.2 0 = (uA SJ 0 7 x2).2 0 → ∀ v7 : Int32, v7 = nI i + 1 → L v7 S9 := by
      rintro e S9 h9 v7 rfl
      rw [nI_1]
      exact ih _ ⟨h9, by rw [ft, e]⟩
    refine s_isOf hL hcl (k := 3) (by decide) (by decide) (fun c => br_y rfl (same (by unfold stB; rw [decide_eq_false c]; rfl) S3 h0)) (fun c => br_n (by decide) ?_)
    refine s_holds hL (fun j hj => by rw [h0]; exact hφ j hj) hcl (fun e S8 h8 => br_y rfl (same (by unfold stB; rw [e, decide_eq_true c]; rfl) S8 (h8.trans h0))) (fun v e S8 h8 h1 hv => br_n (by decide) ?_)
    have e1 : stB φ false cl = true := by unfold stB; rw [e, decide_eq_true c]; rfl
    have e2 : fdB φ Λ = true := by
      rw [show Λ = Λ.take (i + 1) ++ Λ.drop (i + 1) from (List.take_append_drop _ _).symm]
      have e3 : (Λ.take (i + 1)).foldl (stB φ) false = true := ft.trans e1
      unfold fdB
      rw [List.foldl_append, e3]
      exact fdB_t _
    have := hq S8 (h8.trans h0)
    rw [e2] at this
    exact this
  · rintro L S3 ⟨h0, hb⟩
    rw [hL.1]
    refine br_y (Int32.le_refl _) ?_
    rw [List.take_length] at hb
    have := hq S3 h0
    rw [hb] at this
    exact this
