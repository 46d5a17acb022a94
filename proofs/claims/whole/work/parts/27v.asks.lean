/-! ===== texts of laws: what the reference asks of a law ===== -/
def clA (cl : ClT) (φ : Nat → Int) : Option Int := (cl.2.1 φ).bind (fun v => (cl.2.2 φ).bind (fun w => if w = 0 then none else some v))
def clp (lo v : Int) : Int := if v < lo then lo else if v ≤ 999 then v else 999
def stW (k : Nat) (lo : Int) (φ : Nat → Int) (acc : Int) (cl : ClT) : Int := if cl.1 = k then (clA cl φ).elim acc (clp lo) else acc
def stB (φ : Nat → Int) (acc : Bool) (cl : ClT) : Bool := acc || (decide (cl.1 = 3) && (clA cl φ).isSome)
def fdW (k : Nat) (lo : Int) (φ : Nat → Int) (Λ : List ClT) (base : Int) : Int := Λ.foldl (stW k lo φ) base
def fdB (φ : Nat → Int) (Λ : List ClT) : Bool := Λ.foldl (stB φ) false
theorem fdW_a {k : Nat} {lo : Int} {φ : Nat → Int} {Λ : List ClT} {cl : ClT} {base : Int} : fdW k lo φ (Λ ++ [cl]) base = stW k lo φ (fdW k lo φ Λ base) cl := by
  unfold fdW
  rw [List.foldl_append]
  rfl
theorem fdB_a {φ : Nat → Int} {Λ : List ClT} {cl : ClT} : fdB φ (Λ ++ [cl]) = stB φ (fdB φ Λ) cl := by
  unfold fdB
  rw [List.foldl_append]
  rfl
theorem m_clp {t37 : Int64} {v : Int} (hv : sml v) (e : t37 = lZ v) {lo : Int} {lo64 : Int64} {lo32 : Int32} (hl : lo64 = lZ lo) (hl3 : lo32 = iZ lo) (hs : sml lo) {J : Int32 → Prop} (hJ : J (iZ (clp lo v))) : ((0 ≤ (lg_cmp t37 lo64) → (((lg_cmp t37 999) ≤ 0 → J (Int64.toInt32 t37)) ∧ (¬ (lg_cmp t37 999) ≤ 0 → J 999))) ∧ (¬ 0 ≤ (lg_cmp t37 lo64) → J lo32)) := by
  have l9 : (999 : Int64) = lZ 999 := by decide
  subst e hl hl3
  rw [lg_cmp_ge, lg_cmp_le, l9, lZ_le hs.md hv.md, lZ_le hv.md (by unfold mdl; omega), ofL hv]
  unfold clp at hJ
  refine ⟨fun c => ⟨fun c2 => ?_, fun c2 => ?_⟩, fun c => ?_⟩
  · rw [if_neg (by omega), if_pos c2] at hJ; exact hJ
  · rw [if_neg (by omega), if_neg c2] at hJ; exact hJ
  · rw [if_pos (by omega)] at hJ; exact hJ
theorem m_eff {S46 : Ob} {k : Nat} (hk : k < 2 ^ 31) {t37 : Int64} {v : Int} (hv : sml v) (ht : k ≠ 3 → t37 = lZ v) {a w : Int} {bb : Bool} (h23 : S46.1 23 = iZ a) (h24 : S46.1 24 = iZ w) (h25 : S46.1 25 = bI bb) {J49 : Ob → Prop} (hJ : ∀ S48 : Ob, S48.2 = S46.2 → (∀ j, j ≠ 23 → j ≠ 24 → j ≠ 25 → S48.1 j = S46.1 j) → S48.1 23 = iZ (if k = 1 then clp 0 v else a) → S48.1 24 = iZ (if k = 2 then clp 1 v else w) → S48.1 25 = bI (bb || decide (k = 3)) → J49 S48) :
    jn (fun (S51 : Ob) => jn (fun (S53 : Ob) => jn (fun (t55 : Int32) => narrow .boolean (.int t55) = .int t55 ∧ fits .boolean (.int t55) = true ∧ ∀ S59 : Ob, S59 = uS S53 25 t55 → J49 S59) (fun J56 => jn (fun (z60 : Unit) => J56 1) (fun J61 => ((¬ (S53.1 25) = 0 → J61 ()) ∧ ((S53.1 25) = 0 → ((¬ nI k = 3 → J56 0) ∧ (nI k = 3 → J61 ()))))))) (fun J54 => ((¬ nI k = 2 → J54 S51) ∧ (nI k = 2 → jn (fun (t64 : Int32) => ∀ S66 : Ob, S66 = uS S51 24 t64 → J54 S66) (fun J65 => ((0 ≤ (lg_cmp t37 1) → (((lg_cmp t37 999) ≤ 0 → J65 (Int64.toInt32 t37)) ∧ (¬ (lg_cmp t37 999) ≤ 0 → J65 999))) ∧ (¬ 0 ≤ (lg_cmp t37 1) → J65 1))))))) (fun J52 => ((¬ nI k = 1 → J52 S46) ∧ (nI k = 1 → jn (fun (t70 : Int32) => ∀ S72 : Ob, S72 = uS S46 23 t70 → J52 S72) (fun J71 => ((0 ≤ (lg_cmp t37 0) → (((lg_cmp t37 999) ≤ 0 → J71 (Int64.toInt32 t37)) ∧ (¬ (lg_cmp t37 999) ≤ 0 → J71 999))) ∧ (¬ 0 ≤ (lg_cmp t37 0) → J71 0)))))) := by
  refine jn_g (fun J => ∀ S51 : Ob, S51.2 = S46.2 → (∀ j, j ≠ 23 → S51.1 j = S46.1 j) → S51.1 23 = iZ (if k = 1 then clp 0 v else a) → J S51) (fun S51 a1 a2 a3 => ?_) (fun J hJ => ?_)
  · refine jn_g (fun J => ∀ S53 : Ob, S53.2 = S46.2 → (∀ j, j ≠ 23 → j ≠ 24 → S53.1 j = S46.1 j) → S53.1 23 = iZ (if k = 1 then clp 0 v else a) → S53.1 24 = iZ (if k = 2 then clp 1 v else w) → J S53) (fun S53 b1 b2 b3 b4 => ?_) (fun J hJ => ?_)
    · refine jn_g (fun J => J (bI (bb || decide (k = 3)))) ⟨nb _, ?_, ?_⟩ (fun J hJ => jn_g (fun J2 => (bb || decide (k = 3)) = true → J2 ()) (fun e => ?_) (fun J2 hJ2 => ?_))
      · cases (bb || decide (k = 3)) <;> rfl
      · rintro S59 rfl
        refine hJ _ b1 (fun j j1 j2 j3 => ?_) ?_ ?_ rfl
        · rw [uS_1, if_neg j3]; exact b2 j j1 j2
        · exact b3
        · exact b4
      · rw [e] at hJ; exact hJ
      · rw [b2 25 (by decide) (by decide), h25]
        refine ib_b (fun q => qe_b k 3 hk (by decide) (fun e => hJ2 (by rw [decide_eq_true e, Bool.or_true])) (fun e => ?_)) (fun q => hJ2 (by rw [q, Bool.true_or]))
        rw [q, decide_eq_false e] at hJ; exact hJ
    · refine qe_b k 2 hk (by decide) (fun e => ?_) (fun e => ?_)
      · rw [if_pos e] at hJ
        refine jn_g (fun J => J (iZ (clp 1 v))) ?_ (fun J hJ => m_clp hv (ht (by omega)) (by decide) (by decide) ⟨by decide, by decide⟩ hJ)
        rintro S66 rfl
        refine hJ _ a1 (fun j j1 j2 => ?_) a3 rfl
        rw [uS_1, if_neg j2]; exact a2 j j1
      · rw [if_neg e] at hJ
        exact hJ S51 a1 (fun j j1 _ => a2 j j1) a3 ((a2 24 (by decide)).trans h24)
  · refine qe_b k 1 hk (by decide) (fun e => ?_) (fun e => ?_)
    · rw [if_pos e] at hJ
      refine jn_g (fun J => J (iZ (clp 0 v))) ?_ (fun J hJ => m_clp hv (ht (by omega)) (by decide) (by decide) ⟨by decide, by decide⟩ hJ)
      rintro S72 rfl
      refine hJ _ rfl (fun j j1 => ?_) rfl
      rw [uS_1, if_neg j1]
    · rw [if_neg e] at hJ
      exact hJ S46 rfl (fun _ _ => rfl) h23
