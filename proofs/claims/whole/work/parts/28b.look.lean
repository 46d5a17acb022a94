/-! ===== the class looks at a tale ===== -/
theorem s_look {SJ SB : Ob} {F : FtT} (hF : cF SB F) {x : Nat} (hx : x < qfN F) {Q : Ob → Prop} (hq : ∀ S' : Ob, S'.1 = SJ.1 → (∀ k, k ≠ 0 → S'.2 k = SJ.2 k) → (∀ k, k < 8 → S'.2 0 k = iZ (phi F x (-1) k)) → Q S') : w_X1_look SJ SB (nI x) Q := by
  obtain ⟨ok, b4, b50, b51, b52, bx⟩ := hF
  obtain ⟨f0, f1, f2, f3⟩ := bx x hx
  obtain ⟨o1, o2, o3, o4⟩ := ok.2.2.2.2 x hx
  have hx10 : x < 10 := by have := ok.1; omega
  have hvx : vp_in (nI x) 10 := vp_in_nI hx10 (by decide)
  obtain ⟨m1, m2⟩ := msk _ o4 (qfK F) (by have := ok.2.2.1; omega)
  unfold w_X1_look
  rw [nI_clamp (by omega), f0, f1, f2, f3, b50, b52]
  rintro v1 rfl S2 rfl
  refine ⟨hvx, ?_⟩
  rintro S4 rfl
  refine ⟨hvx, ?_⟩
  rintro S6 rfl
  refine ⟨hvx, hvx, ?_⟩
  rintro S9 rfl
  refine ⟨hvx, ?_⟩
  rintro S11 rfl
  refine ⟨hvx, ?_⟩
  rw [m1]
  refine s_bitCount (by have : qfS F x % 2 ^ qfK F ≤ qfS F x := Nat.mod_le _ _; omega) ?_
  rintro S15 rfl S16 rfl S17 rfl
  refine hq _ rfl (fun k hk => ?_) (fun k hk => ?_)
  · rw [uA_o hk, uA_o hk, uA_o hk, uA_o hk, uA_o hk, uA_o hk, uA_o hk, uA_o hk]
  · rcases (by omega : k = 0 ∨ k = 1 ∨ k = 2 ∨ k = 3 ∨ k = 4 ∨ k = 5 ∨ k = 6 ∨ k = 7) with rfl | rfl | rfl | rfl | rfl | rfl | rfl | rfl
    · exact iZ_n _
    · exact iZ_n _
    · exact iZ_n _
    · show nI (qfE F x) - nI (qfF F x) = iZ ((qfE F x : Int) - (qfF F x : Int))
      rw [iZ_n, iZ_n, iZ_sub]
    · exact iZ_n _
    · exact iZ_n _
    · exact iZ_n _
    · rfl
/-! a stack as a list: the head on top -/
def stk (A : Nat → Int32) : List Int → Prop
  | [] => True
  | v :: k => A k.length = iZ v ∧ stk A k
def bds (n : Int) : List Int → Prop
  | [] => True
  | v :: k => (-n ≤ v ∧ v ≤ n) ∧ bds n k
theorem stk_cg {A A' : Nat → Int32} : ∀ {k : List Int}, stk A k → (∀ i, i < k.length → A' i = A i) → stk A' k
  | [], _, _ => True.intro
  | v :: k, h, hc => ⟨(hc _ (by rw [List.length_cons]; omega)).trans h.1, stk_cg h.2 (fun i hi => hc i (by rw [List.length_cons]; omega))⟩
theorem bds_le {n m : Int} (hnm : n ≤ m) : ∀ {k : List Int}, bds n k → bds m k
  | [], _ => True.intro
  | v :: k, h => ⟨by have := h.1; omega, bds_le hnm h.2⟩
