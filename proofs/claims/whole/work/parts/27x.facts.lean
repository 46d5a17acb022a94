/-! ===== facts of tales, and what a law in force says of them ===== -/
abbrev FtT := Nat × Nat × Bool × Nat × (Nat → Nat) × (Nat → Nat) × (Nat → Nat) × (Nat → Nat)
def qfN (F : FtT) : Nat := F.1
def qfK (F : FtT) : Nat := F.2.1
def qfT (F : FtT) : Bool := F.2.2.1
def qfZ (F : FtT) : Nat := F.2.2.2.1
def qfF (F : FtT) (x : Nat) : Nat := F.2.2.2.2.1 x
def qfE (F : FtT) (x : Nat) : Nat := F.2.2.2.2.2.1 x
def qfB (F : FtT) (x : Nat) : Nat := F.2.2.2.2.2.2.1 x
def qfS (F : FtT) (x : Nat) : Nat := F.2.2.2.2.2.2.2 x
def okF (F : FtT) : Prop := qfN F ≤ 10 ∧ 1 ≤ qfK F ∧ qfK F ≤ 4 ∧ qfZ F ≤ 9 ∧ ∀ x, x < qfN F → qfF F x ≤ qfE F x ∧ qfE F x ≤ 2000 ∧ qfB F x ≤ 999 ∧ qfS F x < 16
def mF (kp : Nat → Int32) (F : FtT) : Prop := okF F ∧ kp 133 = nI (qfN F) ∧ kp 40 = nI (qfK F) ∧ kp 41 = bI (qfT F) ∧ kp 42 = nI (qfZ F) ∧ ∀ x, x < qfN F → kp (4 * x) = nI (qfF F x) ∧ kp (4 * x + 1) = nI (qfE F x) ∧ kp (4 * x + 2) = nI (qfB F x) ∧ kp (4 * x + 3) = nI (qfS F x)
def cF (SB : Ob) (F : FtT) : Prop := okF F ∧ SB.1 4 = nI (qfN F) ∧ SB.2 5 0 = nI (qfK F) ∧ SB.2 5 1 = bI (qfT F) ∧ SB.2 5 2 = nI (qfZ F) ∧ ∀ x, x < qfN F → SB.2 0 x = nI (qfF F x) ∧ SB.2 1 x = nI (qfE F x) ∧ SB.2 2 x = nI (qfB F x) ∧ SB.2 3 x = nI (qfS F x)
def phi (F : FtT) (x : Nat) (y : Int) (k : Nat) : Int := if k = 0 then (x : Int) else if k = 1 then (qfF F x : Int) else if k = 2 then (qfE F x : Int) else if k = 3 then (qfE F x : Int) - (qfF F x : Int) else if k = 4 then (qfB F x : Int) else if k = 5 then (pop (qfS F x % 2 ^ qfK F) : Int) else if k = 6 then (qfZ F : Int) else y
def zaW (o : Option (List ClT)) (φ : Nat → Int) (base : Int) : Int := o.elim base (fun Λ => fdW 1 0 φ Λ base)
def zaG (o : Option (List ClT)) (φ : Nat → Int) : Int := o.elim 1 (fun Λ => fdW 2 1 φ Λ 1)
def zaB (o : Option (List ClT)) (φ : Nat → Int) : Bool := o.elim false (fun Λ => fdB φ Λ)
def lwX (kp : Nat → Int32) (o : Option (List ClT)) : Prop := o.elim (kp 138 = -1) (fun Λ => ∃ t, t < 6 ∧ kp 138 = nI t ∧ lawM kp t Λ)
theorem msk : ∀ s, s < 16 → ∀ k, k < 5 → (nI s &&& (((1 : Int32) <<< (nI k &&& 31)) - 1)) = nI (s % 2 ^ k) ∧ pop (s % 2 ^ k) ≤ 4 := by decide +kernel
theorem phi_s {F : FtT} (ok : okF F) {x : Nat} (hx : x < qfN F) {y : Int} (hy : sml y) (k : Nat) : sml (phi F x y k) := by
  obtain ⟨h1, h2, h3, h4⟩ := ok.2.2.2.2 x hx
  have h5 := (msk _ h4 (qfK F) (by have := ok.2.2.1; omega)).2
  have h6 := ok.2.2.2.1
  have h7 := ok.1
  unfold phi
  unfold sml at hy ⊢
  repeat' split
  all_goals omega
theorem clp_r {lo v : Int} (h : lo ≤ 999) : lo ≤ clp lo v ∧ clp lo v ≤ 999 := by
  unfold clp
  repeat' split
  all_goals omega
theorem fdW_r {k : Nat} {lo : Int} (h : lo ≤ 999) {φ : Nat → Int} : ∀ (Λ : List ClT) (b : Int), lo ≤ b ∧ b ≤ 999 → lo ≤ fdW k lo φ Λ b ∧ fdW k lo φ Λ b ≤ 999
  | [], b, hb => hb
  | cl :: Λ, b, hb => by
    show lo ≤ fdW k lo φ Λ (stW k lo φ b cl) ∧ _
    refine fdW_r h Λ _ ?_
    unfold stW
    split
    · cases clA cl φ with
      | none => exact hb
      | some v => exact clp_r h
    · exact hb
def asO (S S' : Ob) : Prop := (∀ k, k ≠ 19 → k ≠ 20 → k ≠ 21 → k ≠ 23 → k ≠ 24 → k ≠ 25 → S'.1 k = S.1 k) ∧ ∀ k, k ≠ 22 → S'.2 k = S.2 k
set_option maxHeartbeats 1000000 in
theorem m_asks {S : Ob} {F : FtT} (hF : mF (S.2 3) F) {o : Option (List ClT)} (hL : lwX (S.2 3) o) {x : Nat} (hx : x < qfN F) {y : Int} (hy : sml y) {Q : Ob → Prop} (hq : ∀ S', asO S S' → S'.1 23 = iZ (zaW o (phi F x y) (qfB F x)) → S'.1 24 = iZ (zaG o (phi F x y)) → S'.1 25 = bI (zaB o (phi F x y)) → Q S') : wM_asksOf S (nI x) (iZ y) Q := by
  obtain ⟨ok, k133, k40, k41, k42, kx⟩ := hF
  obtain ⟨f0, f1, f2, f3⟩ := kx x hx
  obtain ⟨o1, o2, o3, o4⟩ := ok.2.2.2.2 x hx
  have hx10 : x < 10 := by have := ok.1; omega
  have hK := ok.2.2.1
  obtain ⟨m1, m2⟩ := msk _ o4 (qfK F) (by omega)
  have fac : ∀ (S1 : Ob) (f : Nat) (v : Int32) (Q : Int32 → Prop), f < 4 → S1.2 3 (4 * x + f) = v → Q v → wM_factOf S1 (nI x) (nI f) Q := fun S1 f v Q hf e h => by rw [sM_factOf (by omega), e]; exact h
  unfold wM_asksOf
  refine fac S 2 _ _ (by decide) f2 ?_
  rintro S3 rfl S4 rfl S5 rfl
  cases o with
  | none =>
    have hL : S.2 3 138 = -1 := hL
    refine rb_y hL (hq _ ⟨fun k a b c d e f => ?_, fun _ _ => rfl⟩ ?_ rfl rfl)
    · rw [uS_1, if_neg f, uS_1, if_neg e, uS_1, if_neg d]
    · exact iZ_n _
  | some Λ =>
    obtain ⟨t, ht, k138, K, okK', hm, hsz, htk⟩ := (show ∃ t, t < 6 ∧ S.2 3 138 = nI t ∧ lawM (S.2 3) t Λ from hL)
    have hn := okK'.1
    refine rb_n (by show ¬ S.2 3 138 = -1; rw [k138]; exact nI_m1 (by omega)) ?_
    have ng : ∀ {S1 : Ob} {i : Nat} {v : Int32}, (uA S1 22 i v).2 3 = S1.2 3 := fun {S1 i v} => uA_o (by decide)
    have u3 : ∀ {S1 : Ob} {i : Nat} {v : Int32}, (uS S1 i v).2 3 = S1.2 3 := fun {S1 i v} => rfl
    rintro S6 rfl
    refine fac _ 0 (nI (qfF F x)) _ (by decide) (by rw [ng, u3, u3, u3]; exact f0) ?_
    rintro S9 rfl
    refine fac _ 1 (nI (qfE F x)) _ (by decide) (by rw [ng, ng, u3, u3, u3]; exact f1) ?_
    rintro S12 rfl
    refine fac _ 1 (nI (qfE F x)) _ (by decide) (by rw [ng, ng, ng, u3, u3, u3]; exact f1) ?_
    refine fac _ 0 (nI (qfF F x)) _ (by decide) (by rw [ng, ng, ng, u3, u3, u3]; exact f0) ?_
    rintro S17 rfl
    refine fac _ 2 (nI (qfB F x)) _ (by decide) (by rw [ng, ng, ng, ng, u3, u3, u3]; exact f2) ?_
    rintro S20 rfl
    refine fac _ 3 (nI (qfS F x)) _ (by decide) (by rw [ng, ng, ng, ng, ng, u3, u3, u3]; exact f3) ?_
    rw [show (uA (uA (uA (uA (uA (uS (uS (uS S 23 (nI (qfB F x))) 24 1) 25 0) 22 0 (nI x)) 22 1 (nI (qfF F x))) 22 2 (nI (qfE F x))) 22 3 (nI (qfE F x) - nI (qfF F x))) 22 4 (nI (qfB F x))).2 3 40 = nI (qfK F) from by rw [ng, ng, ng, ng, ng, u3, u3, u3]; exact k40, m1]
    refine sM_ones (by have : qfS F x % 2 ^ qfK F ≤ qfS F x := Nat.mod_le _ _; omega) ?_
    rintro S25 rfl S26 rfl S27 rfl
    generalize hG : uA (uA (uA (uA (uA (uA (uA (uA (uS (uS (uS S 23 (nI (qfB F x))) 24 1) 25 0) 22 0 (nI x)) 22 1 (nI (qfF F x))) 22 2 (nI (qfE F x))) 22 3 (nI (qfE F x) - nI (qfF F x))) 22 4 (nI (qfB F x))) 22 5 (nI (pop (qfS F x % 2 ^ qfK F)))) 22 6 _) 22 7 (iZ y) = SG
    have g3 : SG.2 3 = S.2 3 := by
      rw [← hG, ng, ng, ng, ng, ng, ng, ng, ng]
      rfl
    have gA : ∀ k, k ≠ 22 → SG.2 k = S.2 k := by
      intro k hk
      rw [← hG, uA_o hk, uA_o hk, uA_o hk, uA_o hk, uA_o hk, uA_o hk, uA_o hk, uA_o hk]
      rfl
    have g1 : SG.1 = (uS (uS (uS S 23 (nI (qfB F x))) 24 1) 25 0).1 := by
      rw [← hG]
      rfl
    have g22 : ∀ k, k < 8 → SG.2 22 k = iZ (phi F x y k) := by
      have e42 : (uA (uA (uA (uA (uA (uA (uS (uS (uS S 23 (nI (qfB F x))) 24 1) 25 0) 22 0 (nI x)) 22 1 (nI (qfF F x))) 22 2 (nI (qfE F x))) 22 3 (nI (qfE F x) - nI (qfF F x))) 22 4 (nI (qfB F x))) 22 5 (nI (pop (qfS F x % 2 ^ qfK F)))).2 3 42 = nI (qfZ F) := by
        rw [ng, ng, ng, ng, ng, ng]
        exact k42
      rw [e42] at hG
      intro k hk
      rw [← hG]
      rcases (by omega : k = 0 ∨ k = 1 ∨ k = 2 ∨ k = 3 ∨ k = 4 ∨ k = 5 ∨ k = 6 ∨ k = 7) with rfl | rfl | rfl | rfl | rfl | rfl | rfl | rfl
      · exact iZ_n _
      · exact iZ_n _
      · exact iZ_n _
      · show nI (qfE F x) - nI (qfF F x) = iZ ((qfE F x : Int) - (qfF F x : Int))
        rw [iZ_n, iZ_n, iZ_sub]
      · exact iZ_n _
      · exact iZ_n _
      · exact iZ_n _
      · rfl
    rintro S28 rfl
    have e400 : (400 * SG.2 3 138 : Int32) = nI (400 * t) := by
      rw [g3, k138]
      show nI 400 * nI t = _
      rw [pk_mul]
    have e139 : (139 + nI t : Int32) = nI (139 + t) := nI_add 139 t
    rw [e400]
    show vp_in (139 + SG.2 3 138) 4945 ∧ ∀ S30 : Ob, S30 = uS (uS SG 19 (nI (400 * t))) 20 (nI (400 * t) + SG.2 3 (Int32.toNatClampNeg (139 + SG.2 3 138))) → _
    rw [g3, k138, e139, nI_clamp (by omega), hsz, nI_add]
    refine ⟨vp_in_nI (by omega) (by decide), ?_⟩
    rintro S30 rfl
    have ev : evK (phi F x y) K t (uS (uS SG 19 (nI (400 * t))) 20 (nI (400 * t + kN K))) := by
      refine ⟨okK', ht, rfl, fun i hi => ?_, fun k hk => ⟨g22 k hk, phi_s ok hx hy k⟩⟩
      show SG.2 3 _ = _ ∧ vR (SG.2 3 _) _
      rw [g3]
      exact htk i hi
    have b23 : SG.1 23 = iZ (qfB F x) := by rw [g1]; exact iZ_n _
    have b24 : SG.1 24 = iZ 1 := by rw [g1]; rfl
    have b25 : SG.1 25 = bI false := by rw [g1]; rfl
    refine m_asksL ev hm (base := (qfB F x : Int)) rfl ⟨rfl, fun _ _ _ _ _ _ => rfl, b23, b24, b25⟩ (fun S' h' => hq S' ⟨fun k a b c d e f => ?_, fun k hk => ?_⟩ h'.2.2.1 h'.2.2.2.1 h'.2.2.2.2)
    · rw [h'.2.1 k a c d e f, uS_1, if_neg b, uS_1, if_neg a, g1, uS_1, if_neg f, uS_1, if_neg e, uS_1, if_neg d]
    · rw [h'.1]
      exact gA k hk
