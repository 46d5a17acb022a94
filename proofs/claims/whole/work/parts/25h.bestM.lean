/-! ===== best sets in the reference; what looking up leaves ===== -/
def scS : List Nat := [19, 20, 21, 23, 24, 25, 29, 31, 36, 42]
def scA : List Nat := [22, 26, 27, 28, 30, 32, 33, 34, 35, 37, 38, 39]
def lkU (S S' : Ob) : Prop := ((∀ k, k ∉ scS → S'.1 k = S.1 k) ∧ (S'.1 29 = S.1 29 ∨ S'.1 29 = S.1 1)) ∧ (∀ k, k ∉ scA → S'.2 k = S.2 k)
theorem lkU.rf {S : Ob} : lkU S S := ⟨⟨fun _ _ => rfl, Or.inl rfl⟩, fun _ _ => rfl⟩
theorem lkU.tr {S S' S'' : Ob} (h : lkU S S') (h' : lkU S' S'') : lkU S S'' := ⟨⟨fun k hk => (h'.1.1 k hk).trans (h.1.1 k hk), h'.1.2.elim (fun e => h.1.2.imp (fun f => e.trans f) (fun f => e.trans f)) (fun e => Or.inr (e.trans (h.1.1 1 (by decide))))⟩, fun k hk => (h'.2 k hk).trans (h.2 k hk)⟩
theorem lkU.uS {S S' : Ob} (h : lkU S S') {k : Nat} (hk : k ∈ scS) {v : Int32} (h29 : k ≠ 29 := by decide) : lkU S (uS S' k v) := by
  refine ⟨⟨fun j hj => ?_, ?_⟩, h.2⟩
  · rw [uS_1, if_neg (fun e => hj (by rw [e]; exact hk))]
    exact h.1.1 j hj
  · rw [uS_1, if_neg (fun e => h29 e.symm)]
    exact h.1.2
theorem lkU.uA {S S' : Ob} (h : lkU S S') {k : Nat} (hk : k ∈ scA) {i : Nat} {v : Int32} : lkU S (uA S' k i v) := by
  refine ⟨h.1, fun j hj => ?_⟩
  rw [uA_2, if_neg (fun e => hj (by rw [e]; exact hk))]
  exact h.2 j hj
theorem lkU.sB {S S' : Ob} {ks : List Nat} (h : sameB ks S S') (hk : ∀ k, k ∈ ks → k ∈ scA) : lkU S S' := ⟨⟨fun k _ => by rw [h.1], Or.inl (by rw [h.1])⟩, fun k h2 => h.2 k (fun q => h2 (hk k q))⟩
def mV (S : Ob) (P : PlT) : Prop := S.1 29 = S.1 1 → mP S P ∧ ndM S P (2 ^ qpN P)
def cV (SP : Ob) (P : PlT) : Prop := (¬ SP.1 8 = 0 → cP SP P) ∧ (¬ SP.1 9 = 0 → cP SP P ∧ ndC SP P (2 ^ qpN P))
def wkP (W : (Ob → Ob → Prop) → Prop) (SP : Ob) (P : PlT) : Prop := ∀ Q : Ob → Ob → Prop, (∀ SP' SJ', cV SP' P → cP SP' P → SP'.1 17 = SP.1 17 → Q SP' SJ') → W Q
def rkP (W : (Ob → Ob → Prop) → Prop) (SP : Ob) (P : PlT) : Prop := ∀ Q : Ob → Ob → Prop, (∀ SP' SJ', cV SP' P → cP SP' P → ndC SP' P (2 ^ qpN P) → SP'.1 17 = SP.1 17 → Q SP' SJ') → W Q
def lkP (S : Ob) (P : PlT) : Prop := ∀ Q : Ob → Prop, (∀ S', lkU S S' → mP S' P → ndM S' P (2 ^ qpN P) → mV S' P → Q S') → wM_looks S Q
theorem mT_lk {S S' : Ob} {T : TdT} (h : mT S T) (hl : lkU S S') : mT S' T := by
  unfold mT
  rw [hl.2 3 (by decide)]
  exact h
theorem nI_m1 {c : Nat} (h : c < 2 ^ 31) : ¬ nI c = -1 := by
  rw [iZ_n, iZ_m1, iZ_eq (by omega) (by omega) (by omega) (by omega)]
  omega
set_option maxHeartbeats 1000000 in
theorem m_bestSet {S : Ob} {P : PlT} {T : TdT} (h : mP S P) (hN : ndM S P (2 ^ qpN P)) (ok : okT (qpN P) T) (hT : mT S T) (b : Bool) {x1 : Int32} (hx1 : x1 = bI b) {Q : Int32 → Ob → Prop}
    (hq : ∀ (S' : Ob) c k, S'.2 = S.2 → (∀ j, j ≠ 31 → S'.1 j = S.1 j) → bst P T b (2 ^ qpN P) c k → S'.1 31 = nI k → Q (nI c) S') : wM_bestSet S x1 Q := by
  have hok := h.1
  have h10 := hok.1
  have hp := p10 h10
  unfold wM_bestSet
  refine fo3 (2 ^ qpN P) (by omega) (fun s x2 S3 => S3.2 = S.2 ∧ (∀ j, j ≠ 31 → S3.1 j = S.1 j) ∧ ((s = 0 ∧ x2 = -1) ∨ ∃ c k, bst P T b s c k ∧ x2 = nI c ∧ S3.1 31 = nI k)) ⟨rfl, fun _ _ => rfl, Or.inl ⟨rfl, rfl⟩⟩ ?_ ?_
  · rintro L s x2 S3 hs ⟨hA, hB, hI⟩ ih
    have h3 : mP S3 P := by unfold mP; rw [hA]; exact h
    have hN3 : ndM S3 P (2 ^ qpN P) := by unfold ndM; rw [hA]; exact hN
    have hT3 : mT S3 T := by unfold mT; rw [hA]; exact hT
    have skip : cnd P T s = false → ∀ v : Int32, v = nI s + 1 → L v x2 S3 := by
      rintro hf v rfl
      rw [nI_1]
      refine ih _ _ ⟨hA, hB, Or.inr ?_⟩
      rcases hI with ⟨rfl, _⟩ | ⟨c, k, hb, hx, h31⟩
      · rw [cnd_0] at hf; exact absurd hf (by decide)
      · exact ⟨c, k, bst_skip hb hf, hx, h31⟩
    rw [sM_tales, h3.2.1, shl_1 (by omega)]
    refine br_n (fun q => by have := (nI_leI (by omega) (by omega)).mp q; omega) ?_
    refine m_isSetN ok hT3 h3.2.1 hs (fun c => br_n (by decide) (m_goesOn h3 hN3 ok hT3 hs (fun c2 => rb_n (by decide) ?_) (fun c2 => rb_y rfl (skip (cnd_f.mpr (fun q => c2 q.2)))))) (fun c => br_y rfl (skip (cnd_f.mpr (fun q => c q.1))))
    have hcd : cnd P T s = true := cnd_t.mpr ⟨c, c2⟩
    have up : ∀ v : Int32, ∀ j, j ≠ 31 → (uS S3 31 v).1 j = S.1 j := by
      intro v j hj
      rw [uS_1, if_neg hj]
      exact hB j hj
    rcases hI with ⟨rfl, rfl⟩ | ⟨c, k, hb, rfl, h31⟩
    · refine jn_g (fun J => J 1) ?_ (fun J hJ => rb_y rfl hJ)
      simp only [jn_d]
      refine br_n (by decide) ?_
      rintro S22 rfl
      refine br_y (by decide) ?_
      rintro S19 rfl v rfl
      rw [nI_1]
      refine ih _ _ ⟨hA, fun j hj => ?_, Or.inr ⟨0, 1, bst_0, rfl, rfl⟩⟩
      rw [uS_1, if_neg hj]
      exact up _ j hj
    · have hV := vV_r hok b s
      have hVc := vV_r hok b c
      have hcs : c < s := hb.1
      have hw1 := wsm_r hok s
      have hw2 := wsm_r hok c
      have hp1 := pop_le s
      have hp2 := pop_le c
      refine jn_g (fun J => ∀ m : Int, -200000 ≤ m → m ≤ 200000 → (0 < m ↔ vV P b c < vV P b s) → (m < 0 ↔ vV P b s < vV P b c) → J (iZ m)) ?_ (fun J hJ => rb_n (nI_m1 (by omega)) ?_)
      · intro m m1 m2 m3 m4
        simp only [jn_d]
        rw [iZ_0]
        refine zle_b _ _ (by omega) (fun q => zle_b _ _ (by omega) (fun q2 => ?_) (fun q2 => ?_)) (fun q => ?_)
        · rintro S19 rfl v rfl
          rw [nI_1]
          refine ih _ _ ⟨hA, up _, Or.inr ⟨c, k + 1, bst_same hb hcd (by omega), rfl, ?_⟩⟩
          rw [uS_1, if_pos rfl, h31, nI_1]
        · rintro S19 rfl v rfl
          rw [nI_1]
          refine ih _ _ ⟨hA, up _, Or.inr ⟨c, k, bst_less hb (by omega), rfl, ?_⟩⟩
          rw [uS_1, if_pos rfl, h31, ← iZ_0, Int32.add_zero]
        · rintro S22 rfl
          refine zle_b _ _ (by omega) (fun q2 => ?_) (fun q2 => absurd q2 (by omega))
          rintro S19 rfl v rfl
          rw [nI_1]
          refine ih _ _ ⟨hA, fun j hj => ?_, Or.inr ⟨s, 1, bst_more hb hcd (by omega), rfl, ?_⟩⟩
          · rw [uS_1, if_neg hj]
            exact up _ j hj
          · rw [uS_1, if_pos rfl, uS_1, if_pos rfl, ← iZ_0]; rfl
      · refine jn_g (fun J => ¬ (b = true ∧ pop s ≠ pop c) → J ()) ?_ (fun J2 hJ2 => ?_)
        · intro hno
          refine m_worthOf h3 (by omega) (m_worthOf h3 (by omega) ?_)
          rw [iZ_sub]
          refine hJ _ (by omega) (by omega) ?_ ?_
          · unfold vV
            cases b
            · simp only [Bool.false_eq_true, if_false]; omega
            · have : pop s = pop c := Classical.byContradiction (fun q => hno ⟨rfl, q⟩)
              simp only [if_true, this]; omega
          · unfold vV
            cases b
            · simp only [Bool.false_eq_true, if_false]; omega
            · have : pop s = pop c := Classical.byContradiction (fun q => hno ⟨rfl, q⟩)
              simp only [if_true, this]; omega
        · rw [hx1, bI_1]
          refine ⟨fun q => hJ2 (fun q2 => q q2.1), fun q => sM_ones (by omega) (sM_ones (by omega) (eq_b _ _ (by omega) (by omega) (fun q2 => hJ2 (fun q3 => q3.2 q2)) (fun q2 => sM_ones (by omega) (sM_ones (by omega) ?_))))⟩
          rw [iZ_n, iZ_n, iZ_sub]
          refine hJ _ (by omega) (by omega) ?_ ?_
          · unfold vV
            rw [if_pos q, if_pos q]; omega
          · unfold vV
            rw [if_pos q, if_pos q]; omega
  · rintro L x2 S3 ⟨hA, hB, hI⟩
    have h3 : mP S3 P := by unfold mP; rw [hA]; exact h
    rw [sM_tales, h3.2.1, shl_1 (by omega)]
    refine br_y (Int32.le_refl _) ?_
    rcases hI with ⟨h0, _⟩ | ⟨c, k, hb, rfl, h31⟩
    · exact absurd h0 (by have := Nat.two_pow_pos (qpN P); omega)
    · exact hq S3 c k hA hB hb h31
