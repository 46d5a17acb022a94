/-! ===== dating in the reference: agree ===== -/
def sameB (ks : List Nat) (S S' : Ob) : Prop := S'.1 = S.1 ∧ ∀ k, k ∉ ks → S'.2 k = S.2 k
theorem sameB.rf {ks : List Nat} {S : Ob} : sameB ks S S := ⟨rfl, fun _ _ => rfl⟩
theorem sameB.tr {ks : List Nat} {S S' S'' : Ob} (h : sameB ks S S') (h' : sameB ks S' S'') : sameB ks S S'' := ⟨h'.1.trans h.1, fun k hk => (h'.2 k hk).trans (h.2 k hk)⟩
theorem sameB.uA {ks : List Nat} {S S' : Ob} (h : sameB ks S S') {k : Nat} (hk : k ∈ ks) {i : Nat} {v : Int32} : sameB ks S (uA S' k i v) := by
  refine ⟨h.1, fun j hj => ?_⟩
  rw [uA_2, if_neg (fun e => hj (by rw [e]; exact hk))]
  exact h.2 j hj
def dK (K : Nat → Int32) (n mm : Nat) : Prop := K 133 = nI n ∧ n ≤ 10 ∧ K 135 = nI mm ∧ mm ≤ 10 ∧ (∀ t, t < n → 0 ≤ (K (4 * t)).toInt ∧ (K (4 * t)).toInt ≤ (K (4 * t + 1)).toInt ∧ (K (4 * t + 1)).toInt ≤ 2000) ∧ ∀ i, i < mm → (∃ a, a < n ∧ K (73 + 3 * i) = nI a) ∧ (∃ b, b < n ∧ K (73 + 3 * i + 1) = nI b) ∧ 0 ≤ (K (73 + 3 * i + 2)).toInt ∧ (K (73 + 3 * i + 2)).toInt ≤ 500
def solK (K : Nat → Int32) (n mm : Nat) (kp : Nat → Prop) (x : Nat → Int) : Prop :=
  dSol n mm (fun t => (K (4 * t)).toInt) (fun t => (K (4 * t + 1)).toInt) (fun i => (K (73 + 3 * i)).toNatClampNeg) (fun i => (K (73 + 3 * i + 1)).toNatClampNeg) (fun i => (K (73 + 3 * i + 2)).toInt) kp x
def kpM (wo : Int32) (i : Nat) : Prop := ¬ ((wo >>> (nI i &&& 31)) &&& 1) = 1
theorem sM_factOf {S : Ob} {t f : Nat} (h : 4 * t + f < 4945) {Q : Int32 → Prop} : wM_factOf S (nI t) (nI f) Q = Q (S.2 3 (4 * t + f)) := by
  unfold wM_factOf
  have e : (4 * nI t + nI f : Int32) = nI (4 * t + f) := by
    show nI 4 * nI t + nI f = _
    rw [pk_mul, nI_add]
  rw [e, nI_clamp (by omega)]
  simp [vp_in_nI h (by decide)]
theorem ix3 (b i j : Nat) : (nI b + 3 * nI i + nI j : Int32) = nI (b + 3 * i + j) := by
  show nI b + nI 3 * nI i + nI j = _
  rw [pk_mul, nI_add, nI_add]
set_option maxHeartbeats 1000000 in
theorem ms_agree {S : Ob} {wo : Int32} {Q : Int32 → Ob → Prop} {n mm : Nat} (h : dK (S.2 3) n mm)
    (hy : ∀ S' : Ob, sameB [38, 39] S S' → solK (S.2 3) n mm (kpM wo) (EC S' 38) → solK (S.2 3) n mm (kpM wo) (EC S' 39) → (∀ z, solK (S.2 3) n mm (kpM wo) z → ∀ t, t < n → EC S' 38 t ≤ z t ∧ z t ≤ EC S' 39 t) → Q 1 S')
    (hn : (¬ ∃ x, solK (S.2 3) n mm (kpM wo) x) → ∀ S' : Ob, sameB [38, 39] S S' → Q 0 S') : wM_agree S wo Q := by
  obtain ⟨hn4, hn10, hm3, hm10, hT, hM⟩ := h
  have ho : ∀ i, i < mm → (S.2 3 (73 + 3 * i)).toNatClampNeg < n ∧ (S.2 3 (73 + 3 * i + 1)).toNatClampNeg < n := by
    intro i hi
    obtain ⟨⟨a, ha, ea⟩, ⟨b, hb, eb⟩, -⟩ := hM i hi
    rw [ea, eb, nI_clamp (by omega), nI_clamp (by omega)]
    exact ⟨ha, hb⟩
  unfold wM_agree
  refine wl2_i (fun x2 S2 => ∃ t, t ≤ n ∧ x2 = nI t ∧ sameB [38, 39] S S2 ∧ ∀ j, j < t → EC S2 38 j = (S.2 3 (4 * j)).toInt ∧ EC S2 39 j = (S.2 3 (4 * j + 1)).toInt) (fun x2 _ => n - x2.toNatClampNeg) ?_ 0 S ⟨0, Nat.zero_le _, rfl, sameB.rf, fun j hj => absurd hj (Nat.not_lt_zero j)⟩
  rintro L x2 S2 ⟨t, ht, rfl, hs, hE⟩ ih
  have hK2 : S2.2 3 = S.2 3 := hs.2 3 (by decide)
  rw [sM_tales, hK2, hn4]
  refine ⟨fun c1 => ?_, fun c1 => ?_⟩
  · have htn : t = n := by have := (nI_leI (by omega) (by omega)).mp c1; omega
    subst htn
    -- the passes
    refine wl2_i (fun x2 S7 => sameB [38, 39] S S7 ∧ (∀ j, j < t → (S.2 3 (4 * j)).toInt ≤ EC S7 38 j ∧ EC S7 38 j ≤ EC S7 39 j ∧ EC S7 39 j ≤ (S.2 3 (4 * j + 1)).toInt) ∧ (∀ z, solK (S.2 3) t mm (kpM wo) z → ∀ j, j < t → EC S7 38 j ≤ z j ∧ z j ≤ EC S7 39 j) ∧ ((x2 = 0 ∧ ∀ i, i < mm → kpM wo i → EC S7 38 (S.2 3 (73 + 3 * i)).toNatClampNeg + (S.2 3 (73 + 3 * i + 2)).toInt ≤ EC S7 38 (S.2 3 (73 + 3 * i + 1)).toNatClampNeg ∧ EC S7 39 (S.2 3 (73 + 3 * i)).toNatClampNeg + (S.2 3 (73 + 3 * i + 2)).toInt ≤ EC S7 39 (S.2 3 (73 + 3 * i + 1)).toNatClampNeg) ∨ x2 = 1))
      (fun x2 S7 => if x2 = 0 then 0 else 1 + sm (fun j => (EC S7 39 j - EC S7 38 j).toNat) t) ?_ 1 S2 ⟨hs, fun j hj => by have h1 := hE j hj; have h2 := hT j hj; omega, fun z hz j hj => by have h1 := hE j hj; have h2 := hz.1 j hj; dsimp only at h2; omega, Or.inr rfl⟩
    rintro L8 x2 S7 ⟨hs7, hB, hZ, hX⟩ ih8
    refine ⟨fun c2 => ?_, fun c2 => ?_⟩
    · obtain ⟨-, hC⟩ := hX.resolve_right (fun e => by rw [c2] at e; exact absurd e (by decide))
      refine hy S7 hs7 ⟨fun j hj => ?_, fun i hi hk => (hC i hi hk).1⟩ ⟨fun j hj => ?_, fun i hi hk => (hC i hi hk).2⟩ hZ
      · have := hB j hj; dsimp only; omega
      · have := hB j hj; dsimp only; omega
    · have hx1 : x2 = 1 := hX.resolve_left (fun q => c2 q.1)
      subst hx1
      refine wl3_i (fun x3 x2 S' => ∃ i, i ≤ mm ∧ x3 = nI i ∧ sameB [38, 39] S S' ∧ (∀ j, j < t → EC S7 38 j ≤ EC S' 38 j ∧ EC S' 38 j ≤ EC S' 39 j ∧ EC S' 39 j ≤ EC S7 39 j) ∧ (∀ z, solK (S.2 3) t mm (kpM wo) z → ∀ j, j < t → EC S' 38 j ≤ z j ∧ z j ≤ EC S' 39 j) ∧ ((x2 = 0 ∧ (∀ j, j < t → EC S' 38 j = EC S7 38 j ∧ EC S' 39 j = EC S7 39 j) ∧ ∀ q, q < i → kpM wo q → EC S7 38 (S.2 3 (73 + 3 * q)).toNatClampNeg + (S.2 3 (73 + 3 * q + 2)).toInt ≤ EC S7 38 (S.2 3 (73 + 3 * q + 1)).toNatClampNeg ∧ EC S7 39 (S.2 3 (73 + 3 * q)).toNatClampNeg + (S.2 3 (73 + 3 * q + 2)).toInt ≤ EC S7 39 (S.2 3 (73 + 3 * q + 1)).toNatClampNeg) ∨ (x2 = 1 ∧ ∃ j, j < t ∧ (EC S7 38 j < EC S' 38 j ∨ EC S' 39 j < EC S7 39 j))))
        (fun x3 _ _ => mm - x3.toNatClampNeg) ?_ 0 0 S7 ⟨0, Nat.zero_le _, rfl, hs7, fun j hj => ⟨Int.le_refl _, (hB j hj).2.1, Int.le_refl _⟩, hZ, Or.inl ⟨rfl, fun _ _ => ⟨rfl, rfl⟩, fun q hq => absurd hq (Nat.not_lt_zero q)⟩⟩
      rintro L12 x3 x2 S' ⟨i, hi, rfl, hs', hB', hZ', hX'⟩ ih12
      have hK' : S'.2 3 = S.2 3 := hs'.2 3 (by decide)
      rw [hK', hm3]
      refine ⟨fun c3 => ?_, fun c3 => ?_⟩
      · have him : i = mm := by have := (nI_leI (by omega) (by omega)).mp c3; omega
        subst him
        rcases hX' with ⟨e0, hE', hC⟩ | ⟨e1, j, hj, hd⟩
        · refine ih8 _ _ ⟨hs', fun j hj => ?_, hZ', Or.inl ⟨e0, fun q hq hk => ?_⟩⟩ ?_
          · have q1 := hB j hj; have q2 := hB' j hj; omega
          · have q1 := hC q hq hk
            have q2 := hE' _ (ho q hq).1
            have q3 := hE' _ (ho q hq).2
            omega
          · rw [e0, if_pos rfl, if_neg (by decide)]; omega
        · refine ih8 _ _ ⟨hs', fun j hj => ?_, hZ', Or.inr e1⟩ ?_
          · have q1 := hB j hj; have q2 := hB' j hj; omega
          · rw [e1, if_neg (by decide), if_neg (by decide)]
            refine Nat.add_lt_add_left (sm_lt (fun k hk => ?_) ⟨j, hj, ?_⟩) 1
            · have q2 := hB' k hk; omega
            · have q2 := hB' j hj; omega
      · have hlt : i < mm := by
          rcases Nat.lt_or_ge i mm with q | q
          · exact q
          · exact absurd (nI_le q (by omega)) c3
        obtain ⟨⟨a, ha, ea⟩, ⟨b, hb, eb⟩, hw0, hw5⟩ := hM i hlt
        rw [sM_isIn]
        have next : ∀ (q4 : Int32) (S2 : Ob), sameB [38, 39] S S2 → (∀ j, j < t → EC S7 38 j ≤ EC S2 38 j ∧ EC S2 38 j ≤ EC S2 39 j ∧ EC S2 39 j ≤ EC S7 39 j) → (∀ z, solK (S.2 3) t mm (kpM wo) z → ∀ j, j < t → EC S2 38 j ≤ z j ∧ z j ≤ EC S2 39 j) → ((q4 = 0 ∧ (∀ j, j < t → EC S2 38 j = EC S7 38 j ∧ EC S2 39 j = EC S7 39 j) ∧ ∀ q, q < i + 1 → kpM wo q → EC S7 38 (S.2 3 (73 + 3 * q)).toNatClampNeg + (S.2 3 (73 + 3 * q + 2)).toInt ≤ EC S7 38 (S.2 3 (73 + 3 * q + 1)).toNatClampNeg ∧ EC S7 39 (S.2 3 (73 + 3 * q)).toNatClampNeg + (S.2 3 (73 + 3 * q + 2)).toInt ≤ EC S7 39 (S.2 3 (73 + 3 * q + 1)).toNatClampNeg) ∨ (q4 = 1 ∧ ∃ j, j < t ∧ (EC S7 38 j < EC S2 38 j ∨ EC S2 39 j < EC S7 39 j))) → L12 (nI i + 1) q4 S2 := by
          intro q4 S2 g1 g2 g3 g4
          refine ih12 _ _ _ ⟨i + 1, by omega, by rw [nI_1], g1, g2, g3, g4⟩ ?_
          rw [nI_1, nI_clamp (by omega), nI_clamp (by omega)]; omega
        refine ⟨fun c4 => ?_, fun c4 => ?_⟩
        · -- the mention is kept
          rw [bI_0] at c4
          have hkp : kpM wo i := of_decide_eq_false c4
          have i0 : (73 + 3 * nI i : Int32) = nI (73 + 3 * i) := by show nI 73 + nI 3 * nI i = _; rw [pk_mul, nI_add]
          have i1 : (73 + 3 * nI i + 1 : Int32) = nI (73 + 3 * i + 1) := ix3 73 i 1
          have i2 : (73 + 3 * nI i + 2 : Int32) = nI (73 + 3 * i + 2) := ix3 73 i 2
          rw [i1, i2, i0, nI_clamp (by omega), nI_clamp (by omega), nI_clamp (by omega)]
          refine ⟨vp_in_nI (by omega) (by decide), ?_⟩
          rintro v16 ev16
          rw [ea] at ev16
          subst ev16
          refine ⟨vp_in_nI (by omega) (by decide), ?_⟩
          rintro v18 ev18
          rw [eb] at ev18
          subst ev18
          refine ⟨vp_in_nI (by omega) (by decide), ?_⟩
          rintro v20 rfl
          have ha10 : vp_in (nI a) 10 := vp_in_nI (by omega) (by decide)
          have hb10 : vp_in (nI b) 10 := vp_in_nI (by omega) (by decide)
          rw [nI_clamp (n := a) (by omega), nI_clamp (n := b) (by omega)]
          have hBa := hB a ha
          have hBb := hB b hb
          have hBa' := hB' a ha
          have hBb' := hB' b hb
          have hTa := hT a ha
          have hTb := hT b hb
          have hza : ∀ z, solK (S.2 3) t mm (kpM wo) z → z a + (S.2 3 (73 + 3 * i + 2)).toInt ≤ z b := by
            intro z hz
            have z1 := hz.2 i hlt hkp
            dsimp only at z1
            rw [ea, eb, nI_clamp (by omega), nI_clamp (by omega)] at z1
            exact z1
          obtain ⟨wv, hwv⟩ : ∃ z, z = (S.2 3 (73 + 3 * i + 2)).toInt := ⟨_, rfl⟩
          rw [← hwv] at hw0 hw5 hza
          have hse : ((S'.2 38 a) + S.2 3 (73 + 3 * i + 2)).toInt = EC S' 38 a + wv := by
            rw [hwv]
            have e1 : (S'.2 38 a).toInt = EC S' 38 a := rfl
            rw [fb_addI (by omega) (by omega)]
            rfl
          -- what stands behind the second join
          have last : ∀ (q4 : Int32) (S3 : Ob), sameB [38, 39] S S3 → (∀ j, j < t → EC S7 38 j ≤ EC S3 38 j ∧ EC S3 39 j ≤ EC S7 39 j) → (∀ j, j < t → j ≠ a → j ≠ b → EC S3 38 j ≤ EC S3 39 j) → (∀ z, solK (S.2 3) t mm (kpM wo) z → ∀ j, j < t → EC S3 38 j ≤ z j ∧ z j ≤ EC S3 39 j) → ((q4 = 0 ∧ (∀ j, j < t → EC S3 38 j = EC S7 38 j ∧ EC S3 39 j = EC S7 39 j) ∧ ∀ q, q < i + 1 → kpM wo q → EC S7 38 (S.2 3 (73 + 3 * q)).toNatClampNeg + (S.2 3 (73 + 3 * q + 2)).toInt ≤ EC S7 38 (S.2 3 (73 + 3 * q + 1)).toNatClampNeg ∧ EC S7 39 (S.2 3 (73 + 3 * q)).toNatClampNeg + (S.2 3 (73 + 3 * q + 2)).toInt ≤ EC S7 39 (S.2 3 (73 + 3 * q + 1)).toNatClampNeg) ∨ (q4 = 1 ∧ ∃ j, j < t ∧ (EC S7 38 j < EC S3 38 j ∨ EC S3 39 j < EC S7 39 j))) →
              vp_in (nI b) 10 ∧ vp_in (nI b) 10 ∧ (((S3.2 39 b) < (S3.2 38 b) → Q 0 S3) ∧ (¬ (S3.2 39 b) < (S3.2 38 b) → vp_in (nI a) 10 ∧ vp_in (nI a) 10 ∧ (((S3.2 38 a) ≤ (S3.2 39 a) → ∀ v35 : Int32, v35 = nI i + 1 → L12 v35 q4 S3) ∧ (¬ (S3.2 38 a) ≤ (S3.2 39 a) → Q 0 S3)))) := by
            intro q4 S3 g1 g2 g3 g4 g5
            refine ⟨hb10, hb10, fun c5 => hn (fun hex => ?_) S3 g1, fun c5 => ⟨ha10, ha10, fun c6 => ?_, fun c6 => hn (fun hex => ?_) S3 g1⟩⟩
            · obtain ⟨z, hz⟩ := hex
              have z1 := g4 z hz b hb
              have c5 : EC S3 39 b < EC S3 38 b := Int32.lt_iff_toInt_lt.mp c5
              omega
            · rintro v35 rfl
              have c5 : ¬ EC S3 39 b < EC S3 38 b := fun q => c5 (Int32.lt_iff_toInt_lt.mpr q)
              have c6 : EC S3 38 a ≤ EC S3 39 a := Int32.le_iff_toInt_le.mp c6
              refine next q4 S3 g1 (fun j hj => ?_) g4 g5
              have q1 := g2 j hj
              by_cases e1 : j = a
              · subst e1; omega
              · by_cases e2 : j = b
                · subst e2; omega
                · have := g3 j hj e1 e2; omega
            · obtain ⟨z, hz⟩ := hex
              have z1 := g4 z hz a ha
              have c6 : ¬ EC S3 38 a ≤ EC S3 39 a := fun q => c6 (Int32.le_iff_toInt_le.mpr q)
              omega
          -- behind the first join
          have mid : ∀ (q4 : Int32) (S3 : Ob), sameB [38, 39] S S3 → (∀ j, j < t → EC S7 38 j ≤ EC S3 38 j) → (∀ j, EC S3 39 j = EC S' 39 j) → (∀ j, j < t → j ≠ b → EC S3 38 j ≤ EC S3 39 j) → (∀ z, solK (S.2 3) t mm (kpM wo) z → ∀ j, j < t → EC S3 38 j ≤ z j) → ((q4 = 0 ∧ (∀ j, j < t → EC S3 38 j = EC S7 38 j ∧ EC S3 39 j = EC S7 39 j) ∧ EC S7 38 a + wv ≤ EC S7 38 b ∧ ∀ q, q < i → kpM wo q → EC S7 38 (S.2 3 (73 + 3 * q)).toNatClampNeg + (S.2 3 (73 + 3 * q + 2)).toInt ≤ EC S7 38 (S.2 3 (73 + 3 * q + 1)).toNatClampNeg ∧ EC S7 39 (S.2 3 (73 + 3 * q)).toNatClampNeg + (S.2 3 (73 + 3 * q + 2)).toInt ≤ EC S7 39 (S.2 3 (73 + 3 * q + 1)).toNatClampNeg) ∨ (q4 = 1 ∧ ∃ j, j < t ∧ (EC S7 38 j < EC S3 38 j ∨ EC S3 39 j < EC S7 39 j))) →
              vp_in (nI b) 10 ∧ vp_in (nI a) 10 ∧ jn (fun (x2_28 : Int32) (S29 : Ob) => vp_in (nI b) 10 ∧ vp_in (nI b) 10 ∧ (((S29.2 39 b) < (S29.2 38 b) → Q 0 S29) ∧ (¬ (S29.2 39 b) < (S29.2 38 b) → vp_in (nI a) 10 ∧ vp_in (nI a) 10 ∧ (((S29.2 38 a) ≤ (S29.2 39 a) → ∀ v35 : Int32, v35 = nI i + 1 → L12 v35 x2_28 S29) ∧ (¬ (S29.2 38 a) ≤ (S29.2 39 a) → Q 0 S29))))) (fun J30 => (((S3.2 39 a) ≤ ((S3.2 39 b) - S.2 3 (73 + 3 * i + 2)) → J30 q4 S3) ∧ (¬ (S3.2 39 a) ≤ ((S3.2 39 b) - S.2 3 (73 + 3 * i + 2)) → vp_in (nI b) 10 ∧ vp_in (nI a) 10 ∧ ∀ S40 : Ob, S40 = uA S3 39 a ((S3.2 39 b) - S.2 3 (73 + 3 * i + 2)) → J30 1 S40))) := by
            intro q4 S3 g1 g2 g3 g4 g5 g6
            have h39b := g3 b
            have h39a := g3 a
            have hsl : ((S3.2 39 b) - S.2 3 (73 + 3 * i + 2)).toInt = EC S3 39 b - wv := by
              rw [hwv]
              have e1 : (S3.2 39 b).toInt = EC S3 39 b := rfl
              rw [fb_subI (by omega) (by omega)]
              rfl
            refine ⟨hb10, ha10, ?_⟩
            rw [jn_d]
            refine ⟨fun c5 => ?_, fun c5 => ⟨hb10, ha10, ?_⟩⟩
            · have c5 : EC S3 39 a ≤ EC S3 39 b - wv := by have := Int32.le_iff_toInt_le.mp c5; rw [hsl] at this; exact this
              refine last q4 S3 g1 (fun j hj => ⟨g2 j hj, by rw [g3]; exact (hB' j hj).2.2⟩) (fun j hj _ h2 => g4 j hj h2) (fun z hz j hj => ⟨g5 z hz j hj, by rw [g3]; exact (hZ' z hz j hj).2⟩) ?_
              rcases g6 with ⟨e0, hE', hab, hC⟩ | g6
              · refine Or.inl ⟨e0, hE', fun q hq hk => ?_⟩
                by_cases e : q = i
                · subst e
                  rw [ea, eb, nI_clamp (by omega), nI_clamp (by omega), ← hwv]
                  have q1 := (hE' a ha).2
                  have q2 := (hE' b hb).2
                  omega
                · exact hC q (by omega) hk
              · exact Or.inr g6
            · rintro S40 rfl
              have c5 : ¬ EC S3 39 a ≤ EC S3 39 b - wv := fun q => c5 (Int32.le_iff_toInt_le.mpr (by rw [hsl]; exact q))
              have hup : ∀ j, EC (uA S3 39 a ((S3.2 39 b) - S.2 3 (73 + 3 * i + 2))) 39 j = if j = a then EC S3 39 b - wv else EC S3 39 j := by
                intro j
                rw [EC_upd, hsl]
              have hno : ∀ j, EC (uA S3 39 a ((S3.2 39 b) - S.2 3 (73 + 3 * i + 2))) 38 j = EC S3 38 j := fun j => rfl
              refine last 1 _ (g1.uA (by decide)) (fun j hj => ⟨by rw [hno]; exact g2 j hj, ?_⟩) (fun j hj h1 h2 => ?_) (fun z hz j hj => ⟨by rw [hno]; exact g5 z hz j hj, ?_⟩) (Or.inr ⟨rfl, a, ha, Or.inr ?_⟩)
              · rw [hup]
                have q1 := (hB' j hj).2.2
                have q2 := g3 j
                split
                · next e => subst e; omega
                · omega
              · rw [hno, hup, if_neg h1]; exact g4 j hj h2
              · rw [hup]
                have q1 := hZ' z hz j hj
                have q2 := g3 j
                split
                · next e =>
                  subst e
                  have q3 := hza z hz
                  have q4 := (hZ' z hz b hb).2
                  omega
                · omega
              · rw [hup, if_pos rfl]; omega
          refine ⟨ha10, hb10, ?_⟩
          rw [jn_d]
          refine ⟨fun c5 => ?_, fun c5 => ⟨ha10, hb10, ?_⟩⟩
          · have c5 : EC S' 38 a + wv ≤ EC S' 38 b := by have := Int32.le_iff_toInt_le.mp c5; rw [hse] at this; exact this
            refine mid x2 S' hs' (fun j hj => (hB' j hj).1) (fun _ => rfl) (fun j hj _ => (hB' j hj).2.1) (fun z hz j hj => (hZ' z hz j hj).1) ?_
            rcases hX' with ⟨e0, hE', hC⟩ | hX'
            · refine Or.inl ⟨e0, hE', ?_, hC⟩
              have q1 := (hE' a ha).1
              have q2 := (hE' b hb).1
              omega
            · exact Or.inr hX'
          · rintro S44 rfl
            have c5 : ¬ EC S' 38 a + wv ≤ EC S' 38 b := fun q => c5 (Int32.le_iff_toInt_le.mpr (by rw [hse]; exact q))
            have hup : ∀ j, EC (uA S' 38 b ((S'.2 38 a) + S.2 3 (73 + 3 * i + 2))) 38 j = if j = b then EC S' 38 a + wv else EC S' 38 j := by
              intro j
              rw [EC_upd, hse]
            have hno : ∀ j, EC (uA S' 38 b ((S'.2 38 a) + S.2 3 (73 + 3 * i + 2))) 39 j = EC S' 39 j := fun j => rfl
            refine mid 1 _ (hs'.uA (by decide)) (fun j hj => ?_) hno (fun j hj h1 => ?_) (fun z hz j hj => ?_) (Or.inr ⟨rfl, b, hb, Or.inl ?_⟩)
            · rw [hup]
              have q1 := hB' j hj
              split
              · next e => subst e; omega
              · exact q1.1
            · rw [hup, if_neg h1, hno]; exact (hB' j hj).2.1
            · rw [hup]
              have q1 := hZ' z hz j hj
              split
              · next e =>
                subst e
                have q3 := hza z hz
                have q4 := (hZ' z hz a ha).1
                omega
              · exact q1.1
            · rw [hup, if_pos rfl]; omega
        · rintro v46 rfl
          rw [bI_0] at c4
          refine next _ _ hs' hB' hZ' ?_
          rcases hX' with ⟨e0, hE', hC⟩ | hX'
          · refine Or.inl ⟨e0, hE', fun q hq hk => ?_⟩
            by_cases e : q = i
            · subst e
              exact absurd (by simpa using c4) hk
            · exact hC q (by omega) hk
          · exact Or.inr hX'
  · have hlt : t < n := by
      rcases Nat.lt_or_ge t n with q | q
      · exact q
      · exact absurd (nI_le q (by omega)) c1
    have ht10 : vp_in (nI t) 10 := vp_in_nI (by omega) (by decide)
    rw [show (0 : Int32) = nI 0 from rfl, sM_factOf (by omega), nI_clamp (by omega)]
    refine ⟨ht10, ?_⟩
    rintro S53 rfl
    rw [show (1 : Int32) = nI 1 from rfl, sM_factOf (by omega)]
    refine ⟨ht10, ?_⟩
    rintro S57 rfl v58 rfl
    refine ih _ _ ⟨t + 1, by omega, by rw [nI_add], (hs.uA (by decide)).uA (by decide), fun j hj => ?_⟩ ?_
    · have e3 : (uA S2 38 t (S2.2 3 (4 * t + 0))).2 3 = S.2 3 := hK2
      rw [e3]
      by_cases e : j = t
      · subst e
        refine ⟨?_, ?_⟩
        · show EC (uA S2 38 j _) 38 j = _
          rw [EC_upd, if_pos rfl, hK2]
          rfl
        · rw [EC_upd, if_pos rfl]
      · have q := hE j (by omega)
        refine ⟨?_, ?_⟩
        · show EC (uA S2 38 t _) 38 j = _
          rw [EC_upd, if_neg e]
          exact q.1
        · rw [EC_upd, if_neg e]
          exact q.2
    · rw [nI_add, nI_clamp (by omega), nI_clamp (by omega)]; omega
