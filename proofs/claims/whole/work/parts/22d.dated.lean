/-! ===== dated: both answer alike ===== -/
theorem s_has {SB : Ob} {t : Int32} {Q : Int32 → Prop} : w_X6_has SB t Q = Q (bI (decide (0 ≤ t) && decide (t < SB.1 4))) := by
  unfold w_X6_has
  by_cases h1 : t < 0
  · have : ¬ 0 ≤ t := Int32.not_le.mpr h1
    simp [h1, this, bI]
  · have h1' : 0 ≤ t := Int32.not_lt.mp h1
    by_cases h2 : SB.1 4 ≤ t
    · have h3 : ¬ t < SB.1 4 := Int32.not_lt.mpr h2
      simp [h1, h1', h2, h3, bI]
    · simp [h1, h1', h2, Int32.not_le.mp h2, bI]
/-- a number of a tale, or none: as both ask it -/
theorem is_tale (t : Int32) {n : Nat} (hn : n ≤ 10) : (∃ j, j < n ∧ t = nI j ∧ (decide (0 ≤ t) && decide (t < nI n)) = true ∧ (decide (0 ≤ t) && decide (t ≤ nI n - 1)) = true) ∨ ((decide (0 ≤ t) && decide (t < nI n)) = false ∧ (decide (0 ≤ t) && decide (t ≤ nI n - 1)) = false) := by
  have en : (nI n - 1).toInt = (n : Int) - 1 := by
    have := nI_toInt (n := n) (by omega)
    have h1 : (1 : Int32).toInt = 1 := by decide
    rw [fb_subI (by omega) (by omega)]
    omega
  have en0 := nI_toInt (n := n) (by omega)
  have h0 : (0 : Int32).toInt = 0 := by decide
  by_cases c0 : 0 ≤ t
  · have c0' := Int32.le_iff_toInt_le.mp c0
    by_cases c1 : t.toInt < n
    · have hl : t < nI n := Int32.lt_iff_toInt_lt.mpr (by omega)
      have hl2 : t ≤ nI n - 1 := Int32.le_iff_toInt_le.mpr (by omega)
      refine Or.inl ⟨t.toInt.toNat, by omega, ?_, by simp [c0, hl], by simp [c0, hl2]⟩
      apply Int32.toInt_inj.mp
      rw [nI_toInt (by omega)]
      omega
    · have hl : ¬ t < nI n := fun q => by have := Int32.lt_iff_toInt_lt.mp q; omega
      have hl2 : ¬ t ≤ nI n - 1 := fun q => by have := Int32.le_iff_toInt_le.mp q; omega
      exact Or.inr ⟨by simp [hl], by simp [hl2]⟩
  · exact Or.inr ⟨by simp [c0], by simp [c0]⟩
theorem eq_dated {SO SDt SB Sme S : Ob} {t x : Int32} {R : Int32 → Ob → Int32 → Ob → Prop} {n mm : Nat} (e : dEq SB Sme (S.2 3) n mm) (h : dK (S.2 3) n mm)
    (hR : ∀ r S' S'', sameB [38, 39] S S'' → R r S' r S'') : w_X8_dated SO SDt SB Sme t x (fun r S' => wM_dated S t x (fun r' S'' => R r S' r' S'')) := by
  have hH := dH_of e h
  have hm : mm ≤ 10 := h.2.2.2.1
  have hn : n ≤ 10 := h.2.1
  have h4 : SB.1 4 = nI n := hH.1
  have h133 : S.2 3 133 = nI n := h.1
  have h3 : Sme.1 3 = nI mm := hH.2.2.1
  have hbad : ∀ S', (decide (0 ≤ t) && decide (t ≤ nI n - 1)) = false ∨ (decide (0 ≤ x) && decide (x ≤ 1)) = false → wM_dated S t x (fun r' S'' => R (-1) S' r' S'') := by
    intro S' hb
    unfold wM_dated
    rw [sM_isTale, h133, bI_0]
    refine ⟨fun _ => hR _ _ _ sameB.rf, fun c => ?_⟩
    rw [sM_lies, bI_0]
    refine ⟨fun _ => hR _ _ _ sameB.rf, fun c2 => ?_⟩
    exact (hb.elim c c2).elim
  unfold w_X8_dated
  rw [s_has, h4, bI_0]
  rcases is_tale t hn with ⟨j, hj, rfl, e1, e2⟩ | ⟨e1, e2⟩
  · rw [e1]
    refine ⟨fun c => absurd c (by decide), fun _ => ⟨fun c => hbad _ (Or.inr (by simp [Int32.not_le.mpr c])), fun c => ⟨fun c2 => ?_, fun c2 => hbad _ (Or.inr (by simp [c2]))⟩⟩⟩
    rw [h3, shl_1 (by omega)]
    rintro v3 rfl
    have hk := kpA hm
    have hx : (decide (0 ≤ x) && decide (x ≤ 1)) = true := by simp [Int32.not_lt.mp c, c2]
    have hj10 : vp_in (nI j) 10 := vp_in_nI (by omega) (by decide)
    have hkm : ∀ i, i < mm → (kpM 0 i ↔ True) := by
      intro i hi
      have := kpM_o (o := 0) hm Nat.one_le_two_pow i hi
      refine ⟨fun _ => trivial, fun _ => this.mpr ?_⟩
      show hb 0 i = false
      rw [hb_tb]
      exact Nat.zero_testBit i
    have hcg : ∀ z, solK (S.2 3) n mm (kpM 0) z ↔ solK (S.2 3) n mm (fun _ => True) z := fun z => ⟨fun q => dSol_cg (fun _ _ => ⟨rfl, rfl⟩) (fun _ _ => ⟨rfl, rfl, rfl⟩) (fun i hi => (hkm i hi).mpr) q, fun q => dSol_cg (fun _ _ => ⟨rfl, rfl⟩) (fun _ _ => ⟨rfl, rfl, rfl⟩) (fun i hi => (hkm i hi).mp) q⟩
    have hCK : ∀ z, solC SB Sme n mm (kpC (nI (2 ^ mm) - 1)) z ↔ solK (S.2 3) n mm (kpM 0) z := fun z => (solKC e hk).trans (hcg z).symm
    have hC1 : ∀ z, solC SB Sme n mm (fun _ => True) z ↔ solK (S.2 3) n mm (kpM 0) z := fun z => (solKC e (fun _ _ => Iff.rfl)).trans (hcg z).symm
    have mod : ∀ (r : Int32) (S' : Ob), ((∃ z, solK (S.2 3) n mm (kpM 0) z) → ∀ S6 : Ob, solK (S.2 3) n mm (kpM 0) (EC S6 38) → solK (S.2 3) n mm (kpM 0) (EC S6 39) → (∀ z, solK (S.2 3) n mm (kpM 0) z → ∀ t, t < n → EC S6 38 t ≤ z t ∧ z t ≤ EC S6 39 t) → r = if x = 0 then S6.2 38 j else S6.2 39 j) → ((¬ ∃ z, solK (S.2 3) n mm (kpM 0) z) → r = -1) → wM_dated S (nI j) x (fun r' S'' => R r S' r' S'') := by
      intro r S' g1 g2
      unfold wM_dated
      rw [sM_isTale, h133, bI_0, e2]
      refine ⟨fun q => absurd q (by decide), fun _ => ?_⟩
      rw [sM_lies, bI_0, hx]
      refine ⟨fun q => absurd q (by decide), fun _ => ?_⟩
      refine ms_agree h (fun S6 a1 a2 a3 a4 => ⟨fun q => absurd q (by decide), fun _ => ⟨fun c3 => ⟨hj10, ?_⟩, fun c3 => ⟨hj10, ?_⟩⟩⟩) (fun a0 S6 a1 => ⟨fun _ => ?_, fun q => absurd rfl q⟩)
      · have := g1 ⟨_, a2⟩ S6 a2 a3 a4
        rw [if_neg c3] at this
        rw [nI_clamp (by omega), this]
        exact hR _ _ _ a1
      · have := g1 ⟨_, a2⟩ S6 a2 a3 a4
        rw [if_pos c3] at this
        rw [nI_clamp (by omega), this]
        exact hR _ _ _ a1
      · rw [g2 a0]
        exact hR _ _ _ a1
    refine cs_agree hH (fun S5 s1 s2 s3 => ⟨fun _ => ⟨fun c3 => ?_, fun c3 => ⟨hj10, ?_⟩⟩, fun q => absurd q (by decide)⟩) (fun s0 S5 s1 => ⟨fun q => absurd rfl q, fun _ => ?_⟩)
    · refine cs_late hH ⟨_, (hC1 _).mpr ((hCK _).mp s2)⟩ (fun S7 u1 u2 u3 => ⟨hj10, ?_⟩)
      rw [nI_clamp (by omega)]
      refine mod _ _ (fun _ S6 a2 a3 a4 => ?_) (fun a0 => absurd ⟨_, (hCK _).mp s2⟩ a0)
      rw [if_neg c3]
      apply Int32.toInt_inj.mp
      have b1 := u3 _ ((hC1 _).mpr a3) j hj
      have b2 := (a4 _ ((hC1 _).mp u2) j hj).2
      show EC S7 1 j = EC S6 39 j
      omega
    · rw [nI_clamp (by omega)]
      refine mod _ _ (fun _ S6 a2 a3 a4 => ?_) (fun a0 => absurd ⟨_, (hCK _).mp s2⟩ a0)
      rw [if_pos c3]
      apply Int32.toInt_inj.mp
      have b1 := s3 _ ((hCK _).mpr a2) j hj
      have b2 := (a4 _ ((hCK _).mp s2) j hj).1
      show EC S5 0 j = EC S6 38 j
      omega
    · exact mod _ _ (fun a0 => absurd (by obtain ⟨z, hz⟩ := a0; exact ⟨z, (hCK z).mpr hz⟩) s0) (fun _ => rfl)
  · rw [e1]
    exact ⟨fun _ => hbad _ (Or.inl e2), fun c => absurd rfl c⟩
theorem eq_doubt {SO SDt SB Sme S : Ob} {x : Int32} {R : Int32 → Ob → Int32 → Ob → Prop} {n mm : Nat} (e : dEq SB Sme (S.2 3) n mm) (h : dK (S.2 3) n mm)
    (hR : ∀ r S' S'', sameB [38, 39] S S'' → R r S' r S'') : w_X8_doubt SO SDt SB Sme x (fun r S' => wM_doubt S x (fun r' S'' => R r S' r' S'')) :=
  cs_doubt e h (fun S' => ms_doubt h (fun S'' hs => hR _ _ _ hs))
