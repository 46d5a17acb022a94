/-! ===== the fewest mentions left out ===== -/
theorem dSol_cg {n mm : Nat} {fr tv fr' tv' : Nat → Int} {o y o' y' : Nat → Nat} {w w' : Nat → Int} {kp kp' : Nat → Prop} {x : Nat → Int} (h1 : ∀ t, t < n → fr t = fr' t ∧ tv t = tv' t) (h2 : ∀ i, i < mm → o i = o' i ∧ y i = y' i ∧ w i = w' i) (h3 : ∀ i, i < mm → (kp' i → kp i)) (h : dSol n mm fr tv o y w kp x) : dSol n mm fr' tv' o' y' w' kp' x := by
  refine ⟨fun t ht => ?_, fun i hi hk => ?_⟩
  · rw [← (h1 t ht).1, ← (h1 t ht).2]; exact h.1 t ht
  · rw [← (h2 i hi).1, ← (h2 i hi).2.1, ← (h2 i hi).2.2]; exact h.2 i hi (h3 i hi hk)
def dEq (SB Sme : Ob) (K : Nat → Int32) (n mm : Nat) : Prop := (∀ t, t < n → SB.2 0 t = K (4 * t) ∧ SB.2 1 t = K (4 * t + 1)) ∧ (∀ i, i < mm → Sme.2 0 i = K (73 + 3 * i) ∧ Sme.2 1 i = K (73 + 3 * i + 1) ∧ Sme.2 2 i = K (73 + 3 * i + 2)) ∧ SB.1 4 = K 133 ∧ Sme.1 3 = K 135
theorem dH_of {SB Sme : Ob} {K : Nat → Int32} {n mm : Nat} (e : dEq SB Sme K n mm) (h : dK K n mm) : dH SB Sme n mm := by
  obtain ⟨e1, e2, e3, e4⟩ := e
  obtain ⟨h1, h2, h3, h4, h5, h6⟩ := h
  refine ⟨e3.trans h1, h2, e4.trans h3, h4, fun t ht => ?_, fun i hi => ?_⟩
  · rw [(e1 t ht).1, (e1 t ht).2]; exact h5 t ht
  · rw [(e2 i hi).1, (e2 i hi).2.1, (e2 i hi).2.2]; exact h6 i hi
theorem solKC {SB Sme : Ob} {K : Nat → Int32} {n mm : Nat} (e : dEq SB Sme K n mm) {kp kp' : Nat → Prop} (hk : ∀ i, i < mm → (kp i ↔ kp' i)) {x : Nat → Int} : solC SB Sme n mm kp x ↔ solK K n mm kp' x := by
  obtain ⟨e1, e2, -, -⟩ := e
  constructor
  · exact fun h => dSol_cg (fun t ht => by rw [(e1 t ht).1, (e1 t ht).2]; exact ⟨rfl, rfl⟩) (fun i hi => by rw [(e2 i hi).1, (e2 i hi).2.1, (e2 i hi).2.2]; exact ⟨rfl, rfl, rfl⟩) (fun i hi => (hk i hi).mpr) h
  · exact fun h => dSol_cg (fun t ht => by rw [(e1 t ht).1, (e1 t ht).2]; exact ⟨rfl, rfl⟩) (fun i hi => by rw [(e2 i hi).1, (e2 i hi).2.1, (e2 i hi).2.2]; exact ⟨rfl, rfl, rfl⟩) (fun i hi => (hk i hi).mp) h
theorem out_bits : ∀ mm, mm < 11 → ∀ o, o < 2 ^ mm → (nI (2 ^ mm) - 1) &&& (nI o ^^^ (-1)) = nI (2 ^ mm - 1 - o) := by decide +kernel
theorem out_hb : ∀ mm, mm < 11 → ∀ o, o < 2 ^ mm → ∀ i, i < mm → hb (2 ^ mm - 1 - o) i = !hb o i := by decide +kernel
theorem all_hb : ∀ mm, mm < 11 → ∀ i, i < mm → hb (2 ^ mm - 1) i = true := by decide +kernel
theorem p2_10 {mm : Nat} (h : mm ≤ 10) : 2 ^ mm ≤ 1024 := Nat.pow_le_pow_right (by decide) h
def kpO (o : Nat) (i : Nat) : Prop := hb o i = false
theorem kpC_o {mm o : Nat} (hm : mm ≤ 10) (ho : o < 2 ^ mm) : ∀ i, i < mm → (kpC ((nI (2 ^ mm) - 1) &&& (nI o ^^^ (-1))) i ↔ kpO o i) := by
  intro i hi
  have h1 := p2_10 hm
  rw [out_bits mm (by omega) o ho]
  unfold kpC kpO
  rw [hb_0 (by omega) (by omega), out_hb mm (by omega) o ho i hi]
  cases hb o i <;> simp
theorem kpM_o {mm o : Nat} (hm : mm ≤ 10) (ho : o < 2 ^ mm) : ∀ i, i < mm → (kpM (nI o) i ↔ kpO o i) := by
  intro i hi
  have h1 := p2_10 hm
  unfold kpM kpO
  rw [hb_1 (by omega) (by omega)]
  cases hb o i <;> simp
theorem kpA {mm : Nat} (hm : mm ≤ 10) : ∀ i, i < mm → (kpC (nI (2 ^ mm) - 1) i ↔ True) := by
  intro i hi
  have h1 := p2_10 hm
  have h2 : 1 ≤ 2 ^ mm := Nat.one_le_two_pow
  have e : nI (2 ^ mm) - 1 = nI (2 ^ mm - 1) := pk_sub (b := 1) h2
  unfold kpC
  rw [e, hb_0 (by omega) (by omega), all_hb mm (by omega) i hi]
  simp
def fea (K : Nat → Int32) (n mm o : Nat) : Prop := ∃ x, solK K n mm (kpO o) x
/-- fewest, which, in how many ways, among the sets below o -/
noncomputable def bsO (K : Nat → Int32) (n mm : Nat) : Nat → Nat × Nat × Nat
  | 0 => (11, 0, 0)
  | o + 1 => @ite _ (fea K n mm o) (Classical.propDecidable _) (if pop o < (bsO K n mm o).1 then (pop o, o, 1) else if pop o = (bsO K n mm o).1 then ((bsO K n mm o).1, (bsO K n mm o).2.1, (bsO K n mm o).2.2 + 1) else bsO K n mm o) (bsO K n mm o)
theorem bs_y {K : Nat → Int32} {n mm o : Nat} (h : fea K n mm o) : bsO K n mm (o + 1) = if pop o < (bsO K n mm o).1 then (pop o, o, 1) else if pop o = (bsO K n mm o).1 then ((bsO K n mm o).1, (bsO K n mm o).2.1, (bsO K n mm o).2.2 + 1) else bsO K n mm o := by
  rw [bsO, if_pos h]
theorem bs_n {K : Nat → Int32} {n mm o : Nat} (h : ¬ fea K n mm o) : bsO K n mm (o + 1) = bsO K n mm o := by
  rw [bsO, if_neg h]
theorem bs_inv (K : Nat → Int32) (n mm : Nat) : ∀ o, (bsO K n mm o).1 ≤ 11 ∧ (bsO K n mm o).2.1 ≤ o ∧ (bsO K n mm o).2.2 ≤ o ∧ ((bsO K n mm o).1 ≤ 10 → pop (bsO K n mm o).2.1 = (bsO K n mm o).1 ∧ (bsO K n mm o).2.1 < o)
  | 0 => ⟨Nat.le_refl _, Nat.le_refl _, Nat.le_refl _, fun h => absurd (show 11 ≤ 10 from h) (by decide)⟩
  | o + 1 => by
    obtain ⟨h1, h2, h3, h4⟩ := bs_inv K n mm o
    have hp := pop_le o
    by_cases hf : fea K n mm o
    · rw [bs_y hf]
      split
      · exact ⟨by omega, Nat.le_succ o, Nat.succ_le_succ (Nat.zero_le o), fun _ => ⟨rfl, Nat.lt_succ_self o⟩⟩
      · split
        · exact ⟨h1, by dsimp only; omega, by dsimp only; omega, fun h => ⟨(h4 h).1, by have := (h4 h).2; dsimp only; omega⟩⟩
        · exact ⟨h1, by omega, by omega, fun h => ⟨(h4 h).1, by have := (h4 h).2; omega⟩⟩
    · rw [bs_n hf]
      exact ⟨h1, by omega, by omega, fun h => ⟨(h4 h).1, by have := (h4 h).2; omega⟩⟩
theorem fea_all {K : Nat → Int32} {n mm : Nat} (h : dK K n mm) : fea K n mm (2 ^ mm - 1) := by
  obtain ⟨h1, h2, h3, h4, h5, h6⟩ := h
  refine ⟨fun t => (K (4 * t)).toInt, fun t ht => ?_, fun i hi hk => ?_⟩
  · have := h5 t ht; dsimp only; omega
  · have := all_hb mm (by omega) i hi
    rw [show hb (2 ^ mm - 1) i = false from hk] at this
    cases this
theorem bs_end {K : Nat → Int32} {n mm : Nat} (h : dK K n mm) : (bsO K n mm (2 ^ mm)).1 ≤ 10 := by
  have h1 : 1 ≤ 2 ^ mm := Nat.one_le_two_pow
  have e : 2 ^ mm = (2 ^ mm - 1) + 1 := by omega
  rw [e, bs_y (fea_all h)]
  have hp := pop_le (2 ^ mm - 1)
  have hi := (bs_inv K n mm (2 ^ mm - 1)).1
  split
  · exact hp
  · split
    · show (bsO K n mm (2 ^ mm - 1)).1 ≤ 10; omega
    · omega
set_option maxHeartbeats 1000000 in
theorem cs_leave {SDt SB Sme : Ob} {K : Nat → Int32} {Q : Ob → Prop} {n mm : Nat} (e : dEq SB Sme K n mm) (h : dK K n mm)
    (hq : ∀ S' : Ob, S'.1 2 = nI (bsO K n mm (2 ^ mm)).2.1 → S'.1 3 = nI (bsO K n mm (2 ^ mm)).2.2 → Q S') : w_X0_leaveOut SDt SB Sme Q := by
  have hH := dH_of e h
  have hm : mm ≤ 10 := h.2.2.2.1
  have h1 := p2_10 hm
  have h2 : 1 ≤ 2 ^ mm := Nat.one_le_two_pow
  have h3 : Sme.1 3 = nI mm := hH.2.2.1
  unfold w_X0_leaveOut
  rw [h3, shl_1 (by omega)]
  rintro v1 rfl
  have ev : nI (2 ^ mm) - 1 = nI (2 ^ mm - 1) := pk_sub (b := 1) h2
  refine wl3_i (fun x4 x3 S => ∃ o, o ≤ 2 ^ mm ∧ x4 = nI o ∧ x3 = nI (bsO K n mm o).1 ∧ ((bsO K n mm o).1 ≤ 10 → S.1 2 = nI (bsO K n mm o).2.1 ∧ S.1 3 = nI (bsO K n mm o).2.2)) (fun x4 _ _ => 2 ^ mm - x4.toNatClampNeg) ?_ 0 11 SDt ⟨0, Nat.zero_le _, rfl, rfl, fun q => absurd (show 11 ≤ 10 from q) (by decide)⟩
  rintro L x4 x3 S ⟨o, ho, rfl, rfl, hS⟩ ih
  obtain ⟨b1, b2, b3, b4⟩ := bs_inv K n mm o
  refine ⟨fun c => ?_, fun c => ?_⟩
  · rw [ev] at c
    have : 2 ^ mm - 1 < o := (nI_ltI (by omega) (by omega)).mp c
    have eo : o = 2 ^ mm := by omega
    subst eo
    exact hq S (hS (bs_end h)).1 (hS (bs_end h)).2
  · have hlt : o < 2 ^ mm := by
      rw [ev] at c
      rcases Nat.lt_or_ge o (2 ^ mm) with q | q
      · exact q
      · exact absurd (nI_lt (a := 2 ^ mm - 1) (b := o) (by omega) (by omega)) c
    have hp := pop_le o
    have next : ∀ (x3' : Int32) (S2 : Ob), x3' = nI (bsO K n mm (o + 1)).1 → ((bsO K n mm (o + 1)).1 ≤ 10 → S2.1 2 = nI (bsO K n mm (o + 1)).2.1 ∧ S2.1 3 = nI (bsO K n mm (o + 1)).2.2) → L (nI o + 1) x3' S2 := by
      intro x3' S2 g1 g2
      refine ih _ _ _ ⟨o + 1, by omega, by rw [nI_1], g1, g2⟩ ?_
      rw [nI_1, nI_clamp (by omega), nI_clamp (by omega)]; omega
    refine s_bitCount (by omega) ⟨fun c2 => ?_, fun c2 => ?_⟩
    · rintro v8 rfl
      have c2 : (bsO K n mm o).1 < pop o := (nI_ltI (by omega) (by omega)).mp c2
      have eb : bsO K n mm (o + 1) = bsO K n mm o := by
        by_cases hf : fea K n mm o
        · rw [bs_y hf, if_neg (by omega), if_neg (by omega)]
        · exact bs_n hf
      exact next _ _ (by rw [eb]) (by rw [eb]; exact hS)
    · have c2 : ¬ (bsO K n mm o).1 < pop o := fun q => c2 (nI_lt q (by omega))
      have hk := kpC_o hm hlt
      refine cs_agree hH (fun S' hs hsol _ => ⟨fun _ => ⟨fun c3 => ?_, fun c3 => ?_⟩, fun c3 => absurd c3 (by decide)⟩) (fun hno S' hs => ⟨fun c3 => absurd rfl c3, fun _ => ?_⟩)
      · rintro S12 rfl v13 rfl
        have hf : fea K n mm o := ⟨_, (solKC e hk).mp hsol⟩
        have c3 : (bsO K n mm o).1 ≤ pop o := (nI_leI (by omega) (by omega)).mp c3
        have ep : pop o = (bsO K n mm o).1 := by omega
        refine next _ _ (by rw [bs_y hf, if_neg (by omega), if_pos ep]) (fun q => ?_)
        rw [bs_y hf, if_neg (by omega), if_pos ep] at q ⊢
        have q2 := hS q
        refine ⟨?_, ?_⟩
        · rw [uS_1, if_neg (by decide), hs]; exact q2.1
        · rw [uS_1, if_pos rfl, hs, q2.2, nI_1]
      · rintro S14 rfl S15 rfl v16 rfl
        have hf : fea K n mm o := ⟨_, (solKC e hk).mp hsol⟩
        have c3 : ¬ (bsO K n mm o).1 ≤ pop o := fun q => c3 (nI_le q (by omega))
        refine next _ _ (by rw [bs_y hf, if_pos (by omega)]) (fun _ => ?_)
        rw [bs_y hf, if_pos (by omega)]
        exact ⟨rfl, rfl⟩
      · rintro v18 rfl
        have hf : ¬ fea K n mm o := fun ⟨x, hx⟩ => hno ⟨x, (solKC e hk).mpr hx⟩
        rw [bs_n hf] at next
        exact next _ _ rfl (by rw [hs]; exact hS)
