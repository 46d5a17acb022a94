/-! ===== dating in the class: the latest years, by a mirror ===== -/
def solM (SB Sme : Ob) (n mm : Nat) (x : Nat → Int) : Prop :=
  dSol n mm (fun t => 2000 - (SB.2 1 t).toInt) (fun t => 2000 - (SB.2 0 t).toInt) (fun i => (Sme.2 1 i).toNatClampNeg) (fun i => (Sme.2 0 i).toNatClampNeg) (fun i => (Sme.2 2 i).toInt) (fun _ => True) x
theorem solM_of {SB Sme : Ob} {n mm : Nat} {x : Nat → Int} (h : solC SB Sme n mm (fun _ => True) x) : solM SB Sme n mm (fun t => 2000 - x t) := by
  refine ⟨fun t ht => ?_, fun i hi _ => ?_⟩
  · have := h.1 t ht
    dsimp only at this ⊢
    omega
  · have := h.2 i hi trivial
    dsimp only at this ⊢
    omega
theorem solC_of {SB Sme : Ob} {n mm : Nat} {x : Nat → Int} (h : solM SB Sme n mm (fun t => 2000 - x t)) : solC SB Sme n mm (fun _ => True) x := by
  refine ⟨fun t ht => ?_, fun i hi _ => ?_⟩
  · have := h.1 t ht
    dsimp only at this ⊢
    omega
  · have := h.2 i hi trivial
    dsimp only at this ⊢
    omega
def FM (S : Ob) (k : Nat) (t : Nat) : Int := 2000 - EC S k t
theorem FM_upd {S : Ob} {k i : Nat} {v : Int32} {t : Nat} : FM (uA S k i v) k t = if t = i then 2000 - v.toInt else FM S k t := by
  unfold FM
  rw [EC_upd]
  split <;> rfl
set_option maxHeartbeats 1000000 in
theorem cs_late {SDt SB Sme : Ob} {Q : Ob → Prop} {n mm : Nat} (h : dH SB Sme n mm) (hex : ∃ x, solC SB Sme n mm (fun _ => True) x)
    (hy : ∀ S' : Ob, S'.1 = SDt.1 → solC SB Sme n mm (fun _ => True) (EC S' 1) → (∀ z, solC SB Sme n mm (fun _ => True) z → ∀ t, t < n → z t ≤ EC S' 1 t) → Q S') : w_X0_reckonLate SDt SB Sme Q := by
  obtain ⟨hn4, hn10, hm3, hm10, hT, hM⟩ := h
  have ho : ∀ i, i < mm → (Sme.2 1 i).toNatClampNeg < n ∧ (Sme.2 0 i).toNatClampNeg < n := by
    intro i hi
    obtain ⟨⟨a, ha, ea⟩, ⟨b, hb, eb⟩, -⟩ := hM i hi
    rw [ea, eb, nI_clamp (by omega), nI_clamp (by omega)]
    exact ⟨hb, ha⟩
  have hf0 : ∀ t, t < n → 0 ≤ (fun t => 2000 - (SB.2 1 t).toInt) t := fun t ht => by have := hT t ht; dsimp only; omega
  obtain ⟨x0, hx0⟩ := hex
  obtain ⟨d, hd, hl⟩ := dLeast (n := n) (mm := mm) (fr := fun t => 2000 - (SB.2 1 t).toInt) (tv := fun t => 2000 - (SB.2 0 t).toInt) (o := fun i => (Sme.2 1 i).toNatClampNeg) (y := fun i => (Sme.2 0 i).toNatClampNeg) (w := fun i => (Sme.2 2 i).toInt) (kp := fun _ => True) hf0 ⟨_, solM_of hx0⟩
  have hdb : ∀ t, t < n → 2000 - (SB.2 1 t).toInt ≤ d t ∧ d t ≤ 2000 - (SB.2 0 t).toInt := hd.1
  unfold w_X0_reckonLate
  rintro S1 hS1
  have hE1 : ∀ t, t < n → FM S1 1 t = 2000 - (SB.2 1 t).toInt := by
    intro t ht
    unfold FM EC
    rw [hS1, uR_2, if_pos rfl, pk_cpy_in (Nat.zero_le t) (by omega)]
    simp
  have fin : ∀ S : Ob, S.1 = SDt.1 → solM SB Sme n mm (FM S 1) → (∀ t, t < n → FM S 1 t ≤ d t) → Q S := by
    intro S hS hs hle
    refine hy S hS (solC_of hs) (fun z hz t ht => ?_)
    have h1 := hl _ (solM_of hz) t ht
    have h2 := hle t ht
    try dsimp only at h1
    unfold FM at h2
    omega
  refine wl3_i (fun x5 x4 S => ∃ k, k ≤ n + 1 ∧ x5 = nI k ∧ S.1 = SDt.1 ∧ (∀ t, t < n → 2000 - (SB.2 1 t).toInt ≤ FM S 1 t ∧ FM S 1 t ≤ d t) ∧ ((x4 = 0 ∧ solM SB Sme n mm (FM S 1)) ∨ (x4 = 1 ∧ (1 ≤ k → k < n) ∧ min n (k + 1) ≤ dCnt (FM S 1) d n)))
    (fun x5 _ _ => n + 2 - x5.toNatClampNeg) ?_ 0 1 S1 ?_
  · rintro L x5 x4 S ⟨k, hk, rfl, hS, hB, hX⟩ ih
    have hJ1 : x4 = 0 → Q S := by
      intro e0
      rcases hX with ⟨-, hs⟩ | ⟨e1, -⟩
      · exact fin S hS hs (fun t ht => (hB t ht).2)
      · rw [e0] at e1; exact absurd e1 (by decide)
    refine ⟨fun c1 => ?_, fun c1 => ⟨hJ1, fun c2 => ?_⟩⟩
    · rw [hn4] at c1
      have hlt := (nI_ltI (by omega) (by omega)).mp c1
      rcases hX with ⟨e0, -⟩ | ⟨e1, hX, -⟩
      · exact hJ1 e0
      · have := hX (by omega); omega
    · have hkn : k ≤ n := by
        rw [hn4] at c1
        rcases Nat.lt_or_ge n k with q | q
        · exact absurd (nI_lt q (by omega)) c1
        · exact q
      obtain ⟨-, -, hmin⟩ := hX.resolve_left (fun q => c2 q.1)
      refine wl3_i (fun x6 x4 S' => ∃ i, i ≤ mm ∧ x6 = nI i ∧ S'.1 = SDt.1 ∧ (∀ t, t < n → FM S 1 t ≤ FM S' 1 t ∧ FM S' 1 t ≤ d t) ∧ (∀ j, j < i → FM S 1 (Sme.2 1 j).toNatClampNeg + (Sme.2 2 j).toInt ≤ FM S' 1 (Sme.2 0 j).toNatClampNeg) ∧ ((x4 = 0 ∧ ∀ t, t < n → FM S' 1 t = FM S 1 t) ∨ (x4 = 1 ∧ ∃ t, t < n ∧ FM S 1 t < FM S' 1 t)))
        (fun x6 _ _ => mm - x6.toNatClampNeg) ?_ 0 0 S ⟨0, Nat.zero_le _, rfl, hS, fun t ht => ⟨Int.le_refl _, (hB t ht).2⟩, fun j hj => absurd hj (Nat.not_lt_zero j), Or.inl ⟨rfl, fun _ _ => rfl⟩⟩
      rintro L2 x6 x4' S' ⟨i, hi, rfl, hS', hB', hC, hX'⟩ ih2
      refine ⟨fun c3 => ?_, fun c3 => ?_⟩
      · rw [hm3] at c3
        have him : i = mm := by have := (nI_leI (by omega) (by omega)).mp c3; omega
        subst him
        rintro v13 rfl
        refine ih _ _ _ ⟨k + 1, by omega, by rw [nI_1], hS', fun t ht => ⟨Int.le_trans (hB t ht).1 (hB' t ht).1, (hB' t ht).2⟩, ?_⟩ ?_
        · rcases hX' with ⟨e0, hE⟩ | ⟨e1, t1, ht1, hlt1⟩
          · refine Or.inl ⟨e0, fun t ht => ?_, fun j hj _ => ?_⟩
            · have q1 := hB t ht
              have q2 := hB' t ht
              have q3 := hdb t ht
              dsimp only
              omega
            · have := hC j hj
              have h2 := hE _ (ho j hj).1
              show FM S' 1 (Sme.2 1 j).toNatClampNeg + (Sme.2 2 j).toInt ≤ FM S' 1 (Sme.2 0 j).toNatClampNeg
              omega
          · refine Or.inr ⟨e1, ?_⟩
            obtain ⟨j, hj, -, h1, h2, h3⟩ := dTight (e := FM S 1) hf0 ho hd hl (fun t ht => hB t ht) ⟨t1, ht1, by have := (hB' t1 ht1).2; omega⟩
            try dsimp only at h1
            try dsimp only at h2
            try dsimp only at h3
            have hgrow : dCnt (FM S 1) d n < dCnt (FM S' 1) d n := by
              refine sm_lt (fun t ht => ?_) ⟨(Sme.2 0 j).toNatClampNeg, (ho j hj).2, ?_⟩
              · have a1 := hB' t ht
                show (if FM S 1 t = d t then 1 else 0) ≤ (if FM S' 1 t = d t then 1 else 0)
                by_cases q : FM S 1 t = d t
                · rw [if_pos q, if_pos (by omega)]; exact Nat.le_refl _
                · rw [if_neg q]; exact Nat.zero_le _
              · have a1 := hC j hj
                have a2 := (hB' _ (ho j hj).2).2
                show (if FM S 1 _ = d _ then 1 else 0) < (if FM S' 1 _ = d _ then 1 else 0)
                rw [if_neg (by omega), if_pos (by omega)]
                exact Nat.zero_lt_one
            have hcap : dCnt (FM S' 1) d n ≤ n := sm_one (fun t => by show (if FM S' 1 t = d t then 1 else 0) ≤ 1; split <;> omega) n
            omega
        · rw [nI_1, nI_clamp (by omega), nI_clamp (by omega)]; omega
      · have hlt : i < mm := by
          rw [hm3] at c3
          rcases Nat.lt_or_ge i mm with q | q
          · exact q
          · exact absurd (nI_le q (by omega)) c3
        obtain ⟨⟨a, ha, ea⟩, ⟨b, hb, eb⟩, hw0, hw5⟩ := hM i hlt
        have hi10 : vp_in (nI i) 10 := vp_in_nI (by omega) (by decide)
        rw [nI_clamp (by omega)]
        refine ⟨hi10, ?_⟩
        rintro v12 rfl
        refine ⟨hi10, by rw [eb]; exact vp_in_nI (by omega) (by decide), hi10, ?_⟩
        rintro v16 ev
        rw [eb, nI_clamp (by omega)] at ev
        have hBb := hB' b hb
        have hBb0 := hB b hb
        have hdb' := hdb b hb
        have hTb := hT b hb
        have hv : 2000 - v16.toInt = FM S' 1 b + (Sme.2 2 i).toInt := by
          rw [ev]
          unfold FM EC at hBb ⊢
          unfold FM EC at hBb0
          rw [fb_subI (by omega) (by omega)]
          omega
        rw [ea, nI_clamp (by omega)]
        have ha10 : vp_in (nI a) 10 := vp_in_nI (by omega) (by decide)
        have next : ∀ (q4 : Int32) (S2 : Ob), S2.1 = SDt.1 → (∀ t, t < n → FM S 1 t ≤ FM S2 1 t ∧ FM S2 1 t ≤ d t) → (∀ j, j < i + 1 → FM S 1 (Sme.2 1 j).toNatClampNeg + (Sme.2 2 j).toInt ≤ FM S2 1 (Sme.2 0 j).toNatClampNeg) → ((q4 = 0 ∧ ∀ t, t < n → FM S2 1 t = FM S 1 t) ∨ (q4 = 1 ∧ ∃ t, t < n ∧ FM S 1 t < FM S2 1 t)) → L2 (nI i + 1) q4 S2 := by
          intro q4 S2 g1 g2 g4 g5
          refine ih2 _ _ _ ⟨i + 1, by omega, by rw [nI_1], g1, g2, g4, g5⟩ ?_
          rw [nI_1, nI_clamp (by omega), nI_clamp (by omega)]; omega
        refine ⟨ha10, fun c5 => ?_, fun c5 => ⟨ha10, ?_⟩⟩
        · rintro v18 rfl
          have c5 : EC S' 1 a ≤ v16.toInt := Int32.le_iff_toInt_le.mp c5
          refine next _ _ hS' hB' (fun j hj => ?_) hX'
          by_cases e : j = i
          · subst e
            rw [ea, eb, nI_clamp (by omega), nI_clamp (by omega)]
            have : FM S' 1 a = 2000 - EC S' 1 a := rfl
            omega
          · exact hC j (by omega)
        · rintro S20 rfl v21 rfl
          have c5 : ¬ EC S' 1 a ≤ v16.toInt := fun q => c5 (Int32.le_iff_toInt_le.mpr q)
          have hFa : FM S' 1 a = 2000 - EC S' 1 a := rfl
          have hup : ∀ t, FM (uA S' 1 a v16) 1 t = if t = a then 2000 - v16.toInt else FM S' 1 t := fun t => FM_upd
          have hge : ∀ t, FM S' 1 t ≤ FM (uA S' 1 a v16) 1 t := by
            intro t
            rw [hup]
            split
            · next q => subst q; omega
            · exact Int.le_refl _
          have hda : FM S' 1 b + (Sme.2 2 i).toInt ≤ d a := by
            have z1 := hd.2 i hlt trivial
            dsimp only at z1
            rw [ea, eb, nI_clamp (by omega), nI_clamp (by omega)] at z1
            omega
          refine next 1 _ hS' (fun t ht => ?_) (fun j hj => ?_) (Or.inr ⟨rfl, a, ha, ?_⟩)
          · have q1 := hB' t ht
            have q2 := hge t
            refine ⟨by omega, ?_⟩
            rw [hup]
            split
            · next q => subst q; omega
            · exact q1.2
          · by_cases e : j = i
            · subst e
              rw [ea, eb, nI_clamp (by omega), nI_clamp (by omega), hup, if_pos rfl]
              omega
            · exact Int.le_trans (hC j (by omega)) (hge _)
          · have q1 := (hB' a ha).1
            rw [hup, if_pos rfl]
            omega
  · refine ⟨0, by omega, rfl, by rw [hS1]; rfl, fun t ht => by rw [hE1 t ht]; exact ⟨Int.le_refl _, (hdb t ht).1⟩, Or.inr ⟨rfl, by omega, ?_⟩⟩
    by_cases hn0 : n = 0
    · subst hn0; exact Nat.zero_le _
    · have hone : 1 ≤ dCnt (FM S1 1) d n := by
        by_cases hall : ∃ t, t < n ∧ FM S1 1 t < d t
        · obtain ⟨j, hj, -, h1, -, -⟩ := dTight (e := FM S1 1) hf0 ho hd hl (fun t ht => by rw [hE1 t ht]; exact ⟨Int.le_refl _, (hdb t ht).1⟩) hall
          exact sm_pos (ho j hj).1 (by show 1 ≤ (if _ then 1 else 0); rw [if_pos h1]; exact Nat.le_refl 1)
        · refine sm_pos (t := 0) (by omega) ?_
          have q1 := (hdb 0 (by omega)).1
          have q2 : ¬ FM S1 1 0 < d 0 := fun q => hall ⟨0, by omega, q⟩
          have q3 := hE1 0 (by omega)
          show 1 ≤ (if FM S1 1 0 = d 0 then 1 else 0)
          rw [if_pos (by omega)]
          exact Nat.le_refl 1
      omega
