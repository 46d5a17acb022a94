/-! ===== dating in the class: agree ===== -/
def dH (SB Sme : Ob) (n mm : Nat) : Prop := SB.1 4 = nI n ∧ n ≤ 10 ∧ Sme.1 3 = nI mm ∧ mm ≤ 10 ∧ (∀ t, t < n → 0 ≤ (SB.2 0 t).toInt ∧ (SB.2 0 t).toInt ≤ (SB.2 1 t).toInt ∧ (SB.2 1 t).toInt ≤ 2000) ∧ ∀ i, i < mm → (∃ a, a < n ∧ Sme.2 0 i = nI a) ∧ (∃ b, b < n ∧ Sme.2 1 i = nI b) ∧ 0 ≤ (Sme.2 2 i).toInt ∧ (Sme.2 2 i).toInt ≤ 500
def kpC (bits : Int32) (i : Nat) : Prop := ¬ ((bits >>> (nI i &&& 31)) &&& 1) = 0
def solC (SB Sme : Ob) (n mm : Nat) (kp : Nat → Prop) (x : Nat → Int) : Prop :=
  dSol n mm (fun t => (SB.2 0 t).toInt) (fun t => (SB.2 1 t).toInt) (fun i => (Sme.2 0 i).toNatClampNeg) (fun i => (Sme.2 1 i).toNatClampNeg) (fun i => (Sme.2 2 i).toInt) kp x
def EC (S : Ob) (k : Nat) (t : Nat) : Int := (S.2 k t).toInt
theorem sm_pos {f : Nat → Nat} : ∀ {n t : Nat}, t < n → 1 ≤ f t → 1 ≤ sm f n
  | 0, _, h, _ => by omega
  | n + 1, t, h, h1 => by
    show 1 ≤ sm f n + f n
    by_cases e : t = n
    · subst e; omega
    · have := sm_pos (n := n) (t := t) (by omega) h1
      omega
theorem EC_upd {S : Ob} {k i : Nat} {v : Int32} {t : Nat} : EC (uA S k i v) k t = if t = i then v.toInt else EC S k t := by
  unfold EC
  rw [uA_2, if_pos rfl, upd_d]
  split <;> rfl
set_option maxHeartbeats 1000000 in
theorem cs_agree {SDt SB Sme : Ob} {bits : Int32} {Q : Int32 → Ob → Prop} {n mm : Nat} (h : dH SB Sme n mm)
    (hy : ∀ S' : Ob, S'.1 = SDt.1 → solC SB Sme n mm (kpC bits) (EC S' 0) → (∀ z, solC SB Sme n mm (kpC bits) z → ∀ t, t < n → EC S' 0 t ≤ z t) → Q 1 S')
    (hn : (¬ ∃ x, solC SB Sme n mm (kpC bits) x) → ∀ S' : Ob, S'.1 = SDt.1 → Q 0 S') : w_X0_agree SDt SB Sme bits Q := by
  obtain ⟨hn4, hn10, hm3, hm10, hT, hM⟩ := h
  have ho : ∀ i, i < mm → (Sme.2 0 i).toNatClampNeg < n ∧ (Sme.2 1 i).toNatClampNeg < n := by
    intro i hi
    obtain ⟨⟨a, ha, ea⟩, ⟨b, hb, eb⟩, -⟩ := hM i hi
    rw [ea, eb, nI_clamp (by omega), nI_clamp (by omega)]
    exact ⟨ha, hb⟩
  unfold w_X0_agree
  rintro S1 hS1
  have hE1 : ∀ t, t < n → EC S1 0 t = (SB.2 0 t).toInt := by
    intro t ht
    unfold EC
    rw [hS1, uR_2, if_pos rfl, pk_cpy_in (Nat.zero_le t) (by omega)]
    simp
  refine wl3_i (fun x5 x4 S => ∃ k, k ≤ n + 1 ∧ x5 = nI k ∧ S.1 = SDt.1 ∧ (∀ t, t < n → (SB.2 0 t).toInt ≤ EC S 0 t ∧ EC S 0 t ≤ (SB.2 1 t).toInt) ∧ (∀ z, solC SB Sme n mm (kpC bits) z → ∀ t, t < n → EC S 0 t ≤ z t) ∧ ((x4 = 0 ∧ solC SB Sme n mm (kpC bits) (EC S 0)) ∨ (x4 = 1 ∧ ∀ d, solC SB Sme n mm (kpC bits) d → (∀ z, solC SB Sme n mm (kpC bits) z → ∀ t, t < n → d t ≤ z t) → (1 ≤ k → k < n) ∧ min n (k + 1) ≤ dCnt (EC S 0) d n)))
    (fun x5 _ _ => n + 2 - x5.toNatClampNeg) ?_ 0 1 S1 ?_
  · rintro L x5 x4 S ⟨k, hk, rfl, hS, hB, hZ, hX⟩ ih
    have hfeas : x4 = 1 → (k = n + 1) → ¬ ∃ x, solC SB Sme n mm (kpC bits) x := by
      intro e1 ek hex
      rcases hX with ⟨e0, -⟩ | ⟨-, hX⟩
      · rw [e0] at e1; exact absurd e1 (by decide)
      · obtain ⟨d, hd, hl⟩ := dLeast (fun t ht => (hT t ht).1) hex
        have := (hX d hd hl).1 (by omega)
        omega
    have hJ1 : x4 = 0 → Q 1 S := by
      intro e0
      rcases hX with ⟨-, hs⟩ | ⟨e1, -⟩
      · exact hy S hS hs hZ
      · rw [e0] at e1; exact absurd e1 (by decide)
    rw [jn_d]
    refine ⟨fun c1 => ⟨fun c2 => ?_, hJ1⟩, fun c1 => ⟨fun c2 => ⟨fun c3 => absurd c2 c3, hJ1⟩, fun c2 => ?_⟩⟩
    · rw [hn4] at c1
      have hlt := (nI_ltI (by omega) (by omega)).mp c1
      rcases hX with ⟨e0, -⟩ | ⟨e1, hX⟩
      · exact absurd e0 c2
      · exact hn (hfeas e1 (by omega)) S hS
    · have hkn : k ≤ n := by
        rw [hn4] at c1
        rcases Nat.lt_or_ge n k with q | q
        · exact absurd (nI_lt q (by omega)) c1
        · exact q
      obtain ⟨-, hX⟩ := hX.resolve_left (fun q => c2 q.1)
      refine wl3_i (fun x6 x4 S' => ∃ i, i ≤ mm ∧ x6 = nI i ∧ S'.1 = SDt.1 ∧ (∀ t, t < n → EC S 0 t ≤ EC S' 0 t ∧ EC S' 0 t ≤ (SB.2 1 t).toInt) ∧ (∀ z, solC SB Sme n mm (kpC bits) z → ∀ t, t < n → EC S' 0 t ≤ z t) ∧ (∀ j, j < i → kpC bits j → EC S 0 (Sme.2 0 j).toNatClampNeg + (Sme.2 2 j).toInt ≤ EC S' 0 (Sme.2 1 j).toNatClampNeg) ∧ ((x4 = 0 ∧ ∀ t, t < n → EC S' 0 t = EC S 0 t) ∨ (x4 = 1 ∧ ∃ t, t < n ∧ EC S 0 t < EC S' 0 t)))
        (fun x6 _ _ => mm - x6.toNatClampNeg) ?_ 0 0 S ⟨0, Nat.zero_le _, rfl, hS, fun t ht => ⟨Int.le_refl _, (hB t ht).2⟩, hZ, fun j hj => absurd hj (Nat.not_lt_zero j), Or.inl ⟨rfl, fun _ _ => rfl⟩⟩
      rintro L2 x6 x4' S' ⟨i, hi, rfl, hS', hB', hZ', hC, hX'⟩ ih2
      refine ⟨fun c3 => ?_, fun c3 => ?_⟩
      · -- the pass has ended
        rw [hm3] at c3
        have him : i = mm := by have := (nI_leI (by omega) (by omega)).mp c3; omega
        subst him
        rintro v13 rfl
        refine ih _ _ _ ⟨k + 1, by omega, by rw [nI_1], hS', fun t ht => ⟨Int.le_trans (hB t ht).1 (hB' t ht).1, (hB' t ht).2⟩, hZ', ?_⟩ ?_
        · rcases hX' with ⟨e0, hE⟩ | ⟨e1, t1, ht1, hlt1⟩
          · refine Or.inl ⟨e0, fun t ht => ⟨Int.le_trans (hB t ht).1 (hB' t ht).1, (hB' t ht).2⟩, fun j hj hkj => ?_⟩
            have := hC j hj hkj
            have h2 := hE _ (ho j hj).1
            show EC S' 0 (Sme.2 0 j).toNatClampNeg + (Sme.2 2 j).toInt ≤ EC S' 0 (Sme.2 1 j).toNatClampNeg
            omega
          · refine Or.inr ⟨e1, fun d hd hl => ?_⟩
            obtain ⟨-, hmin⟩ := hX d hd hl
            have hle : ∀ t, t < n → EC S 0 t ≤ d t := fun t ht => hZ d hd t ht
            have hle' : ∀ t, t < n → EC S' 0 t ≤ d t := fun t ht => hZ' d hd t ht
            obtain ⟨j, hj, hkj, h1, h2, h3⟩ := dTight (fun t ht => (hT t ht).1) ho hd hl (e := EC S 0) (fun t ht => ⟨(hB t ht).1, hle t ht⟩) ⟨t1, ht1, by have := hle' t1 ht1; omega⟩
            have hgrow : dCnt (EC S 0) d n < dCnt (EC S' 0) d n := by
              refine sm_lt (fun t ht => ?_) ⟨(Sme.2 1 j).toNatClampNeg, (ho j hj).2, ?_⟩
              · have a1 := (hB' t ht).1
                have a2 := hle' t ht
                have a3 := hle t ht
                show (if EC S 0 t = d t then 1 else 0) ≤ (if EC S' 0 t = d t then 1 else 0)
                by_cases q : EC S 0 t = d t
                · rw [if_pos q, if_pos (by omega)]; exact Nat.le_refl _
                · rw [if_neg q]; exact Nat.zero_le _
              · have a1 := hC j hj hkj
                have a2 := hle' _ (ho j hj).2
                show (if EC S 0 _ = d _ then 1 else 0) < (if EC S' 0 _ = d _ then 1 else 0)
                rw [if_neg (by omega), if_pos (by omega)]
                exact Nat.zero_lt_one
            have hcap : dCnt (EC S' 0) d n ≤ n := sm_one (fun t => by show (if EC S' 0 t = d t then 1 else 0) ≤ 1; split <;> omega) n
            omega
        · rw [nI_1, nI_clamp (by omega), nI_clamp (by omega)]; omega
      · have hlt : i < mm := by
          rw [hm3] at c3
          rcases Nat.lt_or_ge i mm with q | q
          · exact q
          · exact absurd (nI_le q (by omega)) c3
        obtain ⟨⟨a, ha, ea⟩, ⟨b, hb, eb⟩, hw0, hw5⟩ := hM i hlt
        have hi10 : vp_in (nI i) 10 := vp_in_nI (by omega) (by decide)
        rw [nI_clamp (by omega)]
        refine ⟨hi10, ?_⟩
        rintro v15 rfl
        refine ⟨hi10, by rw [ea]; exact vp_in_nI (by omega) (by decide), hi10, ?_⟩
        rintro v19 ev
        have hEa := hB' a ha
        have hBa := hB a ha
        have hTa := hT a ha
        rw [ea, nI_clamp (by omega)] at ev
        have hv : v19.toInt = EC S' 0 a + (Sme.2 2 i).toInt := by
          rw [ev]
          have e1 : (S'.2 0 a).toInt = EC S' 0 a := rfl
          rw [fb_addI (by omega) (by omega)]
          rfl
        have next : ∀ (q4 : Int32) (S2 : Ob), S2.1 = SDt.1 → (∀ t, t < n → EC S 0 t ≤ EC S2 0 t ∧ EC S2 0 t ≤ (SB.2 1 t).toInt) → (∀ z, solC SB Sme n mm (kpC bits) z → ∀ t, t < n → EC S2 0 t ≤ z t) → (∀ j, j < i + 1 → kpC bits j → EC S 0 (Sme.2 0 j).toNatClampNeg + (Sme.2 2 j).toInt ≤ EC S2 0 (Sme.2 1 j).toNatClampNeg) → ((q4 = 0 ∧ ∀ t, t < n → EC S2 0 t = EC S 0 t) ∨ (q4 = 1 ∧ ∃ t, t < n ∧ EC S 0 t < EC S2 0 t)) → L2 (nI i + 1) q4 S2 := by
          intro q4 S2 g1 g2 g3 g4 g5
          refine ih2 _ _ _ ⟨i + 1, by omega, by rw [nI_1], g1, g2, g3, g4, g5⟩ ?_
          rw [nI_1, nI_clamp (by omega), nI_clamp (by omega)]; omega
        refine ⟨fun c4 => ?_, fun c4 => ?_⟩
        · rintro v20 rfl
          refine next _ _ hS' hB' hZ' (fun j hj hkj => ?_) hX'
          by_cases e : j = i
          · subst e; exact absurd c4 hkj
          · exact hC j (by omega) hkj
        · have hkp : kpC bits i := c4
          rw [eb, nI_clamp (by omega)]
          have hb10 : vp_in (nI b) 10 := vp_in_nI (by omega) (by decide)
          have hzb : ∀ z, solC SB Sme n mm (kpC bits) z → v19.toInt ≤ z b := by
            intro z hz
            have z1 := hz.2 i hlt hkp
            dsimp only at z1
            rw [ea, eb, nI_clamp (by omega), nI_clamp (by omega)] at z1
            have z2 := hZ' z hz a ha
            omega
          refine ⟨hb10, fun c5 => ?_, fun c5 => ⟨hb10, fun c6 => ⟨hb10, ?_⟩, fun c6 => ?_⟩⟩
          · rintro v22 rfl
            have c5 : v19.toInt ≤ EC S' 0 b := Int32.le_iff_toInt_le.mp c5
            refine next _ _ hS' hB' hZ' (fun j hj hkj => ?_) hX'
            by_cases e : j = i
            · subst e
              rw [ea, eb, nI_clamp (by omega), nI_clamp (by omega)]
              omega
            · exact hC j (by omega) hkj
          · rintro S25 rfl v26 rfl
            have c5 : ¬ v19.toInt ≤ EC S' 0 b := fun q => c5 (Int32.le_iff_toInt_le.mpr q)
            have c6 : v19.toInt ≤ (SB.2 1 b).toInt := Int32.le_iff_toInt_le.mp c6
            have hup : ∀ t, EC (uA S' 0 b v19) 0 t = if t = b then v19.toInt else EC S' 0 t := fun t => EC_upd
            have hge : ∀ t, EC S' 0 t ≤ EC (uA S' 0 b v19) 0 t := by
              intro t
              rw [hup]
              split
              · next q => subst q; omega
              · exact Int.le_refl _
            refine next 1 _ hS' (fun t ht => ?_) (fun z hz t ht => ?_) (fun j hj hkj => ?_) (Or.inr ⟨rfl, b, hb, ?_⟩)
            · have q1 := hB' t ht
              have q2 := hge t
              refine ⟨by omega, ?_⟩
              rw [hup]
              split
              · next q => subst q; exact c6
              · exact q1.2
            · rw [hup]
              split
              · next q => subst q; exact hzb z hz
              · exact hZ' z hz t ht
            · by_cases e : j = i
              · subst e
                rw [ea, eb, nI_clamp (by omega), nI_clamp (by omega), hup, if_pos rfl]
                omega
              · exact Int.le_trans (hC j (by omega) hkj) (hge _)
            · have q1 := (hB' b hb).1
              rw [hup, if_pos rfl]
              omega
          · have c6 : ¬ v19.toInt ≤ (SB.2 1 b).toInt := fun q => c6 (Int32.le_iff_toInt_le.mpr q)
            refine hn (fun hex => ?_) S' hS'
            obtain ⟨z, hz⟩ := hex
            have z1 := hzb z hz
            have z2 := (hz.1 b hb).2
            have z3 : z b ≤ (SB.2 1 b).toInt := z2
            omega
  · refine ⟨0, by omega, rfl, by rw [hS1]; rfl, fun t ht => by rw [hE1 t ht]; exact ⟨Int.le_refl _, (hT t ht).2.1⟩, fun z hz t ht => by rw [hE1 t ht]; exact (hz.1 t ht).1, Or.inr ⟨rfl, fun d hd hl => ⟨by omega, ?_⟩⟩⟩
    by_cases hn0 : n = 0
    · subst hn0; exact Nat.zero_le _
    · have hone : 1 ≤ dCnt (EC S1 0) d n := by
        by_cases hall : ∃ t, t < n ∧ EC S1 0 t < d t
        · obtain ⟨j, hj, -, h1, -, -⟩ := dTight (fun t ht => (hT t ht).1) ho hd hl (e := EC S1 0) (fun t ht => by rw [hE1 t ht]; exact ⟨Int.le_refl _, (hd.1 t ht).1⟩) hall
          exact sm_pos (ho j hj).1 (by show 1 ≤ (if _ then 1 else 0); rw [if_pos h1]; exact Nat.le_refl 1)
        · refine sm_pos (t := 0) (by omega) ?_
          have q1 := (hd.1 0 (by omega)).1
          have q2 : ¬ EC S1 0 0 < d 0 := fun q => hall ⟨0, by omega, q⟩
          have q3 := hE1 0 (by omega)
          show 1 ≤ (if EC S1 0 0 = d 0 then 1 else 0)
          have q1' : (SB.2 0 0).toInt ≤ d 0 := q1
          rw [if_pos (by omega)]
          exact Nat.le_refl 1
      omega
