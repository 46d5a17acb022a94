/-! ===== texts of laws: the class's parser, parts ===== -/
def cm (k : Nat) : Nat := if k < 256 then 100 + k else if k < 271 then k - 255 else if k = 281 then 50 else 0
theorem cm_sign {x k : Nat} (hk : k < 256) : cm x = 100 + k ↔ x = k := by
  unfold cm
  constructor
  · intro h
    split at h
    · omega
    · split at h
      · omega
      · split at h <;> omega
  · rintro rfl
    rw [if_pos hk]
theorem cm_word {x j : Nat} (h1 : 1 ≤ j) (h2 : j ≤ 15) : cm x = j ↔ x = 255 + j := by
  unfold cm
  constructor
  · intro h
    split at h
    · omega
    · split at h
      · omega
      · split at h <;> omega
  · rintro rfl
    rw [if_neg (by omega), if_pos (by omega)]
    omega
theorem cm_num {x : Nat} : cm x = 50 ↔ x = 281 := by
  unfold cm
  constructor
  · intro h
    split at h
    · omega
    · split at h
      · omega
      · split at h <;> omega
  · rintro rfl; rfl
def tkC (SR : Ob) (K : TkT) (kk : Nat → Nat) : Prop := okK K ∧ (∀ i, i ≤ kN K → SR.2 0 i = nI (kk i) ∧ kk i ≤ 283 ∧ cm (kk i) = kC K i ∧ SR.2 2 i = nI (kP K i)) ∧ (∀ i, i < kN K → kC K i = 50 → SR.2 1 i = nI (kV K i)) ∧ kk (kN K) = 283 ∧ ∀ i, i < kN K → kk i ≠ 283
def bS (SR0 SR : Ob) : Prop := SR.2 0 = SR0.2 0 ∧ SR.2 1 = SR0.2 1 ∧ SR.2 2 = SR0.2 2 ∧ SR.2 4 = SR0.2 4 ∧ SR.2 5 = SR0.2 5 ∧ SR.1 6 = SR0.1 6
def atC (SR0 : Ob) (K : TkT) (SR : Ob) (p lv len : Nat) : Prop := bS SR0 SR ∧ SR.1 3 = nI p ∧ SR.1 10 = nI lv ∧ SR.1 11 = -1 ∧ SR.1 9 = nI len ∧ p ≤ kN K ∧ lv ≤ 50 ∧ len ≤ p + 24
def fltC (SR0 : Ob) (K : TkT) (SR : Ob) (f : Nat) : Prop := bS SR0 SR ∧ SR.1 11 = nI (kP K f) ∧ f ≤ kN K ∧ (∃ len, len ≤ 424 ∧ SR.1 9 = nI len) ∧ ∃ a, a ≤ 401 ∧ SR.1 3 = nI a
def preC (SR1 SR : Ob) (len : Nat) : Prop := ∀ i, i < len → SR.2 7 i = SR1.2 7 i ∧ SR.2 8 i = SR1.2 8 i
theorem preC.rf {SR : Ob} {len : Nat} : preC SR SR len := fun _ _ => ⟨rfl, rfl⟩
theorem preC.tr {SR1 SR2 SR3 : Ob} {len len' : Nat} (h : preC SR1 SR2 len) (h' : preC SR2 SR3 len') (hl : len ≤ len') : preC SR1 SR3 len := fun i hi => ⟨(h' i (by omega)).1.trans (h i hi).1, (h' i (by omega)).2.trans (h i hi).2⟩
def rsB (SR0 : Ob) (K : TkT) (SR1 : Ob) (p lv len : Nat) (res : PrT) (SR : Ob) : Prop := Sum.elim (fun f => fltC SR0 K SR f) (fun r => ∃ len', atC SR0 K SR r.1 r.2.1 len' ∧ preC SR1 SR len ∧ lv ≤ r.2.1 ∧ len' + p ≤ len + r.1 ∧ Seg (SR.2 7) (SR.2 8) len len' r.2.2 (r.2.1 - lv)) res
def rdB (SR0 : Ob) (K : TkT) (SR1 : Ob) (p lv len : Nat) (F : (Ob → Prop) → Prop) (res : PrT) : Prop := ∀ Q : Ob → Prop, (∀ SR', rsB SR0 K SR1 p lv len res SR' → Q SR') → F Q
theorem tkC_k {SR0 : Ob} {K : TkT} {kk : Nat → Nat} (tk : tkC SR0 K kk) {SR : Ob} (hb : bS SR0 SR) {p : Nat} (hp : p ≤ kN K) : SR.2 0 p = nI (kk p) := by rw [hb.1]; exact (tk.2.1 p hp).1
theorem c_next {SR0 : Ob} {K : TkT} {kk : Nat → Nat} (tk : tkC SR0 K kk) {SR : Ob} {p lv len : Nat} (h : atC SR0 K SR p lv len) {Q : Int32 → Prop} (hq : Q (nI (kk p))) : w_X4_next SR Q := by
  obtain ⟨hs, h3, h10, h11, h9, hpn, hlv, hlen⟩ := h
  have h400 := tk.1.1
  unfold w_X4_next
  rw [h3, nI_clamp (by omega), tkC_k tk hs hpn]
  exact le_b 401 p (by decide) (by omega) (fun q => absurd q (by omega)) (fun _ => ⟨vp_in_nI (by omega) (by decide), hq⟩)
theorem c_nextF {SR0 : Ob} {K : TkT} {SR : Ob} {f : Nat} (h : fltC SR0 K SR f) {Q : Int32 → Prop} (hq : ∀ x, Q x) : w_X4_next SR Q := by
  obtain ⟨a, ha, e⟩ := h.2.2.2.2
  unfold w_X4_next
  rw [e]
  exact le_b 401 a (by decide) (by omega) (fun _ => hq _) (fun q => ⟨vp_in_nI (by omega) (by decide), hq _⟩)
theorem c_takesF {SR0 : Ob} {K : TkT} (ok : okK K) {SR : Ob} {f : Nat} (h : fltC SR0 K SR f) {x : Int32} {Q : Int32 → Ob → Prop} (hq : Q 0 SR) : w_X4_takes SR x Q := by
  unfold w_X4_takes
  rw [h.2.1]
  exact rb_n (fl_ne ok f) hq
theorem at_up {SR0 : Ob} {K : TkT} {SR : Ob} {p lv len : Nat} (h : atC SR0 K SR p lv len) (hlt : p < kN K) : atC SR0 K (uS SR 3 (SR.1 3 + 1)) (p + 1) lv len := by
  obtain ⟨hs, h3, h10, h11, h9, hpn, hlv, hlen⟩ := h
  refine ⟨hs, ?_, h10, h11, h9, hlt, hlv, by omega⟩
  show SR.1 3 + 1 = _
  rw [h3, nI_1]
theorem c_takes {SR0 : Ob} {K : TkT} {kk : Nat → Nat} (tk : tkC SR0 K kk) {SR : Ob} {p lv len : Nat} (h : atC SR0 K SR p lv len) {k : Nat} (hk : k < 283) {Q : Int32 → Ob → Prop} (hy : kk p = k → atC SR0 K (uS SR 3 (SR.1 3 + 1)) (p + 1) lv len → Q 1 (uS SR 3 (SR.1 3 + 1))) (hn : kk p ≠ k → Q 0 SR) : w_X4_takes SR (nI k) Q := by
  have h' := h
  obtain ⟨hs, h3, h10, h11, h9, hpn, hlv, hlen⟩ := h
  have h400 := tk.1.1
  have hkk := (tk.2.1 p hpn).2.1
  unfold w_X4_takes
  refine rb_y h11 ?_
  have e3 : (401 ≤ SR.1 3) ↔ 401 ≤ p := by rw [h3]; exact nI_leI (a := 401) (by decide) (by omega)
  rw [e3]
  refine br_n (by omega) ?_
  have e0 : SR.2 0 (SR.1 3).toNatClampNeg = nI (kk p) := by rw [h3, nI_clamp (by omega)]; exact tkC_k tk hs hpn
  rw [e0]
  refine ⟨by rw [h3]; exact vp_in_nI (by omega) (by decide), eq_b _ _ (by omega) (by omega) (fun e => ?_) (fun e => hn e)⟩
  rintro S2 rfl
  refine hy e (at_up h' ?_)
  rcases Nat.lt_or_ge p (kN K) with q | q
  · exact q
  · have : p = kN K := by omega
    rw [this, tk.2.2.2.1] at e
    omega
theorem c_stop {SR0 : Ob} {K : TkT} {kk : Nat → Nat} (tk : tkC SR0 K kk) {SR : Ob} {p lv len : Nat} (h : atC SR0 K SR p lv len) {Q : Ob → Prop} (hq : ∀ SR', fltC SR0 K SR' p → Q SR') : w_X4_stop SR Q := by
  obtain ⟨hs, h3, h10, h11, h9, hpn, hlv, hlen⟩ := h
  have h400 := tk.1.1
  unfold w_X4_stop
  refine rb_y h11 (jn_g (fun J => J (nI (kP K p))) ?_ (fun J hJ => ?_))
  · rintro S3 rfl
    exact hq _ ⟨hs, rfl, hpn, ⟨len, by omega, h9⟩, ⟨p, by omega, h3⟩⟩
  · rw [h3, nI_clamp (by omega), hs.2.2.1, (tk.2.1 p hpn).2.2.2]
    exact le_b 401 p (by decide) (by omega) (fun q => absurd q (by omega)) (fun _ => ⟨vp_in_nI (by omega) (by decide), hJ⟩)
theorem c_stopF {SR0 : Ob} {K : TkT} (ok : okK K) {SR : Ob} {f : Nat} (h : fltC SR0 K SR f) {Q : Ob → Prop} (hq : Q SR) : w_X4_stop SR Q := by
  unfold w_X4_stop
  rw [h.2.1]
  exact rb_n (fl_ne ok f) hq
def stO (SR : Ob) (len : Nat) (x y : Int32) : Ob := uS (uA (uA SR 7 len x) 8 len y) 9 (nI (len + 1))
theorem c_step {SR : Ob} {len : Nat} (h9 : SR.1 9 = nI len) (hl : len < 424) {x y : Int32} {Q : Ob → Prop} (hq : Q (stO SR len x y)) : w_X4_step SR x y Q := by
  unfold w_X4_step
  rw [h9]
  refine le_b 424 len (by decide) (by omega) (fun q => absurd q (by omega)) (fun _ => ⟨vp_in_nI hl (by decide), ?_⟩)
  rintro S2 rfl
  have e2 : (uA SR 7 (Int32.toNatClampNeg (nI len)) x).1 9 = nI len := h9
  rw [e2]
  refine ⟨vp_in_nI hl (by decide), ?_⟩
  rintro S4 rfl S5 rfl
  have e4 : (uA (uA SR 7 (Int32.toNatClampNeg (nI len)) x) 8 (Int32.toNatClampNeg (nI len)) y).1 9 = nI len := h9
  rw [e4, nI_1, nI_clamp (by omega)]
  exact hq
theorem stO_7 (SR : Ob) (len : Nat) (x y : Int32) (i : Nat) : (stO SR len x y).2 7 i = if i = len then x else SR.2 7 i := rfl
theorem stO_8 (SR : Ob) (len : Nat) (x y : Int32) (i : Nat) : (stO SR len x y).2 8 i = if i = len then y else SR.2 8 i := rfl
theorem stO_pre (SR : Ob) (len : Nat) (x y : Int32) : preC SR (stO SR len x y) len := fun i hi => ⟨by rw [stO_7, if_neg (by omega)], by rw [stO_8, if_neg (by omega)]⟩
theorem stO_at {SR0 : Ob} {K : TkT} {SR : Ob} {p lv len : Nat} (h : atC SR0 K SR p lv len) (hl : len + 1 ≤ p + 24) (x y : Int32) : atC SR0 K (stO SR len x y) p lv (len + 1) := by
  obtain ⟨hs, h3, h10, h11, h9, hpn, hlv, hlen⟩ := h
  exact ⟨hs, h3, h10, h11, rfl, hpn, hlv, hl⟩
theorem c_stepF {SR0 : Ob} {K : TkT} {SR : Ob} {f : Nat} (h : fltC SR0 K SR f) {x y : Int32} {Q : Ob → Prop} (hq : ∀ SR', fltC SR0 K SR' f → Q SR') : w_X4_step SR x y Q := by
  obtain ⟨hs, h11, hf, ⟨len, hl, h9⟩, ha⟩ := id h
  rcases Nat.lt_or_ge len 424 with q | q
  · exact c_step h9 q (hq _ ⟨hs, h11, hf, ⟨len + 1, by omega, rfl⟩, ha⟩)
  · unfold w_X4_step
    rw [h9]
    exact br_y (nI_le (a := 424) q (by omega)) (hq _ h)
set_option maxHeartbeats 1000000 in
theorem b_part {SR0 : Ob} {K : TkT} {kk : Nat → Nat} (tk : tkC SR0 K kk) {rec' : Ob → Int32 → (Ob → Prop) → Prop} {rec : Nat → Nat → Nat → PrT} {deep : Nat} (hd : deep ≤ 8) (hr : incP (rec (deep + 1))) (hrec : deep < 8 → ∀ SR p lv len, atC SR0 K SR p lv len → rdB SR0 K SR p lv len (rec' SR (nI (deep + 1))) (rec (deep + 1) p lv)) (SR : Ob) (p lv len : Nat) (h : atC SR0 K SR p lv len) : rdB SR0 K SR p lv len (w_X4_part rec' SR (nI deep)) (mPart (kC K) (kV K) rec deep p lv) := by
  intro Q hq
  obtain ⟨hs, h3, h10, h11, h9, hpn, hlv, hlen⟩ := id h
  have h400 := tk.1.1
  obtain ⟨-, hk283, hcm, -⟩ := tk.2.1 p hpn
  have hc := tk.1.2.2.1 p
  unfold w_X4_part
  refine jn_g (fun J => (kC K p ≠ 191 ∨ deep = 8) → J SR) (fun hno => ?_) (fun J hJ => le_b 8 deep (by decide) (by omega) (fun e8 => hJ (Or.inr (by omega))) (fun e8 => c_takes tk h (k := 91) (by decide) (fun e h1 => br_n (by decide) ?_) (fun e => br_y rfl (hJ (Or.inl (fun q => e ((cm_sign (k := 91) (by decide)).mp (by rw [hcm]; exact q))))))))
  · -- a number, a word
    have hsign : kC K p = 191 → mPart (kC K) (kV K) rec deep p lv = .inl p := by
      intro e
      have e8 : deep = 8 := hno.elim (fun q => absurd e q) id
      unfold mPart
      rw [if_pos e, if_pos e8]
    refine c_next tk h ?_
    have hnum : ∀ q : Prop, (kk p = 281 ↔ kC K p = 50) := fun _ => by rw [← hcm]; exact cm_num.symm
    have hfact : (263 ≤ kk p ∧ kk p ≤ 270) ↔ (8 ≤ kC K p ∧ kC K p ≤ 15) := by
      constructor
      · intro q
        have := (cm_word (x := kk p) (j := kk p - 255) (by omega) (by omega)).mpr (by omega)
        rw [hcm] at this
        omega
      · intro q
        have := (cm_word (x := kk p) (j := kC K p) (by omega) (by omega)).mp hcm
        omega
    refine jn_g (fun J => ∀ b : Bool, (b = true ↔ kC K p = 50 ∧ kV K p ≤ 2000) → J (bI b)) (fun nb hnb => ?_) (fun J hJ => jn_g (fun J2 => ¬ (kC K p = 50 ∧ kV K p ≤ 2000) → J2 ()) (fun q => hJ false ⟨fun q2 => absurd q2 (by decide), fun q2 => absurd q2 q⟩) (fun J2 hJ2 => qe_b (kk p) 281 (by omega) (by decide) (fun e => ?_) (fun e => hJ2 (fun q => e ((hnum True).mpr q.1)))))
    · refine jn_g (fun J => ∀ b : Bool, (b = true ↔ 8 ≤ kC K p ∧ kC K p ≤ 15) → J (bI b)) (fun fb hfb => ?_) (fun J hJ => jn_g (fun J2 => ¬ (8 ≤ kC K p ∧ kC K p ≤ 15) → J2 ()) (fun q => hJ false ⟨fun q2 => absurd q2 (by decide), fun q2 => absurd q2 q⟩) (fun J2 hJ2 => ⟨fun q => hJ2 (fun q2 => ?_), fun q => ⟨fun q2 => hJ2 (fun q3 => ?_), fun q2 => hJ true ⟨fun _ => hfact.mp ⟨?_, ?_⟩, fun _ => rfl⟩⟩⟩))
      · -- both booleans known
        refine jn_g (fun J => (lv = 50 ∨ ¬ ((kC K p = 50 ∧ kV K p ≤ 2000) ∨ (8 ≤ kC K p ∧ kC K p ≤ 15))) → J ()) (fun hbad => c_stop tk h (fun SR' hf => hq SR' ?_)) (fun J hJ => ?_)
        · have : mPart (kC K) (kV K) rec deep p lv = .inl p := by
            by_cases e : kC K p = 191
            · exact hsign e
            · unfold mPart
              rw [if_neg e]
              by_cases g : (kC K p = 50 ∧ kV K p ≤ 2000) ∨ (8 ≤ kC K p ∧ kC K p ≤ 15)
              · rw [if_pos g, if_pos (hbad.elim id (fun q => absurd g q))]
              · rw [if_neg g]
          rw [this]; exact hf
        · rw [h10]
          refine le_b 50 lv (by decide) (by omega) (fun q => hJ (Or.inl (by omega))) (fun q50 => rb_y h11 ?_)
          refine jn_g (fun J3 => ((kC K p = 50 ∧ kV K p ≤ 2000) ∨ (8 ≤ kC K p ∧ kC K p ≤ 15)) → J3 ()) (fun g => ?_) (fun J3 hJ3 => ib_b (fun qn => ib_b (fun qf => hJ (Or.inr ?_)) (fun qf => hJ3 (Or.inr (hfb.mp qf)))) (fun qn => hJ3 (Or.inl (hnb.mp qn))))
          · have hne : kC K p ≠ 191 := by omega
            have hlt : p < kN K := okK_i tk.1 (by omega)
            have em : mPart (kC K) (kV K) rec deep p lv = .inr (p + 1, lv + 1, fun φ => some (if kC K p = 50 then (kV K p : Int) else φ (kC K p - 8))) := by
              unfold mPart
              rw [if_neg hne, if_pos g, if_neg (by omega)]
            rw [em] at hq
            rintro S15 rfl
            have e9 : (uS SR 10 (nI lv + 1)).1 9 = nI len := h9
            have go : ∀ x y : Int32, Seg (stO (uS SR 10 (nI lv + 1)) len x y |>.2 7) (stO (uS SR 10 (nI lv + 1)) len x y |>.2 8) len (len + 1) (fun φ => some (if kC K p = 50 then (kV K p : Int) else φ (kC K p - 8))) 1 → w_X4_step (uS SR 10 (nI lv + 1)) x y (fun S20 => ∀ S22 : Ob, S22 = uS S20 3 ((S20.1 3) + 1) → Q S22) := by
              intro x y hseg
              refine c_step e9 (by omega) ?_
              rintro S22 rfl
              refine hq _ ⟨len + 1, ⟨hs, ?_, ?_, h11, rfl, hlt, by show lv + 1 ≤ 50; omega, by show len + 1 ≤ p + 1 + 24; omega⟩, stO_pre _ _ _ _, by show lv ≤ lv + 1; omega, by show len + 1 + p ≤ len + (p + 1); omega, ?_⟩
              · show SR.1 3 + 1 = _
                rw [h3, nI_1]
              · show nI lv + 1 = _
                rw [nI_1]
              · show Seg _ _ len (len + 1) _ (lv + 1 - lv)
                rw [show lv + 1 - lv = 1 by omega]
                exact hseg
            refine jn_g (fun J => J (if kC K p = 50 then 281 else 282)) ?_ (fun J hJ => bi_b (fun qn => ?_) (fun qn => ?_))
            · refine jn_g (fun J => J (if kC K p = 50 then nI (kV K p) else nI (kC K p - 8))) ?_ (fun J hJ => bi_b (fun qn => ?_) (fun qn => ?_))
              · refine go _ _ ?_
                by_cases e : kC K p = 50
                · have hv := tk.1.2.2.2.2 p
                  simp only [e, if_true]
                  refine seg_num (by omega) ?_ ?_
                  · rw [stO_7, if_pos rfl]
                  · rw [stO_8, if_pos rfl]
                · simp only [e, if_false]
                  refine seg_fact (by omega) ?_ ?_
                  · rw [stO_7, if_pos rfl]
                  · rw [stO_8, if_pos rfl]
              · have hf : 8 ≤ kC K p ∧ kC K p ≤ 15 := g.resolve_left (fun q => by rw [hnb.mpr q] at qn; exact absurd qn (by decide))
                have hx := hfact.mpr hf
                have hk := (cm_word (x := kk p) (j := kC K p) (by omega) (by omega)).mp hcm
                rw [if_neg (by omega)] at hJ
                have : nI (kk p) - 263 = nI (kC K p - 8) := by
                  rw [show (263 : Int32) = nI 263 from rfl, pk_sub (by omega), show kk p - 263 = kC K p - 8 by omega]
                rw [this]; exact hJ
              · have hn := hnb.mp qn
                rw [if_pos hn.1] at hJ
                have e3 : (uS SR 10 (nI lv + 1)).1 3 = nI p := h3
                have e1 : (uS SR 10 (nI lv + 1)).2 1 p = nI (kV K p) := by
                  show SR.2 1 p = _
                  rw [hs.2.1]
                  exact tk.2.2.1 p hlt hn.1
                rw [e3, nI_clamp (by omega), e1]
                exact ⟨vp_in_nI (by omega) (by decide), hJ⟩
            · have hf : 8 ≤ kC K p ∧ kC K p ≤ 15 := g.resolve_left (fun q => by rw [hnb.mpr q] at qn; exact absurd qn (by decide))
              rw [if_neg (by omega)] at hJ; exact hJ
            · rw [if_pos (hnb.mp qn).1] at hJ; exact hJ
          · rintro (q | q)
            · rw [hnb.mpr q] at qn; exact absurd qn (by decide)
            · rw [hfb.mpr q] at qf; exact absurd qf (by decide)
      · have := (nI_ltI (b := 263) (by omega) (by decide)).mp q
        have := hfact.mpr q2
        omega
      · have := (nI_ltI (a := 270) (by decide) (by omega)).mp q2
        have := hfact.mpr q3
        omega
      · rcases Nat.lt_or_ge (kk p) 263 with a | a
        · exact absurd (nI_lt (b := 263) a (by decide)) q
        · exact a
      · rcases Nat.lt_or_ge 270 (kk p) with a | a
        · exact absurd (nI_lt (a := 270) a (by omega)) q2
        · exact a
    · have hc50 := (hnum True).mp e
      have hlt : p < kN K := okK_i tk.1 (by omega)
      have e1 : SR.2 1 p = nI (kV K p) := by rw [hs.2.1]; exact tk.2.2.1 p hlt hc50
      have hv := tk.1.2.2.2.2 p
      rw [h3, nI_clamp (by omega), e1]
      refine ⟨vp_in_nI (by omega) (by decide), ⟨fun q => hJ2 (fun q2 => ?_), fun q => hJ true ⟨fun _ => ⟨hc50, ?_⟩, fun _ => rfl⟩⟩⟩
      · have := (nI_ltI (a := 2000) (by decide) (by omega)).mp q
        omega
      · rcases Nat.lt_or_ge 2000 (kV K p) with a | a
        · exact absurd (nI_lt (a := 2000) a (by omega)) q
        · exact a
  · -- a bracket
    have e191 : kC K p = 191 := by rw [← hcm]; exact (cm_sign (k := 91) (by decide)).mpr e
    have em : mPart (kC K) (kV K) rec deep p lv = Sum.elim .inl (fun r => if kC K r.1 = 193 then .inr (r.1 + 1, r.2.1, r.2.2) else .inl r.1) (rec (deep + 1) (p + 1) lv) := by
      unfold mPart
      rw [if_pos e191, if_neg (by omega)]
    rw [em] at hq
    rw [nI_1]
    refine hrec (by omega) _ _ _ _ h1 _ (fun S42 h42 => ?_)
    cases er : rec (deep + 1) (p + 1) lv with
    | inl f =>
      rw [er] at h42 hq
      exact c_takesF tk.1 h42 (rb_y rfl (c_stopF tk.1 h42 (hq _ h42)))
    | inr r =>
      rw [er, rsB, Sum.elim_inr] at h42
      rw [er, Sum.elim_inr] at hq
      obtain ⟨len', a1, a2, a3, a4, a5⟩ := h42
      have hinc := hr _ _ _ er
      have hcr := (tk.2.1 r.1 a1.2.2.2.2.2.1).2.2.1
      refine c_takes tk a1 (k := 93) (by decide) (fun e2 h2 => rb_n (by decide) (hq _ ?_)) (fun e2 => rb_y rfl (c_stop tk a1 (fun SR' hf => hq SR' ?_)))
      · rw [if_pos (by rw [← hcr]; exact (cm_sign (k := 93) (by decide)).mpr e2)]
        exact ⟨len', h2, a2, a3, by show len' + p ≤ len + (r.1 + 1); omega, a5⟩
      · rw [if_neg (fun q => e2 ((cm_sign (k := 93) (by decide)).mp (by rw [hcr]; exact q)))]
        exact hf
