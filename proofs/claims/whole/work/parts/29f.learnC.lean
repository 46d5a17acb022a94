/-! ===== what to learn: the class ===== -/
theorem lrB_0 : lrB ((-1 : Int), (-1 : Int)) 0 := ⟨by decide, by decide, by decide, by decide, fun _ => rfl⟩
theorem s_wik {aLw : Nat → Nat} {SLw : Lw} {SO SB Std SPt SJt : Ob} {Sls : Nat → Option Nat} {F : FtT} {Λ : List ClT} {T : TdT} (hF : cF SB F) (hL : lawC SLw Λ) (hI : ∀ Q : Option Nat → Prop, Q (some (aLw 0)) → w_X6_lawInForce SB Sls Q) (ok : okT (qfN F) T) (hT : cT Std T) {x u : Nat} (hx : x < qfN F) (hu : u < qfK F) {Q : Int32 → Ob → Ob → Ob → Prop} (hb9 : 0 ≤ gW (plF (knw F x u) (some Λ)) T ∧ gW (plF (knw F x u) (some Λ)) T ≤ 9990 →  ∀ SP' SJ', Q (iZ (gW (plF (knw F x u) (some Λ)) T)) SB SP' SJ') : w_X8_worthIfKnown aLw SO SB Sls Std SPt SJt SLw (nI x) (nI u) Q := by
  have h10 := hF.1.1
  have hK := hF.1.2.2.1
  have f3 := (hF.2.2.2.2.2 x hx).2.2.2
  have hvx : vp_in (nI x) 10 := vp_in_nI (by omega) (by decide)
  unfold w_X8_worthIfKnown
  rw [nI_clamp (by omega), f3]
  refine ⟨hvx, ?_⟩
  rintro v2 rfl
  refine ⟨hvx, ?_⟩
  intro S4 e4
  rw [or_1 (by omega)] at e4
  have hF4 : cF S4 (knw F x u) := by rw [e4]; exact knw_c hF hx (by omega)
  have hI4 : ∀ Q : Option Nat → Prop, Q (some (aLw 0)) → w_X6_lawInForce S4 Sls Q := by rw [e4]; exact hI
  skip
  rw [s_spoil]
  have hW := s_weigh (SP := spoP SPt) (SJ := SJt) hF4 hL hI4 (cV_spo _ _)
  refine s_reckon hW (cV_spo _ _) _ (fun S7 S8 cv cp cn c17 => ?_)
  refine s_choose (b := false) cp cn ok hT (fun S10 ch k hS2 hS1 hb h15 h16 => ⟨hvx, ?_⟩)
  intro S13 e13
  rw [e4, uA_bk f3] at e13
  subst e13
  have hp := p10 h10
  have hch : ch < 1024 := Nat.lt_of_lt_of_le hb.1 hp
  have hg := gW_e hb
  have hr := wsm_r cp.1 ch
  rw [h15, nI_clamp (by omega), hS2, (cn ch hb.1).1, ← hg]
  exact ⟨vp_in_nI hch (by decide), hb9 (by rw [hg]; exact hr) _ _⟩
theorem s_wikN {SO SB Std SPt SJt : Ob} {Sls : Nat → Option Nat} {F : FtT} {T : TdT} (hF : cF SB F) (hI : ∀ Q : Option Nat → Prop, Q none → w_X6_lawInForce SB Sls Q) (ok : okT (qfN F) T) (hT : cT Std T) {x u : Nat} (hx : x < qfN F) (hu : u < qfK F) {Q : Int32 → Ob → Ob → Ob → Prop} (hb9 : 0 ≤ gW (plF (knw F x u) none) T ∧ gW (plF (knw F x u) none) T ≤ 9990 →  ∀ SP' SJ', Q (iZ (gW (plF (knw F x u) none) T)) SB SP' SJ') : w_X8_worthIfKnownN SO SB Sls Std SPt SJt (nI x) (nI u) Q := by
  have h10 := hF.1.1
  have hK := hF.1.2.2.1
  have f3 := (hF.2.2.2.2.2 x hx).2.2.2
  have hvx : vp_in (nI x) 10 := vp_in_nI (by omega) (by decide)
  unfold w_X8_worthIfKnownN
  rw [nI_clamp (by omega), f3]
  refine ⟨hvx, ?_⟩
  rintro v2 rfl
  refine ⟨hvx, ?_⟩
  intro S4 e4
  rw [or_1 (by omega)] at e4
  have hF4 : cF S4 (knw F x u) := by rw [e4]; exact knw_c hF hx (by omega)
  have hI4 : ∀ Q : Option Nat → Prop, Q none → w_X6_lawInForce S4 Sls Q := by rw [e4]; exact hI
  skip
  rw [s_spoil]
  have hW := s_weighN (SP := spoP SPt) (SJ := SJt) hF4 hI4 (cV_spo _ _)
  refine s_reckonN hW (cV_spo _ _) _ (fun S7 S8 cv cp cn c17 => ?_)
  refine s_choose (b := false) cp cn ok hT (fun S10 ch k hS2 hS1 hb h15 h16 => ⟨hvx, ?_⟩)
  intro S13 e13
  rw [e4, uA_bk f3] at e13
  subst e13
  have hp := p10 h10
  have hch : ch < 1024 := Nat.lt_of_lt_of_le hb.1 hp
  have hg := gW_e hb
  have hr := wsm_r cp.1 ch
  rw [h15, nI_clamp (by omega), hS2, (cn ch hb.1).1, ← hg]
  exact ⟨vp_in_nI hch (by decide), hb9 (by rw [hg]; exact hr) _ _⟩
theorem s_wikA {aLw : Nat → Nat} {SLw : Lw} {SO SB Std : Ob} {Sls : Nat → Option Nat} {F : FtT} {Λ : List ClT} {T : TdT} (hF : cF SB F) (hL : lawC SLw Λ) (hI : ∀ Q : Option Nat → Prop, Q (some (aLw 0)) → w_X6_lawInForce SB Sls Q) (ok : okT (qfN F) T) (hT : cT Std T) {x u : Nat} (hx : x < qfN F) (hu : u < qfK F) {Q : Int32 → (Nat → Nat → Nat) → Ob → Ob → Ob → Prop} (hb9 : 0 ≤ gW (plF (knw F x u) (some Λ)) T ∧ gW (plF (knw F x u) (some Λ)) T ≤ 9990 →  ∀ ut SP' SJ', Q (iZ (gW (plF (knw F x u) (some Λ)) T)) ut SB SP' SJ') : w_X8_worthIfKnownA aLw SO SB Sls Std SLw (nI x) (nI u) Q := by
  have h10 := hF.1.1
  have hK := hF.1.2.2.1
  have f3 := (hF.2.2.2.2.2 x hx).2.2.2
  have hvx : vp_in (nI x) 10 := vp_in_nI (by omega) (by decide)
  unfold w_X8_worthIfKnownA
  rw [nI_clamp (by omega), f3]
  refine ⟨hvx, ?_⟩
  rintro v2 rfl
  refine ⟨hvx, ?_⟩
  intro S4 e4
  rw [or_1 (by omega)] at e4
  have hF4 : cF S4 (knw F x u) := by rw [e4]; exact knw_c hF hx (by omega)
  have hI4 : ∀ Q : Option Nat → Prop, Q (some (aLw 0)) → w_X6_lawInForce S4 Sls Q := by rw [e4]; exact hI
  intro ut
  rw [s_spoil]
  have hW := s_weigh (SP := spoP i_X3) (SJ := i_X1) hF4 hL hI4 (cV_spo _ _)
  refine s_reckon hW (cV_spo _ _) _ (fun S7 S8 cv cp cn c17 => ?_)
  refine s_choose (b := false) cp cn ok hT (fun S10 ch k hS2 hS1 hb h15 h16 => ⟨hvx, ?_⟩)
  intro S13 e13
  rw [e4, uA_bk f3] at e13
  subst e13
  have hp := p10 h10
  have hch : ch < 1024 := Nat.lt_of_lt_of_le hb.1 hp
  have hg := gW_e hb
  have hr := wsm_r cp.1 ch
  rw [h15, nI_clamp (by omega), hS2, (cn ch hb.1).1, ← hg]
  exact ⟨vp_in_nI hch (by decide), hb9 (by rw [hg]; exact hr) ut _ _⟩
theorem s_wikNA {SO SB Std : Ob} {Sls : Nat → Option Nat} {F : FtT} {T : TdT} (hF : cF SB F) (hI : ∀ Q : Option Nat → Prop, Q none → w_X6_lawInForce SB Sls Q) (ok : okT (qfN F) T) (hT : cT Std T) {x u : Nat} (hx : x < qfN F) (hu : u < qfK F) {Q : Int32 → (Nat → Nat → Nat) → Ob → Ob → Ob → Prop} (hb9 : 0 ≤ gW (plF (knw F x u) none) T ∧ gW (plF (knw F x u) none) T ≤ 9990 →  ∀ ut SP' SJ', Q (iZ (gW (plF (knw F x u) none) T)) ut SB SP' SJ') : w_X8_worthIfKnownNA SO SB Sls Std (nI x) (nI u) Q := by
  have h10 := hF.1.1
  have hK := hF.1.2.2.1
  have f3 := (hF.2.2.2.2.2 x hx).2.2.2
  have hvx : vp_in (nI x) 10 := vp_in_nI (by omega) (by decide)
  unfold w_X8_worthIfKnownNA
  rw [nI_clamp (by omega), f3]
  refine ⟨hvx, ?_⟩
  rintro v2 rfl
  refine ⟨hvx, ?_⟩
  intro S4 e4
  rw [or_1 (by omega)] at e4
  have hF4 : cF S4 (knw F x u) := by rw [e4]; exact knw_c hF hx (by omega)
  have hI4 : ∀ Q : Option Nat → Prop, Q none → w_X6_lawInForce S4 Sls Q := by rw [e4]; exact hI
  intro ut
  rw [s_spoil]
  have hW := s_weighN (SP := spoP i_X3) (SJ := i_X1) hF4 hI4 (cV_spo _ _)
  refine s_reckonN hW (cV_spo _ _) _ (fun S7 S8 cv cp cn c17 => ?_)
  refine s_choose (b := false) cp cn ok hT (fun S10 ch k hS2 hS1 hb h15 h16 => ⟨hvx, ?_⟩)
  intro S13 e13
  rw [e4, uA_bk f3] at e13
  subst e13
  have hp := p10 h10
  have hch : ch < 1024 := Nat.lt_of_lt_of_le hb.1 hp
  have hg := gW_e hb
  have hr := wsm_r cp.1 ch
  rw [h15, nI_clamp (by omega), hS2, (cn ch hb.1).1, ← hg]
  exact ⟨vp_in_nI hch (by decide), hb9 (by rw [hg]; exact hr) ut _ _⟩
set_option maxHeartbeats 1000000 in
theorem cs_learn {aLw : Nat → Nat} {SLw : Lw} {SO SB Std SPt SJt : Ob} {Sls : Nat → Option Nat} {F : FtT} {Λ : List ClT} {T : TdT} (hF : cF SB F) (hL : lawC SLw Λ) (hI : ∀ Q : Option Nat → Prop, Q (some (aLw 0)) → w_X6_lawInForce SB Sls Q) (ok : okT (qfN F) T) (hT : cT Std T) {x1 x2 : Int32} {Q : Int32 → Ob → Ob → Ob → Prop} (hqn : ((decide (0 ≤ x1) && decide (x1 < nI (qfK F))) = false ∨ (decide (0 ≤ x2) && decide (x2 ≤ 1)) = false) → Q (-1) SB SPt SJt) (hq : ∀ u, u < qfK F → x1 = nI u → (decide (0 ≤ x2) && decide (x2 ≤ 1)) = true → ∀ SP' SJ', Q (iZ (lnV F (some Λ) T u (decide (x2 = 0)))) SB SP' SJ') : w_X8_learn aLw SO SB Sls Std SPt SJt SLw x1 x2 Q := by
  have h10 := hF.1.1
  have hK := hF.1.2.2.1
  have b4 := hF.2.1
  have b50 := hF.2.2.1
  unfold w_X8_learn
  rw [s_seats, b50]
  refine bi_b (fun c => hqn (Or.inl c)) (fun c => ⟨fun c2 => hqn (Or.inr (by rw [decide_eq_false (Int32.not_le.mpr c2)]; rfl)), fun c2 => ⟨fun c3 => ?_, fun c3 => hqn (Or.inr (by rw [decide_eq_false c3, Bool.and_false]))⟩⟩)
  obtain ⟨u, hu, rfl⟩ := nI_ofL (by omega) c
  have hw : (decide (0 ≤ x2) && decide (x2 ≤ 1)) = true := by rw [decide_eq_true (Int32.not_lt.mp c2), decide_eq_true c3]; rfl
  have hq := hq u hu rfl hw
  refine wl6_i (fun x5 x4 x3 S6 S7 S8 => ∃ x, x5 = nI x ∧ x ≤ qfN F ∧ x4 = iZ (lrn F (some Λ) T u x).1 ∧ x3 = iZ (lrn F (some Λ) T u x).2 ∧ S6 = SB ∧ lrB (lrn F (some Λ) T u x) x) (fun x5 _ _ _ _ _ => 10 - x5.toNatClampNeg) ?_ _ _ _ _ _ _ ⟨0, rfl, Nat.zero_le _, iZ_m1, iZ_m1, rfl, lrB_0⟩
  rintro L x5 x4 x3 S6 S7 S8 ⟨x, rfl, hx, rfl, rfl, rfl, hB⟩ ih
  obtain ⟨B1, B2, B3, B4, B5⟩ := hB
  rw [b4]
  refine le_b (qfN F) x (by omega) (by omega) (fun d => ?_) (fun d => ⟨vp_in_nI (by omega) (by decide), ?_⟩)
  · have : x = qfN F := by omega
    subst this
    refine ⟨fun e => ?_, fun e => ?_⟩
    · have := hq S7 S8
      rw [decide_eq_false e] at this
      exact this
    · have := hq S7 S8
      rw [decide_eq_true e] at this
      exact this
  · obtain ⟨f0, f1, f2, f3⟩ := hF.2.2.2.2.2 x d
    have hs16 := (hF.1.2.2.2.2 x d).2.2.2
    rw [nI_clamp (by omega), f3, nI_1]
    refine bh_b (by omega) (by omega) (fun e => ?_) (fun e => ?_)
    · have stp : lrn F (some Λ) T u (x + 1) = if (lrn F (some Λ) T u x).1 < gW (plF (knw F x u) (some Λ)) T then (gW (plF (knw F x u) (some Λ)) T, (x : Int)) else lrn F (some Λ) T u x := by rw [lrn, if_neg (by rw [e]; decide)]
      refine s_wik hF hL hI ok hT d hu (fun gb SP' SJ' => zle_b _ _ (by omega) (fun g => ?_) (fun g => ?_))
      · rintro v18 rfl
        rw [if_neg (by omega)] at stp
        exact ih _ _ _ _ _ _ ⟨x + 1, rfl, d, by rw [stp], by rw [stp], rfl, by rw [stp]; exact ⟨B1, B2, B3, by omega, B5⟩⟩ (by rw [nI_clamp (by omega), nI_clamp (by omega)]; omega)
      · rintro v19 rfl
        rw [if_pos g] at stp
        exact ih _ _ _ _ _ _ ⟨x + 1, rfl, d, by rw [stp], by rw [stp]; exact iZ_n x, rfl, by rw [stp]; exact ⟨by show -1 ≤ gW _ _; omega, gb.2, by show -1 ≤ (x : Int); omega, by show (x : Int) < ((x + 1 : Nat) : Int); omega, fun q => by have q : (x : Int) = -1 := q; omega⟩⟩ (by rw [nI_clamp (by omega), nI_clamp (by omega)]; omega)
    · rintro v12 rfl
      have stp : lrn F (some Λ) T u (x + 1) = lrn F (some Λ) T u x := by rw [lrn, if_pos e]
      exact ih _ _ _ _ _ _ ⟨x + 1, rfl, d, by rw [stp], by rw [stp], rfl, by rw [stp]; exact ⟨B1, B2, B3, by omega, B5⟩⟩ (by rw [nI_clamp (by omega), nI_clamp (by omega)]; omega)
set_option maxHeartbeats 1000000 in
theorem cs_learnN {SO SB Std SPt SJt : Ob} {Sls : Nat → Option Nat} {F : FtT} {T : TdT} (hF : cF SB F) (hI : ∀ Q : Option Nat → Prop, Q none → w_X6_lawInForce SB Sls Q) (ok : okT (qfN F) T) (hT : cT Std T) {x1 x2 : Int32} {Q : Int32 → Ob → Ob → Ob → Prop} (hqn : ((decide (0 ≤ x1) && decide (x1 < nI (qfK F))) = false ∨ (decide (0 ≤ x2) && decide (x2 ≤ 1)) = false) → Q (-1) SB SPt SJt) (hq : ∀ u, u < qfK F → x1 = nI u → (decide (0 ≤ x2) && decide (x2 ≤ 1)) = true → ∀ SP' SJ', Q (iZ (lnV F none T u (decide (x2 = 0)))) SB SP' SJ') : w_X8_learnN SO SB Sls Std SPt SJt x1 x2 Q := by
  have h10 := hF.1.1
  have hK := hF.1.2.2.1
  have b4 := hF.2.1
  have b50 := hF.2.2.1
  unfold w_X8_learnN
  rw [s_seats, b50]
  refine bi_b (fun c => hqn (Or.inl c)) (fun c => ⟨fun c2 => hqn (Or.inr (by rw [decide_eq_false (Int32.not_le.mpr c2)]; rfl)), fun c2 => ⟨fun c3 => ?_, fun c3 => hqn (Or.inr (by rw [decide_eq_false c3, Bool.and_false]))⟩⟩)
  obtain ⟨u, hu, rfl⟩ := nI_ofL (by omega) c
  have hw : (decide (0 ≤ x2) && decide (x2 ≤ 1)) = true := by rw [decide_eq_true (Int32.not_lt.mp c2), decide_eq_true c3]; rfl
  have hq := hq u hu rfl hw
  refine wl6_i (fun x5 x4 x3 S6 S7 S8 => ∃ x, x5 = nI x ∧ x ≤ qfN F ∧ x4 = iZ (lrn F none T u x).1 ∧ x3 = iZ (lrn F none T u x).2 ∧ S6 = SB ∧ lrB (lrn F none T u x) x) (fun x5 _ _ _ _ _ => 10 - x5.toNatClampNeg) ?_ _ _ _ _ _ _ ⟨0, rfl, Nat.zero_le _, iZ_m1, iZ_m1, rfl, lrB_0⟩
  rintro L x5 x4 x3 S6 S7 S8 ⟨x, rfl, hx, rfl, rfl, rfl, hB⟩ ih
  obtain ⟨B1, B2, B3, B4, B5⟩ := hB
  rw [b4]
  refine le_b (qfN F) x (by omega) (by omega) (fun d => ?_) (fun d => ⟨vp_in_nI (by omega) (by decide), ?_⟩)
  · have : x = qfN F := by omega
    subst this
    refine ⟨fun e => ?_, fun e => ?_⟩
    · have := hq S7 S8
      rw [decide_eq_false e] at this
      exact this
    · have := hq S7 S8
      rw [decide_eq_true e] at this
      exact this
  · obtain ⟨f0, f1, f2, f3⟩ := hF.2.2.2.2.2 x d
    have hs16 := (hF.1.2.2.2.2 x d).2.2.2
    rw [nI_clamp (by omega), f3, nI_1]
    refine bh_b (by omega) (by omega) (fun e => ?_) (fun e => ?_)
    · have stp : lrn F none T u (x + 1) = if (lrn F none T u x).1 < gW (plF (knw F x u) none) T then (gW (plF (knw F x u) none) T, (x : Int)) else lrn F none T u x := by rw [lrn, if_neg (by rw [e]; decide)]
      refine s_wikN hF hI ok hT d hu (fun gb SP' SJ' => zle_b _ _ (by omega) (fun g => ?_) (fun g => ?_))
      · rintro v18 rfl
        rw [if_neg (by omega)] at stp
        exact ih _ _ _ _ _ _ ⟨x + 1, rfl, d, by rw [stp], by rw [stp], rfl, by rw [stp]; exact ⟨B1, B2, B3, by omega, B5⟩⟩ (by rw [nI_clamp (by omega), nI_clamp (by omega)]; omega)
      · rintro v19 rfl
        rw [if_pos g] at stp
        exact ih _ _ _ _ _ _ ⟨x + 1, rfl, d, by rw [stp], by rw [stp]; exact iZ_n x, rfl, by rw [stp]; exact ⟨by show -1 ≤ gW _ _; omega, gb.2, by show -1 ≤ (x : Int); omega, by show (x : Int) < ((x + 1 : Nat) : Int); omega, fun q => by have q : (x : Int) = -1 := q; omega⟩⟩ (by rw [nI_clamp (by omega), nI_clamp (by omega)]; omega)
    · rintro v12 rfl
      have stp : lrn F none T u (x + 1) = lrn F none T u x := by rw [lrn, if_pos e]
      exact ih _ _ _ _ _ _ ⟨x + 1, rfl, d, by rw [stp], by rw [stp], rfl, by rw [stp]; exact ⟨B1, B2, B3, by omega, B5⟩⟩ (by rw [nI_clamp (by omega), nI_clamp (by omega)]; omega)
set_option maxHeartbeats 1000000 in
theorem cs_learnA {aLw : Nat → Nat} {SLw : Lw} {SO SB Std : Ob} {Sls : Nat → Option Nat} {F : FtT} {Λ : List ClT} {T : TdT} (hF : cF SB F) (hL : lawC SLw Λ) (hI : ∀ Q : Option Nat → Prop, Q (some (aLw 0)) → w_X6_lawInForce SB Sls Q) (ok : okT (qfN F) T) (hT : cT Std T) {x1 x2 : Int32} {Q : Int32 → Ob → Option ((Nat → Nat → Nat) × Ob × Ob) → Prop} (hqn : ((decide (0 ≤ x1) && decide (x1 < nI (qfK F))) = false ∨ (decide (0 ≤ x2) && decide (x2 ≤ 1)) = false) → Q (-1) SB none) (hq : ∀ u, u < qfK F → x1 = nI u → (decide (0 ≤ x2) && decide (x2 ≤ 1)) = true → ∀ So', Q (iZ (lnV F (some Λ) T u (decide (x2 = 0)))) SB So') : w_X8_learnA aLw SO SB Sls Std SLw x1 x2 Q := by
  have h10 := hF.1.1
  have hK := hF.1.2.2.1
  have b4 := hF.2.1
  have b50 := hF.2.2.1
  unfold w_X8_learnA
  rw [s_seats, b50]
  refine bi_b (fun c => hqn (Or.inl c)) (fun c => ⟨fun c2 => hqn (Or.inr (by rw [decide_eq_false (Int32.not_le.mpr c2)]; rfl)), fun c2 => ⟨fun c3 => ?_, fun c3 => hqn (Or.inr (by rw [decide_eq_false c3, Bool.and_false]))⟩⟩)
  obtain ⟨u, hu, rfl⟩ := nI_ofL (by omega) c
  have hw : (decide (0 ≤ x2) && decide (x2 ≤ 1)) = true := by rw [decide_eq_true (Int32.not_lt.mp c2), decide_eq_true c3]; rfl
  have hq := hq u hu rfl hw
  refine wl5_i (fun x5 x4 x3 S6 So => ∃ x, x5 = nI x ∧ x ≤ qfN F ∧ x4 = iZ (lrn F (some Λ) T u x).1 ∧ x3 = iZ (lrn F (some Λ) T u x).2 ∧ S6 = SB ∧ lrB (lrn F (some Λ) T u x) x) (fun x5 _ _ _ _ => 10 - x5.toNatClampNeg) ?_ _ _ _ _ _ ⟨0, rfl, Nat.zero_le _, iZ_m1, iZ_m1, rfl, lrB_0⟩
  rintro L x5 x4 x3 S6 So ⟨x, rfl, hx, rfl, rfl, rfl, hB⟩ ih
  obtain ⟨B1, B2, B3, B4, B5⟩ := hB
  rw [b4]
  refine le_b (qfN F) x (by omega) (by omega) (fun d => ?_) (fun d => ⟨vp_in_nI (by omega) (by decide), ?_⟩)
  · have : x = qfN F := by omega
    subst this
    refine ⟨fun e => ?_, fun e => ?_⟩
    · have := hq So
      rw [decide_eq_false e] at this
      exact this
    · have := hq So
      rw [decide_eq_true e] at this
      exact this
  · obtain ⟨f0, f1, f2, f3⟩ := hF.2.2.2.2.2 x d
    have hs16 := (hF.1.2.2.2.2 x d).2.2.2
    rw [nI_clamp (by omega), f3, nI_1]
    refine bh_b (by omega) (by omega) (fun e => ?_) (fun e => ?_)
    · have stp : lrn F (some Λ) T u (x + 1) = if (lrn F (some Λ) T u x).1 < gW (plF (knw F x u) (some Λ)) T then (gW (plF (knw F x u) (some Λ)) T, (x : Int)) else lrn F (some Λ) T u x := by rw [lrn, if_neg (by rw [e]; decide)]
      cases So with
      | none =>
        rw [w_wik_n]
        refine s_wikA hF hL hI ok hT d hu (fun gb ut SP' SJ' => zle_b _ _ (by omega) (fun g => ?_) (fun g => ?_))
        · rintro v18 rfl
          rw [if_neg (by omega)] at stp
          exact ih _ _ _ _ _ ⟨x + 1, rfl, d, by rw [stp], by rw [stp], rfl, by rw [stp]; exact ⟨B1, B2, B3, by omega, B5⟩⟩ (by rw [nI_clamp (by omega), nI_clamp (by omega)]; omega)
        · rintro v19 rfl
          rw [if_pos g] at stp
          exact ih _ _ _ _ _ ⟨x + 1, rfl, d, by rw [stp], by rw [stp]; exact iZ_n x, rfl, by rw [stp]; exact ⟨by show -1 ≤ gW _ _; omega, gb.2, by show -1 ≤ (x : Int); omega, by show (x : Int) < ((x + 1 : Nat) : Int); omega, fun q => by have q : (x : Int) = -1 := q; omega⟩⟩ (by rw [nI_clamp (by omega), nI_clamp (by omega)]; omega)
      | some q =>
        obtain ⟨ut, SP8, SJ8⟩ := q
        rw [w_wik_s]
        refine s_wik hF hL hI ok hT d hu (fun gb SP' SJ' => zle_b _ _ (by omega) (fun g => ?_) (fun g => ?_))
        · rintro v18 rfl
          rw [if_neg (by omega)] at stp
          exact ih _ _ _ _ _ ⟨x + 1, rfl, d, by rw [stp], by rw [stp], rfl, by rw [stp]; exact ⟨B1, B2, B3, by omega, B5⟩⟩ (by rw [nI_clamp (by omega), nI_clamp (by omega)]; omega)
        · rintro v19 rfl
          rw [if_pos g] at stp
          exact ih _ _ _ _ _ ⟨x + 1, rfl, d, by rw [stp], by rw [stp]; exact iZ_n x, rfl, by rw [stp]; exact ⟨by show -1 ≤ gW _ _; omega, gb.2, by show -1 ≤ (x : Int); omega, by show (x : Int) < ((x + 1 : Nat) : Int); omega, fun q => by have q : (x : Int) = -1 := q; omega⟩⟩ (by rw [nI_clamp (by omega), nI_clamp (by omega)]; omega)
    · rintro v12 rfl
      have stp : lrn F (some Λ) T u (x + 1) = lrn F (some Λ) T u x := by rw [lrn, if_pos e]
      exact ih _ _ _ _ _ ⟨x + 1, rfl, d, by rw [stp], by rw [stp], rfl, by rw [stp]; exact ⟨B1, B2, B3, by omega, B5⟩⟩ (by rw [nI_clamp (by omega), nI_clamp (by omega)]; omega)
set_option maxHeartbeats 1000000 in
theorem cs_learnNA {SO SB Std : Ob} {Sls : Nat → Option Nat} {F : FtT} {T : TdT} (hF : cF SB F) (hI : ∀ Q : Option Nat → Prop, Q none → w_X6_lawInForce SB Sls Q) (ok : okT (qfN F) T) (hT : cT Std T) {x1 x2 : Int32} {Q : Int32 → Ob → Option ((Nat → Nat → Nat) × Ob × Ob) → Prop} (hqn : ((decide (0 ≤ x1) && decide (x1 < nI (qfK F))) = false ∨ (decide (0 ≤ x2) && decide (x2 ≤ 1)) = false) → Q (-1) SB none) (hq : ∀ u, u < qfK F → x1 = nI u → (decide (0 ≤ x2) && decide (x2 ≤ 1)) = true → ∀ So', Q (iZ (lnV F none T u (decide (x2 = 0)))) SB So') : w_X8_learnNA SO SB Sls Std x1 x2 Q := by
  have h10 := hF.1.1
  have hK := hF.1.2.2.1
  have b4 := hF.2.1
  have b50 := hF.2.2.1
  unfold w_X8_learnNA
  rw [s_seats, b50]
  refine bi_b (fun c => hqn (Or.inl c)) (fun c => ⟨fun c2 => hqn (Or.inr (by rw [decide_eq_false (Int32.not_le.mpr c2)]; rfl)), fun c2 => ⟨fun c3 => ?_, fun c3 => hqn (Or.inr (by rw [decide_eq_false c3, Bool.and_false]))⟩⟩)
  obtain ⟨u, hu, rfl⟩ := nI_ofL (by omega) c
  have hw : (decide (0 ≤ x2) && decide (x2 ≤ 1)) = true := by rw [decide_eq_true (Int32.not_lt.mp c2), decide_eq_true c3]; rfl
  have hq := hq u hu rfl hw
  refine wl5_i (fun x5 x4 x3 S6 So => ∃ x, x5 = nI x ∧ x ≤ qfN F ∧ x4 = iZ (lrn F none T u x).1 ∧ x3 = iZ (lrn F none T u x).2 ∧ S6 = SB ∧ lrB (lrn F none T u x) x) (fun x5 _ _ _ _ => 10 - x5.toNatClampNeg) ?_ _ _ _ _ _ ⟨0, rfl, Nat.zero_le _, iZ_m1, iZ_m1, rfl, lrB_0⟩
  rintro L x5 x4 x3 S6 So ⟨x, rfl, hx, rfl, rfl, rfl, hB⟩ ih
  obtain ⟨B1, B2, B3, B4, B5⟩ := hB
  rw [b4]
  refine le_b (qfN F) x (by omega) (by omega) (fun d => ?_) (fun d => ⟨vp_in_nI (by omega) (by decide), ?_⟩)
  · have : x = qfN F := by omega
    subst this
    refine ⟨fun e => ?_, fun e => ?_⟩
    · have := hq So
      rw [decide_eq_false e] at this
      exact this
    · have := hq So
      rw [decide_eq_true e] at this
      exact this
  · obtain ⟨f0, f1, f2, f3⟩ := hF.2.2.2.2.2 x d
    have hs16 := (hF.1.2.2.2.2 x d).2.2.2
    rw [nI_clamp (by omega), f3, nI_1]
    refine bh_b (by omega) (by omega) (fun e => ?_) (fun e => ?_)
    · have stp : lrn F none T u (x + 1) = if (lrn F none T u x).1 < gW (plF (knw F x u) none) T then (gW (plF (knw F x u) none) T, (x : Int)) else lrn F none T u x := by rw [lrn, if_neg (by rw [e]; decide)]
      cases So with
      | none =>
        rw [w_wikN_n]
        refine s_wikNA hF hI ok hT d hu (fun gb ut SP' SJ' => zle_b _ _ (by omega) (fun g => ?_) (fun g => ?_))
        · rintro v18 rfl
          rw [if_neg (by omega)] at stp
          exact ih _ _ _ _ _ ⟨x + 1, rfl, d, by rw [stp], by rw [stp], rfl, by rw [stp]; exact ⟨B1, B2, B3, by omega, B5⟩⟩ (by rw [nI_clamp (by omega), nI_clamp (by omega)]; omega)
        · rintro v19 rfl
          rw [if_pos g] at stp
          exact ih _ _ _ _ _ ⟨x + 1, rfl, d, by rw [stp], by rw [stp]; exact iZ_n x, rfl, by rw [stp]; exact ⟨by show -1 ≤ gW _ _; omega, gb.2, by show -1 ≤ (x : Int); omega, by show (x : Int) < ((x + 1 : Nat) : Int); omega, fun q => by have q : (x : Int) = -1 := q; omega⟩⟩ (by rw [nI_clamp (by omega), nI_clamp (by omega)]; omega)
      | some q =>
        obtain ⟨ut, SP8, SJ8⟩ := q
        rw [w_wikN_s]
        refine s_wikN hF hI ok hT d hu (fun gb SP' SJ' => zle_b _ _ (by omega) (fun g => ?_) (fun g => ?_))
        · rintro v18 rfl
          rw [if_neg (by omega)] at stp
          exact ih _ _ _ _ _ ⟨x + 1, rfl, d, by rw [stp], by rw [stp], rfl, by rw [stp]; exact ⟨B1, B2, B3, by omega, B5⟩⟩ (by rw [nI_clamp (by omega), nI_clamp (by omega)]; omega)
        · rintro v19 rfl
          rw [if_pos g] at stp
          exact ih _ _ _ _ _ ⟨x + 1, rfl, d, by rw [stp], by rw [stp]; exact iZ_n x, rfl, by rw [stp]; exact ⟨by show -1 ≤ gW _ _; omega, gb.2, by show -1 ≤ (x : Int); omega, by show (x : Int) < ((x + 1 : Nat) : Int); omega, fun q => by have q : (x : Int) = -1 := q; omega⟩⟩ (by rw [nI_clamp (by omega), nI_clamp (by omega)]; omega)
    · rintro v12 rfl
      have stp : lrn F none T u (x + 1) = lrn F none T u x := by rw [lrn, if_pos e]
      exact ih _ _ _ _ _ ⟨x + 1, rfl, d, by rw [stp], by rw [stp], rfl, by rw [stp]; exact ⟨B1, B2, B3, by omega, B5⟩⟩ (by rw [nI_clamp (by omega), nI_clamp (by omega)]; omega)
