/-! ===== texts of laws: the reference's evaluation, sums ===== -/
def evK (φ : Nat → Int) (K : TkT) (t : Nat) (S0 : Ob) : Prop := okK K ∧ t < 6 ∧ S0.1 20 = nI (400 * t + kN K) ∧ (∀ i, i < kN K → S0.2 3 (145 + 400 * t + i) = nI (kC K i) ∧ vR (S0.2 3 (2545 + 400 * t + i)) (kV K i)) ∧ ∀ k, k < 8 → S0.2 22 k = iZ (φ k) ∧ sml (φ k)
def smE (S0 S : Ob) : Prop := S.2 = S0.2 ∧ ∀ k, k ≠ 19 → k ≠ 21 → S.1 k = S0.1 k
def atE (S0 : Ob) (K : TkT) (t : Nat) (S : Ob) (p : Nat) (b : Bool) : Prop := smE S0 S ∧ S.1 19 = nI (400 * t + p) ∧ S.1 21 = bI b ∧ p ≤ kN K
def ouV (x b : Bool) (o : Option Int) : Int := if x = true ∧ b = false then o.getD 0 else 0
def ouB (x b : Bool) (o : Option Int) : Bool := if x = true ∧ b = false then o.isNone else b
def smO (o : Option Int) : Prop := ∀ v, o = some v → sml v
theorem ouV_s {x b : Bool} {o : Option Int} (h : smO o) : sml (ouV x b o) := by
  unfold ouV
  split
  · cases o with
    | none => exact ⟨by decide, by decide⟩
    | some v => exact h v rfl
  · exact ⟨by decide, by decide⟩
def evQ (S0 : Ob) (K : TkT) (t : Nat) (φ : Nat → Int) (F : (Int64 → Ob → Prop) → Prop) (x b : Bool) (r : Nat × Nat × Den) : Prop := ∀ Q : Int64 → Ob → Prop, (∀ S', atE S0 K t S' r.1 (ouB x b (r.2.2 φ)) → smO (r.2.2 φ) → Q (lZ (ouV x b (r.2.2 φ))) S') → F Q
section
variable {φ : Nat → Int} {K : TkT} {t : Nat} {S0 : Ob}
theorem e_code (ev : evK φ K t S0) {S : Ob} {p : Nat} {b : Bool} (h : atE S0 K t S p b) {Q : Int32 → Prop} (hq : Q (nI (kC K p))) : wM_codeAt S (S.1 19) Q := by
  obtain ⟨hs, h19, h21, hp⟩ := h
  have hn := ev.1.1
  have ht := ev.2.1
  unfold wM_codeAt
  rw [hs.2 20 (by decide) (by decide), ev.2.2.1, h19, hs.1]
  have e1 : (145 + nI (400 * t + p) : Int32) = nI (145 + 400 * t + p) := by
    show nI 145 + nI (400 * t + p) = _
    rw [nI_add, show 145 + (400 * t + p) = 145 + 400 * t + p by omega]
  refine le_b _ _ (by omega) (by omega) (fun c => ?_) (fun c => ?_)
  · rw [ev.1.2.1 p (by omega)] at hq; exact hq
  · rw [e1, nI_clamp (by omega), (ev.2.2.2.1 p (by omega)).1]
    exact ⟨vp_in_nI (by omega) (by decide), hq⟩
theorem e_step {S : Ob} {p : Nat} {b : Bool} (h : atE S0 K t S p b) (hp : p < kN K) : atE S0 K t (uS S 19 (S.1 19 + 1)) (p + 1) b := by
  obtain ⟨hs, h19, h21, _⟩ := h
  refine ⟨⟨hs.1, fun k k1 k2 => ?_⟩, ?_, h21, hp⟩
  · rw [uS_1, if_neg k1]; exact hs.2 k k1 k2
  · rw [uS_1, if_pos rfl, h19, nI_1, show 400 * t + p + 1 = 400 * t + (p + 1) by omega]
theorem e_pass (ev : evK φ K t S0) {S : Ob} {p : Nat} {b : Bool} (h : atE S0 K t S p b) {k : Nat} (hk0 : k ≠ 0) (hk : k < 2 ^ 31) {Q : Int32 → Ob → Prop} (hy : kC K p = k → p < kN K → ∀ S', atE S0 K t S' (p + 1) b → Q 1 S') (hn : kC K p ≠ k → Q 0 S) : wM_passes0 S (nI k) Q := by
  have hc := ev.1.2.2.1 p
  unfold wM_passes0
  refine e_code ev h (jn_g (fun J => (kC K p = k → J 1) ∧ (kC K p ≠ k → J 0)) ⟨fun e => ?_, fun e => ?_⟩ (fun J hJ => qe_b _ _ (by omega) hk hJ.1 hJ.2))
  · have hlt : p < kN K := okK_i ev.1 (by omega)
    refine br_n (by decide) ?_
    rintro S5 rfl
    exact ⟨rfl, hy e hlt _ (e_step h hlt)⟩
  · exact br_y rfl ⟨rfl, hn e⟩
theorem e_bounded {S : Ob} {q : Nat} {b' : Bool} (h : atE S0 K t S q b') {z : Int} (hz : mdl z) (x : Bool) {Q : Int64 → Ob → Prop} (hq : ∀ S', atE S0 K t S' q (b' || (x && (bnd z).isNone)) → Q (lZ (if (b' || (x && (bnd z).isNone)) = true then 0 else z)) S') : wM_bounded S (lZ z) (bI x) Q := by
  have l1 : (1000000000 : Int64) = lZ 1000000000 := by decide
  have l2 : (-1000000000 : Int64) = lZ (-1000000000) := by decide
  unfold wM_bounded
  refine jn_g (fun J => ∀ S', atE S0 K t S' q (b' || (x && (bnd z).isNone)) → J S') (fun S' h' => ?_) (fun J hJ => ?_)
  · have hq := hq S' h'
    rw [h'.2.2.1]
    refine bi_b (fun e => ?_) (fun e => ?_)
    · rw [e, if_neg (by decide)] at hq; exact hq
    · rw [e, if_pos rfl] at hq; exact hq
  · cases x
    · refine br_y rfl (hJ S ?_)
      rw [Bool.false_and, Bool.or_false]; exact h
    · rw [Bool.true_and] at hJ
      refine br_n (by decide) (jn_g (fun J2 => (bnd z).isNone = true → J2 ()) (fun e => ?_) (fun J2 hJ2 => ?_))
      · rintro S6 rfl
        rw [e, Bool.or_true] at hJ
        refine hJ _ ⟨⟨h.1.1, fun k k1 k2 => ?_⟩, h.2.1, rfl, h.2.2.2⟩
        rw [uS_1, if_neg k2]; exact h.1.2 k k1 k2
      · rw [lg_cmp_gt, lg_cmp_ge, l2, l1, lZ_lt (by unfold mdl; omega) hz, lZ_le (by unfold mdl; omega) hz]
        have bn : (bnd z).isNone = true ↔ ¬ (z ≤ 1000000000 ∧ -1000000000 ≤ z) := by
          unfold bnd
          split <;> simp_all
        refine ⟨fun c => hJ2 (bn.mpr (by omega)), fun c => ⟨fun c2 => hJ S ?_, fun c2 => hJ2 (bn.mpr (by omega))⟩⟩
        have : (bnd z).isNone = false := by
          cases hb : (bnd z).isNone
          · rfl
          · exact absurd (bn.mp hb) (by omega)
        rw [this, Bool.or_false]; exact h
theorem e_part (ev : evK φ K t S0) {rec' : Ob → Int32 → (Int64 → Ob → Prop) → Prop} {rec : Nat → Nat → Nat → PrT} {deep : Nat} (hrec : ∀ S p lv x b r, atE S0 K t S p b → rec (deep + 1) p lv = .inr r → evQ S0 K t φ (rec' S (bI x)) x b r) {S : Ob} {p lv : Nat} {x b : Bool} {r : Nat × Nat × Den} (h : atE S0 K t S p b) (hr : mPart (kC K) (kV K) rec deep p lv = .inr r) : evQ S0 K t φ (wM_partOf rec' S (bI x)) x b r := by
  intro Q hq
  have hn := ev.1.1
  have ht := ev.2.1
  have hc := ev.1.2.2.1 p
  unfold mPart at hr
  unfold wM_partOf wM_sign
  rw [show (100 + 91 : Int32) = nI 191 from by decide]
  refine e_pass ev h (by decide) (by decide) (fun e hlt S4 h4 => br_n (by decide) ?_) (fun e => br_y rfl ?_)
  · rw [if_pos e] at hr
    split at hr
    · exact absurd hr (by simp)
    · obtain ⟨y, ey, hr⟩ := el_inr hr
      split at hr
      · rename_i e3
        injection hr with hr
        subst hr
        refine hrec S4 _ _ x b y h4 ey _ (fun S15 h15 hsm => ?_)
        rintro S17 rfl
        exact hq _ (e_step h15 (okK_i ev.1 (by omega))) hsm
      · exact absurd hr (by simp)
  · rw [if_neg e] at hr
    split at hr
    · rename_i hy
      split at hr
      · exact absurd hr (by simp)
      · injection hr with hr
        subst hr
        have hlt : p < kN K := okK_i ev.1 (by omega)
        refine e_code ev h ?_
        rintro S8 rfl
        have h8 := e_step h hlt
        have hsm : smO (some (if kC K p = 50 then (kV K p : Int) else φ (kC K p - 8))) := by
          intro v hv
          injection hv with hv
          subst hv
          split
          · unfold sml; omega
          · exact (ev.2.2.2.2 _ (by omega)).2
        have hq2 := fun w hw => hq (uS S 19 (S.1 19 + 1)) w hw
        have hq3 : ouB x b (some (if kC K p = 50 then (kV K p : Int) else φ (kC K p - 8))) = b → Q (lZ (ouV x b (some (if kC K p = 50 then (kV K p : Int) else φ (kC K p - 8))))) (uS S 19 (S.1 19 + 1)) := fun eb => hq2 (by show atE _ _ _ _ _ (ouB x b (some _)); rw [eb]; exact h8) hsm
        cases x
        · exact br_y rfl (hq3 rfl)
        · refine br_n (by decide) ?_
          rw [h8.2.2.1]
          cases b
          · have hq4 := hq3 rfl
            have hsm' := hsm _ rfl
            have e0 : ouV true false (some (if kC K p = 50 then (kV K p : Int) else φ (kC K p - 8))) = if kC K p = 50 then (kV K p : Int) else φ (kC K p - 8) := rfl
            rw [e0, ← toL hsm'] at hq4
            refine br_y rfl (qe_b _ 50 (by omega) (by decide) (fun e50 => ?_) (fun e50 => ?_))
            · rw [if_pos e50] at hq4
              have e1 : (2545 + (uS S 19 (S.1 19 + 1)).1 19 - 1 : Int32) = nI (2545 + 400 * t + p) := by
                rw [h8.2.1]
                show nI 2545 + nI (400 * t + (p + 1)) - nI 1 = _
                rw [nI_add, pk_sub (by omega), show 2545 + (400 * t + (p + 1)) - 1 = 2545 + 400 * t + p by omega]
              rw [e1, nI_clamp (by omega), uS_2, h.1.1]
              obtain ⟨v, v1, v2, v3, v4⟩ := (ev.2.2.2.1 p hlt).2
              rw [v1, v3 (by omega), iZ_n]
              exact ⟨vp_in_nI (by omega) (by decide), hq4⟩
            · rw [if_neg e50] at hq4
              have e1 : (nI (kC K p) - 8 : Int32) = nI (kC K p - 8) := pk_sub (b := 8) (by omega)
              rw [e1, nI_clamp (by omega), uS_2, h.1.1, (ev.2.2.2.2 _ (by omega)).1]
              exact ⟨vp_in_nI (by omega) (by decide), hq4⟩
          · exact br_n (by decide) (hq3 rfl)
    · exact absurd hr (by simp)
end
