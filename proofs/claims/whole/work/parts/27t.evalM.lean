/-! ===== texts of laws: the reference's evaluation, terms and sums ===== -/
section
variable {φ : Nat → Int} {K : TkT} {t : Nat} {S0 : Ob}
def fDiv (a b : Int) : Option Int := if b = 0 then none else bnd (a.tdiv b)
theorem fDiv_s {a e v : Int} (h : fDiv a e = some v) : sml v := by
  unfold fDiv at h
  split at h
  · exact absurd h (by simp)
  · exact (bnd_s h).2
theorem e_stepM {x b : Bool} {k : Nat} {D E : Den} {q : Nat} {S21 : Ob} {t17 : Int32} {L : Int64 → Ob → Prop} (g1 : k = 142 → t17 = 1) (g2 : k ≠ 142 → k = 147 ∧ t17 = 0) (h : atE S0 K t S21 q (ouB x (ouB x b (D φ)) (E φ))) (hD : smO (D φ)) (hE : smO (E φ)) (hq : ∀ S', atE S0 K t S' q (ouB x b (cbMul k D E φ)) → smO (cbMul k D E φ) → L (lZ (ouV x b (cbMul k D E φ))) S') :
    jn (fun (x5_23 : Int64) (S24 : Ob) => jn (fun (t26 : Int64) => wM_bounded S24 t26 (bI x) (fun (r28 : Int64) (S29 : Ob) => L r28 S29)) (fun J27 => ((t17 = 0 → ¬ x5_23 = 0 ∧ J27 (lZ (ouV x b (D φ)) / x5_23)) ∧ (¬ t17 = 0 → J27 (lZ (ouV x b (D φ)) * x5_23))))) (fun J25 => ((¬ t17 = 0 → J25 (lZ (ouV x (ouB x b (D φ)) (E φ))) S21) ∧ (t17 = 0 → ((¬ (lg_cmp (lZ (ouV x (ouB x b (D φ)) (E φ))) 0) = 0 → J25 (lZ (ouV x (ouB x b (D φ)) (E φ))) S21) ∧ ((lg_cmp (lZ (ouV x (ouB x b (D φ)) (E φ))) 0) = 0 → jn (fun (t33 : Int32) => narrow .boolean (.int t33) = .int t33 ∧ fits .boolean (.int t33) = true ∧ ∀ S37 : Ob, S37 = uS S21 21 t33 → J25 1 S37) (fun J34 => jn (fun (z38 : Unit) => J34 1) (fun J39 => ((¬ (S21.1 21) = 0 → J39 ()) ∧ ((S21.1 21) = 0 → ((bI x = 0 → J34 0) ∧ (¬ bI x = 0 → J39 ()))))))))))) := by
  have s1 := ouV_s (x := x) (b := b) hD
  have s2 := ouV_s (x := x) (b := ouB x b (D φ)) hE
  by_cases e : k = 142
  · have ec : cbMul k D E φ = (D φ).bind (fun a => (E φ).bind (fun b => bnd (a * b))) := by
      unfold cbMul dO2
      rw [if_pos e]
    rw [g1 e, jn_d, jn_d]
    refine rb_n (by decide) (br_n (by decide) ?_)
    rw [lZ_mul]
    refine e_bounded h (sml_mul s1 s2) x (fun S' h' => ?_)
    obtain ⟨c1, c2⟩ := bn_o (x := x) (b := b) (o1 := D φ) (o2 := E φ) (f := fun a b => bnd (a * b)) (g := fun a b => a * b) (fun _ _ => rfl) rfl _ rfl
    rw [c1] at h'
    rw [c2]
    rw [ec] at hq
    exact hq S' h' (smO_bnd (fun a e v hv => (bnd_s hv).2))
  · have ec : cbMul k D E φ = (D φ).bind (fun a => (E φ).bind (fun b => fDiv a b)) := by
      unfold cbMul dO2 fDiv
      rw [if_neg e]
    rw [ec] at hq
    have hq := fun S' h' => hq S' h' (smO_bnd (fun a e v hv => fDiv_s hv))
    rw [(g2 e).2, jn_d]
    refine rb_y rfl ?_
    have z0 : ∀ z : Int, sml z → (lZ z = 0 ↔ z = 0) := fun z hz => lZ_eq (b := 0) hz.md (by unfold mdl; omega)
    rw [lg_cmp_eq]
    rw [z0 _ s2]
    refine ⟨fun c => ?_, fun c => ?_⟩
    · show jn (fun (t26 : Int64) => wM_bounded S21 t26 (bI x) (fun (r28 : Int64) (S29 : Ob) => L r28 S29)) (fun J27 => (((0 : Int32) = 0 → ¬ lZ (ouV x (ouB x b (D φ)) (E φ)) = 0 ∧ J27 (lZ (ouV x b (D φ)) / lZ (ouV x (ouB x b (D φ)) (E φ)))) ∧ (¬ (0 : Int32) = 0 → J27 (lZ (ouV x b (D φ)) * lZ (ouV x (ouB x b (D φ)) (E φ))))))
      rw [jn_d]
      refine br_y rfl ⟨fun q => c ((z0 _ s2).mp q), ?_⟩
      rw [lZ_div s1 s2]
      refine e_bounded h (sml_div s1).md x (fun S' h' => ?_)
      obtain ⟨c1, c2⟩ := bn_o (x := x) (b := b) (o1 := D φ) (o2 := E φ) (f := fun a b => bnd (a.tdiv b)) (g := fun a b => a.tdiv b) (fun _ _ => rfl) rfl _ rfl
      rw [c1] at h'
      rw [c2]
      have ee : ((D φ).bind (fun a => (E φ).bind (fun b => bnd (a.tdiv b)))) = (D φ).bind (fun a => (E φ).bind (fun b => fDiv a b)) := by
        cases hd : D φ with
        | none => rfl
        | some a =>
          cases he : E φ with
          | none => rfl
          | some v =>
            rw [hd, he] at c
            show bnd (a.tdiv v) = fDiv a v
            unfold fDiv
            rw [if_neg]
            intro hv
            apply c
            unfold ouV
            split
            · exact hv
            · rfl
      rw [ee] at h' ⊢
      exact hq S' h'
    · have l1 : (1 : Int64) = lZ 1 := by decide
      have hB : ouB x (ouB x b (D φ)) (E φ) = true ∨ x = true → ouB x b ((D φ).bind (fun a => (E φ).bind (fun b => fDiv a b))) = true ∧ ouV x b ((D φ).bind (fun a => (E φ).bind (fun b => fDiv a b))) = 0 := by
        intro hh
        cases x
        · rcases hh with hh | hh
          · exact ⟨hh, rfl⟩
          · exact absurd hh (by decide)
        · cases b
          · cases hd : D φ with
            | none => exact ⟨rfl, rfl⟩
            | some a =>
              cases he : E φ with
              | none => exact ⟨rfl, rfl⟩
              | some v =>
                rw [hd, he] at c
                have c : v = 0 := c
                rw [c]
                exact ⟨rfl, rfl⟩
          · exact ⟨rfl, rfl⟩
      have fin : ∀ S37, atE S0 K t S37 q (ouB x (ouB x b (D φ)) (E φ) || x) → jn (fun (t26 : Int64) => wM_bounded S37 t26 (bI x) (fun (r28 : Int64) (S29 : Ob) => L r28 S29)) (fun J27 => (((0 : Int32) = 0 → ¬ (1 : Int64) = 0 ∧ J27 (lZ (ouV x b (D φ)) / 1)) ∧ (¬ (0 : Int32) = 0 → J27 (lZ (ouV x b (D φ)) * 1)))) := by
        intro S37 h37
        rw [jn_d]
        refine br_y rfl ⟨by decide, ?_⟩
        rw [l1, lZ_div s1 ⟨by decide, by decide⟩]
        refine e_bounded h37 (sml_div s1).md x (fun S' h' => ?_)
        by_cases hh : ouB x (ouB x b (D φ)) (E φ) = true ∨ x = true
        · obtain ⟨b1, b2⟩ := hB hh
          have eb : (ouB x (ouB x b (D φ)) (E φ) || x) = true := by
            rcases hh with hh | hh <;> rw [hh] <;> simp
          rw [eb, Bool.true_or] at h' ⊢
          have := hq S'
          rw [b1, b2] at this
          rw [if_pos rfl]
          exact this h'
        · have hx : x = false := by
            cases x
            · rfl
            · exact absurd (Or.inr rfl) hh
          subst hx
          have hb : b = false := by
            cases b
            · rfl
            · exact absurd (Or.inl rfl) hh
          subst hb
          exact hq S' h'
      rw [h.2.2.1]
      refine jn_g (fun J => J (bI (ouB x (ouB x b (D φ)) (E φ) || x))) ?_ (fun J hJ => ?_)
      · refine ⟨?_, ?_, ?_⟩
        · cases (ouB x (ouB x b (D φ)) (E φ) || x) <;> rfl
        · cases (ouB x (ouB x b (D φ)) (E φ) || x) <;> rfl
        · rintro S37 rfl
          refine fin _ ⟨⟨h.1.1, fun k k1 k2 => ?_⟩, h.2.1, rfl, h.2.2.2⟩
          rw [uS_1, if_neg k2]; exact h.1.2 k k1 k2
      · rw [jn_d]
        refine ib_b (fun q1 => bi_b (fun q2 => ?_) (fun q2 => ?_)) (fun q1 => ?_)
        · rw [q1, q2] at hJ; exact hJ
        · rw [q2, Bool.or_true] at hJ; exact hJ
        · rw [q1, Bool.true_or] at hJ; exact hJ
theorem e_term (ev : evK φ K t S0) {rec' : Ob → Int32 → (Int64 → Ob → Prop) → Prop} {rec : Nat → Nat → Nat → PrT} {deep : Nat} (hr0 : incP (rec (deep + 1))) (hrec : ∀ S p lv x b r, atE S0 K t S p b → rec (deep + 1) p lv = .inr r → evQ S0 K t φ (rec' S (bI x)) x b r) {S : Ob} {p lv : Nat} {x b : Bool} {r : Nat × Nat × Den} (h : atE S0 K t S p b) (hr : mTerm (kC K) (kV K) rec deep p lv = .inr r) : evQ S0 K t φ (wM_termOf rec' S (bI x)) x b r := by
  intro Q hq
  unfold mTerm at hr
  obtain ⟨y, ey, hr⟩ := el_inr hr
  unfold wM_termOf
  refine e_part ev hrec h ey _ (fun S2 h2 hs2 => ?_)
  exact e_loop2 ev (A := 42) (B := 47) (a := 142) (c := 147) (by decide) (by decide) (by decide) (io := ioMul) (fun k => by unfold ioMul; rw [decide_eq_true_eq]) (cb := cbMul) (nx := mPart (kC K) (kV K) rec deep) (fun p lv r h => inc_part hr0 p lv r h) (x := x) (b := b) (NX := fun S Q => wM_partOf rec' S (bI x) Q) (fun S p lv b r h e => e_part ev hrec h e) (fun k D E q S21 t17 L g1 g2 hh hD hE hq => e_stepM g1 g2 hh hD hE hq) hr h2 hs2 hq
theorem e_sum (ev : evK φ K t S0) : ∀ d deep (S : Ob) p lv x b r, atE S0 K t S p b → mSum (kC K) (kV K) d deep p lv = .inr r → evQ S0 K t φ (wM_sumOf d S (bI x)) x b r := by
  intro d
  induction d with
  | zero => intro deep S p lv x b r h e; exact absurd e (by simp [mSum])
  | succ d ih =>
    intro deep S p lv x b r h e Q hq
    rw [mSum_s] at e
    have hr0 : incP (mSum (kC K) (kV K) d (deep + 1)) := fun p lv r h => by have := inc_sum d (deep + 1) p lv r h; omega
    have hrec : ∀ S p lv x b r, atE S0 K t S p b → mSum (kC K) (kV K) d (deep + 1) p lv = .inr r → evQ S0 K t φ (wM_sumOf d S (bI x)) x b r := fun S p lv x b r h e => ih (deep + 1) S p lv x b r h e
    obtain ⟨y, ey, e⟩ := el_inr e
    show wM_termOf (wM_sumOf d) S (bI x) _
    refine e_term ev hr0 hrec h ey _ (fun S2 h2 hs2 => ?_)
    exact e_loop2 ev (A := 43) (B := 45) (a := 143) (c := 145) (by decide) (by decide) (by decide) (io := ioAdd) (fun k => by unfold ioAdd; rw [decide_eq_true_eq]) (cb := cbAdd) (nx := mTerm (kC K) (kV K) (mSum (kC K) (kV K) d) deep) (fun p lv r h => inc_term hr0 p lv r h) (x := x) (b := b) (NX := fun S Q => wM_termOf (wM_sumOf d) S (bI x) Q) (fun S p lv b r h e => e_term ev hr0 hrec h e) (fun k D E q S21 t17 L g1 g2 hh hD hE hq => e_stepA g1 g2 hh hD hE hq) e h2 hs2 hq
end
