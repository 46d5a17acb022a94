/-! ===== texts of laws: the reference's evaluation, loops of sums ===== -/
section
variable {φ : Nat → Int} {K : TkT} {t : Nat} {S0 : Ob}
theorem e_loop2 (ev : evK φ K t S0) {A B : Int32} {a c : Nat} (hA : 100 + A = nI a) (hB : 100 + B = nI c) (ha : a ≠ 0 ∧ a < 2 ^ 31 ∧ c ≠ 0 ∧ c < 2 ^ 31) {io : Nat → Bool} (hio : ∀ k, io k = true ↔ k = a ∨ k = c) {cb : Nat → Den → Den → Den} {nx : Nat → Nat → PrT} (hi : ∀ p lv r, nx p lv = .inr r → p + 1 ≤ r.1) {x b : Bool} {NX : Ob → (Int64 → Ob → Prop) → Prop} (hN : ∀ S p lv b r, atE S0 K t S p b → nx p lv = .inr r → evQ S0 K t φ (NX S) x b r)
    {ST : Int32 → Int64 → Int64 → Ob → (Int64 → Ob → Prop) → Prop} (hST : ∀ (k : Nat) (D E : Den) (q : Nat) (S21 : Ob) (t17 : Int32) (L : Int64 → Ob → Prop), (k = a → t17 = 1) → (k ≠ a → k = c ∧ t17 = 0) → atE S0 K t S21 q (ouB x (ouB x b (D φ)) (E φ)) → smO (D φ) → smO (E φ) → (∀ S', atE S0 K t S' q (ouB x b (cb k D E φ)) → smO (cb k D E φ) → L (lZ (ouV x b (cb k D E φ))) S') → ST t17 (lZ (ouV x b (D φ))) (lZ (ouV x (ouB x b (D φ)) (E φ))) S21 L)
    {S2 : Ob} {q lv : Nat} {D : Den} {r : Nat × Nat × Den} (hres : lp (kC K) io cb nx 401 q lv D = .inr r) (h2 : atE S0 K t S2 q (ouB x b (D φ))) (hsm : smO (D φ)) {Q : Int64 → Ob → Prop} (hq : ∀ S', atE S0 K t S' r.1 (ouB x b (r.2.2 φ)) → smO (r.2.2 φ) → Q (lZ (ouV x b (r.2.2 φ))) S') :
    ∃ n, wl2 (fun L6 (x2_4 : Int64) (S5 : Ob) => wM_codeAt S5 (S5.1 19) (fun (r7 : Int32) => wM_sign A (fun (r9 : Int32) => jn (fun (z11 : Unit) => wM_codeAt S5 (S5.1 19) (fun (r13 : Int32) => wM_sign A (fun (r15 : Int32) => jn (fun (t17 : Int32) => ∀ S19 : Ob, S19 = uS S5 19 ((S5.1 19) + 1) → NX S19 (fun (r20 : Int64) (S21 : Ob) => ST t17 x2_4 r20 S21 L6)) (fun J18 => ((¬ r13 = r15 → J18 0) ∧ (r13 = r15 → J18 1)))))) (fun J12 => ((r7 = r9 → J12 ()) ∧ (¬ r7 = r9 → wM_codeAt S5 (S5.1 19) (fun (r45 : Int32) => wM_sign B (fun (r47 : Int32) => ((¬ r45 = r47 → Q x2_4 S5) ∧ (r45 = r47 → J12 ())))))))))) n (lZ (ouV x b (D φ))) S2 := by
  have hn := ev.1.1
  have ht := ev.2.1
  have hz : ∀ q, 401 ≤ q → io (kC K q) = false := okK_z ev.1 (by
    cases e : io 0
    · rfl
    · have := (hio 0).mp e
      omega)
  have hi' : incP nx := fun p lv r h => by have := hi p lv r h; omega
  refine wl2_i (fun x2 S5 => ∃ q lv D, x2 = lZ (ouV x b (D φ)) ∧ atE S0 K t S5 q (ouB x b (D φ)) ∧ smO (D φ) ∧ lp (kC K) io cb nx 401 q lv D = .inr r) (fun _ S5 => 5000 - (S5.1 19).toNatClampNeg) ?_ _ _ ⟨q, lv, D, rfl, h2, hsm, hres⟩
  rintro L x2 S5 ⟨q, lv, D, rfl, h5, hsm, e⟩ ih
  rw [lp_s hz hi'] at e
  have hc := ev.1.2.2.1 q
  have hqn := h5.2.2.2
  unfold wM_sign
  rw [hA, hB]
  have go : io (kC K q) = true → ∀ t17 : Int32, (kC K q = a → t17 = 1) → (kC K q ≠ a → kC K q = c ∧ t17 = 0) → ∀ S19 : Ob, S19 = uS S5 19 ((S5.1 19) + 1) → NX S19 (fun (r20 : Int64) (S21 : Ob) => ST t17 (lZ (ouV x b (D φ))) r20 S21 L) := by
    rintro hop t17 g1 g2 S19 rfl
    rw [if_pos hop] at e
    obtain ⟨y, ey, e⟩ := el_inr e
    have hlt : q < kN K := okK_i ev.1 (fun e0 => by
      have := (hio _).mp hop
      omega)
    refine hN _ _ _ _ y (e_step h5 hlt) ey _ (fun S21 h21 hsE => ?_)
    refine hST (kC K q) D y.2.2 y.1 S21 t17 L g1 g2 h21 hsm hsE (fun S' h' hs' => ?_)
    refine ih _ _ ⟨y.1, y.2.1, _, rfl, h', hs', e⟩ ?_
    have h1 := hi _ _ _ ey
    have h2 := h'.2.2.2
    rw [h'.2.1, h5.2.1, nI_clamp (by omega), nI_clamp (by omega)]
    omega
  refine e_code ev h5 ?_
  refine jn_g (fun J => io (kC K q) = true → J ()) (fun hop => ?_) (fun J hJ => ?_)
  · refine e_code ev h5 (jn_g (fun J => (kC K q = a → J 1) ∧ (kC K q ≠ a → J 0)) ⟨fun e1 => go hop 1 (fun _ => rfl) (fun h => absurd e1 h), fun e1 => go hop 0 (fun h => absurd h e1) (fun h => ⟨((hio _).mp hop).resolve_left h, rfl⟩)⟩ (fun J hJ => qe_b _ _ (by omega) (by omega) hJ.1 hJ.2))
  · refine eq_b _ _ (by omega) (by omega) (fun e1 => hJ ((hio _).mpr (Or.inl e1))) (fun e1 => e_code ev h5 (qe_b _ _ (by omega) (by omega) (fun e2 => hJ ((hio _).mpr (Or.inr e2))) (fun e2 => ?_)))
    rw [if_neg (fun h => ((hio _).mp h).elim e1 e2)] at e
    injection e with e
    subst e
    exact hq S5 h5 hsm
theorem bn_o {x b : Bool} {o1 o2 : Option Int} {f : Int → Int → Option Int} {g : Int → Int → Int} (hf : ∀ a e, f a e = bnd (g a e)) (h00 : bnd (g 0 0) = some 0) : ∀ b2, b2 = ouB x (ouB x b o1) o2 → (b2 || (x && (bnd (g (ouV x b o1) (ouV x (ouB x b o1) o2))).isNone)) = ouB x b (o1.bind (fun a => o2.bind (fun e => f a e))) ∧ (if (b2 || (x && (bnd (g (ouV x b o1) (ouV x (ouB x b o1) o2))).isNone)) = true then 0 else g (ouV x b o1) (ouV x (ouB x b o1) o2)) = ouV x b (o1.bind (fun a => o2.bind (fun e => f a e))) := by
  rintro b2 rfl
  have g0 : g 0 0 = 0 := (bnd_s h00).1.symm
  cases x
  · have e1 : ∀ o, ouV false b o = 0 := fun o => rfl
    have e2 : ∀ b o, ouB false b o = b := fun b o => rfl
    simp only [e1, e2, Bool.false_and, Bool.or_false, g0]
    exact ⟨True.intro, by split <;> rfl⟩
  · cases b
    · cases o1 with
      | none =>
        have e1 : ouB true false none = true := rfl
        have e2 : ∀ o, ouB true true o = true := fun o => rfl
        simp only [e1, e2, Bool.true_or, if_true]
        exact ⟨rfl, rfl⟩
      | some a =>
        have e1 : ouB true false (some a) = false := rfl
        have e2 : ouV true false (some a) = a := rfl
        rw [e1, e2]
        cases o2 with
        | none =>
          have e3 : ouB true false none = true := rfl
          simp only [e3, Bool.true_or, if_true]
          exact ⟨rfl, rfl⟩
        | some v =>
          have e3 : ouB true false (some v) = false := rfl
          have e4 : ouV true false (some v) = v := rfl
          rw [e3, e4, Bool.false_or, Bool.true_and]
          show (bnd (g a v)).isNone = ouB true false (f a v) ∧ _ = ouV true false (f a v)
          rw [hf]
          refine ⟨rfl, ?_⟩
          cases hb : bnd (g a v) with
          | none => rfl
          | some w =>
            have := (bnd_s hb).1
            show g a v = w
            rw [this]
    · have e1 : ∀ o, ouV true true o = 0 := fun o => rfl
      have e2 : ∀ o, ouB true true o = true := fun o => rfl
      simp only [e1, e2, Bool.true_or, if_true]
      exact ⟨True.intro, True.intro⟩
theorem smO_bnd {o1 o2 : Option Int} {f : Int → Int → Option Int} (hf : ∀ a e v, f a e = some v → sml v) : smO (o1.bind (fun a => o2.bind (fun e => f a e))) := by
  intro v hv
  cases o1 with
  | none => exact absurd hv (by simp)
  | some a =>
    cases o2 with
    | none => exact absurd hv (by simp)
    | some e => exact hf a e v hv
theorem e_stepA {x b : Bool} {k : Nat} {D E : Den} {q : Nat} {S21 : Ob} {t17 : Int32} {L : Int64 → Ob → Prop} (g1 : k = 143 → t17 = 1) (g2 : k ≠ 143 → k = 145 ∧ t17 = 0) (h : atE S0 K t S21 q (ouB x (ouB x b (D φ)) (E φ))) (hD : smO (D φ)) (hE : smO (E φ)) (hq : ∀ S', atE S0 K t S' q (ouB x b (cbAdd k D E φ)) → smO (cbAdd k D E φ) → L (lZ (ouV x b (cbAdd k D E φ))) S') :
    jn (fun (t23 : Int64) => wM_bounded S21 t23 (bI x) (fun (r25 : Int64) (S26 : Ob) => L r25 S26)) (fun J24 => ((t17 = 0 → J24 (lZ (ouV x b (D φ)) - lZ (ouV x (ouB x b (D φ)) (E φ)))) ∧ (¬ t17 = 0 → J24 (lZ (ouV x b (D φ)) + lZ (ouV x (ouB x b (D φ)) (E φ)))))) := by
  rw [jn_d, lZ_add, lZ_sub]
  have s1 := ouV_s (x := x) (b := b) hD
  have s2 := ouV_s (x := x) (b := ouB x b (D φ)) hE
  unfold sml at s1 s2
  by_cases e : k = 143
  · rw [g1 e]
    refine br_n (by decide) (e_bounded h (by unfold mdl; omega) x (fun S' h' => ?_))
    have ec : cbAdd k D E φ = (D φ).bind (fun a => (E φ).bind (fun b => bnd (a + b))) := by
      unfold cbAdd dO2
      rw [if_pos e]
    obtain ⟨c1, c2⟩ := bn_o (x := x) (b := b) (o1 := D φ) (o2 := E φ) (f := fun a b => bnd (a + b)) (g := fun a b => a + b) (fun _ _ => rfl) rfl _ rfl
    rw [c1] at h'
    rw [c2]
    rw [ec] at hq
    exact hq S' h' (smO_bnd (fun a e v hv => (bnd_s hv).2))
  · rw [(g2 e).2]
    refine br_y rfl (e_bounded h (by unfold mdl; omega) x (fun S' h' => ?_))
    have ec : cbAdd k D E φ = (D φ).bind (fun a => (E φ).bind (fun b => bnd (a - b))) := by
      unfold cbAdd dO2
      rw [if_neg e]
    obtain ⟨c1, c2⟩ := bn_o (x := x) (b := b) (o1 := D φ) (o2 := E φ) (f := fun a b => bnd (a - b)) (g := fun a b => a - b) (fun _ _ => rfl) rfl _ rfl
    rw [c1] at h'
    rw [c2]
    rw [ec] at hq
    exact hq S' h' (smO_bnd (fun a e v hv => (bnd_s hv).2))
end
