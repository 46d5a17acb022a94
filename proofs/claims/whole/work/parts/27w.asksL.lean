/-! ===== texts of laws: the reference's walk over the clauses ===== -/
theorem mMore_i {K : TkT} {f q lv : Nat} {acc Λ : List ClT} (h : mMore K f q lv acc = .inr Λ) : (kC K q = 159 ∧ ∃ g r, mClause (kC K) (kV K) (q + 1) lv = .inr r ∧ mMore K g r.1 r.2.1 (acc ++ [r.2.2]) = .inr Λ) ∨ (kC K q ≠ 159 ∧ q = kN K ∧ acc = Λ) := by
  cases f with
  | zero =>
    rw [mMore] at h
    split at h
    · exact absurd h (by simp)
    · split at h
      · rename_i a b
        injection h with h
        exact Or.inr ⟨a, b, h⟩
      · exact absurd h (by simp)
  | succ f =>
    rw [mMore] at h
    split at h
    · rename_i a
      cases e : mClause (kC K) (kV K) (q + 1) lv with
      | inl x => rw [e] at h; exact absurd h (by simp)
      | inr r =>
        rw [e] at h
        exact Or.inl ⟨a, f, r, rfl, h⟩
    · split at h
      · rename_i a b
        injection h with h
        exact Or.inr ⟨a, b, h⟩
      · exact absurd h (by simp)
def asX (SA S : Ob) (φ : Nat → Int) (base : Int) (acc : List ClT) : Prop := S.2 = SA.2 ∧ (∀ k, k ≠ 19 → k ≠ 21 → k ≠ 23 → k ≠ 24 → k ≠ 25 → S.1 k = SA.1 k) ∧ S.1 23 = iZ (fdW 1 0 φ acc base) ∧ S.1 24 = iZ (fdW 2 1 φ acc 1) ∧ S.1 25 = bI (fdB φ acc)
set_option maxHeartbeats 1000000 in
theorem m_asksL {φ : Nat → Int} {K : TkT} {t : Nat} {SA : Ob} (ev : evK φ K t SA) {Λ : List ClT} (hΛ : mLaw K = .inr Λ) {base : Int} (h19 : SA.1 19 = nI (400 * t)) (hx : asX SA SA φ base []) {Q : Ob → Prop} (hq : ∀ S', asX SA S' φ base Λ → Q S') :
    ∃ n, wl1 (fun L32 (S31 : Ob) => (((S31.1 20) ≤ (S31.1 19) → Q S31) ∧ (¬ (S31.1 20) ≤ (S31.1 19) → wM_codeAt S31 (S31.1 19) (fun (r33 : Int32) => ∀ S35 : Ob, S35 = uS S31 21 0 → ∀ S36 : Ob, S36 = uS S35 19 ((S35.1 19) + 1) → jn (fun (t37 : Int64) (S38 : Ob) => ∀ v40 : Int32, v40 = (S38.1 21) → ∀ S41 : Ob, S41 = uS S38 21 0 → wM_passes0 S41 4 (fun (r42 : Int32) (S43 : Ob) => jn (fun (t45 : Int32) (S46 : Ob) => jn (fun (S48 : Ob) => ∀ S50 : Ob, S50 = uS S48 19 ((S48.1 19) + 1) → L32 S50) (fun J49 => ((t45 = 0 → J49 S46) ∧ (¬ t45 = 0 → ((¬ (S46.1 21) = 0 → J49 S46) ∧ ((S46.1 21) = 0 → ((¬ v40 = 0 → J49 S46) ∧ (v40 = 0 → jn (fun (S51 : Ob) => jn (fun (S53 : Ob) => jn (fun (t55 : Int32) => narrow .boolean (.int t55) = .int t55 ∧ fits .boolean (.int t55) = true ∧ ∀ S59 : Ob, S59 = uS S53 25 t55 → J49 S59) (fun J56 => jn (fun (z60 : Unit) => J56 1) (fun J61 => ((¬ (S53.1 25) = 0 → J61 ()) ∧ ((S53.1 25) = 0 → ((¬ r33 = 3 → J56 0) ∧ (r33 = 3 → J61 ()))))))) (fun J54 => ((¬ r33 = 2 → J54 S51) ∧ (r33 = 2 → jn (fun (t64 : Int32) => ∀ S66 : Ob, S66 = uS S51 24 t64 → J54 S66) (fun J65 => ((0 ≤ (lg_cmp t37 1) → (((lg_cmp t37 999) ≤ 0 → J65 (Int64.toInt32 t37)) ∧ (¬ (lg_cmp t37 999) ≤ 0 → J65 999))) ∧ (¬ 0 ≤ (lg_cmp t37 1) → J65 1))))))) (fun J52 => ((¬ r33 = 1 → J52 S46) ∧ (r33 = 1 → jn (fun (t70 : Int32) => ∀ S72 : Ob, S72 = uS S46 23 t70 → J52 S72) (fun J71 => ((0 ≤ (lg_cmp t37 0) → (((lg_cmp t37 999) ≤ 0 → J71 (Int64.toInt32 t37)) ∧ (¬ (lg_cmp t37 999) ≤ 0 → J71 999))) ∧ (¬ 0 ≤ (lg_cmp t37 0) → J71 0)))))))))))))) (fun J47 => jn (fun (S79 : Ob) => J47 1 S79) (fun J80 => ((r42 = 0 → J80 S43) ∧ (¬ r42 = 0 → wM_testOf 12 S43 1 (fun (r81 : Int32) (S82 : Ob) => ((r81 = 0 → J47 0 S82) ∧ (¬ r81 = 0 → J80 S82))))))))) (fun J39 => ((¬ r33 = 3 → wM_sumOf 12 S36 1 (fun (r86 : Int64) (S87 : Ob) => J39 r86 S87)) ∧ (r33 = 3 → J39 0 S36))))))) n SA := by
  have hn := ev.1.1
  have ht := ev.2.1
  have h0 : ∃ f r, mClause (kC K) (kV K) 0 0 = .inr r ∧ mMore K f r.1 r.2.1 ([] ++ [r.2.2]) = .inr Λ := by
    unfold mLaw at hΛ
    cases e : mClause (kC K) (kV K) 0 0 with
    | inl x => rw [e] at hΛ; exact absurd hΛ (by simp)
    | inr r => rw [e] at hΛ; exact ⟨11, r, rfl, hΛ⟩
  have hcl : ∀ {p lv r}, mClause (kC K) (kV K) p lv = .inr r → p < kN K ∧ (kC K p = 1 ∨ kC K p = 2 ∨ kC K p = 3) := by
    intro p lv r h
    have : kC K p = 1 ∨ kC K p = 2 ∨ kC K p = 3 := by
      unfold mClause at h
      split at h
      · rename_i a; omega
      · split at h
        · rename_i a; omega
        · exact absurd h (by simp)
    exact ⟨okK_i ev.1 (by omega), this⟩
  refine wl1_i (fun S31 => ∃ acc, asX SA S31 φ base acc ∧ ((∃ p lv f r, S31.1 19 = nI (400 * t + p) ∧ mClause (kC K) (kV K) p lv = .inr r ∧ mMore K f r.1 r.2.1 (acc ++ [r.2.2]) = .inr Λ) ∨ (S31.1 19 = nI (400 * t + kN K + 1) ∧ acc = Λ))) (fun S31 => 5000 - (S31.1 19).toNatClampNeg) ?_ SA ⟨[], hx, Or.inl ⟨0, 0, h0.choose, h0.choose_spec.choose, h19, h0.choose_spec.choose_spec.1, h0.choose_spec.choose_spec.2⟩⟩
  rintro L S31 ⟨acc, hX, hI⟩ ih
  have h20 : S31.1 20 = nI (400 * t + kN K) := (hX.2.1 20 (by decide) (by decide) (by decide) (by decide) (by decide)).trans ev.2.2.1
  rw [h20]
  rcases hI with ⟨p, lv, f, r, p19, hc, hm⟩ | ⟨p19, rfl⟩
  · obtain ⟨hp, hk⟩ := hcl hc
    rw [p19]
    refine br_n (fun q => by have := (nI_leI (by omega) (by omega)).mp q; omega) ?_
    have ev5 : evK φ K t (uS S31 21 0) := ⟨ev.1, ev.2.1, h20, by show (∀ i, i < kN K → S31.2 3 _ = _ ∧ vR (S31.2 3 _) _) ∧ ∀ k, k < 8 → S31.2 22 k = _ ∧ _; rw [hX.1]; exact ev.2.2.2⟩
    have at5 : atE (uS S31 21 0) K t (uS S31 21 0) p false := ⟨⟨rfl, fun _ _ _ => rfl⟩, p19, rfl, by omega⟩
    rw [← p19]
    have key : ∀ Q, wM_codeAt (uS S31 21 0) ((uS S31 21 0).1 19) Q → wM_codeAt S31 (S31.1 19) Q := fun Q h => h
    refine key _ (e_code ev5 at5 ?_)
    rintro S35 rfl S36 rfl
    have at6 := e_step at5 hp
    have hk31 : kC K p < 2 ^ 31 := by omega
    refine jn_g (fun J => ∀ D q lv' S38 tv, mTail (kC K) (kV K) (kC K p) D q lv' = .inr r → atE (uS S31 21 0) K t S38 q (D φ).isNone → smO (D φ) → (kC K p ≠ 3 → tv = lZ ((D φ).getD 0)) → J tv S38) ?_ (fun J hJ => ?_)
    · intro D q lv' S38 tv hT h38 hsD htv
      rintro v40 rfl S41 rfl
      have at41 : atE (uS S31 21 0) K t (uS S38 21 0) q false := by
        refine ⟨⟨h38.1.1, fun k k1 k2 => ?_⟩, h38.2.1, rfl, h38.2.2.2⟩
        rw [uS_1, if_neg k2]; exact h38.1.2 k k1 k2
      rw [h38.2.2.1]
      unfold mTail at hT
      have body : ∀ (S46 : Ob) (c : Bool) (E : Den) (q2 lv2 : Nat), r = (q2, lv2, (kC K p, D, E)) → atE (uS S31 21 0) K t S46 q2 (E φ).isNone → (∀ v, E φ = some v → v = bZ c) → jn (fun (S48 : Ob) => ∀ S50 : Ob, S50 = uS S48 19 ((S48.1 19) + 1) → L S50) (fun J49 => ((bI c = 0 → J49 S46) ∧ (¬ bI c = 0 → ((¬ (S46.1 21) = 0 → J49 S46) ∧ ((S46.1 21) = 0 → ((¬ bI (D φ).isNone = 0 → J49 S46) ∧ (bI (D φ).isNone = 0 → jn (fun (S51 : Ob) => jn (fun (S53 : Ob) => jn (fun (t55 : Int32) => narrow .boolean (.int t55) = .int t55 ∧ fits .boolean (.int t55) = true ∧ ∀ S59 : Ob, S59 = uS S53 25 t55 → J49 S59) (fun J56 => jn (fun (z60 : Unit) => J56 1) (fun J61 => ((¬ (S53.1 25) = 0 → J61 ()) ∧ ((S53.1 25) = 0 → ((¬ nI (kC K p) = 3 → J56 0) ∧ (nI (kC K p) = 3 → J61 ()))))))) (fun J54 => ((¬ nI (kC K p) = 2 → J54 S51) ∧ (nI (kC K p) = 2 → jn (fun (t64 : Int32) => ∀ S66 : Ob, S66 = uS S51 24 t64 → J54 S66) (fun J65 => ((0 ≤ (lg_cmp tv 1) → (((lg_cmp tv 999) ≤ 0 → J65 (Int64.toInt32 tv)) ∧ (¬ (lg_cmp tv 999) ≤ 0 → J65 999))) ∧ (¬ 0 ≤ (lg_cmp tv 1) → J65 1))))))) (fun J52 => ((¬ nI (kC K p) = 1 → J52 S46) ∧ (nI (kC K p) = 1 → jn (fun (t70 : Int32) => ∀ S72 : Ob, S72 = uS S46 23 t70 → J52 S72) (fun J71 => ((0 ≤ (lg_cmp tv 0) → (((lg_cmp tv 999) ≤ 0 → J71 (Int64.toInt32 tv)) ∧ (¬ (lg_cmp tv 999) ≤ 0 → J71 999))) ∧ (¬ 0 ≤ (lg_cmp tv 0) → J71 0))))))))))))) := by
        rintro S46 c E q2 lv2 rfl h46 hvE
        have i2 : S46.2 = SA.2 := h46.1.1.trans hX.1
        have i1 : ∀ k, k ≠ 19 → k ≠ 21 → S46.1 k = S31.1 k := fun k k1 k2 => by
          rw [h46.1.2 k k1 k2, uS_1, if_neg k2]
        have i23 := (i1 23 (by decide) (by decide)).trans hX.2.2.1
        have i24 := (i1 24 (by decide) (by decide)).trans hX.2.2.2.1
        have i25 := (i1 25 (by decide) (by decide)).trans hX.2.2.2.2
        refine jn_g (fun J => ∀ S48 : Ob, S48.2 = SA.2 → (∀ k, k ≠ 19 → k ≠ 21 → k ≠ 23 → k ≠ 24 → k ≠ 25 → S48.1 k = SA.1 k) → S48.1 19 = nI (400 * t + q2) → S48.1 23 = iZ (stW 1 0 φ (fdW 1 0 φ acc base) (kC K p, D, E)) → S48.1 24 = iZ (stW 2 1 φ (fdW 2 1 φ acc 1) (kC K p, D, E)) → S48.1 25 = bI (stB φ (fdB φ acc) (kC K p, D, E)) → J S48) ?_ (fun J hJ => ?_)
        · intro S48 j2 j1 j19 j23 j24 j25
          rintro S50 rfl
          have hc1 := inc_clause hc
          have hc1 : p + 1 ≤ q2 := hc1
          have hq2 := h46.2.2.2
          refine ih _ ⟨acc ++ [(kC K p, D, E)], ⟨j2, fun k k1 k2 k3 k4 k5 => ?_, ?_, ?_, ?_⟩, ?_⟩ ?_
          · rw [uS_1, if_neg k1]; exact j1 k k1 k2 k3 k4 k5
          · rw [fdW_a]; exact j23
          · rw [fdW_a]; exact j24
          · rw [fdB_a]; exact j25
          · rw [uS_1, if_pos rfl, j19, nI_1]
            rcases mMore_i hm with ⟨m1, g, r2, m2, m3⟩ | ⟨m1, m2, m3⟩
            · exact Or.inl ⟨q2 + 1, lv2, g, r2, rfl, m2, m3⟩
            · have m2 : q2 = kN K := m2
              rw [m2]
              exact Or.inr ⟨rfl, m3⟩
          · rw [uS_1, if_pos rfl, j19, nI_1, p19, nI_clamp (by omega), nI_clamp (by omega)]
            omega
        · have same : clA (kC K p, D, E) φ = none → J S46 := by
            intro e
            refine hJ S46 i2 (fun k k1 k2 k3 k4 k5 => (i1 k k1 k2).trans (hX.2.1 k k1 k2 k3 k4 k5)) h46.2.1 ?_ ?_ ?_
            · unfold stW; rw [e]
              split
              · exact i23
              · exact i23
            · unfold stW; rw [e]
              split
              · exact i24
              · exact i24
            · unfold stB; rw [e, i25]
              show _ = bI (_ || (_ && false))
              rw [Bool.and_false, Bool.or_false]
          rw [h46.2.2.1]
          refine bi_b (fun c0 => same ?_) (fun c1 => ib_b (fun e0 => ib_b (fun d0 => ?_) (fun d1 => same ?_)) (fun e1 => same ?_))
          · unfold clA
            cases hD : D φ with
            | none => show (D φ).bind _ = none; rw [hD]; rfl
            | some a =>
              show (D φ).bind _ = none
              rw [hD]
              show (E φ).bind _ = none
              cases hE : E φ with
              | none => rfl
              | some b =>
                have := hvE b hE
                rw [c0] at this
                show (if b = 0 then none else some a) = none
                have this : b = 0 := this
                rw [if_pos this]
          · obtain ⟨a, hD⟩ : ∃ a, D φ = some a := by
              cases hD : D φ with
              | none => rw [hD] at d0; exact absurd d0 (by decide)
              | some a => exact ⟨a, rfl⟩
            obtain ⟨b, hE⟩ : ∃ b, E φ = some b := by
              cases hE : E φ with
              | none => rw [hE] at e0; exact absurd e0 (by decide)
              | some b => exact ⟨b, rfl⟩
            have hb := hvE b hE
            rw [c1] at hb
            have hcl : clA (kC K p, D, E) φ = some a := by
              show (D φ).bind (fun v => (E φ).bind (fun w => if w = 0 then none else some v)) = some a
              rw [hD, hE, hb]
              rfl
            rw [hD] at htv
            refine m_eff hk31 (v := a) (hsD a hD) htv i23 i24 i25 (fun S48 g2 g1 g23 g24 g25 => hJ S48 (g2.trans i2) (fun k k1 k2 k3 k4 k5 => ?_) ?_ ?_ ?_ ?_)
            · rw [g1 k k3 k4 k5, i1 k k1 k2]
              exact hX.2.1 k k1 k2 k3 k4 k5
            · rw [g1 19 (by decide) (by decide) (by decide)]; exact h46.2.1
            · unfold stW; rw [hcl]; exact g23
            · unfold stW; rw [hcl]; exact g24
            · unfold stB; rw [hcl]
              show _ = bI (_ || (_ && true))
              rw [Bool.and_true]; exact g25
          · show (D φ).bind _ = none
            cases hD : D φ with
            | none => rfl
            | some a => rw [hD] at d1; exact absurd (show false = true from d1) (by decide)
          · show (D φ).bind _ = none
            cases hD : D φ with
            | none => rfl
            | some a =>
              show (E φ).bind _ = none
              cases hE : E φ with
              | none => rfl
              | some b => rw [hE] at e1; exact absurd (show false = true from e1) (by decide)
      refine e_pass ev5 at41 (k := 4) (by decide) (by decide) (fun e4 hlt S43 h43 => ?_) (fun e4 => ?_)
      · rw [if_pos e4] at hT
        obtain ⟨y, ey, hT⟩ := el_inr hT
        injection hT with hT
        rw [jn_d, jn_d]
        refine br_n (by decide) (e_test ev5 12 0 S43 _ _ true false y h43 ey _ (fun S82 c h82 ht82 hv82 => ?_))
        have := body S82 c y.2.2 y.1 y.2.1 hT.symm h82 (fun v hv => hv82 rfl rfl v hv)
        refine bi_b (fun q => ?_) (fun q => ?_)
        · rw [q] at this; exact this
        · rw [q] at this; exact this
      · rw [if_neg e4] at hT
        injection hT with hT
        rw [jn_d, jn_d]
        exact br_y rfl (body _ true (fun _ => some 1) q lv' hT.symm at41 (fun v hv => by injection hv with hv; exact hv.symm))
    · unfold mClause at hc
      refine qe_b _ 3 hk31 (by decide) (fun e3 => ?_) (fun e3 => ?_)
      · rw [if_neg (by omega), if_pos e3, ← e3] at hc
        exact hJ (fun _ => some 1) _ _ _ 0 hc at6 (fun v hv => by injection hv with hv; rw [← hv]; exact ⟨by decide, by decide⟩) (fun h => absurd e3 h)
      · rw [if_pos (by omega)] at hc
        cases es : mSum (kC K) (kV K) 12 0 (p + 1) lv with
        | inl x => rw [es] at hc; exact absurd hc (by simp)
        | inr y =>
          rw [es] at hc
          exact e_sum ev5 12 0 _ _ _ true false y at6 es _ (fun S87 h87 hs87 => hJ y.2.2 y.1 y.2.1 S87 _ hc h87 hs87 (fun _ => rfl))
  · rw [p19]
    exact br_y ((nI_leI (by omega) (by omega)).mpr (by omega)) (hq S31 hX)
