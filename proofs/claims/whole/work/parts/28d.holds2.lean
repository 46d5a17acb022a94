/-! ===== the class asks whether a clause holds ===== -/
theorem s_holds {SJ : Ob} {SLw : Lw} {Λ : List ClT} (hL : lawC SLw Λ) {φ : Nat → Int} (hφ : ∀ k, k < 8 → SJ.2 0 k = iZ (φ k) ∧ sml (φ k)) {j : Nat} {cl : ClT} (hj : Λ[j]? = some cl) {Q : Int32 → Ob → Prop} (hq0 : clA cl φ = none → ∀ S8 : Ob, S8.2 0 = SJ.2 0 → Q 0 S8) (hq1 : ∀ v, clA cl φ = some v → ∀ S8 : Ob, S8.2 0 = SJ.2 0 → S8.2 1 0 = iZ v → sm2 v → Q 1 S8) : w_X1_holds SJ SLw (nI j) Q := by
  obtain ⟨l0, l1, l12, len, h424, l2, l3, E, E0, El, Eb, hc⟩ := hL
  have hjl : j < Λ.length := by
    rcases Nat.lt_or_ge j Λ.length with q | q
    · exact q
    · rw [List.getElem?_eq_none q] at hj; exact absurd hj (by simp)
  obtain ⟨c1, c2, c3, c4, c5, m, ls, lt, s1, s2, s3⟩ := hc j cl hj
  have hE := Eb j hjl
  have hres : xR (SLw.2 2) (SLw.2 3) φ (E (j + 1)) (E j) [] = some (((cl.2.1 φ).bind (fun v => (cl.2.2 φ).bind (fun w => some (v, w)))).map (fun p => [p.2, p.1])) := by
    have a2 := s2.2.1
    rw [s1.2.2 _ _ (fun _ _ _ => ⟨rfl, rfl⟩) φ (E (j + 1)) [] s2.1 (by show 0 + ls ≤ 54; omega)]
    cases cl.2.1 φ with
    | none => rfl
    | some v =>
      show xR (SLw.2 2) (SLw.2 3) φ (E (j + 1)) m [v] = _
      have a1 := s1.2.1
      rw [s2.2.2 _ _ (fun _ _ _ => ⟨rfl, rfl⟩) φ (E (j + 1)) [v] (Nat.le_refl _) (by show 1 + lt ≤ 54; omega)]
      cases cl.2.2 φ with
      | none => rfl
      | some w =>
        show xR (SLw.2 2) (SLw.2 3) φ (E (j + 1)) (E (j + 1)) [w, v] = _
        rw [xR_e (Nat.le_refl _)]
        rfl
  unfold w_X1_holds
  refine jn_g (fun J => J (nI (E j))) ⟨by rw [l1]; exact vp_in_nI hjl (by omega), ?_⟩ (fun J hJ => ?_)
  · rw [nI_clamp (by omega), c2, l2]
    rintro v4 rfl S5 rfl
    have e4 : (if (Int32.ofNat len) < nI (E (j + 1)) then (Int32.ofNat len) else nI (E (j + 1))) = nI (E (j + 1)) := by
      rw [if_neg (fun q => by have := (nI_ltI (a := len) (by omega) (by omega)).mp q; omega)]
    rw [e4]
    have X := @s_run (uS SJ 2 0) SLw φ hφ (E (j + 1)) (E j) len l2 l3 h424 hE (by omega) _ hres rfl Q (fun h S8 h8 => hq0 ?_ S8 h8) (fun v w h S8 h8 h1 h2 => ?_)
    · rw [l2] at X; exact X
    · unfold clA
      cases hD : cl.2.1 φ with
      | none => rfl
      | some v =>
        rw [hD] at h
        cases hW : cl.2.2 φ with
        | none => rfl
        | some w => rw [hW] at h; exact absurd h (by simp)
    · have hh : cl.2.1 φ = some v ∧ cl.2.2 φ = some w := by
        cases hD : cl.2.1 φ with
        | none => rw [hD] at h; exact absurd h (by simp)
        | some a =>
          cases hW : cl.2.2 φ with
          | none => rw [hD, hW] at h; exact absurd h (by simp)
          | some b =>
            rw [hD, hW] at h
            have h : some (a, b) = some (v, w) := h
            injection h with h
            injection h with h1 h2
            rw [h1, h2]
            exact ⟨rfl, rfl⟩
      have hc : clA cl φ = if w = 0 then none else some v := by
        unfold clA
        rw [hh.1, hh.2]
        rfl
      exact ⟨fun q => hq0 (by rw [hc, if_pos q]) S8 h8, fun q => hq1 v (by rw [hc, if_neg q]) S8 h8 h1 h2⟩
  · refine le_b j 0 (by omega) (by decide) (fun c => ?_) (fun c => ?_)
    · have : j = 0 := by omega
      subst this
      rw [E0] at hJ
      exact hJ
    · have e1 : (nI j - 1 : Int32) = nI (j - 1) := pk_sub (b := 1) (by omega)
      have hlt : j - 1 < Λ.length := by omega
      obtain ⟨_, d2, _⟩ := hc (j - 1) _ (List.getElem?_eq_getElem hlt)
      rw [show j - 1 + 1 = j by omega] at d2
      rw [e1, nI_clamp (by omega), d2, l1]
      exact ⟨vp_in_nI (by omega) (by omega), hJ⟩
