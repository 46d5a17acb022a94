/-! ===== how the relation goes on: small steps ===== -/
def rPo (LL : Nat → List ClT → Prop) (LP : Nat → Prop) (SB : Ob) (Sls : Nat → Option Nat) (Std Sme Scl SP : Ob) (Sn : Option (Nat → Nat → Int32)) (S : Ob) (F : FtT) (o : Option (List ClT)) (T C : TdT) (mm nl : Nat) : Prop := tb LL LP SB Sls Std Sme Scl (S.2 3) F o T C mm nl ∧ cV SP (plF F o) ∧ mV S (plF F o) ∧ Sn.elim (SP.1 17 = 0) (fun q => srR SP (plF F o) q)
theorem mV_no {S : Ob} {P : PlT} (h : ¬ S.1 29 = S.1 1) : mV S P := fun e => absurd e h
theorem rK_ref {SO : Ob} {Stp : Nat → Int32} {Sev S : Ob} {v : Nat} (h : rK SO Stp Sev S v) (k : Nat) : rK (refC SO k) Stp Sev (refM S k) (v + 1) := by
  obtain ⟨a, b, c, d, e, f, g, i, j⟩ := h
  refine ⟨a, ?_, c, d, rfl, fun q hq => ?_, ?_, ?_, vrs_up (vrs_cg j rfl rfl) (by omega)⟩
  · unfold refM; rw [uA_o (by decide)]; exact b
  · unfold refC refM
    by_cases e : q = k
    · subst e; rw [uA_h, uA_h, f q hq]
    · rw [uA_i e, uA_i e]; exact f q hq
  · unfold refM; rw [uA_o (by decide)]; exact g
  · unfold refM; rw [uA_o (by decide)]; exact i
theorem rK_lk {SO : Ob} {Stp : Nat → Int32} {Sev S S' : Ob} {v : Nat} (h : rK SO Stp Sev S v) (lk : lkU S S') : rK SO Stp Sev S' (v + 1) := by
  obtain ⟨a, b, c, d, e, f, g, i, j⟩ := h
  have s := lk.1.1
  have t := lk.2
  refine ⟨by rw [s 10 (by decide)]; exact a, by rw [t 8 (by decide)]; exact b, by rw [s 11 (by decide)]; exact c, by rw [s 6 (by decide)]; exact d, by rw [s 0 (by decide)]; exact e, by rw [t 2 (by decide)]; exact f, by rw [t 40 (by decide), s 41 (by decide)]; exact g, by rw [t 7 (by decide)]; exact i, vrs_up (vrs_lk j (s 1 (by decide)) lk.1.2) (by omega)⟩
/-- a call that went well: the last status is 0, the version one more -/
theorem rK_good {SO : Ob} {Stp : Nat → Int32} {Sev S S' : Ob} {v : Nat} (h : rK SO Stp Sev S v) (hv : v < 1000) (e0 : S'.1 0 = 0) (e1 : S'.1 1 = S.1 1 + 1) (s : ∀ k, k ≠ 0 → k ≠ 1 → k ∉ scS → S'.1 k = S.1 k) (e29 : S'.1 29 = S.1 29 ∨ S'.1 29 = S.1 1) (t : ∀ k, k ≠ 3 → k ≠ 4 → k ≠ 5 → k ∉ scA → S'.2 k = S.2 k) : rK (uS SO 16 0) Stp Sev S' (v + 1) ∧ ¬ S'.1 29 = S'.1 1 := by
  obtain ⟨a, b, c, d, e, f, g, i, j⟩ := h
  have k1 := vrs_lk (S' := uS S 29 (S'.1 29)) j rfl e29
  obtain ⟨k2, k3⟩ := vrs_good (S' := S') k1 hv e1 rfl
  exact ⟨⟨by rw [s 10 (by decide) (by decide) (by decide)]; exact a, by rw [t 8 (by decide) (by decide) (by decide) (by decide)]; exact b, by rw [s 11 (by decide) (by decide) (by decide)]; exact c, by rw [s 6 (by decide) (by decide) (by decide)]; exact d, by rw [e0]; rfl, by rw [t 2 (by decide) (by decide) (by decide) (by decide)]; exact f, by rw [t 40 (by decide) (by decide) (by decide) (by decide), s 41 (by decide) (by decide) (by decide)]; exact g, by rw [t 7 (by decide) (by decide) (by decide) (by decide)]; exact i, k2⟩, k3⟩
theorem rK_g0 {SO : Ob} {Stp : Nat → Int32} {Sev S S' : Ob} {v : Nat} (h : rK SO Stp Sev S v) (hv : v < 1000) (e1 : S'.1 1 = S.1 1 + 1) (s : ∀ k, k ≠ 1 → S'.1 k = S.1 k) (t : ∀ k, k ≠ 3 → S'.2 k = S.2 k) : rK SO Stp Sev S' (v + 1) ∧ ¬ S'.1 29 = S'.1 1 := by
  obtain ⟨a, b, c, d, e, f, g, i, j⟩ := h
  obtain ⟨k2, k3⟩ := vrs_good (S' := S') j hv e1 (s 29 (by decide))
  exact ⟨⟨by rw [s 10 (by decide)]; exact a, by rw [t 8 (by decide)]; exact b, by rw [s 11 (by decide)]; exact c, by rw [s 6 (by decide)]; exact d, by rw [s 0 (by decide)]; exact e, by rw [t 2 (by decide)]; exact f, by rw [t 40 (by decide), s 41 (by decide)]; exact g, by rw [t 7 (by decide)]; exact i, k2⟩, k3⟩
theorem rIm_cg {LL : Nat → List ClT → Prop} {LP : Nat → Prop} {SO SB0 : Ob} {Sls0 : Nat → Option Nat} {Std0 Sme0 Scl0 SB1 : Ob} {Sls1 : Nat → Option Nat} {Std1 Sme1 Scl1 S SO' S' : Ob} (h : rIm LL LP SO SB0 Sls0 Std0 Sme0 Scl0 SB1 Sls1 Std1 Sme1 Scl1 S) (e1 : SO'.2 2 = SO.2 2) (e4 : S'.2 4 = S.2 4) (e5 : S'.2 5 = S.2 5) : rIm LL LP SO' SB0 Sls0 Std0 Sme0 Scl0 SB1 Sls1 Std1 Sme1 Scl1 S' := by
  unfold rIm
  rw [e1, e4, e5]
  exact h
theorem rP_of {LL : Nat → List ClT → Prop} {LP : Nat → Prop} {SB : Ob} {Sls : Nat → Option Nat} {Std Sme Scl SP : Ob} {Sn : Option (Nat → Nat → Int32)} {S : Ob} {F : FtT} {o : Option (List ClT)} {T C : TdT} {mm nl : Nat} (h : rPo LL LP SB Sls Std Sme Scl SP Sn S F o T C mm nl) : rP LL LP SB Sls Std Sme Scl SP Sn S := ⟨F, o, T, C, mm, nl, h⟩
theorem mV_cg {S S' : Ob} {P : PlT} (h : mV S P) (e3 : S'.2 3 = S.2 3) (e26 : S'.2 26 = S.2 26) (e27 : S'.2 27 = S.2 27) (e28 : S'.2 28 = S.2 28) (e30 : S'.2 30 = S.2 30) (e1 : S'.1 1 = S.1 1) (e29 : S'.1 29 = S.1 29) : mV S' P := by
  intro q
  rw [e1, e29] at q
  obtain ⟨a, b⟩ := h q
  unfold mP ndM at *
  rw [e3, e26, e27, e28, e30]
  exact ⟨a, b⟩
theorem rP_ref {LL : Nat → List ClT → Prop} {LP : Nat → Prop} {SB : Ob} {Sls : Nat → Option Nat} {Std Sme Scl SP : Ob} {Sn : Option (Nat → Nat → Int32)} {S : Ob} (h : rP LL LP SB Sls Std Sme Scl SP Sn S) (k : Nat) : rP LL LP SB Sls Std Sme Scl SP Sn (refM S k) := by
  obtain ⟨F, o, T, C, mm, nl, a, b, c, d⟩ := h
  refine ⟨F, o, T, C, mm, nl, ?_, b, mV_cg c ?_ ?_ ?_ ?_ ?_ rfl rfl, d⟩
  · unfold refM; rw [uA_o (by decide)]; exact a
  all_goals unfold refM; rw [uA_o (by decide)]; rfl
theorem rI_ref {LL : Nat → List ClT → Prop} {LP : Nat → Prop} {SO SB0 : Ob} {Sls0 : Nat → Option Nat} {Std0 Sme0 Scl0 SB1 : Ob} {Sls1 : Nat → Option Nat} {Std1 Sme1 Scl1 S : Ob} (h : rIm LL LP SO SB0 Sls0 Std0 Sme0 Scl0 SB1 Sls1 Std1 Sme1 Scl1 S) (k : Nat) : rIm LL LP (refC SO k) SB0 Sls0 Std0 Sme0 Scl0 SB1 Sls1 Std1 Sme1 Scl1 (refM S k) := by
  refine rIm_cg h ?_ ?_ ?_
  · unfold refC; rw [uA_o (by decide)]; rfl
  all_goals unfold refM; rw [uA_o (by decide)]; rfl
theorem srR_cg {SP SP' : Ob} {P : PlT} {Sn : Option (Nat → Nat → Int32)} (h : Sn.elim (SP.1 17 = 0) (fun q => srR SP P q)) (e : SP'.1 17 = SP.1 17) : Sn.elim (SP'.1 17 = 0) (fun q => srR SP' P q) := by
  cases Sn with
  | none => exact e.trans h
  | some q =>
    obtain ⟨k, a, b, c, d⟩ := h
    exact ⟨k, a, e.trans b, c, d⟩
theorem srR_spo {SP : Ob} {P P' : PlT} (hP : qpN P' ≤ 10) {Sn : Option (Nat → Nat → Int32)} (h : Sn.elim (SP.1 17 = 0) (fun q => srR SP P q)) : Sn.elim ((spoP SP).1 17 = 0) (fun q => srR (spoP SP) P' q) := by
  cases Sn with
  | none => rfl
  | some q =>
    obtain ⟨k, a, b, c, d⟩ := h
    refine ⟨0, by decide, rfl, fun e he L hL => ?_, d⟩
    have : e = 0 := by omega
    subst this
    rw [d L (Nat.lt_of_lt_of_le hL (p10 hP))]
    rfl
theorem rP_lk {LL : Nat → List ClT → Prop} {LP : Nat → Prop} {SB : Ob} {Sls : Nat → Option Nat} {Std Sme Scl SP : Ob} {Sn : Option (Nat → Nat → Int32)} {S : Ob} {F : FtT} {o : Option (List ClT)} {T C : TdT} {mm nl : Nat} (h : rPo LL LP SB Sls Std Sme Scl SP Sn S F o T C mm nl) {SP' S' : Ob} (cv : cV SP' (plF F o)) (mv : mV S' (plF F o)) (lk : lkU S S') (c17 : SP'.1 17 = SP.1 17) : rP LL LP SB Sls Std Sme Scl SP' Sn S' := by
  obtain ⟨a, b, c, d⟩ := h
  refine ⟨F, o, T, C, mm, nl, ?_, cv, mv, srR_cg d c17⟩
  rw [lk.2 3 (by decide)]
  exact a
theorem lwX_of {LL : Nat → List ClT → Prop} {LP : Nat → Prop} {SB : Ob} {Sls : Nat → Option Nat} {kp : Nat → Int32} {o : Option (List ClT)} {nl : Nat} (h : lwR LL LP SB Sls kp o nl) : lwX kp o := by
  obtain ⟨a, b, c, d, f, g, k⟩ := h
  cases o with
  | none => exact k
  | some Λ =>
    obtain ⟨t, x, k1, k2, k3, k4, k5⟩ := k
    exact ⟨t, by omega, k2, k5⟩
theorem pB_of {LL : Nat → List ClT → Prop} {LP : Nat → Prop} {SB : Ob} {Sls : Nat → Option Nat} {Std Sme Scl SP : Ob} {Sn : Option (Nat → Nat → Int32)} {S : Ob} {F : FtT} {o : Option (List ClT)} {T C : TdT} {mm nl : Nat} (h : rPo LL LP SB Sls Std Sme Scl SP Sn S F o T C mm nl) : pB SB Std S (plF F o) T (qfK F) := by
  obtain ⟨⟨⟨f1, f2⟩, ⟨t1, t2, t3, t4⟩, -, -, -⟩, -, -, -⟩ := h
  exact ⟨plF_ok f1.1 o, t1, t3, t4, f1.2.1, f2.2.1, f1.2.2.1, f2.2.2.1, f1.1.2.2.1⟩
theorem lk_of {LL : Nat → List ClT → Prop} {LP : Nat → Prop} {SB : Ob} {Sls : Nat → Option Nat} {Std Sme Scl SP : Ob} {Sn : Option (Nat → Nat → Int32)} {S : Ob} {F : FtT} {o : Option (List ClT)} {T C : TdT} {mm nl : Nat} (h : rPo LL LP SB Sls Std Sme Scl SP Sn S F o T C mm nl) : lkP S (plF F o) := m_looks h.1.1.2 (lwX_of h.1.2.2.2.2) h.2.2.1
theorem hf_of {LL : Nat → List ClT → Prop} {LP : Nat → Prop} {SB : Ob} {Sls : Nat → Option Nat} {Std Sme Scl SP : Ob} {Sn : Option (Nat → Nat → Int32)} {S : Ob} {F : FtT} {o : Option (List ClT)} {T C : TdT} {mm nl : Nat} (h : rPo LL LP SB Sls Std Sme Scl SP Sn S F o T C mm nl) : ∀ t, t < qfN F → ∀ k, k < 4 → SB.2 k t = S.2 3 (4 * t + k) := by
  intro t ht k hk
  obtain ⟨a0, a1, a2, a3⟩ := h.1.1.1.2.2.2.2.2 t ht
  obtain ⟨b0, b1, b2, b3⟩ := h.1.1.2.2.2.2.2.2 t ht
  rcases (by omega : k = 0 ∨ k = 1 ∨ k = 2 ∨ k = 3) with rfl | rfl | rfl | rfl
  · exact a0.trans b0.symm
  · exact a1.trans b1.symm
  · exact a2.trans b2.symm
  · exact a3.trans b3.symm
theorem inF_n {LL : Nat → List ClT → Prop} {LP : Nat → Prop} {SB : Ob} {Sls : Nat → Option Nat} {kp : Nat → Int32} {nl : Nat} (h : lwR LL LP SB Sls kp none nl) : ∀ Q : Option Nat → Prop, Q none → w_X6_lawInForce SB Sls Q := by
  obtain ⟨a, b, c, d, f, g, k⟩ := h
  intro Q hq
  have k : kp 138 = -1 := k
  unfold w_X6_lawInForce
  rw [d, k]
  exact br_y (by decide) hq
theorem inF_s {LL : Nat → List ClT → Prop} {LP : Nat → Prop} {SB : Ob} {Sls : Nat → Option Nat} {kp : Nat → Int32} {Λ : List ClT} {nl : Nat} (h : lwR LL LP SB Sls kp (some Λ) nl) : ∃ x, LL x Λ ∧ ∀ Q : Option Nat → Prop, Q (some x) → w_X6_lawInForce SB Sls Q := by
  obtain ⟨a, b, c, d, f, g, k⟩ := h
  obtain ⟨t, x, k1, k2, k3, k4, k5⟩ := k
  refine ⟨x, k4, fun Q hq => ?_⟩
  unfold w_X6_lawInForce
  rw [d, k2, b, nI_clamp (by omega), k3]
  refine br_n (fun q => by have := (nI_ltI (b := 0) (by omega) (by decide)).mp q; omega) (le_b nl t (by omega) (by omega) (fun q => absurd q (by omega)) (fun _ => ⟨vp_in_nI (by omega) (by decide), hq⟩))
