/-! ===== how tables change ===== -/
def tmM (Sme : Ob) (kp : Nat → Int32) (n mm : Nat) : Prop := (∀ i, i < mm → Sme.2 0 i = kp (73 + 3 * i) ∧ Sme.2 1 i = kp (73 + 3 * i + 1) ∧ Sme.2 2 i = kp (73 + 3 * i + 2)) ∧ Sme.1 3 = nI mm ∧ kp 135 = nI mm ∧ mm ≤ 10 ∧ ∀ i, i < mm → (∃ a, a < n ∧ kp (73 + 3 * i) = nI a) ∧ (∃ b, b < n ∧ kp (73 + 3 * i + 1) = nI b) ∧ 0 ≤ (kp (73 + 3 * i + 2)).toInt ∧ (kp (73 + 3 * i + 2)).toInt ≤ 500
theorem tbM_i {SB Sme : Ob} {kp : Nat → Int32} {n mm : Nat} (h : tbM SB Sme kp n mm) : tmM Sme kp n mm := by
  obtain ⟨⟨a1, a2, a3, a4⟩, b1, b2, b3, b4, b5, b6⟩ := h
  exact ⟨a2, a4.trans b3, b3, b4, b6⟩
theorem tbM_mk {SB Sme : Ob} {kp : Nat → Int32} {F : FtT} {mm : Nat} (hF : tbF SB kp F) (h : tmM Sme kp (qfN F) mm) : tbM SB Sme kp (qfN F) mm := by
  obtain ⟨⟨ok, c4, -, -, -, cx⟩, ⟨-, m133, -, -, -, mx⟩⟩ := hF
  obtain ⟨a2, a4, b3, b4, b6⟩ := h
  refine ⟨⟨fun t ht => ?_, a2, c4.trans m133.symm, a4.trans b3.symm⟩, m133, ok.1, b3, b4, fun t ht => ?_, b6⟩
  · obtain ⟨p0, p1, p2, p3⟩ := cx t ht
    obtain ⟨q0, q1, q2, q3⟩ := mx t ht
    exact ⟨p0.trans q0.symm, p1.trans q1.symm⟩
  · obtain ⟨q0, q1, q2, q3⟩ := mx t ht
    obtain ⟨o1, o2, o3, o4⟩ := ok.2.2.2.2 t ht
    rw [q0, q1, nI_toInt (by omega), nI_toInt (by omega)]
    omega
theorem okT_up {n n' : Nat} {T : TdT} (h : okT n T) (hn : n ≤ n') (h10 : n' ≤ 10) : okT n' T := ⟨h10, fun i hi => by have := h.2.1 i hi; omega, h.2.2⟩
theorem okC_up {n n' : Nat} {C : TdT} (h : okC n C) (hn : n ≤ n') (h10 : n' ≤ 10) : okC n' C := ⟨h10, h.2.1, fun i hi => by have := h.2.2 i hi; omega⟩
theorem tmM_up {Sme : Ob} {kp : Nat → Int32} {n n' mm : Nat} (h : tmM Sme kp n mm) (hn : n ≤ n') : tmM Sme kp n' mm := by
  obtain ⟨a, b, c, d, e⟩ := h
  refine ⟨a, b, c, d, fun i hi => ?_⟩
  obtain ⟨⟨x, x1, x2⟩, ⟨y, y1, y2⟩, z⟩ := e i hi
  exact ⟨⟨x, by omega, x2⟩, ⟨y, by omega, y2⟩, z⟩
theorem tmM_cg {Sme Sme' : Ob} {kp kp' : Nat → Int32} {n mm : Nat} (h : tmM Sme kp n mm) (e3 : ∀ k, k < 3 → ∀ j, j < 10 → Sme'.2 k j = Sme.2 k j) (e4 : Sme'.1 3 = Sme.1 3) (e : ∀ i, (73 ≤ i ∧ i < 103) ∨ i = 135 → kp' i = kp i) : tmM Sme' kp' n mm := by
  obtain ⟨a, b, c, d, f⟩ := h
  refine ⟨fun i hi => ?_, by rw [e4]; exact b, by rw [e _ (by omega)]; exact c, d, fun i hi => ?_⟩
  · rw [e3 0 (by decide) i (by omega), e3 1 (by decide) i (by omega), e3 2 (by decide) i (by omega), e _ (by omega), e _ (by omega), e _ (by omega)]; exact a i hi
  · rw [e _ (by omega), e _ (by omega), e _ (by omega)]; exact f i hi
theorem tbT_cg {Std : Ob} {kp kp' : Nat → Int32} {n n' : Nat} {T : TdT} (h : tbT Std kp n T) (hn : n ≤ n') (h10 : n' ≤ 10) (e : ∀ i, (43 ≤ i ∧ i < 73) ∨ i = 134 → kp' i = kp i) : tbT Std kp' n' T := ⟨okT_up h.1 hn h10, h.2.1, h.2.2.1, mT_cg h.1 h.2.1 h.2.2.2 (fun i h1 h2 => e i (by omega))⟩
theorem tbC_cg {Scl : Ob} {kp kp' : Nat → Int32} {n n' : Nat} {C : TdT} (h : tbC Scl kp n C) (hn : n ≤ n') (h10 : n' ≤ 10) (e : ∀ i, (103 ≤ i ∧ i < 133) ∨ i = 136 → kp' i = kp i) : tbC Scl kp' n' C := ⟨okC_up h.1 hn h10, h.2.1, mC_cg h.1.2.1 h.2.2 (fun i h1 h2 => e i (by omega))⟩
theorem tbF_cg {SB : Ob} {kp kp' : Nat → Int32} {F : FtT} (h : tbF SB kp F) (e : ∀ i, i < 43 ∨ i = 133 → kp' i = kp i) : tbF SB kp' F := ⟨h.1, mF_cg h.2 e⟩
section TB
variable {LL : Nat → List ClT → Prop} {LP : Nat → Prop} {SB : Ob} {Sls : Nat → Option Nat} {Std Sme Scl : Ob} {kp : Nat → Int32} {F : FtT} {o : Option (List ClT)} {T C : TdT} {mm nl : Nat}
theorem tb_T (h : tb LL LP SB Sls Std Sme Scl kp F o T C mm nl) {Std' : Ob} {T' : TdT} {kp' : Nat → Int32} (hT : tbT Std' kp' (qfN F) T') (e : ∀ i, (i < 43 ∨ 73 ≤ i) → i ≠ 134 → kp' i = kp i) : tb LL LP SB Sls Std' Sme Scl kp' F o T' C mm nl := by
  obtain ⟨f, t, c, m, l⟩ := h
  have h10 := f.1.1.1
  have f' : tbF SB kp' F := tbF_cg f (fun i hi => e i (by omega) (by omega))
  exact ⟨f', hT, tbC_cg c (Nat.le_refl _) h10 (fun i hi => e i (by omega) (by omega)), tbM_mk f' (tmM_cg (tbM_i m) (fun _ _ _ _ => rfl) rfl (fun i hi => e i (by omega) (by omega))), lwR_cg l (fun _ _ q => q) (fun _ q => q) rfl rfl (fun _ _ => rfl) (fun i h1 h2 => e i (by omega) (by omega))⟩
theorem tb_C (h : tb LL LP SB Sls Std Sme Scl kp F o T C mm nl) {Scl' : Ob} {C' : TdT} {kp' : Nat → Int32} (hC : tbC Scl' kp' (qfN F) C') (e : ∀ i, (i < 103 ∨ 133 ≤ i) → i ≠ 136 → kp' i = kp i) : tb LL LP SB Sls Std Sme Scl' kp' F o T C' mm nl := by
  obtain ⟨f, t, c, m, l⟩ := h
  have h10 := f.1.1.1
  have f' : tbF SB kp' F := tbF_cg f (fun i hi => e i (by omega) (by omega))
  exact ⟨f', tbT_cg t (Nat.le_refl _) h10 (fun i hi => e i (by omega) (by omega)), hC, tbM_mk f' (tmM_cg (tbM_i m) (fun _ _ _ _ => rfl) rfl (fun i hi => e i (by omega) (by omega))), lwR_cg l (fun _ _ q => q) (fun _ q => q) rfl rfl (fun _ _ => rfl) (fun i h1 h2 => e i (by omega) (by omega))⟩
theorem tb_M (h : tb LL LP SB Sls Std Sme Scl kp F o T C mm nl) {Sme' : Ob} {mm' : Nat} {kp' : Nat → Int32} (hM : tmM Sme' kp' (qfN F) mm') (e : ∀ i, (i < 73 ∨ 103 ≤ i) → i ≠ 135 → kp' i = kp i) : tb LL LP SB Sls Std Sme' Scl kp' F o T C mm' nl := by
  obtain ⟨f, t, c, m, l⟩ := h
  have h10 := f.1.1.1
  have f' : tbF SB kp' F := tbF_cg f (fun i hi => e i (by omega) (by omega))
  exact ⟨f', tbT_cg t (Nat.le_refl _) h10 (fun i hi => e i (by omega) (by omega)), tbC_cg c (Nat.le_refl _) h10 (fun i hi => e i (by omega) (by omega)), tbM_mk f' hM, lwR_cg l (fun _ _ q => q) (fun _ q => q) rfl rfl (fun _ _ => rfl) (fun i h1 h2 => e i (by omega) (by omega))⟩
theorem tb_F (h : tb LL LP SB Sls Std Sme Scl kp F o T C mm nl) {SB' : Ob} {F' : FtT} {kp' : Nat → Int32} (hF : tbF SB' kp' F') (hn : qfN F ≤ qfN F') (e7 : SB'.1 7 = SB.1 7) (e8 : SB'.1 8 = SB.1 8) (e : ∀ i, 43 ≤ i → i ≠ 133 → kp' i = kp i) : tb LL LP SB' Sls Std Sme Scl kp' F' o T C mm nl := by
  obtain ⟨f, t, c, m, l⟩ := h
  have h10 := hF.1.1.1
  exact ⟨hF, tbT_cg t hn h10 (fun i hi => e i (by omega) (by omega)), tbC_cg c hn h10 (fun i hi => e i (by omega) (by omega)), tbM_mk hF (tmM_up (tmM_cg (tbM_i m) (fun _ _ _ _ => rfl) rfl (fun i hi => e i (by omega) (by omega))) hn), lwR_cg l (fun _ _ q => q) (fun _ q => q) e7 e8 (fun _ _ => rfl) (fun i h1 h2 => e i (by omega) (by omega))⟩
end TB
/-! rows appended -/
def apT (T : TdT) (a : Nat) (y : Int) (u : Nat) : TdT := (qtM T + 1, fun i => if i = qtM T then a else qtF T i, fun i => if i = qtM T then y else qtY T i, fun i => if i = qtM T then u else qtU T i)
theorem ap_M {T : TdT} {a : Nat} {y : Int} {u : Nat} : qtM (apT T a y u) = qtM T + 1 := rfl
theorem ap_F {T : TdT} {a : Nat} {y : Int} {u i : Nat} : qtF (apT T a y u) i = if i = qtM T then a else qtF T i := rfl
theorem ap_Y {T : TdT} {a : Nat} {y : Int} {u i : Nat} : qtY (apT T a y u) i = if i = qtM T then y else qtY T i := rfl
theorem ap_U {T : TdT} {a : Nat} {y : Int} {u i : Nat} : qtU (apT T a y u) i = if i = qtM T then u else qtU T i := rfl
theorem ap_c {Std : Ob} {T : TdT} (h : cT Std T) {a : Nat} {y : Int} {u : Nat} : cT (add3 Std (qtM T) (nI a) (iZ y) (nI u)) (apT T a y u) := by
  refine ⟨by show nI (qtM T) + 1 = _; rw [nI_1]; rfl, fun i hi => ?_⟩
  have r0 : (add3 Std (qtM T) (nI a) (iZ y) (nI u)).2 0 i = if i = qtM T then nI a else Std.2 0 i := rfl
  have r1 : (add3 Std (qtM T) (nI a) (iZ y) (nI u)).2 1 i = if i = qtM T then iZ y else Std.2 1 i := rfl
  have r2 : (add3 Std (qtM T) (nI a) (iZ y) (nI u)).2 2 i = if i = qtM T then nI u else Std.2 2 i := rfl
  rw [r0, r1, r2, ap_F, ap_Y, ap_U]
  rw [ap_M] at hi
  by_cases e : i = qtM T
  · rw [if_pos e, if_pos e, if_pos e, if_pos e, if_pos e, if_pos e]; exact ⟨rfl, rfl, rfl⟩
  · rw [if_neg e, if_neg e, if_neg e, if_neg e, if_neg e, if_neg e]; exact h.2 i (by omega)
def mR (kp : Nat → Int32) (b cn : Nat) (T : TdT) : Prop := kp cn = nI (qtM T) ∧ ∀ i, i < qtM T → kp (b + 3 * i) = nI (qtF T i) ∧ kp (b + 3 * i + 1) = iZ (qtY T i) ∧ kp (b + 3 * i + 2) = nI (qtU T i)
theorem ap_m {kp : Nat → Int32} {b cn : Nat} {T : TdT} (h : mR kp b cn T) (hq : qtM T < 10) (hc : b + 30 ≤ cn) {a : Nat} {y : Int} {u : Nat} : mR (upd (upd (upd (upd kp (b + 3 * qtM T) (nI a)) (b + 3 * qtM T + 1) (iZ y)) (b + 3 * qtM T + 2) (nI u)) cn (nI (qtM T) + 1)) b cn (apT T a y u) := by
  refine ⟨by rw [upd_h, nI_1]; rfl, fun i hi => ?_⟩
  rw [ap_M] at hi
  rw [ap_F, ap_Y, ap_U]
  by_cases e : i = qtM T
  · subst e
    rw [if_pos rfl, if_pos rfl, if_pos rfl, upd_i (by omega), upd_i (by omega), upd_i (by omega), upd_h, upd_i (by omega), upd_i (by omega), upd_h, upd_i (by omega), upd_h]
    exact ⟨rfl, rfl, rfl⟩
  · rw [if_neg e, if_neg e, if_neg e, upd_i (by omega), upd_i (by omega), upd_i (by omega), upd_i (by omega), upd_i (by omega), upd_i (by omega), upd_i (by omega), upd_i (by omega), upd_i (by omega), upd_i (by omega), upd_i (by omega), upd_i (by omega)]
    exact h.2 i (by omega)
