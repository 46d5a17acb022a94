/-! ===== the relation of the two states ===== -/
def lwR (LL : Nat → List ClT → Prop) (LP : Nat → Prop) (SB : Ob) (Sls : Nat → Option Nat) (kp : Nat → Int32) (o : Option (List ClT)) (nl : Nat) : Prop := nl ≤ 6 ∧ SB.1 7 = nI nl ∧ kp 137 = nI nl ∧ SB.1 8 = kp 138 ∧ (∀ t, t < nl → ∃ a Λ, Sls t = some a ∧ LL a Λ ∧ lawM kp t Λ) ∧ (∀ t, t < 6 → ∀ w, Sls t = some w → LP w) ∧ o.elim (kp 138 = -1) (fun Λ => ∃ t a, t < nl ∧ kp 138 = nI t ∧ Sls t = some a ∧ LL a Λ ∧ lawM kp t Λ)
def tbF (SB : Ob) (kp : Nat → Int32) (F : FtT) : Prop := cF SB F ∧ mF kp F
def tbT (Std : Ob) (kp : Nat → Int32) (n : Nat) (T : TdT) : Prop := okT n T ∧ qtM T ≤ 10 ∧ cT Std T ∧ mT (kO kp) T
def tbC (Scl : Ob) (kp : Nat → Int32) (n : Nat) (C : TdT) : Prop := okC n C ∧ cT Scl C ∧ mC (kO kp) C
def tbM (SB Sme : Ob) (kp : Nat → Int32) (n mm : Nat) : Prop := dEq SB Sme kp n mm ∧ dK kp n mm
def tb (LL : Nat → List ClT → Prop) (LP : Nat → Prop) (SB : Ob) (Sls : Nat → Option Nat) (Std Sme Scl : Ob) (kp : Nat → Int32) (F : FtT) (o : Option (List ClT)) (T C : TdT) (mm nl : Nat) : Prop := tbF SB kp F ∧ tbT Std kp (qfN F) T ∧ tbC Scl kp (qfN F) C ∧ tbM SB Sme kp (qfN F) mm ∧ lwR LL LP SB Sls kp o nl
def tbX (LL : Nat → List ClT → Prop) (LP : Nat → Prop) (SB : Ob) (Sls : Nat → Option Nat) (Std Sme Scl : Ob) (kp : Nat → Int32) : Prop := ∃ F o T C mm nl, tb LL LP SB Sls Std Sme Scl kp F o T C mm nl
def vrs (S : Ob) (v : Nat) : Prop := ∃ x, x ≤ v ∧ S.1 1 = nI x ∧ (S.1 29 = -1 ∨ ∃ w, w ≤ x ∧ S.1 29 = nI w)
def rK (SO : Ob) (Stp : Nat → Int32) (Sev : Ob) (S : Ob) (v : Nat) : Prop := (∃ p, p ≤ 400 ∧ SO.1 4 = nI p ∧ S.1 10 = nI p) ∧ (∀ i, i < 400 → bR (Stp i) (S.2 8 i)) ∧ SO.1 6 = S.1 11 ∧ SO.1 7 = S.1 6 ∧ SO.1 16 = S.1 0 ∧ (∀ k, k < 7 → SO.2 15 k = S.2 2 k) ∧ (∃ N, rowE Sev (S.2 40) 0 N ∧ S.1 41 = nI N) ∧ (∀ j, j < 70 → S.2 7 j = wordsB.getD j 0) ∧ vrs S v
def rP (LL : Nat → List ClT → Prop) (LP : Nat → Prop) (SB : Ob) (Sls : Nat → Option Nat) (Std Sme Scl SP : Ob) (Sn : Option (Nat → Nat → Int32)) (S : Ob) : Prop := ∃ F o T C mm nl, tb LL LP SB Sls Std Sme Scl (S.2 3) F o T C mm nl ∧ cV SP (plF F o) ∧ mV S (plF F o) ∧ Sn.elim (SP.1 17 = 0) (fun q => srR SP (plF F o) q)
def rIm (LL : Nat → List ClT → Prop) (LP : Nat → Prop) (SO SB0 : Ob) (Sls0 : Nat → Option Nat) (Std0 Sme0 Scl0 SB1 : Ob) (Sls1 : Nat → Option Nat) (Std1 Sme1 Scl1 S : Ob) : Prop := (∀ k, k < 2 → SO.2 2 k = S.2 5 k) ∧ (∀ t, t < 6 → ∀ w, Sls0 t = some w → LP w) ∧ (∀ t, t < 6 → ∀ w, Sls1 t = some w → LP w) ∧ (¬ S.2 5 0 = 0 → tbX LL LP SB0 Sls0 Std0 Sme0 Scl0 (fun i => S.2 4 (4945 * 0 + i))) ∧ (¬ S.2 5 1 = 0 → tbX LL LP SB1 Sls1 Std1 Sme1 Scl1 (fun i => S.2 4 (4945 * 1 + i)))
def RR (LL : Nat → List ClT → Prop) (LP : Nat → Prop) (SO : Ob) (Stp : Nat → Int32) (SB : Ob) (Sls : Nat → Option Nat) (Std Sme Scl SP Sev SB0 : Ob) (Sls0 : Nat → Option Nat) (Std0 Sme0 Scl0 SB1 : Ob) (Sls1 : Nat → Option Nat) (Std1 Sme1 Scl1 : Ob) (Sn : Option (Nat → Nat → Int32)) (S : Ob) (v : Nat) : Prop := rK SO Stp Sev S v ∧ rP LL LP SB Sls Std Sme Scl SP Sn S ∧ rIm LL LP SO SB0 Sls0 Std0 Sme0 Scl0 SB1 Sls1 Std1 Sme1 Scl1 S
/-! the version -/
theorem vrs_up {S : Ob} {v : Nat} (h : vrs S v) {v' : Nat} (hv : v ≤ v') : vrs S v' := by
  obtain ⟨x, a, b, c⟩ := h
  exact ⟨x, by omega, b, c⟩
theorem vrs_cg {S S' : Ob} {v : Nat} (h : vrs S v) (h1 : S'.1 1 = S.1 1) (h29 : S'.1 29 = S.1 29) : vrs S' v := by
  obtain ⟨x, a, b, c⟩ := h
  exact ⟨x, a, by rw [h1]; exact b, by rw [h29]; exact c⟩
theorem vrs_lk {S S' : Ob} {v : Nat} (h : vrs S v) (h1 : S'.1 1 = S.1 1) (h29 : S'.1 29 = S.1 29 ∨ S'.1 29 = S.1 1) : vrs S' v := by
  obtain ⟨x, a, b, c⟩ := h
  refine ⟨x, a, by rw [h1]; exact b, ?_⟩
  rcases h29 with e | e
  · rw [e]; exact c
  · rw [e, b]; exact Or.inr ⟨x, Nat.le_refl _, rfl⟩
theorem vrs_good {S S' : Ob} {v : Nat} (h : vrs S v) (hv : v < 1000) (h1 : S'.1 1 = S.1 1 + 1) (h29 : S'.1 29 = S.1 29) : vrs S' (v + 1) ∧ ¬ S'.1 29 = S'.1 1 := by
  obtain ⟨x, a, b, c⟩ := h
  rw [b, nI_1] at h1
  refine ⟨⟨x + 1, by omega, h1, ?_⟩, fun e => ?_⟩
  · rw [h29]
    exact c.imp id (fun ⟨w, hw, e⟩ => ⟨w, by omega, e⟩)
  · rw [h29, h1] at e
    rcases c with c | ⟨w, hw, c⟩
    · rw [c] at e; exact nI_m1 (by omega) e.symm
    · rw [c, nI_eq (by omega) (by omega)] at e
      omega
/-! what tables say, at equal cells -/
theorem mC_cg {S S' : Ob} {C : TdT} (hq : qtM C ≤ 10) (h : mC S C) (e : ∀ i, 103 ≤ i → i < 133 ∨ i = 136 → S'.2 3 i = S.2 3 i) : mC S' C := by
  obtain ⟨a, b⟩ := h
  refine ⟨by rw [e 136 (by omega) (by omega)]; exact a, fun i hi => ?_⟩
  rw [e _ (by omega) (by omega), e _ (by omega) (by omega), e _ (by omega) (by omega)]
  exact b i hi
theorem mF_cg {kp kp' : Nat → Int32} {F : FtT} (h : mF kp F) (e : ∀ i, i < 43 ∨ i = 133 → kp' i = kp i) : mF kp' F := by
  obtain ⟨ok, a, b, c, d, f⟩ := h
  have h10 := ok.1
  refine ⟨ok, by rw [e 133 (by omega)]; exact a, by rw [e 40 (by omega)]; exact b, by rw [e 41 (by omega)]; exact c, by rw [e 42 (by omega)]; exact d, fun x hx => ?_⟩
  rw [e _ (by omega), e _ (by omega), e _ (by omega), e _ (by omega)]
  exact f x hx
theorem tbM_cg {SB SB' Sme Sme' : Ob} {kp kp' : Nat → Int32} {n mm : Nat} (h : tbM SB Sme kp n mm) (e1 : ∀ j, j < 10 → SB'.2 0 j = SB.2 0 j ∧ SB'.2 1 j = SB.2 1 j) (e2 : SB'.1 4 = SB.1 4) (e3 : ∀ k, k < 3 → ∀ j, j < 10 → Sme'.2 k j = Sme.2 k j) (e4 : Sme'.1 3 = Sme.1 3) (e : ∀ i, (i < 40 ∧ i % 4 ≤ 1) ∨ (73 ≤ i ∧ i < 103) ∨ i = 133 ∨ i = 135 → kp' i = kp i) : tbM SB' Sme' kp' n mm := by
  obtain ⟨⟨a1, a2, a3, a4⟩, b1, b2, b3, b4, b5, b6⟩ := h
  refine ⟨⟨fun t ht => ?_, fun i hi => ?_, ?_, ?_⟩, ?_, b2, ?_, b4, fun t ht => ?_, fun i hi => ?_⟩
  · rw [(e1 t (by omega)).1, (e1 t (by omega)).2, e _ (by omega), e _ (by omega)]; exact a1 t ht
  · rw [e3 0 (by decide) i (by omega), e3 1 (by decide) i (by omega), e3 2 (by decide) i (by omega), e _ (by omega), e _ (by omega), e _ (by omega)]; exact a2 i hi
  · rw [e2, e _ (by omega)]; exact a3
  · rw [e4, e _ (by omega)]; exact a4
  · rw [e _ (by omega)]; exact b1
  · rw [e _ (by omega)]; exact b3
  · rw [e _ (by omega), e _ (by omega)]; exact b5 t ht
  · rw [e _ (by omega), e _ (by omega), e _ (by omega)]; exact b6 i hi
theorem cF_cg {SB SB' : Ob} {F : FtT} (h : cF SB F) (e : sbE SB' SB) : cF SB' F := by
  obtain ⟨ok, a, b, c, d, f⟩ := h
  obtain ⟨e1, e2, e3, e4, e5⟩ := e
  have h10 := ok.1
  refine ⟨ok, by rw [e3]; exact a, by rw [e2 0 (by decide)]; exact b, by rw [e2 1 (by decide)]; exact c, by rw [e2 2 (by decide)]; exact d, fun x hx => ?_⟩
  rw [e1 0 (by decide) x (by omega), e1 1 (by decide) x (by omega), e1 2 (by decide) x (by omega), e1 3 (by decide) x (by omega)]
  exact f x hx
theorem cT_cg {T T' : Ob} {X : TdT} (hq : qtM X ≤ 10) (h : cT T X) (e : tE T' T) : cT T' X := by
  obtain ⟨a, b⟩ := h
  refine ⟨by rw [e.2]; exact a, fun i hi => ?_⟩
  rw [e.1 0 (by decide) i (by omega), e.1 1 (by decide) i (by omega), e.1 2 (by decide) i (by omega)]
  exact b i hi
theorem lwR_cg {LL LL' : Nat → List ClT → Prop} {LP LP' : Nat → Prop} {SB SB' : Ob} {Sls Sls' : Nat → Option Nat} {kp kp' : Nat → Int32} {o : Option (List ClT)} {nl : Nat} (h : lwR LL LP SB Sls kp o nl) (hLL : ∀ a Λ, LL a Λ → LL' a Λ) (hLP : ∀ a, LP a → LP' a) (e7 : SB'.1 7 = SB.1 7) (e8 : SB'.1 8 = SB.1 8) (es : ∀ t, t < 6 → Sls' t = Sls t) (e : ∀ i, 137 ≤ i → i < 4945 → kp' i = kp i) : lwR LL' LP' SB' Sls' kp' o nl := by
  obtain ⟨a, b, c, d, f, g, k⟩ := h
  refine ⟨a, by rw [e7]; exact b, by rw [e _ (by omega) (by omega)]; exact c, by rw [e8, e _ (by omega) (by omega)]; exact d, fun t ht => ?_, fun t ht w hw => hLP _ (g t ht w (by rw [← es t ht]; exact hw)), ?_⟩
  · obtain ⟨x, Λ, f1, f2, f3⟩ := f t ht
    exact ⟨x, Λ, by rw [es t (by omega)]; exact f1, hLL _ _ f2, lawM_cg (by omega) f3 (fun i h1 h2 => e i (by omega) h2)⟩
  · cases o with
    | none => exact (e 138 (by omega) (by omega)).trans k
    | some Λ =>
      obtain ⟨t, x, k1, k2, k3, k4, k5⟩ := k
      exact ⟨t, x, k1, (e 138 (by omega) (by omega)).trans k2, by rw [es t (by omega)]; exact k3, hLL _ _ k4, lawM_cg (by omega) k5 (fun i h1 h2 => e i (by omega) h2)⟩
theorem tb_cg {LL LL' : Nat → List ClT → Prop} {LP LP' : Nat → Prop} {SB SB' : Ob} {Sls Sls' : Nat → Option Nat} {Std Sme Scl Std' Sme' Scl' : Ob} {kp kp' : Nat → Int32} {F : FtT} {o : Option (List ClT)} {T C : TdT} {mm nl : Nat} (h : tb LL LP SB Sls Std Sme Scl kp F o T C mm nl) (hLL : ∀ a Λ, LL a Λ → LL' a Λ) (hLP : ∀ a, LP a → LP' a) (ht : tlE SB' Sls' Std' Sme' Scl' SB Sls Std Sme Scl) (e : ∀ i, i < 4945 → kp' i = kp i) : tb LL' LP' SB' Sls' Std' Sme' Scl' kp' F o T C mm nl := by
  obtain ⟨⟨f1, f2⟩, ⟨t1, t2, t3, t4⟩, ⟨c1, c2, c3⟩, hm, hl⟩ := h
  obtain ⟨e1, e2, e3, e4, e5⟩ := ht
  refine ⟨⟨cF_cg f1 e1, mF_cg f2 (fun i hi => e i (by omega))⟩, ⟨t1, t2, cT_cg t2 t3 e3, mT_cg t1 t2 t4 (fun i h1 h2 => e i (by omega))⟩, ⟨c1, cT_cg c1.2.1 c2 e5, mC_cg c1.2.1 c3 (fun i h1 h2 => e i (by omega))⟩, tbM_cg hm (fun j hj => ⟨e1.1 0 (by decide) j hj, e1.1 1 (by decide) j hj⟩) e1.2.2.1 e4.1 e4.2 (fun i hi => e i (by omega)), lwR_cg hl hLL hLP e1.2.2.2.1 e1.2.2.2.2 e2 (fun i h1 h2 => e i h2)⟩
theorem tlE_rf {SB : Ob} {Sls : Nat → Option Nat} {Std Sme Scl : Ob} : tlE SB Sls Std Sme Scl SB Sls Std Sme Scl := ⟨⟨fun _ _ _ _ => rfl, fun _ _ => rfl, rfl, rfl, rfl⟩, fun _ _ => rfl, ⟨fun _ _ _ _ => rfl, rfl⟩, ⟨fun _ _ _ _ => rfl, rfl⟩, ⟨fun _ _ _ _ => rfl, rfl⟩⟩
