/-! ===== row, force, image, back keep the relation ===== -/
theorem t_row {LL : Nat → List ClT → Prop} {LP : Nat → Prop} {SO : Ob} {Stp : Nat → Int32} {SB : Ob} {Sls : Nat → Option Nat} {Std Sme Scl SP Sev SB0 : Ob} {Sls0 : Nat → Option Nat} {Std0 Sme0 Scl0 SB1 : Ob} {Sls1 : Nat → Option Nat} {Std1 Sme1 Scl1 : Ob} {Sn : Option (Nat → Nat → Int32)} {S : Ob} {v : Nat} {F : FtT} {o : Option (List ClT)} {T C : TdT} {mm nl : Nat} (hk : rK SO Stp Sev S v) (hp : rPo LL LP SB Sls Std Sme Scl SP Sn S F o T C mm nl) (hi : rIm LL LP SO SB0 Sls0 Std0 Sme0 Scl0 SB1 Sls1 Std1 Sme1 Scl1 S) (hv : v < 1000) : w_X8_row SO Stp SB SP (fun r SO' SB' SP' => wM_row S (fun r' S' => r = r' ∧ RR LL LP SO' Stp SB' Sls Std Sme Scl SP' Sev SB0 Sls0 Std0 Sme0 Scl0 SB1 Sls1 Std1 Sme1 Scl1 Sn S' (v + 1))) := by
  obtain ⟨p, hp4, p1, p2⟩ := id hk.1
  obtain ⟨⟨f1, f2⟩, -⟩ := id hp.1
  refine eq_row (G := fun SB' kp' n' => ∃ F', qfN F' = n' ∧ tb LL LP SB' Sls Std Sme Scl kp' F' o T C mm nl) (n := qfN F) (fun SB1 kp1 n1 a b c d hG hn h1 h2 h3 h4 => ?_) ⟨F, rfl, hp.1⟩ f1.1.1 f1.2.1 f2.2.1 hp4 p1 p2 hk.2.1 (fun c => ⟨rfl, ?_⟩) (fun r lost SB' S' n' hG a b c d => ⟨rfl, ?_⟩)
  · obtain ⟨F', e, h⟩ := hG
    subst e
    exact ⟨apF F' a b c d, rfl, tb_F h (ap_tbF h.1 hn h1 h2 h3 h4) (by rw [apF_N]; omega) rfl rfl (fun i g1 g2 => addF_o g1 g2 hn)⟩
  · subst c
    obtain ⟨-, k2, k3, k4, k5, k6, k7, k8, k9⟩ := hk
    refine RR_ref (S := uS S 10 0) (F := F) (o := o) (T := T) (C := C) (mm := mm) (nl := nl) ⟨⟨0, by omega, p1, rfl⟩, k2, k3, k4, k5, k6, k7, k8, vrs_cg k9 rfl rfl⟩ ⟨hp.1, hp.2.1, mV_cg hp.2.2.1 rfl rfl rfl rfl rfl rfl rfl, hp.2.2.2⟩ (rIm_cg hi rfl rfl rfl) 6
  · obtain ⟨F', e, h⟩ := hG
    obtain ⟨-, k2, k3, k4, k5, k6, k7, k8, k9⟩ := hk
    have s : S'.1 = (uS (uS S 10 0) 6 lost).1 := by
      funext k
      by_cases e6 : k = 6
      · subst e6; exact c
      · by_cases e10 : k = 10
        · subst e10; exact b
        · rw [a k e6 e10, uS_1, if_neg e6, uS_1, if_neg e10]
    exact RR_new (SO := uS (uS SO 4 0) 7 lost) (S := uS (uS S 10 0) 6 lost) (S1 := uS (uS S 10 0) 6 lost) (S' := S') ⟨⟨0, by omega, rfl, rfl⟩, k2, k3, rfl, k5, k6, k7, k8, vrs_cg k9 rfl rfl⟩ hv (rIm_cg hi rfl rfl rfl) lkU.rf s d h (cV_spo _ _) (srR_spo (P' := plF F' o) h.1.1.1.1 hp.2.2.2)
theorem t_force {LL : Nat → List ClT → Prop} {LP : Nat → Prop} {SO : Ob} {Stp : Nat → Int32} {SB : Ob} {Sls : Nat → Option Nat} {Std Sme Scl SP Sev SB0 : Ob} {Sls0 : Nat → Option Nat} {Std0 Sme0 Scl0 SB1 : Ob} {Sls1 : Nat → Option Nat} {Std1 Sme1 Scl1 : Ob} {Sn : Option (Nat → Nat → Int32)} {S : Ob} {v : Nat} {F : FtT} {o : Option (List ClT)} {T C : TdT} {mm nl : Nat} (hk : rK SO Stp Sev S v) (hp : rPo LL LP SB Sls Std Sme Scl SP Sn S F o T C mm nl) (hi : rIm LL LP SO SB0 Sls0 Std0 Sme0 Scl0 SB1 Sls1 Std1 Sme1 Scl1 S) (hv : v < 1000) {x1 : Int32} : w_X8_force SO SB SP x1 (fun r SO' SB' SP' => wM_force S x1 (fun r' S' => r = r' ∧ RR LL LP SO' Stp SB' Sls Std Sme Scl SP' Sev SB0 Sls0 Std0 Sme0 Scl0 SB1 Sls1 Std1 Sme1 Scl1 Sn S' (v + 1))) := by
  obtain ⟨f, t, c, m, l⟩ := id hp.1
  obtain ⟨l1, l2, l3, l4, l5, l6, l7⟩ := id l
  refine eq_force l1 l2 l3 l4 (fun k h1 h7 => ⟨rfl, RR_ref hk hp hi k⟩) (fun h1 h2 => ⟨rfl, ?_⟩)
  have e : ∀ i, i ≠ 138 → (uA S 3 138 x1).2 3 i = S.2 3 i := fun i h => uA_i h
  have e8 : (uA S 3 138 x1).2 3 138 = x1 := uA_h
  have f' : tbF (uS SB 8 x1) ((uA S 3 138 x1).2 3) F := tbF_cg (kp := S.2 3) f (fun i h => e i (by omega))
  have law' : ∀ (o' : Option (List ClT)), o'.elim (x1 = -1) (fun Λ => ∃ t a, t < nl ∧ x1 = nI t ∧ Sls t = some a ∧ LL a Λ ∧ lawM (S.2 3) t Λ) → tb LL LP (uS SB 8 x1) Sls Std Sme Scl ((uA S 3 138 x1).2 3) F o' T C mm nl := by
    intro o' ho
    refine ⟨f', tbT_cg t (Nat.le_refl _) f.1.1.1 (fun i h => e i (by omega)), tbC_cg c (Nat.le_refl _) f.1.1.1 (fun i h => e i (by omega)), tbM_mk f' (tmM_cg (tbM_i m) (fun _ _ _ _ => rfl) rfl (fun i h => e i (by omega))), l1, l2, by rw [e 137 (by decide)]; exact l3, e8.symm, fun t ht => ?_, l6, ?_⟩
    · obtain ⟨a, Λ, g1, g2, g3⟩ := l5 t ht
      exact ⟨a, Λ, g1, g2, lawM_cg (by omega) g3 (fun i q1 q2 => e i (by omega))⟩
    · cases o' with
      | none => exact e8.trans ho
      | some Λ =>
        obtain ⟨t, a, g1, g2, g3, g4, g5⟩ := ho
        exact ⟨t, a, g1, e8.trans g2, g3, g4, lawM_cg (by omega) g5 (fun i q1 q2 => e i (by omega))⟩
  by_cases hx : x1 = -1
  · exact RR_new (S1 := S) (S' := uA S 3 138 x1) hk hv hi lkU.rf rfl (fun k k3 => uA_o k3) (law' none hx) (cV_spo _ _) (srR_spo (P' := plF F none) f.1.1.1 hp.2.2.2)
  · have : ∃ t, t < nl ∧ x1 = nI t := by
      rw [fa_le] at h1
      rw [fa_lt, nI_toInt (by omega)] at h2
      have z : (-1 : Int32).toInt = -1 := by decide
      rw [z] at h1
      have hx' : x1.toInt ≠ -1 := fun q => hx (by rw [iZ_as x1, q]; rfl)
      refine ⟨x1.toInt.toNat, by omega, ?_⟩
      rw [iZ_n, Int.toNat_of_nonneg (by omega)]
      exact iZ_as x1
    obtain ⟨t, ht, ex⟩ := this
    obtain ⟨a, Λ, g1, g2, g3⟩ := l5 t ht
    exact RR_new (S1 := S) (S' := uA S 3 138 x1) hk hv hi lkU.rf rfl (fun k k3 => uA_o k3) (law' (some Λ) ⟨t, a, ht, ex, g1, g2, g3⟩) (cV_spo _ _) (srR_spo (P' := plF F (some Λ)) f.1.1.1 hp.2.2.2)
theorem RR_im {LL : Nat → List ClT → Prop} {LP : Nat → Prop} {SO : Ob} {Stp : Nat → Int32} {Sev S S' : Ob} {v k : Nat} (hk : rK SO Stp Sev S v) (hv : v < 1000) (im : imO S S' k) : rK (uS (uA SO 2 k 1) 16 0) Stp Sev (goodM S') (v + 1) ∧ ¬ (goodM S').1 29 = (goodM S').1 1 := by
  obtain ⟨s, t, i5, i4, i4'⟩ := im
  have hk' : rK (uA SO 2 k 1) Stp Sev S v := by
    obtain ⟨a, b, c, d, e, f, g, h⟩ := hk
    exact ⟨a, b, c, d, e, fun j hj => by rw [uA_o (by decide)]; exact f j hj, g, h⟩
  exact rK_good (S' := goodM S') hk' hv rfl (by show S'.1 1 + 1 = _; rw [s]) (fun j j0 j1 _ => by unfold goodM; rw [uS_1, if_neg j1, uS_1, if_neg j0, s]) (Or.inl (by show S'.1 29 = _; rw [s])) (fun j _ j4 j5 _ => t j j4 j5)
theorem t_image {LL : Nat → List ClT → Prop} {LP : Nat → Prop} {SO : Ob} {Stp : Nat → Int32} {SB : Ob} {Sls : Nat → Option Nat} {Std Sme Scl SP Sev SB0 : Ob} {Sls0 : Nat → Option Nat} {Std0 Sme0 Scl0 SB1 : Ob} {Sls1 : Nat → Option Nat} {Std1 Sme1 Scl1 : Ob} {Sn : Option (Nat → Nat → Int32)} {S : Ob} {v : Nat} {F : FtT} {o : Option (List ClT)} {T C : TdT} {mm nl : Nat} (hk : rK SO Stp Sev S v) (hp : rPo LL LP SB Sls Std Sme Scl SP Sn S F o T C mm nl) (hi : rIm LL LP SO SB0 Sls0 Std0 Sme0 Scl0 SB1 Sls1 Std1 Sme1 Scl1 S) (hv : v < 1000) {aB0 aB1 : Nat → Nat} {Sim : Nat → Option Nat} (hd : aB0 0 ≠ aB1 0) (h0 : Sim 0 = some (aB0 0)) (h1 : Sim 1 = some (aB1 0)) {x1 : Int32} : w_X8_image LP aB0 aB1 SO Sim SB Sls Std Sme Scl SB0 Sls0 Std0 Sme0 Scl0 SB1 Sls1 Std1 Sme1 Scl1 x1 (fun r SO' b0 l0 d0 m0 c0 b1 l1 d1 m1 c1 => wM_image S x1 (fun r' S' => r = r' ∧ RR LL LP SO' Stp SB Sls Std Sme Scl SP Sev b0 l0 d0 m0 c0 b1 l1 d1 m1 c1 Sn S' (v + 1))) := by
  obtain ⟨i1, i2, i3, i4, i5⟩ := id hi
  have hLP := hp.1.2.2.2.2.2.2.2.2.2.1
  have hpS : ∀ S' : Ob, (∀ j, j ≠ 4 → j ≠ 5 → S'.2 j = S.2 j) → ¬ (goodM S').1 29 = (goodM S').1 1 → rP LL LP SB Sls Std Sme Scl SP Sn (goodM S') := fun S' t nv => ⟨F, o, T, C, mm, nl, by show tb _ _ _ _ _ _ _ (S'.2 3) _ _ _ _ _ _; rw [t 3 (by decide) (by decide)]; exact hp.1, hp.2.1, mV_no nv, hp.2.2.2⟩
  refine eq_image hd h0 h1 hLP ⟨rfl, RR_ref hk hp hi 1⟩ (fun SB' Sls' Std' Sme' Scl' S' he im => ?_) (fun SB' Sls' Std' Sme' Scl' S' he im => ?_)
  · obtain ⟨ka, kb⟩ := RR_im (LL := LL) (LP := LP) hk hv im
    obtain ⟨s, t, q5, q4, q4'⟩ := im
    have e51 : S'.2 5 1 = S.2 5 1 := by rw [q5, upd_i (by decide)]
    refine ⟨rfl, ka, hpS S' t kb, fun k hk2 => ?_, fun t ht w hw => hLP t ht w (by rw [← he.2.1 t ht]; exact hw), i3, fun _ => ⟨F, o, T, C, mm, nl, tb_cg hp.1 (fun _ _ h => h) (fun _ h => h) he (fun i hi => q4 i hi)⟩, fun n1 => ?_⟩
    · show (uA SO 2 0 1).2 2 k = S'.2 5 k
      rw [q5]
      by_cases e : k = 0
      · subst e; rw [uA_h, upd_h]
      · rw [uA_i e, upd_i e]; exact i1 k hk2
    · have n1 : ¬ S'.2 5 1 = 0 := n1
      rw [e51] at n1
      obtain ⟨F2, o2, T2, C2, mm2, nl2, h2⟩ := i5 n1
      exact ⟨F2, o2, T2, C2, mm2, nl2, tb_cg h2 (fun _ _ h => h) (fun _ h => h) tlE_rf (fun i hi => q4' _ (by omega))⟩
  · obtain ⟨ka, kb⟩ := RR_im (LL := LL) (LP := LP) hk hv im
    obtain ⟨s, t, q5, q4, q4'⟩ := im
    have e50 : S'.2 5 0 = S.2 5 0 := by rw [q5, upd_i (by decide)]
    refine ⟨rfl, ka, hpS S' t kb, fun k hk2 => ?_, i2, fun t ht w hw => hLP t ht w (by rw [← he.2.1 t ht]; exact hw), fun n0 => ?_, fun _ => ⟨F, o, T, C, mm, nl, tb_cg hp.1 (fun _ _ h => h) (fun _ h => h) he (fun i hi => q4 i hi)⟩⟩
    · show (uA SO 2 1 1).2 2 k = S'.2 5 k
      rw [q5]
      by_cases e : k = 1
      · subst e; rw [uA_h, upd_h]
      · rw [uA_i e, upd_i e]; exact i1 k hk2
    · have n0 : ¬ S'.2 5 0 = 0 := n0
      rw [e50] at n0
      obtain ⟨F2, o2, T2, C2, mm2, nl2, h2⟩ := i4 n0
      exact ⟨F2, o2, T2, C2, mm2, nl2, tb_cg h2 (fun _ _ h => h) (fun _ h => h) tlE_rf (fun i hi => q4' _ (by omega))⟩
theorem t_back {LL : Nat → List ClT → Prop} {LP : Nat → Prop} {SO : Ob} {Stp : Nat → Int32} {SB : Ob} {Sls : Nat → Option Nat} {Std Sme Scl SP Sev SB0 : Ob} {Sls0 : Nat → Option Nat} {Std0 Sme0 Scl0 SB1 : Ob} {Sls1 : Nat → Option Nat} {Std1 Sme1 Scl1 : Ob} {Sn : Option (Nat → Nat → Int32)} {S : Ob} {v : Nat} {F : FtT} {o : Option (List ClT)} {T C : TdT} {mm nl : Nat} (hk : rK SO Stp Sev S v) (hp : rPo LL LP SB Sls Std Sme Scl SP Sn S F o T C mm nl) (hi : rIm LL LP SO SB0 Sls0 Std0 Sme0 Scl0 SB1 Sls1 Std1 Sme1 Scl1 S) (hv : v < 1000) {aB0 aB1 : Nat → Nat} {Sim : Nat → Option Nat} (hd : aB0 0 ≠ aB1 0) (h0 : Sim 0 = some (aB0 0)) (h1 : Sim 1 = some (aB1 0)) {x1 : Int32} : w_X8_back LP aB0 aB1 SO Sim SP SB Sls Std Sme Scl SB0 Sls0 Std0 Sme0 Scl0 SB1 Sls1 Std1 Sme1 Scl1 x1 (fun r SO' SP' b l d m c => wM_back S x1 (fun r' S' => r = r' ∧ RR LL LP SO' Stp b l d m c SP' Sev SB0 Sls0 Std0 Sme0 Scl0 SB1 Sls1 Std1 Sme1 Scl1 Sn S' (v + 1))) := by
  obtain ⟨i1, i2, i3, i4, i5⟩ := id hi
  refine eq_back hd h0 h1 i2 i3 i1 (fun k q1 q2 => ⟨rfl, RR_ref hk hp hi k⟩) (fun n0 SB' Sls' Std' Sme' Scl' S' he ba => ⟨rfl, ?_⟩) (fun n0 SB' Sls' Std' Sme' Scl' S' he ba => ⟨rfl, ?_⟩)
  · obtain ⟨s, t, q3⟩ := ba
    obtain ⟨F2, o2, T2, C2, mm2, nl2, h2⟩ := i4 n0
    exact RR_new (S1 := S) (S' := S') hk hv hi lkU.rf s t (tb_cg h2 (fun _ _ h => h) (fun _ h => h) he (fun i hi => q3 i hi)) (cV_spo _ _) (srR_spo (P' := plF F2 o2) h2.1.1.1.1 hp.2.2.2)
  · obtain ⟨s, t, q3⟩ := ba
    obtain ⟨F2, o2, T2, C2, mm2, nl2, h2⟩ := i5 n0
    exact RR_new (S1 := S) (S' := S') hk hv hi lkU.rf s t (tb_cg h2 (fun _ _ h => h) (fun _ h => h) he (fun i hi => q3 i hi)) (cV_spo _ _) (srR_spo (P' := plF F2 o2) h2.1.1.1.1 hp.2.2.2)
