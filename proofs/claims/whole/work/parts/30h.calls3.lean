/-! ===== tell, draw, winter, learn, law keep the relation ===== -/
theorem rK_lk0 {SO : Ob} {Stp : Nat → Int32} {Sev S S' : Ob} {v : Nat} (h : rK SO Stp Sev S v) (lk : lkU S S') : rK SO Stp Sev S' v := by
  obtain ⟨a, b, c, d, e, f, g, i, j⟩ := h
  have s := lk.1.1
  have t := lk.2
  exact ⟨by rw [s 10 (by decide)]; exact a, by rw [t 8 (by decide)]; exact b, by rw [s 11 (by decide)]; exact c, by rw [s 6 (by decide)]; exact d, by rw [s 0 (by decide)]; exact e, by rw [t 2 (by decide)]; exact f, by rw [t 40 (by decide), s 41 (by decide)]; exact g, by rw [t 7 (by decide)]; exact i, vrs_lk j (s 1 (by decide)) lk.1.2⟩
theorem rPo_lk {LL : Nat → List ClT → Prop} {LP : Nat → Prop} {SB : Ob} {Sls : Nat → Option Nat} {Std Sme Scl SP : Ob} {Sn : Option (Nat → Nat → Int32)} {S : Ob} {F : FtT} {o : Option (List ClT)} {T C : TdT} {mm nl : Nat} (h : rPo LL LP SB Sls Std Sme Scl SP Sn S F o T C mm nl) {SP' S' : Ob} (cv : cV SP' (plF F o)) (mv : mV S' (plF F o)) (lk : lkU S S') (c17 : SP'.1 17 = SP.1 17) : rPo LL LP SB Sls Std Sme Scl SP' Sn S' F o T C mm nl := by
  obtain ⟨a, b, c, d⟩ := h
  refine ⟨?_, cv, mv, srR_cg d c17⟩
  rw [lk.2 3 (by decide)]
  exact a
theorem okT_ap {n : Nat} {T : TdT} (h : okT n T) {t u : Nat} {y : Int} (ht : t < n) (hu : u < 4) (h0 : 0 ≤ y) (h1 : y ≤ 2000) (hn : hb (qtS T) t = false) : okT n (apT T t y u) := by
  have no : ∀ i, i < qtM T → qtF T i ≠ t := fun i hi e => by
    have := (hb_tsF (qtF T) t (qtM T)).mpr ⟨i, hi, e⟩
    unfold qtS at hn
    rw [hn] at this
    exact absurd this (by decide)
  refine ⟨h.1, fun i hi => ?_, fun i j hij hj => ?_⟩
  · rw [ap_M] at hi
    rw [ap_F, ap_Y, ap_U]
    by_cases e : i = qtM T
    · rw [if_pos e, if_pos e, if_pos e]; exact ⟨ht, h0, h1, hu⟩
    · rw [if_neg e, if_neg e, if_neg e]; exact h.2.1 i (by omega)
  · rw [ap_M] at hj
    rw [ap_F, ap_F, if_neg (by omega)]
    by_cases e : j = qtM T
    · rw [if_pos e]; exact no i (by omega)
    · rw [if_neg e]; exact h.2.2 i j hij (by omega)
theorem t_tell {LL : Nat → List ClT → Prop} {LP : Nat → Prop} {SO : Ob} {Stp : Nat → Int32} {SB : Ob} {Sls : Nat → Option Nat} {Std Sme Scl SP Sev SB0 : Ob} {Sls0 : Nat → Option Nat} {Std0 Sme0 Scl0 SB1 : Ob} {Sls1 : Nat → Option Nat} {Std1 Sme1 Scl1 : Ob} {Sn : Option (Nat → Nat → Int32)} {S : Ob} {v : Nat} {aLw : Nat → Nat} {SLw : Lw} {Λ : List ClT} (hL : lawC SLw Λ) (hI : ∀ Q : Option Nat → Prop, Q (some (aLw 0)) → w_X6_lawInForce SB Sls Q) {F : FtT} {T C : TdT} {mm nl : Nat} (hk : rK SO Stp Sev S v) (hp : rPo LL LP SB Sls Std Sme Scl SP Sn S F (some Λ) T C mm nl) (hi : rIm LL LP SO SB0 Sls0 Std0 Sme0 Scl0 SB1 Sls1 Std1 Sme1 Scl1 S) (hv : v < 1000) {SJ : Ob} {x1 x2 : Int32} : w_X8_tell aLw SO SB Sls SP SJ Std SLw x1 x2 (fun r SO' SP' SJ' Std' => wM_tell S x1 x2 (fun r' S' => r = r' ∧ RR LL LP SO' Stp SB Sls Std' Sme Scl SP' Sev SB0 Sls0 Std0 Sme0 Scl0 SB1 Sls1 Std1 Sme1 Scl1 Sn S' (v + 1))) := by
  obtain ⟨⟨f1, f2⟩, ⟨t1, t2, t3, t4⟩, -⟩ := id hp.1
  refine eq_tell (pB_of hp) (s_weigh hp.1.1.1 hL hI hp.2.1) (lk_of hp) (fun k _ _ => ⟨rfl, RR_ref hk hp hi k⟩) (fun SP' SJ' S' cv mv lk c17 => ⟨rfl, RR_ref (rK_lk0 hk lk) (rPo_lk hp cv mv lk c17) (rIm_cg hi rfl (lk.2 4 (by decide)) (lk.2 5 (by decide))) 3⟩) (fun SP' SJ' S' t u y cv mv lk c17 ht hu hy0 hy1 hnb hm => ⟨rfl, ?_⟩)
  have e3 : S'.2 3 = S.2 3 := lk.2 3 (by decide)
  have ht : t < qfN F := ht
  have hm : qtM T < qfN F := hm
  have hn10 : qfN F ≤ 10 := t1.1
  have hR : mR (S'.2 3) 43 134 T := by rw [e3]; exact t4
  refine RR_new (S1 := S') (S' := addK S' 43 134 (qtM T) (nI t) (iZ y) (nI u)) hk hv hi lk rfl (fun k k3 => by unfold addK; rw [uA_o k3, uA_o k3, uA_o k3, uA_o k3]) (tb_T (T' := apT T t y u) hp.1 ⟨okT_ap t1 ht hu hy0 hy1 hnb, by rw [ap_M]; omega, ap_c t3, ap_m (b := 43) (cn := 134) hR (by omega) (by decide)⟩ (fun i h1 h2 => ?_)) cv (srR_cg hp.2.2.2 c17)
  have hk : (addK S' 43 134 (qtM T) (nI t) (iZ y) (nI u)).2 3 = upd (upd (upd (upd (S'.2 3) (43 + 3 * qtM T) (nI t)) (43 + 3 * qtM T + 1) (iZ y)) (43 + 3 * qtM T + 2) (nI u)) 134 (nI (qtM T) + 1) := rfl
  rw [hk, upd_i (by omega), upd_i (by omega), upd_i (by omega), upd_i (by omega), e3]
theorem t_tellN {LL : Nat → List ClT → Prop} {LP : Nat → Prop} {SO : Ob} {Stp : Nat → Int32} {SB : Ob} {Sls : Nat → Option Nat} {Std Sme Scl SP Sev SB0 : Ob} {Sls0 : Nat → Option Nat} {Std0 Sme0 Scl0 SB1 : Ob} {Sls1 : Nat → Option Nat} {Std1 Sme1 Scl1 : Ob} {Sn : Option (Nat → Nat → Int32)} {S : Ob} {v : Nat} {F : FtT} {T C : TdT} {mm nl : Nat} (hk : rK SO Stp Sev S v) (hp : rPo LL LP SB Sls Std Sme Scl SP Sn S F none T C mm nl) (hi : rIm LL LP SO SB0 Sls0 Std0 Sme0 Scl0 SB1 Sls1 Std1 Sme1 Scl1 S) (hv : v < 1000) {SJ : Ob} {x1 x2 : Int32} : w_X8_tellN SO SB Sls SP SJ Std x1 x2 (fun r SO' SP' SJ' Std' => wM_tell S x1 x2 (fun r' S' => r = r' ∧ RR LL LP SO' Stp SB Sls Std' Sme Scl SP' Sev SB0 Sls0 Std0 Sme0 Scl0 SB1 Sls1 Std1 Sme1 Scl1 Sn S' (v + 1))) := by
  obtain ⟨⟨f1, f2⟩, ⟨t1, t2, t3, t4⟩, -⟩ := id hp.1
  refine eq_tellN (pB_of hp) (s_weighN hp.1.1.1 (inF_n hp.1.2.2.2.2) hp.2.1) (lk_of hp) (fun k _ _ => ⟨rfl, RR_ref hk hp hi k⟩) (fun SP' SJ' S' cv mv lk c17 => ⟨rfl, RR_ref (rK_lk0 hk lk) (rPo_lk hp cv mv lk c17) (rIm_cg hi rfl (lk.2 4 (by decide)) (lk.2 5 (by decide))) 3⟩) (fun SP' SJ' S' t u y cv mv lk c17 ht hu hy0 hy1 hnb hm => ⟨rfl, ?_⟩)
  have e3 : S'.2 3 = S.2 3 := lk.2 3 (by decide)
  have ht : t < qfN F := ht
  have hm : qtM T < qfN F := hm
  have hn10 : qfN F ≤ 10 := t1.1
  have hR : mR (S'.2 3) 43 134 T := by rw [e3]; exact t4
  refine RR_new (S1 := S') (S' := addK S' 43 134 (qtM T) (nI t) (iZ y) (nI u)) hk hv hi lk rfl (fun k k3 => by unfold addK; rw [uA_o k3, uA_o k3, uA_o k3, uA_o k3]) (tb_T (T' := apT T t y u) hp.1 ⟨okT_ap t1 ht hu hy0 hy1 hnb, by rw [ap_M]; omega, ap_c t3, ap_m (b := 43) (cn := 134) hR (by omega) (by decide)⟩ (fun i h1 h2 => ?_)) cv (srR_cg hp.2.2.2 c17)
  have hk : (addK S' 43 134 (qtM T) (nI t) (iZ y) (nI u)).2 3 = upd (upd (upd (upd (S'.2 3) (43 + 3 * qtM T) (nI t)) (43 + 3 * qtM T + 1) (iZ y)) (43 + 3 * qtM T + 2) (nI u)) 134 (nI (qtM T) + 1) := rfl
  rw [hk, upd_i (by omega), upd_i (by omega), upd_i (by omega), upd_i (by omega), e3]
theorem rK_dr {SO : Ob} {Stp : Nat → Int32} {Sev Sev' S : Ob} {v N : Nat} {A : Nat → Int32} (h : rK SO Stp Sev S v) (he : rowE Sev' A 0 N) : rK SO Stp Sev' (uR (uS S 41 (nI N)) 40 A) v := by
  obtain ⟨a, b, c, d, e, f, g, i, j⟩ := h
  exact ⟨a, b, c, d, e, f, ⟨N, he, rfl⟩, i, vrs_cg j rfl rfl⟩
theorem lk_dr {S S' : Ob} {N : Nat} (s : ∀ k, k ∉ scS → k ≠ 41 → S'.1 k = S.1 k) (h29 : S'.1 29 = S.1 29 ∨ S'.1 29 = S.1 1) (t : ∀ k, k ∉ scA → k ≠ 40 → S'.2 k = S.2 k) (h41 : S'.1 41 = nI N) : lkU (uR (uS S 41 (nI N)) 40 (S'.2 40)) S' := by
  refine ⟨⟨fun k hk => ?_, h29⟩, fun k hk => ?_⟩
  · by_cases e : k = 41
    · subst e; exact h41
    · show S'.1 k = (uS S 41 (nI N)).1 k
      rw [uS_1, if_neg e]; exact s k hk e
  · show S'.2 k = va_up S.2 40 (S'.2 40) k
    by_cases e : k = 40
    · subst e; rw [va_up_self]
    · rw [va_up_ne _ _ e]; exact t k hk e
theorem t_draw {LL : Nat → List ClT → Prop} {LP : Nat → Prop} {SO : Ob} {Stp : Nat → Int32} {SB : Ob} {Sls : Nat → Option Nat} {Std Sme Scl SP Sev SB0 : Ob} {Sls0 : Nat → Option Nat} {Std0 Sme0 Scl0 SB1 : Ob} {Sls1 : Nat → Option Nat} {Std1 Sme1 Scl1 : Ob} {Sn : Option (Nat → Nat → Int32)} {S : Ob} {v : Nat} {aLw : Nat → Nat} {SLw : Lw} {Λ : List ClT} (hL : lawC SLw Λ) (hI : ∀ Q : Option Nat → Prop, Q (some (aLw 0)) → w_X6_lawInForce SB Sls Q) {F : FtT} {T C : TdT} {mm nl : Nat} (hk : rK SO Stp Sev S v) (hp : rPo LL LP SB Sls Std Sme Scl SP Sn S F (some Λ) T C mm nl) (hi : rIm LL LP SO SB0 Sls0 Std0 Sme0 Scl0 SB1 Sls1 Std1 Sme1 Scl1 S) (hv : v < 1000) {SJ : Ob} {Sch : Nat → Int32} {x1 : Int32} : w_X8_draw aLw SO SB Sls SP SJ Std Sch Sev SLw x1 (fun r SO' SP' SJ' Sch' Sev' => wM_draw S x1 (fun r' S' => r = r' ∧ RR LL LP SO' Stp SB Sls Std Sme Scl SP' Sev' SB0 Sls0 Std0 Sme0 Scl0 SB1 Sls1 Std1 Sme1 Scl1 Sn S' (v + 1))) := by
  refine eq_draw (pB_of hp) (s_weigh hp.1.1.1 hL hI hp.2.1) (lk_of hp) ⟨rfl, RR_ref hk hp hi 1⟩ (fun N SP' SJ' Sch' Sev' S'' cv c17 s h29 t _ _ he h41 => ⟨rfl, ?_⟩)
  refine RR_new (S1 := S'') (S' := S'') (rK_dr hk he) hv (rIm_cg hi rfl rfl rfl) (lk_dr s h29 t h41) rfl (fun _ _ => rfl) (F' := F) (o' := (some Λ)) (T' := T) (C' := C) (mm' := mm) (nl' := nl) ?_ cv (srR_cg hp.2.2.2 c17)
  rw [t 3 (by decide) (by decide)]
  exact hp.1
theorem t_drawN {LL : Nat → List ClT → Prop} {LP : Nat → Prop} {SO : Ob} {Stp : Nat → Int32} {SB : Ob} {Sls : Nat → Option Nat} {Std Sme Scl SP Sev SB0 : Ob} {Sls0 : Nat → Option Nat} {Std0 Sme0 Scl0 SB1 : Ob} {Sls1 : Nat → Option Nat} {Std1 Sme1 Scl1 : Ob} {Sn : Option (Nat → Nat → Int32)} {S : Ob} {v : Nat} {F : FtT} {T C : TdT} {mm nl : Nat} (hk : rK SO Stp Sev S v) (hp : rPo LL LP SB Sls Std Sme Scl SP Sn S F none T C mm nl) (hi : rIm LL LP SO SB0 Sls0 Std0 Sme0 Scl0 SB1 Sls1 Std1 Sme1 Scl1 S) (hv : v < 1000) {SJ : Ob} {Sch : Nat → Int32} {x1 : Int32} : w_X8_drawN SO SB Sls SP SJ Std Sch Sev x1 (fun r SO' SP' SJ' Sch' Sev' => wM_draw S x1 (fun r' S' => r = r' ∧ RR LL LP SO' Stp SB Sls Std Sme Scl SP' Sev' SB0 Sls0 Std0 Sme0 Scl0 SB1 Sls1 Std1 Sme1 Scl1 Sn S' (v + 1))) := by
  refine eq_drawN (pB_of hp) (s_weighN hp.1.1.1 (inF_n hp.1.2.2.2.2) hp.2.1) (lk_of hp) ⟨rfl, RR_ref hk hp hi 1⟩ (fun N SP' SJ' Sch' Sev' S'' cv c17 s h29 t _ _ he h41 => ⟨rfl, ?_⟩)
  refine RR_new (S1 := S'') (S' := S'') (rK_dr hk he) hv (rIm_cg hi rfl rfl rfl) (lk_dr s h29 t h41) rfl (fun _ _ => rfl) (F' := F) (o' := none) (T' := T) (C' := C) (mm' := mm) (nl' := nl) ?_ cv (srR_cg hp.2.2.2 c17)
  rw [t 3 (by decide) (by decide)]
  exact hp.1
theorem t_winter {LL : Nat → List ClT → Prop} {LP : Nat → Prop} {SO : Ob} {Stp : Nat → Int32} {SB : Ob} {Sls : Nat → Option Nat} {Std Sme Scl SP Sev SB0 : Ob} {Sls0 : Nat → Option Nat} {Std0 Sme0 Scl0 SB1 : Ob} {Sls1 : Nat → Option Nat} {Std1 Sme1 Scl1 : Ob} {SSn : Nat → Nat → Int32} {S : Ob} {v : Nat} {aLw : Nat → Nat} {SLw : Lw} {Λ : List ClT} (hL : lawC SLw Λ) (hI : ∀ Q : Option Nat → Prop, Q (some (aLw 0)) → w_X6_lawInForce SB Sls Q) {F : FtT} {T C : TdT} {mm nl : Nat} (hk : rK SO Stp Sev S v) (hp : rPo LL LP SB Sls Std Sme Scl SP (some SSn) S F (some Λ) T C mm nl) (hi : rIm LL LP SO SB0 Sls0 Std0 Sme0 Scl0 SB1 Sls1 Std1 Sme1 Scl1 S) {SJ : Ob} {x1 x2 : Int32} : w_X8_winter aLw SO SB Sls SP SJ SLw SSn x1 x2 (fun r SP' SJ' SSn' => wM_winter S x1 x2 (fun r' S' => r = r' ∧ RR LL LP SO Stp SB Sls Std Sme Scl SP' Sev SB0 Sls0 Std0 Sme0 Scl0 SB1 Sls1 Std1 Sme1 Scl1 (some SSn') S' (v + 1))) :=
  eq_winter (plF_ok hp.1.1.1.1 _) hp.1.1.1.2.1 (s_reckon (s_weigh hp.1.1.1 hL hI hp.2.1) hp.2.1) (lk_of hp) hp.2.1 hp.2.2.1 hp.2.2.2 ⟨rfl, RR_of hk hp hi⟩ (fun r SP' SJ' SSn' S' cv mv lk sr => ⟨rfl, rK_lk hk lk, ⟨F, (some Λ), T, C, mm, nl, by rw [lk.2 3 (by decide)]; exact hp.1, cv, mv, sr⟩, rIm_cg hi rfl (lk.2 4 (by decide)) (lk.2 5 (by decide))⟩)
theorem t_winterA {LL : Nat → List ClT → Prop} {LP : Nat → Prop} {SO : Ob} {Stp : Nat → Int32} {SB : Ob} {Sls : Nat → Option Nat} {Std Sme Scl SP Sev SB0 : Ob} {Sls0 : Nat → Option Nat} {Std0 Sme0 Scl0 SB1 : Ob} {Sls1 : Nat → Option Nat} {Std1 Sme1 Scl1 : Ob} {S : Ob} {v : Nat} {aLw : Nat → Nat} {SLw : Lw} {Λ : List ClT} (hL : lawC SLw Λ) (hI : ∀ Q : Option Nat → Prop, Q (some (aLw 0)) → w_X6_lawInForce SB Sls Q) {F : FtT} {T C : TdT} {mm nl : Nat} (hk : rK SO Stp Sev S v) (hp : rPo LL LP SB Sls Std Sme Scl SP none S F (some Λ) T C mm nl) (hi : rIm LL LP SO SB0 Sls0 Std0 Sme0 Scl0 SB1 Sls1 Std1 Sme1 Scl1 S) {SJ : Ob} {x1 x2 : Int32} : w_X8_winterA aLw SO SB Sls SP SJ SLw x1 x2 (fun r So SP' SJ' => wM_winter S x1 x2 (fun r' S' => r = r' ∧ RR LL LP SO Stp SB Sls Std Sme Scl SP' Sev SB0 Sls0 Std0 Sme0 Scl0 SB1 Sls1 Std1 Sme1 Scl1 (So.map Prod.snd) S' (v + 1))) :=
  eq_winterA (plF_ok hp.1.1.1.1 _) hp.1.1.1.2.1 (s_reckon (s_weigh hp.1.1.1 hL hI hp.2.1) hp.2.1) (lk_of hp) hp.2.1 hp.2.2.1 hp.2.2.2 ⟨rfl, RR_of hk hp hi⟩ (fun r SP' SJ' SSn' S' us cv mv lk sr => ⟨rfl, rK_lk hk lk, ⟨F, (some Λ), T, C, mm, nl, by rw [lk.2 3 (by decide)]; exact hp.1, cv, mv, sr⟩, rIm_cg hi rfl (lk.2 4 (by decide)) (lk.2 5 (by decide))⟩)
theorem t_winterN {LL : Nat → List ClT → Prop} {LP : Nat → Prop} {SO : Ob} {Stp : Nat → Int32} {SB : Ob} {Sls : Nat → Option Nat} {Std Sme Scl SP Sev SB0 : Ob} {Sls0 : Nat → Option Nat} {Std0 Sme0 Scl0 SB1 : Ob} {Sls1 : Nat → Option Nat} {Std1 Sme1 Scl1 : Ob} {SSn : Nat → Nat → Int32} {S : Ob} {v : Nat} {F : FtT} {T C : TdT} {mm nl : Nat} (hk : rK SO Stp Sev S v) (hp : rPo LL LP SB Sls Std Sme Scl SP (some SSn) S F none T C mm nl) (hi : rIm LL LP SO SB0 Sls0 Std0 Sme0 Scl0 SB1 Sls1 Std1 Sme1 Scl1 S) {SJ : Ob} {x1 x2 : Int32} : w_X8_winterN SO SB Sls SP SJ SSn x1 x2 (fun r SP' SJ' SSn' => wM_winter S x1 x2 (fun r' S' => r = r' ∧ RR LL LP SO Stp SB Sls Std Sme Scl SP' Sev SB0 Sls0 Std0 Sme0 Scl0 SB1 Sls1 Std1 Sme1 Scl1 (some SSn') S' (v + 1))) :=
  eq_winterN (plF_ok hp.1.1.1.1 _) hp.1.1.1.2.1 (s_reckonN (s_weighN hp.1.1.1 (inF_n hp.1.2.2.2.2) hp.2.1) hp.2.1) (lk_of hp) hp.2.1 hp.2.2.1 hp.2.2.2 ⟨rfl, RR_of hk hp hi⟩ (fun r SP' SJ' SSn' S' cv mv lk sr => ⟨rfl, rK_lk hk lk, ⟨F, none, T, C, mm, nl, by rw [lk.2 3 (by decide)]; exact hp.1, cv, mv, sr⟩, rIm_cg hi rfl (lk.2 4 (by decide)) (lk.2 5 (by decide))⟩)
theorem t_winterNA {LL : Nat → List ClT → Prop} {LP : Nat → Prop} {SO : Ob} {Stp : Nat → Int32} {SB : Ob} {Sls : Nat → Option Nat} {Std Sme Scl SP Sev SB0 : Ob} {Sls0 : Nat → Option Nat} {Std0 Sme0 Scl0 SB1 : Ob} {Sls1 : Nat → Option Nat} {Std1 Sme1 Scl1 : Ob} {S : Ob} {v : Nat} {F : FtT} {T C : TdT} {mm nl : Nat} (hk : rK SO Stp Sev S v) (hp : rPo LL LP SB Sls Std Sme Scl SP none S F none T C mm nl) (hi : rIm LL LP SO SB0 Sls0 Std0 Sme0 Scl0 SB1 Sls1 Std1 Sme1 Scl1 S) {SJ : Ob} {x1 x2 : Int32} : w_X8_winterNA SO SB Sls SP SJ x1 x2 (fun r So SP' SJ' => wM_winter S x1 x2 (fun r' S' => r = r' ∧ RR LL LP SO Stp SB Sls Std Sme Scl SP' Sev SB0 Sls0 Std0 Sme0 Scl0 SB1 Sls1 Std1 Sme1 Scl1 (So.map Prod.snd) S' (v + 1))) :=
  eq_winterNA (plF_ok hp.1.1.1.1 _) hp.1.1.1.2.1 (s_reckonN (s_weighN hp.1.1.1 (inF_n hp.1.2.2.2.2) hp.2.1) hp.2.1) (lk_of hp) hp.2.1 hp.2.2.1 hp.2.2.2 ⟨rfl, RR_of hk hp hi⟩ (fun r SP' SJ' SSn' S' us cv mv lk sr => ⟨rfl, rK_lk hk lk, ⟨F, none, T, C, mm, nl, by rw [lk.2 3 (by decide)]; exact hp.1, cv, mv, sr⟩, rIm_cg hi rfl (lk.2 4 (by decide)) (lk.2 5 (by decide))⟩)
theorem rK_ln {SO : Ob} {Stp : Nat → Int32} {Sev S S' : Ob} {v : Nat} (h : rK SO Stp Sev S v) (hv : v < 1000) (lk : lnU S S') : rK SO Stp Sev S' (v + 1) ∧ ¬ S'.1 29 = S'.1 1 := by
  obtain ⟨a, b, c, d, e, f, g, i, x, j1, j2, j3⟩ := h
  obtain ⟨s, e29, t⟩ := lk
  have e1 : S'.1 1 = nI x := (s 1 (by decide)).trans j2
  refine ⟨⟨by rw [s 10 (by decide)]; exact a, by rw [t 8 (by decide)]; exact b, by rw [s 11 (by decide)]; exact c, by rw [s 6 (by decide)]; exact d, by rw [s 0 (by decide)]; exact e, by rw [t 2 (by decide)]; exact f, by rw [t 40 (by decide), s 41 (by decide)]; exact g, by rw [t 7 (by decide)]; exact i, x, by omega, e1, Or.inl e29⟩, fun q => ?_⟩
  rw [e1, e29] at q
  exact nI_m1 (by omega) q.symm
theorem ln_no {x1 x2 : Int32} {K u : Nat} (hK : K < 2 ^ 31) (hu : u < K) (e : x1 = nI u) (h2 : (decide (0 ≤ x2) && decide (x2 ≤ 1)) = true) (c : (decide (0 ≤ x1) && decide (x1 < nI K)) = false ∨ (decide (0 ≤ x2) && decide (x2 ≤ 1)) = false) : False := by
  rcases c with c | c
  · subst e
    have a : (0 : Int32) ≤ nI u := (nI_leI (a := 0) (by decide) (by omega)).mpr (Nat.zero_le _)
    rw [decide_eq_true a, decide_eq_true ((nI_ltI (by omega) hK).mpr hu)] at c
    exact absurd c (by decide)
  · rw [h2] at c
    exact absurd c (by decide)
theorem t_learn {LL : Nat → List ClT → Prop} {LP : Nat → Prop} {SO : Ob} {Stp : Nat → Int32} {SB : Ob} {Sls : Nat → Option Nat} {Std Sme Scl SP Sev SB0 : Ob} {Sls0 : Nat → Option Nat} {Std0 Sme0 Scl0 SB1 : Ob} {Sls1 : Nat → Option Nat} {Std1 Sme1 Scl1 : Ob} {Sn : Option (Nat → Nat → Int32)} {S : Ob} {v : Nat} {aLw : Nat → Nat} {SLw : Lw} {Λ : List ClT} (hL : lawC SLw Λ) (hI : ∀ Q : Option Nat → Prop, Q (some (aLw 0)) → w_X6_lawInForce SB Sls Q) {F : FtT} {T C : TdT} {mm nl : Nat} (hk : rK SO Stp Sev S v) (hp : rPo LL LP SB Sls Std Sme Scl SP Sn S F (some Λ) T C mm nl) (hi : rIm LL LP SO SB0 Sls0 Std0 Sme0 Scl0 SB1 Sls1 Std1 Sme1 Scl1 S) (hv : v < 1000) {SPt SJt : Ob} {x1 x2 : Int32} : w_X8_learn aLw SO SB Sls Std SPt SJt SLw x1 x2 (fun r SB' SPt' SJt' => wM_learn S x1 x2 (fun r' S' => r = r' ∧ RR LL LP SO Stp SB' Sls Std Sme Scl SP Sev SB0 Sls0 Std0 Sme0 Scl0 SB1 Sls1 Std1 Sme1 Scl1 Sn S' (v + 1))) := by
  obtain ⟨⟨f1, f2⟩, ⟨t1, t2, t3, t4⟩, -⟩ := id hp.1
  have hK : qfK F < 2 ^ 31 := by have := f1.1.2.2.1; omega
  have lx := lwX_of hp.1.2.2.2.2
  refine cs_learn f1 hL hI t1 t3 (fun c => ms_learn f2 lx t1 t2 t4 (fun _ => ⟨rfl, RR_of hk hp hi⟩) (fun u hu e h2 => (ln_no hK hu e h2 c).elim)) (fun u hu e h2 SP' SJ' => ms_learn f2 lx t1 t2 t4 (fun c => (ln_no hK hu e h2 c).elim) (fun u' hu' e' _ S' ln => ⟨?_, ?_⟩))
  · rw [e, nI_eq (by omega) (by omega)] at e'
    rw [e']
  · obtain ⟨ka, kb⟩ := rK_ln hk hv ln
    exact ⟨ka, ⟨F, (some Λ), T, C, mm, nl, by rw [ln.2.2 3 (by decide)]; exact hp.1, hp.2.1, mV_no kb, hp.2.2.2⟩, rIm_cg hi rfl (ln.2.2 4 (by decide)) (ln.2.2 5 (by decide))⟩
theorem t_learnN {LL : Nat → List ClT → Prop} {LP : Nat → Prop} {SO : Ob} {Stp : Nat → Int32} {SB : Ob} {Sls : Nat → Option Nat} {Std Sme Scl SP Sev SB0 : Ob} {Sls0 : Nat → Option Nat} {Std0 Sme0 Scl0 SB1 : Ob} {Sls1 : Nat → Option Nat} {Std1 Sme1 Scl1 : Ob} {Sn : Option (Nat → Nat → Int32)} {S : Ob} {v : Nat} {F : FtT} {T C : TdT} {mm nl : Nat} (hk : rK SO Stp Sev S v) (hp : rPo LL LP SB Sls Std Sme Scl SP Sn S F none T C mm nl) (hi : rIm LL LP SO SB0 Sls0 Std0 Sme0 Scl0 SB1 Sls1 Std1 Sme1 Scl1 S) (hv : v < 1000) {SPt SJt : Ob} {x1 x2 : Int32} : w_X8_learnN SO SB Sls Std SPt SJt x1 x2 (fun r SB' SPt' SJt' => wM_learn S x1 x2 (fun r' S' => r = r' ∧ RR LL LP SO Stp SB' Sls Std Sme Scl SP Sev SB0 Sls0 Std0 Sme0 Scl0 SB1 Sls1 Std1 Sme1 Scl1 Sn S' (v + 1))) := by
  obtain ⟨⟨f1, f2⟩, ⟨t1, t2, t3, t4⟩, -⟩ := id hp.1
  have hK : qfK F < 2 ^ 31 := by have := f1.1.2.2.1; omega
  have lx := lwX_of hp.1.2.2.2.2
  refine cs_learnN f1 (inF_n hp.1.2.2.2.2) t1 t3 (fun c => ms_learn f2 lx t1 t2 t4 (fun _ => ⟨rfl, RR_of hk hp hi⟩) (fun u hu e h2 => (ln_no hK hu e h2 c).elim)) (fun u hu e h2 SP' SJ' => ms_learn f2 lx t1 t2 t4 (fun c => (ln_no hK hu e h2 c).elim) (fun u' hu' e' _ S' ln => ⟨?_, ?_⟩))
  · rw [e, nI_eq (by omega) (by omega)] at e'
    rw [e']
  · obtain ⟨ka, kb⟩ := rK_ln hk hv ln
    exact ⟨ka, ⟨F, none, T, C, mm, nl, by rw [ln.2.2 3 (by decide)]; exact hp.1, hp.2.1, mV_no kb, hp.2.2.2⟩, rIm_cg hi rfl (ln.2.2 4 (by decide)) (ln.2.2 5 (by decide))⟩
theorem t_learnA {LL : Nat → List ClT → Prop} {LP : Nat → Prop} {SO : Ob} {Stp : Nat → Int32} {SB : Ob} {Sls : Nat → Option Nat} {Std Sme Scl SP Sev SB0 : Ob} {Sls0 : Nat → Option Nat} {Std0 Sme0 Scl0 SB1 : Ob} {Sls1 : Nat → Option Nat} {Std1 Sme1 Scl1 : Ob} {Sn : Option (Nat → Nat → Int32)} {S : Ob} {v : Nat} {aLw : Nat → Nat} {SLw : Lw} {Λ : List ClT} (hL : lawC SLw Λ) (hI : ∀ Q : Option Nat → Prop, Q (some (aLw 0)) → w_X6_lawInForce SB Sls Q) {F : FtT} {T C : TdT} {mm nl : Nat} (hk : rK SO Stp Sev S v) (hp : rPo LL LP SB Sls Std Sme Scl SP Sn S F (some Λ) T C mm nl) (hi : rIm LL LP SO SB0 Sls0 Std0 Sme0 Scl0 SB1 Sls1 Std1 Sme1 Scl1 S) (hv : v < 1000) {x1 x2 : Int32} : w_X8_learnA aLw SO SB Sls Std SLw x1 x2 (fun r SB' So' => wM_learn S x1 x2 (fun r' S' => r = r' ∧ RR LL LP SO Stp SB' Sls Std Sme Scl SP Sev SB0 Sls0 Std0 Sme0 Scl0 SB1 Sls1 Std1 Sme1 Scl1 Sn S' (v + 1))) := by
  obtain ⟨⟨f1, f2⟩, ⟨t1, t2, t3, t4⟩, -⟩ := id hp.1
  have hK : qfK F < 2 ^ 31 := by have := f1.1.2.2.1; omega
  have lx := lwX_of hp.1.2.2.2.2
  refine cs_learnA f1 hL hI t1 t3 (fun c => ms_learn f2 lx t1 t2 t4 (fun _ => ⟨rfl, RR_of hk hp hi⟩) (fun u hu e h2 => (ln_no hK hu e h2 c).elim)) (fun u hu e h2 So' => ms_learn f2 lx t1 t2 t4 (fun c => (ln_no hK hu e h2 c).elim) (fun u' hu' e' _ S' ln => ⟨?_, ?_⟩))
  · rw [e, nI_eq (by omega) (by omega)] at e'
    rw [e']
  · obtain ⟨ka, kb⟩ := rK_ln hk hv ln
    exact ⟨ka, ⟨F, (some Λ), T, C, mm, nl, by rw [ln.2.2 3 (by decide)]; exact hp.1, hp.2.1, mV_no kb, hp.2.2.2⟩, rIm_cg hi rfl (ln.2.2 4 (by decide)) (ln.2.2 5 (by decide))⟩
theorem t_learnNA {LL : Nat → List ClT → Prop} {LP : Nat → Prop} {SO : Ob} {Stp : Nat → Int32} {SB : Ob} {Sls : Nat → Option Nat} {Std Sme Scl SP Sev SB0 : Ob} {Sls0 : Nat → Option Nat} {Std0 Sme0 Scl0 SB1 : Ob} {Sls1 : Nat → Option Nat} {Std1 Sme1 Scl1 : Ob} {Sn : Option (Nat → Nat → Int32)} {S : Ob} {v : Nat} {F : FtT} {T C : TdT} {mm nl : Nat} (hk : rK SO Stp Sev S v) (hp : rPo LL LP SB Sls Std Sme Scl SP Sn S F none T C mm nl) (hi : rIm LL LP SO SB0 Sls0 Std0 Sme0 Scl0 SB1 Sls1 Std1 Sme1 Scl1 S) (hv : v < 1000) {x1 x2 : Int32} : w_X8_learnNA SO SB Sls Std x1 x2 (fun r SB' So' => wM_learn S x1 x2 (fun r' S' => r = r' ∧ RR LL LP SO Stp SB' Sls Std Sme Scl SP Sev SB0 Sls0 Std0 Sme0 Scl0 SB1 Sls1 Std1 Sme1 Scl1 Sn S' (v + 1))) := by
  obtain ⟨⟨f1, f2⟩, ⟨t1, t2, t3, t4⟩, -⟩ := id hp.1
  have hK : qfK F < 2 ^ 31 := by have := f1.1.2.2.1; omega
  have lx := lwX_of hp.1.2.2.2.2
  refine cs_learnNA f1 (inF_n hp.1.2.2.2.2) t1 t3 (fun c => ms_learn f2 lx t1 t2 t4 (fun _ => ⟨rfl, RR_of hk hp hi⟩) (fun u hu e h2 => (ln_no hK hu e h2 c).elim)) (fun u hu e h2 So' => ms_learn f2 lx t1 t2 t4 (fun c => (ln_no hK hu e h2 c).elim) (fun u' hu' e' _ S' ln => ⟨?_, ?_⟩))
  · rw [e, nI_eq (by omega) (by omega)] at e'
    rw [e']
  · obtain ⟨ka, kb⟩ := rK_ln hk hv ln
    exact ⟨ka, ⟨F, none, T, C, mm, nl, by rw [ln.2.2 3 (by decide)]; exact hp.1, hp.2.1, mV_no kb, hp.2.2.2⟩, rIm_cg hi rfl (ln.2.2 4 (by decide)) (ln.2.2 5 (by decide))⟩
theorem lawM_cg2 {kp kp' : Nat → Int32} {t s : Nat} {Λ : List ClT} (ht : t < 6) (hs6 : s < 6) (hne : t ≠ s) (h : lawM kp t Λ) (e : lwO s kp kp') : lawM kp' t Λ := by
  obtain ⟨K, ok, hm, hs, hi⟩ := h
  have hn := ok.1
  refine ⟨K, ok, hm, by rw [e _ (by omega) (by omega) (by omega) (by omega)]; exact hs, fun i h => ?_⟩
  rw [e _ (by omega) (by omega) (by omega) (by omega), e _ (by omega) (by omega) (by omega) (by omega)]
  exact hi i h
theorem tbX_mo {LL LL' : Nat → List ClT → Prop} {LP LP' : Nat → Prop} (hLL : ∀ a Λ, LL a Λ → LL' a Λ) (hLP : ∀ a, LP a → LP' a) {SB : Ob} {Sls : Nat → Option Nat} {Std Sme Scl : Ob} {kp : Nat → Int32} (h : tbX LL LP SB Sls Std Sme Scl kp) : tbX LL' LP' SB Sls Std Sme Scl kp := by
  obtain ⟨F2, o2, T2, C2, mm2, nl2, h2⟩ := h
  exact ⟨F2, o2, T2, C2, mm2, nl2, tb_cg h2 hLL hLP tlE_rf (fun _ _ => rfl)⟩
theorem rIm_mo {LL LL' : Nat → List ClT → Prop} {LP LP' : Nat → Prop} (hLL : ∀ a Λ, LL a Λ → LL' a Λ) (hLP : ∀ a, LP a → LP' a) {SO SB0 : Ob} {Sls0 : Nat → Option Nat} {Std0 Sme0 Scl0 SB1 : Ob} {Sls1 : Nat → Option Nat} {Std1 Sme1 Scl1 S : Ob} (h : rIm LL LP SO SB0 Sls0 Std0 Sme0 Scl0 SB1 Sls1 Std1 Sme1 Scl1 S) : rIm LL' LP' SO SB0 Sls0 Std0 Sme0 Scl0 SB1 Sls1 Std1 Sme1 Scl1 S :=
  ⟨h.1, fun t ht w hw => hLP w (h.2.1 t ht w hw), fun t ht w hw => hLP w (h.2.2.1 t ht w hw), fun n => tbX_mo hLL hLP (h.2.2.2.1 n), fun n => tbX_mo hLL hLP (h.2.2.2.2 n)⟩
theorem rPo_mo {LL LL' : Nat → List ClT → Prop} {LP LP' : Nat → Prop} (hLL : ∀ a Λ, LL a Λ → LL' a Λ) (hLP : ∀ a, LP a → LP' a) {SB : Ob} {Sls : Nat → Option Nat} {Std Sme Scl SP : Ob} {Sn : Option (Nat → Nat → Int32)} {S : Ob} {F : FtT} {o : Option (List ClT)} {T C : TdT} {mm nl : Nat} (h : rPo LL LP SB Sls Std Sme Scl SP Sn S F o T C mm nl) : rPo LL' LP' SB Sls Std Sme Scl SP Sn S F o T C mm nl :=
  ⟨tb_cg h.1 hLL hLP tlE_rf (fun _ _ => rfl), h.2⟩
theorem rK_lw {SO SO' : Ob} {Stp : Nat → Int32} {Sev S S' : Ob} {v : Nat} (h : rK SO Stp Sev S v) (u : lwU S S') (e4 : SO'.1 4 = 0) (e6 : SO'.1 6 = S'.1 11) (e7 : SO'.1 7 = SO.1 7) (e16 : SO'.1 16 = SO.1 16) (e15 : SO'.2 15 = SO.2 15) : rK SO' Stp Sev S' v := by
  obtain ⟨a, b, c, d, e, f, g, i, j⟩ := h
  obtain ⟨s, s10, t⟩ := u
  have s' : ∀ k, k ∉ [10, 11, 15, 16, 17, 18] → S'.1 k = S.1 k := fun k hk => s k (fun e => hk (by rw [e]; decide)) (fun e => hk (by rw [e]; decide)) (fun e => hk (by rw [e]; decide)) (fun e => hk (by rw [e]; decide)) (fun e => hk (by rw [e]; decide)) (fun e => hk (by rw [e]; decide))
  have t' : ∀ k, k ∉ [3, 12, 13, 14] → S'.2 k = S.2 k := fun k hk => t k (fun e => hk (by rw [e]; decide)) (fun e => hk (by rw [e]; decide)) (fun e => hk (by rw [e]; decide)) (fun e => hk (by rw [e]; decide))
  exact ⟨⟨0, by omega, e4, s10⟩, by rw [t' 8 (by decide)]; exact b, e6, by rw [e7, s' 6 (by decide)]; exact d, by rw [e16, s' 0 (by decide)]; exact e, by rw [e15, t' 2 (by decide)]; exact f, by rw [t' 40 (by decide), s' 41 (by decide)]; exact g, by rw [t' 7 (by decide)]; exact i, vrs_cg j (s' 1 (by decide)) (s' 29 (by decide))⟩
theorem t_law {LL : Nat → List ClT → Prop} {LP : Nat → Prop} {SO : Ob} {Stp : Nat → Int32} {SB : Ob} {Sls : Nat → Option Nat} {Std Sme Scl SP Sev SB0 : Ob} {Sls0 : Nat → Option Nat} {Std0 Sme0 Scl0 SB1 : Ob} {Sls1 : Nat → Option Nat} {Std1 Sme1 Scl1 : Ob} {Sn : Option (Nat → Nat → Int32)} {S : Ob} {v : Nat} {F : FtT} {o : Option (List ClT)} {T C : TdT} {mm nl : Nat} (hk : rK SO Stp Sev S v) (hp : rPo LL LP SB Sls Std Sme Scl SP Sn S F o T C mm nl) (hi : rIm LL LP SO SB0 Sls0 Std0 Sme0 Scl0 SB1 Sls1 Std1 Sme1 Scl1 S) (hv : v < 1000) {SR : Ob} : w_X8_law SO SR Stp SB Sls (fun r ow SO' SR' SB' Sls' => wM_law S (fun r' S' => r = r' ∧ ∀ LL' LP', (∀ a Λ, LL a Λ → LL' a Λ) → (∀ a, LP a → LP' a) → (∀ wl L, ow = some (wl, L) → LP' (wl 0) ∧ ∀ Λ, lawC L Λ → LL' (wl 0) Λ) → RR LL' LP' SO' Stp SB' Sls' Std Sme Scl SP Sev SB0 Sls0 Std0 Sme0 Scl0 SB1 Sls1 Std1 Sme1 Scl1 Sn S' (v + 1))) := by
  obtain ⟨m, hm4, p1, p2⟩ := id hk.1
  obtain ⟨TT, hTT⟩ : ∃ T : Nat → Nat, ∀ i, i < 400 → T i < 256 ∧ Stp i = nI (T i) ∧ S.2 8 i = iZ (sb (T i)) := ⟨fun i => if h : i < 400 then Classical.choose (hk.2.1 i h) else 0, fun i h => by
    have := Classical.choose_spec (hk.2.1 i h)
    simp only [dif_pos h]
    exact this⟩
  obtain ⟨f, t, c, me, l⟩ := id hp.1
  obtain ⟨l1, l2, l3, l4, l5, l6, l7⟩ := id l
  refine eq_law (T := TT) (fun i hi => ⟨(hTT i hi).2.1, (hTT i hi).1⟩) (fun i hi => (hTT i hi).2.2) hk.2.2.2.2.2.2.2.1 hm4 p1 p2 l1 l2 l3 (fun h6 => ⟨rfl, fun LL' LP' hLL hLP _ => ?_⟩) (fun h6 f' SR' S' lw e3 e11 => ⟨rfl, fun LL' LP' hLL hLP _ => ?_⟩) (fun h6 Λ L wl SR' S' hC lw e11 lo e137 lM => ⟨rfl, fun LL' LP' hLL hLP hn => ?_⟩)
  · obtain ⟨-, k2, k3, k4, k5, k6, k7, k8, k9⟩ := hk
    exact RR_ref (S := uS S 10 0) (SO := uS SO 4 0) (F := F) (o := o) (T := T) (C := C) (mm := mm) (nl := nl) ⟨⟨0, by omega, rfl, rfl⟩, k2, k3, k4, k5, k6, k7, k8, vrs_cg k9 rfl rfl⟩ (rPo_mo hLL hLP ⟨hp.1, hp.2.1, mV_cg hp.2.2.1 rfl rfl rfl rfl rfl rfl rfl, hp.2.2.2⟩) (rIm_mo hLL hLP (rIm_cg hi rfl rfl rfl)) 5
  · have u := lw
    obtain ⟨s, s10, tt⟩ := lw
    have d1 : S'.1 1 = S.1 1 := s 1 (by decide) (by decide) (by decide) (by decide) (by decide) (by decide)
    have d29 : S'.1 29 = S.1 29 := s 29 (by decide) (by decide) (by decide) (by decide) (by decide) (by decide)
    refine RR_ref (S := S') (SO := uS (uS SO 4 0) 6 f') (F := F) (o := o) (T := T) (C := C) (mm := mm) (nl := nl) (rK_lw hk u rfl e11.symm rfl rfl rfl) (rPo_mo hLL hLP ⟨by rw [e3]; exact hp.1, hp.2.1, mV_cg hp.2.2.1 e3 (tt 26 (by decide) (by decide) (by decide) (by decide)) (tt 27 (by decide) (by decide) (by decide) (by decide)) (tt 28 (by decide) (by decide) (by decide) (by decide)) (tt 30 (by decide) (by decide) (by decide) (by decide)) d1 d29, hp.2.2.2⟩) (rIm_mo hLL hLP (rIm_cg hi rfl (tt 4 (by decide) (by decide) (by decide) (by decide)) (tt 5 (by decide) (by decide) (by decide) (by decide)))) 6
  · have u := lw
    obtain ⟨s, s10, tt⟩ := lw
    obtain ⟨n1, n2⟩ := hn wl L rfl
    have e : ∀ i, i < 137 ∨ i = 138 → S'.2 3 i = S.2 3 i := fun i h => lo i (by omega) (by omega) (by omega) (by omega)
    have f' : tbF (uS SB 7 (nI (nl + 1))) (S'.2 3) F := tbF_cg (kp := S.2 3) f (fun i h => e i (by omega))
    have hi' : rIm LL' LP' (uS (uS SO 4 0) 6 (-1)) SB0 Sls0 Std0 Sme0 Scl0 SB1 Sls1 Std1 Sme1 Scl1 S' := rIm_mo hLL hLP (rIm_cg hi rfl (tt 4 (by decide) (by decide) (by decide) (by decide)) (tt 5 (by decide) (by decide) (by decide) (by decide)))
    refine RR_new (S := S') (S1 := S') (S' := S') (SO := uS (uS SO 4 0) 6 (-1)) (rK_lw hk u rfl e11.symm rfl rfl rfl) hv hi' lkU.rf rfl (fun _ _ => rfl) (F' := F) (o' := o) (T' := T) (C' := C) (mm' := mm) (nl' := nl + 1) ⟨f', tbT_cg t (Nat.le_refl _) f.1.1.1 (fun i h => e i (by omega)), tbC_cg c (Nat.le_refl _) f.1.1.1 (fun i h => e i (by omega)), tbM_mk f' (tmM_cg (tbM_i me) (fun _ _ _ _ => rfl) rfl (fun i h => e i (by omega))), by omega, rfl, e137, l4.trans (e 138 (by omega)).symm, fun t' ht' => ?_, fun t' ht' w hw => ?_, ?_⟩ hp.2.1 hp.2.2.2
    · by_cases q : t' = nl
      · subst q
        exact ⟨wl 0, Λ, va_up_self _ _ _, n2 Λ hC, lM⟩
      · obtain ⟨a, Λ', g1, g2, g3⟩ := l5 t' (by omega)
        exact ⟨a, Λ', by rw [va_up_ne _ _ q]; exact g1, hLL _ _ g2, lawM_cg2 (by omega) h6 q g3 lo⟩
    · by_cases q : t' = nl
      · subst q
        rw [va_up_self] at hw
        cases hw
        exact n1
      · rw [va_up_ne _ _ q] at hw
        exact hLP _ (l6 t' ht' w hw)
    · cases o with
      | none => exact (e 138 (by omega)).trans l7
      | some Λ' =>
        obtain ⟨t', a, g1, g2, g3, g4, g5⟩ := l7
        exact ⟨t', a, by omega, (e 138 (by omega)).trans g2, by rw [va_up_ne _ _ (by omega)]; exact g3, hLL _ _ g4, lawM_cg2 (by omega) h6 (by omega) g5 lo⟩
