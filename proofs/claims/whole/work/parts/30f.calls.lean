/-! ===== calls that need no law keep the relation ===== -/
theorem i_of2 {x : Int32} {M : Nat} (hM : M < 2 ^ 31) (h0 : 0 ≤ x) (h1 : x ≤ nI M) : ∃ w, w ≤ M ∧ x = nI w := i_ofR hM (by rw [decide_eq_true h0, decide_eq_true h1]; rfl)
theorem RR_up {LL : Nat → List ClT → Prop} {LP : Nat → Prop} {SO : Ob} {Stp : Nat → Int32} {SB : Ob} {Sls : Nat → Option Nat} {Std Sme Scl SP Sev SB0 : Ob} {Sls0 : Nat → Option Nat} {Std0 Sme0 Scl0 SB1 : Ob} {Sls1 : Nat → Option Nat} {Std1 Sme1 Scl1 : Ob} {Sn : Option (Nat → Nat → Int32)} {S : Ob} {v : Nat} (h : RR LL LP SO Stp SB Sls Std Sme Scl SP Sev SB0 Sls0 Std0 Sme0 Scl0 SB1 Sls1 Std1 Sme1 Scl1 Sn S v) : RR LL LP SO Stp SB Sls Std Sme Scl SP Sev SB0 Sls0 Std0 Sme0 Scl0 SB1 Sls1 Std1 Sme1 Scl1 Sn S (v + 1) := by
  obtain ⟨⟨a, b, c, d, e, f, g, i, j⟩, p, q⟩ := h
  exact ⟨⟨a, b, c, d, e, f, g, i, vrs_up j (by omega)⟩, p, q⟩
theorem RR_of {LL : Nat → List ClT → Prop} {LP : Nat → Prop} {SO : Ob} {Stp : Nat → Int32} {SB : Ob} {Sls : Nat → Option Nat} {Std Sme Scl SP Sev SB0 : Ob} {Sls0 : Nat → Option Nat} {Std0 Sme0 Scl0 SB1 : Ob} {Sls1 : Nat → Option Nat} {Std1 Sme1 Scl1 : Ob} {Sn : Option (Nat → Nat → Int32)} {S : Ob} {v : Nat} {F : FtT} {o : Option (List ClT)} {T C : TdT} {mm nl : Nat} (hk : rK SO Stp Sev S v) (hp : rPo LL LP SB Sls Std Sme Scl SP Sn S F o T C mm nl) (hi : rIm LL LP SO SB0 Sls0 Std0 Sme0 Scl0 SB1 Sls1 Std1 Sme1 Scl1 S) : RR LL LP SO Stp SB Sls Std Sme Scl SP Sev SB0 Sls0 Std0 Sme0 Scl0 SB1 Sls1 Std1 Sme1 Scl1 Sn S (v + 1) := RR_up ⟨hk, rP_of hp, hi⟩
theorem RR_ref {LL : Nat → List ClT → Prop} {LP : Nat → Prop} {SO : Ob} {Stp : Nat → Int32} {SB : Ob} {Sls : Nat → Option Nat} {Std Sme Scl SP Sev SB0 : Ob} {Sls0 : Nat → Option Nat} {Std0 Sme0 Scl0 SB1 : Ob} {Sls1 : Nat → Option Nat} {Std1 Sme1 Scl1 : Ob} {Sn : Option (Nat → Nat → Int32)} {S : Ob} {v : Nat} {F : FtT} {o : Option (List ClT)} {T C : TdT} {mm nl : Nat} (hk : rK SO Stp Sev S v) (hp : rPo LL LP SB Sls Std Sme Scl SP Sn S F o T C mm nl) (hi : rIm LL LP SO SB0 Sls0 Std0 Sme0 Scl0 SB1 Sls1 Std1 Sme1 Scl1 S) (k : Nat) : RR LL LP (refC SO k) Stp SB Sls Std Sme Scl SP Sev SB0 Sls0 Std0 Sme0 Scl0 SB1 Sls1 Std1 Sme1 Scl1 Sn (refM S k) (v + 1) := ⟨rK_ref hk k, rP_ref (rP_of hp) k, rI_ref hi k⟩
theorem RR_new {LL : Nat → List ClT → Prop} {LP : Nat → Prop} {SO : Ob} {Stp : Nat → Int32} {Sev SB0 : Ob} {Sls0 : Nat → Option Nat} {Std0 Sme0 Scl0 SB1 : Ob} {Sls1 : Nat → Option Nat} {Std1 Sme1 Scl1 : Ob} {Sn : Option (Nat → Nat → Int32)} {S : Ob} {v : Nat} (hk : rK SO Stp Sev S v) (hv : v < 1000) (hi : rIm LL LP SO SB0 Sls0 Std0 Sme0 Scl0 SB1 Sls1 Std1 Sme1 Scl1 S) {S1 S' : Ob} (lk : lkU S S1) (s : S'.1 = S1.1) (t : ∀ k, k ≠ 3 → S'.2 k = S1.2 k) {SB' : Ob} {Sls' : Nat → Option Nat} {Std' Sme' Scl' SP' : Ob} {F' : FtT} {o' : Option (List ClT)} {T' C' : TdT} {mm' nl' : Nat} (htb : tb LL LP SB' Sls' Std' Sme' Scl' (S'.2 3) F' o' T' C' mm' nl') (hcv : cV SP' (plF F' o')) (hsn : Sn.elim (SP'.1 17 = 0) (fun q => srR SP' (plF F' o') q)) : RR LL LP (uS SO 16 0) Stp SB' Sls' Std' Sme' Scl' SP' Sev SB0 Sls0 Std0 Sme0 Scl0 SB1 Sls1 Std1 Sme1 Scl1 Sn (goodM S') (v + 1) := by
  obtain ⟨a, b⟩ := rK_good (S' := goodM S') hk hv rfl (by show S'.1 1 + 1 = _; rw [s, lk.1.1 1 (by decide)]) (fun k k0 k1 hk => by unfold goodM; rw [uS_1, if_neg k1, uS_1, if_neg k0, s]; exact lk.1.1 k hk) (by show S'.1 29 = _ ∨ S'.1 29 = _; rw [s]; exact lk.1.2) (fun k k3 k4 k5 hk => (t k k3).trans (lk.2 k hk))
  exact ⟨a, ⟨F', o', T', C', mm', nl', htb, hcv, mV_no b, hsn⟩, rIm_cg hi rfl ((t 4 (by decide)).trans (lk.2 4 (by decide))) ((t 5 (by decide)).trans (lk.2 5 (by decide)))⟩
theorem RR_new0 {LL : Nat → List ClT → Prop} {LP : Nat → Prop} {SO : Ob} {Stp : Nat → Int32} {SB : Ob} {Sls : Nat → Option Nat} {SP Sev SB0 : Ob} {Sls0 : Nat → Option Nat} {Std0 Sme0 Scl0 SB1 : Ob} {Sls1 : Nat → Option Nat} {Std1 Sme1 Scl1 : Ob} {Sn : Option (Nat → Nat → Int32)} {S : Ob} {v : Nat} (hk : rK SO Stp Sev S v) (hv : v < 1000) (hi : rIm LL LP SO SB0 Sls0 Std0 Sme0 Scl0 SB1 Sls1 Std1 Sme1 Scl1 S) {S' : Ob} (s : ∀ k, k ≠ 1 → S'.1 k = S.1 k) (e1 : S'.1 1 = S.1 1 + 1) (t : ∀ k, k ≠ 3 → S'.2 k = S.2 k) {Std' Sme' Scl' : Ob} {F' : FtT} {o' : Option (List ClT)} {T' C' : TdT} {mm' nl' : Nat} (htb : tb LL LP SB Sls Std' Sme' Scl' (S'.2 3) F' o' T' C' mm' nl') (hcv : cV SP (plF F' o')) (hsn : Sn.elim (SP.1 17 = 0) (fun q => srR SP (plF F' o') q)) : RR LL LP SO Stp SB Sls Std' Sme' Scl' SP Sev SB0 Sls0 Std0 Sme0 Scl0 SB1 Sls1 Std1 Sme1 Scl1 Sn S' (v + 1) := by
  obtain ⟨a, b⟩ := rK_g0 (S' := S') hk hv e1 s t
  exact ⟨a, ⟨F', o', T', C', mm', nl', htb, hcv, mV_no b, hsn⟩, rIm_cg hi rfl (t 4 (by decide)) (t 5 (by decide))⟩
theorem RR_sB {LL : Nat → List ClT → Prop} {LP : Nat → Prop} {SO : Ob} {Stp : Nat → Int32} {SB : Ob} {Sls : Nat → Option Nat} {Std Sme Scl SP Sev SB0 : Ob} {Sls0 : Nat → Option Nat} {Std0 Sme0 Scl0 SB1 : Ob} {Sls1 : Nat → Option Nat} {Std1 Sme1 Scl1 : Ob} {Sn : Option (Nat → Nat → Int32)} {S : Ob} {v : Nat} {F : FtT} {o : Option (List ClT)} {T C : TdT} {mm nl : Nat} (hk : rK SO Stp Sev S v) (hp : rPo LL LP SB Sls Std Sme Scl SP Sn S F o T C mm nl) (hi : rIm LL LP SO SB0 Sls0 Std0 Sme0 Scl0 SB1 Sls1 Std1 Sme1 Scl1 S) {S' : Ob} {ks : List Nat} (hs : sameB ks S S') (h1 : ∀ k, k ∈ ks → k ∈ scA) (h2 : 26 ∉ ks) (h3 : 27 ∉ ks) (h4 : 28 ∉ ks) (h5 : 30 ∉ ks) (h6 : 3 ∉ ks) : RR LL LP SO Stp SB Sls Std Sme Scl SP Sev SB0 Sls0 Std0 Sme0 Scl0 SB1 Sls1 Std1 Sme1 Scl1 Sn S' (v + 1) := by
  have lk : lkU S S' := lkU.sB hs h1
  exact ⟨rK_lk hk lk, rP_lk hp hp.2.1 (mV_cg hp.2.2.1 (hs.2 3 h6) (hs.2 26 h2) (hs.2 27 h3) (hs.2 28 h4) (hs.2 30 h5) (by rw [hs.1]) (by rw [hs.1])) lk rfl, rIm_cg hi rfl (lk.2 4 (by decide)) (lk.2 5 (by decide))⟩
theorem t_status {LL : Nat → List ClT → Prop} {LP : Nat → Prop} {SO : Ob} {Stp : Nat → Int32} {SB : Ob} {Sls : Nat → Option Nat} {Std Sme Scl SP Sev SB0 : Ob} {Sls0 : Nat → Option Nat} {Std0 Sme0 Scl0 SB1 : Ob} {Sls1 : Nat → Option Nat} {Std1 Sme1 Scl1 : Ob} {Sn : Option (Nat → Nat → Int32)} {S : Ob} {v : Nat} {F : FtT} {o : Option (List ClT)} {T C : TdT} {mm nl : Nat} (hk : rK SO Stp Sev S v) (hp : rPo LL LP SB Sls Std Sme Scl SP Sn S F o T C mm nl) (hi : rIm LL LP SO SB0 Sls0 Std0 Sme0 Scl0 SB1 Sls1 Std1 Sme1 Scl1 S) : w_X8_status SO (fun r => wM_status S (fun r' => r = r' ∧ RR LL LP SO Stp SB Sls Std Sme Scl SP Sev SB0 Sls0 Std0 Sme0 Scl0 SB1 Sls1 Std1 Sme1 Scl1 Sn S (v + 1))) :=
  eq_status hk.2.2.2.2.1 (fun r => ⟨rfl, RR_of hk hp hi⟩)
theorem t_fault {LL : Nat → List ClT → Prop} {LP : Nat → Prop} {SO : Ob} {Stp : Nat → Int32} {SB : Ob} {Sls : Nat → Option Nat} {Std Sme Scl SP Sev SB0 : Ob} {Sls0 : Nat → Option Nat} {Std0 Sme0 Scl0 SB1 : Ob} {Sls1 : Nat → Option Nat} {Std1 Sme1 Scl1 : Ob} {Sn : Option (Nat → Nat → Int32)} {S : Ob} {v : Nat} {F : FtT} {o : Option (List ClT)} {T C : TdT} {mm nl : Nat} (hk : rK SO Stp Sev S v) (hp : rPo LL LP SB Sls Std Sme Scl SP Sn S F o T C mm nl) (hi : rIm LL LP SO SB0 Sls0 Std0 Sme0 Scl0 SB1 Sls1 Std1 Sme1 Scl1 S) : w_X8_fault SO (fun r => wM_fault S (fun r' => r = r' ∧ RR LL LP SO Stp SB Sls Std Sme Scl SP Sev SB0 Sls0 Std0 Sme0 Scl0 SB1 Sls1 Std1 Sme1 Scl1 Sn S (v + 1))) :=
  eq_fault hk.2.2.1 (fun r => ⟨rfl, RR_of hk hp hi⟩)
theorem t_mumbled {LL : Nat → List ClT → Prop} {LP : Nat → Prop} {SO : Ob} {Stp : Nat → Int32} {SB : Ob} {Sls : Nat → Option Nat} {Std Sme Scl SP Sev SB0 : Ob} {Sls0 : Nat → Option Nat} {Std0 Sme0 Scl0 SB1 : Ob} {Sls1 : Nat → Option Nat} {Std1 Sme1 Scl1 : Ob} {Sn : Option (Nat → Nat → Int32)} {S : Ob} {v : Nat} {F : FtT} {o : Option (List ClT)} {T C : TdT} {mm nl : Nat} (hk : rK SO Stp Sev S v) (hp : rPo LL LP SB Sls Std Sme Scl SP Sn S F o T C mm nl) (hi : rIm LL LP SO SB0 Sls0 Std0 Sme0 Scl0 SB1 Sls1 Std1 Sme1 Scl1 S) : w_X8_mumbled SO (fun r => wM_mumbled S (fun r' => r = r' ∧ RR LL LP SO Stp SB Sls Std Sme Scl SP Sev SB0 Sls0 Std0 Sme0 Scl0 SB1 Sls1 Std1 Sme1 Scl1 Sn S (v + 1))) :=
  eq_mumbled hk.2.2.2.1 (fun r => ⟨rfl, RR_of hk hp hi⟩)
theorem t_count {LL : Nat → List ClT → Prop} {LP : Nat → Prop} {SO : Ob} {Stp : Nat → Int32} {SB : Ob} {Sls : Nat → Option Nat} {Std Sme Scl SP Sev SB0 : Ob} {Sls0 : Nat → Option Nat} {Std0 Sme0 Scl0 SB1 : Ob} {Sls1 : Nat → Option Nat} {Std1 Sme1 Scl1 : Ob} {Sn : Option (Nat → Nat → Int32)} {S : Ob} {v : Nat} {F : FtT} {o : Option (List ClT)} {T C : TdT} {mm nl : Nat} (hk : rK SO Stp Sev S v) (hp : rPo LL LP SB Sls Std Sme Scl SP Sn S F o T C mm nl) (hi : rIm LL LP SO SB0 Sls0 Std0 Sme0 Scl0 SB1 Sls1 Std1 Sme1 Scl1 S) {x1 : Int32} : w_X8_count SO SB Std Sme Scl x1 (fun r => wM_count S x1 (fun r' => r = r' ∧ RR LL LP SO Stp SB Sls Std Sme Scl SP Sev SB0 Sls0 Std0 Sme0 Scl0 SB1 Sls1 Std1 Sme1 Scl1 Sn S (v + 1))) := by
  obtain ⟨⟨⟨f1, f2⟩, ⟨t1, t2, t3, t4⟩, ⟨c1, c2, c3⟩, m, l⟩, -⟩ := id hp
  obtain ⟨p, -, p1, p2⟩ := hk.1
  refine eq_count (f1.2.1.trans f2.2.1.symm) (l.2.1.trans l.2.2.1.symm) (t3.1.trans t4.1.symm) m.1.2.2.2 (c2.1.trans c3.1.symm) (p1.trans p2.symm) hk.2.2.2.2.2.1 l.2.2.2.1 (fun k hk3 => ?_) (fun r => ⟨rfl, RR_of hk hp hi⟩)
  rcases (by omega : k = 0 ∨ k = 1 ∨ k = 2) with rfl | rfl | rfl
  · exact f1.2.2.1.trans f2.2.2.1.symm
  · exact f1.2.2.2.1.trans f2.2.2.2.1.symm
  · exact f1.2.2.2.2.1.trans f2.2.2.2.2.1.symm
theorem t_heard {LL : Nat → List ClT → Prop} {LP : Nat → Prop} {SO : Ob} {Stp : Nat → Int32} {SB : Ob} {Sls : Nat → Option Nat} {Std Sme Scl SP Sev SB0 : Ob} {Sls0 : Nat → Option Nat} {Std0 Sme0 Scl0 SB1 : Ob} {Sls1 : Nat → Option Nat} {Std1 Sme1 Scl1 : Ob} {Sn : Option (Nat → Nat → Int32)} {S : Ob} {v : Nat} {F : FtT} {o : Option (List ClT)} {T C : TdT} {mm nl : Nat} (hk : rK SO Stp Sev S v) (hp : rPo LL LP SB Sls Std Sme Scl SP Sn S F o T C mm nl) (hi : rIm LL LP SO SB0 Sls0 Std0 Sme0 Scl0 SB1 Sls1 Std1 Sme1 Scl1 S) {x1 x2 : Int32} : w_X8_heard SO SB Std x1 x2 (fun r => wM_heard S x1 x2 (fun r' => r = r' ∧ RR LL LP SO Stp SB Sls Std Sme Scl SP Sev SB0 Sls0 Std0 Sme0 Scl0 SB1 Sls1 Std1 Sme1 Scl1 Sn S (v + 1))) := by
  obtain ⟨⟨-, ⟨t1, t2, t3, t4⟩, -⟩, -⟩ := id hp
  refine eq_heard (n := qtM T) ⟨t3.1, t2, by decide, fun i hi => ?_⟩ t4.1 (fun r => ⟨rfl, RR_of hk hp hi⟩)
  obtain ⟨a, b, c⟩ := t3.2 i hi
  obtain ⟨d, e, f⟩ := t4.2 i hi
  exact ⟨a.trans d.symm, b.trans e.symm, c.trans f.symm⟩
theorem t_drawn {LL : Nat → List ClT → Prop} {LP : Nat → Prop} {SO : Ob} {Stp : Nat → Int32} {SB : Ob} {Sls : Nat → Option Nat} {Std Sme Scl SP Sev SB0 : Ob} {Sls0 : Nat → Option Nat} {Std0 Sme0 Scl0 SB1 : Ob} {Sls1 : Nat → Option Nat} {Std1 Sme1 Scl1 : Ob} {Sn : Option (Nat → Nat → Int32)} {S : Ob} {v : Nat} {F : FtT} {o : Option (List ClT)} {T C : TdT} {mm nl : Nat} (hk : rK SO Stp Sev S v) (hp : rPo LL LP SB Sls Std Sme Scl SP Sn S F o T C mm nl) (hi : rIm LL LP SO SB0 Sls0 Std0 Sme0 Scl0 SB1 Sls1 Std1 Sme1 Scl1 S) {x1 x2 : Int32} : w_X8_drawn SO Sev x1 x2 (fun r => wM_drawn S x1 x2 (fun r' => r = r' ∧ RR LL LP SO Stp SB Sls Std Sme Scl SP Sev SB0 Sls0 Std0 Sme0 Scl0 SB1 Sls1 Std1 Sme1 Scl1 Sn S (v + 1))) := by
  obtain ⟨N, a, b⟩ := hk.2.2.2.2.2.2.1
  exact eq_drawn a b (fun r => ⟨rfl, RR_of hk hp hi⟩)
theorem t_dated {LL : Nat → List ClT → Prop} {LP : Nat → Prop} {SO : Ob} {Stp : Nat → Int32} {SB : Ob} {Sls : Nat → Option Nat} {Std Sme Scl SP Sev SB0 : Ob} {Sls0 : Nat → Option Nat} {Std0 Sme0 Scl0 SB1 : Ob} {Sls1 : Nat → Option Nat} {Std1 Sme1 Scl1 : Ob} {Sn : Option (Nat → Nat → Int32)} {S : Ob} {v : Nat} {F : FtT} {o : Option (List ClT)} {T C : TdT} {mm nl : Nat} (hk : rK SO Stp Sev S v) (hp : rPo LL LP SB Sls Std Sme Scl SP Sn S F o T C mm nl) (hi : rIm LL LP SO SB0 Sls0 Std0 Sme0 Scl0 SB1 Sls1 Std1 Sme1 Scl1 S) {SDt : Ob} {x1 x2 : Int32} : w_X8_dated SO SDt SB Sme x1 x2 (fun r SDt' => wM_dated S x1 x2 (fun r' S' => r = r' ∧ RR LL LP SO Stp SB Sls Std Sme Scl SP Sev SB0 Sls0 Std0 Sme0 Scl0 SB1 Sls1 Std1 Sme1 Scl1 Sn S' (v + 1))) :=
  eq_dated hp.1.2.2.2.1.1 hp.1.2.2.2.1.2 (fun r S' S'' hs => ⟨rfl, RR_sB hk hp hi hs (by decide) (by decide) (by decide) (by decide) (by decide) (by decide)⟩)
theorem t_doubt {LL : Nat → List ClT → Prop} {LP : Nat → Prop} {SO : Ob} {Stp : Nat → Int32} {SB : Ob} {Sls : Nat → Option Nat} {Std Sme Scl SP Sev SB0 : Ob} {Sls0 : Nat → Option Nat} {Std0 Sme0 Scl0 SB1 : Ob} {Sls1 : Nat → Option Nat} {Std1 Sme1 Scl1 : Ob} {Sn : Option (Nat → Nat → Int32)} {S : Ob} {v : Nat} {F : FtT} {o : Option (List ClT)} {T C : TdT} {mm nl : Nat} (hk : rK SO Stp Sev S v) (hp : rPo LL LP SB Sls Std Sme Scl SP Sn S F o T C mm nl) (hi : rIm LL LP SO SB0 Sls0 Std0 Sme0 Scl0 SB1 Sls1 Std1 Sme1 Scl1 S) {SDt : Ob} {x1 : Int32} : w_X8_doubt SO SDt SB Sme x1 (fun r SDt' => wM_doubt S x1 (fun r' S' => r = r' ∧ RR LL LP SO Stp SB Sls Std Sme Scl SP Sev SB0 Sls0 Std0 Sme0 Scl0 SB1 Sls1 Std1 Sme1 Scl1 Sn S' (v + 1))) :=
  eq_doubt hp.1.2.2.2.1.1 hp.1.2.2.2.1.2 (fun r S' S'' hs => ⟨rfl, RR_sB hk hp hi hs (by decide) (by decide) (by decide) (by decide) (by decide) (by decide)⟩)
theorem t_end {LL : Nat → List ClT → Prop} {LP : Nat → Prop} {SO : Ob} {Stp : Nat → Int32} {SB : Ob} {Sls : Nat → Option Nat} {Std Sme Scl SP Sev SB0 : Ob} {Sls0 : Nat → Option Nat} {Std0 Sme0 Scl0 SB1 : Ob} {Sls1 : Nat → Option Nat} {Std1 Sme1 Scl1 : Ob} {Sn : Option (Nat → Nat → Int32)} {S : Ob} {v : Nat} {F : FtT} {o : Option (List ClT)} {T C : TdT} {mm nl : Nat} (hk : rK SO Stp Sev S v) (hp : rPo LL LP SB Sls Std Sme Scl SP Sn S F o T C mm nl) (hi : rIm LL LP SO SB0 Sls0 Std0 Sme0 Scl0 SB1 Sls1 Std1 Sme1 Scl1 S) {x1 : Int32} : w_X8_end SO x1 (fun r SO' => wM_end S x1 (fun r' S' => r = r' ∧ RR LL LP SO' Stp SB Sls Std Sme Scl SP Sev SB0 Sls0 Std0 Sme0 Scl0 SB1 Sls1 Std1 Sme1 Scl1 Sn S' (v + 1))) := by
  obtain ⟨p, hp4, p1, p2⟩ := hk.1
  refine eq_end (p1.trans p2.symm) ⟨rfl, RR_of hk hp hi⟩ (fun h0 h1 => ⟨rfl, ?_⟩)
  obtain ⟨w, hw, rfl⟩ := i_ofR (x := x1) (M := p) (by omega) (by rw [decide_eq_true h0, decide_eq_true (by rw [p2] at h1; exact h1)]; rfl)
  obtain ⟨-, b, c, d, e, f, g, i, j⟩ := hk
  refine ⟨⟨⟨w, by omega, rfl, rfl⟩, b, c, d, e, f, g, i, vrs_up (vrs_cg j rfl rfl) (by omega)⟩, ⟨F, o, T, C, mm, nl, hp.1, hp.2.1, mV_cg hp.2.2.1 rfl rfl rfl rfl rfl rfl rfl, hp.2.2.2⟩, rIm_cg hi rfl rfl rfl⟩
theorem t_feed {LL : Nat → List ClT → Prop} {LP : Nat → Prop} {SO : Ob} {Stp : Nat → Int32} {SB : Ob} {Sls : Nat → Option Nat} {Std Sme Scl SP Sev SB0 : Ob} {Sls0 : Nat → Option Nat} {Std0 Sme0 Scl0 SB1 : Ob} {Sls1 : Nat → Option Nat} {Std1 Sme1 Scl1 : Ob} {Sn : Option (Nat → Nat → Int32)} {S : Ob} {v : Nat} {F : FtT} {o : Option (List ClT)} {T C : TdT} {mm nl : Nat} (hk : rK SO Stp Sev S v) (hp : rPo LL LP SB Sls Std Sme Scl SP Sn S F o T C mm nl) (hi : rIm LL LP SO SB0 Sls0 Std0 Sme0 Scl0 SB1 Sls1 Std1 Sme1 Scl1 S) {x1 x2 x3 x4 x5 : Int32} : w_X8_feed SO Stp x1 x2 x3 x4 x5 (fun r SO' Stp' => wM_feed S x1 x2 x3 x4 x5 (fun r' S' => r = r' ∧ RR LL LP SO' Stp' SB Sls Std Sme Scl SP Sev SB0 Sls0 Std0 Sme0 Scl0 SB1 Sls1 Std1 Sme1 Scl1 Sn S' (v + 1))) := by
  obtain ⟨p, hp4, p1, p2⟩ := hk.1
  refine eq_feed hp4 p1 p2 hk.2.1 ⟨rfl, RR_of hk hp hi⟩ (fun h20 S' Stp' a b c d => ⟨rfl, ?_⟩)
  obtain ⟨-, -, k3, k4, k5, k6, k7, k8, k9⟩ := hk
  refine ⟨⟨⟨p + 20, h20, rfl, b⟩, d, by rw [a 11 (by decide)]; exact k3, by rw [a 6 (by decide)]; exact k4, by rw [a 0 (by decide)]; exact k5, by rw [c 2 (by decide) (by decide)]; exact k6, by rw [c 40 (by decide) (by decide), a 41 (by decide)]; exact k7, by rw [c 7 (by decide) (by decide)]; exact k8, vrs_up (vrs_cg k9 (a 1 (by decide)) (a 29 (by decide))) (by omega)⟩, ⟨F, o, T, C, mm, nl, by rw [c 3 (by decide) (by decide)]; exact hp.1, hp.2.1, mV_cg hp.2.2.1 (c 3 (by decide) (by decide)) (c 26 (by decide) (by decide)) (c 27 (by decide) (by decide)) (c 28 (by decide) (by decide)) (c 30 (by decide) (by decide)) (a 1 (by decide)) (a 29 (by decide)), hp.2.2.2⟩, rIm_cg hi rfl (c 4 (by decide) (by decide)) (c 5 (by decide) (by decide))⟩
theorem t_hush {LL : Nat → List ClT → Prop} {LP : Nat → Prop} {SO : Ob} {Stp : Nat → Int32} {SB : Ob} {Sls : Nat → Option Nat} {Std Sme Scl SP Sev SB0 : Ob} {Sls0 : Nat → Option Nat} {Std0 Sme0 Scl0 SB1 : Ob} {Sls1 : Nat → Option Nat} {Std1 Sme1 Scl1 : Ob} {Sn : Option (Nat → Nat → Int32)} {S : Ob} {v : Nat} {F : FtT} {o : Option (List ClT)} {T C : TdT} {mm nl : Nat} (hk : rK SO Stp Sev S v) (hp : rPo LL LP SB Sls Std Sme Scl SP Sn S F o T C mm nl) (hi : rIm LL LP SO SB0 Sls0 Std0 Sme0 Scl0 SB1 Sls1 Std1 Sme1 Scl1 S) (hv : v < 1000) : w_X8_hush SO SB Std (fun r Std' => wM_hush S (fun r' S' => r = r' ∧ RR LL LP SO Stp SB Sls Std' Sme Scl SP Sev SB0 Sls0 Std0 Sme0 Scl0 SB1 Sls1 Std1 Sme1 Scl1 Sn S' (v + 1))) := by
  obtain ⟨-, ⟨t1, t2, t3, t4⟩, -⟩ := id hp.1
  refine eq_hush (t3.1.trans t4.1.symm) ⟨rfl, RR_new0 (S' := uS (uA S 3 134 0) 1 (S.1 1 + 1)) hk hv hi (fun k k1 => by rw [uS_1, if_neg k1]; rfl) rfl (fun k k3 => by rw [uS_2, uA_o k3]) (tb_T (T' := (0, T.2)) hp.1 ⟨⟨t1.1, fun i hi => absurd hi (Nat.not_lt_zero i), fun i j _ hj => absurd hj (Nat.not_lt_zero j)⟩, Nat.zero_le _, ⟨rfl, fun i hi => absurd hi (Nat.not_lt_zero i)⟩, ⟨?_, fun i hi => absurd hi (Nat.not_lt_zero i)⟩⟩ (fun i h1 h2 => ?_)) hp.2.1 hp.2.2.2⟩
  · show (uA S 3 134 0).2 3 134 = _
    rw [uA_h]; rfl
  · rw [uS_2, uA_i h2]
theorem t_forget {LL : Nat → List ClT → Prop} {LP : Nat → Prop} {SO : Ob} {Stp : Nat → Int32} {SB : Ob} {Sls : Nat → Option Nat} {Std Sme Scl SP Sev SB0 : Ob} {Sls0 : Nat → Option Nat} {Std0 Sme0 Scl0 SB1 : Ob} {Sls1 : Nat → Option Nat} {Std1 Sme1 Scl1 : Ob} {Sn : Option (Nat → Nat → Int32)} {S : Ob} {v : Nat} {F : FtT} {o : Option (List ClT)} {T C : TdT} {mm nl : Nat} (hk : rK SO Stp Sev S v) (hp : rPo LL LP SB Sls Std Sme Scl SP Sn S F o T C mm nl) (hi : rIm LL LP SO SB0 Sls0 Std0 Sme0 Scl0 SB1 Sls1 Std1 Sme1 Scl1 S) (hv : v < 1000) : w_X8_forget SO SB Sme (fun r Sme' => wM_forget S (fun r' S' => r = r' ∧ RR LL LP SO Stp SB Sls Std Sme' Scl SP Sev SB0 Sls0 Std0 Sme0 Scl0 SB1 Sls1 Std1 Sme1 Scl1 Sn S' (v + 1))) := by
  have m := tbM_i hp.1.2.2.2.1
  refine eq_forget (m.2.1.trans m.2.2.1.symm) ⟨rfl, RR_new0 (S' := uS (uA S 3 135 0) 1 (S.1 1 + 1)) hk hv hi (fun k k1 => by rw [uS_1, if_neg k1]; rfl) rfl (fun k k3 => by rw [uS_2, uA_o k3]) (tb_M (mm' := 0) hp.1 ⟨fun i hi => absurd hi (Nat.not_lt_zero i), rfl, ?_, Nat.zero_le _, fun i hi => absurd hi (Nat.not_lt_zero i)⟩ (fun i h1 h2 => ?_)) hp.2.1 hp.2.2.2⟩
  · show (uA S 3 135 0).2 3 135 = _
    rw [uA_h]; rfl
  · rw [uS_2, uA_i h2]
theorem t_clear {LL : Nat → List ClT → Prop} {LP : Nat → Prop} {SO : Ob} {Stp : Nat → Int32} {SB : Ob} {Sls : Nat → Option Nat} {Std Sme Scl SP Sev SB0 : Ob} {Sls0 : Nat → Option Nat} {Std0 Sme0 Scl0 SB1 : Ob} {Sls1 : Nat → Option Nat} {Std1 Sme1 Scl1 : Ob} {Sn : Option (Nat → Nat → Int32)} {S : Ob} {v : Nat} {F : FtT} {o : Option (List ClT)} {T C : TdT} {mm nl : Nat} (hk : rK SO Stp Sev S v) (hp : rPo LL LP SB Sls Std Sme Scl SP Sn S F o T C mm nl) (hi : rIm LL LP SO SB0 Sls0 Std0 Sme0 Scl0 SB1 Sls1 Std1 Sme1 Scl1 S) (hv : v < 1000) : w_X8_clear SO SB Scl (fun r Scl' => wM_clear S (fun r' S' => r = r' ∧ RR LL LP SO Stp SB Sls Std Sme Scl' SP Sev SB0 Sls0 Std0 Sme0 Scl0 SB1 Sls1 Std1 Sme1 Scl1 Sn S' (v + 1))) := by
  obtain ⟨-, -, ⟨c1, c2, c3⟩, -⟩ := id hp.1
  refine eq_clear (c2.1.trans c3.1.symm) ⟨rfl, RR_new0 (S' := uS (uA S 3 136 0) 1 (S.1 1 + 1)) hk hv hi (fun k k1 => by rw [uS_1, if_neg k1]; rfl) rfl (fun k k3 => by rw [uS_2, uA_o k3]) (tb_C (C' := (0, C.2)) hp.1 ⟨⟨c1.1, Nat.zero_le _, fun i hi => absurd hi (Nat.not_lt_zero i)⟩, ⟨rfl, fun i hi => absurd hi (Nat.not_lt_zero i)⟩, ⟨?_, fun i hi => absurd hi (Nat.not_lt_zero i)⟩⟩ (fun i h1 h2 => ?_)) hp.2.1 hp.2.2.2⟩
  · show (uA S 3 136 0).2 3 136 = _
    rw [uA_h]; rfl
  · rw [uS_2, uA_i h2]
theorem t_mention {LL : Nat → List ClT → Prop} {LP : Nat → Prop} {SO : Ob} {Stp : Nat → Int32} {SB : Ob} {Sls : Nat → Option Nat} {Std Sme Scl SP Sev SB0 : Ob} {Sls0 : Nat → Option Nat} {Std0 Sme0 Scl0 SB1 : Ob} {Sls1 : Nat → Option Nat} {Std1 Sme1 Scl1 : Ob} {Sn : Option (Nat → Nat → Int32)} {S : Ob} {v : Nat} {F : FtT} {o : Option (List ClT)} {T C : TdT} {mm nl : Nat} (hk : rK SO Stp Sev S v) (hp : rPo LL LP SB Sls Std Sme Scl SP Sn S F o T C mm nl) (hi : rIm LL LP SO SB0 Sls0 Std0 Sme0 Scl0 SB1 Sls1 Std1 Sme1 Scl1 S) (hv : v < 1000) {x1 x2 x3 : Int32} : w_X8_mention SO SB Sme x1 x2 x3 (fun r SO' Sme' => wM_mention S x1 x2 x3 (fun r' S' => r = r' ∧ RR LL LP SO' Stp SB Sls Std Sme' Scl SP Sev SB0 Sls0 Std0 Sme0 Scl0 SB1 Sls1 Std1 Sme1 Scl1 Sn S' (v + 1))) := by
  obtain ⟨⟨f1, f2⟩, -⟩ := id hp.1
  obtain ⟨m1, m2, m3, m4, m5⟩ := tbM_i hp.1.2.2.2.1
  refine eq_mention f1.1.1 m4 f1.2.1 f2.2.1 m2 m3 (fun k h1 h7 => ⟨rfl, RR_ref hk hp hi k⟩) (fun a b ha hb hab e1 e2 h0 h5 hmm => ⟨rfl, RR_new (S1 := S) (S' := addK S 73 135 mm x1 x2 x3) hk hv hi lkU.rf rfl (fun k k3 => by unfold addK; rw [uA_o k3, uA_o k3, uA_o k3, uA_o k3]) (tb_M (mm' := mm + 1) hp.1 ⟨fun i hi => ?_, ?_, ?_, hmm, fun i hi => ?_⟩ (fun i h1 h2 => ?_)) hp.2.1 hp.2.2.2⟩)
  · have r0 : (add3 Sme mm x1 x2 x3).2 0 i = if i = mm then x1 else Sme.2 0 i := rfl
    have r1 : (add3 Sme mm x1 x2 x3).2 1 i = if i = mm then x2 else Sme.2 1 i := rfl
    have r2 : (add3 Sme mm x1 x2 x3).2 2 i = if i = mm then x3 else Sme.2 2 i := rfl
    have hk : (addK S 73 135 mm x1 x2 x3).2 3 = upd (upd (upd (upd (S.2 3) (73 + 3 * mm) x1) (73 + 3 * mm + 1) x2) (73 + 3 * mm + 2) x3) 135 (nI mm + 1) := rfl
    rw [r0, r1, r2, hk]
    by_cases e : i = mm
    · subst e
      rw [if_pos rfl, if_pos rfl, if_pos rfl, upd_i (by omega), upd_i (by omega), upd_i (by omega), upd_h, upd_i (by omega), upd_i (by omega), upd_h, upd_i (by omega), upd_h]
      exact ⟨rfl, rfl, rfl⟩
    · rw [if_neg e, if_neg e, if_neg e, upd_i (by omega), upd_i (by omega), upd_i (by omega), upd_i (by omega), upd_i (by omega), upd_i (by omega), upd_i (by omega), upd_i (by omega), upd_i (by omega), upd_i (by omega), upd_i (by omega), upd_i (by omega)]
      exact m1 i (by omega)
  · show nI mm + 1 = _
    rw [nI_1]
  · have hk : (addK S 73 135 mm x1 x2 x3).2 3 = upd (upd (upd (upd (S.2 3) (73 + 3 * mm) x1) (73 + 3 * mm + 1) x2) (73 + 3 * mm + 2) x3) 135 (nI mm + 1) := rfl
    rw [hk, upd_h, nI_1]
  · have hk : (addK S 73 135 mm x1 x2 x3).2 3 = upd (upd (upd (upd (S.2 3) (73 + 3 * mm) x1) (73 + 3 * mm + 1) x2) (73 + 3 * mm + 2) x3) 135 (nI mm + 1) := rfl
    rw [hk]
    by_cases e : i = mm
    · subst e
      rw [upd_i (by omega), upd_i (by omega), upd_i (by omega), upd_h, upd_i (by omega), upd_i (by omega), upd_h, upd_i (by omega), upd_h]
      rw [fa_le] at h0 h5
      have z0 : (0 : Int32).toInt = 0 := by decide
      have z5 : (500 : Int32).toInt = 500 := by decide
      rw [z0] at h0
      rw [z5] at h5
      exact ⟨⟨a, ha, e1⟩, ⟨b, hb, e2⟩, h0, h5⟩
    · rw [upd_i (by omega), upd_i (by omega), upd_i (by omega), upd_i (by omega), upd_i (by omega), upd_i (by omega), upd_i (by omega), upd_i (by omega), upd_i (by omega), upd_i (by omega), upd_i (by omega), upd_i (by omega)]
      exact m5 i (by omega)
  · have hk : (addK S 73 135 mm x1 x2 x3).2 3 = upd (upd (upd (upd (S.2 3) (73 + 3 * mm) x1) (73 + 3 * mm + 1) x2) (73 + 3 * mm + 2) x3) 135 (nI mm + 1) := rfl
    rw [hk, upd_i (by omega), upd_i (by omega), upd_i (by omega), upd_i (by omega)]
theorem t_claim {LL : Nat → List ClT → Prop} {LP : Nat → Prop} {SO : Ob} {Stp : Nat → Int32} {SB : Ob} {Sls : Nat → Option Nat} {Std Sme Scl SP Sev SB0 : Ob} {Sls0 : Nat → Option Nat} {Std0 Sme0 Scl0 SB1 : Ob} {Sls1 : Nat → Option Nat} {Std1 Sme1 Scl1 : Ob} {Sn : Option (Nat → Nat → Int32)} {S : Ob} {v : Nat} {F : FtT} {o : Option (List ClT)} {T C : TdT} {mm nl : Nat} (hk : rK SO Stp Sev S v) (hp : rPo LL LP SB Sls Std Sme Scl SP Sn S F o T C mm nl) (hi : rIm LL LP SO SB0 Sls0 Std0 Sme0 Scl0 SB1 Sls1 Std1 Sme1 Scl1 S) (hv : v < 1000) {x1 x2 x3 : Int32} : w_X8_claim SO SB Scl x1 x2 x3 (fun r SO' Scl' => wM_claim S x1 x2 x3 (fun r' S' => r = r' ∧ RR LL LP SO' Stp SB Sls Std Sme Scl' SP Sev SB0 Sls0 Std0 Sme0 Scl0 SB1 Sls1 Std1 Sme1 Scl1 Sn S' (v + 1))) := by
  obtain ⟨⟨f1, f2⟩, -, ⟨c1, c2, c3⟩, -⟩ := id hp.1
  refine eq_claim f1.1.1 c1.2.1 f1.2.1 f2.2.1 c2.1 c3.1 (fun k h1 h7 => ⟨rfl, RR_ref hk hp hi k⟩) (fun a ha e1 g1 g2 g3 g4 hmm => ⟨rfl, ?_⟩)
  obtain ⟨y, hy, rfl⟩ := i_of2 (x := x2) (M := 2000) (by decide) g1 g2
  obtain ⟨u, hu, rfl⟩ := i_of2 (x := x3) (M := 3) (by decide) g3 g4
  subst e1
  rw [iZ_n y]
  refine RR_new (S1 := S) (S' := addK S 103 136 (qtM C) (nI a) (iZ (y : Int)) (nI u)) hk hv hi lkU.rf rfl (fun k k3 => by unfold addK; rw [uA_o k3, uA_o k3, uA_o k3, uA_o k3]) (tb_C (C' := apT C a (y : Int) u) hp.1 ⟨⟨c1.1, hmm, fun i hi => ?_⟩, ap_c c2, ap_m (b := 103) (cn := 136) c3 hmm (by decide)⟩ (fun i h1 h2 => ?_)) hp.2.1 hp.2.2.2
  · rw [ap_M] at hi
    rw [ap_F, ap_Y, ap_U]
    by_cases e : i = qtM C
    · rw [if_pos e, if_pos e, if_pos e]; omega
    · rw [if_neg e, if_neg e, if_neg e]; exact c1.2.2 i (by omega)
  · have hk : (addK S 103 136 (qtM C) (nI a) (iZ (y : Int)) (nI u)).2 3 = upd (upd (upd (upd (S.2 3) (103 + 3 * qtM C) (nI a)) (103 + 3 * qtM C + 1) (iZ (y : Int))) (103 + 3 * qtM C + 2) (nI u)) 136 (nI (qtM C) + 1) := rfl
    rw [hk, upd_i (by omega), upd_i (by omega), upd_i (by omega), upd_i (by omega)]
theorem t_terms {LL : Nat → List ClT → Prop} {LP : Nat → Prop} {SO : Ob} {Stp : Nat → Int32} {SB : Ob} {Sls : Nat → Option Nat} {Std Sme Scl SP Sev SB0 : Ob} {Sls0 : Nat → Option Nat} {Std0 Sme0 Scl0 SB1 : Ob} {Sls1 : Nat → Option Nat} {Std1 Sme1 Scl1 : Ob} {Sn : Option (Nat → Nat → Int32)} {S : Ob} {v : Nat} {F : FtT} {o : Option (List ClT)} {T C : TdT} {mm nl : Nat} (hk : rK SO Stp Sev S v) (hp : rPo LL LP SB Sls Std Sme Scl SP Sn S F o T C mm nl) (hi : rIm LL LP SO SB0 Sls0 Std0 Sme0 Scl0 SB1 Sls1 Std1 Sme1 Scl1 S) (hv : v < 1000) {x1 x2 : Int32} : w_X8_terms SO SB SP x1 x2 (fun r SO' SB' SP' => wM_terms S x1 x2 (fun r' S' => r = r' ∧ RR LL LP SO' Stp SB' Sls Std Sme Scl SP' Sev SB0 Sls0 Std0 Sme0 Scl0 SB1 Sls1 Std1 Sme1 Scl1 Sn S' (v + 1))) := by
  obtain ⟨⟨f1, f2⟩, -⟩ := id hp.1
  refine eq_terms (fun k hk3 => ?_) ⟨rfl, RR_ref hk hp hi 1⟩ (fun hok k hk3 e1 => ⟨rfl, ?_⟩)
  · rcases (by omega : k = 0 ∨ k = 1 ∨ k = 2) with rfl | rfl | rfl
    · exact f1.2.2.1.trans f2.2.2.1.symm
    · exact f1.2.2.2.1.trans f2.2.2.2.1.symm
    · exact f1.2.2.2.2.1.trans f2.2.2.2.2.1.symm
  · obtain ⟨k', hk', e1', h1, h2⟩ := hok
    rw [e1, nI_eq (by omega) (by omega)] at e1'
    subst e1'
    have hlo : (0 : Int32) ≤ tlo k ∧ tlo k = nI (if k = 0 then 1 else 0) ∧ thi k = nI (if k = 0 then 4 else if k = 1 then 1 else 9) := by
      rcases (by omega : k = 0 ∨ k = 1 ∨ k = 2) with rfl | rfl | rfl <;> decide
    have hm9 : (if k = 0 then 4 else if k = 1 then 1 else 9) ≤ 9 := by split <;> (try split) <;> omega
    obtain ⟨w, hw, rfl⟩ := i_ofR (x := x2) (M := if k = 0 then 4 else if k = 1 then 1 else 9) (by omega) (by rw [decide_eq_true (Int32.le_trans hlo.1 h1), decide_eq_true (by rw [← hlo.2.2]; exact h2)]; rfl)
    rw [hlo.2.1, nI_leI (by split <;> omega) (by omega)] at h1
    refine RR_new (S1 := S) (S' := uA S 3 (40 + k) (nI w)) hk hv hi lkU.rf rfl (fun j k3 => by rw [uA_o k3]) (F' := tmF F k w) (tb_F hp.1 (tm_tbF ⟨f1, f2⟩ hk3 (fun q => by rw [if_pos q] at hw h1; exact ⟨h1, hw⟩) (fun q => by rw [if_neg (by omega), if_pos q] at hw; exact hw) (fun q => by rw [if_neg (by omega), if_neg (by omega)] at hw; exact hw)) (Nat.le_refl _) rfl rfl (fun i h1 h2 => ?_)) (cV_spo _ _) (srR_spo (P' := plF (tmF F k w) o) f1.1.1 hp.2.2.2)
    exact upd_i (by omega)
theorem t_put {LL : Nat → List ClT → Prop} {LP : Nat → Prop} {SO : Ob} {Stp : Nat → Int32} {SB : Ob} {Sls : Nat → Option Nat} {Std Sme Scl SP Sev SB0 : Ob} {Sls0 : Nat → Option Nat} {Std0 Sme0 Scl0 SB1 : Ob} {Sls1 : Nat → Option Nat} {Std1 Sme1 Scl1 : Ob} {Sn : Option (Nat → Nat → Int32)} {S : Ob} {v : Nat} {F : FtT} {o : Option (List ClT)} {T C : TdT} {mm nl : Nat} (hk : rK SO Stp Sev S v) (hp : rPo LL LP SB Sls Std Sme Scl SP Sn S F o T C mm nl) (hi : rIm LL LP SO SB0 Sls0 Std0 Sme0 Scl0 SB1 Sls1 Std1 Sme1 Scl1 S) (hv : v < 1000) {aB : Nat → Nat} (hd : ∀ i j, 1 ≤ i → i ≤ 4 → 1 ≤ j → j ≤ 4 → aB i = aB j → i = j) {x1 x2 x3 : Int32} : w_X8_put aB SO SB SP x1 x2 x3 (fun r SO' SB' SP' => wM_put S x1 x2 x3 (fun r' S' => r = r' ∧ RR LL LP SO' Stp SB' Sls Std Sme Scl SP' Sev SB0 Sls0 Std0 Sme0 Scl0 SB1 Sls1 Std1 Sme1 Scl1 Sn S' (v + 1))) := by
  obtain ⟨⟨f1, f2⟩, -⟩ := id hp.1
  refine eq_put hd f1.1.1 f1.2.1 f2.2.1 (hf_of hp) (fun k h1 h7 => ⟨rfl, RR_ref hk hp hi k⟩) (fun t k ht hk4 e1 e2 hr hok => ⟨rfl, ?_⟩)
  have hpm : pmax k = nI (if k < 2 then 2000 else if k = 2 then 99 else 15) := by
    rcases (by omega : k = 0 ∨ k = 1 ∨ k = 2 ∨ k = 3) with rfl | rfl | rfl | rfl <;> decide
  have hm : (if k < 2 then 2000 else if k = 2 then 99 else 15) ≤ 2000 := by split <;> (try split) <;> omega
  rw [hpm] at hr
  obtain ⟨w, hw, rfl⟩ := i_ofR (x := x3) (by omega) hr
  obtain ⟨g0, g1, g2, g3⟩ := f2.2.2.2.2.2 t ht
  obtain ⟨o1, o2, o3, o4⟩ := f1.1.2.2.2.2 t ht
  obtain ⟨p0, p1⟩ := hok
  refine RR_new (S1 := S) (S' := uA S 3 (4 * t + k) (nI w)) hk hv hi lkU.rf rfl (fun j k3 => by rw [uA_o k3]) (F' := stF F t k w) (tb_F hp.1 (st_tbF ⟨f1, f2⟩ ht hk4 (fun q => ?_) (fun q => ?_) (fun q => ?_) (fun q => ?_)) (Nat.le_refl _) rfl rfl (fun i h1 h2 => ?_)) (cV_spo _ _) (srR_spo (P' := plF (stF F t k w) o) f1.1.1 hp.2.2.2)
  · have := p0 q
    rw [g1, nI_leI (by omega) (by omega)] at this
    exact this
  · have := p1 q
    rw [g0, nI_leI (by omega) (by omega)] at this
    rw [if_pos (by omega)] at hw
    exact ⟨this, hw⟩
  · rw [if_neg (by omega), if_pos q] at hw; exact hw
  · rw [if_neg (by omega), if_neg (by omega)] at hw; exact hw
  · have := f1.1.1
    exact upd_i (by omega)
theorem t_tale {LL : Nat → List ClT → Prop} {LP : Nat → Prop} {SO : Ob} {Stp : Nat → Int32} {SB : Ob} {Sls : Nat → Option Nat} {Std Sme Scl SP Sev SB0 : Ob} {Sls0 : Nat → Option Nat} {Std0 Sme0 Scl0 SB1 : Ob} {Sls1 : Nat → Option Nat} {Std1 Sme1 Scl1 : Ob} {Sn : Option (Nat → Nat → Int32)} {S : Ob} {v : Nat} {F : FtT} {o : Option (List ClT)} {T C : TdT} {mm nl : Nat} (hk : rK SO Stp Sev S v) (hp : rPo LL LP SB Sls Std Sme Scl SP Sn S F o T C mm nl) (hi : rIm LL LP SO SB0 Sls0 Std0 Sme0 Scl0 SB1 Sls1 Std1 Sme1 Scl1 S) (hv : v < 1000) {x1 x2 x3 x4 : Int32} : w_X8_tale SO SB SP x1 x2 x3 x4 (fun r SO' SB' SP' => wM_tale S x1 x2 x3 x4 (fun r' S' => r = r' ∧ RR LL LP SO' Stp SB' Sls Std Sme Scl SP' Sev SB0 Sls0 Std0 Sme0 Scl0 SB1 Sls1 Std1 Sme1 Scl1 Sn S' (v + 1))) := by
  obtain ⟨⟨f1, f2⟩, -⟩ := id hp.1
  refine eq_tale f1.1.1 f1.2.1 f2.2.1 (fun k h1 h7 => ⟨rfl, RR_ref hk hp hi k⟩) (fun hn hr => ⟨rfl, ?_⟩)
  obtain ⟨r1, hr⟩ := Bool.and_eq_true_iff.mp hr
  obtain ⟨r2, hr⟩ := Bool.and_eq_true_iff.mp hr
  obtain ⟨r3, r4⟩ := Bool.and_eq_true_iff.mp hr
  obtain ⟨a, ha, rfl⟩ := i_ofR (x := x1) (M := 2000) (by decide) r1
  have r2' := r2
  rw [Bool.and_eq_true, decide_eq_true_eq, decide_eq_true_eq] at r2'
  obtain ⟨b, hb, rfl⟩ := i_of2 (x := x2) (M := 2000) (by decide) (Int32.le_trans ((nI_leI (a := 0) (by decide) (by omega)).mpr (Nat.zero_le a)) r2'.1) r2'.2
  obtain ⟨c, hc, rfl⟩ := i_ofR (x := x3) (M := 99) (by decide) r3
  obtain ⟨d, hd, rfl⟩ := i_ofR (x := x4) (M := 15) (by decide) r4
  have hab : a ≤ b := (nI_leI (by omega) (by omega)).mp r2'.1
  refine RR_new (S1 := S) (S' := addF S (qfN F) (nI a) (nI b) (nI c) (nI d)) hk hv hi lkU.rf rfl (fun k k3 => by unfold addF; rw [uA_o k3, uA_o k3, uA_o k3, uA_o k3, uA_o k3]) (F' := apF F a b c d) (tb_F hp.1 (ap_tbF ⟨f1, f2⟩ hn hab hb hc hd) (by rw [apF_N]; omega) rfl rfl (fun i h1 h2 => addF_o (kp := S.2 3) h1 h2 hn)) (cV_spo _ _) (srR_spo (P' := plF (apF F a b c d) o) hn hp.2.2.2)
