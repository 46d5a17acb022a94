/-! ===== texts of laws: the reference's parser ===== -/
def smM (S0 S : Ob) : Prop := S.2 = S0.2 ∧ ∀ k, k ≠ 16 → k ≠ 17 → k ≠ 18 → S.1 k = S0.1 k
def atM (S0 : Ob) (K : TkT) (S : Ob) (p lv : Nat) : Prop := smM S0 S ∧ S.1 16 = nI p ∧ S.1 17 = nI lv ∧ S.1 18 = -1 ∧ p ≤ kN K ∧ lv ≤ 50
def fltM (S0 : Ob) (K : TkT) (S : Ob) (f : Nat) : Prop := smM S0 S ∧ S.1 18 = nI (kP K f) ∧ f ≤ kN K
def tkM (S0 : Ob) (K : TkT) : Prop := okK K ∧ (∀ i, i ≤ kN K → S0.2 12 i = nI (kC K i)) ∧ (∀ i, i ≤ kN K → S0.2 14 i = nI (kP K i)) ∧ ∀ i, i < kN K → ∃ v, S0.2 13 i = nI v ∧ v < 2 ^ 31 ∧ (kV K i ≤ 2000 → v = kV K i) ∧ (2000 < kV K i → 2000 < v)
def rsM (S0 : Ob) (K : TkT) (res : PrT) (S : Ob) : Prop := Sum.elim (fun f => fltM S0 K S f) (fun r => atM S0 K S r.1 r.2.1) res
def rdM (S0 : Ob) (K : TkT) (F : (Ob → Prop) → Prop) (res : PrT) : Prop := ∀ Q : Ob → Prop, (∀ S', rsM S0 K res S' → Q S') → F Q
theorem fl_ne {K : TkT} (h : okK K) (f : Nat) : ¬ nI (kP K f) = -1 := nI_m1 (by have := h.2.2.2.1 f; omega)
theorem m_fineY {S : Ob} (h : S.1 18 = -1) {Q : Int32 → Prop} (hq : Q 1) : wM_fine S Q := by
  unfold wM_fine
  exact rb_y h hq
theorem m_fineN {S0 : Ob} {K : TkT} (ok : okK K) {S : Ob} {f : Nat} (h : fltM S0 K S f) {Q : Int32 → Prop} (hq : Q 0) : wM_fine S Q := by
  unfold wM_fine
  rw [h.2.1]
  exact rb_n (fl_ne ok f) hq
theorem m_takesN {S0 : Ob} {K : TkT} (ok : okK K) {S : Ob} {f : Nat} (h : fltM S0 K S f) {x : Int32} {Q : Int32 → Ob → Prop} (hq : Q 0 S) : wM_takes0 S x Q := by
  unfold wM_takes0
  refine m_fineN ok h ?_
  rw [jn_d, jn_d]
  exact br_y rfl (br_y rfl ⟨rfl, hq⟩)
theorem m_takes {S0 : Ob} {K : TkT} (tk : tkM S0 K) {S : Ob} {p lv : Nat} (h : atM S0 K S p lv) {k : Nat} (hk0 : k ≠ 0) (hk : k < 2 ^ 31) {Q : Int32 → Ob → Prop} (hy : kC K p = k → ∀ S', atM S0 K S' (p + 1) lv → Q 1 S') (hn : kC K p ≠ k → Q 0 S) : wM_takes0 S (nI k) Q := by
  obtain ⟨hs, h16, h17, h18, hpn, hlv⟩ := h
  have h400 := tk.1.1
  have hc := tk.1.2.2.1 p
  unfold wM_takes0
  refine m_fineY h18 ?_
  rw [h16, nI_clamp (by omega), hs.1, tk.2.1 p hpn]
  refine jn_g (fun J => (kC K p = k → J 1) ∧ (kC K p ≠ k → J 0)) ⟨fun e => ?_, fun e => ?_⟩ (fun J hJ => jn_g (fun J2 => kC K p ≠ k → J2 ()) (fun e => hJ.2 e) (fun J2 hJ2 => br_n (by decide) ⟨vp_in_nI (by omega) (by decide), qe_b _ _ (by omega) hk (fun e => hJ.1 e) (fun e => hJ2 e)⟩))
  · refine br_n (by decide) ?_
    rintro S5 rfl
    have hlt : p < kN K := okK_i tk.1 (by omega)
    refine ⟨rfl, hy e _ ⟨⟨hs.1, fun j a b c => ?_⟩, ?_, h17, h18, hlt, hlv⟩⟩
    · rw [uS_1, if_neg a]; exact hs.2 j a b c
    · rw [uS_1, if_pos rfl, nI_1]
  · exact br_y rfl ⟨rfl, hn e⟩
theorem m_faults {S0 : Ob} {K : TkT} (tk : tkM S0 K) {S : Ob} {p lv : Nat} (h : atM S0 K S p lv) {Q : Ob → Prop} (hq : ∀ S', fltM S0 K S' p → Q S') : wM_faults S Q := by
  obtain ⟨hs, h16, h17, h18, hpn, hlv⟩ := h
  have h400 := tk.1.1
  unfold wM_faults
  refine m_fineY h18 (br_n (by decide) ?_)
  rw [h16, nI_clamp (by omega), hs.1, tk.2.2.1 p hpn]
  refine ⟨vp_in_nI (by omega) (by decide), ?_⟩
  rintro S4 rfl
  refine hq _ ⟨⟨hs.1, fun j a b c => ?_⟩, rfl, hpn⟩
  rw [uS_1, if_neg c]; exact hs.2 j a b c
theorem m_faultsN {S0 : Ob} {K : TkT} (ok : okK K) {S : Ob} {f : Nat} (h : fltM S0 K S f) {Q : Ob → Prop} (hq : Q S) : wM_faults S Q := by
  unfold wM_faults
  exact m_fineN ok h (br_y rfl hq)
theorem m_must {S0 : Ob} {K : TkT} (tk : tkM S0 K) {S : Ob} {p lv : Nat} (h : atM S0 K S p lv) {k : Nat} (hk0 : k ≠ 0) (hk : k < 2 ^ 31) {Q : Ob → Prop} (hy : kC K p = k → ∀ S', atM S0 K S' (p + 1) lv → Q S') (hn : kC K p ≠ k → ∀ S', fltM S0 K S' p → Q S') : wM_must S (nI k) Q := by
  unfold wM_must
  exact m_takes tk h hk0 hk (fun e S' h' => rb_n (by decide) (hy e S' h')) (fun e => rb_y rfl (m_faults tk h (hn e)))
theorem m_mustN {S0 : Ob} {K : TkT} (ok : okK K) {S : Ob} {f : Nat} (h : fltM S0 K S f) {x : Int32} {Q : Ob → Prop} (hq : Q S) : wM_must S x Q := by
  unfold wM_must
  exact m_takesN ok h (rb_y rfl (m_faultsN ok h hq))
theorem m_leaf {S0 : Ob} {K : TkT} (tk : tkM S0 K) {S : Ob} {p lv : Nat} (h : atM S0 K S p lv) (hlt : p < kN K) {Q : Ob → Prop} (hy : lv ≠ 50 → ∀ S', atM S0 K S' (p + 1) (lv + 1) → Q S') (hn : lv = 50 → ∀ S', fltM S0 K S' p → Q S') : wM_leaf S Q := by
  obtain ⟨hs, h16, h17, h18, hpn, hlv⟩ := id h
  have h400 := tk.1.1
  unfold wM_leaf
  refine jn_g (fun J => (lv ≠ 50 → J S) ∧ (lv = 50 → ∀ S', fltM S0 K S' p → J S')) ⟨fun e => ?_, fun e => ?_⟩ (fun J hJ => ?_)
  · rintro S3 rfl
    refine m_fineY (S := uS S 17 (S.1 17 + 1)) h18 (br_n (by decide) ?_)
    rintro S6 rfl
    refine hy e _ ⟨⟨hs.1, fun j a b c => ?_⟩, ?_, ?_, h18, hlt, by omega⟩
    · rw [uS_1, if_neg a, uS_1, if_neg b]; exact hs.2 j a b c
    · show S.1 16 + 1 = _
      rw [h16, nI_1]
    · show S.1 17 + 1 = _
      rw [h17, nI_1]
  · rintro S' hf S3 rfl
    have hf' : fltM S0 K (uS S' 17 (S'.1 17 + 1)) p := by
      refine ⟨⟨hf.1.1, fun j a b c => ?_⟩, hf.2.1, hf.2.2⟩
      rw [uS_1, if_neg b]; exact hf.1.2 j a b c
    exact m_fineN tk.1 hf' (br_y rfl (hn e _ hf'))
  · rw [h17]
    exact qe_b lv 50 (by omega) (by decide) (fun e => m_faults tk h (fun S' hf => hJ.2 e S' hf)) (fun e => hJ.1 e)
theorem a_partN {S0 : Ob} {K : TkT} (ok : okK K) {rec' : Ob → Int32 → (Ob → Prop) → Prop} {S : Ob} {f : Nat} (h : fltM S0 K S f) {x : Int32} {Q : Ob → Prop} (hq : Q S) : wM_readPart rec' S x Q := by
  unfold wM_readPart
  exact m_fineN ok h (rb_y rfl hq)
theorem a_part {S0 : Ob} {K : TkT} (tk : tkM S0 K) {rec' : Ob → Int32 → (Ob → Prop) → Prop} {rec : Nat → Nat → Nat → PrT} {deep : Nat} (hd : deep ≤ 8) (hrec : deep < 8 → ∀ S p lv, atM S0 K S p lv → rdM S0 K (rec' S (nI (deep + 1))) (rec (deep + 1) p lv)) (S : Ob) (p lv : Nat) (h : atM S0 K S p lv) : rdM S0 K (wM_readPart rec' S (nI deep)) (mPart (kC K) (kV K) rec deep p lv) := by
  intro Q hq
  obtain ⟨hs, h16, h17, h18, hpn, hlv⟩ := id h
  have h400 := tk.1.1
  have hc := tk.1.2.2.1 p
  unfold wM_readPart
  refine m_fineY h18 (rb_n (by decide) ?_)
  rw [h16, nI_clamp (by omega), hs.1, tk.2.1 p hpn]
  refine ⟨vp_in_nI (by omega) (by decide), ?_⟩
  rintro v4 rfl
  show (¬ nI (kC K p) = nI 191 → _) ∧ (nI (kC K p) = nI 191 → _)
  refine qe_b _ _ (by omega) (by decide) (fun e => ?_) (fun e => ?_)
  · -- a bracket
    have em : mPart (kC K) (kV K) rec deep p lv = if deep = 8 then .inl p else Sum.elim .inl (fun r => if kC K r.1 = 193 then .inr (r.1 + 1, r.2.1, r.2.2) else .inl r.1) (rec (deep + 1) (p + 1) lv) := by
      unfold mPart
      rw [if_pos e]
    rw [em] at hq
    refine jn_g (fun J => (deep ≠ 8 → J S) ∧ (deep = 8 → ∀ S', fltM S0 K S' p → J S')) ⟨fun e8 => ?_, fun e8 S' hf => ?_⟩ (fun J hJ => qe_b deep 8 (by omega) (by decide) (fun e8 => m_faults tk h (fun S' hf => hJ.2 e8 S' hf)) (fun e8 => hJ.1 e8))
    · rw [if_neg e8] at hq
      have hlt : p < kN K := okK_i tk.1 (by omega)
      refine m_fineY h18 (rb_n (by decide) ?_)
      rintro S26 rfl
      have hat : atM S0 K (uS S 16 (S.1 16 + 1)) (p + 1) lv := by
        refine ⟨⟨hs.1, fun j a b c => ?_⟩, ?_, h17, h18, hlt, hlv⟩
        · rw [uS_1, if_neg a]; exact hs.2 j a b c
        · rw [uS_1, if_pos rfl, h16, nI_1]
      rw [nI_1]
      refine hrec (by omega) _ _ _ hat _ (fun S27 hr => ?_)
      show wM_must S27 (nI 193) _
      cases er : rec (deep + 1) (p + 1) lv with
      | inl f =>
        rw [er] at hr hq
        exact m_mustN tk.1 hr (hq _ hr)
      | inr r =>
        rw [er, rsM, Sum.elim_inr] at hr
        rw [er, Sum.elim_inr] at hq
        refine m_must tk hr (by decide) (by decide) (fun e2 S' h' => hq S' ?_) (fun e2 S' h' => hq S' ?_)
        · rw [if_pos e2]; exact h'
        · rw [if_neg e2]; exact h'
    · rw [if_pos e8] at hq
      exact m_fineN tk.1 hf (rb_y rfl (hq S' hf))
  · have em : mPart (kC K) (kV K) rec deep p lv = if (kC K p = 50 ∧ kV K p ≤ 2000) ∨ (8 ≤ kC K p ∧ kC K p ≤ 15) then (if lv = 50 then .inl p else .inr (p + 1, lv + 1, fun φ => some (if kC K p = 50 then (kV K p : Int) else φ (kC K p - 8)))) else .inl p := by
      unfold mPart
      rw [if_neg e]
    rw [em] at hq
    refine jn_g (fun J => ((kC K p = 50 ∧ kV K p ≤ 2000) ∨ (8 ≤ kC K p ∧ kC K p ≤ 15)) → J ()) (fun hy => ?_) (fun J hJ => jn_g (fun J2 => ¬ (kC K p = 50 ∧ kV K p ≤ 2000) → J2 ()) (fun hno => ?_) (fun J2 hJ2 => qe_b _ 50 (by omega) (by decide) (fun e50 => ?_) (fun e50 => hJ2 (fun q => e50 q.1))))
    · have hlt : p < kN K := okK_i tk.1 (by omega)
      rw [if_pos hy] at hq
      refine m_leaf tk h hlt (fun e50 S' h' => hq S' ?_) (fun e50 S' h' => hq S' ?_)
      · rw [if_neg e50]; exact h'
      · rw [if_pos e50]; exact h'
    · refine jn_g (fun J3 => ¬ (8 ≤ kC K p ∧ kC K p ≤ 15) → J3 ()) (fun hno2 => ?_) (fun J3 hJ3 => ?_)
      · rw [if_neg (fun q => q.elim hno hno2)] at hq
        exact m_faults tk h (fun S' hf => hq S' hf)
      · refine ⟨fun q => hJ3 ?_, fun q => ⟨fun q2 => hJ3 ?_, fun q2 => hJ (Or.inr ?_)⟩⟩
        · have := (nI_ltI (b := 8) (by omega) (by decide)).mp q; omega
        · have := (nI_ltI (a := 15) (by decide) (by omega)).mp q2; omega
        · have q' : ¬ kC K p < 8 := fun a => q (nI_lt (b := 8) a (by decide))
          have q2' : ¬ 15 < kC K p := fun a => q2 (nI_lt (a := 15) a (by omega))
          omega
    · have hlt : p < kN K := okK_i tk.1 (by omega)
      obtain ⟨v, ev, hv, hv1, hv2⟩ := tk.2.2.2 p hlt
      rw [ev]
      refine ⟨vp_in_nI (by omega) (by decide), le_b v 2000 hv (by decide) (fun q => hJ (Or.inl ⟨e50, ?_⟩)) (fun q => hJ2 (fun q2 => ?_))⟩
      · rcases Nat.lt_or_ge 2000 (kV K p) with a | a
        · have := hv2 a; omega
        · exact a
      · have := hv1 q2.2; omega
def muM (S : Ob) : Nat := if S.1 18 = -1 then 402 - (S.1 16).toNatClampNeg else 0
theorem muM_at {S0 : Ob} {K : TkT} (ok : okK K) {S : Ob} {p lv : Nat} (h : atM S0 K S p lv) : muM S = 402 - p := by
  have := ok.1
  have := h.2.2.2.2.1
  rw [muM, if_pos h.2.2.2.1, h.2.1, nI_clamp (by omega)]
theorem muM_f {S0 : Ob} {K : TkT} (ok : okK K) {S : Ob} {f : Nat} (h : fltM S0 K S f) : muM S = 0 := by
  rw [muM, if_neg (by rw [h.2.1]; exact fl_ne ok f)]
theorem a_loop2 {S0 : Ob} {K : TkT} (tk : tkM S0 K) {A B : Int32} {a b : Nat} (hA : 100 + A = nI a) (hB : 100 + B = nI b) (ha : a ≠ 0 ∧ a < 2 ^ 31 ∧ b ≠ 0 ∧ b < 2 ^ 31) {io : Nat → Bool} (hio : ∀ k, io k = true ↔ k = a ∨ k = b) {cb : Nat → Den → Den → Den} {nx : Nat → Nat → PrT} (hi : ∀ p lv r, nx p lv = .inr r → p + 1 ≤ r.1) {NX : Ob → (Ob → Prop) → Prop} (hN : ∀ S p lv, atM S0 K S p lv → rdM S0 K (NX S) (nx p lv)) {S1 : Ob} {q lv : Nat} {D : Den} {res : PrT} (hres : lp (kC K) io cb nx 401 q lv D = res) (h1 : atM S0 K S1 q lv) {Q : Ob → Prop} (hq : ∀ S', rsM S0 K res S' → Q S') :
    ∃ n, wl1 (fun L4 (S3 : Ob) => wM_sign A (fun (r5 : Int32) => wM_takes0 S3 r5 (fun (r7 : Int32) (S8 : Ob) => jn (fun (S10 : Ob) => NX S10 (fun (S12 : Ob) => L4 S12)) (fun J11 => ((¬ r7 = 0 → J11 S8) ∧ (r7 = 0 → wM_sign B (fun (r14 : Int32) => wM_takes0 S8 r14 (fun (r16 : Int32) (S17 : Ob) => ((r16 = 0 → Q S17) ∧ (¬ r16 = 0 → J11 S17)))))))))) n S1 := by
  have hz : ∀ q, 401 ≤ q → io (kC K q) = false := okK_z tk.1 (by
    cases e : io 0
    · rfl
    · have := (hio 0).mp e
      omega)
  have hi' : incP nx := fun p lv r h => by have := hi p lv r h; omega
  refine wl1_i (fun S3 => (∃ f, fltM S0 K S3 f ∧ res = .inl f) ∨ ∃ q lv D, atM S0 K S3 q lv ∧ lp (kC K) io cb nx 401 q lv D = res) muM ?_ S1 (Or.inr ⟨q, lv, D, h1, hres⟩)
  rintro L S3 hI ih
  unfold wM_sign
  rw [hA]
  rcases hI with ⟨f, hf, e⟩ | ⟨q, lv, D, hat, e⟩
  · refine m_takesN tk.1 hf ?_
    rw [jn_d]
    refine rb_y rfl ?_
    exact m_takesN tk.1 hf (br_y rfl (hq S3 (by rw [e]; exact hf)))
  · rw [lp_s hz hi'] at e
    have go : io (kC K q) = true → ∀ S', atM S0 K S' (q + 1) lv → NX S' (fun S12 => L S12) := by
      intro hop S' h'
      rw [if_pos hop] at e
      refine hN S' _ _ h' _ (fun S12 hr => ?_)
      cases er : nx (q + 1) lv with
      | inl f =>
        rw [er] at hr e
        refine ih S12 (Or.inl ⟨f, hr, e.symm⟩) ?_
        rw [muM_f tk.1 hr, muM_at tk.1 hat]
        have := hat.2.2.2.2.1
        have := tk.1.1
        omega
      | inr r =>
        rw [er] at hr e
        have hr' : atM S0 K S12 r.1 r.2.1 := hr
        have := hi _ _ _ er
        refine ih S12 (Or.inr ⟨r.1, r.2.1, _, hr', e⟩) ?_
        rw [muM_at tk.1 hr', muM_at tk.1 hat]
        have := hr'.2.2.2.2.1
        have := tk.1.1
        omega
    refine m_takes tk hat ha.1 ha.2.1 (fun ea S' h' => ?_) (fun ea => ?_)
    · rw [jn_d]
      exact rb_n (by decide) (go ((hio _).mpr (Or.inl ea)) S' h')
    · rw [jn_d]
      refine rb_y rfl ?_
      rw [hB]
      refine m_takes tk hat ha.2.2.1 ha.2.2.2 (fun eb S' h' => br_n (by decide) (go ((hio _).mpr (Or.inr eb)) S' h')) (fun eb => br_y rfl (hq S3 ?_))
      rw [if_neg (fun q => ((hio _).mp q).elim ea eb)] at e
      rw [← e]; exact hat
theorem a_loop2N {S0 : Ob} {K : TkT} (ok : okK K) {A B : Int32} {NX : Ob → (Ob → Prop) → Prop} {S1 : Ob} {f : Nat} (h1 : fltM S0 K S1 f) {Q : Ob → Prop} (hq : Q S1) :
    ∃ n, wl1 (fun L4 (S3 : Ob) => wM_sign A (fun (r5 : Int32) => wM_takes0 S3 r5 (fun (r7 : Int32) (S8 : Ob) => jn (fun (S10 : Ob) => NX S10 (fun (S12 : Ob) => L4 S12)) (fun J11 => ((¬ r7 = 0 → J11 S8) ∧ (r7 = 0 → wM_sign B (fun (r14 : Int32) => wM_takes0 S8 r14 (fun (r16 : Int32) (S17 : Ob) => ((r16 = 0 → Q S17) ∧ (¬ r16 = 0 → J11 S17)))))))))) n S1 := by
  refine wl1_i (fun S => S = S1) (fun _ => 0) ?_ S1 rfl
  rintro L S rfl ih
  unfold wM_sign
  refine m_takesN ok h1 ?_
  rw [jn_d]
  exact rb_y rfl (m_takesN ok h1 (br_y rfl hq))
theorem a_loop1 {S0 : Ob} {K : TkT} (tk : tkM S0 K) {a : Nat} (ha : a ≠ 0 ∧ a < 2 ^ 31) {io : Nat → Bool} (hio : ∀ k, io k = true ↔ k = a) {cb : Nat → Den → Den → Den} {nx : Nat → Nat → PrT} (hi : ∀ p lv r, nx p lv = .inr r → p + 1 ≤ r.1) {NX : Ob → (Ob → Prop) → Prop} (hN : ∀ S p lv, atM S0 K S p lv → rdM S0 K (NX S) (nx p lv)) {S1 : Ob} {q lv : Nat} {D : Den} {res : PrT} (hres : lp (kC K) io cb nx 401 q lv D = res) (h1 : atM S0 K S1 q lv) {Q : Ob → Prop} (hq : ∀ S', rsM S0 K res S' → Q S') :
    ∃ n, wl1 (fun L4 (S3 : Ob) => wM_takes0 S3 (nI a) (fun (r5 : Int32) (S6 : Ob) => ((r5 = 0 → Q S6) ∧ (¬ r5 = 0 → NX S6 (fun (S8 : Ob) => L4 S8))))) n S1 := by
  have hz : ∀ q, 401 ≤ q → io (kC K q) = false := okK_z tk.1 (by
    cases e : io 0
    · rfl
    · have := (hio 0).mp e
      omega)
  have hi' : incP nx := fun p lv r h => by have := hi p lv r h; omega
  refine wl1_i (fun S3 => (∃ f, fltM S0 K S3 f ∧ res = .inl f) ∨ ∃ q lv D, atM S0 K S3 q lv ∧ lp (kC K) io cb nx 401 q lv D = res) muM ?_ S1 (Or.inr ⟨q, lv, D, h1, hres⟩)
  rintro L S3 hI ih
  rcases hI with ⟨f, hf, e⟩ | ⟨q, lv, D, hat, e⟩
  · exact m_takesN tk.1 hf (br_y rfl (hq S3 (by rw [e]; exact hf)))
  · rw [lp_s hz hi'] at e
    refine m_takes tk hat ha.1 ha.2 (fun ea S' h' => br_n (by decide) ?_) (fun ea => br_y rfl (hq S3 ?_))
    · rw [if_pos ((hio _).mpr ea)] at e
      refine hN S' _ _ h' _ (fun S12 hr => ?_)
      cases er : nx (q + 1) lv with
      | inl f =>
        rw [er] at hr e
        refine ih S12 (Or.inl ⟨f, hr, e.symm⟩) ?_
        rw [muM_f tk.1 hr, muM_at tk.1 hat]
        have := hat.2.2.2.2.1
        have := tk.1.1
        omega
      | inr r =>
        rw [er] at hr e
        have hr' : atM S0 K S12 r.1 r.2.1 := hr
        have := hi _ _ _ er
        refine ih S12 (Or.inr ⟨r.1, r.2.1, _, hr', e⟩) ?_
        rw [muM_at tk.1 hr', muM_at tk.1 hat]
        have := hr'.2.2.2.2.1
        have := tk.1.1
        omega
    · rw [if_neg (fun q => ea ((hio _).mp q))] at e
      rw [← e]; exact hat
theorem a_loop1N {S0 : Ob} {K : TkT} (ok : okK K) {x : Int32} {NX : Ob → (Ob → Prop) → Prop} {S1 : Ob} {f : Nat} (h1 : fltM S0 K S1 f) {Q : Ob → Prop} (hq : Q S1) :
    ∃ n, wl1 (fun L4 (S3 : Ob) => wM_takes0 S3 x (fun (r5 : Int32) (S6 : Ob) => ((r5 = 0 → Q S6) ∧ (¬ r5 = 0 → NX S6 (fun (S8 : Ob) => L4 S8))))) n S1 := by
  refine wl1_i (fun S => S = S1) (fun _ => 0) ?_ S1 rfl
  rintro L S rfl ih
  exact m_takesN ok h1 (br_y rfl hq)
