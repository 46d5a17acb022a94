/-! ===== texts of laws: both read one from its tokens ===== -/
def lawC (L : Lw) (Λ : List ClT) : Prop := L.1 0 = Λ.length ∧ L.1 1 = Λ.length ∧ Λ.length ≤ 12 ∧ ∃ len, len ≤ 424 ∧ L.1 2 = len ∧ L.1 3 = len ∧ rcS (L.2 0) (L.2 1) (L.2 2) (L.2 3) len Λ
theorem rcS_cg {kd en st ag kd2 en2 st2 ag2 : Nat → Int32} {len : Nat} {Λ : List ClT} (h : rcS kd en st ag len Λ) (hk : ∀ j, j < Λ.length → kd2 j = kd j ∧ en2 j = en j) (hc : ∀ i, i < len → st2 i = st i ∧ ag2 i = ag i) : rcS kd2 en2 st2 ag2 len Λ := by
  obtain ⟨E, e0, e1, e2, e3⟩ := h
  refine ⟨E, e0, e1, e2, fun j cl hj => ?_⟩
  have hjl : j < Λ.length := by
    rcases Nat.lt_or_ge j Λ.length with q | q
    · exact q
    · rw [List.getElem?_eq_none q] at hj; exact absurd hj (by simp)
  have := e2 j hjl
  exact clR_cg (e3 j cl hj) (hk j hjl).1 (hk j hjl).2 rfl rfl (fun i hi => hc i (by omega))
theorem mMore_n {K : TkT} {f q lv : Nat} {acc : List ClT} (h : kC K q ≠ 159) : mMore K f q lv acc = if q = kN K then .inr acc else .inl q := by
  cases f with
  | zero => rw [mMore, if_neg h]
  | succ f => rw [mMore, if_neg h]
theorem mMore_0 {K : TkT} {q lv : Nat} {acc : List ClT} (h : kC K q = 159) : mMore K 0 q lv acc = .inl (q + 1) := by rw [mMore, if_pos h]
theorem mMore_s {K : TkT} {f q lv : Nat} {acc : List ClT} (h : kC K q = 159) : mMore K (f + 1) q lv acc = Sum.elim .inl (fun r => mMore K f r.1 r.2.1 (acc ++ [r.2.2])) (mClause (kC K) (kV K) (q + 1) lv) := by rw [mMore, if_pos h]
set_option maxHeartbeats 1000000 in
theorem b_readL {K : TkT} {kk : Nat → Nat} {S7 : Ob} (h : lwI K kk S7 0 0 0 []) {Q : Option Lw → Ob → Prop} (hq1 : ∀ Λ, mLaw K = .inr Λ → ∀ L S16, lawC L Λ → S16.1 11 = -1 → Q (some L) S16) (hq2 : ∀ f, mLaw K = .inl f → f ≤ kN K → ∀ S16 : Ob, S16.1 11 = nI (kP K f) → Q none S16) :
    ∃ n, wl3 (fun L11 (x4_8 : Int32) (x3_9 : Int32) (S10 : Ob) => jn (fun (z12 : Unit) => w_X4_next S10 (fun (r14 : Int32) => jn (fun (S16 : Ob) => (((S16.1 11) = (-1) → ∃ j1 j2 : Nat, S16.1 6 = nI j1 ∧ j1 ≤ 12 ∧ S16.1 9 = nI j2 ∧ j2 ≤ 424 ∧ ∀ L : Lw, L.1 0 = j1 → L.1 1 = j1 → L.1 2 = j2 → L.1 3 = j2 → (∀ i, i < j1 → L.2 0 i = S16.2 4 i) → (∀ i, i < j1 → L.2 1 i = S16.2 5 i) → (∀ i, i < j2 → L.2 2 i = S16.2 7 i) → (∀ i, i < j2 → L.2 3 i = S16.2 8 i) → Q (some L) S16) ∧ (¬ (S16.1 11) = (-1) → Q none S16))) (fun J17 => ((r14 = 283 → J17 S10) ∧ (¬ r14 = 283 → w_X4_stop S10 (fun (S19 : Ob) => J17 S19)))))) (fun J13 => ((12 < x4_8 → J13 ()) ∧ (¬ 12 < x4_8 → ((x3_9 = 0 → J13 ()) ∧ (¬ x3_9 = 0 → w_X4_clause S10 (fun (S22 : Ob) => w_X4_takes S22 59 (fun (r24 : Int32) (S25 : Ob) => ∀ v27 : Int32, v27 = x4_8 + 1 → L11 v27 r24 S25)))))))) n 0 1 S7 := by
  have ok := h.1.1
  refine wl3_i (fun x4 x3 S10 => (∃ p lv len Λ, x4 = nI Λ.length ∧ x3 = 1 ∧ lwI K kk S10 p lv len Λ ∧ mLaw K = if Λ.length = 12 then .inl p else Sum.elim .inl (fun r => mMore K (11 - Λ.length) r.1 r.2.1 (Λ ++ [r.2.2])) (mClause (kC K) (kV K) p lv)) ∨ (∃ i, i ≤ 13 ∧ x4 = nI i ∧ x3 = 0 ∧ ((∃ f, fltL K S10 f ∧ mLaw K = .inl f) ∨ ∃ p lv len Λ, lwI K kk S10 p lv len Λ ∧ mLaw K = if p = kN K then .inr Λ else .inl p)))
    (fun x4 x3 _ => if x3 = 0 then 0 else 14 - x4.toNatClampNeg) ?_ _ _ _ (Or.inl ⟨0, 0, 0, [], rfl, rfl, h, ?_⟩)
  · rintro L x4 x3 S10 hI ih
    rcases hI with ⟨p, lv, len, Λ, rfl, rfl, hl, er⟩ | ⟨i, hi, rfl, rfl, hE⟩
    · have hL12 := hl.2.2.2.2.2.2.2.2.2.1
      rw [jn_d]
      refine br_n (fun q => by have := (nI_ltI (a := 12) (by decide) (by omega)).mp q; omega) (br_n (by decide) (b_clause hl (fun e12 S22 hf => ?_) (fun e12 S22 h22 => ?_)))
      · rw [if_pos e12] at er
        refine c_takesF ok hf ?_
        rintro v rfl
        rw [nI_1]
        exact ih _ _ _ (Or.inr ⟨Λ.length + 1, by omega, rfl, rfl, Or.inl ⟨p, hf, er⟩⟩) (by rw [if_pos rfl, if_neg (by decide), nI_clamp (by omega)]; omega)
      · rw [if_neg (by omega)] at er
        cases ec : mClause (kC K) (kV K) p lv with
        | inl f =>
          rw [ec] at h22 er
          refine c_takesF (SR0 := S22) ok h22 ?_
          rintro v rfl
          rw [nI_1]
          exact ih _ _ _ (Or.inr ⟨Λ.length + 1, by omega, rfl, rfl, Or.inl ⟨f, h22, er⟩⟩) (by rw [if_pos rfl, if_neg (by decide), nI_clamp (by omega)]; omega)
        | inr r =>
          rw [ec, Sum.elim_inr] at h22
          rw [ec, Sum.elim_inr] at er
          obtain ⟨len', h22⟩ := h22
          obtain ⟨tk, a3, a10, a11, a9, a6, an, al, alen, aL, arc⟩ := id h22
          have hat : atC S22 K S22 r.1 r.2.1 len' := ⟨bS_rf, a3, a10, a11, a9, an, al, by omega⟩
          obtain ⟨-, -, hcm, -⟩ := tk.2.1 r.1 an
          have hlen1 : (Λ ++ [r.2.2]).length = Λ.length + 1 := by rw [List.length_append, List.length_singleton]
          refine c_takes tk hat (k := 59) (by decide) (fun e59 h' => ?_) (fun e59 => ?_)
          · have hc : kC K r.1 = 159 := by rw [← hcm]; exact (cm_sign (k := 59) (by decide)).mpr e59
            rintro v rfl
            rw [nI_1]
            refine ih _ _ _ (Or.inl ⟨r.1 + 1, r.2.1, len', Λ ++ [r.2.2], by rw [hlen1], rfl, ?_, ?_⟩) (by rw [if_neg (by decide), if_neg (by decide), nI_clamp (by omega), nI_clamp (by omega)]; omega)
            · obtain ⟨b0, b3, b10, b11, b9, bn, bl, blen⟩ := h'
              exact ⟨tkC_cg tk b0, b3, b10, b11, b9, a6, bn, bl, by omega, aL, arc⟩
            · rw [er, hlen1]
              rcases Nat.lt_or_ge Λ.length 11 with q | q
              · rw [if_neg (by omega), show 11 - Λ.length = (11 - (Λ.length + 1)) + 1 by omega, mMore_s hc]
              · rw [if_pos (by omega), show 11 - Λ.length = 0 by omega, mMore_0 hc]
          · have hc : kC K r.1 ≠ 159 := fun q => e59 ((cm_sign (k := 59) (by decide)).mp (by rw [hcm]; exact q))
            rintro v rfl
            rw [nI_1]
            refine ih _ _ _ (Or.inr ⟨Λ.length + 1, by omega, rfl, rfl, Or.inr ⟨r.1, r.2.1, len', Λ ++ [r.2.2], h22, ?_⟩⟩) (by rw [if_pos rfl, if_neg (by decide), nI_clamp (by omega)]; omega)
            rw [er, mMore_n hc]
    · rw [jn_d]
      have fin : w_X4_next S10 (fun (r14 : Int32) => jn (fun (S16 : Ob) => (((S16.1 11) = (-1) → ∃ j1 j2 : Nat, S16.1 6 = nI j1 ∧ j1 ≤ 12 ∧ S16.1 9 = nI j2 ∧ j2 ≤ 424 ∧ ∀ L : Lw, L.1 0 = j1 → L.1 1 = j1 → L.1 2 = j2 → L.1 3 = j2 → (∀ i, i < j1 → L.2 0 i = S16.2 4 i) → (∀ i, i < j1 → L.2 1 i = S16.2 5 i) → (∀ i, i < j2 → L.2 2 i = S16.2 7 i) → (∀ i, i < j2 → L.2 3 i = S16.2 8 i) → Q (some L) S16) ∧ (¬ (S16.1 11) = (-1) → Q none S16))) (fun J17 => ((r14 = 283 → J17 S10) ∧ (¬ r14 = 283 → w_X4_stop S10 (fun (S19 : Ob) => J17 S19))))) := by
        rcases hE with ⟨f, hf, er⟩ | ⟨p, lv, len, Λ, hl, er⟩
        · refine c_nextF hf (fun x => ?_)
          have hno : ¬ S10.1 11 = -1 := by rw [hf.2.1]; exact fl_ne ok f
          have hend : (S10.1 11 = -1 → ∃ j1 j2 : Nat, S10.1 6 = nI j1 ∧ j1 ≤ 12 ∧ S10.1 9 = nI j2 ∧ j2 ≤ 424 ∧ ∀ L : Lw, L.1 0 = j1 → L.1 1 = j1 → L.1 2 = j2 → L.1 3 = j2 → (∀ i, i < j1 → L.2 0 i = S10.2 4 i) → (∀ i, i < j1 → L.2 1 i = S10.2 5 i) → (∀ i, i < j2 → L.2 2 i = S10.2 7 i) → (∀ i, i < j2 → L.2 3 i = S10.2 8 i) → Q (some L) S10) ∧ (¬ S10.1 11 = -1 → Q none S10) := br_n hno (hq2 f er hf.2.2.1 S10 hf.2.1)
          rw [jn_d]
          exact ⟨fun _ => hend, fun _ => c_stopF ok hf hend⟩
        · obtain ⟨tk, a3, a10, a11, a9, a6, an, al, alen, aL, arc⟩ := id hl
          have hat : atC S10 K S10 p lv len := ⟨bS_rf, a3, a10, a11, a9, an, al, by omega⟩
          obtain ⟨-, hk283, -, -⟩ := tk.2.1 p an
          have h400 := ok.1
          refine c_next tk hat ?_
          rw [jn_d]
          refine eq_b (kk p) 283 (by omega) (by decide) (fun e => ?_) (fun e => c_stop tk hat (fun SR' hf => ?_))
          · have hpn : p = kN K := by
              rcases Nat.lt_or_ge p (kN K) with q | q
              · exact absurd e (tk.2.2.2.2 p q)
              · omega
            rw [if_pos hpn] at er
            refine br_y a11 ⟨Λ.length, len, a6, aL, a9, by omega, fun L l0 l1 l2 l3 k0 k1 k2 k3 => hq1 Λ er L S10 ⟨l0, l1, aL, len, by omega, l2, l3, ?_⟩ a11⟩
            exact rcS_cg arc (fun j hj => ⟨k0 j hj, k1 j hj⟩) (fun i hi => ⟨k2 i hi, k3 i hi⟩)
          · have hpn : p ≠ kN K := fun q => e (by rw [q]; exact tk.2.2.2.1)
            rw [if_neg hpn] at er
            exact br_n (by rw [hf.2.1]; exact fl_ne ok p) (hq2 p er an SR' hf.2.1)
      refine ⟨fun _ => fin, fun _ => br_y rfl fin⟩
  · show mLaw K = if 0 = 12 then _ else _
    rw [if_neg (by decide)]
    rfl
/-! the reference -/
def smR (S0 S : Ob) : Prop := S.2 = S0.2 ∧ ∀ k, k ≠ 11 → k ≠ 16 → k ≠ 17 → k ≠ 18 → S.1 k = S0.1 k
set_option maxHeartbeats 1000000 in
theorem a_readsL {S0 : Ob} {K : TkT} (tk : tkM S0 K) (h15 : S0.1 15 = nI (kN K)) {S6 : Ob} (h : atM S0 K S6 0 0) {Q : Int32 → Ob → Prop} (hq1 : ∀ Λ, mLaw K = .inr Λ → ∀ S21, smR S0 S21 → S21.1 11 = -1 → Q 1 S21) (hq2 : ∀ f, mLaw K = .inl f → ∀ S21, smR S0 S21 → S21.1 11 = nI (kP K f) → Q 0 S21) :
    wM_readClause S6 (fun (S7 : Ob) => ∃ n, wl2 (fun L11 (x1_9 : Int32) (S10 : Ob) => wM_sign 59 (fun (r12 : Int32) => wM_takes0 S10 r12 (fun (r14 : Int32) (S15 : Ob) => ((r14 = 0 → wM_fine S15 (fun (r17 : Int32) => jn (fun (S19 : Ob) => ∀ S21 : Ob, S21 = uS S19 11 (S19.1 18) → wM_fine S21 (fun (r22 : Int32) => narrow .boolean (.int r22) = .int r22 ∧ Q r22 S21)) (fun J20 => ((r17 = 0 → J20 S15) ∧ (¬ r17 = 0 → (((S15.1 15) ≤ (S15.1 16) → J20 S15) ∧ (¬ (S15.1 15) ≤ (S15.1 16) → wM_faults S15 (fun (S24 : Ob) => J20 S24)))))))) ∧ (¬ r14 = 0 → jn (fun (S28 : Ob) => wM_fine S28 (fun (r30 : Int32) => ((r30 = 0 → ∀ v32 : Int32, v32 = x1_9 + 1 → L11 v32 S28) ∧ (¬ r30 = 0 → wM_readClause S28 (fun (S33 : Ob) => ∀ v35 : Int32, v35 = x1_9 + 1 → L11 v35 S33))))) (fun J29 => ((¬ x1_9 = 12 → J29 S15) ∧ (x1_9 = 12 → wM_faults S15 (fun (S37 : Ob) => J29 S37))))))))) n 1 S7) := by
  have ok := tk.1
  have h400 := ok.1
  have smu : ∀ {S : Ob}, smM S0 S → smR S0 (uS S 11 (S.1 18)) := fun hs => ⟨hs.1, fun k a b c d => by rw [uS_1, if_neg a]; exact hs.2 k b c d⟩
  refine a_clause tk h (fun S7 h7 => ?_)
  refine wl2_i (fun x S10 => ∃ i, 1 ≤ i ∧ i ≤ 13 ∧ x = nI i ∧ ((∃ f, fltM S0 K S10 f ∧ mLaw K = .inl f) ∨ ∃ q lv Λ, atM S0 K S10 q lv ∧ i ≤ 12 ∧ mLaw K = mMore K (12 - i) q lv Λ)) (fun _ S10 => muM S10) ?_ _ _ ⟨1, by decide, by decide, rfl, ?_⟩
  · rintro L x S10 ⟨i, hi1, hi2, rfl, hI⟩ ih
    unfold wM_sign
    rw [show (100 + 59 : Int32) = nI 159 from by decide]
    rcases hI with ⟨f, hf, er⟩ | ⟨q, lv, Λ, hat, hi12, er⟩
    · refine m_takesN ok hf (br_y rfl (m_fineN ok hf ?_))
      rw [jn_d]
      refine br_y rfl ?_
      rintro S21 rfl
      have h11 : (uS S10 11 (S10.1 18)).1 11 = nI (kP K f) := hf.2.1
      have hf' : ¬ (uS S10 11 (S10.1 18)).1 18 = -1 := by
        show ¬ S10.1 18 = -1
        rw [hf.2.1]; exact fl_ne ok f
      unfold wM_fine
      exact rb_n hf' ⟨rfl, hq2 f er _ (smu hf.1) h11⟩
    · obtain ⟨hs, h16, h17, h18, hqn, hlv⟩ := id hat
      refine m_takes tk hat (k := 159) (by decide) (by decide) (fun e S15 h15' => br_n (by decide) ?_) (fun e => br_y rfl (m_fineY h18 ?_))
      · have hqlt : q + 1 ≤ kN K := h15'.2.2.2.2.1
        refine jn_g (fun J => (i ≠ 12 → J S15) ∧ (i = 12 → ∀ S', fltM S0 K S' (q + 1) → J S')) ⟨fun e12 => ?_, fun e12 S' hf => ?_⟩ (fun J hJ => qe_b i 12 (by omega) (by decide) (fun e12 => m_faults tk h15' (fun S' hf => hJ.2 e12 S' hf)) (fun e12 => hJ.1 e12))
        · refine m_fineY h15'.2.2.2.1 (br_n (by decide) (a_clause tk h15' (fun S33 h33 => ?_)))
          rintro v rfl
          rw [nI_1]
          rw [show 12 - i = (12 - (i + 1)) + 1 by omega, mMore_s e] at er
          cases ec : mClause (kC K) (kV K) (q + 1) lv with
          | inl f =>
            rw [ec] at h33 er
            exact ih _ _ ⟨i + 1, by omega, by omega, rfl, Or.inl ⟨f, h33, er⟩⟩ (by rw [muM_f ok h33, muM_at ok hat]; omega)
          | inr r =>
            rw [ec] at h33 er
            have h33' : atM S0 K S33 r.1 r.2.1 := h33
            have := inc_clause ec
            exact ih _ _ ⟨i + 1, by omega, by omega, rfl, Or.inr ⟨r.1, r.2.1, _, h33', by omega, er⟩⟩ (by rw [muM_at ok h33', muM_at ok hat]; have := h33'.2.2.2.2.1; omega)
        · refine m_fineN ok hf (br_y rfl ?_)
          rintro v rfl
          rw [nI_1]
          rw [e12, show 12 - 12 = 0 from rfl, mMore_0 e] at er
          exact ih _ _ ⟨i + 1, by omega, by omega, rfl, Or.inl ⟨q + 1, hf, er⟩⟩ (by rw [muM_f ok hf, muM_at ok hat]; omega)
      · rw [mMore_n e] at er
        have e15 : S10.1 15 = nI (kN K) := by rw [hs.2 15 (by decide) (by decide) (by decide)]; exact h15
        rw [jn_d, e15, h16]
        refine br_n (by decide) (le_b _ _ (by omega) (by omega) (fun c => ?_) (fun c => m_faults tk hat (fun S24 hf => ?_)))
        · rintro S21 rfl
          rw [if_pos (by omega)] at er
          have h18' : (uS S10 11 (S10.1 18)).1 18 = -1 := h18
          refine m_fineY h18' ⟨rfl, hq1 Λ er _ (smu hs) h18⟩
        · rintro S21 rfl
          rw [if_neg (by omega)] at er
          have h11 : (uS S24 11 (S24.1 18)).1 11 = nI (kP K q) := hf.2.1
          have hf' : ¬ (uS S24 11 (S24.1 18)).1 18 = -1 := by
            show ¬ S24.1 18 = -1
            rw [hf.2.1]; exact fl_ne ok q
          unfold wM_fine
          exact rb_n hf' ⟨rfl, hq2 q er _ (smu hf.1) h11⟩
  · unfold mLaw
    cases ec : mClause (kC K) (kV K) 0 0 with
    | inl f =>
      rw [ec] at h7
      exact Or.inl ⟨f, h7, rfl⟩
    | inr r =>
      rw [ec] at h7
      exact Or.inr ⟨r.1, r.2.1, [r.2.2], h7, by decide, rfl⟩
