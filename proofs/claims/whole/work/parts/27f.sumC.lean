/-! ===== texts of laws: the class's parser, sums ===== -/
theorem op_mul {k : Nat} (h : k = 142 ∨ k = 147) (D E : Den) : dO2 (xop (nI (k - 100))) D E = cbMul k D E := by
  unfold cbMul
  congr 1
  rcases h with rfl | rfl
  · rfl
  · rfl
theorem op_add {k : Nat} (h : k = 143 ∨ k = 145) (D E : Den) : dO2 (xop (nI (k - 100))) D E = cbAdd k D E := by
  unfold cbAdd
  congr 1
  rcases h with rfl | rfl
  · rfl
  · rfl
theorem op_ok {k : Nat} (h : k = 142 ∨ k = 147 ∨ k = 143 ∨ k = 145 ∨ k = 160 ∨ k = 162 ∨ k = 161) : nI (k - 100) ≠ 281 ∧ nI (k - 100) ≠ 282 ∧ nI (k - 100) ≠ 261 ∧ nI (k - 100) ≠ 260 ∧ nI (k - 100) ≠ 262 := by
  rcases h with rfl | rfl | rfl | rfl | rfl | rfl | rfl <;> decide
def muC (SR : Ob) : Nat := if SR.1 11 = -1 then 402 - (SR.1 3).toNatClampNeg else 0
theorem muC_at {SR0 : Ob} {K : TkT} (ok : okK K) {SR : Ob} {p lv len : Nat} (h : atC SR0 K SR p lv len) : muC SR = 402 - p := by
  have := ok.1
  have := h.2.2.2.2.2.1
  rw [muC, if_pos h.2.2.2.1, h.2.1, nI_clamp (by omega)]
theorem muC_f {SR0 : Ob} {K : TkT} (ok : okK K) {SR : Ob} {f : Nat} (h : fltC SR0 K SR f) : muC SR = 0 := by
  rw [muC, if_neg (by rw [h.2.1]; exact fl_ne ok f)]
def sumI (SR0 : Ob) (K : TkT) (SR1 : Ob) (p lv len : Nat) (lpA lpM : Nat → Nat → Den → PrT) (res : PrT) (i : Nat) (x2 : Int32) (SR : Ob) : Prop :=
  (∃ f, fltC SR0 K SR f ∧ res = .inl f) ∨ ∃ q lv' len', atC SR0 K SR q lv' len' ∧ preC SR1 SR len ∧ lv ≤ lv' ∧ i ≤ q ∧ ((x2 = -1 ∧ ∃ Dc, len' + p ≤ len + q ∧ Seg (SR.2 7) (SR.2 8) len len' Dc (lv' - lv) ∧ res = Sum.elim .inl (fun r => lpA r.1 r.2.1 r.2.2) (lpM q lv' Dc)) ∨ ∃ k m Da Dc l1 l2, (k = 143 ∨ k = 145) ∧ x2 = nI (k - 100) ∧ len' + 1 + p ≤ len + q ∧ Seg (SR.2 7) (SR.2 8) len m Da l1 ∧ Seg (SR.2 7) (SR.2 8) m len' Dc l2 ∧ lv' = lv + (l1 + l2) ∧ res = Sum.elim .inl (fun r => lpA r.1 r.2.1 (cbAdd k Da r.2.2)) (lpM q lv' Dc))
set_option maxHeartbeats 2000000 in
theorem b_sum {SR0 : Ob} {K : TkT} {kk : Nat → Nat} (tk : tkC SR0 K kk) : ∀ d deep (SR : Ob) p lv len, deep ≤ 8 → 9 ≤ d + deep → atC SR0 K SR p lv len → rdB SR0 K SR p lv len (w_X4_sum d SR (nI deep)) (mSum (kC K) (kV K) d deep p lv) := by
  intro d
  induction d with
  | zero => intro deep SR p lv len h1 h2; omega
  | succ d ihd =>
    intro deep SR p lv len hd8 hd9 h
    intro Q hq
    have h400 := tk.1.1
    rw [mSum_s] at hq
    have hr : incP (mSum (kC K) (kV K) d (deep + 1)) := fun p lv r h => by have := inc_sum d (deep + 1) p lv r h; omega
    have hrec : deep < 8 → ∀ SR p lv len, atC SR0 K SR p lv len → rdB SR0 K SR p lv len (w_X4_sum d SR (nI (deep + 1))) (mSum (kC K) (kV K) d (deep + 1) p lv) := fun hd SR p lv len h => ihd (deep + 1) SR p lv len hd (by omega) h
    have hpart := fun SR p lv len h => b_part tk hd8 hr hrec SR p lv len h
    have hip : incP (mPart (kC K) (kV K) (mSum (kC K) (kV K) d) deep) := fun p lv r h => by have := inc_part hr p lv r h; omega
    have hit : incP (mTerm (kC K) (kV K) (mSum (kC K) (kV K) d) deep) := fun p lv r h => by have := inc_term hr p lv r h; omega
    have hzm := okK_z tk.1 (io := ioMul) (by decide)
    have hza := okK_z tk.1 (io := ioAdd) (by decide)
    show w_X4_part (w_X4_sum d) SR (nI deep) _
    refine hpart SR p lv len h _ (fun S1 h1 => ?_)
    generalize hres : (Sum.elim Sum.inl (fun r => lp (kC K) ioAdd cbAdd (mTerm (kC K) (kV K) (mSum (kC K) (kV K) d) deep) 401 r.1 r.2.1 r.2.2) (mTerm (kC K) (kV K) (mSum (kC K) (kV K) d) deep p lv) : PrT) = res at hq
    generalize hlpA : lp (kC K) ioAdd cbAdd (mTerm (kC K) (kV K) (mSum (kC K) (kV K) d) deep) 401 = lpA at hres
    have sA : ∀ q lv D, lpA q lv D = if ioAdd (kC K q) = true then Sum.elim .inl (fun r => lpA r.1 r.2.1 (cbAdd (kC K q) D r.2.2)) (mTerm (kC K) (kV K) (mSum (kC K) (kV K) d) deep (q + 1) lv) else .inr (q, lv, D) := fun q lv D => by rw [← hlpA]; exact lp_s hza hit q lv D
    have hmt : ∀ p lv, mTerm (kC K) (kV K) (mSum (kC K) (kV K) d) deep p lv = Sum.elim .inl (fun r => lp (kC K) ioMul cbMul (mPart (kC K) (kV K) (mSum (kC K) (kV K) d) deep) 401 r.1 r.2.1 r.2.2) (mPart (kC K) (kV K) (mSum (kC K) (kV K) d) deep p lv) := fun p lv => rfl
    have sM : ∀ q lv D, lp (kC K) ioMul cbMul (mPart (kC K) (kV K) (mSum (kC K) (kV K) d) deep) 401 q lv D = if ioMul (kC K q) = true then Sum.elim .inl (fun r => lp (kC K) ioMul cbMul (mPart (kC K) (kV K) (mSum (kC K) (kV K) d) deep) 401 r.1 r.2.1 (cbMul (kC K q) D r.2.2)) (mPart (kC K) (kV K) (mSum (kC K) (kV K) d) deep (q + 1) lv) else .inr (q, lv, D) := fun q lv D => lp_s hzm hip q lv D
    generalize lp (kC K) ioMul cbMul (mPart (kC K) (kV K) (mSum (kC K) (kV K) d) deep) 401 = lpM at sM hmt
    have hinc := fun p lv r h => inc_part (c := kC K) (w := kV K) hr p lv r h
    generalize mPart (kC K) (kV K) (mSum (kC K) (kV K) d) deep = mP' at hpart hmt sM hip h1 hinc
    rw [hmt] at hres
    simp only [hmt] at sA
    -- the loop
    refine wl3_i (fun x3 x2 S5 => ∃ i, i ≤ 401 ∧ x3 = nI i ∧ sumI SR0 K SR p lv len lpA lpM res i x2 S5) (fun _ _ S5 => muC S5) ?_ _ _ _ ⟨0, by omega, rfl, ?_⟩
    · rintro L x3 x2 S5 ⟨i, hi, rfl, hI⟩ ih
      rcases hI with ⟨f, hf, er⟩ | ⟨q, lv', len', hat, hpre, hlv, hiq, hW⟩
      · have fin : (x2 = -1 → Q S5) ∧ (¬ x2 = -1 → w_X4_step S5 x2 0 (fun S9 => Q S9)) := ⟨fun _ => hq S5 (by rw [er]; exact hf), fun _ => c_stepF hf (fun SR' hf' => hq SR' (by rw [er]; exact hf'))⟩
        rw [jn_d]
        refine ⟨fun _ => fin, fun _ => ⟨fun _ => fin, fun q => ?_⟩⟩
        rw [hf.2.1] at q
        exact absurd q (fl_ne tk.1 f)
      · obtain ⟨hs, h3, h10, h11, h9, hqn, hlv50, hlen'⟩ := id hat
        obtain ⟨-, hk283, hcm, -⟩ := tk.2.1 q hqn
        -- the end
        have hb00 := h.2.2.2.2.2.2.2
        have fin : ioMul (kC K q) = false → ioAdd (kC K q) = false → (x2 = -1 → Q S5) ∧ (¬ x2 = -1 → w_X4_step S5 x2 0 (fun S9 => Q S9)) := by
          intro g1 g2
          rcases hW with ⟨rfl, Dc, b1, b2, b3⟩ | ⟨k, m, Da, Dc, l1, l2, hk, rfl, b1, b2, b3, b4, b5⟩
          · rw [sM, if_neg (by rw [g1]; decide), Sum.elim_inr, sA, if_neg (by rw [g2]; decide)] at b3
            refine ⟨fun _ => hq S5 ?_, fun q => absurd rfl q⟩
            rw [b3]
            exact ⟨len', hat, hpre, hlv, b1, b2⟩
          · rw [sM, if_neg (by rw [g1]; decide), Sum.elim_inr, sA, if_neg (by rw [g2]; decide)] at b5
            refine ⟨fun q => absurd q (nI_m1 (by omega)), fun _ => c_step h9 (by omega) (hq _ ?_)⟩
            rw [b5]
            have c1 : ∀ j, len ≤ j → j < m → (stO S5 len' (nI (k - 100)) 0).2 7 j = S5.2 7 j ∧ (stO S5 len' (nI (k - 100)) 0).2 8 j = S5.2 8 j := fun j _ hj => stO_pre S5 len' _ _ j (by have := b3.1; omega)
            have c2 : ∀ j, m ≤ j → j < len' → (stO S5 len' (nI (k - 100)) 0).2 7 j = S5.2 7 j ∧ (stO S5 len' (nI (k - 100)) 0).2 8 j = S5.2 8 j := fun j _ hj => stO_pre S5 len' _ _ j hj
            have hsg := seg_bin (b2.cg c1) (b3.cg c2) (op := nI (k - 100)) (by rw [stO_7, if_pos rfl]) (op_ok (by omega))
            rw [op_add hk] at hsg
            have hml := b2.1
            have hml2 := b3.1
            refine ⟨len' + 1, stO_at hat (by omega) _ _, hpre.tr (stO_pre S5 len' _ _) (by omega), hlv, by omega, ?_⟩
            show Seg _ _ len (len' + 1) (cbAdd k Da Dc) (lv' - lv)
            rw [show lv' - lv = l1 + l2 by omega]
            exact hsg
        have hsg : ∀ x, x < 256 → (kk q = x ↔ kC K q = 100 + x) := fun x hx => by rw [← hcm]; exact (cm_sign hx).symm
        have mul : (kC K q = 142 ∨ kC K q = 147) → ∀ S16 : Ob, S16 = uS S5 3 (S5.1 3 + 1) → w_X4_part (w_X4_sum d) S16 (nI deep) (fun S17 => w_X4_step S17 (nI (kk q)) 0 (fun S19 => ∀ v21 : Int32, v21 = nI i + 1 → L v21 x2 S19)) := by
          rintro hop S16 rfl
          have hlt : q < kN K := okK_i tk.1 (by omega)
          have hkk : nI (kk q) = nI (kC K q - 100) := by
            have := (cm_sign (x := kk q) (k := kC K q - 100) (by omega)).mp (by rw [hcm]; omega)
            rw [this]
          have hio : ioMul (kC K q) = true := by unfold ioMul; exact decide_eq_true hop
          have hi4 : i < 401 := by omega
          refine hpart _ _ _ _ (at_up hat hlt) _ (fun S17 h17 => ?_)
          cases ep : mP' (q + 1) lv' with
          | inl f =>
            rw [ep] at h17
            refine c_stepF h17 (fun S19 hf => ?_)
            rintro v rfl
            rw [nI_1]
            refine ih _ _ _ ⟨i + 1, by omega, rfl, Or.inl ⟨f, hf, ?_⟩⟩ (by rw [muC_f tk.1 hf, muC_at tk.1 hat]; omega)
            rcases hW with ⟨-, Dc, b1, b2, b3⟩ | ⟨k, m, Da, Dc, l1, l2, hk, -, b1, b2, b3, b4, b5⟩
            · rw [sM, if_pos hio, ep] at b3; exact b3
            · rw [sM, if_pos hio, ep] at b5; exact b5
          | inr r =>
            rw [ep, rsB, Sum.elim_inr] at h17
            obtain ⟨len2, a1, a2, a3, a4, a5⟩ := h17
            have hq1 := hinc _ _ _ ep
            have a1n := a1.2.2.2.2.2.1
            have a1l := a1.2.2.2.2.2.2.2
            have hl2 := a5.1
            refine c_step a1.2.2.2.2.1 (by rcases hW with ⟨-, Dc, b1, -⟩ | ⟨k, m, Da, Dc, l1, l2, hk, -, b1, -⟩ <;> (have hb0 := h.2.2.2.2.2.2.2; omega)) ?_
            rintro v rfl
            rw [nI_1, hkk]
            have hb0 := h.2.2.2.2.2.2.2
            have hat2 : len2 + 1 ≤ r.1 + 24 := by rcases hW with ⟨-, Dc, b1, -⟩ | ⟨k, m, Da, Dc, l1, l2, hk, -, b1, -⟩ <;> omega
            have pre2 : preC S5 S17 len' := a2
            have prest : preC S5 (stO S17 len2 (nI (kC K q - 100)) 0) len' := pre2.tr (stO_pre S17 len2 _ _) hl2
            have segP : Seg ((stO S17 len2 (nI (kC K q - 100)) 0).2 7) ((stO S17 len2 (nI (kC K q - 100)) 0).2 8) len' len2 r.2.2 (r.2.1 - lv') := a5.cg (fun j _ hj => stO_pre S17 len2 _ _ j hj)
            have opst : (stO S17 len2 (nI (kC K q - 100)) 0).2 7 len2 = nI (kC K q - 100) := by rw [stO_7, if_pos rfl]
            have hmu : muC (stO S17 len2 (nI (kC K q - 100)) 0) < muC S5 := by
              rw [muC_at tk.1 (stO_at a1 hat2 _ _), muC_at tk.1 hat]
              omega
            refine ih _ _ _ ⟨i + 1, by omega, rfl, Or.inr ⟨r.1, r.2.1, len2 + 1, stO_at a1 hat2 _ _, hpre.tr prest (by rcases hW with ⟨-, Dc, -, b2, -⟩ | ⟨k, m, Da, Dc, l1, l2, hk, -, b1, b2, b3, -⟩; exact b2.1; have := b2.1; have := b3.1; omega), by omega, by omega, ?_⟩⟩ hmu
            rcases hW with ⟨rfl, Dc, b1, b2, b3⟩ | ⟨k, m, Da, Dc, l1, l2, hk, rfl, b1, b2, b3, b4, b5⟩
            · refine Or.inl ⟨rfl, cbMul (kC K q) Dc r.2.2, by omega, ?_, ?_⟩
              · have := seg_bin (b2.cg (fun j _ hj => prest j hj)) segP opst (op_ok (by omega))
                rw [op_mul hop] at this
                rw [show r.2.1 - lv = (lv' - lv) + (r.2.1 - lv') by omega]
                exact this
              · rw [sM, if_pos hio, ep] at b3; exact b3
            · refine Or.inr ⟨k, m, Da, cbMul (kC K q) Dc r.2.2, l1, l2 + (r.2.1 - lv'), hk, rfl, by omega, b2.cg (fun j _ hj => prest j (by have := b3.1; omega)), ?_, by omega, ?_⟩
              · have := seg_bin (b3.cg (fun j _ hj => prest j hj)) segP opst (op_ok (by omega))
                rw [op_mul hop] at this
                exact this
              · rw [sM, if_pos hio, ep] at b5; exact b5
        have add : (kC K q = 143 ∨ kC K q = 145) → ∀ (S24 : Ob) (len2 : Nat) (Da : Den), atC SR0 K S24 q lv' len2 → preC SR S24 len → len ≤ len2 → len2 + p ≤ len + q → Seg (S24.2 7) (S24.2 8) len len2 Da (lv' - lv) → res = Sum.elim .inl (fun r => lpA r.1 r.2.1 (cbAdd (kC K q) Da r.2.2)) (Sum.elim .inl (fun r => lpM r.1 r.2.1 r.2.2) (mP' (q + 1) lv')) → muC S24 = muC S5 → ∀ S26 : Ob, S26 = uS S24 3 (S24.1 3 + 1) → w_X4_part (w_X4_sum d) S26 (nI deep) (fun S27 => ∀ v29 : Int32, v29 = nI i + 1 → L v29 (nI (kk q)) S27) := by
          rintro hop S24 len2 Da at24 pre24 hl2 hsl seg24 er24 hmu S26 rfl
          have hlt : q < kN K := okK_i tk.1 (by omega)
          have hkk : nI (kk q) = nI (kC K q - 100) := by
            have := (cm_sign (x := kk q) (k := kC K q - 100) (by omega)).mp (by rw [hcm]; omega)
            rw [this]
          refine hpart _ _ _ _ (at_up at24 hlt) _ (fun S27 h27 => ?_)
          rintro v rfl
          rw [nI_1, hkk]
          cases ep : mP' (q + 1) lv' with
          | inl f =>
            rw [ep] at h27 er24
            exact ih _ _ _ ⟨i + 1, by omega, rfl, Or.inl ⟨f, h27, er24⟩⟩ (by rw [muC_f tk.1 h27, muC_at tk.1 hat]; omega)
          | inr r =>
            rw [ep, rsB, Sum.elim_inr] at h27
            rw [ep] at er24
            obtain ⟨len3, a1, a2, a3, a4, a5⟩ := h27
            have hq1 := hinc _ _ _ ep
            have a1n := a1.2.2.2.2.2.1
            have pre2 : preC S24 S27 len2 := a2
            refine ih _ _ _ ⟨i + 1, by omega, rfl, Or.inr ⟨r.1, r.2.1, len3, a1, pre24.tr pre2 hl2, by omega, by omega, Or.inr ⟨kC K q, len2, Da, r.2.2, lv' - lv, r.2.1 - lv', hop, rfl, by omega, seg24.cg (fun j _ hj => pre2 j hj), a5, by omega, er24⟩⟩⟩ ?_
            rw [muC_at tk.1 a1, muC_at tk.1 hat]
            omega
        rw [jn_d]
        refine le_b 400 i (by decide) (by omega) (fun c => ?_) (fun c => rb_y h11 (c_next tk hat ?_))
        · have hz : kC K q = 0 := tk.1.2.1 q (by omega)
          exact fin (by rw [hz]; rfl) (by rw [hz]; rfl)
        · rw [jn_d]
          refine eq_b (kk q) 42 (by omega) (by decide) (fun e => mul (Or.inl ((hsg 42 (by decide)).mp e))) (fun e42 => qe_b (kk q) 47 (by omega) (by decide) (fun e => mul (Or.inr ((hsg 47 (by decide)).mp e))) (fun e47 => ?_))
          have g1 : ioMul (kC K q) = false := by
            unfold ioMul
            refine decide_eq_false (fun q' => q'.elim (fun a => e42 ((hsg 42 (by decide)).mpr a)) (fun a => e47 ((hsg 47 (by decide)).mpr a)))
          have adds : (kC K q = 143 ∨ kC K q = 145) → jn (fun (S24 : Ob) => ∀ S26 : Ob, S26 = uS S24 3 ((S24.1 3) + 1) → w_X4_part (w_X4_sum d) S26 (nI deep) (fun (S27 : Ob) => ∀ v29 : Int32, v29 = nI i + 1 → L v29 (nI (kk q)) S27)) (fun J25 => ((x2 = (-1) → J25 S5) ∧ (¬ x2 = (-1) → w_X4_step S5 x2 0 (fun (S30 : Ob) => J25 S30)))) := by
            intro hop
            have hio : ioAdd (kC K q) = true := by unfold ioAdd; exact decide_eq_true hop
            have hb0 := h.2.2.2.2.2.2.2
            rw [jn_d]
            rcases hW with ⟨rfl, Dc, b1, b2, b3⟩ | ⟨k, m, Da, Dc, l1, l2, hk, rfl, b1, b2, b3, b4, b5⟩
            · rw [sM, if_neg (by rw [g1]; decide), Sum.elim_inr, sA, if_pos hio] at b3
              exact ⟨fun _ => add hop S5 len' Dc hat hpre b2.1 b1 b2 b3 rfl, fun q' => absurd rfl q'⟩
            · rw [sM, if_neg (by rw [g1]; decide), Sum.elim_inr, sA, if_pos hio] at b5
              have hml := b2.1
              have hml2 := b3.1
              have c1 : ∀ j, len ≤ j → j < m → (stO S5 len' (nI (k - 100)) 0).2 7 j = S5.2 7 j ∧ (stO S5 len' (nI (k - 100)) 0).2 8 j = S5.2 8 j := fun j _ hj => stO_pre S5 len' _ _ j (by omega)
              have c2 : ∀ j, m ≤ j → j < len' → (stO S5 len' (nI (k - 100)) 0).2 7 j = S5.2 7 j ∧ (stO S5 len' (nI (k - 100)) 0).2 8 j = S5.2 8 j := fun j _ hj => stO_pre S5 len' _ _ j hj
              have hsg' := seg_bin (b2.cg c1) (b3.cg c2) (op := nI (k - 100)) (by rw [stO_7, if_pos rfl]) (op_ok (by omega))
              rw [op_add hk] at hsg'
              have at2 := stO_at hat (show len' + 1 ≤ q + 24 by omega) (nI (k - 100)) 0
              refine ⟨fun q' => absurd q' (nI_m1 (by omega)), fun _ => c_step h9 (by omega) (add hop _ (len' + 1) (cbAdd k Da Dc) at2 (hpre.tr (stO_pre S5 len' _ _) (by omega)) (by omega) (by omega) ?_ b5 (by rw [muC_at tk.1 at2, muC_at tk.1 hat]))⟩
              rw [show lv' - lv = l1 + l2 by omega]
              exact hsg'
          rw [jn_d]
          refine eq_b (kk q) 43 (by omega) (by decide) (fun e => adds (Or.inl ((hsg 43 (by decide)).mp e))) (fun e43 => qe_b (kk q) 45 (by omega) (by decide) (fun e => adds (Or.inr ((hsg 45 (by decide)).mp e))) (fun e45 => fin g1 ?_))
          unfold ioAdd
          exact decide_eq_false (fun q' => q'.elim (fun a => e43 ((hsg 43 (by decide)).mpr a)) (fun a => e45 ((hsg 45 (by decide)).mpr a)))
    · cases e : mP' p lv with
      | inl f =>
        rw [e] at h1 hres
        exact Or.inl ⟨f, h1, hres.symm⟩
      | inr r =>
        rw [e, rsB, Sum.elim_inr] at h1
        rw [e] at hres
        obtain ⟨len', a1, a2, a3, a4, a5⟩ := h1
        exact Or.inr ⟨r.1, r.2.1, len', a1, a2, a3, by omega, Or.inl ⟨rfl, r.2.2, a4, a5, hres.symm⟩⟩
